/-! the relation; small private methods of both sides; the pure steps of take, bring, change -/
def ma_pb (p : Nat → Bool) (j : Nat) (b : Bool) : Nat → Bool := fun i => if i = j then b else p i
theorem ma_pb_s {p : Nat → Bool} {j : Nat} {b : Bool} : ma_pb p j b j = b := if_pos rfl
theorem ma_pb_n {p : Nat → Bool} {i j : Nat} {b : Bool} (h : i ≠ j) : ma_pb p j b i = p i := if_neg h
def ma_X (pr : Nat → Bool) (mu ma wo : Nat → Nat) (w : Nat → Nat → Bool) (U : Nat → Bool) (pt op : Int32) (bW bM bY bV : Nat → Int32) : Prop :=
  (∀ j, j < 32 → bt pt j = (decide (j < 6) && pr j)) ∧ (∀ t, t < 24 → bt op t = U t) ∧ (∀ j, j < 6 → ∀ t, t < 24 → bt (bW j) t = w j t) ∧ (∀ j, j < 6 → bM j = nI (mu j)) ∧ (∀ j, j < 6 → bY j = nI (ma j)) ∧ (∀ j, j < 6 → bV j = nI (wo j))
/-- tasks, their numbers and windows, and the units that are not blocked, as both sides hold them; the musts fit -/
def i_Rel (_ : Nat) (u : SX) (v : SY) : Prop := match u, v with
  | (pt, op, bW, bM, bY, bV, _), (sh, _, aT, aF, aG, aM, aY, aW, _, _, _, _, _) =>
    ∃ (pr : Nat → Bool) (mu ma wo fr tw : Nat → Nat) (U : Nat → Bool), ma_P pr mu ma wo ∧ ma_X pr mu ma wo (ma_w pr fr tw) U pt op bW bM bY bV ∧ ma_Yt pr fr tw U sh aT aF aG ∧ ma_Yp pr mu ma wo aM aY aW ∧ (∀ t, 24 ≤ t → t < 32 → bt sh t = false) ∧ ma_fit (ma_w pr fr tw) U mu
section
variable {pt op : Int32} {bW bM bY bV bS : Nat → Int32} {sh ct : Int32} {aT aF aG aM aY aW aR aN aO aK aB : Nat → Int32} {pr : Nat → Bool} {mu ma wo fr tw : Nat → Nat} {U : Nat → Bool}
theorem ma_rel {k : Nat} (hP : ma_P pr mu ma wo) (hX : ma_X pr mu ma wo (ma_w pr fr tw) U pt op bW bM bY bV) (hY : ma_Yt pr fr tw U sh aT aF aG) (hW : ma_Yp pr mu ma wo aM aY aW) (hH : ∀ t, 24 ≤ t → t < 32 → bt sh t = false) (hf : ma_fit (ma_w pr fr tw) U mu) : i_Rel k (pt, op, bW, bM, bY, bV, bS) (sh, ct, aT, aF, aG, aM, aY, aW, aR, aN, aO, aK, aB) := by
  unfold i_Rel
  exact ⟨pr, mu, ma, wo, fr, tw, U, hP, hX, hY, hW, hH, hf⟩
theorem ma_un {k : Nat} (h : i_Rel k (pt, op, bW, bM, bY, bV, bS) (sh, ct, aT, aF, aG, aM, aY, aW, aR, aN, aO, aK, aB)) : ∃ (pr : Nat → Bool) (mu ma wo fr tw : Nat → Nat) (U : Nat → Bool), ma_P pr mu ma wo ∧ ma_X pr mu ma wo (ma_w pr fr tw) U pt op bW bM bY bV ∧ ma_Yt pr fr tw U sh aT aF aG ∧ ma_Yp pr mu ma wo aM aY aW ∧ (∀ t, 24 ≤ t → t < 32 → bt sh t = false) ∧ ma_fit (ma_w pr fr tw) U mu := h
theorem i_up {k : Nat} {u : SX} {v : SY} (h : i_Rel k u v) : i_Rel (k + 4) u v := h
theorem i_vc0 : wpX_init (fun u => wpY_init (fun v => i_Rel 0 u v)) := by
  unfold wpX_init wpY_init
  refine ma_rel (pr := fun _ => false) (mu := fun _ => 0) (ma := fun _ => 0) (wo := fun _ => 0) (fr := fun _ => 0) (tw := fun _ => 0) (U := fun _ => true) (fun j _ => ⟨fun h => absurd h Bool.false_ne_true, fun _ => ⟨rfl, rfl, rfl⟩⟩) ⟨fun j hj => ?_, fun t ht => ?_, fun j _ t _ => ?_, fun _ _ => rfl, fun _ _ => rfl, fun _ _ => rfl⟩ ⟨fun j _ => rfl, fun j _ h => absurd h Bool.false_ne_true, fun t _ => ?_⟩ (fun j _ h => absurd h Bool.false_ne_true) (fun t _ _ => b_0 t) (fun S _ => ?_)
  · rw [b_0, Bool.and_false]
  · rw [ma_b24 t (by omega), decide_eq_true ht]
  · rw [b_0]; rfl
  · rw [b_0]; rfl
  · rw [show ma_dem S (fun _ => 0) = 0 from (ma_sum_eq 6 fun j _ => by try dsimp only
                                                                       split <;> rfl).trans (ma_sum_zero 6)]
    exact Nat.zero_le _
/-! is it a task, is it a unit -/
def ma_tk (pr : Nat → Bool) (x : Int32) : Prop := ∃ j, j < 6 ∧ x = nI j ∧ pr j = true
theorem ma_pt0 (h : ∀ j, j < 32 → bt pt j = (decide (j < 6) && pr j)) {j : Nat} (hj : j < 6) : ((pt >>> (nI j &&& 31)) &&& 1) = 0 ↔ pr j = false := by
  rw [ma_bit0 _ (by omega), h j (by omega), decide_eq_true hj, Bool.true_and]
theorem ma_isTask1 (h : ∀ j, j < 32 → bt pt j = (decide (j < 6) && pr j)) {j : Nat} (hj : j < 6) (hp : pr j = true) {post : Int32 → Prop} (hq : post 1) : wpX_isTask post (pt, op, bW, bM, bY, bV, bS) (nI j) :=
  br_f (nI_pos (by omega)) (br_f (ma_6 hj) (br_f (fun z => absurd ((ma_pt0 h hj).mp z) (by rw [hp]; decide)) hq))
theorem ma_isTask0 (h : ∀ j, j < 32 → bt pt j = (decide (j < 6) && pr j)) {x : Int32} (hx : ¬ ma_tk pr x) {post : Int32 → Prop} (hq : post 0) : wpX_isTask post (pt, op, bW, bM, bY, bV, bS) x := by
  rcases pk_ix x (n := 6) (by decide) with z | z | ⟨j, hj, rfl⟩
  · exact br_t z hq
  · exact br_c (fun _ => hq) (fun _ => br_t z hq)
  · exact br_f (nI_pos (by omega)) (br_f (ma_6 hj) (br_t ((ma_pt0 h hj).mpr (ma_nt fun z => hx ⟨j, hj, rfl, z⟩)) hq))
theorem ma_is1 (h : ∀ j, j < 6 → aT j = if pr j = true then 1 else 0) {j : Nat} (hj : j < 6) (hp : pr j = true) {post : Int32 → Prop} (hq : post 1) : wpY_is post (sh, ct, aT, aF, aG, aM, aY, aW, aR, aN, aO, aK, aB) (nI j) :=
  br_f (nI_pos (by omega)) (br_f (ma_6 hj) ⟨ma_in6 hj, br_f (fun z => absurd ((ma_th0 h hj).mp z) (by rw [hp]; decide)) hq⟩)
theorem ma_is0 (h : ∀ j, j < 6 → aT j = if pr j = true then 1 else 0) {x : Int32} (hx : ¬ ma_tk pr x) {post : Int32 → Prop} (hq : post 0) : wpY_is post (sh, ct, aT, aF, aG, aM, aY, aW, aR, aN, aO, aK, aB) x := by
  rcases pk_ix x (n := 6) (by decide) with z | z | ⟨j, hj, rfl⟩
  · exact br_t z hq
  · exact br_c (fun _ => hq) (fun _ => br_t z hq)
  · exact br_f (nI_pos (by omega)) (br_f (ma_6 hj) ⟨ma_in6 hj, br_t ((ma_th0 h hj).mpr (ma_nt fun z => hx ⟨j, hj, rfl, z⟩)) hq⟩)
theorem ma_n0 {n : Nat} (hn : n < 2 ^ 31) {x : Int32} (h : nI n ≤ x) : ¬ x < 0 := by
  have a : (0 : Int32) ≤ nI n := nI_pos' hn
  exact Int32.not_lt.mpr (Int32.le_trans a h)
/-! a packed number -/
def ma_gd (p : Int32) (m a c : Nat) : Prop := m ≤ 6 ∧ a ≤ 6 ∧ 1 ≤ c ∧ c ≤ 9 ∧ p &&& 7 = nI m ∧ (p >>> ((3 : Int32) &&& 31)) &&& 7 = nI a ∧ p >>> ((6 : Int32) &&& 31) = nI c
theorem ma_gd_of {p : Int32} (h1 : ¬ 6 < p &&& 7) (h2 : ¬ 6 < (p >>> ((3 : Int32) &&& 31)) &&& 7) (h3 : ¬ p >>> ((6 : Int32) &&& 31) < 1) (h4 : ¬ 9 < p >>> ((6 : Int32) &&& 31)) : ∃ m a c, ma_gd p m a c := by
  obtain ⟨m, hm, em⟩ := pk_andE p (m := 7) 3 (by decide)
  obtain ⟨a, ha, ea⟩ := pk_andE (p >>> ((3 : Int32) &&& 31)) (m := 7) 3 (by decide)
  have h0 : ¬ p >>> ((6 : Int32) &&& 31) < 0 := fun z => h3 (Int32.lt_trans z (by decide))
  obtain ⟨c, hc, ec⟩ := nI_of h0
  rw [em] at h1
  rw [ea] at h2
  rw [ec] at h3 h4
  have k1 : ¬ 6 < m := fun z => h1 (nI_lt (a := 6) z (by omega))
  have k2 : ¬ 6 < a := fun z => h2 (nI_lt (a := 6) z (by omega))
  have k3 : ¬ c < 1 := fun z => h3 (nI_lt (b := 1) z (by decide))
  have k4 : ¬ 9 < c := fun z => h4 (nI_lt (a := 9) z (by omega))
  exact ⟨m, a, c, by omega, by omega, by omega, by omega, em, ea, ec⟩
theorem ma_gd_pos {p : Int32} {m a c : Nat} (h : ma_gd p m a c) : ¬ p < 0 := by
  intro z
  obtain ⟨_, _, h1, h2, _, _, e⟩ := h
  have s := pk_shr p ((6 : Int32) &&& 31) 6 (by decide)
  rw [e, nI_toInt (by omega), Int.shiftRight_eq_div_pow] at s
  rw [Int32.lt_iff_toInt_lt, show (0 : Int32).toInt = 0 from by decide] at z
  omega
theorem ma_isPacked1 {p : Int32} {m a c : Nat} (h : ma_gd p m a c) {post : Int32 → Prop} (hq : post 1) : wpX_isPacked post p := by
  obtain ⟨h1, h2, h3, h4, e1, e2, e3⟩ := h
  unfold wpX_isPacked wpX_worthOf wpX_mustOf wpX_mayOf
  dsimp only
  rw [e1, e2, e3]
  exact br_f (nI_nlt (a := 6) h1 (by decide)) (br_f (nI_nlt (a := 6) h2 (by decide)) (br_f (nI_nlt (b := 1) h3 (by omega)) (br_f (nI_nlt (a := 9) h4 (by decide)) hq)))
theorem ma_isPacked0 {p : Int32} (h : ¬ ∃ m a c, ma_gd p m a c) {post : Int32 → Prop} (hq : post 0) : wpX_isPacked post p :=
  br_c (fun _ => hq) (fun q1 => br_c (fun _ => hq) (fun q2 => br_c (fun _ => hq) (fun q3 => br_c (fun _ => hq) (fun q4 => absurd (ma_gd_of q1 q2 q3 q4) h))))
theorem ma_form1 {p : Int32} {m a c : Nat} (h : ma_gd p m a c) {post : Int32 → Prop} (hq : post 1) : wpY_form post (sh, ct, aT, aF, aG, aM, aY, aW, aR, aN, aO, aK, aB) p := by
  have h0 := ma_gd_pos h
  obtain ⟨h1, h2, h3, h4, e1, e2, e3⟩ := h
  refine nm_r e3 (br_f h0 ?_)
  rw [e1, e2]
  exact br_f (nI_nlt (a := 6) h1 (by decide)) (br_f (nI_nlt (a := 6) h2 (by decide)) (br_f (nI_nlt (b := 1) h3 (by omega)) (br_f (nI_nlt (a := 9) h4 (by decide)) hq)))
theorem ma_form0 {p : Int32} (h : ¬ ∃ m a c, ma_gd p m a c) {post : Int32 → Prop} (hq : post 0) : wpY_form post (sh, ct, aT, aF, aG, aM, aY, aW, aR, aN, aO, aK, aB) p :=
  nm_e (br_c (fun _ => hq) (fun _ => br_c (fun _ => hq) (fun q1 => br_c (fun _ => hq) (fun q2 => br_c (fun _ => hq) (fun q3 => br_c (fun _ => hq) (fun q4 => absurd (ma_gd_of q1 q2 q3 q4) h))))))
theorem ma_setParts {j m a c : Nat} {p : Int32} (hj : j < 6) (e1 : p &&& 7 = nI m) (e2 : (p >>> ((3 : Int32) &&& 31)) &&& 7 = nI a) (e3 : p >>> ((6 : Int32) &&& 31) = nI c) {post : SX → Prop} (h : post (pt, op, bW, upd bM j (nI m), upd bY j (nI a), upd bV j (nI c), bS)) : wpX_setParts post (pt, op, bW, bM, bY, bV, bS) (nI j) p := by
  unfold wpX_setParts wpX_mustOf wpX_mayOf wpX_worthOf
  dsimp only
  exact ⟨ma_in6 hj, nm_r (e' := upd bM j (nI m)) (by rw [ma_c6 hj, e1]) ⟨ma_in6 hj, nm_r (e' := upd bY j (nI a)) (by rw [ma_c6 hj, e2]) ⟨ma_in6 hj, nm_r (e' := upd bV j (nI c)) (by rw [ma_c6 hj, e3]) h⟩⟩⟩
theorem ma_hold {j m a c : Nat} {p : Int32} (hj : j < 6) (e1 : p &&& 7 = nI m) (e2 : (p >>> ((3 : Int32) &&& 31)) &&& 7 = nI a) (e3 : p >>> ((6 : Int32) &&& 31) = nI c) {post : SY → Prop} (h : post (sh, ct, aT, aF, aG, upd aM j (nI m), upd aY j (nI a), upd aW j (nI c), aR, aN, aO, aK, aB)) : wpY_hold post (sh, ct, aT, aF, aG, aM, aY, aW, aR, aN, aO, aK, aB) (nI j) p :=
  ⟨ma_in6 hj, nm_r (e' := upd aM j (nI m)) (by rw [ma_c6 hj, e1]) ⟨ma_in6 hj, nm_r (e' := upd aY j (nI a)) (by rw [ma_c6 hj, e2]) ⟨ma_in6 hj, nm_r (e' := upd aW j (nI c)) (by rw [ma_c6 hj, e3]) h⟩⟩⟩
/-! the relation after a task's numbers are set, and after a task is taken -/
theorem ma_P_put {j m a c : Nat} (hP : ma_P pr mu ma wo) (h : m ≤ 6 ∧ a ≤ 6 ∧ 1 ≤ c ∧ c ≤ 9) : ma_P (ma_pb pr j true) (ma_put mu j m) (ma_put ma j a) (ma_put wo j c) := by
  intro i hi
  by_cases e : i = j
  · rw [e, ma_pb_s, ma_put_s, ma_put_s, ma_put_s]
    exact ⟨fun _ => h, fun z => absurd z (by decide)⟩
  · rw [ma_pb_n e, ma_put_n e, ma_put_n e, ma_put_n e]
    exact hP i hi
theorem ma_Yp_put {j m a c : Nat} (hW : ma_Yp pr mu ma wo aM aY aW) : ma_Yp (ma_pb pr j true) (ma_put mu j m) (ma_put ma j a) (ma_put wo j c) (upd aM j (nI m)) (upd aY j (nI a)) (upd aW j (nI c)) := by
  intro i hi hp
  by_cases e : i = j
  · rw [e, ma_put_s, ma_put_s, ma_put_s, pk_us, pk_us, pk_us]
    exact ⟨rfl, rfl, rfl⟩
  · rw [ma_pb_n e] at hp
    rw [ma_put_n e, ma_put_n e, ma_put_n e, pk_un e, pk_un e, pk_un e]
    exact hW i hi hp
theorem ma_nat_put {b : Nat → Int32} {x : Nat → Nat} {j v : Nat} (h : ∀ j, j < 6 → b j = nI (x j)) : ∀ i, i < 6 → upd b j (nI v) i = nI (ma_put x j v i) := by
  intro i hi
  by_cases e : i = j
  · rw [e, pk_us, ma_put_s]
  · rw [pk_un e, ma_put_n e]; exact h i hi
theorem ma_T_put {j : Nat} {b : Bool} (h : ∀ j, j < 6 → aT j = if pr j = true then 1 else 0) : ∀ i, i < 6 → upd aT j (if b = true then 1 else 0) i = if ma_pb pr j b i = true then 1 else 0 := by
  intro i hi
  by_cases e : i = j
  · rw [e, pk_us, ma_pb_s]
  · rw [pk_un e, ma_pb_n e]; exact h i hi
theorem ma_fit_take {x : Nat → Nat} {j : Nat} (h : ma_fit (ma_w pr fr tw) U x) : ma_fit (ma_w (ma_pb pr j false) fr tw) U (ma_put x j 0) := by
  intro S hS
  have hb : ∀ i, (S ^^^ (S &&& 2 ^ j)).testBit i = (S.testBit i && !decide (i = j)) := fun i => by
    rw [Nat.testBit_xor, Nat.testBit_and, Nat.testBit_two_pow]
    by_cases e : i = j
    · rw [decide_eq_true e, decide_eq_true e.symm]
      cases S.testBit i <;> rfl
    · rw [decide_eq_false e, decide_eq_false (fun z => e z.symm)]
      cases S.testBit i <;> rfl
  have hl : S ^^^ (S &&& 2 ^ j) < 64 := Nat.xor_lt_two_pow (n := 6) hS (Nat.lt_of_le_of_lt Nat.and_le_left hS)
  refine Nat.le_trans (Nat.le_trans ?_ (h _ hl)) ?_
  · refine ma_sum_le 6 fun i hi => ?_
    try dsimp only
    rw [hb i]
    by_cases e : i = j
    · rw [e, ma_put_s]
      split
      · exact Nat.zero_le _
      · exact Nat.zero_le _
    · rw [ma_put_n e, decide_eq_false e, Bool.not_false, Bool.and_true]
      exact Nat.le_refl _
  · refine ma_sum_le 24 fun t ht => ?_
    try dsimp only
    have k : ma_hit (ma_w pr fr tw) (S ^^^ (S &&& 2 ^ j)) t = true → ma_hit (ma_w (ma_pb pr j false) fr tw) S t = true := by
      simp only [ma_hit, ma_any_iff, Bool.and_eq_true]
      rintro ⟨i, hi, a, b⟩
      rw [hb i, Bool.and_eq_true] at a
      have e : i ≠ j := fun z => by
        rw [decide_eq_true z] at a
        exact absurd a.2 (by decide)
      refine ⟨i, hi, a.1, ?_⟩
      unfold ma_w at b ⊢
      rw [ma_pb_n e]
      exact b
    revert k
    cases ma_hit (ma_w pr fr tw) (S ^^^ (S &&& 2 ^ j)) t <;> cases ma_hit (ma_w (ma_pb pr j false) fr tw) S t <;> cases U t <;> decide
end
