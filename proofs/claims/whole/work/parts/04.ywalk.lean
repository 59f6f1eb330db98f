/-! the reference's walks: covers, measure, can, fits -/
def ma_w (pr : Nat → Bool) (fr tw : Nat → Nat) : Nat → Nat → Bool := fun j t => pr j && (decide (fr j ≤ t) && decide (t < tw j))
def ma_Yt (pr : Nat → Bool) (fr tw : Nat → Nat) (U : Nat → Bool) (sh : Int32) (aT aF aG : Nat → Int32) : Prop :=
  (∀ j, j < 6 → aT j = if pr j = true then 1 else 0) ∧ (∀ j, j < 6 → pr j = true → aF j = nI (fr j) ∧ aG j = nI (tw j) ∧ fr j ≤ 24 ∧ tw j ≤ 24) ∧ ∀ t, t < 24 → bt sh t = !U t
theorem ma_any_s (f : Nat → Bool) (n : Nat) : ma_any f (n + 1) = (ma_any f n || f n) := rfl
theorem ma_sum_s (f : Nat → Nat) (n : Nat) : ma_sum f (n + 1) = ma_sum f n + f n := rfl
theorem ma_nf {b : Bool} (h : ¬ b = false) : b = true := by cases b with | false => exact absurd rfl h | true => rfl
theorem ma_nt {b : Bool} (h : ¬ b = true) : b = false := by cases b with | true => exact absurd rfl h | false => rfl
def ma_U (b : Nat) (U : Nat → Bool) : Nat → Bool := fun t => decide (b ≤ t) && U t
theorem ma_U_0 {w : Nat → Nat → Bool} {U : Nat → Bool} {x : Nat → Nat} : ma_fit w (ma_U 0 U) x ↔ ma_fit w U x := by
  constructor
  · exact ma_fit_U (fun _ _ _ _ h => h) fun t _ h => by
      unfold ma_U at h
      rw [decide_eq_true (Nat.zero_le t), Bool.true_and] at h
      exact h
  · exact ma_fit_U (fun _ _ _ _ h => h) fun t _ h => by
      unfold ma_U
      rw [decide_eq_true (Nat.zero_le t), Bool.true_and]
      exact h
theorem ma_rm_24 (w : Nat → Nat → Bool) (U : Nat → Bool) (S : Nat) : ma_rm w U S ≤ 24 := by
  have h : ma_rm w U S ≤ 24 * 1 := ma_sum_lt 24 fun t _ => by
    try dsimp only
    split
    · exact Nat.le_refl _
    · exact Nat.zero_le _
  omega
theorem ma_dem_600 {S : Nat} {x : Nat → Nat} (h : ∀ j, j < 6 → x j ≤ 100) : ma_dem S x ≤ 600 := by
  have h : ma_dem S x ≤ 6 * 100 := ma_sum_lt 6 fun t ht => by
    try dsimp only
    split
    · exact h t ht
    · exact Nat.zero_le _
  omega
section
variable {sh ct : Int32} {aT aF aG aM aY aW aR aN aO aK aB : Nat → Int32} {pr : Nat → Bool} {fr tw : Nat → Nat} {U : Nat → Bool}
theorem ma_th0 (h : ∀ j, j < 6 → aT j = if pr j = true then 1 else 0) {j : Nat} (hj : j < 6) : aT (nI j).toNatClampNeg = 0 ↔ pr j = false := by
  rw [ma_c6 hj, h j hj]
  cases pr j <;> decide
theorem ma_covers (hY : ma_Yt pr fr tw U sh aT aF aG) {S t : Nat} (ht : t < 24) {post : Int32 → Prop} (h : post (if (ma_hit (ma_w pr fr tw) S t && U t) = true then 1 else 0)) : wpY_covers post (sh, ct, aT, aF, aG, aM, aY, aW, aR, aN, aO, aK, aB) (nI S) (nI t) := by
  refine loop_0 (fun n i s => wY_covers_5 post (nI S) (nI t) sh ct aT aF aG aM aY aW aR aN aO aK aB n s (nI i)) (fun i s => s = if ma_any (fun j => S.testBit j && ma_w pr fr tw j t) i = true then (1 : Int32) else 0) 6 0 rfl ?_ ?_
  · intro n s e
    subst e
    refine br_t ma_y6 ?_
    change post (if ((ma_any (fun j => S.testBit j && ma_w pr fr tw j t) 6) && U t) = true then 1 else 0) at h
    cases hA : ma_any (fun j => S.testBit j && ma_w pr fr tw j t) 6 with
    | false =>
      rw [hA, Bool.false_and, if_neg Bool.false_ne_true] at h
      exact br_t (if_neg Bool.false_ne_true) h
    | true =>
      rw [hA, Bool.true_and] at h
      refine br_f (by rw [if_pos rfl]; decide) ?_
      cases hU : U t with
      | true =>
        rw [hU, if_pos rfl] at h
        exact br_t ((ma_bit0 sh (by omega)).mpr (by rw [hY.2.2 t ht, hU]; rfl)) h
      | false =>
        rw [hU, if_neg Bool.false_ne_true] at h
        refine br_f (fun z => ?_) h
        have z' := (ma_bit0 sh (by omega)).mp z
        rw [hY.2.2 t ht, hU] at z'
        exact absurd z' (by decide)
  · intro n i s hi e ih
    subst e
    refine br_f (ma_6 hi) ?_
    cases hA : ma_any (fun j => S.testBit j && ma_w pr fr tw j t) i with
    | true =>
      refine br_f (by rw [if_pos rfl]; decide) (nm_r (nI_1 i) (ih _ ?_))
      rw [ma_any_s, hA, Bool.true_or, if_pos rfl]
    | false =>
      refine br_t (if_neg Bool.false_ne_true) ?_
      have k0 : (S.testBit i && ma_w pr fr tw i t) = false → wY_covers_5 post (nI S) (nI t) sh ct aT aF aG aM aY aW aR aN aO aK aB n 0 (nI (i + 1)) := fun q => ih 0 (by
        try dsimp only
        rw [ma_any_s, hA, q]; rfl)
      have k1 : (S.testBit i && ma_w pr fr tw i t) = true → wY_covers_5 post (nI S) (nI t) sh ct aT aF aG aM aY aW aR aN aO aK aB n 1 (nI (i + 1)) := fun q => ih 1 (by
        try dsimp only
        rw [ma_any_s, hA, q]; rfl)
      have b1 : ((nI S >>> (nI i &&& 31)) &&& 1) = 1 ↔ S.testBit i = true := by rw [ma_bit1 _ (by omega), ma_tb S (by omega)]
      have b2 := ma_th0 hY.1 hi
      have b3 : pr i = true → (nI t < aF (nI i).toNatClampNeg ↔ t < fr i) := fun p => by
        have q := hY.2.1 i hi p
        rw [ma_c6 hi, q.1]
        exact nI_ltI (by omega) (by omega)
      have b4 : pr i = true → (aG (nI i).toNatClampNeg ≤ nI t ↔ tw i ≤ t) := fun p => by
        have q := hY.2.1 i hi p
        rw [ma_c6 hi, q.2.1]
        exact nI_leI (by omega) (by omega)
      refine br_c (fun h1 => ⟨ma_in6 hi, br_c (fun h2 => nm_r (nI_1 i) (k0 ?_)) (fun h2 => ⟨ma_in6 hi, br_c (fun h3 => nm_r (nI_1 i) (k0 ?_)) (fun h3 => ⟨ma_in6 hi, br_c (fun h4 => nm_r (nI_1 i) (k0 ?_)) (fun h4 => nm_r (nI_1 i) (k1 ?_))⟩)⟩)⟩) (fun h1 => nm_r (nI_1 i) (k0 ?_))
      · unfold ma_w
        rw [b2.mp h2, Bool.false_and, Bool.and_false]
      · have p : pr i = true := ma_nf fun z => h2 (b2.mpr z)
        have q := (b3 p).mp h3
        unfold ma_w
        rw [decide_eq_false (show ¬ fr i ≤ t by omega), Bool.false_and, Bool.and_false, Bool.and_false]
      · have p : pr i = true := ma_nf fun z => h2 (b2.mpr z)
        have q := (b4 p).mp h4
        unfold ma_w
        rw [decide_eq_false (show ¬ t < tw i by omega), Bool.and_false, Bool.and_false, Bool.and_false]
      · have p : pr i = true := ma_nf fun z => h2 (b2.mpr z)
        have q := mt (b3 p).mpr h3
        have q2 := mt (b4 p).mpr h4
        unfold ma_w
        rw [b1.mp h1, p, decide_eq_true (show fr i ≤ t by omega), decide_eq_true (show t < tw i by omega)]
        rfl
      · rw [ma_nt (mt b1.mpr h1), Bool.false_and]
theorem ma_measure (hY : ma_Yt pr fr tw U sh aT aF aG) {b : Nat} (hb : b ≤ 24) {post : SY → Prop} (h : ∀ aR' : Nat → Int32, (∀ S, S < 64 → aR' S = nI (ma_rm (ma_w pr fr tw) (ma_U b U) S)) → post (sh, ct, aT, aF, aG, aM, aY, aW, aR', aN, aO, aK, aB)) : wpY_measure post (sh, ct, aT, aF, aG, aM, aY, aW, aR, aN, aO, aK, aB) (nI b) := by
  refine loop_0 (fun n i s => wY_measure_2 post (nI b) sh ct n (nI i) aT aF aG aM aY aW s aN aO aK aB) (fun i s => ∀ S, S < i → s S = nI (ma_rm (ma_w pr fr tw) (ma_U b U) S)) 64 aR (fun S hS => absurd hS (Nat.not_lt_zero _)) ?_ ?_
  · intro n s e
    exact br_t ma_y64 (h s e)
  · intro n i s hi e ih
    refine br_f (ma_64 hi) ⟨ma_in64 hi, nm_r (congrArg (fun q => upd s q 0) (ma_c64 hi)) ?_⟩
    refine pk_loop (fun m t r => wY_measure_17 post (wY_measure_2 post (nI b) sh ct n) (nI b) (nI i) sh ct m (nI t) aT aF aG aM aY aW r aN aO aK aB) (fun t r => b ≤ t ∧ (∀ S, S < i → r S = nI (ma_rm (ma_w pr fr tw) (ma_U b U) S)) ∧ r i = nI (ma_sum (fun t => if (ma_hit (ma_w pr fr tw) i t && ma_U b U t) = true then 1 else 0) t)) 24 b (upd s i 0) hb ⟨Nat.le_refl _, fun S hS => ?_, ?_⟩ ?_ ?_
    · rw [pk_un (by omega)]
      exact e S hS
    · rw [pk_us]
      rw [(ma_sum_eq b fun t ht => by
        try dsimp only
        unfold ma_U
        rw [decide_eq_false (show ¬ b ≤ t by omega), Bool.false_and, Bool.and_false, if_neg Bool.false_ne_true]).trans (ma_sum_zero b)]
      rfl
    · intro m r e3
      obtain ⟨_, e1, e2⟩ := e3
      refine br_t ma_y24 (nm_r (nI_1 i) (ih r ?_))
      intro S hS
      by_cases c : S = i
      · rw [c]; exact e2
      · exact e1 S (by omega)
    · intro m t r ht e3 ih2
      obtain ⟨hbt, e1, e2⟩ := e3
      refine br_f (ma_24 ht) ⟨ma_in64 hi, ma_covers hY ht ?_⟩
      have hu : ma_U b U t = U t := by unfold ma_U; rw [decide_eq_true hbt, Bool.true_and]
      cases hc : (ma_hit (ma_w pr fr tw) i t && U t) with
      | false =>
        refine br_t (if_neg Bool.false_ne_true) ⟨ma_in64 hi, nm_r (e' := upd r i (r i)) (by rw [ma_c64 hi, Int32.add_zero]) (nm_r (nI_1 t) (ih2 _ ⟨by omega, fun S hS => ?_, ?_⟩))⟩
        · rw [pk_un (by omega)]; exact e1 S hS
        · rw [pk_us, e2, ma_sum_s]
          try dsimp only
          rw [hu, hc, if_neg Bool.false_ne_true, Nat.add_zero]
      | true =>
        refine br_f (by rw [if_pos rfl]; decide) ⟨ma_in64 hi, nm_r (e' := upd r i (r i + 1)) (by rw [ma_c64 hi]) (nm_r (nI_1 t) (ih2 _ ⟨by omega, fun S hS => ?_, ?_⟩))⟩
        · rw [pk_un (by omega)]; exact e1 S hS
        · rw [pk_us, e2, ma_sum_s, nI_1]
          try dsimp only
          rw [hu, hc, if_pos rfl]
theorem ma_can {w : Nat → Nat → Bool} {V : Nat → Bool} {x : Nat → Nat} (hT : ∀ j, j < 6 → aT j = if pr j = true then 1 else 0) (hR : ∀ S, S < 64 → aR S = nI (ma_rm w V S)) (hN : ∀ j, j < 6 → pr j = true → aN j = nI (x j)) (hx : ∀ j, j < 6 → x j ≤ 100) (h0 : ∀ j, j < 6 → pr j = false → x j = 0) {post : Int32 → Prop} (h1 : ma_fit w V x → post 1) (h2 : ¬ ma_fit w V x → post 0) : wpY_can post (sh, ct, aT, aF, aG, aM, aY, aW, aR, aN, aO, aK, aB) := by
  refine pk_loop (fun n i s => wY_can_4 post sh ct aT aF aG aM aY aW aR aN aO aK aB n s (nI i)) (fun i s => (s = 1 ∧ ∀ S, S < i → ma_dem S x ≤ ma_rm w V S) ∨ (s = 0 ∧ ¬ ma_fit w V x)) 64 1 1 (by decide) (Or.inl ⟨rfl, fun S hS => ?_⟩) ?_ ?_
  · rw [show S = 0 by omega, ma_dem_0]; exact Nat.zero_le _
  · intro n s e
    rcases e with ⟨rfl, e⟩ | ⟨rfl, e⟩
    · exact br_t ma_y64 ⟨ma_nb1, h1 e⟩
    · exact br_t ma_y64 ⟨ma_nb0, h2 e⟩
  · intro n i s hi e ih
    rcases e with ⟨rfl, e⟩ | ⟨rfl, e⟩
    · refine br_f (ma_64 hi) (br_f (by decide) ?_)
      refine loop_0 (fun m j s => wY_can_19 post (wY_can_4 post sh ct aT aF aG aM aY aW aR aN aO aK aB n) (nI i) sh ct aT aF aG aM aY aW aR aN aO aK aB m s (nI j)) (fun j s => s = nI (ma_sum (fun j => if i.testBit j = true then x j else 0) j)) 6 0 rfl ?_ ?_
      · intro m s es
        have b1 := ma_rm_24 w V i
        have b2 := ma_dem_600 (S := i) hx
        refine br_t ma_y6 ⟨ma_in64 hi, pk_lt (ma_rm w V i) (ma_dem i x) (fun q => nm_r (nI_1 i) (ih 0 (Or.inr ⟨rfl, fun f => ?_⟩))) (fun q => nm_r (nI_1 i) (ih 1 (Or.inl ⟨rfl, fun S hS => ?_⟩))) (by rw [ma_c64 hi]; exact hR i hi) es⟩
        · have := f i hi
          omega
        · by_cases c : S = i
          · rw [c]; exact q
          · exact e S (by omega)
      · intro m j s hj es ih2
        subst es
        have b1 : ((nI i >>> (nI j &&& 31)) &&& 1) = 1 ↔ i.testBit j = true := by rw [ma_bit1 _ (by omega), ma_tb i (by omega)]
        have b2 := ma_th0 hT hj
        refine br_f (ma_6 hj) (br_c (fun q1 => ⟨ma_in6 hj, br_c (fun q2 => nm_r (Int32.add_zero _) (nm_r (nI_1 j) (ih2 _ ?_))) (fun q2 => ⟨ma_in6 hj, nm_e (nm_r (nI_1 j) (ih2 _ ?_))⟩)⟩) (fun q1 => nm_r (Int32.add_zero _) (nm_r (nI_1 j) (ih2 _ ?_))))
        · rw [ma_sum_s]
          try dsimp only
          rw [if_pos (b1.mp q1), h0 j hj (b2.mp q2), Nat.add_zero]
        · rw [ma_sum_s, ← nI_add]
          try dsimp only
          rw [if_pos (b1.mp q1), ma_c6 hj, hN j hj (ma_nf fun z => q2 (b2.mpr z))]
        · rw [ma_sum_s]
          try dsimp only
          rw [if_neg (mt b1.mpr q1), Nat.add_zero]
    · exact br_f (ma_64 hi) (br_t rfl ⟨ma_nb0, h2 e⟩)
theorem ma_fits {x : Nat → Nat} (hY : ma_Yt pr fr tw U sh aT aF aG) (hM : ∀ j, j < 6 → pr j = true → aM j = nI (x j)) (hx : ∀ j, j < 6 → x j ≤ 100) (h0 : ∀ j, j < 6 → pr j = false → x j = 0) {post : Int32 → SY → Prop} (h1 : ∀ aR' aN' : Nat → Int32, ma_fit (ma_w pr fr tw) U x → post 1 (sh, ct, aT, aF, aG, aM, aY, aW, aR', aN', aO, aK, aB)) (h2 : ∀ aR' aN' : Nat → Int32, ¬ ma_fit (ma_w pr fr tw) U x → post 0 (sh, ct, aT, aF, aG, aM, aY, aW, aR', aN', aO, aK, aB)) : wpY_fits post (sh, ct, aT, aF, aG, aM, aY, aW, aR, aN, aO, aK, aB) := by
  unfold wpY_fits
  try dsimp only
  refine ma_measure (b := 0) hY (by decide) (fun aR' hR => ?_)
  refine loop_0 (fun n i s => wY_fits_7 post sh ct n (nI i) aT aF aG aM aY aW aR' s aO aK aB) (fun i s => ∀ j, j < i → s j = aM j) 6 aN (fun j hj => absurd hj (Nat.not_lt_zero _)) ?_ ?_
  · intro n s e
    exact br_t ma_y6 (ma_can (x := x) hY.1 hR (fun j hj p => (e j hj).trans (hM j hj p)) hx h0 (fun f => ⟨ma_nb1, h1 _ _ (ma_U_0.mp f)⟩) (fun f => ⟨ma_nb0, h2 _ _ (fun z => f (ma_U_0.mpr z))⟩))
  · intro n i s hi e ih
    refine br_f (ma_6 hi) ⟨ma_in6 hi, ma_in6 hi, nm_r (e' := upd s i (aM i)) (by rw [ma_c6 hi]) (nm_r (nI_1 i) (ih _ ?_))⟩
    intro j hj
    by_cases c : j = i
    · rw [c, pk_us]
    · rw [pk_un c]; exact e j (by omega)
end
