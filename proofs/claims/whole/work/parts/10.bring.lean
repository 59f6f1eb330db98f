/-! bring -/
section
variable {pt op : Int32} {bW bM bY bV bS : Nat → Int32} {sh ct : Int32} {aT aF aG aM aY aW aR aN aO aK aB : Nat → Int32} {pr : Nat → Bool} {mu ma wo fr tw : Nat → Nat} {U : Nat → Bool}
theorem ma_lfn1 (h : ∀ j, j < 32 → bt pt j = (decide (j < 6) && pr j)) {j : Nat} (hj : j < 6) (hp : pr j = false) (hl : ∀ i, i < j → pr i = true) {post : Int32 → Prop} (hq : post (nI j)) : wpX_leastFreeNumber post (pt, op, bW, bM, bY, bV, bS) :=
  loop_0 (fun n i (_ : Unit) => wX_leastFreeNumber_2 post pt op bW bM bY bV bS n (nI i)) (fun _ _ => True) j () trivial (fun n _ _ => br_f (ma_6 hj) (br_t ((ma_pt0 h hj).mpr hp) hq)) (fun n i _ hi _ ih => br_f (ma_6 (by omega)) (br_f (fun z => by
    have a := (ma_pt0 h (j := i) (by omega)).mp z
    rw [hl i hi] at a
    exact absurd a (by decide)) (nm_r (nI_1 i) (ih () trivial))))
theorem ma_lfn0 (h : ∀ j, j < 32 → bt pt j = (decide (j < 6) && pr j)) (hl : ∀ i, i < 6 → pr i = true) {post : Int32 → Prop} (hq : post (-1)) : wpX_leastFreeNumber post (pt, op, bW, bM, bY, bV, bS) :=
  loop_0 (fun n i (_ : Unit) => wX_leastFreeNumber_2 post pt op bW bM bY bV bS n (nI i)) (fun _ _ => True) 6 () trivial (fun n _ _ => br_t ma_y6 hq) (fun n i _ hi _ ih => br_f (ma_6 hi) (br_f (fun z => by
    have a := (ma_pt0 h hi).mp z
    rw [hl i hi] at a
    exact absurd a (by decide)) (nm_r (nI_1 i) (ih () trivial))))
theorem ma_br28 (h : ∀ j, j < 6 → aT j = if pr j = true then 1 else 0) {j : Nat} (hj : j ≤ 6) (hl : ∀ i, i < j → pr i = true) {x1 x2 x3 : Int32} {post : Int32 → SY → Prop} (hq : ∀ n, wY_bring_28 post x1 x2 x3 sh ct aT aF aG aM aY aW aR aN aO aK aB (n + 1) (nI j)) : ∃ n, wY_bring_28 post x1 x2 x3 sh ct aT aF aG aM aY aW aR aN aO aK aB n 0 :=
  loop_0 (fun n i (_ : Unit) => wY_bring_28 post x1 x2 x3 sh ct aT aF aG aM aY aW aR aN aO aK aB n (nI i)) (fun _ _ => True) j () trivial (fun n _ _ => hq n) (fun n i _ hi _ ih => br_f (ma_6 (by omega)) ⟨ma_in6 (by omega), br_f (fun z => by
    have a := (ma_th0 h (j := i) (by omega)).mp z
    rw [hl i hi] at a
    exact absurd a (by decide)) (nm_r (nI_1 i) (ih () trivial))⟩)
theorem ma_Yp_off {j : Nat} {x y z : Int32} (hp : pr j = false) (hW : ma_Yp pr mu ma wo aM aY aW) : ma_Yp pr mu ma wo (upd aM j x) (upd aY j y) (upd aW j z) := by
  intro i hi q
  have e : i ≠ j := fun z => by
    rw [z, hp] at q
    exact absurd q (by decide)
  rw [pk_un e, pk_un e, pk_un e]
  exact hW i hi q
theorem ma_T2 {j : Nat} {b c : Bool} {p : Nat → Bool} (h : ∀ j, j < 6 → aT j = if pr j = true then 1 else 0) (hb : p j = b) (hn : ∀ i, i < 6 → i ≠ j → p i = pr i) : ∀ i, i < 6 → upd (upd aT j (if c = true then 1 else 0)) j (if b = true then 1 else 0) i = if p i = true then 1 else 0 := by
  intro i hi
  by_cases e : i = j
  · rw [e, pk_us, hb]
  · rw [pk_un e, pk_un e, hn i hi e]; exact h i hi
end
theorem i_vc_bring {k : Nat} {u : SX} {v : SY} (I : i_Rel k u v) (hk : k + 4 ≤ 2048) (v1 : Int32) (v2 : Int32) (v3 : Int32) : wpX_bring (fun r u' => wpY_bring (fun r' v' => r' = r ∧ i_Rel (k + 4) u' v') v v1 v2 v3) u v1 v2 v3 := by
  obtain ⟨pt, op, bW, bM, bY, bV, bS⟩ := u
  obtain ⟨sh, ct, aT, aF, aG, aM, aY, aW, aR, aN, aO, aK, aB⟩ := v
  obtain ⟨pr, mu, ma, wo, fr, tw, U, hP, hX, hY, hW, hH, hf⟩ := ma_un I
  unfold wpX_bring
  dsimp only
  by_cases h1 : v1 < 0
  · exact br_t h1 (br_t rfl (br_t h1 ⟨rfl, i_up I⟩))
  by_cases h2 : v2 ≤ v1
  · exact br_f h1 (br_t h2 (br_t rfl (br_f h1 (br_t h2 ⟨rfl, i_up I⟩))))
  by_cases h3 : 24 < v2
  · exact br_f h1 (br_f h2 (br_t h3 (br_t rfl (br_f h1 (br_f h2 (br_t h3 ⟨rfl, i_up I⟩))))))
  refine br_f h1 (br_f h2 (br_f h3 (br_f (by decide) ?_)))
  by_cases hg : ∃ m a c, ma_gd v3 m a c
  case neg => exact ma_isPacked0 hg (br_t rfl (br_f h1 (br_f h2 (br_f h3 (ma_form0 hg (br_t rfl ⟨rfl, i_up I⟩))))))
  obtain ⟨m, a, c, g⟩ := hg
  refine ma_isPacked1 g (br_f (by decide) ?_)
  rcases ma_least pr with hl | ⟨j, hj, hp, hl⟩
  · refine ma_lfn0 hX.1 hl (br_t rfl (br_f h1 (br_f h2 (br_f h3 (ma_form1 g (br_f (by decide) (ma_br28 hY.1 (j := 6) (by decide) hl fun n => br_t ma_y6 ⟨rfl, i_up I⟩)))))))
  obtain ⟨r, hr, e⟩ := nI_of h1
  have h0 : ¬ v2 < 0 := fun z => h2 (Int32.le_of_lt (Int32.lt_of_lt_of_le z (Int32.not_lt.mp h1)))
  obtain ⟨d, hd, e'⟩ := nI_of h0
  subst e e'
  have hrd : r < d := Nat.lt_of_not_le fun z => h2 (nI_le z hr)
  have hd24 : d < 25 := Nat.lt_of_not_le fun z => h3 (nI_lt (a := 24) z hd)
  have g' := g
  obtain ⟨g1, g2, g3, g4, e1, e2, e3⟩ := g'
  have hj1 : ¬ nI j = -1 := fun z => nI_pos (n := j) (by omega) (by rw [z]; decide)
  have hw' : ∀ i, i < 6 → ∀ t, t < 24 → bt (upd bW j (((1 : Int32) <<< (nI d &&& 31)) - ((1 : Int32) <<< (nI r &&& 31))) i) t = ma_w (ma_pb pr j true) (ma_put fr j r) (ma_put tw j d) i t := fun i hi t ht => by
    unfold ma_w
    by_cases e : i = j
    · rw [e, pk_us, ma_pb_s, ma_put_s, ma_put_s, Bool.true_and]
      exact ma_span d hd24 r hrd t ht
    · rw [pk_un e, ma_pb_n e, ma_put_n e, ma_put_n e]
      exact hX.2.2.1 i hi t ht
  have hP' := ma_P_put (j := j) hP ⟨g1, g2, g3, g4⟩
  have hW' := ma_Yp_put (j := j) (m := m) (a := a) (c := c) hW
  have hY2 : ∀ i, i < 6 → ma_pb pr j true i = true → upd aF j (nI r) i = nI (ma_put fr j r i) ∧ upd aG j (nI d) i = nI (ma_put tw j d i) ∧ ma_put fr j r i ≤ 24 ∧ ma_put tw j d i ≤ 24 := fun i hi q => by
    by_cases e : i = j
    · rw [e, pk_us, pk_us, ma_put_s, ma_put_s]
      exact ⟨rfl, rfl, by omega, by omega⟩
    · rw [ma_pb_n e] at q
      rw [pk_un e, pk_un e, ma_put_n e, ma_put_n e]
      exact hY.2.1 i hi q
  have hY' : ma_Yt (ma_pb pr j true) (ma_put fr j r) (ma_put tw j d) U sh (upd aT j (if true = true then 1 else 0)) (upd aF j (nI r)) (upd aG j (nI d)) := ⟨ma_T_put (b := true) hY.1, hY2, hY.2.2⟩
  have hT1 : ∀ i, i < 6 → upd (upd aT j (if true = true then 1 else 0)) j (if true = true then 1 else 0) i = if ma_pb pr j true i = true then 1 else 0 := ma_T2 (b := true) (c := true) hY.1 ma_pb_s (fun i _ e => ma_pb_n e)
  have hT0 : ∀ i, i < 6 → upd (upd aT j (if true = true then 1 else 0)) j (if false = true then 1 else 0) i = if pr i = true then 1 else 0 := ma_T2 (b := false) (c := true) hY.1 hp (fun i _ e => rfl)
  have hY0 : ma_Yt pr fr tw U sh (upd (upd aT j (if true = true then 1 else 0)) j (if false = true then 1 else 0)) (upd aF j (nI r)) (upd aG j (nI d)) := ⟨hT0, fun i hi q => by
    have e : i ≠ j := fun z => by
      rw [z, hp] at q
      exact absurd q (by decide)
    rw [pk_un e, pk_un e]
    exact hY.2.1 i hi q, hY.2.2⟩
  refine ma_lfn1 hX.1 hj hp hl (br_f hj1 (ma_mustOf e1 ⟨ma_in6 hj, nm_r (e' := upd bW j (((1 : Int32) <<< (nI d &&& 31)) - ((1 : Int32) <<< (nI r &&& 31)))) (by rw [ma_c6 hj]) ?_⟩))
  refine ma_fitsWith (w := ma_w (ma_pb pr j true) (ma_put fr j r) (ma_put tw j d)) (V := U) (mu := mu) hw' hX.2.1 hX.2.2.2.1 (fun i hi => (ma_P6 hP hi).1) hj (by omega) (fun bS' f => br_f (by decide) (ma_setParts hj e1 e2 e3 (nm_e ?_))) (fun bS' f => br_t rfl ⟨ma_in6 hj, nm_r (e' := upd (upd bW j (((1 : Int32) <<< (nI d &&& 31)) - ((1 : Int32) <<< (nI r &&& 31)))) j 0) (by rw [ma_c6 hj]) ?_⟩)
  · refine br_f h1 (br_f h2 (br_f h3 (ma_form1 g (br_f (by decide) (ma_br28 hY.1 (Nat.le_of_lt hj) hl fun n => br_f (ma_6 hj) ⟨ma_in6 hj, br_t ((ma_th0 hY.1 hj).mpr hp) ⟨ma_in6 hj, nm_r (e' := upd aT j (if true = true then 1 else 0)) (by rw [ma_c6 hj, ma_vn1]; rfl) ⟨ma_in6 hj, nm_r (e' := upd aF j (nI r)) (by rw [ma_c6 hj]) ⟨ma_in6 hj, nm_r (e' := upd aG j (nI d)) (by rw [ma_c6 hj]) (ma_hold hj e1 e2 e3 ?_)⟩⟩⟩⟩)))))
    refine ma_fits (x := ma_put mu j m) hY' (fun i hi p => (hW' i hi p).1) (ma_mu100 hP') (ma_mu0 hP') (fun aR' aN' _ => ⟨ma_in6 hj, nm_r (e' := upd (upd aT j (if true = true then 1 else 0)) j (if true = true then 1 else 0)) (by rw [ma_c6 hj, ma_vn1]; rfl) ⟨ma_in6 hj, br_f (by rw [ma_c6 hj, pk_us]; decide) ⟨rfl, ?_⟩⟩⟩) (fun aR' aN' f' => absurd f f')
    refine ma_rel hP' ⟨fun i hi => ?_, hX.2.1, hw', ma_nat_put hX.2.2.2.1, ma_nat_put hX.2.2.2.2.1, ma_nat_put hX.2.2.2.2.2⟩ ⟨hT1, hY2, hY.2.2⟩ hW' hH f
    rw [ma_set _ (by omega) hi, hX.1 i hi]
    by_cases e : i = j
    · rw [e, ma_pb_s, decide_eq_true rfl, Bool.or_true, decide_eq_true hj]
      rfl
    · rw [ma_pb_n e, decide_eq_false e, Bool.or_false]
  · refine br_f h1 (br_f h2 (br_f h3 (ma_form1 g (br_f (by decide) (ma_br28 hY.1 (Nat.le_of_lt hj) hl fun n => br_f (ma_6 hj) ⟨ma_in6 hj, br_t ((ma_th0 hY.1 hj).mpr hp) ⟨ma_in6 hj, nm_r (e' := upd aT j (if true = true then 1 else 0)) (by rw [ma_c6 hj, ma_vn1]; rfl) ⟨ma_in6 hj, nm_r (e' := upd aF j (nI r)) (by rw [ma_c6 hj]) ⟨ma_in6 hj, nm_r (e' := upd aG j (nI d)) (by rw [ma_c6 hj]) (ma_hold hj e1 e2 e3 ?_)⟩⟩⟩⟩)))))
    refine ma_fits (x := ma_put mu j m) hY' (fun i hi p => (hW' i hi p).1) (ma_mu100 hP') (ma_mu0 hP') (fun aR' aN' f' => absurd f' f) (fun aR' aN' _ => ⟨ma_in6 hj, nm_r (e' := upd (upd aT j (if true = true then 1 else 0)) j (if false = true then 1 else 0)) (by rw [ma_c6 hj, ma_vn0]; rfl) ⟨ma_in6 hj, br_t (by rw [ma_c6 hj, pk_us]; rfl) ⟨rfl, ?_⟩⟩⟩)
    refine ma_rel hP ⟨hX.1, hX.2.1, fun i hi t ht => ?_, hX.2.2.2⟩ hY0 (ma_Yp_off hp hW) hH hf
    by_cases e : i = j
    · unfold ma_w
      rw [e, pk_us, hp, b_0, Bool.false_and]
    · rw [pk_un e, pk_un e]
      exact hX.2.2.1 i hi t ht
