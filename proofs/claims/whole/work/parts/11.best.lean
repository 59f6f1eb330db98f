/-! loss, kept, idle, lossWithout, greatestMust -/
theorem ma_put_id {x : Nat → Nat} {j : Nat} (i : Nat) : ma_put x j (x j) i = x i := by
  by_cases e : i = j
  · rw [e, ma_put_s]
  · rw [ma_put_n e]
theorem ma_put_le {x : Nat → Nat} {j v v' : Nat} (h : v ≤ v') : ∀ i, i < 6 → ma_put x j v i ≤ ma_put x j v' i := fun i _ => by
  by_cases e : i = j
  · rw [e, ma_put_s, ma_put_s]; exact h
  · rw [ma_put_n e, ma_put_n e]; exact Nat.le_refl _
theorem ma_max {w : Nat → Nat → Bool} {V : Nat → Bool} {x : Nat → Nat} {j : Nat} (hf : ma_fit w V x) : ∀ a, ∃ v, x j ≤ v ∧ v ≤ x j + a ∧ ma_fit w V (ma_put x j v) ∧ (v = x j + a ∨ ¬ ma_fit w V (ma_put x j (v + 1))) := by
  intro a
  induction a with
  | zero => exact ⟨x j, Nat.le_refl _, Nat.le_refl _, ma_fit_eq (fun i _ => ma_put_id i) hf, Or.inl rfl⟩
  | succ a ih =>
    obtain ⟨v, h1, h2, h3, h4⟩ := ih
    by_cases q : ma_fit w V (ma_put x j (v + 1))
    · rcases h4 with h4 | h4
      · exact ⟨v + 1, by omega, by omega, q, Or.inl (by omega)⟩
      · exact absurd q h4
    · exact ⟨v, h1, by omega, h3, Or.inr q⟩
theorem ma_Gex {w : Nat → Nat → Bool} {V : Nat → Bool} {pr : Nat → Bool} {mu ma wo : Nat → Nat} (hf : ma_fit w V mu) : ∀ e, ∃ x, ma_G w V mu ma pr wo e x := by
  intro e
  induction e with
  | zero => exact ⟨mu, ma_G_0 hf⟩
  | succ e ih =>
    obtain ⟨x, h⟩ := ih
    rcases ma_no (pr := pr) (wo := wo) e with ⟨j, hj, hp, he⟩ | q
    · have hxj : x j = mu j := h.1.2.2.1 j hj (ma_D_at (by omega))
      obtain ⟨v, h1, h2, h3, h4⟩ := ma_max (j := j) h.1.1 (ma j)
      rw [hxj] at h1 h2 h4
      exact ⟨_, ma_G_grow h hj hp he h1 h2 h3 h4⟩
    · exact ⟨x, ma_G_skip h q⟩
theorem ma_ss (c p q : Int32) : c - p - q = c - (p + q) := by grind
section
variable {pt op : Int32} {bW bM bY bV bS : Nat → Int32} {sh ct : Int32} {aT aF aG aM aY aW aR aN aO aK aB : Nat → Int32} {pr : Nat → Bool} {mu ma wo fr tw x kg : Nat → Nat} {U : Nat → Bool}
theorem ma_xidle {c : Int32} (hS : ∀ j, j < 6 → bS j = nI (x j)) {post : Int32 → SX → Prop} (h : post (c - nI (ma_sum x 6)) (pt, op, bW, bM, bY, bV, bS)) : ∃ n, wX_idle_18 post pt op bW bM bY bV bS n c 0 := by
  refine loop_0 (fun n i s => wX_idle_18 post pt op bW bM bY bV bS n s (nI i)) (fun i s => s = c - nI (ma_sum x i)) 6 c (Int32.sub_zero c).symm ?_ ?_
  · intro n s e
    subst e
    exact br_t ma_y6 h
  · intro n i s hi e ih
    subst e
    exact br_f (ma_6 hi) ⟨ma_in6 hi, nm_e (nm_r (nI_1 i) (ih _ (by rw [ma_c6 hi, hS i hi, ma_ss, nI_add, ma_sum_s])))⟩
theorem ma_yidle (hT : ∀ j, j < 6 → aT j = if pr j = true then 1 else 0) (hs : ∀ t, t < 24 → bt sh t = !U t) (hW : ma_Yp pr mu ma wo aM aY aW) (hB : ∀ j, j < 6 → pr j = true → aB j = nI (kg j)) {post : Int32 → SY → Prop} (h : post (nI (ma_sum (fun t => if U t = true then 1 else 0) 24) - nI (ma_sum (fun j => if pr j = true then mu j + kg j else 0) 6)) (sh, ct, aT, aF, aG, aM, aY, aW, aR, aN, aO, aK, aB)) : ∃ n, wY_idle_9 post sh ct aT aF aG aM aY aW aR aN aO aK aB n 0 0 := by
  refine loop_0 (fun n i s => wY_idle_9 post sh ct aT aF aG aM aY aW aR aN aO aK aB n s (nI i)) (fun i s => s = nI (ma_sum (fun t => if U t = true then 1 else 0) i)) 24 0 rfl ?_ ?_
  · intro n c e
    subst e
    refine br_t ma_y24 ?_
    refine loop_0 (fun n i s => wY_idle_42 post sh ct aT aF aG aM aY aW aR aN aO aK aB n s (nI i)) (fun i s => s = nI (ma_sum (fun t => if U t = true then 1 else 0) 24) - nI (ma_sum (fun j => if pr j = true then mu j + kg j else 0) i)) 6 _ (Int32.sub_zero _).symm ?_ ?_
    · intro n s e
      subst e
      exact br_t ma_y6 h
    · intro n i s hi e ih
      subst e
      refine br_f (ma_6 hi) ⟨ma_in6 hi, br_c (fun q => nm_r (Int32.sub_zero _) (nm_r (nI_1 i) (ih _ ?_))) (fun q => ⟨ma_in6 hi, ma_in6 hi, nm_e (nm_r (nI_1 i) (ih _ ?_))⟩)⟩
      · rw [ma_sum_s (fun j => if pr j = true then mu j + kg j else 0) i, (ma_th0 hT hi).mp q, if_neg Bool.false_ne_true, Nat.add_zero]
      · have p : pr i = true := ma_nf fun z => q ((ma_th0 hT hi).mpr z)
        rw [ma_sum_s (fun j => if pr j = true then mu j + kg j else 0) i, if_pos p, ma_c6 hi, (hW i hi p).1, hB i hi p, nI_add, ma_ss, nI_add]
  · intro n i s hi e ih
    subst e
    have b := ma_bit0 sh (j := i) (by omega)
    rw [hs i hi] at b
    refine br_f (ma_24 hi) (br_c (fun q => nm_r (nI_1 _) (nm_r (nI_1 i) (ih _ ?_))) (fun q => nm_r (Int32.add_zero _) (nm_r (nI_1 i) (ih _ ?_))))
    · have a := b.mp q
      have a' : U i = true := by
        revert a
        cases U i <;> decide
      rw [ma_sum_s, a', if_pos rfl]
    · have a := mt b.mpr q
      have a' : U i = false := by
        revert a
        cases U i <;> decide
      rw [ma_sum_s, a', if_neg Bool.false_ne_true, Nat.add_zero]
theorem ma_fitsWithE {w : Nat → Nat → Bool} {V : Nat → Bool} {j v : Nat} {p : Int32} (ep : p = nI v) (hw : ∀ j, j < 6 → ∀ t, t < 24 → bt (bW j) t = w j t) (hu : ∀ t, t < 24 → bt op t = V t) (hM : ∀ j, j < 6 → bM j = nI (mu j)) (hm : ∀ j, j < 6 → mu j ≤ 6) (hj : j < 6) (hv : v ≤ 100) {post : Int32 → SX → Prop} (h1 : ∀ bS' : Nat → Int32, ma_fit w V (ma_put mu j v) → post 1 (pt, op, bW, bM, bY, bV, bS')) (h2 : ∀ bS' : Nat → Int32, ¬ ma_fit w V (ma_put mu j v) → post 0 (pt, op, bW, bM, bY, bV, bS')) : wpX_fitsWithMust post (pt, op, bW, bM, bY, bV, bS) (nI j) p := by
  subst ep
  exact ma_fitsWith hw hu hM hm hj hv h1 h2
theorem ma_xgm {w : Nat → Nat → Bool} {V : Nat → Bool} {j G : Nat} (hw : ∀ j, j < 6 → ∀ t, t < 24 → bt (bW j) t = w j t) (hu : ∀ t, t < 24 → bt op t = V t) (hM : ∀ j, j < 6 → bM j = nI (mu j)) (hm : ∀ j, j < 6 → mu j ≤ 6) (hj : j < 6) (h1 : mu j ≤ G) (h2 : G ≤ 6) (h3 : ma_fit w V (ma_put mu j G)) (h4 : G = 6 ∨ ¬ ma_fit w V (ma_put mu j (G + 1))) {post : Int32 → SX → Prop} (h : ∀ bS' : Nat → Int32, post (nI G) (pt, op, bW, bM, bY, bV, bS')) : ∃ n, wX_greatestMust_17 post (nI j) n (nI (mu j)) pt op bW bM bY bV bS := by
  refine pk_loop (fun n i s => wX_greatestMust_17 post (nI j) n (nI i) pt op bW bM bY bV s) (fun _ _ => True) G (mu j) bS h1 trivial ?_ ?_
  · intro n s _
    rcases h4 with h4 | h4
    · subst h4
      exact br_t ma_y6 (h s)
    · by_cases c : G = 6
      · subst c
        exact br_t ma_y6 (h s)
      · exact br_f (ma_6 (by omega)) (ma_fitsWithE (nI_1 G) hw hu hM hm hj (by omega) (fun bS' f => absurd f h4) (fun bS' f => br_t rfl (h bS')))
  · intro n i s hi _ ih
    refine br_f (ma_6 (by omega)) (ma_fitsWithE (nI_1 i) hw hu hM hm hj (by omega) (fun bS' f => br_f (by decide) (nm_r (nI_1 i) (ih bS' trivial))) (fun bS' f => absurd (ma_fit_le (ma_put_le (by omega)) h3) f))
theorem ma_ygm {j G : Nat} (hP : ma_P pr mu ma wo) (hY : ma_Yt pr fr tw U sh aT aF aG) (hW : ma_Yp pr mu ma wo aM aY aW) (hj : j < 6) (hp : pr j = true) (h2 : G ≤ 6) (h3 : ma_fit (ma_w pr fr tw) U (ma_put mu j G)) (h4 : G = 6 ∨ ¬ ma_fit (ma_w pr fr tw) U (ma_put mu j (G + 1))) {post : Int32 → SY → Prop} (h : ∀ aM' aR' aN' : Nat → Int32, (∀ i, i ≠ j → aM' i = aM i) → post (nI G) (sh, ct, aT, aF, aG, upd aM' j (nI (mu j)), aY, aW, aR', aN', aO, aK, aB)) : ∃ n, wY_greatestMust_22 post (nI j) (nI (mu j)) n 0 0 sh ct aT aF aG aM aY aW aR aN aO aK aB := by
  refine loop_0 (fun n m (s : Int32 × (Nat → Int32) × (Nat → Int32) × (Nat → Int32)) => wY_greatestMust_22 post (nI j) (nI (mu j)) n s.1 (nI m) sh ct aT aF aG s.2.1 aY aW s.2.2.1 s.2.2.2 aO aK aB) (fun m s => (∃ q, s.1 = nI q ∧ ((m ≤ G + 1 ∧ q = m - 1) ∨ (G + 1 < m ∧ q = G))) ∧ ∀ i, i ≠ j → s.2.1 i = aM i) 7 (0, aM, aR, aN) ⟨⟨0, rfl, Or.inl ⟨by omega, rfl⟩⟩, fun _ _ => rfl⟩ ?_ ?_
  · intro n s e
    obtain ⟨x3, a, b, c⟩ := s
    obtain ⟨⟨q, e1, e2⟩, e3⟩ := e
    have eq : q = G := by omega
    have e1' : x3 = nI G := by rw [← eq]; exact e1
    subst e1'
    exact br_t (by decide) ⟨ma_in6 hj, nm_r (e' := upd a j (nI (mu j))) (by rw [ma_c6 hj]) (h a b c e3)⟩
  · intro n m s hm e ih
    obtain ⟨x3, a, b, c⟩ := s
    obtain ⟨⟨q, e1, e2⟩, e3⟩ := e
    try dsimp only at e1 e2 e3
    have hn : ∀ i, i ≠ j → upd a j (nI m) i = aM i := fun i hi => by rw [pk_un hi]; exact e3 i hi
    refine br_f (nI_nlt (a := 6) (by omega) (by decide)) ⟨ma_in6 hj, nm_r (e' := upd a j (nI m)) (by rw [ma_c6 hj]) ?_⟩
    refine ma_fits (x := ma_put mu j m) hY (fun i hi p => ?_) (fun i hi => ?_) (fun i hi p => ?_) (fun aR' aN' f => br_f (by decide) (nm_r (nI_1 m) (ih (nI m, upd a j (nI m), aR', aN') ⟨⟨m, rfl, Or.inl ⟨?_, rfl⟩⟩, hn⟩))) (fun aR' aN' f => br_t rfl (nm_r (nI_1 m) (ih (x3, upd a j (nI m), aR', aN') ⟨⟨q, e1, Or.inr ?_⟩, hn⟩)))
    · by_cases z : i = j
      · rw [z, pk_us, ma_put_s]
      · rw [hn i z, ma_put_n z]; exact (hW i hi p).1
    · by_cases z : i = j
      · rw [z, ma_put_s]; omega
      · rw [ma_put_n z]; exact ma_mu100 hP i hi
    · have z : i ≠ j := fun z => by
        rw [z, hp] at p
        exact absurd p (by decide)
      rw [ma_put_n z]
      exact ma_mu0 hP i hi p
    · apply Classical.byContradiction
      intro z
      rcases h4 with h4 | h4
      · omega
      · exact h4 (ma_fit_le (ma_put_le (by omega)) f)
    · have z : ¬ m ≤ G := fun z => f (ma_fit_le (ma_put_le z) h3)
      omega
end
theorem i_vc_loss {k : Nat} {u : SX} {v : SY} (I : i_Rel k u v) (hk : k + 4 ≤ 2048) : wpX_loss (fun r u' => wpY_loss (fun r' v' => r' = r ∧ i_Rel (k + 4) u' v') v) u := by
  obtain ⟨pt, op, bW, bM, bY, bV, bS⟩ := u
  obtain ⟨sh, ct, aT, aF, aG, aM, aY, aW, aR, aN, aO, aK, aB⟩ := v
  obtain ⟨pr, mu, ma, wo, fr, tw, U, hP, hX, hY, hW, hH, hf⟩ := ma_un I
  unfold wpX_loss
  dsimp only
  refine ma_shareBest hP hX.2.2.1 hX.2.1 hX.2.2.2.1 hX.2.2.2.2.1 hX.2.2.2.2.2 hf (fun bS' x e hG => ma_lossOf hP hX.2.2.2.1 hX.2.2.2.2.1 hX.2.2.2.2.2 e hG.1.2.1 ?_)
  unfold wpY_loss
  dsimp only
  exact ma_tryAll hP hY hW (ma_G_Best hG) (fun _ _ _ _ _ _ _ => ⟨rfl, ma_rel hP hX hY hW hH hf⟩)
theorem i_vc_kept {k : Nat} {u : SX} {v : SY} (I : i_Rel k u v) (hk : k + 4 ≤ 2048) (v1 : Int32) : wpX_kept (fun r u' => wpY_kept (fun r' v' => r' = r ∧ i_Rel (k + 4) u' v') v v1) u v1 := by
  obtain ⟨pt, op, bW, bM, bY, bV, bS⟩ := u
  obtain ⟨sh, ct, aT, aF, aG, aM, aY, aW, aR, aN, aO, aK, aB⟩ := v
  obtain ⟨pr, mu, ma, wo, fr, tw, U, hP, hX, hY, hW, hH, hf⟩ := ma_un I
  unfold wpX_kept
  dsimp only
  by_cases ht : ma_tk pr v1
  · obtain ⟨j, hj, rfl, hp⟩ := ht
    refine ma_isTask1 hX.1 hj hp (br_f (by decide) ?_)
    refine ma_shareBest hP hX.2.2.1 hX.2.1 hX.2.2.2.1 hX.2.2.2.2.1 hX.2.2.2.2.2 hf (fun bS' x e hG => ⟨ma_in6 hj, ma_in6 hj, ?_⟩)
    unfold wpY_kept
    dsimp only
    refine ma_tryAll hP hY hW (ma_G_Best hG) (fun _ _ _ _ _ aB' hB => ma_is1 hY.1 hj hp (br_f (by decide) ⟨ma_in6 hj, ?_, ma_rel hP hX hY hW hH hf⟩))
    show aB' (nI j).toNatClampNeg = bS' (nI j).toNatClampNeg - bM (nI j).toNatClampNeg
    rw [ma_c6 hj, hB j hj hp, e j hj, hX.2.2.2.1 j hj, pk_sub (hG.1.2.1 j hj).1]
  · refine ma_isTask0 hX.1 ht (br_t rfl ?_)
    unfold wpY_kept
    dsimp only
    obtain ⟨x, hG⟩ := ma_Gex (ma := ma) (pr := pr) (wo := wo) hf 54
    exact ma_tryAll hP hY hW (ma_G_Best hG) (fun _ _ _ _ _ aB' hB => ma_is0 hY.1 ht (br_t rfl ⟨rfl, ma_rel hP hX hY hW hH hf⟩))
theorem i_vc_idle {k : Nat} {u : SX} {v : SY} (I : i_Rel k u v) (hk : k + 4 ≤ 2048) : wpX_idle (fun r u' => wpY_idle (fun r' v' => r' = r ∧ i_Rel (k + 4) u' v') v) u := by
  obtain ⟨pt, op, bW, bM, bY, bV, bS⟩ := u
  obtain ⟨sh, ct, aT, aF, aG, aM, aY, aW, aR, aN, aO, aK, aB⟩ := v
  obtain ⟨pr, mu, ma, wo, fr, tw, U, hP, hX, hY, hW, hH, hf⟩ := ma_un I
  unfold wpX_idle
  dsimp only
  refine ma_shareBest hP hX.2.2.1 hX.2.1 hX.2.2.2.1 hX.2.2.2.2.1 hX.2.2.2.2.2 hf (fun bS' x e hG => ma_countUnits (ma_xidle e ?_))
  unfold wpY_idle
  dsimp only
  refine ma_tryAll hP hY hW (ma_G_Best hG) (fun _ _ _ _ _ aB' hB => ma_yidle hY.1 hY.2.2 hW hB ⟨?_, ma_rel hP hX hY hW hH hf⟩)
  have a : ma_sum (fun t => if U t = true then 1 else 0) 24 = ma_sum (fun t => if bt op t = true then 1 else 0) 24 := ma_sum_eq 24 fun t ht => by
    try dsimp only
    rw [hX.2.1 t ht]
  have b : ma_sum (fun j => if pr j = true then mu j + (x j - mu j) else 0) 6 = ma_sum x 6 := ma_sum_eq 6 fun j hj => by
    try dsimp only
    have q := hG.1.2.1 j hj
    cases hp : pr j with
    | true => rw [if_pos rfl]; omega
    | false =>
      have := (hP j hj).2 hp
      rw [if_neg Bool.false_ne_true]
      omega
  rw [a, b]
theorem i_vc_lossWithout {k : Nat} {u : SX} {v : SY} (I : i_Rel k u v) (hk : k + 4 ≤ 2048) (v1 : Int32) : wpX_lossWithout (fun r u' => wpY_lossWithout (fun r' v' => r' = r ∧ i_Rel (k + 4) u' v') v v1) u v1 := by
  obtain ⟨pt, op, bW, bM, bY, bV, bS⟩ := u
  obtain ⟨sh, ct, aT, aF, aG, aM, aY, aW, aR, aN, aO, aK, aB⟩ := v
  obtain ⟨pr, mu, ma, wo, fr, tw, U, hP, hX, hY, hW, hH, hf⟩ := ma_un I
  unfold wpX_lossWithout
  dsimp only
  rcases pk_ix v1 (n := 24) (by decide) with z | z | ⟨t, ht, rfl⟩
  · exact ma_isUnit0 (Or.inl z) (br_t rfl (br_t z ⟨rfl, i_up I⟩))
  · exact ma_isUnit0 (Or.inr z) (br_t rfl (br_f (ma_n0 (by decide) z) (br_f (ma_23 z) ⟨rfl, i_up I⟩)))
  · have hY' : ma_Yt pr fr tw (ma_pb U t false) (sh ||| ((1 : Int32) <<< (nI t &&& 31))) aT aF aG := ⟨hY.1, hY.2.1, ma_sh_on ht hY.2.2⟩
    refine ma_isUnit1 ht (br_f (by decide) (nm_e (ma_shareMusts (fun bS' e => ma_sharesFit (w := ma_w pr fr tw) (V := ma_pb U t false) (x := mu) hX.2.2.1 (ma_op_on ht hX.2.1) (fun j hj => (e j hj).trans (hX.2.2.2.1 j hj)) (ma_mu100 hP) (fun f => br_f (by decide) ?_) (fun f => br_t rfl ?_)))))
    · refine ma_shareBest hP hX.2.2.1 (ma_op_on ht hX.2.1) hX.2.2.2.1 hX.2.2.2.2.1 hX.2.2.2.2.2 f (fun bS2 x e hG => ma_lossOf hP hX.2.2.2.1 hX.2.2.2.2.1 hX.2.2.2.2.2 e hG.1.2.1 ?_)
      refine br_f (nI_pos (by omega)) (br_t (ma_le23 ht) (nm_e ?_))
      refine ma_fits (x := mu) hY' (fun j hj p => (hW j hj p).1) (ma_mu100 hP) (ma_mu0 hP) (fun aR' aN' _ => br_f (by decide) ?_) (fun aR' aN' f' => absurd f f')
      exact ma_tryAll hP hY' hW (ma_G_Best hG) (fun _ _ _ _ _ _ _ => ⟨rfl, ma_rel hP hX hY hW hH hf⟩)
    · refine br_f (nI_pos (by omega)) (br_t (ma_le23 ht) (nm_e ?_))
      exact ma_fits (x := mu) hY' (fun j hj p => (hW j hj p).1) (ma_mu100 hP) (ma_mu0 hP) (fun aR' aN' f' => absurd f' f) (fun aR' aN' _ => br_t rfl ⟨rfl, ma_rel hP hX hY hW hH hf⟩)
theorem i_vc_greatestMust {k : Nat} {u : SX} {v : SY} (I : i_Rel k u v) (hk : k + 4 ≤ 2048) (v1 : Int32) : wpX_greatestMust (fun r u' => wpY_greatestMust (fun r' v' => r' = r ∧ i_Rel (k + 4) u' v') v v1) u v1 := by
  obtain ⟨pt, op, bW, bM, bY, bV, bS⟩ := u
  obtain ⟨sh, ct, aT, aF, aG, aM, aY, aW, aR, aN, aO, aK, aB⟩ := v
  obtain ⟨pr, mu, ma, wo, fr, tw, U, hP, hX, hY, hW, hH, hf⟩ := ma_un I
  unfold wpX_greatestMust
  dsimp only
  by_cases ht : ma_tk pr v1
  · obtain ⟨j, hj, rfl, hp⟩ := ht
    have b := (ma_P6 hP hj).1
    obtain ⟨G, h1, h2, h3, h4⟩ := ma_max (j := j) hf (6 - mu j)
    have h2' : G ≤ 6 := by omega
    have h4' : G = 6 ∨ ¬ ma_fit (ma_w pr fr tw) U (ma_put mu j (G + 1)) := h4.imp (fun z => by omega) id
    refine ma_isTask1 hX.1 hj hp (br_f (by decide) ⟨ma_in6 hj, nm_r (e' := nI (mu j)) (by rw [ma_c6 hj]; exact hX.2.2.2.1 j hj) ?_⟩)
    refine ma_xgm hX.2.2.1 hX.2.1 hX.2.2.2.1 (fun i hi => (ma_P6 hP hi).1) hj h1 h2' h3 h4' (fun bS' => ?_)
    unfold wpY_greatestMust
    dsimp only
    refine ma_is1 hY.1 hj hp (br_f (by decide) ⟨ma_in6 hj, nm_r (e' := nI (mu j)) (by rw [ma_c6 hj]; exact (hW j hj hp).1) ?_⟩)
    refine ma_ygm hP hY hW hj hp h2' h3 h4' (fun aM' aR' aN' e => ⟨rfl, ?_⟩)
    have hW2 : ma_Yp pr mu ma wo (upd aM' j (nI (mu j))) aY aW := fun i hi p => by
      by_cases z : i = j
      · rw [z, pk_us]
        exact ⟨rfl, (hW j hj hp).2⟩
      · rw [pk_un z, e i z]
        exact hW i hi p
    exact ma_rel hP hX hY hW2 hH hf
  · refine ma_isTask0 hX.1 ht (br_t rfl ?_)
    unfold wpY_greatestMust
    dsimp only
    exact ma_is0 hY.1 ht (br_t rfl ⟨rfl, i_up I⟩)
