/-! take, block, change, tasks, blocked, bring -/
section
variable {pt op : Int32} {bW bM bY bV bS : Nat → Int32} {sh ct : Int32} {aT aF aG aM aY aW aR aN aO aK aB : Nat → Int32} {pr : Nat → Bool} {mu ma wo fr tw : Nat → Nat} {U : Nat → Bool}
theorem ma_mu100 (hP : ma_P pr mu ma wo) : ∀ j, j < 6 → mu j ≤ 100 := fun j hj => by
  have := (ma_P6 hP hj).1
  omega
theorem ma_mu0 (hP : ma_P pr mu ma wo) : ∀ j, j < 6 → pr j = false → mu j = 0 := fun j hj h => ((hP j hj).2 h).1
theorem ma_isUnit1 {t : Nat} (ht : t < 24) {post : Int32 → Prop} (hq : post 1) : wpX_isUnit post (nI t) :=
  br_f (nI_pos (by omega)) (br_f (ma_24 ht) hq)
theorem ma_isUnit0 {x : Int32} (h : x < 0 ∨ nI 24 ≤ x) {post : Int32 → Prop} (hq : post 0) : wpX_isUnit post x := by
  rcases h with h | h
  · exact br_t h hq
  · exact br_c (fun _ => hq) (fun _ => br_t h hq)
theorem ma_mustOf {p : Int32} {m : Nat} (e : p &&& 7 = nI m) {post : Int32 → Prop} (h : post (nI m)) : wpX_mustOf post p := by
  unfold wpX_mustOf
  rw [e]
  exact h
theorem ma_sh_on {t : Nat} (ht : t < 24) (h : ∀ t, t < 24 → bt sh t = !U t) : ∀ i, i < 24 → bt (sh ||| ((1 : Int32) <<< (nI t &&& 31))) i = !ma_pb U t false i := by
  intro i hi
  rw [ma_set _ (by omega) (by omega), h i hi]
  by_cases e : i = t
  · rw [e, ma_pb_s, decide_eq_true rfl, Bool.or_true]; rfl
  · rw [ma_pb_n e, decide_eq_false e, Bool.or_false]
theorem ma_sh_off {t : Nat} (ht : t < 24) (h : ∀ t, t < 24 → bt sh t = !U t) : ∀ i, i < 24 → bt (sh &&& (((1 : Int32) <<< (nI t &&& 31)) ^^^ (-1))) i = !ma_pb U t true i := by
  intro i hi
  rw [ma_clr _ (by omega) (by omega), h i hi]
  by_cases e : i = t
  · rw [e, ma_pb_s, decide_eq_true rfl, Bool.not_true, Bool.and_false]
  · rw [ma_pb_n e, decide_eq_false e, Bool.not_false, Bool.and_true]
theorem ma_op_on {t : Nat} (ht : t < 24) (h : ∀ t, t < 24 → bt op t = U t) : ∀ i, i < 24 → bt (op &&& (((1 : Int32) <<< (nI t &&& 31)) ^^^ (-1))) i = ma_pb U t false i := by
  intro i hi
  rw [ma_clr _ (by omega) (by omega), h i hi]
  by_cases e : i = t
  · rw [e, ma_pb_s, decide_eq_true rfl, Bool.not_true, Bool.and_false]
  · rw [ma_pb_n e, decide_eq_false e, Bool.not_false, Bool.and_true]
theorem ma_op_off {t : Nat} (ht : t < 24) (h : ∀ t, t < 24 → bt op t = U t) : ∀ i, i < 24 → bt (op ||| ((1 : Int32) <<< (nI t &&& 31))) i = ma_pb U t true i := by
  intro i hi
  rw [ma_set _ (by omega) (by omega), h i hi]
  by_cases e : i = t
  · rw [e, ma_pb_s, decide_eq_true rfl, Bool.or_true]
  · rw [ma_pb_n e, decide_eq_false e, Bool.or_false]
theorem ma_block43 (hP : ma_P pr mu ma wo) (hY : ma_Yt pr fr tw U sh aT aF aG) (hW : ma_Yp pr mu ma wo aM aY aW) {sh' old : Int32} {U' : Nat → Bool} (hs : ∀ t, t < 24 → bt sh' t = !U' t) {post : Int32 → SY → Prop} {x1 : Int32} (h1 : ∀ aR' aN' : Nat → Int32, ma_fit (ma_w pr fr tw) U' mu → post x1 (sh', ct, aT, aF, aG, aM, aY, aW, aR', aN', aO, aK, aB)) (h2 : ∀ aR' aN' : Nat → Int32, ¬ ma_fit (ma_w pr fr tw) U' mu → post (-3) (old, ct, aT, aF, aG, aM, aY, aW, aR', aN', aO, aK, aB)) : wY_block_43 post x1 old sh' sh ct aT aF aG aM aY aW aR aN aO aK aB := by
  unfold wY_block_43
  exact ma_fits (x := mu) (U := U') ⟨hY.1, hY.2.1, hs⟩ (fun j hj p => (hW j hj p).1) (ma_mu100 hP) (ma_mu0 hP) (fun aR' aN' f => br_f (by decide) (h1 aR' aN' f)) (fun aR' aN' f => br_t rfl (h2 aR' aN' f))
theorem ma_23 {x : Int32} (h : nI 24 ≤ x) : ¬ x ≤ 23 := fun z => absurd (Int32.le_trans h z) (by decide)
theorem ma_le23 {t : Nat} (h : t < 24) : nI t ≤ 23 := nI_le (b := 23) (by omega) (by decide)
end
theorem i_vc_take {k : Nat} {u : SX} {v : SY} (I : i_Rel k u v) (hk : k + 4 ≤ 2048) (v1 : Int32) : wpX_take (fun r u' => wpY_take (fun r' v' => r' = r ∧ i_Rel (k + 4) u' v') v v1) u v1 := by
  obtain ⟨pt, op, bW, bM, bY, bV, bS⟩ := u
  obtain ⟨sh, ct, aT, aF, aG, aM, aY, aW, aR, aN, aO, aK, aB⟩ := v
  obtain ⟨pr, mu, ma, wo, fr, tw, U, hP, hX, hY, hW, hH, hf⟩ := ma_un I
  unfold wpX_take
  dsimp only
  by_cases ht : ma_tk pr v1
  · obtain ⟨j, hj, rfl, hp⟩ := ht
    refine ma_isTask1 hX.1 hj hp (br_f (by decide) (nm_e ⟨ma_in6 hj, nm_r (e' := upd bW j 0) (by rw [ma_c6 hj]) ?_⟩))
    refine ma_setParts (m := 0) (a := 0) (c := 0) hj (by decide) (by decide) (by decide) ?_
    dsimp only
    unfold wpY_take
    dsimp only
    refine ma_is1 hY.1 hj hp (br_f (by decide) ⟨ma_in6 hj, nm_r (e' := upd aT j (if false = true then 1 else 0)) (by rw [ma_c6 hj, ma_vn0]; rfl) ⟨rfl, ?_⟩⟩)
    refine ma_rel (pr := ma_pb pr j false) (mu := ma_put mu j 0) (ma := ma_put ma j 0) (wo := ma_put wo j 0) (fr := fr) (tw := tw) (U := U) (fun i hi => ?_) ⟨fun i hi => ?_, hX.2.1, fun i hi t ht => ?_, ma_nat_put hX.2.2.2.1, ma_nat_put hX.2.2.2.2.1, ma_nat_put hX.2.2.2.2.2⟩ ⟨ma_T_put (b := false) hY.1, fun i hi q => ?_, hY.2.2⟩ (fun i hi q => ?_) hH (ma_fit_take hf)
    · by_cases e : i = j
      · rw [e, ma_pb_s, ma_put_s, ma_put_s, ma_put_s]
        exact ⟨fun z => absurd z (by decide), fun _ => ⟨rfl, rfl, rfl⟩⟩
      · rw [ma_pb_n e, ma_put_n e, ma_put_n e, ma_put_n e]
        exact hP i hi
    · rw [ma_clr _ (by omega) hi, hX.1 i hi]
      by_cases e : i = j
      · rw [e, ma_pb_s, decide_eq_true rfl, Bool.not_true, Bool.and_false, Bool.and_false]
      · rw [ma_pb_n e, decide_eq_false e, Bool.not_false, Bool.and_true]
    · unfold ma_w
      by_cases e : i = j
      · rw [e, pk_us, ma_pb_s, b_0, Bool.false_and]
      · rw [pk_un e, ma_pb_n e]
        exact hX.2.2.1 i hi t ht
    · have e : i ≠ j := fun z => by
        rw [z, ma_pb_s] at q
        exact absurd q (by decide)
      rw [ma_pb_n e] at q
      exact hY.2.1 i hi q
    · have e : i ≠ j := fun z => by
        rw [z, ma_pb_s] at q
        exact absurd q (by decide)
      rw [ma_pb_n e] at q
      rw [ma_put_n e, ma_put_n e, ma_put_n e]
      exact hW i hi q
  · refine ma_isTask0 hX.1 ht (br_t rfl ?_)
    unfold wpY_take
    dsimp only
    exact ma_is0 hY.1 ht (br_t rfl ⟨rfl, i_up I⟩)
theorem i_vc_block {k : Nat} {u : SX} {v : SY} (I : i_Rel k u v) (hk : k + 4 ≤ 2048) (v1 : Int32) (v2 : Int32) : wpX_block (fun r u' => wpY_block (fun r' v' => r' = r ∧ i_Rel (k + 4) u' v') v v1 (lw_bz v2)) u v1 (lw_bz v2) := by
  obtain ⟨pt, op, bW, bM, bY, bV, bS⟩ := u
  obtain ⟨sh, ct, aT, aF, aG, aM, aY, aW, aR, aN, aO, aK, aB⟩ := v
  obtain ⟨pr, mu, ma, wo, fr, tw, U, hP, hX, hY, hW, hH, hf⟩ := ma_un I
  unfold wpX_block
  dsimp only
  rcases pk_ix v1 (n := 24) (by decide) with z | z | ⟨t, ht, rfl⟩
  · exact ma_isUnit0 (Or.inl z) (br_t rfl (br_t z ⟨rfl, i_up I⟩))
  · exact ma_isUnit0 (Or.inr z) (br_t rfl (br_f (ma_n0 (by decide) z) (br_f (ma_23 z) ⟨rfl, i_up I⟩)))
  · refine ma_isUnit1 ht (br_f (by decide) ?_)
    rcases lw_bz_01 v2 with e | e
    · rw [e]
      refine br_t rfl (nm_e (br_f (nI_pos (by omega)) (br_t (ma_le23 ht) (br_t rfl ?_))))
      refine ma_block43 hP hY hW (ma_sh_off ht hY.2.2) (fun aR' aN' f => ⟨rfl, ?_⟩) (fun aR' aN' f => absurd (ma_fit_U (fun _ _ _ _ h => h) (fun i _ h => ?_) hf) f)
      · refine ma_rel (U := ma_pb U t true) hP ⟨hX.1, ma_op_off ht hX.2.1, hX.2.2⟩ ⟨hY.1, hY.2.1, ma_sh_off ht hY.2.2⟩ hW (fun i h1 h2 => ?_) f
        rw [ma_clr _ (by omega) h2, hH i h1 h2, Bool.false_and]
      · by_cases c : i = t
        · rw [c, ma_pb_s]
        · rw [ma_pb_n c]; exact h
    · rw [e]
      refine br_f (by decide) (nm_e (ma_shareMusts (fun bS' e => ma_sharesFit (w := ma_w pr fr tw) (V := ma_pb U t false) (x := mu) hX.2.2.1 (ma_op_on ht hX.2.1) (fun j hj => (e j hj).trans (hX.2.2.2.1 j hj)) (ma_mu100 hP) (fun f => br_f (by decide) ?_) (fun f => br_t rfl ?_))))
      · refine br_f (nI_pos (by omega)) (br_t (ma_le23 ht) (br_f (by decide) ?_))
        refine ma_block43 hP hY hW (ma_sh_on ht hY.2.2) (fun aR' aN' _ => ⟨rfl, ?_⟩) (fun aR' aN' f' => absurd f f')
        refine ma_rel (U := ma_pb U t false) hP ⟨hX.1, ma_op_on ht hX.2.1, hX.2.2⟩ ⟨hY.1, hY.2.1, ma_sh_on ht hY.2.2⟩ hW (fun i h1 h2 => ?_) f
        rw [ma_set _ (by omega) h2, hH i h1 h2, Bool.false_or, decide_eq_false (by omega)]
      · refine br_f (nI_pos (by omega)) (br_t (ma_le23 ht) (br_f (by decide) ?_))
        exact ma_block43 hP hY hW (ma_sh_on ht hY.2.2) (fun aR' aN' f' => absurd f' f) (fun aR' aN' _ => ⟨rfl, ma_rel hP hX hY hW hH hf⟩)
theorem i_vc_change {k : Nat} {u : SX} {v : SY} (I : i_Rel k u v) (hk : k + 4 ≤ 2048) (v1 : Int32) (v2 : Int32) : wpX_change (fun r u' => wpY_change (fun r' v' => r' = r ∧ i_Rel (k + 4) u' v') v v1 v2) u v1 v2 := by
  obtain ⟨pt, op, bW, bM, bY, bV, bS⟩ := u
  obtain ⟨sh, ct, aT, aF, aG, aM, aY, aW, aR, aN, aO, aK, aB⟩ := v
  obtain ⟨pr, mu, ma, wo, fr, tw, U, hP, hX, hY, hW, hH, hf⟩ := ma_un I
  unfold wpX_change
  dsimp only
  by_cases ht : ma_tk pr v1
  · obtain ⟨j, hj, rfl, hp⟩ := ht
    refine ma_isTask1 hX.1 hj hp (br_f (by decide) ?_)
    by_cases hg : ∃ m a c, ma_gd v2 m a c
    · obtain ⟨m, a, c, g⟩ := hg
      have g' := g
      obtain ⟨h1, h2, h3, h4, e1, e2, e3⟩ := g'
      have epr : ma_pb pr j true = pr := funext fun i => by
        by_cases e : i = j
        · rw [e, ma_pb_s, hp]
        · rw [ma_pb_n e]
      have hP' := ma_P_put (j := j) hP ⟨h1, h2, h3, h4⟩
      have hW' := ma_Yp_put (j := j) (m := m) (a := a) (c := c) hW
      rw [epr] at hP' hW'
      have q := hW j hj hp
      have b := ma_P6 hP hj
      have eo : aM (nI j).toNatClampNeg + 8 * aY (nI j).toNatClampNeg + 64 * aW (nI j).toNatClampNeg = nI (mu j + 8 * ma j + 64 * wo j) := by
        rw [ma_c6 hj, q.1, q.2.1, q.2.2]
        show nI (mu j) + nI 8 * nI (ma j) + nI 64 * nI (wo j) = _
        rw [pk_mul, pk_mul, nI_add, nI_add]
      have o1 : nI (mu j + 8 * ma j + 64 * wo j) &&& 7 = nI (mu j) := by
        rw [pk_andN (by omega) (m := 7) 3 (by decide)]
        exact congrArg nI (by omega)
      have o2 : (nI (mu j + 8 * ma j + 64 * wo j) >>> ((3 : Int32) &&& 31)) &&& 7 = nI (ma j) := by
        rw [pk_shrN (by omega) _ 3 (by decide), pk_andN (by omega) (m := 7) 3 (by decide)]
        exact congrArg nI (by omega)
      have o3 : nI (mu j + 8 * ma j + 64 * wo j) >>> ((6 : Int32) &&& 31) = nI (wo j) := by
        rw [pk_shrN (by omega) _ 6 (by decide)]
        exact congrArg nI (by omega)
      refine ma_isPacked1 g (br_f (by decide) (ma_mustOf e1 (ma_fitsWith hX.2.2.1 hX.2.1 hX.2.2.2.1 (fun i hi => (ma_P6 hP hi).1) hj (by omega) (fun bS' f => br_f (by decide) (ma_setParts hj e1 e2 e3 ?_)) (fun bS' f => br_t rfl ?_))))
      · dsimp only
        unfold wpY_change
        dsimp only
        refine ma_is1 hY.1 hj hp (br_f (by decide) (ma_form1 g (br_f (by decide) ⟨ma_in6 hj, ma_in6 hj, ma_in6 hj, nm_r eo (ma_hold hj e1 e2 e3 ?_)⟩)))
        exact ma_fits (x := ma_put mu j m) hY (fun i hi p => (hW' i hi p).1) (ma_mu100 hP') (ma_mu0 hP') (fun aR' aN' _ => br_f (by decide) ⟨rfl, ma_rel hP' ⟨hX.1, hX.2.1, hX.2.2.1, ma_nat_put hX.2.2.2.1, ma_nat_put hX.2.2.2.2.1, ma_nat_put hX.2.2.2.2.2⟩ hY hW' hH f⟩) (fun aR' aN' f' => absurd f f')
      · dsimp only
        unfold wpY_change
        dsimp only
        refine ma_is1 hY.1 hj hp (br_f (by decide) (ma_form1 g (br_f (by decide) ⟨ma_in6 hj, ma_in6 hj, ma_in6 hj, nm_r eo (ma_hold hj e1 e2 e3 ?_)⟩)))
        have hW2 : ma_Yp pr mu ma wo (upd (upd aM j (nI m)) j (nI (mu j))) (upd (upd aY j (nI a)) j (nI (ma j))) (upd (upd aW j (nI c)) j (nI (wo j))) := fun i hi p => by
          by_cases e : i = j
          · rw [e, pk_us, pk_us, pk_us]
            exact ⟨rfl, rfl, rfl⟩
          · rw [pk_un e, pk_un e, pk_un e, pk_un e, pk_un e, pk_un e]
            exact hW i hi p
        exact ma_fits (x := ma_put mu j m) hY (fun i hi p => (hW' i hi p).1) (ma_mu100 hP') (ma_mu0 hP') (fun aR' aN' f' => absurd f' f) (fun aR' aN' _ => br_t rfl (ma_hold hj o1 o2 o3 ⟨rfl, ma_rel hP hX hY hW2 hH hf⟩))
    · refine ma_isPacked0 hg (br_t rfl ?_)
      unfold wpY_change
      dsimp only
      exact ma_is1 hY.1 hj hp (br_f (by decide) (ma_form0 hg (br_t rfl ⟨rfl, i_up I⟩)))
  · refine ma_isTask0 hX.1 ht (br_t rfl ?_)
    unfold wpY_change
    dsimp only
    exact ma_is0 hY.1 ht (br_t rfl ⟨rfl, i_up I⟩)
theorem i_vc_tasks {k : Nat} {u : SX} {v : SY} (I : i_Rel k u v) (hk : k + 4 ≤ 2048) : wpX_tasks (fun r => wpY_tasks (fun r' => r' = r ∧ i_Rel (k + 4) u v) v) u := by
  obtain ⟨pt, op, bW, bM, bY, bV, bS⟩ := u
  obtain ⟨sh, ct, aT, aF, aG, aM, aY, aW, aR, aN, aO, aK, aB⟩ := v
  obtain ⟨pr, mu, ma, wo, fr, tw, U, hP, hX, hY, hW, hH, hf⟩ := ma_un I
  unfold wpX_tasks wpY_tasks
  dsimp only
  refine loop_0 (fun n i s => wY_tasks_4 (fun r' => r' = pt ∧ i_Rel (k + 4) (pt, op, bW, bM, bY, bV, bS) (sh, ct, aT, aF, aG, aM, aY, aW, aR, aN, aO, aK, aB)) sh ct aT aF aG aM aY aW aR aN aO aK aB n s (nI i)) (fun i s => ∀ b, b < 32 → bt s b = (decide (b < i) && pr b)) 6 0 (fun b _ => ?_) ?_ ?_
  · rw [b_0, decide_eq_false (Nat.not_lt_zero _), Bool.false_and]
  · intro n s e
    exact br_t ma_y6 ⟨b_ext fun b hb => (e b hb).trans (hX.1 b hb).symm, i_up I⟩
  · intro n i s hi e ih
    refine br_f (ma_6 hi) ⟨ma_in6 hi, br_c (fun q => nm_e (nm_r (nI_1 i) (ih _ fun b hb => ?_))) (fun q => nm_e (nm_r (nI_1 i) (ih _ fun b hb => ?_)))⟩
    · have p := (ma_th0 hY.1 hi).mp q
      rw [b_or, b_0, Bool.or_false, e b hb]
      by_cases c : b = i
      · rw [c, p, Bool.and_false, Bool.and_false]
      · rw [show decide (b < i + 1) = decide (b < i) from decide_eq_decide.mpr (by omega)]
    · have p : pr i = true := ma_nf fun z => q ((ma_th0 hY.1 hi).mpr z)
      rw [ma_set _ (by omega) hb, e b hb]
      by_cases c : b = i
      · rw [c, p, decide_eq_true rfl, Bool.or_true, decide_eq_true (Nat.lt_succ_self i)]
        rfl
      · rw [decide_eq_false c, Bool.or_false, show decide (b < i + 1) = decide (b < i) from decide_eq_decide.mpr (by omega)]
theorem i_vc_blocked {k : Nat} {u : SX} {v : SY} (I : i_Rel k u v) (hk : k + 4 ≤ 2048) : wpX_blocked (fun r => wpY_blocked (fun r' => r' = r ∧ i_Rel (k + 4) u v) v) u := by
  obtain ⟨pt, op, bW, bM, bY, bV, bS⟩ := u
  obtain ⟨sh, ct, aT, aF, aG, aM, aY, aW, aR, aN, aO, aK, aB⟩ := v
  obtain ⟨pr, mu, ma, wo, fr, tw, U, hP, hX, hY, hW, hH, hf⟩ := ma_un I
  unfold wpX_blocked wpY_blocked
  dsimp only
  refine ⟨b_ext fun i hi => ?_, i_up I⟩
  rw [ma_not op hi]
  by_cases c : i < 24
  · rw [decide_eq_true c, Bool.true_and, hX.2.1 i c, hY.2.2 i c]
  · rw [decide_eq_false c, Bool.false_and, hH i (by omega) hi]
theorem ma_least (pr : Nat → Bool) : (∀ j, j < 6 → pr j = true) ∨ ∃ j, j < 6 ∧ pr j = false ∧ ∀ i, i < j → pr i = true := by
  have h : ∀ n, (∀ j, j < n → pr j = true) ∨ ∃ j, j < n ∧ pr j = false ∧ ∀ i, i < j → pr i = true := by
    intro n
    induction n with
    | zero => exact Or.inl fun j hj => absurd hj (Nat.not_lt_zero _)
    | succ n ih =>
      rcases ih with ih | ⟨j, hj, a, b⟩
      · by_cases hp : pr n = true
        · refine Or.inl fun j hj => ?_
          by_cases c : j = n
          · rw [c, hp]
          · exact ih j (by omega)
        · exact Or.inr ⟨n, Nat.lt_succ_self n, ma_nt hp, ih⟩
      · exact Or.inr ⟨j, by omega, a, b⟩
  exact h 6
