/-! the reference's sort, next, lost, possible, keepBest -/
theorem pk_loopD {σ : Type} (W : Nat → Nat → σ → Prop) (I : Nat → σ → Prop) (hx : ∀ n s, I 0 s → W (n + 1) 0 s)
    (hs : ∀ n i s, I (i + 1) s → (∀ s', I i s' → W n i s') → W (n + 1) (i + 1) s) : ∀ (e : Nat) (s : σ), I e s → W (e + 1) e s := by
  intro e
  induction e with
  | zero => exact fun s h => hx 0 s h
  | succ e ih => exact fun s h => hs (e + 1) e s h (fun s' h' => ih s' h')
def ma_P (pr : Nat → Bool) (mu ma wo : Nat → Nat) : Prop :=
  ∀ j, j < 6 → (pr j = true → mu j ≤ 6 ∧ ma j ≤ 6 ∧ 1 ≤ wo j ∧ wo j ≤ 9) ∧ (pr j = false → mu j = 0 ∧ ma j = 0 ∧ wo j = 0)
def ma_Yp (pr : Nat → Bool) (mu ma wo : Nat → Nat) (aM aY aW : Nat → Int32) : Prop :=
  ∀ j, j < 6 → pr j = true → aM j = nI (mu j) ∧ aY j = nI (ma j) ∧ aW j = nI (wo j)
theorem ma_P6 {pr : Nat → Bool} {mu ma wo : Nat → Nat} (h : ma_P pr mu ma wo) {j : Nat} (hj : j < 6) : mu j ≤ 6 ∧ ma j ≤ 6 ∧ wo j ≤ 9 := by
  have q := h j hj
  cases hp : pr j with
  | true => have := q.1 hp; exact ⟨this.1, this.2.1, this.2.2.2⟩
  | false => have := q.2 hp; omega
def ma_ls (pr : Nat → Bool) (ma wo k : Nat → Nat) : Nat := ma_on pr (fun j => wo j * (ma j - k j))
theorem ma_ls_add {pr : Nat → Bool} {ma wo k : Nat → Nat} (h : ∀ j, j < 6 → k j ≤ ma j) : ma_ls pr ma wo k + ma_on pr (fun j => wo j * k j) = ma_on pr (fun j => wo j * ma j) := by
  unfold ma_ls
  rw [← ma_on_add]
  refine ma_on_eq (fun _ _ => rfl) fun j hj _ => ?_
  have := h j hj
  try dsimp only
  rw [← Nat.mul_add, Nat.sub_add_cancel this]
theorem ma_ls_bd {pr : Nat → Bool} {mu ma wo k : Nat → Nat} (h : ma_P pr mu ma wo) : ma_ls pr ma wo k ≤ 324 := by
  have q : ma_ls pr ma wo k ≤ 6 * 54 := ma_sum_lt 6 fun j hj => by
    try dsimp only
    have b := ma_P6 h hj
    split
    · exact Nat.le_trans (Nat.mul_le_mul b.2.2 (Nat.sub_le _ _)) (Nat.mul_le_mul_left 9 b.2.1)
    · exact Nat.zero_le _
  omega
section
variable {sh ct : Int32} {aT aF aG aM aY aW aR aN aO aK aB : Nat → Int32} {pr : Nat → Bool} {mu ma wo fr tw : Nat → Nat} {U : Nat → Bool}
theorem ma_before (hP : ma_P pr mu ma wo) (hW : ma_Yp pr mu ma wo aM aY aW) {i j : Nat} (hi : i < 6) (hj : j < 6) (hp : pr i = true) {post : Int32 → Prop} (h : ∀ r : Int32, (pr j = true → r = if ma_key wo i < ma_key wo j then 1 else 0) → post r) : wpY_before post (sh, ct, aT, aF, aG, aM, aY, aW, aR, aN, aO, aK, aB) (nI i) (nI j) := by
  have hb := ma_P6 hP hi
  have hb2 := ma_P6 hP hj
  have f1 : pr j = true → (aW (nI j).toNatClampNeg < aW (nI i).toNatClampNeg ↔ wo j < wo i) := fun p => by
    rw [ma_c6 hi, ma_c6 hj, (hW i hi hp).2.2, (hW j hj p).2.2]
    exact nI_ltI (by omega) (by omega)
  have f2 : pr j = true → (aW (nI i).toNatClampNeg = aW (nI j).toNatClampNeg ↔ wo i = wo j) := fun p => by
    rw [ma_c6 hi, ma_c6 hj, (hW i hi hp).2.2, (hW j hj p).2.2]
    exact nI_eq (by omega) (by omega)
  have f3 : nI j ≤ nI i ↔ j ≤ i := nI_leI (by omega) (by omega)
  have g1 : pr j = true → 1 ≤ wo j := fun p => ((hP j hj).1 p).2.2.1
  refine ⟨ma_in6 hi, ma_in6 hj, br_c (fun q1 => h 1 fun p => ?_) (fun q1 => ⟨ma_in6 hi, ma_in6 hj, br_c (fun q2 => br_c (fun q3 => h 0 fun p => ?_) (fun q3 => h 1 fun p => ?_)) (fun q2 => h 0 fun p => ?_)⟩)⟩
  · have a := (f1 p).mp q1
    rw [if_pos]
    unfold ma_key
    omega
  · have a := mt (f1 p).mpr q1
    have b := (f2 p).mp q2
    have c := f3.mp q3
    rw [if_neg]
    unfold ma_key
    omega
  · have a := mt (f1 p).mpr q1
    have b := (f2 p).mp q2
    have c := mt f3.mpr q3
    rw [if_pos]
    unfold ma_key
    omega
  · have a := mt (f1 p).mpr q1
    have b := mt (f2 p).mpr q2
    rw [if_neg]
    unfold ma_key
    omega
theorem ma_cnt_lt {pr : Nat → Bool} {wo : Nat → Nat} {j : Nat} (hj : j < 6) (hp : pr j = true) : ma_cnt pr wo (ma_key wo j) < 6 := by
  have a := ma_cnt_s hj hp (wo := wo)
  have b := ma_cnt_6 pr wo (ma_key wo j + 1)
  omega
theorem ma_cnt_ne {pr : Nat → Bool} {wo : Nat → Nat} {i j : Nat} (hi : i < 6) (hj : j < 6) (hp : pr i = true) (hq : pr j = true) (h : i ≠ j) : ma_cnt pr wo (ma_key wo i) ≠ ma_cnt pr wo (ma_key wo j) := by
  have a := ma_pos_lt (wo := wo) (j := j) hi hp
  have b := ma_pos_lt (wo := wo) (j := i) hj hq
  have c : ma_key wo i ≠ ma_key wo j := fun z => h (ma_key_inj hi hj z)
  omega
theorem ma_sort (hP : ma_P pr mu ma wo) (hT : ∀ j, j < 6 → aT j = if pr j = true then 1 else 0) (hW : ma_Yp pr mu ma wo aM aY aW) {post : SY → Prop} (h : ∀ aO' : Nat → Int32, (∀ j, j < 6 → pr j = true → aO' (ma_cnt pr wo (ma_key wo j)) = nI j) → post (sh, nI (ma_cnt pr wo 54), aT, aF, aG, aM, aY, aW, aR, aN, aO', aK, aB)) : wpY_sort post (sh, ct, aT, aF, aG, aM, aY, aW, aR, aN, aO, aK, aB) := by
  refine loop_0 (fun n i (s : Int32 × (Nat → Int32)) => wY_sort_7 post sh n (nI i) s.1 aT aF aG aM aY aW aR aN s.2 aK aB) (fun i s => s.1 = nI (ma_sum (fun j => if pr j = true then 1 else 0) i) ∧ ∀ j, j < i → pr j = true → s.2 (ma_cnt pr wo (ma_key wo j)) = nI j) 6 (0, aO) ⟨rfl, fun j hj => absurd hj (Nat.not_lt_zero _)⟩ ?_ ?_
  · intro n s e
    obtain ⟨c, o⟩ := s
    obtain ⟨e1, e2⟩ := e
    have e3 : c = nI (ma_cnt pr wo 54) := by
      rw [show c = nI (ma_sum (fun j => if pr j = true then 1 else 0) 6) from e1]
      refine congrArg nI (ma_sum_eq 6 fun j hj => ?_)
      try dsimp only
      rw [ma_D_54 (fun i hi hp => ((hP i hi).1 hp).2.2.1) j hj]
    subst e3
    exact br_t ma_y6 (h o e2)
  · intro n j s hj e ih
    obtain ⟨c, o⟩ := s
    obtain ⟨e1, e2⟩ := e
    try dsimp only at e1 e2
    refine br_f (ma_6 hj) ?_
    refine loop_0 (fun m i x => wY_sort_17 post (wY_sort_7 post sh n) (nI j) sh c aT aF aG aM aY aW aR aN o aK aB m x (nI i)) (fun i x => pr j = true → x = nI (ma_sum (fun i => if ma_D pr wo (ma_key wo j) i = true then 1 else 0) i)) 6 0 (fun _ => rfl) ?_ ?_
    · intro m x ex
      refine br_t ma_y6 ⟨ma_in6 hj, br_c (fun q => nm_r (nI_1 j) (ih (c, o) ⟨?_, ?_⟩)) (fun q => ?_)⟩
      · have p := (ma_th0 hT hj).mp q
        rw [ma_sum_s, p]
        exact e1
      · intro i hi hp
        by_cases z : i = j
        · rw [z, (ma_th0 hT hj).mp q] at hp
          exact absurd hp (by decide)
        · exact e2 i (by omega) hp
      · have p : pr j = true := ma_nf fun z => q ((ma_th0 hT hj).mpr z)
        have ex' : x = nI (ma_cnt pr wo (ma_key wo j)) := ex p
        have hl := ma_cnt_lt (wo := wo) hj p
        refine ⟨pk_in _ 6 hl ex', nm_r (e' := upd o (ma_cnt pr wo (ma_key wo j)) (nI j)) (by rw [ex', ma_c6 hl]) (nm_e (nm_r (nI_1 j) (ih (c + 1, upd o (ma_cnt pr wo (ma_key wo j)) (nI j)) ⟨?_, ?_⟩)))⟩
        · show c + 1 = _
          rw [e1, nI_1, ma_sum_s, p, if_pos rfl]
        · intro i hi hp
          show upd o _ _ _ = _
          by_cases z : i = j
          · rw [z, pk_us]
          · rw [pk_un (ma_cnt_ne (by omega) hj hp p z)]
            exact e2 i (by omega) hp
    · intro m i x hi ex ih2
      refine br_f (ma_6 hi) ⟨ma_in6 hi, br_c (fun q1 => nm_r (Int32.add_zero _) (nm_r (nI_1 i) (ih2 _ fun p => ?_))) (fun q1 => br_c (fun q2 => nm_r (Int32.add_zero _) (nm_r (nI_1 i) (ih2 _ fun p => ?_))) (fun q2 => ?_))⟩
      · have a := (ma_th0 hT hi).mp q1
        rw [ma_sum_s, ex p]
        have : ma_D pr wo (ma_key wo j) i = false := by unfold ma_D; rw [a, Bool.false_and]
        rw [this, if_neg Bool.false_ne_true, Nat.add_zero]
      · have a := (nI_eq (by omega) (by omega)).mp q2
        rw [ma_sum_s, ex p]
        have : ma_D pr wo (ma_key wo j) i = false := ma_D_at (by rw [a]; exact Nat.le_refl _)
        rw [this, if_neg Bool.false_ne_true, Nat.add_zero]
      · have a : pr i = true := ma_nf fun z => q1 ((ma_th0 hT hi).mpr z)
        refine ma_before hP hW hi hj a (fun r hr => br_c (fun q3 => nm_r (Int32.add_zero _) (nm_r (nI_1 i) (ih2 _ fun p => ?_))) (fun q3 => nm_e (nm_r (nI_1 i) (ih2 _ fun p => ?_))))
        · have b := hr p
          rw [q3] at b
          have c : ¬ ma_key wo i < ma_key wo j := fun z => by
            rw [if_pos z] at b
            exact absurd b (by decide)
          rw [ma_sum_s, ex p, if_neg (fun z => c (ma_D_iff.mp z).2), Nat.add_zero]
        · have b := hr p
          have c : ma_key wo i < ma_key wo j := by
            apply Classical.byContradiction
            intro z
            rw [if_neg z] at b
            exact q3 b
          rw [ma_sum_s, ex p, if_pos (ma_D_iff.mpr ⟨a, c⟩), nI_1]
theorem ma_next {ord k : Nat → Nat} (hP : ma_P pr mu ma wo) (hW : ma_Yp pr mu ma wo aM aY aW) (ho : ∀ j, j < 6 → pr j = true → ord (ma_cnt pr wo (ma_key wo j)) = j) (hO : ∀ p, p < ma_cnt pr wo 54 → aO p = nI (ord p)) (hk : ∀ j, j < 6 → k j ≤ ma j) (hK : ∀ j, j < 6 → pr j = true → aK j = nI (k j)) {post : Int32 → SY → Prop} (hA : ∀ (aK' : Nat → Int32) (k' : Nat → Nat), (∀ j, j < 6 → k' j ≤ ma j) → (∀ j, j < 6 → pr j = true → aK' j = nI (k' j)) → ma_rk ma ord (ma_cnt pr wo 54) k' + 1 = ma_rk ma ord (ma_cnt pr wo 54) k → post 1 (sh, nI (ma_cnt pr wo 54), aT, aF, aG, aM, aY, aW, aR, aN, aO, aK', aB)) (hB : ∀ aK' : Nat → Int32, ma_rk ma ord (ma_cnt pr wo 54) k = 0 → post 0 (sh, nI (ma_cnt pr wo 54), aT, aF, aG, aM, aY, aW, aR, aN, aO, aK', aB)) : wpY_next post (sh, nI (ma_cnt pr wo 54), aT, aF, aG, aM, aY, aW, aR, aN, aO, aK, aB) := by
  have hN := ma_cnt_6 pr wo 54
  refine nm_e ⟨ma_cnt pr wo 54 + 1, ?_⟩
  refine pk_loopD (fun n i s => wY_next_7 post sh (nI (ma_cnt pr wo 54)) n (nI i - 1) aT aF aG aM aY aW aR aN aO s aB) (fun i s => i ≤ ma_cnt pr wo 54 ∧ ∃ k' : Nat → Nat, (∀ j, j < 6 → k' j ≤ ma j) ∧ (∀ j, j < 6 → pr j = true → s j = nI (k' j)) ∧ (∀ p, p < i → k' (ord p) = k (ord p)) ∧ ∀ p, i ≤ p → p < ma_cnt pr wo 54 → k (ord p) = 0 ∧ k' (ord p) = ma (ord p)) ?_ ?_ (ma_cnt pr wo 54) aK ⟨Nat.le_refl _, k, hk, hK, fun _ _ => rfl, fun p h1 h2 => absurd h2 (by omega)⟩
  · intro n s e
    obtain ⟨_, k', _, _, _, h5⟩ := e
    exact br_t (by decide) (hB s (ma_hr_zero _ fun p hp => (h5 p (Nat.zero_le _) hp).1))
  · intro n p s e ih
    obtain ⟨hp, k', h1, h2, h3, h4⟩ := e
    have q := ma_ord_lt ho (p := p) (by omega)
    have oe := hO p (by omega)
    have hoi : ∀ i, i < ma_cnt pr wo 54 → i ≠ p → ord i ≠ ord p := fun i hi z y => by
      have := (ma_ord_lt ho hi).2.2
      rw [y, q.2.2] at this
      exact z this.symm
    have hv := h2 (ord p) q.1 q.2.1
    have hb := h1 (ord p) q.1
    have hb6 := ma_P6 hP q.1
    have ep := h3 p (by omega)
    show wY_next_7 post sh (nI (ma_cnt pr wo 54)) (n + 1) (nI (p + 1) - 1) aT aF aG aM aY aW aR aN aO s aB
    rw [nI_pred]
    refine br_f (nI_pos (by omega)) ⟨ma_in6 (by omega), nm_r (e' := nI (ord p)) (by rw [ma_c6 (by omega)]; exact oe) ⟨ma_in6 q.1, ?_⟩⟩
    refine pk_le (k' (ord p)) 0 (fun z => ⟨ma_in6 q.1, ma_in6 q.1, nm_r (e' := upd s (ord p) (aY (ord p))) (by rw [ma_c6 q.1]) (nm_r (Int32.sub_eq_add_neg (nI p) 1).symm (ih _ ⟨by omega, ma_put k' (ord p) (ma (ord p)), ?_, ?_, ?_, ?_⟩))⟩) (fun z => ⟨ma_in6 q.1, ma_in6 q.1, nm_r (e' := upd s (ord p) (nI (k' (ord p) - 1))) (by rw [ma_c6 q.1, hv]; exact congrArg _ (pk_sub z)) (hA _ (ma_put k' (ord p) (k' (ord p) - 1)) ?_ ?_ ?_)⟩) (by rw [ma_c6 q.1]; exact hv)
    · intro j hj
      by_cases c : j = ord p
      · rw [c, ma_put_s]; exact Nat.le_refl _
      · rw [ma_put_n c]; exact h1 j hj
    · intro j hj hpj
      by_cases c : j = ord p
      · rw [c, ma_put_s, pk_us]; exact (hW _ q.1 q.2.1).2.1
      · rw [ma_put_n c, pk_un c]; exact h2 j hj hpj
    · intro i hi
      rw [ma_put_n (hoi i (by omega) (by omega))]
      exact h3 i (by omega)
    · intro i hi1 hi2
      by_cases c : i = p
      · rw [c, ma_put_s]; exact ⟨by omega, rfl⟩
      · rw [ma_put_n (hoi i hi2 c)]
        exact h4 i (by omega) hi2
    · intro j hj
      by_cases c : j = ord p
      · rw [c, ma_put_s]; omega
      · rw [ma_put_n c]; exact h1 j hj
    · intro j hj hpj
      by_cases c : j = ord p
      · rw [c, ma_put_s, pk_us]
      · rw [ma_put_n c, pk_un c]; exact h2 j hj hpj
    · refine ma_hr_next (n := p) (by omega) (fun i hi => ?_) ?_ (fun i hi1 hi2 => ?_)
      · rw [ma_put_n (hoi i (by omega) (by omega))]
        exact h3 i (by omega)
      · rw [ma_put_s]; omega
      · rw [ma_put_n (hoi i hi2 (by omega))]
        exact h4 i hi1 hi2
theorem ma_lost {k : Nat → Nat} (hT : ∀ j, j < 6 → aT j = if pr j = true then 1 else 0) (hW : ma_Yp pr mu ma wo aM aY aW) (hk : ∀ j, j < 6 → k j ≤ ma j) (hK : ∀ j, j < 6 → pr j = true → aK j = nI (k j)) {post : Int32 → Prop} (h : post (nI (ma_ls pr ma wo k))) : wpY_lost post (sh, ct, aT, aF, aG, aM, aY, aW, aR, aN, aO, aK, aB) := by
  refine loop_0 (fun n i s => wY_lost_4 post sh ct aT aF aG aM aY aW aR aN aO aK aB n s (nI i)) (fun i s => s = nI (ma_sum (fun j => if pr j = true then wo j * (ma j - k j) else 0) i)) 6 0 rfl ?_ ?_
  · intro n s e
    subst e
    exact br_t ma_y6 h
  · intro n i s hi e ih
    subst e
    refine br_f (ma_6 hi) ⟨ma_in6 hi, br_c (fun q => nm_r (Int32.add_zero _) (nm_r (nI_1 i) (ih _ ?_))) (fun q => ⟨ma_in6 hi, ma_in6 hi, ma_in6 hi, nm_e (nm_r (nI_1 i) (ih _ ?_))⟩)⟩
    · rw [ma_sum_s, (ma_th0 hT hi).mp q, if_neg Bool.false_ne_true, Nat.add_zero]
    · have p : pr i = true := ma_nf fun z => q ((ma_th0 hT hi).mpr z)
      have a := hW i hi p
      rw [ma_sum_s, if_pos p, ma_c6 hi, a.2.1, a.2.2, hK i hi p, pk_sub (hk i hi), pk_mul, nI_add]
theorem ma_possible {k : Nat → Nat} {w : Nat → Nat → Bool} {V : Nat → Bool} (hP : ma_P pr mu ma wo) (hT : ∀ j, j < 6 → aT j = if pr j = true then 1 else 0) (hW : ma_Yp pr mu ma wo aM aY aW) (hR : ∀ S, S < 64 → aR S = nI (ma_rm w V S)) (hk : ∀ j, j < 6 → k j ≤ ma j) (hK : ∀ j, j < 6 → pr j = true → aK j = nI (k j)) {post : Int32 → SY → Prop} (h1 : ∀ aN' : Nat → Int32, ma_fit w V (fun j => mu j + k j) → post 1 (sh, ct, aT, aF, aG, aM, aY, aW, aR, aN', aO, aK, aB)) (h2 : ∀ aN' : Nat → Int32, ¬ ma_fit w V (fun j => mu j + k j) → post 0 (sh, ct, aT, aF, aG, aM, aY, aW, aR, aN', aO, aK, aB)) : wpY_possible post (sh, ct, aT, aF, aG, aM, aY, aW, aR, aN, aO, aK, aB) := by
  refine loop_0 (fun n i s => wY_possible_2 post sh ct n (nI i) aT aF aG aM aY aW aR s aO aK aB) (fun i s => ∀ j, j < i → s j = aM j + aK j) 6 aN (fun j hj => absurd hj (Nat.not_lt_zero _)) ?_ ?_
  · intro n s e
    refine br_t ma_y6 (ma_can (x := fun j => mu j + k j) hT hR (fun j hj p => ?_) (fun j hj => ?_) (fun j hj p => ?_) (fun f => ⟨ma_nb1, h1 _ f⟩) (fun f => ⟨ma_nb0, h2 _ f⟩))
    · rw [e j hj, (hW j hj p).1, hK j hj p, nI_add]
    · have a := ma_P6 hP hj
      have b := hk j hj
      try dsimp only
      omega
    · have a := (hP j hj).2 p
      have b := hk j hj
      try dsimp only
      omega
  · intro n i s hi e ih
    refine br_f (ma_6 hi) ⟨ma_in6 hi, ma_in6 hi, ma_in6 hi, nm_r (e' := upd s i (aM i + aK i)) (by rw [ma_c6 hi]) (nm_r (nI_1 i) (ih _ ?_))⟩
    intro j hj
    by_cases c : j = i
    · rw [c, pk_us]
    · rw [pk_un c]; exact e j (by omega)
theorem ma_keepBest {post : SY → Prop} (h : ∀ aB' : Nat → Int32, (∀ j, j < 6 → aB' j = aK j) → post (sh, ct, aT, aF, aG, aM, aY, aW, aR, aN, aO, aK, aB')) : wpY_keepBest post (sh, ct, aT, aF, aG, aM, aY, aW, aR, aN, aO, aK, aB) := by
  refine loop_0 (fun n i s => wY_keepBest_2 post sh ct n (nI i) aT aF aG aM aY aW aR aN aO aK s) (fun i s => ∀ j, j < i → s j = aK j) 6 aB (fun j hj => absurd hj (Nat.not_lt_zero _)) ?_ ?_
  · intro n s e
    exact br_t ma_y6 (h s e)
  · intro n i s hi e ih
    refine br_f (ma_6 hi) ⟨ma_in6 hi, ma_in6 hi, nm_r (e' := upd s i (aK i)) (by rw [ma_c6 hi]) (nm_r (nI_1 i) (ih _ ?_))⟩
    intro j hj
    by_cases c : j = i
    · rw [c, pk_us]
    · rw [pk_un c]; exact e j (by omega)
end
