/-! the reference's search through all kept vectors -/
theorem ma_rm_U0 (w : Nat → Nat → Bool) (U : Nat → Bool) (S : Nat) : ma_rm w (ma_U 0 U) S = ma_rm w U S := by
  have e : ∀ t, ma_U 0 U t = U t := fun t => by
    unfold ma_U
    rw [decide_eq_true (Nat.zero_le t), Bool.true_and]
  refine ma_sum_eq 24 fun t _ => ?_
  try dsimp only
  rw [e t]
theorem ma_hr_mono {r k g : Nat → Nat} (n : Nat) (h : ∀ p, p < n → k p ≤ g p) : ma_hr r k n ≤ ma_hr r g n := by
  have a := ma_hr_dom (r := r) (k := k) (g := g) n fun i hi => ma_sum_le i fun p hp => h p (by omega)
  have b := ma_sum_le n h
  omega
section
variable {sh : Int32} {aT aF aG aM aY aW aR aO : Nat → Int32} {pr : Nat → Bool} {mu ma wo ord kg : Nat → Nat} {w : Nat → Nat → Bool} {V : Nat → Bool}
theorem ma_try78 (hP : ma_P pr mu ma wo) (hW : ma_Yp pr mu ma wo aM aY aW) (ho : ∀ j, j < 6 → pr j = true → ord (ma_cnt pr wo (ma_key wo j)) = j) (hO : ∀ p, p < ma_cnt pr wo 54 → aO p = nI (ord p)) {post : Int32 → SY → Prop} (h : ∀ aN' aK' aB' : Nat → Int32, (∀ j, j < 6 → pr j = true → aB' j = nI (kg j)) → post (nI (ma_ls pr ma wo kg)) (sh, nI (ma_cnt pr wo 54), aT, aF, aG, aM, aY, aW, aR, aN', aO, aK', aB')) {R c : Nat} {x1 : Int32} {aN aK aB : Nat → Int32} {k : Nat → Nat} (hk : ∀ j, j < 6 → k j ≤ ma j) (hK : ∀ j, j < 6 → pr j = true → aK j = nI (k j)) (hr : ma_rk ma ord (ma_cnt pr wo 54) k = R) (hx : (x1 = 100000 ∧ ma_rk ma ord (ma_cnt pr wo 54) kg < R) ∨ (x1 = nI (ma_ls pr ma wo kg) ∧ ∀ j, j < 6 → pr j = true → aB j = nI (kg j)))
    (ih : ∀ R', R' + 1 = R → ∀ (aK' : Nat → Int32) (k' : Nat → Nat), (∀ j, j < 6 → k' j ≤ ma j) → (∀ j, j < 6 → pr j = true → aK' j = nI (k' j)) → ma_rk ma ord (ma_cnt pr wo 54) k' = R' → ((x1 = 100000 ∧ ma_rk ma ord (ma_cnt pr wo 54) kg ≤ R') ∨ (x1 = nI (ma_ls pr ma wo kg) ∧ ∀ j, j < 6 → pr j = true → aB j = nI (kg j))) → wY_tryAll_42 post (R' + 2) x1 1 (nI (c + 1)) sh (nI (ma_cnt pr wo 54)) aT aF aG aM aY aW aR aN aO aK' aB) :
    wY_tryAll_78 post (wY_tryAll_42 post (R + 1)) x1 (nI c) sh (nI (ma_cnt pr wo 54)) aT aF aG aM aY aW aR aN aO aK aB := by
  unfold wY_tryAll_78
  refine ma_next hP hW ho hO hk hK (fun aK' k' h1 h2 h3 => nm_r (nI_1 c) ?_) (fun aK' h1 => nm_r (nI_1 c) ?_)
  · obtain ⟨R', rfl⟩ : ∃ R', R = R' + 1 := ⟨R - 1, by omega⟩
    refine ih R' rfl aK' k' h1 h2 (by omega) ?_
    rcases hx with ⟨a, b⟩ | b
    · exact Or.inl ⟨a, by omega⟩
    · exact Or.inr b
  · rcases hx with ⟨a, b⟩ | ⟨rfl, b⟩
    · exact absurd b (by omega)
    · exact br_c (fun _ => h _ _ _ b) (fun _ => br_t rfl (h _ _ _ b))
theorem ma_try42 (hP : ma_P pr mu ma wo) (hT : ∀ j, j < 6 → aT j = if pr j = true then 1 else 0) (hW : ma_Yp pr mu ma wo aM aY aW) (ho : ∀ j, j < 6 → pr j = true → ord (ma_cnt pr wo (ma_key wo j)) = j) (hO : ∀ p, p < ma_cnt pr wo 54 → aO p = nI (ord p)) (hR : ∀ S, S < 64 → aR S = nI (ma_rm w V S)) (hB : ma_Best w V mu ma pr wo kg) {R0 : Nat} (hR0 : R0 < 117649) {post : Int32 → SY → Prop} (h : ∀ aN' aK' aB' : Nat → Int32, (∀ j, j < 6 → pr j = true → aB' j = nI (kg j)) → post (nI (ma_ls pr ma wo kg)) (sh, nI (ma_cnt pr wo 54), aT, aF, aG, aM, aY, aW, aR, aN', aO, aK', aB')) :
    ∀ (R c : Nat) (x1 : Int32) (aN aK aB : Nat → Int32) (k : Nat → Nat), c + R = R0 → (∀ j, j < 6 → k j ≤ ma j) → (∀ j, j < 6 → pr j = true → aK j = nI (k j)) → ma_rk ma ord (ma_cnt pr wo 54) k = R → ((x1 = 100000 ∧ ma_rk ma ord (ma_cnt pr wo 54) kg ≤ R) ∨ (x1 = nI (ma_ls pr ma wo kg) ∧ ∀ j, j < 6 → pr j = true → aB j = nI (kg j))) → wY_tryAll_42 post (R + 2) x1 1 (nI c) sh (nI (ma_cnt pr wo 54)) aT aF aG aM aY aW aR aN aO aK aB := by
  intro R
  induction R using Nat.strongRecOn with
  | _ R IH =>
    intro c x1 aN aK aB k hc hk hK hr hx
    have hgl := ma_ls_bd (k := kg) hP
    have hkl := ma_ls_bd (k := k) hP
    have hw1 : ∀ j, j < 6 → pr j = true → 1 ≤ wo j ∧ wo j ≤ 9 := fun j hj p => ((hP j hj).1 p).2.2
    have tl : ∀ (x1 : Int32) (aN aB : Nat → Int32), ((x1 = 100000 ∧ ma_rk ma ord (ma_cnt pr wo 54) kg < R) ∨ (x1 = nI (ma_ls pr ma wo kg) ∧ ∀ j, j < 6 → pr j = true → aB j = nI (kg j))) → wY_tryAll_78 post (wY_tryAll_42 post (R + 1)) x1 (nI c) sh (nI (ma_cnt pr wo 54)) aT aF aG aM aY aW aR aN aO aK aB :=
      fun x1 aN aB hx => ma_try78 hP hW ho hO h hk hK hr hx (fun R' e aK' k' a b d f => IH R' (by omega) (c + 1) x1 aN aK' aB k' (by omega) a b d f)
    have lsle : ma_fit w V (fun j => mu j + k j) → ma_ls pr ma wo kg ≤ ma_ls pr ma wo k := fun f => by
      have a := ma_loss hw1 (hB.2.2 k hk f)
      have b := ma_ls_add (pr := pr) (wo := wo) hk
      have d := ma_ls_add (pr := pr) (wo := wo) hB.2.1
      omega
    refine br_f (nI_ge (b := 117649) (by omega) (by decide)) (br_f (by decide) (ma_lost hT hW hk hK ?_))
    rcases hx with ⟨rfl, b⟩ | ⟨rfl, b⟩
    · refine br_f (nI_ge (b := 100000) (by omega) (by decide)) (ma_possible hP hT hW hR hk hK (fun aN' f => ?_) (fun aN' f => ?_))
      · refine br_f (by decide) (ma_keepBest (fun aB' e => ?_))
        have e1 := ma_rk_le hB ho hk f
        have e2 := ma_rk_inj (fun j hj p => (hw1 j hj p).1) ho (fun j hj _ => hk j hj) (fun j hj _ => hB.2.1 j hj) (show ma_rk ma ord (ma_cnt pr wo 54) k = ma_rk ma ord (ma_cnt pr wo 54) kg by omega)
        have e3 : ma_ls pr ma wo k = ma_ls pr ma wo kg := ma_on_eq (fun _ _ => rfl) fun j hj p => by
          try dsimp only
          rw [e2 j hj p]
        rw [e3]
        exact tl _ _ _ (Or.inr ⟨rfl, fun j hj p => by rw [e j hj, hK j hj p, e2 j hj p]⟩)
      · refine br_t rfl (tl _ _ _ (Or.inl ⟨rfl, ?_⟩))
        apply Classical.byContradiction
        intro z
        have e2 := ma_rk_inj (fun j hj p => (hw1 j hj p).1) ho (fun j hj _ => hk j hj) (fun j hj _ => hB.2.1 j hj) (show ma_rk ma ord (ma_cnt pr wo 54) k = ma_rk ma ord (ma_cnt pr wo 54) kg by omega)
        refine f (ma_fit_eq (fun j hj => ?_) hB.1)
        try dsimp only
        cases hp : pr j with
        | true => rw [e2 j hj hp]
        | false =>
          have a1 := (hP j hj).2 hp
          have a2 := hk j hj
          have a3 := hB.2.1 j hj
          omega
    · exact pk_le (ma_ls pr ma wo kg) (ma_ls pr ma wo k) (fun q => tl _ _ _ (Or.inr ⟨rfl, b⟩)) (fun q => ma_possible hP hT hW hR hk hK (fun aN' f => absurd (lsle f) (by omega)) (fun aN' f => br_t rfl (tl _ _ _ (Or.inr ⟨rfl, b⟩))))
end
section
variable {sh ct : Int32} {aT aF aG aM aY aW aR aN aO aK aB : Nat → Int32} {pr : Nat → Bool} {mu ma wo fr tw kg : Nat → Nat} {U : Nat → Bool}
theorem ma_tryAll (hP : ma_P pr mu ma wo) (hY : ma_Yt pr fr tw U sh aT aF aG) (hW : ma_Yp pr mu ma wo aM aY aW) (hB : ma_Best (ma_w pr fr tw) U mu ma pr wo kg) {post : Int32 → SY → Prop} (h : ∀ (ct' : Int32) (aR' aN' aO' aK' aB' : Nat → Int32), (∀ j, j < 6 → pr j = true → aB' j = nI (kg j)) → post (nI (ma_ls pr ma wo kg)) (sh, ct', aT, aF, aG, aM, aY, aW, aR', aN', aO', aK', aB')) : wpY_tryAll post (sh, ct, aT, aF, aG, aM, aY, aW, aR, aN, aO, aK, aB) := by
  unfold wpY_tryAll
  dsimp only
  refine ma_sort hP hY.1 hW (fun aO' hO => ?_)
  refine ma_measure (b := 0) hY (by decide) (fun aR' hR => ?_)
  have hR' : ∀ S, S < 64 → aR' S = nI (ma_rm (ma_w pr fr tw) U S) := fun S hS => by rw [hR S hS, ma_rm_U0]
  obtain ⟨ord, ho, hO2⟩ : ∃ ord : Nat → Nat, (∀ j, j < 6 → pr j = true → ord (ma_cnt pr wo (ma_key wo j)) = j) ∧ (∀ p, p < ma_cnt pr wo 54 → aO' p = nI (ord p)) := by
    refine ⟨fun p => (aO' p).toNatClampNeg, fun j hj p => ?_, fun p hp => ?_⟩
    · try dsimp only
      rw [hO j hj p, ma_c6 hj]
    · obtain ⟨j, hj, hp, _, e⟩ := ma_pos_on 54 p hp
      have a := hO j hj hp
      rw [e] at a
      try dsimp only
      rw [a, ma_c6 hj]
  have hl : ma_rk ma ord (ma_cnt pr wo 54) ma < 117649 := by
    have a := ma_hr_lt (r := fun p => ma (ord p)) (k := fun p => ma (ord p)) (ma_cnt pr wo 54) fun p hp => ⟨Nat.le_refl _, (ma_P6 hP (ma_ord_lt ho hp).1).2.1⟩
    have b : 7 ^ ma_cnt pr wo 54 ≤ 7 ^ 6 := Nat.pow_le_pow_right (by decide) (ma_cnt_6 pr wo 54)
    have c : 7 ^ 6 = 117649 := by decide
    unfold ma_rk
    omega
  refine loop_0 (fun n i s => wY_tryAll_11 post sh (nI (ma_cnt pr wo 54)) n (nI i) aT aF aG aM aY aW aR' aN aO' s aB) (fun i s => ∀ j, j < i → s j = aY j) 6 aK (fun j hj => absurd hj (Nat.not_lt_zero _)) ?_ ?_
  · intro n s e
    refine br_t ma_y6 ⟨_, ma_try42 hP hY.1 hW ho hO2 hR' hB hl (fun _ _ _ b => h _ _ _ _ _ _ b) _ 0 100000 aN s aB ma (Nat.zero_add _) (fun _ _ => Nat.le_refl _) (fun j hj p => (e j hj).trans (hW j hj p).2.1) rfl (Or.inl ⟨rfl, ?_⟩)⟩
    exact ma_hr_mono _ fun p hp => hB.2.1 _ (ma_ord_lt ho hp).1
  · intro n i s hi e ih
    refine br_f (ma_6 hi) ⟨ma_in6 hi, ma_in6 hi, nm_r (e' := upd s i (aY i)) (by rw [ma_c6 hi]) (nm_r (nI_1 i) (ih _ ?_))⟩
    intro j hj
    by_cases c : j = i
    · rw [c, pk_us]
    · rw [pk_un c]; exact e j (by omega)
end
