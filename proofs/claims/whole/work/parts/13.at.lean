/-! the owed statements of freeable and at -/
section
variable {pt op : Int32} {bW bM bY bV bS : Nat → Int32} {sh ct : Int32} {aT aF aG aM aY aW aR aN aO aK aB : Nat → Int32} {pr : Nat → Bool} {mu ma wo fr tw kg : Nat → Nat} {U : Nat → Bool}
theorem ma_steps {t : Nat} (ht : t < 24) (hw : ∀ j, j < 6 → ∀ t, t < 24 → bt (bW j) t = ma_w pr fr tw j t) (ho : ∀ t, t < 24 → bt op t = U t) (hY : ma_Yt pr fr tw U sh aT aF aG) :
    ∀ (d u : Nat) (x : Nat → Nat) (r0 : Int32), u + d = t + 1 → (∀ j, j < 6 → x j ≤ 50) → (∀ j, j < 6 → pr j = false → x j = 0) → ∃ r : Int32,
      (∀ (bS : Nat → Int32) (post : Int32 → SX → Prop), (∀ j, j < 6 → bS j = nI (x j)) → (∀ bS' : Nat → Int32, post r (pt, op, bW, bM, bY, bV, bS')) → wX_at_21 post (nI t) (d + 1) r0 (nI u) pt op bW bM bY bV bS) ∧
      (∀ (ct : Int32) (aR aN aO aK aB : Nat → Int32) (post : Int32 → SY → Prop), (∀ j, j < 6 → aN j = nI (x j)) → (∀ aR' aN' : Nat → Int32, post r (sh, ct, aT, aF, aG, aM, aY, aW, aR', aN', aO, aK, aB)) → wY_at_55 post (nI t) (d + 1) r0 (nI u) sh ct aT aF aG aM aY aW aR aN aO aK aB) := by
  intro d
  induction d with
  | zero =>
    intro u x r0 hu _ _
    have e : nI t < nI u := nI_lt (by omega) (by omega)
    exact ⟨r0, fun bS post _ h => br_t e (h bS), fun ct aR aN aO aK aB post _ h => br_t e (br_f (ma_24 ht) (h aR aN))⟩
  | succ d ih =>
    intro u x r0 hu hx h0
    have e : ¬ nI t < nI u := nI_nlt (by omega) (by omega)
    have hu24 : u < 24 := by omega
    obtain ⟨r1, x1, hle, s1, s2⟩ := ma_step (aM := aM) (aY := aY) (aW := aW) (pt := pt) (bM := bM) (bY := bY) (bV := bV) hu24 hx h0 hw ho hY
    obtain ⟨r, i1, i2⟩ := ih (u + 1) x1 r1 (by omega) (fun j hj => Nat.le_trans (hle j hj) (hx j hj)) (fun j hj p => by
      have a := hle j hj
      rw [h0 j hj p] at a
      omega)
    exact ⟨r, fun bS post hS h => br_f e (s1 bS _ hS (fun bS' hS' => nm_r (nI_1 u) (i1 bS' post hS' h))), fun ct aR aN aO aK aB post hN h => br_f e (br_f (ma_24 hu24) (s2 ct aR aN aO aK aB _ hN (fun aR' aN' hN' => nm_r (nI_1 u) (i2 ct aR' aN' aO aK aB post hN' h))))⟩
theorem ma_far {v1 : Int32} (hv : nI 24 ≤ v1) (hY : ma_Yt pr fr tw U sh aT aF aG) (hw : ∀ j, j < 6 → ∀ t, t < 24 → bt (bW j) t = ma_w pr fr tw j t) (ho : ∀ t, t < 24 → bt op t = U t) :
    ∀ (d u : Nat) (x : Nat → Nat) (r0 : Int32), u + d = 24 → (∀ j, j < 6 → x j ≤ 50) → (∀ j, j < 6 → pr j = false → x j = 0) → ∀ (aR aN : Nat → Int32) (post : Int32 → SY → Prop), (∀ j, j < 6 → aN j = nI (x j)) → (∀ aR' aN' : Nat → Int32, post (-1) (sh, ct, aT, aF, aG, aM, aY, aW, aR', aN', aO, aK, aB)) → wY_at_55 post v1 (d + 1) r0 (nI u) sh ct aT aF aG aM aY aW aR aN aO aK aB := by
  intro d
  induction d with
  | zero =>
    intro u x r0 hu _ _ aR aN post _ h
    rw [show u = 24 by omega]
    exact br_c (fun _ => br_t hv (h aR aN)) (fun _ => br_t ma_y24 (br_t hv (h aR aN)))
  | succ d ih =>
    intro u x r0 hu hx h0 aR aN post hN h
    have hu24 : u < 24 := by omega
    have e : ¬ v1 < nI u := fun z => absurd (Int32.lt_of_le_of_lt hv z) (nI_nlt (by omega) (by omega))
    obtain ⟨r1, x1, hle, s1, s2⟩ := ma_step (aM := aM) (aY := aY) (aW := aW) (pt := 0) (bM := aM) (bY := aM) (bV := aM) hu24 hx h0 hw ho hY
    refine br_f e (br_f (ma_24 hu24) (s2 ct aR aN aO aK aB _ hN (fun aR' aN' hN' => nm_r (nI_1 u) (ih (u + 1) x1 r1 (by omega) (fun j hj => Nat.le_trans (hle j hj) (hx j hj)) (fun j hj p => ?_) aR' aN' post hN' h))))
    have a := hle j hj
    rw [h0 j hj p] at a
    omega
theorem ma_at7 {x : Nat → Nat} {v1 : Int32} (hT : ∀ j, j < 6 → aT j = if pr j = true then 1 else 0) (hW : ma_Yp pr mu ma wo aM aY aW) (hB : ∀ j, j < 6 → pr j = true → aB j = nI (kg j)) (h1 : ∀ j, j < 6 → pr j = true → x j = mu j + kg j) (h0 : ∀ j, j < 6 → pr j = false → x j = 0) {post : Int32 → SY → Prop} (h : ∀ aN' : Nat → Int32, (∀ j, j < 6 → aN' j = nI (x j)) → ∃ n, wY_at_55 post v1 n (-1) 0 sh ct aT aF aG aM aY aW aR aN' aO aK aB) : ∃ n, wY_at_7 post v1 sh ct n 0 aT aF aG aM aY aW aR aN aO aK aB := by
  refine loop_0 (fun n i s => wY_at_7 post v1 sh ct n (nI i) aT aF aG aM aY aW aR s aO aK aB) (fun i s => ∀ j, j < i → s j = nI (x j)) 6 aN (fun j hj => absurd hj (Nat.not_lt_zero _)) ?_ ?_
  · intro n s e
    exact br_t ma_y6 (h s e)
  · intro n i s hi e ih
    have st : ∀ j, j < i + 1 → upd s i (nI (x i)) j = nI (x j) := fun j hj => by
      by_cases c : j = i
      · rw [c, pk_us]
      · rw [pk_un c]; exact e j (by omega)
    refine br_f (ma_6 hi) ⟨ma_in6 hi, br_c (fun q => ⟨ma_in6 hi, nm_r (e' := upd s i (nI (x i))) ?_ (nm_r (nI_1 i) (ih _ st))⟩) (fun q => ⟨ma_in6 hi, ma_in6 hi, ma_in6 hi, nm_r (e' := upd s i (nI (x i))) ?_ (nm_r (nI_1 i) (ih _ st))⟩)⟩
    · rw [ma_c6 hi, h0 i hi ((ma_th0 hT hi).mp q)]
      rfl
    · have p : pr i = true := ma_nf fun z => q ((ma_th0 hT hi).mpr z)
      rw [ma_c6 hi, (hW i hi p).1, hB i hi p, nI_add, h1 i hi p]
end
theorem i_vc_freeable {k : Nat} {u : SX} {v : SY} (I : i_Rel k u v) (hk : k + 4 ≤ 2048) (v1 : Int32) (v2 : Int32) : wpX_freeable (fun r u' => wpY_freeable (fun r' v' => r' = r ∧ i_Rel (k + 4) u' v') v v1 v2) u v1 v2 := by
  obtain ⟨pt, op, bW, bM, bY, bV, bS⟩ := u
  obtain ⟨sh, ct, aT, aF, aG, aM, aY, aW, aR, aN, aO, aK, aB⟩ := v
  obtain ⟨pr, mu, ma, wo, fr, tw, U, hP, hX, hY, hW, hH, hf⟩ := ma_un I
  unfold wpX_freeable
  dsimp only
  by_cases h1 : v1 < 0
  · exact br_t h1 (br_t rfl (br_t h1 ⟨rfl, i_up I⟩))
  by_cases h2 : v2 ≤ v1
  · exact br_f h1 (br_t h2 (br_t rfl (br_f h1 (br_t h2 ⟨rfl, i_up I⟩))))
  by_cases h3 : 24 < v2
  · exact br_f h1 (br_f h2 (br_t h3 (br_t rfl (br_f h1 (br_f h2 (br_f (Int32.not_le.mpr h3) ⟨rfl, i_up I⟩))))))
  obtain ⟨a, ha, e⟩ := nI_of h1
  have h0 : ¬ v2 < 0 := fun z => h2 (Int32.le_of_lt (Int32.lt_of_lt_of_le z (Int32.not_lt.mp h1)))
  obtain ⟨b, hb, e'⟩ := nI_of h0
  subst e e'
  have hab : a < b := Nat.lt_of_not_le fun z => h2 (nI_le z ha)
  have hb24 : b ≤ 24 := Nat.le_of_not_lt fun z => h3 (nI_lt (a := 24) z hb)
  refine br_f h1 (br_f h2 (br_f h3 (br_f (by decide) (ma_shareMusts (fun bS' e => ?_)))))
  obtain ⟨r, f1, f2⟩ := ma_free (old := sh) (pt := pt) (op := op) (bM := bM) (bY := bY) (bV := bV) hb24 hP hX.2.2.1 (fun j hj => (e j hj).trans (hX.2.2.2.1 j hj)) hY.1 hY.2.1 hW (b - a) a 0 U (by omega)
  exact ⟨_, f1 op _ hX.2.1 (br_f h1 (br_f h2 (br_t (Int32.not_lt.mp h3) ⟨_, f2 sh ct aR aN aO aK aB _ hY.2.2 (fun aR' aN' => ⟨rfl, ma_rel hP hX hY hW hH hf⟩)⟩)))⟩
theorem i_vc_at {k : Nat} {u : SX} {v : SY} (I : i_Rel k u v) (hk : k + 4 ≤ 2048) (v1 : Int32) : wpX_at (fun r u' => wpY_at (fun r' v' => r' = r ∧ i_Rel (k + 4) u' v') v v1) u v1 := by
  obtain ⟨pt, op, bW, bM, bY, bV, bS⟩ := u
  obtain ⟨sh, ct, aT, aF, aG, aM, aY, aW, aR, aN, aO, aK, aB⟩ := v
  obtain ⟨pr, mu, ma, wo, fr, tw, U, hP, hX, hY, hW, hH, hf⟩ := ma_un I
  have hx : ∀ x : Nat → Nat, ma_G (ma_w pr fr tw) U mu ma pr wo 54 x → (∀ j, j < 6 → x j ≤ 50) ∧ (∀ j, j < 6 → pr j = true → x j = mu j + (x j - mu j)) ∧ (∀ j, j < 6 → pr j = false → x j = 0) := fun x hG => by
    refine ⟨fun j hj => ?_, fun j hj p => ?_, fun j hj p => ?_⟩
    · have a := hG.1.2.1 j hj
      have b := ma_P6 hP hj
      omega
    · have a := hG.1.2.1 j hj
      omega
    · have a := hG.1.2.1 j hj
      have b := (hP j hj).2 p
      omega
  unfold wpX_at
  dsimp only
  rcases pk_ix v1 (n := 24) (by decide) with z | z | ⟨t, ht, rfl⟩
  · refine ma_isUnit0 (Or.inl z) (br_t rfl ?_)
    unfold wpY_at
    dsimp only
    obtain ⟨x, hG⟩ := ma_Gex (ma := ma) (pr := pr) (wo := wo) hf 54
    have q := hx x hG
    refine ma_tryAll hP hY hW (ma_G_Best hG) (fun _ _ _ _ _ aB' hB => ma_at7 hY.1 hW hB q.2.1 q.2.2 (fun aN' hN => ⟨1, br_t z (br_f (fun y => ?_) ⟨rfl, ma_rel hP hX hY hW hH hf⟩)⟩))
    exact absurd (Int32.lt_of_le_of_lt y z) (by decide)
  · refine ma_isUnit0 (Or.inr z) (br_t rfl ?_)
    unfold wpY_at
    dsimp only
    obtain ⟨x, hG⟩ := ma_Gex (ma := ma) (pr := pr) (wo := wo) hf 54
    have q := hx x hG
    exact ma_tryAll hP hY hW (ma_G_Best hG) (fun _ _ _ _ _ aB' hB => ma_at7 hY.1 hW hB q.2.1 q.2.2 (fun aN' hN => ⟨_, ma_far z hY hX.2.2.1 hX.2.1 24 0 x (-1) rfl q.1 q.2.2 _ aN' _ hN (fun aR' aN' => ⟨rfl, ma_rel hP hX hY hW hH hf⟩)⟩))
  · refine ma_isUnit1 ht (br_f (by decide) ?_)
    refine ma_shareBest hP hX.2.2.1 hX.2.1 hX.2.2.2.1 hX.2.2.2.2.1 hX.2.2.2.2.2 hf (fun bS' x e hG => ?_)
    have q := hx x hG
    obtain ⟨r, s1, s2⟩ := ma_steps (aM := aM) (aY := aY) (aW := aW) (pt := pt) (bM := bM) (bY := bY) (bV := bV) ht hX.2.2.1 hX.2.1 hY (t + 1) 0 x (-1) (Nat.zero_add _) q.1 q.2.2
    refine ⟨_, s1 bS' _ e (fun bS2 => ?_)⟩
    unfold wpY_at
    dsimp only
    exact ma_tryAll hP hY hW (ma_G_Best hG) (fun ct' aR' _ aO' aK' aB' hB => ma_at7 hY.1 hW hB q.2.1 q.2.2 (fun aN' hN => ⟨_, s2 ct' aR' aN' aO' aK' aB' _ hN (fun aR' aN' => ⟨rfl, ma_rel hP hX hY hW hH hf⟩)⟩))
