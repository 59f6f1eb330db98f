/-! freeable and at, unit by unit, both sides in step -/
theorem ma_leastP (P : Nat → Prop) : (∀ j, j < 6 → ¬ P j) ∨ ∃ j, j < 6 ∧ P j ∧ ∀ i, i < j → ¬ P i := by
  have h : ∀ n, (∀ j, j < n → ¬ P j) ∨ ∃ j, j < n ∧ P j ∧ ∀ i, i < j → ¬ P i := by
    intro n
    induction n with
    | zero => exact Or.inl fun j hj => absurd hj (Nat.not_lt_zero _)
    | succ n ih =>
      rcases ih with ih | ⟨j, hj, a, b⟩
      · rcases Classical.em (P n) with hp | hp
        · exact Or.inr ⟨n, Nat.lt_succ_self n, hp, ih⟩
        · refine Or.inl fun j hj => ?_
          by_cases c : j = n
          · rw [c]; exact hp
          · exact ih j (by omega)
      · exact Or.inr ⟨j, by omega, a, b⟩
  exact h 6
theorem ma_hit_one {w : Nat → Nat → Bool} {j t : Nat} (hj : j < 6) : ma_hit w (2 ^ j) t = w j t := by
  rw [Bool.eq_iff_iff]
  simp only [ma_hit, ma_any_iff, Bool.and_eq_true, Nat.testBit_two_pow, decide_eq_true_iff]
  constructor
  · rintro ⟨i, _, e, h⟩
    rw [e]; exact h
  · intro h
    exact ⟨j, hj, rfl, h⟩
section
variable {pt op : Int32} {bW bM bY bV bS : Nat → Int32} {sh ct : Int32} {aT aF aG aM aY aW aR aN aO aK aB : Nat → Int32} {pr : Nat → Bool} {mu ma wo fr tw : Nat → Nat} {U : Nat → Bool}
theorem ma_free {old : Int32} {b : Nat} (hb : b ≤ 24) (hP : ma_P pr mu ma wo) (hw : ∀ j, j < 6 → ∀ t, t < 24 → bt (bW j) t = ma_w pr fr tw j t) (hS : ∀ j, j < 6 → bS j = nI (mu j)) (hT : ∀ j, j < 6 → aT j = if pr j = true then 1 else 0) (hF : ∀ j, j < 6 → pr j = true → aF j = nI (fr j) ∧ aG j = nI (tw j) ∧ fr j ≤ 24 ∧ tw j ≤ 24) (hW : ma_Yp pr mu ma wo aM aY aW) :
    ∀ (d t c : Nat) (U : Nat → Bool), t + d = b → ∃ r : Int32,
      (∀ (rest : Int32) (post : Int32 → SX → Prop), (∀ i, i < 24 → bt rest i = U i) → post r (pt, op, bW, bM, bY, bV, bS) → wX_freeable_25 post (nI b) pt op bW bM bY bV bS (d + 1) rest (nI c) (nI t)) ∧
      (∀ (sh ct : Int32) (aR aN aO aK aB : Nat → Int32) (post : Int32 → SY → Prop), (∀ i, i < 24 → bt sh i = !U i) → (∀ aR' aN' : Nat → Int32, post r (old, ct, aT, aF, aG, aM, aY, aW, aR', aN', aO, aK, aB)) → wY_freeable_28 post (nI b) old (d + 1) (nI c) (nI t) sh ct aT aF aG aM aY aW aR aN aO aK aB) := by
  intro d
  induction d with
  | zero =>
    intro t c U ht
    have e : nI b ≤ nI t := nI_le (by omega) (by omega)
    exact ⟨nI c, fun rest post _ h => br_t e h, fun sh ct aR aN aO aK aB post _ h => br_t e (h aR aN)⟩
  | succ d ih =>
    intro t c U ht
    have e : ¬ nI b ≤ nI t := nI_ge (by omega) (by omega)
    have ht24 : t < 24 := by omega
    cases hU : U t with
    | false =>
      obtain ⟨r, h1, h2⟩ := ih (t + 1) c U (by omega)
      refine ⟨r, fun rest post hr h => br_f e (nm_e (br_t ((ma_and0 rest (by omega)).mpr (by rw [hr t ht24, hU])) (nm_r (nI_1 t) (h1 rest post hr h)))), fun sh ct aR aN aO aK aB post hs h => br_f e (br_f (fun z => ?_) (nm_r (nI_1 t) (h2 sh ct aR aN aO aK aB post hs h)))⟩
      have z' := (ma_bit0 sh (by omega)).mp z
      rw [hs t ht24, hU] at z'
      exact absurd z' (by decide)
    | true =>
      by_cases f : ma_fit (ma_w pr fr tw) (ma_pb U t false) mu
      · obtain ⟨r, h1, h2⟩ := ih (t + 1) (c + 1) (ma_pb U t false) (by omega)
        refine ⟨r, fun rest post hr h => br_f e (nm_e (br_f (fun z => ?_) (ma_sharesFit (x := mu) hw (ma_op_on ht24 hr) hS (ma_mu100 hP) (fun _ => br_f (by decide) (nm_e (nm_r (nI_1 c) (nm_r (nI_1 t) (h1 _ post (ma_op_on ht24 hr) h))))) (fun f' => absurd f f')))), fun sh ct aR aN aO aK aB post hs h => br_f e (br_t ((ma_bit0 sh (by omega)).mpr (by rw [hs t ht24, hU]; rfl)) ?_)⟩
        · have z' := (ma_and0 rest (by omega)).mp z
          rw [hr t ht24, hU] at z'
          exact absurd z' (by decide)
        · refine br_f (nI_pos (by omega)) (br_t (ma_le23 ht24) (br_f (by decide) ?_))
          exact ma_block43 hP ⟨hT, hF, hs⟩ hW (ma_sh_on ht24 hs) (fun aR' aN' _ => br_t rfl (nm_r (nI_1 c) (nm_r (nI_1 t) (h2 _ _ _ _ _ _ _ post (ma_sh_on ht24 hs) h)))) (fun aR' aN' f' => absurd f f')
      · obtain ⟨r, h1, h2⟩ := ih (t + 1) c U (by omega)
        refine ⟨r, fun rest post hr h => br_f e (nm_e (br_f (fun z => ?_) (ma_sharesFit (x := mu) hw (ma_op_on ht24 hr) hS (ma_mu100 hP) (fun f' => absurd f' f) (fun _ => br_t rfl (nm_r (nI_1 t) (h1 _ post hr h)))))), fun sh ct aR aN aO aK aB post hs h => br_f e (br_t ((ma_bit0 sh (by omega)).mpr (by rw [hs t ht24, hU]; rfl)) ?_)⟩
        · have z' := (ma_and0 rest (by omega)).mp z
          rw [hr t ht24, hU] at z'
          exact absurd z' (by decide)
        · refine br_f (nI_pos (by omega)) (br_t (ma_le23 ht24) (br_f (by decide) ?_))
          exact ma_block43 hP ⟨hT, hF, hs⟩ hW (ma_sh_on ht24 hs) (fun aR' aN' f' => absurd f' f) (fun aR' aN' _ => br_f (fun z => nI_pos (n := t) (by omega) (by rw [← z]; decide)) (nm_r (Int32.add_zero _) (nm_r (nI_1 t) (h2 _ _ _ _ _ _ _ post hs h))))
/-! one unit of the first plan -/
def ma_cd (w : Nat → Nat → Bool) (U : Nat → Bool) (x : Nat → Nat) (u j : Nat) : Prop := 0 < x j ∧ w j u = true ∧ U u = true ∧ ma_fit w (ma_U (u + 1) U) (ma_put x j (x j - 1))
theorem ma_put50 {x : Nat → Nat} {j : Nat} (hx : ∀ j, j < 6 → x j ≤ 50) (hj : j < 6) : ∀ i, i < 6 → ma_put x j (x j - 1) i ≤ 100 := fun i hi => by
  by_cases e : i = j
  · rw [e, ma_put_s]
    have := hx j hj
    omega
  · rw [ma_put_n e]
    have := hx i hi
    omega
theorem ma_op_late {u : Nat} (hu : u < 24) (h : ∀ t, t < 24 → bt op t = U t) : ∀ t, t < 24 → bt (op &&& ((-2 : Int32) <<< (nI u &&& 31))) t = ma_U (u + 1) U t := by
  intro t ht
  rw [ma_late _ (by omega) (by omega), h t ht]
  unfold ma_U
  rw [Bool.and_comm]
  rfl
theorem ma_giveX {u e : Nat} {x : Nat → Nat} {w : Nat → Nat → Bool} (hu : u < 24) (he : e ≤ 6) (hx : ∀ j, j < 6 → x j ≤ 50) (hw : ∀ j, j < 6 → ∀ t, t < 24 → bt (bW j) t = w j t) (ho : ∀ t, t < 24 → bt op t = U t) (hU : U u = true) (hc : ∀ i, i < e → ¬ ma_cd w U x u i) (hS : ∀ j, j < 6 → bS j = nI (x j)) {post : Int32 → SX → Prop} (h : ∀ (n : Nat) (s : Nat → Int32), (∀ j, j < 6 → s j = nI (x j)) → wX_giveUnit_25 post (nI u) (op &&& ((-2 : Int32) <<< (nI u &&& 31))) pt op (n + 1) (nI e) bW bM bY bV s) : wpX_giveUnit post (pt, op, bW, bM, bY, bV, bS) (nI u) := by
  refine br_f (fun z => ?_) (nm_e (loop_0 (fun n i s => wX_giveUnit_25 post (nI u) (op &&& ((-2 : Int32) <<< (nI u &&& 31))) pt op n (nI i) bW bM bY bV s) (fun i s => ∀ j, j < 6 → s j = nI (x j)) e bS hS h ?_))
  · have z' := (ma_bit0 op (by omega)).mp z
    rw [ho u hu, hU] at z'
    exact absurd z' (by decide)
  · intro n i s hi es ih
    have hi6 : i < 6 := by omega
    have hxi := hx i hi6
    have ws : ((bW (nI i).toNatClampNeg >>> (nI u &&& 31)) &&& 1) = 0 ↔ w i u = false := by rw [ma_bit0 _ (by omega), ma_c6 hi6, hw i hi6 u hu]
    refine br_f (ma_6 hi6) ⟨ma_in6 hi6, pk_le (x i) 0 (fun z => nm_r (nI_1 i) (ih s es)) (fun z => ⟨ma_in6 hi6, br_c (fun q => nm_r (nI_1 i) (ih s es)) (fun q => ⟨ma_in6 hi6, ma_in6 hi6, nm_r (e' := upd s i (nI (x i - 1))) (by rw [ma_c6 hi6, es i hi6]; exact congrArg _ (pk_sub z)) ?_⟩)⟩) (by rw [ma_c6 hi6]; exact es i hi6)⟩
    refine ma_sharesFit (x := ma_put x i (x i - 1)) hw (ma_op_late hu ho) (ma_nat_put es) (ma_put50 hx hi6) (fun f => absurd ⟨z, ma_nf (mt ws.mpr q), hU, f⟩ (hc i hi)) (fun f => br_t rfl ⟨ma_in6 hi6, ma_in6 hi6, nm_r (e' := upd (upd s i (nI (x i - 1))) i (nI (x i))) ?_ (nm_r (nI_1 i) (ih _ fun l hl => ?_))⟩)
    · rw [ma_c6 hi6, pk_us, nI_1, Nat.sub_add_cancel z]
    · by_cases c : l = i
      · rw [c, pk_us]
      · rw [pk_un c, pk_un c]; exact es l hl
theorem ma_giveY {u e : Nat} {x : Nat → Nat} (hu : u < 24) (he : e ≤ 6) (hx : ∀ j, j < 6 → x j ≤ 50) (h0 : ∀ j, j < 6 → pr j = false → x j = 0) (hY : ma_Yt pr fr tw U sh aT aF aG) (hc : ∀ i, i < e → ¬ ma_cd (ma_w pr fr tw) U x u i) (hN : ∀ j, j < 6 → aN j = nI (x j)) {post : Int32 → SY → Prop} (h : ∀ (n : Nat) (aR' s : Nat → Int32), (∀ S, S < 64 → aR' S = nI (ma_rm (ma_w pr fr tw) (ma_U (u + 1) U) S)) → (∀ j, j < 6 → s j = nI (x j)) → wY_give_9 post (nI u) sh ct (n + 1) (nI e) aT aF aG aM aY aW aR' s aO aK aB) : wpY_give post (sh, ct, aT, aF, aG, aM, aY, aW, aR, aN, aO, aK, aB) (nI u) := by
  unfold wpY_give
  dsimp only
  rw [nI_1 u]
  refine ma_measure hY (by omega) (fun aR' hR => ?_)
  refine loop_0 (fun n i s => wY_give_9 post (nI u) sh ct n (nI i) aT aF aG aM aY aW aR' s aO aK aB) (fun i s => ∀ j, j < 6 → s j = nI (x j)) e aN hN (fun n s es => h n aR' s hR es) ?_
  intro n i s hi es ih
  have hi6 : i < 6 := by omega
  have hxi := hx i hi6
  refine br_f (ma_6 hi6) ⟨ma_in6 hi6, pk_le (x i) 0 (fun z => nm_r (nI_1 i) (ih s es)) (fun z => ?_) (by rw [ma_c6 hi6]; exact es i hi6)⟩
  rw [ma_sh1 i hi6]
  refine ma_covers hY hu ?_
  rw [ma_hit_one hi6]
  cases hcv : (ma_w pr fr tw i u && U u) with
  | false => exact br_t (if_neg Bool.false_ne_true) (nm_r (nI_1 i) (ih s es))
  | true =>
    rw [Bool.and_eq_true] at hcv
    refine br_f (by rw [if_pos rfl]; decide) ⟨ma_in6 hi6, ma_in6 hi6, nm_r (e' := upd s i (nI (x i - 1))) (by rw [ma_c6 hi6, es i hi6]; exact congrArg _ (pk_sub z)) ?_⟩
    refine ma_can (x := ma_put x i (x i - 1)) hY.1 hR (fun l hl _ => ma_nat_put es l hl) (ma_put50 hx hi6) (fun l hl p => ?_) (fun f => absurd ⟨z, hcv.1, hcv.2, f⟩ (hc i hi)) (fun f => br_t rfl ⟨ma_in6 hi6, ma_in6 hi6, nm_r (e' := upd (upd s i (nI (x i - 1))) i (nI (x i))) ?_ (nm_r (nI_1 i) (ih _ fun l hl => ?_))⟩)
    · by_cases c : l = i
      · rw [c, ma_put_s]
        rw [c] at p
        rw [h0 i hi6 p]
      · rw [ma_put_n c]; exact h0 l hl p
    · rw [ma_c6 hi6, pk_us, nI_1, Nat.sub_add_cancel z]
    · by_cases c : l = i
      · rw [c, pk_us]
      · rw [pk_un c, pk_un c]; exact es l hl
theorem ma_step {u : Nat} {x : Nat → Nat} (hu : u < 24) (hx : ∀ j, j < 6 → x j ≤ 50) (h0 : ∀ j, j < 6 → pr j = false → x j = 0) (hw : ∀ j, j < 6 → ∀ t, t < 24 → bt (bW j) t = ma_w pr fr tw j t) (ho : ∀ t, t < 24 → bt op t = U t) (hY : ma_Yt pr fr tw U sh aT aF aG) :
    ∃ (r : Int32) (x1 : Nat → Nat), (∀ j, j < 6 → x1 j ≤ x j) ∧
      (∀ (bS : Nat → Int32) (post : Int32 → SX → Prop), (∀ j, j < 6 → bS j = nI (x j)) → (∀ bS' : Nat → Int32, (∀ j, j < 6 → bS' j = nI (x1 j)) → post r (pt, op, bW, bM, bY, bV, bS')) → wpX_giveUnit post (pt, op, bW, bM, bY, bV, bS) (nI u)) ∧
      (∀ (ct : Int32) (aR aN aO aK aB : Nat → Int32) (post : Int32 → SY → Prop), (∀ j, j < 6 → aN j = nI (x j)) → (∀ aR' aN' : Nat → Int32, (∀ j, j < 6 → aN' j = nI (x1 j)) → post r (sh, ct, aT, aF, aG, aM, aY, aW, aR', aN', aO, aK, aB)) → wpY_give post (sh, ct, aT, aF, aG, aM, aY, aW, aR, aN, aO, aK, aB) (nI u)) := by
  rcases ma_leastP (ma_cd (ma_w pr fr tw) U x u) with hn | ⟨j, hj, hc, hl⟩
  · refine ⟨-1, x, fun _ _ => Nat.le_refl _, fun bS post hS h => ?_, fun ct aR aN aO aK aB post hN h => ?_⟩
    · cases hU : U u with
      | false => exact br_t ((ma_bit0 op (by omega)).mpr (by rw [ho u hu, hU])) (h bS hS)
      | true => exact ma_giveX hu (Nat.le_refl 6) hx hw ho hU hn hS (fun n s es => br_t ma_y6 (h s es))
    · exact ma_giveY hu (Nat.le_refl 6) hx h0 hY hn hN (fun n aR' s hR es => br_t ma_y6 (h aR' s es))
  · obtain ⟨c1, c2, c3, c4⟩ := hc
    have hxj := hx j hj
    refine ⟨nI j, ma_put x j (x j - 1), fun i hi => ?_, fun bS post hS h => ?_, fun ct aR aN aO aK aB post hN h => ?_⟩
    · by_cases e : i = j
      · rw [e, ma_put_s]; exact Nat.sub_le _ _
      · rw [ma_put_n e]; exact Nat.le_refl _
    · refine ma_giveX hu (Nat.le_of_lt hj) hx hw ho c3 hl hS (fun n s es => ?_)
      refine br_f (ma_6 hj) ⟨ma_in6 hj, br_f (by rw [ma_c6 hj, es j hj]; exact nI_nle c1 (by omega)) ⟨ma_in6 hj, br_f (fun z => ?_) ⟨ma_in6 hj, ma_in6 hj, nm_r (e' := upd s j (nI (x j - 1))) (by rw [ma_c6 hj, es j hj]; exact congrArg _ (pk_sub c1)) ?_⟩⟩⟩
      · have z' := (ma_bit0 _ (by omega)).mp z
        rw [ma_c6 hj, hw j hj u hu, c2] at z'
        exact absurd z' (by decide)
      · exact ma_sharesFit (x := ma_put x j (x j - 1)) hw (ma_op_late hu ho) (ma_nat_put es) (ma_put50 hx hj) (fun f => br_f (by decide) (h _ (ma_nat_put es))) (fun f => absurd c4 f)
    · refine ma_giveY hu (Nat.le_of_lt hj) hx h0 hY hl hN (fun n aR' s hR es => ?_)
      refine br_f (ma_6 hj) ⟨ma_in6 hj, br_f (by rw [ma_c6 hj, es j hj]; exact nI_nle c1 (by omega)) ?_⟩
      rw [ma_sh1 j hj]
      refine ma_covers hY hu ?_
      rw [ma_hit_one hj, c2, c3]
      refine br_f (by decide) ⟨ma_in6 hj, ma_in6 hj, nm_r (e' := upd s j (nI (x j - 1))) (by rw [ma_c6 hj, es j hj]; exact congrArg _ (pk_sub c1)) ?_⟩
      refine ma_can (x := ma_put x j (x j - 1)) hY.1 hR (fun l hl _ => ma_nat_put es l hl) (ma_put50 hx hj) (fun l hl p => ?_) (fun f => br_f (by decide) (h _ _ (ma_nat_put es))) (fun f => absurd c4 f)
      by_cases c : l = j
      · rw [c, ma_put_s]
        rw [c] at p
        rw [h0 j hj p]
      · rw [ma_put_n c]; exact h0 l hl p
end
