/-! the class's walks: countUnits, sharesFit, shareMusts, fitsWithMust, growShare, shareBest, lossOfShares -/
theorem ma_countUnits {x : Int32} {post : Int32 → Prop} (h : post (nI (ma_sum (fun t => if bt x t = true then 1 else 0) 24))) : wpX_countUnits post x := by
  refine loop_0 (fun n i s => wX_countUnits_4 post x n s (nI i)) (fun i s => s = nI (ma_sum (fun t => if bt x t = true then 1 else 0) i)) 24 0 rfl ?_ ?_
  · intro n s e
    subst e
    exact br_t ma_y24 h
  · intro n i s hi e ih
    subst e
    exact br_f (ma_24 hi) (nm_e (nm_r (nI_1 i) (ih _ (by rw [ma_bn x (by omega), nI_add, ma_sum_s]))))
section
variable {pt op : Int32} {bW bM bY bV bS : Nat → Int32} {pr : Nat → Bool} {mu ma wo x : Nat → Nat} {w : Nat → Nat → Bool} {V : Nat → Bool}
theorem ma_sharesFit {u : Int32} (hw : ∀ j, j < 6 → ∀ t, t < 24 → bt (bW j) t = w j t) (hu : ∀ t, t < 24 → bt u t = V t) (hS : ∀ j, j < 6 → bS j = nI (x j)) (hx : ∀ j, j < 6 → x j ≤ 100) {post : Int32 → Prop} (h1 : ma_fit w V x → post 1) (h2 : ¬ ma_fit w V x → post 0) : wpX_sharesFit post (pt, op, bW, bM, bY, bV, bS) u := by
  refine pk_loop (fun n i (_ : Unit) => wX_sharesFit_2 post u pt op bW bM bY bV bS n (nI i)) (fun i _ => ∀ S, S < i → ma_dem S x ≤ ma_rm w V S) 64 1 () (by decide) (fun S hS => ?_) ?_ ?_
  · rw [show S = 0 by omega, ma_dem_0]; exact Nat.zero_le _
  · intro n _ e
    exact br_t ma_y64 (h1 e)
  · intro n i _ hi e ih
    refine br_f (ma_64 hi) ?_
    refine loop_0 (fun m j (s : Int32 × Int32) => wX_sharesFit_16 post (wX_sharesFit_2 post u pt op bW bM bY bV bS n) u (nI i) pt op bW bM bY bV bS m s.1 s.2 (nI j)) (fun j s => s.1 = nI (ma_sum (fun j => if i.testBit j = true then x j else 0) j) ∧ ∀ t, t < 24 → bt s.2 t = ma_any (fun j => i.testBit j && w j t) j) 6 (0, 0) ⟨rfl, fun t _ => b_0 t⟩ ?_ ?_
    · intro m s es
      obtain ⟨c, d⟩ := s
      obtain ⟨e1, e2⟩ := es
      try dsimp only at e1 e2
      have b1 := ma_rm_24 w V i
      have b2 := ma_dem_600 (S := i) hx
      have er : ma_sum (fun t => if bt (d &&& u) t = true then 1 else 0) 24 = ma_rm w V i := ma_sum_eq 24 fun t ht => by
        try dsimp only
        rw [b_and, e2 t ht, hu t ht]
        rfl
      refine br_t ma_y6 (ma_countUnits ?_)
      rw [er]
      refine pk_le (ma_dem i x) (ma_rm w V i) (fun q => nm_r (nI_1 i) (ih () fun S hS => ?_)) (fun q => h2 fun f => ?_) e1
      · by_cases c : S = i
        · rw [c]; exact q
        · exact e S (by omega)
      · have := f i hi
        omega
    · intro m j s hj es ih2
      obtain ⟨c, d⟩ := s
      obtain ⟨e1, e2⟩ := es
      try dsimp only at e1 e2
      have b1 : ((nI i >>> (nI j &&& 31)) &&& 1) = 0 ↔ i.testBit j = false := by rw [ma_bit0 _ (by omega), ma_tb i (by omega)]
      refine br_f (ma_6 hj) (br_c (fun q => nm_r (nI_1 j) (ih2 (c, d) ⟨?_, fun t ht => ?_⟩)) (fun q => ⟨ma_in6 hj, nm_e ⟨ma_in6 hj, nm_e (nm_r (nI_1 j) (ih2 (_, _) ⟨?_, fun t ht => ?_⟩))⟩⟩))
      · try dsimp only
        rw [ma_sum_s, b1.mp q, if_neg Bool.false_ne_true, Nat.add_zero]
        exact e1
      · try dsimp only
        rw [ma_any_s, b1.mp q, Bool.false_and, Bool.or_false]
        exact e2 t ht
      · try dsimp only
        rw [ma_sum_s, ma_nf (mt b1.mpr q), if_pos rfl, ma_c6 hj, hS j hj, e1, nI_add]
      · try dsimp only
        rw [ma_any_s, ma_nf (mt b1.mpr q), Bool.true_and, ma_c6 hj, b_or, e2 t ht, hw j hj t ht]
theorem ma_shareMusts {post : SX → Prop} (h : ∀ bS' : Nat → Int32, (∀ j, j < 6 → bS' j = bM j) → post (pt, op, bW, bM, bY, bV, bS')) : wpX_shareMusts post (pt, op, bW, bM, bY, bV, bS) := by
  refine loop_0 (fun n i s => wX_shareMusts_2 post pt op n (nI i) bW bM bY bV s) (fun i s => ∀ j, j < i → s j = bM j) 6 bS (fun j hj => absurd hj (Nat.not_lt_zero _)) ?_ ?_
  · intro n s e
    exact br_t ma_y6 (h s e)
  · intro n i s hi e ih
    refine br_f (ma_6 hi) ⟨ma_in6 hi, ma_in6 hi, nm_r (e' := upd s i (bM i)) (by rw [ma_c6 hi]) (nm_r (nI_1 i) (ih _ ?_))⟩
    intro j hj
    by_cases c : j = i
    · rw [c, pk_us]
    · rw [pk_un c]; exact e j (by omega)
theorem ma_fitsWith {j v : Nat} (hw : ∀ j, j < 6 → ∀ t, t < 24 → bt (bW j) t = w j t) (hu : ∀ t, t < 24 → bt op t = V t) (hM : ∀ j, j < 6 → bM j = nI (mu j)) (hm : ∀ j, j < 6 → mu j ≤ 6) (hj : j < 6) (hv : v ≤ 100) {post : Int32 → SX → Prop} (h1 : ∀ bS' : Nat → Int32, ma_fit w V (ma_put mu j v) → post 1 (pt, op, bW, bM, bY, bV, bS')) (h2 : ∀ bS' : Nat → Int32, ¬ ma_fit w V (ma_put mu j v) → post 0 (pt, op, bW, bM, bY, bV, bS')) : wpX_fitsWithMust post (pt, op, bW, bM, bY, bV, bS) (nI j) (nI v) := by
  unfold wpX_fitsWithMust
  dsimp only
  refine ma_shareMusts (fun bS' e => ⟨ma_in6 hj, nm_r (e' := upd bS' j (nI v)) (by rw [ma_c6 hj]) ?_⟩)
  refine ma_sharesFit (x := ma_put mu j v) hw hu (fun i hi => ?_) (fun i hi => ?_) (fun f => ⟨ma_nb1, h1 _ f⟩) (fun f => ⟨ma_nb0, h2 _ f⟩)
  · by_cases c : i = j
    · rw [c, pk_us, ma_put_s]
    · rw [pk_un c, ma_put_n c, e i hi, hM i hi]
  · by_cases c : i = j
    · rw [c, ma_put_s]; exact hv
    · rw [ma_put_n c]
      have := hm i hi
      omega
theorem ma_grow {u : Int32} {j a : Nat} (hw : ∀ j, j < 6 → ∀ t, t < 24 → bt (bW j) t = w j t) (hu : ∀ t, t < 24 → bt u t = V t) (hS : ∀ j, j < 6 → bS j = nI (x j)) (hx : ∀ j, j < 6 → x j ≤ 50) (hf : ma_fit w V x) (hj : j < 6) (hA : bY j = nI a) (ha : a ≤ 6) {post : SX → Prop} (h : ∀ (bS' : Nat → Int32) (v : Nat), (∀ i, i < 6 → bS' i = nI (ma_put x j v i)) → x j ≤ v → v ≤ x j + a → ma_fit w V (ma_put x j v) → (v = x j + a ∨ ¬ ma_fit w V (ma_put x j (v + 1))) → post (pt, op, bW, bM, bY, bV, bS')) : wpX_growShare post (pt, op, bW, bM, bY, bV, bS) (nI j) u := by
  have hpx : ∀ i, ma_put x j (x j + 0) i = x i := fun i => by
    by_cases c : i = j
    · rw [c, ma_put_s, Nat.add_zero]
    · rw [ma_put_n c]
  have hxj := hx j hj
  refine loop_0 (fun n i s => wX_growShare_2 post (nI j) u pt op n (nI i) bW bM bY bV s) (fun i s => (∀ l, l < 6 → s l = nI (ma_put x j (x j + i) l)) ∧ ma_fit w V (ma_put x j (x j + i))) a bS ⟨fun l hl => ?_, ?_⟩ ?_ ?_
  · rw [hpx l]; exact hS l hl
  · exact ma_fit_eq (fun l _ => hpx l) hf
  · intro n s e
    exact ⟨ma_in6 hj, br_t (by rw [ma_c6 hj, hA]; exact nI_le (Nat.le_refl _) (by omega)) (h s _ e.1 (Nat.le_add_right _ _) (Nat.le_refl _) e.2 (Or.inl rfl))⟩
  · intro n i s hi e ih
    have es : s j = nI (x j + i) := by rw [e.1 j hj, ma_put_s]
    refine ⟨ma_in6 hj, br_f (by rw [ma_c6 hj, hA]; exact nI_ge hi (by omega)) ⟨ma_in6 hj, ma_in6 hj, nm_r (e' := upd s j (nI (x j + (i + 1)))) (by rw [ma_c6 hj, es, nI_1, Nat.add_assoc]) ?_⟩⟩
    have hS2 : ∀ l, l < 6 → upd s j (nI (x j + (i + 1))) l = nI (ma_put x j (x j + (i + 1)) l) := fun l hl => by
      by_cases c : l = j
      · rw [c, pk_us, ma_put_s]
      · rw [pk_un c, ma_put_n c, e.1 l hl, ma_put_n c]
    refine ma_sharesFit (x := ma_put x j (x j + (i + 1))) hw hu hS2 (fun l hl => ?_) (fun f => br_f (by decide) (nm_r (nI_1 i) (ih _ ⟨hS2, f⟩))) (fun f => br_t rfl ⟨ma_in6 hj, ma_in6 hj, nm_r (e' := upd (upd s j (nI (x j + (i + 1)))) j (nI (x j + i))) ?_ (h _ (x j + i) (fun l hl => ?_) (Nat.le_add_right _ _) (by omega) e.2 (Or.inr f))⟩)
    · by_cases c : l = j
      · rw [c, ma_put_s]; omega
      · rw [ma_put_n c]
        have := hx l hl
        omega
    · rw [ma_c6 hj, pk_us, ← Nat.add_assoc, nI_pred]
    · by_cases c : l = j
      · rw [c, pk_us, ma_put_s]
      · rw [pk_un c, pk_un c, ma_put_n c, e.1 l hl, ma_put_n c]
theorem ma_shareBest {u : Int32} (hP : ma_P pr mu ma wo) (hw : ∀ j, j < 6 → ∀ t, t < 24 → bt (bW j) t = w j t) (hu : ∀ t, t < 24 → bt u t = V t) (hM : ∀ j, j < 6 → bM j = nI (mu j)) (hY : ∀ j, j < 6 → bY j = nI (ma j)) (hV : ∀ j, j < 6 → bV j = nI (wo j)) (hf : ma_fit w V mu) {post : SX → Prop} (h : ∀ (bS' : Nat → Int32) (x : Nat → Nat), (∀ j, j < 6 → bS' j = nI (x j)) → ma_G w V mu ma pr wo 54 x → post (pt, op, bW, bM, bY, bV, bS')) : wpX_shareBest post (pt, op, bW, bM, bY, bV, bS) u := by
  unfold wpX_shareBest
  dsimp only
  refine ma_shareMusts (fun bS' e => ?_)
  refine loop_0 (fun n i s => wX_shareBest_7 post u n (nI (9 - i)) pt op bW bM bY bV s) (fun i s => ∃ x : Nat → Nat, (∀ j, j < 6 → s j = nI (x j)) ∧ ma_G w V mu ma pr wo (6 * i) x) 9 bS' ⟨mu, fun j hj => (e j hj).trans (hM j hj), ma_G_0 hf⟩ ?_ ?_
  · intro n s e
    obtain ⟨x, e1, e2⟩ := e
    exact br_t (by decide) (h s x e1 e2)
  · intro n i s hi e ih
    refine br_f (nI_nlt (b := 1) (by omega) (by omega)) ?_
    refine loop_0 (fun m j s => wX_shareBest_14 post (wX_shareBest_7 post u n) u (nI (9 - i)) m (nI j) pt op bW bM bY bV s) (fun j s => ∃ x : Nat → Nat, (∀ j, j < 6 → s j = nI (x j)) ∧ ma_G w V mu ma pr wo (6 * i + j) x) 6 s e ?_ ?_
    · intro m s e
      refine br_t ma_y6 (nm_r (e' := nI (9 - (i + 1))) ?_ (ih s e))
      rw [show 9 - i = 9 - (i + 1) + 1 by omega]
      exact pk_m1 _
    · intro m j s hj e ih2
      obtain ⟨x, e1, e2⟩ := e
      have hb := ma_P6 hP hj
      have hx : ∀ l, l < 6 → x l ≤ 50 := fun l hl => by
        have a := e2.1.2.1 l hl
        have b := ma_P6 hP hl
        omega
      refine br_f (ma_6 hj) ⟨ma_in6 hj, pk_eq (wo j) (9 - i) (fun q => ?_) (fun q => nm_r (nI_1 j) (ih2 s ⟨x, e1, ma_G_skip e2 fun l hl hp z => ?_⟩)) (by rw [ma_c6 hj]; exact hV j hj)⟩
      · have hp : pr j = true := ma_nf fun z => by
          have := ((hP j hj).2 z).2.2
          omega
        have hk : ma_key wo j = 6 * i + j := by
          unfold ma_key
          omega
        have hxj : x j = mu j := e2.1.2.2.1 j hj (ma_D_at (by omega))
        refine ma_grow hw hu e1 hx e2.1.1 hj (hY j hj) hb.2.1 (fun bS' v a1 a2 a3 a4 a5 => nm_r (nI_1 j) (ih2 bS' ⟨ma_put x j v, a1, ?_⟩))
        rw [hxj] at a2 a3 a5
        exact ma_G_grow e2 hj hp hk a2 a3 a4 a5
      · replace z : ma_key wo l = 6 * i + j := z
        unfold ma_key at z
        have := ((hP l hl).1 hp).2.2
        have : l = j := by omega
        subst this
        omega
theorem ma_lossOf (hP : ma_P pr mu ma wo) (hM : ∀ j, j < 6 → bM j = nI (mu j)) (hY : ∀ j, j < 6 → bY j = nI (ma j)) (hV : ∀ j, j < 6 → bV j = nI (wo j)) (hS : ∀ j, j < 6 → bS j = nI (x j)) (hb : ∀ j, j < 6 → mu j ≤ x j ∧ x j ≤ mu j + ma j) {post : Int32 → Prop} (h : post (nI (ma_ls pr ma wo (fun j => x j - mu j)))) : wpX_lossOfShares post (pt, op, bW, bM, bY, bV, bS) := by
  refine loop_0 (fun n i s => wX_lossOfShares_4 post pt op bW bM bY bV bS n s (nI i)) (fun i s => s = nI (ma_sum (fun j => if pr j = true then wo j * (ma j - (x j - mu j)) else 0) i)) 6 0 rfl ?_ ?_
  · intro n s e
    subst e
    exact br_t ma_y6 h
  · intro n i s hi e ih
    subst e
    refine br_f (ma_6 hi) ⟨ma_in6 hi, ma_in6 hi, ma_in6 hi, ma_in6 hi, nm_e (nm_r (nI_1 i) (ih _ ?_))⟩
    have b := hb i hi
    rw [ma_sum_s, ma_c6 hi, hM i hi, hY i hi, hV i hi, hS i hi, nI_add, pk_sub b.2, pk_mul, nI_add]
    cases hp : pr i with
    | true =>
      rw [if_pos rfl, show mu i + ma i - x i = ma i - (x i - mu i) by omega]
    | false =>
      rw [if_neg Bool.false_ne_true, ((hP i hi).2 hp).2.2, Nat.zero_mul]
end
