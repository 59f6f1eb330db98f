/-! Pure picture: sums, groups of tasks as masks below 64, room, fit; the greedy vector; the rank of a kept vector -/
def ma_sum (f : Nat → Nat) : Nat → Nat
  | 0 => 0
  | n + 1 => ma_sum f n + f n
theorem ma_sum_le {f g : Nat → Nat} : ∀ n, (∀ i, i < n → f i ≤ g i) → ma_sum f n ≤ ma_sum g n := by
  intro n
  induction n with
  | zero => intro _; exact Nat.le_refl _
  | succ n ih =>
    intro h
    exact Nat.add_le_add (ih fun i hi => h i (by omega)) (h n (by omega))
theorem ma_sum_eq {f g : Nat → Nat} (n : Nat) (h : ∀ i, i < n → f i = g i) : ma_sum f n = ma_sum g n :=
  Nat.le_antisymm (ma_sum_le n fun i hi => Nat.le_of_eq (h i hi)) (ma_sum_le n fun i hi => Nat.le_of_eq (h i hi).symm)
theorem ma_sum_add (f g : Nat → Nat) : ∀ n, ma_sum (fun i => f i + g i) n = ma_sum f n + ma_sum g n := by
  intro n
  induction n with
  | zero => rfl
  | succ n ih => simp only [ma_sum, ih]; omega
theorem ma_sum_zero : ∀ n, ma_sum (fun _ => 0) n = 0 := by
  intro n
  induction n with
  | zero => rfl
  | succ n ih => simp only [ma_sum, ih]
theorem ma_sum_one (f : Nat → Nat) (j v : Nat) : ∀ n, (j < n → ma_sum (fun i => if i = j then v else f i) n + f j = ma_sum f n + v) ∧ (n ≤ j → ma_sum (fun i => if i = j then v else f i) n = ma_sum f n) := by
  intro n
  induction n with
  | zero => exact ⟨fun h => absurd h (Nat.not_lt_zero _), fun _ => rfl⟩
  | succ n ih =>
    obtain ⟨h1, h2⟩ := ih
    refine ⟨fun h => ?_, fun h => ?_⟩
    · simp only [ma_sum]
      by_cases e : n = j
      · rw [if_pos e, h2 (by omega), e]; omega
      · rw [if_neg e]
        have := h1 (by omega)
        omega
    · simp only [ma_sum]
      rw [if_neg (by omega), h2 (by omega)]
def ma_any (f : Nat → Bool) : Nat → Bool
  | 0 => false
  | n + 1 => ma_any f n || f n
theorem ma_any_iff (f : Nat → Bool) : ∀ n, ma_any f n = true ↔ ∃ i, i < n ∧ f i = true := by
  intro n
  induction n with
  | zero => simp [ma_any]
  | succ n ih =>
    simp only [ma_any, Bool.or_eq_true, ih]
    constructor
    · rintro (⟨i, hi, h⟩ | h)
      · exact ⟨i, by omega, h⟩
      · exact ⟨n, by omega, h⟩
    · rintro ⟨i, hi, h⟩
      by_cases e : i = n
      · subst e; exact Or.inr h
      · exact Or.inl ⟨i, by omega, h⟩
def ma_dem (S : Nat) (x : Nat → Nat) : Nat := ma_sum (fun j => if S.testBit j = true then x j else 0) 6
def ma_hit (w : Nat → Nat → Bool) (S t : Nat) : Bool := ma_any (fun j => S.testBit j && w j t) 6
def ma_rm (w : Nat → Nat → Bool) (U : Nat → Bool) (S : Nat) : Nat := ma_sum (fun t => if (ma_hit w S t && U t) = true then 1 else 0) 24
def ma_fit (w : Nat → Nat → Bool) (U : Nat → Bool) (x : Nat → Nat) : Prop := ∀ S, S < 64 → ma_dem S x ≤ ma_rm w U S
theorem ma_hit_or (w : Nat → Nat → Bool) (S T t : Nat) : ma_hit w (S ||| T) t = (ma_hit w S t || ma_hit w T t) := by
  rw [Bool.eq_iff_iff, Bool.or_eq_true]
  simp only [ma_hit, ma_any_iff, Nat.testBit_or, Bool.and_eq_true, Bool.or_eq_true]
  constructor
  · rintro ⟨i, hi, h | h, hw⟩
    · exact Or.inl ⟨i, hi, h, hw⟩
    · exact Or.inr ⟨i, hi, h, hw⟩
  · rintro (⟨i, hi, h, hw⟩ | ⟨i, hi, h, hw⟩)
    · exact ⟨i, hi, Or.inl h, hw⟩
    · exact ⟨i, hi, Or.inr h, hw⟩
theorem ma_hit_and {w : Nat → Nat → Bool} {S T t : Nat} (h : ma_hit w (S &&& T) t = true) : ma_hit w S t = true ∧ ma_hit w T t = true := by
  simp only [ma_hit, ma_any_iff, Nat.testBit_and, Bool.and_eq_true] at h ⊢
  obtain ⟨i, hi, ⟨h1, h2⟩, hw⟩ := h
  exact ⟨⟨i, hi, h1, hw⟩, ⟨i, hi, h2, hw⟩⟩
theorem ma_hit_0 (w : Nat → Nat → Bool) (t : Nat) : ma_hit w 0 t = false := by
  cases h : ma_hit w 0 t with
  | false => rfl
  | true =>
    rw [ma_hit, ma_any_iff] at h
    obtain ⟨i, _, h⟩ := h
    rw [Nat.zero_testBit] at h
    rw [Bool.false_and] at h; exact absurd h (by decide)
theorem ma_sub (w : Nat → Nat → Bool) (U : Nat → Bool) (S T : Nat) : ma_rm w U (S ||| T) + ma_rm w U (S &&& T) ≤ ma_rm w U S + ma_rm w U T := by
  unfold ma_rm
  rw [← ma_sum_add, ← ma_sum_add]
  refine ma_sum_le 24 fun t _ => ?_
  try dsimp only
  rw [ma_hit_or]
  have ha := @ma_hit_and w S T t
  revert ha
  cases ma_hit w (S &&& T) t <;> cases ma_hit w S t <;> cases ma_hit w T t <;> cases U t <;> decide
theorem ma_dem_or (S T : Nat) (x : Nat → Nat) : ma_dem (S ||| T) x + ma_dem (S &&& T) x = ma_dem S x + ma_dem T x := by
  unfold ma_dem
  rw [← ma_sum_add, ← ma_sum_add]
  refine ma_sum_eq 6 fun j _ => ?_
  try dsimp only
  rw [Nat.testBit_or, Nat.testBit_and]
  cases S.testBit j <;> cases T.testBit j <;> simp
theorem ma_dem_0 (x : Nat → Nat) : ma_dem 0 x = 0 := by
  refine (ma_sum_eq 6 fun j _ => ?_).trans (ma_sum_zero 6)
  rw [Nat.zero_testBit]; rfl
theorem ma_rm_0 (w : Nat → Nat → Bool) (U : Nat → Bool) : ma_rm w U 0 = 0 := by
  refine (ma_sum_eq 24 fun t _ => ?_).trans (ma_sum_zero 24)
  rw [ma_hit_0]; rfl
theorem ma_dem_le {x y : Nat → Nat} (S : Nat) (h : ∀ j, j < 6 → x j ≤ y j) : ma_dem S x ≤ ma_dem S y := by
  refine ma_sum_le 6 fun j hj => ?_
  try dsimp only
  split
  · exact h j hj
  · exact Nat.le_refl _
theorem ma_dem_eq {x y : Nat → Nat} (S : Nat) (h : ∀ j, j < 6 → x j = y j) : ma_dem S x = ma_dem S y :=
  Nat.le_antisymm (ma_dem_le S fun j hj => Nat.le_of_eq (h j hj)) (ma_dem_le S fun j hj => Nat.le_of_eq (h j hj).symm)
def ma_put (x : Nat → Nat) (j v : Nat) : Nat → Nat := fun i => if i = j then v else x i
theorem ma_put_s {x : Nat → Nat} {j v : Nat} : ma_put x j v j = v := if_pos rfl
theorem ma_put_n {x : Nat → Nat} {i j v : Nat} (h : i ≠ j) : ma_put x j v i = x i := if_neg h
theorem ma_put_sum (c : Nat → Bool) (x : Nat → Nat) (j v : Nat) {n : Nat} (hj : j < n) : ma_sum (fun i => if c i = true then ma_put x j v i else 0) n + (if c j = true then x j else 0) = ma_sum (fun i => if c i = true then x i else 0) n + (if c j = true then v else 0) := by
  have h := (ma_sum_one (fun i => if c i = true then x i else 0) j (if c j = true then v else 0) n).1 hj
  rw [← h]
  refine congrArg (· + _) (ma_sum_eq n fun i _ => ?_)
  by_cases e : i = j
  · rw [if_pos e, e, ma_put_s]
  · rw [if_neg e, ma_put_n e]
theorem ma_dem_put (S : Nat) (x : Nat → Nat) (j v : Nat) (hj : j < 6) : ma_dem S (ma_put x j v) + (if S.testBit j = true then x j else 0) = ma_dem S x + (if S.testBit j = true then v else 0) :=
  ma_put_sum (fun i => S.testBit i) x j v hj
theorem ma_fit_le {w : Nat → Nat → Bool} {U : Nat → Bool} {x y : Nat → Nat} (h : ∀ j, j < 6 → x j ≤ y j) (hf : ma_fit w U y) : ma_fit w U x :=
  fun S hS => Nat.le_trans (ma_dem_le S h) (hf S hS)
theorem ma_fit_eq {w : Nat → Nat → Bool} {U : Nat → Bool} {x y : Nat → Nat} (h : ∀ j, j < 6 → x j = y j) (hf : ma_fit w U y) : ma_fit w U x :=
  ma_fit_le (fun j hj => Nat.le_of_eq (h j hj)) hf
theorem ma_rm_le {w v : Nat → Nat → Bool} {U V : Nat → Bool} (hw : ∀ j t, j < 6 → t < 24 → w j t = true → v j t = true) (h : ∀ t, t < 24 → U t = true → V t = true) (S : Nat) : ma_rm w U S ≤ ma_rm v V S := by
  refine ma_sum_le 24 fun t ht => ?_
  try dsimp only
  have h1 := h t ht
  have h2 : ma_hit w S t = true → ma_hit v S t = true := by
    simp only [ma_hit, ma_any_iff, Bool.and_eq_true]
    rintro ⟨i, hi, a, b⟩
    exact ⟨i, hi, a, hw i t hi ht b⟩
  revert h1 h2
  cases ma_hit w S t <;> cases ma_hit v S t <;> cases U t <;> cases V t <;> decide
theorem ma_fit_U {w v : Nat → Nat → Bool} {U V : Nat → Bool} {x : Nat → Nat} (hw : ∀ j t, j < 6 → t < 24 → w j t = true → v j t = true) (h : ∀ t, t < 24 → U t = true → V t = true) (hf : ma_fit w U x) : ma_fit v V x :=
  fun S hS => Nat.le_trans (hf S hS) (ma_rm_le hw h S)
theorem ma_tight {w : Nat → Nat → Bool} {U : Nat → Bool} {x : Nat → Nat} {S T : Nat} (hf : ma_fit w U x) (hS : S < 64) (hT : T < 64) (eS : ma_dem S x = ma_rm w U S) (eT : ma_dem T x = ma_rm w U T) : ma_dem (S ||| T) x = ma_rm w U (S ||| T) := by
  have h1 := hf (S ||| T) (Nat.or_lt_two_pow (n := 6) hS hT)
  have h2 := hf (S &&& T) (Nat.and_lt_two_pow (n := 6) S hT)
  have h3 := ma_sub w U S T
  have h4 := ma_dem_or S T x
  omega
/-! the greedy vector -/
def ma_Inv (w : Nat → Nat → Bool) (U : Nat → Bool) (mu ma : Nat → Nat) (D : Nat → Bool) (x : Nat → Nat) : Prop :=
  ma_fit w U x ∧ (∀ j, j < 6 → mu j ≤ x j ∧ x j ≤ mu j + ma j) ∧ (∀ j, j < 6 → D j = false → x j = mu j) ∧
  ∃ T, T < 64 ∧ ma_dem T x = ma_rm w U T ∧ ∀ j, j < 6 → D j = true → x j = mu j + ma j ∨ T.testBit j = true
theorem ma_Inv_0 {w : Nat → Nat → Bool} {U : Nat → Bool} {mu ma : Nat → Nat} {D : Nat → Bool} (hf : ma_fit w U mu) (hD : ∀ j, j < 6 → D j = false) : ma_Inv w U mu ma D mu :=
  ⟨hf, fun j _ => ⟨Nat.le_refl _, Nat.le_add_right _ _⟩, fun _ _ _ => rfl, 0, by decide, by rw [ma_dem_0, ma_rm_0], fun j hj h => absurd h (by rw [hD j hj]; decide)⟩
theorem ma_Inv_s {w : Nat → Nat → Bool} {U : Nat → Bool} {mu ma : Nat → Nat} {D D' : Nat → Bool} {x : Nat → Nat} {j v : Nat} (h : ma_Inv w U mu ma D x) (hj : j < 6) (hD : D j = false) (h1 : mu j ≤ v) (h2 : v ≤ mu j + ma j) (hf : ma_fit w U (ma_put x j v)) (hm : v = mu j + ma j ∨ ¬ ma_fit w U (ma_put x j (v + 1))) (hD' : ∀ i, i < 6 → D' i = (D i || decide (i = j))) : ma_Inv w U mu ma D' (ma_put x j v) := by
  obtain ⟨_, hb, hn, T, hT, eT, hs⟩ := h
  have hxj := hn j hj hD
  have hle : ∀ i, i < 6 → x i ≤ ma_put x j v i := fun i hi => by
    by_cases e : i = j
    · rw [e, ma_put_s, hxj]; exact h1
    · rw [ma_put_n e]; exact Nat.le_refl _
  have eT' : ma_dem T (ma_put x j v) = ma_rm w U T := by
    have a := hf T hT
    have b := ma_dem_le T hle
    omega
  have hold : ∀ i, i < 6 → i ≠ j → D' i = true → D i = true := fun i hi e h => by
    rw [hD' i hi, decide_eq_false e, Bool.or_false] at h
    exact h
  refine ⟨hf, fun i hi => ?_, fun i hi h => ?_, ?_⟩
  · by_cases e : i = j
    · rw [e, ma_put_s]; exact ⟨h1, h2⟩
    · rw [ma_put_n e]; exact hb i hi
  · rw [hD' i hi, Bool.or_eq_false_iff] at h
    have e : i ≠ j := of_decide_eq_false h.2
    rw [ma_put_n e]; exact hn i hi h.1
  · rcases hm with hm | hm
    · refine ⟨T, hT, eT', fun i hi h => ?_⟩
      by_cases e : i = j
      · rw [e, ma_put_s]; exact Or.inl hm
      · rw [ma_put_n e]
        exact hs i hi (hold i hi e h)
    · have hx : ∃ S, S < 64 ∧ ma_rm w U S < ma_dem S (ma_put x j (v + 1)) := by
        apply Classical.byContradiction
        intro hc
        exact hm fun S hS => Nat.le_of_not_lt fun hl => hc ⟨S, hS, hl⟩
      obtain ⟨S, hS, hl⟩ := hx
      have a := hf S hS
      have p1 := ma_dem_put S x j v hj
      have p2 := ma_dem_put S x j (v + 1) hj
      by_cases hb' : S.testBit j = true
      · simp only [hb', if_true] at p1 p2
        have eS : ma_dem S (ma_put x j v) = ma_rm w U S := by omega
        refine ⟨T ||| S, Nat.or_lt_two_pow (n := 6) hT hS, ma_tight hf hT hS eT' eS, fun i hi h => ?_⟩
        rw [Nat.testBit_or]
        by_cases e : i = j
        · rw [e]; exact Or.inr (by rw [hb', Bool.or_true])
        · rw [ma_put_n e]
          rcases hs i hi (hold i hi e h) with q | q
          · exact Or.inl q
          · exact Or.inr (by rw [q, Bool.true_or])
      · rw [if_neg hb', if_neg hb'] at p1 p2
        omega
def ma_on (D : Nat → Bool) (k : Nat → Nat) : Nat := ma_sum (fun j => if D j = true then k j else 0) 6
theorem ma_on_eq {D D' : Nat → Bool} {k k' : Nat → Nat} (hD : ∀ j, j < 6 → D j = D' j) (h : ∀ j, j < 6 → D j = true → k j = k' j) : ma_on D k = ma_on D' k' := by
  refine ma_sum_eq 6 fun j hj => ?_
  try dsimp only
  rw [← hD j hj]
  split
  · rename_i e; exact h j hj e
  · rfl
theorem ma_on_le {D : Nat → Bool} {k k' : Nat → Nat} (h : ∀ j, j < 6 → D j = true → k j ≤ k' j) : ma_on D k ≤ ma_on D k' := by
  refine ma_sum_le 6 fun j hj => ?_
  try dsimp only
  split
  · rename_i e; exact h j hj e
  · exact Nat.le_refl _
theorem ma_on_add (D : Nat → Bool) (k k' : Nat → Nat) : ma_on D (fun j => k j + k' j) = ma_on D k + ma_on D k' := by
  unfold ma_on
  rw [← ma_sum_add]
  refine ma_sum_eq 6 fun j _ => ?_
  try dsimp only
  split <;> rfl
theorem ma_dom {w : Nat → Nat → Bool} {U : Nat → Bool} {mu ma : Nat → Nat} {D : Nat → Bool} {x y : Nat → Nat} (h : ma_Inv w U mu ma D x) (hf : ma_fit w U y) (hy : ∀ j, j < 6 → mu j ≤ y j ∧ y j ≤ mu j + ma j) : ma_on D y ≤ ma_on D x := by
  obtain ⟨_, hb, hn, T, hT, eT, hs⟩ := h
  have a := hf T hT
  have key : ma_on D y + ma_dem T x ≤ ma_on D x + ma_dem T y := by
    unfold ma_on ma_dem
    rw [← ma_sum_add, ← ma_sum_add]
    refine ma_sum_le 6 fun j hj => ?_
    try dsimp only
    have b1 := hb j hj
    have b2 := hy j hj
    cases hd : D j with
    | false =>
      have b3 := hn j hj hd
      cases ht : T.testBit j with
      | false => exact Nat.le_refl _
      | true => simp only [if_true, Bool.false_eq_true, if_false]; omega
    | true =>
      have b4 := hs j hj hd
      cases ht : T.testBit j with
      | false =>
        rw [ht] at b4
        have b5 : x j = mu j + ma j := b4.resolve_right (by decide)
        simp only [if_true, Bool.false_eq_true, if_false]; omega
      | true => simp only [if_true]; omega
  omega
