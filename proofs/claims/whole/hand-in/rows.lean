section
/-! Pure picture: sums, groups of tasks as masks below 64, room, fit; the greedy vector; the rank of a kept vector -/
def ma_sum (f : Nat → Nat) : Nat → Nat
  | 0 => 0
  | n + 1 => ma_sum f n + f n
theorem ma_sum_le {f g : Nat → Nat} : ∀ n, (∀ i, i < n → f i ≤ g i) → ma_sum f n ≤ ma_sum g n := by
  intro n
  induction n with
  | zero => intro _; exact Nat.le_refl _
  | succ n ih =>
    intro h
    exact Nat.add_le_add (ih fun i hi => h i (by omega)) (h n (by omega))
theorem ma_sum_eq {f g : Nat → Nat} (n : Nat) (h : ∀ i, i < n → f i = g i) : ma_sum f n = ma_sum g n :=
  Nat.le_antisymm (ma_sum_le n fun i hi => Nat.le_of_eq (h i hi)) (ma_sum_le n fun i hi => Nat.le_of_eq (h i hi).symm)
theorem ma_sum_add (f g : Nat → Nat) : ∀ n, ma_sum (fun i => f i + g i) n = ma_sum f n + ma_sum g n := by
  intro n
  induction n with
  | zero => rfl
  | succ n ih => simp only [ma_sum, ih]; omega
theorem ma_sum_zero : ∀ n, ma_sum (fun _ => 0) n = 0 := by
  intro n
  induction n with
  | zero => rfl
  | succ n ih => simp only [ma_sum, ih]
theorem ma_sum_one (f : Nat → Nat) (j v : Nat) : ∀ n, (j < n → ma_sum (fun i => if i = j then v else f i) n + f j = ma_sum f n + v) ∧ (n ≤ j → ma_sum (fun i => if i = j then v else f i) n = ma_sum f n) := by
  intro n
  induction n with
  | zero => exact ⟨fun h => absurd h (Nat.not_lt_zero _), fun _ => rfl⟩
  | succ n ih =>
    obtain ⟨h1, h2⟩ := ih
    refine ⟨fun h => ?_, fun h => ?_⟩
    · simp only [ma_sum]
      by_cases e : n = j
      · rw [if_pos e, h2 (by omega), e]; omega
      · rw [if_neg e]
        have := h1 (by omega)
        omega
    · simp only [ma_sum]
      rw [if_neg (by omega), h2 (by omega)]
def ma_any (f : Nat → Bool) : Nat → Bool
  | 0 => false
  | n + 1 => ma_any f n || f n
theorem ma_any_iff (f : Nat → Bool) : ∀ n, ma_any f n = true ↔ ∃ i, i < n ∧ f i = true := by
  intro n
  induction n with
  | zero => simp [ma_any]
  | succ n ih =>
    simp only [ma_any, Bool.or_eq_true, ih]
    constructor
    · rintro (⟨i, hi, h⟩ | h)
      · exact ⟨i, by omega, h⟩
      · exact ⟨n, by omega, h⟩
    · rintro ⟨i, hi, h⟩
      by_cases e : i = n
      · subst e; exact Or.inr h
      · exact Or.inl ⟨i, by omega, h⟩
def ma_dem (S : Nat) (x : Nat → Nat) : Nat := ma_sum (fun j => if S.testBit j = true then x j else 0) 6
def ma_hit (w : Nat → Nat → Bool) (S t : Nat) : Bool := ma_any (fun j => S.testBit j && w j t) 6
def ma_rm (w : Nat → Nat → Bool) (U : Nat → Bool) (S : Nat) : Nat := ma_sum (fun t => if (ma_hit w S t && U t) = true then 1 else 0) 24
def ma_fit (w : Nat → Nat → Bool) (U : Nat → Bool) (x : Nat → Nat) : Prop := ∀ S, S < 64 → ma_dem S x ≤ ma_rm w U S
theorem ma_hit_or (w : Nat → Nat → Bool) (S T t : Nat) : ma_hit w (S ||| T) t = (ma_hit w S t || ma_hit w T t) := by
  rw [Bool.eq_iff_iff, Bool.or_eq_true]
  simp only [ma_hit, ma_any_iff, Nat.testBit_or, Bool.and_eq_true, Bool.or_eq_true]
  constructor
  · rintro ⟨i, hi, h | h, hw⟩
    · exact Or.inl ⟨i, hi, h, hw⟩
    · exact Or.inr ⟨i, hi, h, hw⟩
  · rintro (⟨i, hi, h, hw⟩ | ⟨i, hi, h, hw⟩)
    · exact ⟨i, hi, Or.inl h, hw⟩
    · exact ⟨i, hi, Or.inr h, hw⟩
theorem ma_hit_and {w : Nat → Nat → Bool} {S T t : Nat} (h : ma_hit w (S &&& T) t = true) : ma_hit w S t = true ∧ ma_hit w T t = true := by
  simp only [ma_hit, ma_any_iff, Nat.testBit_and, Bool.and_eq_true] at h ⊢
  obtain ⟨i, hi, ⟨h1, h2⟩, hw⟩ := h
  exact ⟨⟨i, hi, h1, hw⟩, ⟨i, hi, h2, hw⟩⟩
theorem ma_hit_0 (w : Nat → Nat → Bool) (t : Nat) : ma_hit w 0 t = false := by
  cases h : ma_hit w 0 t with
  | false => rfl
  | true =>
    rw [ma_hit, ma_any_iff] at h
    obtain ⟨i, _, h⟩ := h
    rw [Nat.zero_testBit] at h
    rw [Bool.false_and] at h; exact absurd h (by decide)
theorem ma_sub (w : Nat → Nat → Bool) (U : Nat → Bool) (S T : Nat) : ma_rm w U (S ||| T) + ma_rm w U (S &&& T) ≤ ma_rm w U S + ma_rm w U T := by
  unfold ma_rm
  rw [← ma_sum_add, ← ma_sum_add]
  refine ma_sum_le 24 fun t _ => ?_
  try dsimp only
  rw [ma_hit_or]
  have ha := @ma_hit_and w S T t
  revert ha
  cases ma_hit w (S &&& T) t <;> cases ma_hit w S t <;> cases ma_hit w T t <;> cases U t <;> decide
theorem ma_dem_or (S T : Nat) (x : Nat → Nat) : ma_dem (S ||| T) x + ma_dem (S &&& T) x = ma_dem S x + ma_dem T x := by
  unfold ma_dem
  rw [← ma_sum_add, ← ma_sum_add]
  refine ma_sum_eq 6 fun j _ => ?_
  try dsimp only
  rw [Nat.testBit_or, Nat.testBit_and]
  cases S.testBit j <;> cases T.testBit j <;> simp
theorem ma_dem_0 (x : Nat → Nat) : ma_dem 0 x = 0 := by
  refine (ma_sum_eq 6 fun j _ => ?_).trans (ma_sum_zero 6)
  rw [Nat.zero_testBit]; rfl
theorem ma_rm_0 (w : Nat → Nat → Bool) (U : Nat → Bool) : ma_rm w U 0 = 0 := by
  refine (ma_sum_eq 24 fun t _ => ?_).trans (ma_sum_zero 24)
  rw [ma_hit_0]; rfl
theorem ma_dem_le {x y : Nat → Nat} (S : Nat) (h : ∀ j, j < 6 → x j ≤ y j) : ma_dem S x ≤ ma_dem S y := by
  refine ma_sum_le 6 fun j hj => ?_
  try dsimp only
  split
  · exact h j hj
  · exact Nat.le_refl _
theorem ma_dem_eq {x y : Nat → Nat} (S : Nat) (h : ∀ j, j < 6 → x j = y j) : ma_dem S x = ma_dem S y :=
  Nat.le_antisymm (ma_dem_le S fun j hj => Nat.le_of_eq (h j hj)) (ma_dem_le S fun j hj => Nat.le_of_eq (h j hj).symm)
def ma_put (x : Nat → Nat) (j v : Nat) : Nat → Nat := fun i => if i = j then v else x i
theorem ma_put_s {x : Nat → Nat} {j v : Nat} : ma_put x j v j = v := if_pos rfl
theorem ma_put_n {x : Nat → Nat} {i j v : Nat} (h : i ≠ j) : ma_put x j v i = x i := if_neg h
theorem ma_put_sum (c : Nat → Bool) (x : Nat → Nat) (j v : Nat) {n : Nat} (hj : j < n) : ma_sum (fun i => if c i = true then ma_put x j v i else 0) n + (if c j = true then x j else 0) = ma_sum (fun i => if c i = true then x i else 0) n + (if c j = true then v else 0) := by
  have h := (ma_sum_one (fun i => if c i = true then x i else 0) j (if c j = true then v else 0) n).1 hj
  rw [← h]
  refine congrArg (· + _) (ma_sum_eq n fun i _ => ?_)
  by_cases e : i = j
  · rw [if_pos e, e, ma_put_s]
  · rw [if_neg e, ma_put_n e]
theorem ma_dem_put (S : Nat) (x : Nat → Nat) (j v : Nat) (hj : j < 6) : ma_dem S (ma_put x j v) + (if S.testBit j = true then x j else 0) = ma_dem S x + (if S.testBit j = true then v else 0) :=
  ma_put_sum (fun i => S.testBit i) x j v hj
theorem ma_fit_le {w : Nat → Nat → Bool} {U : Nat → Bool} {x y : Nat → Nat} (h : ∀ j, j < 6 → x j ≤ y j) (hf : ma_fit w U y) : ma_fit w U x :=
  fun S hS => Nat.le_trans (ma_dem_le S h) (hf S hS)
theorem ma_fit_eq {w : Nat → Nat → Bool} {U : Nat → Bool} {x y : Nat → Nat} (h : ∀ j, j < 6 → x j = y j) (hf : ma_fit w U y) : ma_fit w U x :=
  ma_fit_le (fun j hj => Nat.le_of_eq (h j hj)) hf
theorem ma_rm_le {w v : Nat → Nat → Bool} {U V : Nat → Bool} (hw : ∀ j t, j < 6 → t < 24 → w j t = true → v j t = true) (h : ∀ t, t < 24 → U t = true → V t = true) (S : Nat) : ma_rm w U S ≤ ma_rm v V S := by
  refine ma_sum_le 24 fun t ht => ?_
  try dsimp only
  have h1 := h t ht
  have h2 : ma_hit w S t = true → ma_hit v S t = true := by
    simp only [ma_hit, ma_any_iff, Bool.and_eq_true]
    rintro ⟨i, hi, a, b⟩
    exact ⟨i, hi, a, hw i t hi ht b⟩
  revert h1 h2
  cases ma_hit w S t <;> cases ma_hit v S t <;> cases U t <;> cases V t <;> decide
theorem ma_fit_U {w v : Nat → Nat → Bool} {U V : Nat → Bool} {x : Nat → Nat} (hw : ∀ j t, j < 6 → t < 24 → w j t = true → v j t = true) (h : ∀ t, t < 24 → U t = true → V t = true) (hf : ma_fit w U x) : ma_fit v V x :=
  fun S hS => Nat.le_trans (hf S hS) (ma_rm_le hw h S)
theorem ma_tight {w : Nat → Nat → Bool} {U : Nat → Bool} {x : Nat → Nat} {S T : Nat} (hf : ma_fit w U x) (hS : S < 64) (hT : T < 64) (eS : ma_dem S x = ma_rm w U S) (eT : ma_dem T x = ma_rm w U T) : ma_dem (S ||| T) x = ma_rm w U (S ||| T) := by
  have h1 := hf (S ||| T) (Nat.or_lt_two_pow (n := 6) hS hT)
  have h2 := hf (S &&& T) (Nat.and_lt_two_pow (n := 6) S hT)
  have h3 := ma_sub w U S T
  have h4 := ma_dem_or S T x
  omega
/-! the greedy vector -/
def ma_Inv (w : Nat → Nat → Bool) (U : Nat → Bool) (mu ma : Nat → Nat) (D : Nat → Bool) (x : Nat → Nat) : Prop :=
  ma_fit w U x ∧ (∀ j, j < 6 → mu j ≤ x j ∧ x j ≤ mu j + ma j) ∧ (∀ j, j < 6 → D j = false → x j = mu j) ∧
  ∃ T, T < 64 ∧ ma_dem T x = ma_rm w U T ∧ ∀ j, j < 6 → D j = true → x j = mu j + ma j ∨ T.testBit j = true
theorem ma_Inv_0 {w : Nat → Nat → Bool} {U : Nat → Bool} {mu ma : Nat → Nat} {D : Nat → Bool} (hf : ma_fit w U mu) (hD : ∀ j, j < 6 → D j = false) : ma_Inv w U mu ma D mu :=
  ⟨hf, fun j _ => ⟨Nat.le_refl _, Nat.le_add_right _ _⟩, fun _ _ _ => rfl, 0, by decide, by rw [ma_dem_0, ma_rm_0], fun j hj h => absurd h (by rw [hD j hj]; decide)⟩
theorem ma_Inv_s {w : Nat → Nat → Bool} {U : Nat → Bool} {mu ma : Nat → Nat} {D D' : Nat → Bool} {x : Nat → Nat} {j v : Nat} (h : ma_Inv w U mu ma D x) (hj : j < 6) (hD : D j = false) (h1 : mu j ≤ v) (h2 : v ≤ mu j + ma j) (hf : ma_fit w U (ma_put x j v)) (hm : v = mu j + ma j ∨ ¬ ma_fit w U (ma_put x j (v + 1))) (hD' : ∀ i, i < 6 → D' i = (D i || decide (i = j))) : ma_Inv w U mu ma D' (ma_put x j v) := by
  obtain ⟨_, hb, hn, T, hT, eT, hs⟩ := h
  have hxj := hn j hj hD
  have hle : ∀ i, i < 6 → x i ≤ ma_put x j v i := fun i hi => by
    by_cases e : i = j
    · rw [e, ma_put_s, hxj]; exact h1
    · rw [ma_put_n e]; exact Nat.le_refl _
  have eT' : ma_dem T (ma_put x j v) = ma_rm w U T := by
    have a := hf T hT
    have b := ma_dem_le T hle
    omega
  have hold : ∀ i, i < 6 → i ≠ j → D' i = true → D i = true := fun i hi e h => by
    rw [hD' i hi, decide_eq_false e, Bool.or_false] at h
    exact h
  refine ⟨hf, fun i hi => ?_, fun i hi h => ?_, ?_⟩
  · by_cases e : i = j
    · rw [e, ma_put_s]; exact ⟨h1, h2⟩
    · rw [ma_put_n e]; exact hb i hi
  · rw [hD' i hi, Bool.or_eq_false_iff] at h
    have e : i ≠ j := of_decide_eq_false h.2
    rw [ma_put_n e]; exact hn i hi h.1
  · rcases hm with hm | hm
    · refine ⟨T, hT, eT', fun i hi h => ?_⟩
      by_cases e : i = j
      · rw [e, ma_put_s]; exact Or.inl hm
      · rw [ma_put_n e]
        exact hs i hi (hold i hi e h)
    · have hx : ∃ S, S < 64 ∧ ma_rm w U S < ma_dem S (ma_put x j (v + 1)) := by
        apply Classical.byContradiction
        intro hc
        exact hm fun S hS => Nat.le_of_not_lt fun hl => hc ⟨S, hS, hl⟩
      obtain ⟨S, hS, hl⟩ := hx
      have a := hf S hS
      have p1 := ma_dem_put S x j v hj
      have p2 := ma_dem_put S x j (v + 1) hj
      by_cases hb' : S.testBit j = true
      · simp only [hb', if_true] at p1 p2
        have eS : ma_dem S (ma_put x j v) = ma_rm w U S := by omega
        refine ⟨T ||| S, Nat.or_lt_two_pow (n := 6) hT hS, ma_tight hf hT hS eT' eS, fun i hi h => ?_⟩
        rw [Nat.testBit_or]
        by_cases e : i = j
        · rw [e]; exact Or.inr (by rw [hb', Bool.or_true])
        · rw [ma_put_n e]
          rcases hs i hi (hold i hi e h) with q | q
          · exact Or.inl q
          · exact Or.inr (by rw [q, Bool.true_or])
      · rw [if_neg hb', if_neg hb'] at p1 p2
        omega
def ma_on (D : Nat → Bool) (k : Nat → Nat) : Nat := ma_sum (fun j => if D j = true then k j else 0) 6
theorem ma_on_eq {D D' : Nat → Bool} {k k' : Nat → Nat} (hD : ∀ j, j < 6 → D j = D' j) (h : ∀ j, j < 6 → D j = true → k j = k' j) : ma_on D k = ma_on D' k' := by
  refine ma_sum_eq 6 fun j hj => ?_
  try dsimp only
  rw [← hD j hj]
  split
  · rename_i e; exact h j hj e
  · rfl
theorem ma_on_le {D : Nat → Bool} {k k' : Nat → Nat} (h : ∀ j, j < 6 → D j = true → k j ≤ k' j) : ma_on D k ≤ ma_on D k' := by
  refine ma_sum_le 6 fun j hj => ?_
  try dsimp only
  split
  · rename_i e; exact h j hj e
  · exact Nat.le_refl _
theorem ma_on_add (D : Nat → Bool) (k k' : Nat → Nat) : ma_on D (fun j => k j + k' j) = ma_on D k + ma_on D k' := by
  unfold ma_on
  rw [← ma_sum_add]
  refine ma_sum_eq 6 fun j _ => ?_
  try dsimp only
  split <;> rfl
theorem ma_dom {w : Nat → Nat → Bool} {U : Nat → Bool} {mu ma : Nat → Nat} {D : Nat → Bool} {x y : Nat → Nat} (h : ma_Inv w U mu ma D x) (hf : ma_fit w U y) (hy : ∀ j, j < 6 → mu j ≤ y j ∧ y j ≤ mu j + ma j) : ma_on D y ≤ ma_on D x := by
  obtain ⟨_, hb, hn, T, hT, eT, hs⟩ := h
  have a := hf T hT
  have key : ma_on D y + ma_dem T x ≤ ma_on D x + ma_dem T y := by
    unfold ma_on ma_dem
    rw [← ma_sum_add, ← ma_sum_add]
    refine ma_sum_le 6 fun j hj => ?_
    try dsimp only
    have b1 := hb j hj
    have b2 := hy j hj
    cases hd : D j with
    | false =>
      have b3 := hn j hj hd
      cases ht : T.testBit j with
      | false => exact Nat.le_refl _
      | true => simp only [if_true, Bool.false_eq_true, if_false]; omega
    | true =>
      have b4 := hs j hj hd
      cases ht : T.testBit j with
      | false =>
        rw [ht] at b4
        have b5 : x j = mu j + ma j := b4.resolve_right (by decide)
        simp only [if_true, Bool.false_eq_true, if_false]; omega
      | true => simp only [if_true]; omega
  omega
end
section
/-! the order of tasks by a key below 54; the vector grown along it; positions; rank -/
def ma_key (wo : Nat → Nat) (j : Nat) : Nat := 6 * (9 - wo j) + j
def ma_D (pr : Nat → Bool) (wo : Nat → Nat) (e : Nat) : Nat → Bool := fun j => pr j && decide (ma_key wo j < e)
theorem ma_D_iff {pr : Nat → Bool} {wo : Nat → Nat} {e j : Nat} : ma_D pr wo e j = true ↔ pr j = true ∧ ma_key wo j < e := by
  unfold ma_D
  rw [Bool.and_eq_true, decide_eq_true_iff]
theorem ma_key_inj {wo : Nat → Nat} {i j : Nat} (hi : i < 6) (hj : j < 6) (h : ma_key wo i = ma_key wo j) : i = j := by
  unfold ma_key at h
  omega
theorem ma_key_lt {wo : Nat → Nat} {j : Nat} (hj : j < 6) (h : 1 ≤ wo j) : ma_key wo j < 54 := by
  unfold ma_key
  omega
theorem ma_D_0 (pr : Nat → Bool) (wo : Nat → Nat) (j : Nat) : ma_D pr wo 0 j = false := by
  cases h : ma_D pr wo 0 j with
  | false => rfl
  | true => exact absurd (ma_D_iff.mp h).2 (Nat.not_lt_zero _)
theorem ma_D_54 {pr : Nat → Bool} {wo : Nat → Nat} (hw : ∀ j, j < 6 → pr j = true → 1 ≤ wo j) : ∀ j, j < 6 → ma_D pr wo 54 j = pr j := by
  intro j hj
  rw [Bool.eq_iff_iff, ma_D_iff]
  exact ⟨fun h => h.1, fun h => ⟨h, ma_key_lt hj (hw j hj h)⟩⟩
theorem ma_D_skip {pr : Nat → Bool} {wo : Nat → Nat} {e : Nat} (h : ∀ j, j < 6 → pr j = true → ma_key wo j ≠ e) : ∀ j, j < 6 → ma_D pr wo (e + 1) j = ma_D pr wo e j := by
  intro j hj
  rw [Bool.eq_iff_iff, ma_D_iff, ma_D_iff]
  constructor
  · rintro ⟨a, b⟩
    have := h j hj a
    exact ⟨a, by omega⟩
  · rintro ⟨a, b⟩
    exact ⟨a, by omega⟩
theorem ma_D_grow {pr : Nat → Bool} {wo : Nat → Nat} {e j : Nat} (hj : j < 6) (hp : pr j = true) (he : ma_key wo j = e) : ∀ i, i < 6 → ma_D pr wo (e + 1) i = (ma_D pr wo e i || decide (i = j)) := by
  intro i hi
  rw [Bool.eq_iff_iff, Bool.or_eq_true, ma_D_iff, ma_D_iff, decide_eq_true_iff]
  constructor
  · rintro ⟨a, b⟩
    by_cases q : ma_key wo i = e
    · exact Or.inr (ma_key_inj hi hj (q.trans he.symm))
    · exact Or.inl ⟨a, by omega⟩
  · rintro (⟨a, b⟩ | rfl)
    · exact ⟨a, by omega⟩
    · exact ⟨hp, by omega⟩
theorem ma_D_at {pr : Nat → Bool} {wo : Nat → Nat} {e j : Nat} (h : e ≤ ma_key wo j) : ma_D pr wo e j = false := by
  cases q : ma_D pr wo e j with
  | false => rfl
  | true => exact absurd (ma_D_iff.mp q).2 (by omega)
theorem ma_on_skip {pr : Nat → Bool} {wo : Nat → Nat} {e : Nat} (h : ∀ j, j < 6 → pr j = true → ma_key wo j ≠ e) (y : Nat → Nat) : ma_on (ma_D pr wo (e + 1)) y = ma_on (ma_D pr wo e) y :=
  ma_on_eq (ma_D_skip h) fun _ _ _ => rfl
theorem ma_on_grow {pr : Nat → Bool} {wo : Nat → Nat} {e j : Nat} (hj : j < 6) (hp : pr j = true) (he : ma_key wo j = e) (y : Nat → Nat) : ma_on (ma_D pr wo (e + 1)) y = ma_on (ma_D pr wo e) y + y j := by
  have h := (ma_sum_one (fun i => if ma_D pr wo e i = true then y i else 0) j (y j) 6).1 hj
  rw [if_neg (by rw [ma_D_at (by omega)]; decide)] at h
  unfold ma_on
  rw [← h, Nat.add_zero]
  refine ma_sum_eq 6 fun i hi => ?_
  try dsimp only
  rw [ma_D_grow hj hp he i hi]
  by_cases e : i = j
  · rw [if_pos e, decide_eq_true e, Bool.or_true, if_pos rfl, e]
  · rw [if_neg e, decide_eq_false e, Bool.or_false]
/-! G: what holds of the shares when all keys below e have been grown -/
def ma_G (w : Nat → Nat → Bool) (U : Nat → Bool) (mu ma : Nat → Nat) (pr : Nat → Bool) (wo : Nat → Nat) (e : Nat) (x : Nat → Nat) : Prop :=
  ma_Inv w U mu ma (ma_D pr wo e) x ∧ ∀ y, ma_fit w U y → (∀ j, j < 6 → mu j ≤ y j ∧ y j ≤ mu j + ma j) → ∀ e', e' ≤ e → ma_on (ma_D pr wo e') y ≤ ma_on (ma_D pr wo e') x
theorem ma_G_0 {w : Nat → Nat → Bool} {U : Nat → Bool} {mu ma : Nat → Nat} {pr : Nat → Bool} {wo : Nat → Nat} (hf : ma_fit w U mu) : ma_G w U mu ma pr wo 0 mu :=
  have h := ma_Inv_0 (ma := ma) hf fun j _ => ma_D_0 pr wo j
  ⟨h, fun y hy hb e' he => by rw [Nat.le_zero.mp he]; exact ma_dom h hy hb⟩
theorem ma_G_skip {w : Nat → Nat → Bool} {U : Nat → Bool} {mu ma : Nat → Nat} {pr : Nat → Bool} {wo : Nat → Nat} {e : Nat} {x : Nat → Nat} (h : ma_G w U mu ma pr wo e x) (hk : ∀ j, j < 6 → pr j = true → ma_key wo j ≠ e) : ma_G w U mu ma pr wo (e + 1) x := by
  obtain ⟨⟨h1, h2, h3, T, hT, h4, h5⟩, h6⟩ := h
  have q := ma_D_skip hk
  refine ⟨⟨h1, h2, fun j hj h => h3 j hj (by rw [← q j hj]; exact h), T, hT, h4, fun j hj h => h5 j hj (by rw [← q j hj]; exact h)⟩, fun y hy hb e' he => ?_⟩
  by_cases c : e' ≤ e
  · exact h6 y hy hb e' c
  · have c' : e' = e + 1 := by omega
    rw [c', ma_on_skip hk, ma_on_skip hk]
    exact h6 y hy hb e (Nat.le_refl _)
theorem ma_G_grow {w : Nat → Nat → Bool} {U : Nat → Bool} {mu ma : Nat → Nat} {pr : Nat → Bool} {wo : Nat → Nat} {e : Nat} {x : Nat → Nat} {j v : Nat} (h : ma_G w U mu ma pr wo e x) (hj : j < 6) (hp : pr j = true) (he : ma_key wo j = e) (h1 : mu j ≤ v) (h2 : v ≤ mu j + ma j) (hf : ma_fit w U (ma_put x j v)) (hm : v = mu j + ma j ∨ ¬ ma_fit w U (ma_put x j (v + 1))) : ma_G w U mu ma pr wo (e + 1) (ma_put x j v) := by
  obtain ⟨hI, h6⟩ := h
  have hI' := ma_Inv_s hI hj (ma_D_at (by omega)) h1 h2 hf hm (ma_D_grow hj hp he)
  refine ⟨hI', fun y hy hb e' he' => ?_⟩
  by_cases c : e' ≤ e
  · refine Nat.le_trans (h6 y hy hb e' c) (Nat.le_of_eq (ma_on_eq (fun _ _ => rfl) fun i hi hd => ?_))
    have : i ≠ j := by
      intro q
      have := (ma_D_iff.mp hd).2
      rw [q] at this
      omega
    rw [ma_put_n this]
  · have c' : e' = e + 1 := by omega
    rw [c']
    exact ma_dom hI' hy hb
/-! the best kept vector -/
def ma_Best (w : Nat → Nat → Bool) (U : Nat → Bool) (mu ma : Nat → Nat) (pr : Nat → Bool) (wo : Nat → Nat) (kg : Nat → Nat) : Prop :=
  ma_fit w U (fun j => mu j + kg j) ∧ (∀ j, j < 6 → kg j ≤ ma j) ∧
  ∀ k : Nat → Nat, (∀ j, j < 6 → k j ≤ ma j) → ma_fit w U (fun j => mu j + k j) → ∀ e, e ≤ 54 → ma_on (ma_D pr wo e) k ≤ ma_on (ma_D pr wo e) kg
theorem ma_G_Best {w : Nat → Nat → Bool} {U : Nat → Bool} {mu ma : Nat → Nat} {pr : Nat → Bool} {wo : Nat → Nat} {x : Nat → Nat} (h : ma_G w U mu ma pr wo 54 x) : ma_Best w U mu ma pr wo (fun j => x j - mu j) := by
  obtain ⟨⟨h1, h2, _⟩, h6⟩ := h
  refine ⟨ma_fit_eq (fun j hj => ?_) h1, fun j hj => ?_, fun k hk hf e he => ?_⟩
  · have := h2 j hj
    try dsimp only
    omega
  · have := h2 j hj
    try dsimp only
    omega
  · have a := h6 _ hf (fun j hj => ⟨Nat.le_add_right _ _, Nat.add_le_add_left (hk j hj) _⟩) e he
    have b := ma_on_add (ma_D pr wo e) mu k
    have c := ma_on_add (ma_D pr wo e) mu (fun j => x j - mu j)
    have d : ma_on (ma_D pr wo e) (fun j => mu j + (x j - mu j)) = ma_on (ma_D pr wo e) x := ma_on_eq (fun _ _ => rfl) fun j hj _ => by
      have := h2 j hj
      try dsimp only
      omega
    omega
theorem ma_loss {pr : Nat → Bool} {wo k kg : Nat → Nat} (hw : ∀ j, j < 6 → pr j = true → 1 ≤ wo j ∧ wo j ≤ 9) (h : ∀ e, e ≤ 54 → ma_on (ma_D pr wo e) k ≤ ma_on (ma_D pr wo e) kg) : ma_on pr (fun j => wo j * k j) ≤ ma_on pr (fun j => wo j * kg j) := by
  have stp : ∀ n, n < 9 → ∀ y : Nat → Nat, ma_on pr (fun j => min (wo j) (n + 1) * y j) = ma_on pr (fun j => min (wo j) n * y j) + ma_on (ma_D pr wo (6 * (9 - n))) y := by
    intro n hn y
    unfold ma_on
    rw [← ma_sum_add]
    refine ma_sum_eq 6 fun j hj => ?_
    try dsimp only
    by_cases hp : pr j = true
    · have hw' := hw j hj hp
      rw [if_pos hp, if_pos hp]
      by_cases c : n + 1 ≤ wo j
      · rw [if_pos (ma_D_iff.mpr ⟨hp, by unfold ma_key; omega⟩), Nat.min_eq_right c, Nat.min_eq_right (by omega), Nat.succ_mul]
      · rw [if_neg (fun q => absurd (ma_D_iff.mp q).2 (by unfold ma_key; omega)), Nat.min_eq_left (by omega), Nat.min_eq_left (by omega), Nat.add_zero]
    · rw [if_neg hp, if_neg hp, if_neg (fun q => hp (ma_D_iff.mp q).1)]
  have all : ∀ n, n ≤ 9 → ma_on pr (fun j => min (wo j) n * k j) ≤ ma_on pr (fun j => min (wo j) n * kg j) := by
    intro n
    induction n with
    | zero =>
      intro _
      refine ma_on_le fun j _ _ => ?_
      rw [Nat.min_zero, Nat.zero_mul]
      exact Nat.zero_le _
    | succ n ih =>
      intro hn
      rw [stp n hn k, stp n hn kg]
      exact Nat.add_le_add (ih (by omega)) (h _ (by omega))
  have e : ∀ y : Nat → Nat, ma_on pr (fun j => min (wo j) 9 * y j) = ma_on pr (fun j => wo j * y j) := fun y =>
    ma_on_eq (fun _ _ => rfl) fun j hj hp => by
      try dsimp only
      rw [Nat.min_eq_left (hw j hj hp).2]
  rw [← e k, ← e kg]
  exact all 9 (Nat.le_refl _)
/-! rank: digits k p with greatest digit r p, read from position 0 -/
def ma_hr (r k : Nat → Nat) : Nat → Nat
  | 0 => 0
  | n + 1 => ma_hr r k n * (r n + 1) + k n
theorem ma_hr_dom {r k g : Nat → Nat} : ∀ n, (∀ i, i ≤ n → ma_sum k i ≤ ma_sum g i) → ma_hr r k n + ma_sum g n ≤ ma_hr r g n + ma_sum k n := by
  intro n
  induction n with
  | zero => intro _; exact Nat.le_refl _
  | succ n ih =>
    intro h
    have a := ih fun i hi => h i (by omega)
    have b := h n (by omega)
    have c : ma_hr r k n ≤ ma_hr r g n := by omega
    have d := Nat.mul_le_mul_right (r n) c
    simp only [ma_hr, ma_sum, Nat.mul_add, Nat.mul_one]
    omega
theorem ma_hr_inj {r k g : Nat → Nat} : ∀ n, (∀ p, p < n → k p ≤ r p) → (∀ p, p < n → g p ≤ r p) → ma_hr r k n = ma_hr r g n → ∀ p, p < n → k p = g p := by
  intro n
  induction n with
  | zero => intro _ _ _ p hp; exact absurd hp (Nat.not_lt_zero _)
  | succ n ih =>
    intro hk hg h
    have a := hk n (by omega)
    have b := hg n (by omega)
    simp only [ma_hr] at h
    have hh : ma_hr r k n = ma_hr r g n := by
      rcases Nat.lt_trichotomy (ma_hr r k n) (ma_hr r g n) with c | c | c
      · have d := Nat.mul_le_mul_right (r n + 1) (Nat.succ_le_of_lt c)
        rw [Nat.succ_mul] at d
        omega
      · exact c
      · have d := Nat.mul_le_mul_right (r n + 1) (Nat.succ_le_of_lt c)
        rw [Nat.succ_mul] at d
        omega
    rw [hh] at h
    intro p hp
    by_cases e : p = n
    · rw [e]; omega
    · exact ih (fun p hp => hk p (by omega)) (fun p hp => hg p (by omega)) hh p (by omega)
theorem ma_hr_lt {r k : Nat → Nat} : ∀ n, (∀ p, p < n → k p ≤ r p ∧ r p ≤ 6) → ma_hr r k n + 1 ≤ 7 ^ n := by
  intro n
  induction n with
  | zero => intro _; exact Nat.le_refl _
  | succ n ih =>
    intro h
    have a := ih fun p hp => h p (by omega)
    have b := h n (by omega)
    have c : (ma_hr r k n + 1) * (r n + 1) ≤ 7 ^ n * 7 := Nat.mul_le_mul a (by omega)
    rw [Nat.succ_mul] at c
    simp only [ma_hr, Nat.pow_succ]
    omega
theorem ma_hr_eq {r k g : Nat → Nat} : ∀ n, (∀ p, p < n → k p = g p) → ma_hr r k n = ma_hr r g n := by
  intro n
  induction n with
  | zero => intro _; rfl
  | succ n ih =>
    intro h
    simp only [ma_hr]
    rw [ih fun p hp => h p (by omega), h n (by omega)]
theorem ma_hr_zero {r k : Nat → Nat} : ∀ n, (∀ p, p < n → k p = 0) → ma_hr r k n = 0 := by
  intro n
  induction n with
  | zero => intro _; rfl
  | succ n ih =>
    intro h
    simp only [ma_hr]
    rw [ih fun p hp => h p (by omega), h n (by omega), Nat.zero_mul]
theorem ma_hr_tail {r a b : Nat → Nat} {n : Nat} (h : ma_hr r b n + 1 = ma_hr r a n) : ∀ m, (∀ p, n ≤ p → p < n + m → a p = 0 ∧ b p = r p) → ma_hr r b (n + m) + 1 = ma_hr r a (n + m) := by
  intro m
  induction m with
  | zero => intro _; exact h
  | succ m ih =>
    intro hp
    have c := ih fun p h1 h2 => hp p h1 (by omega)
    have d := hp (n + m) (by omega) (by omega)
    rw [← Nat.add_assoc]
    simp only [ma_hr]
    rw [d.1, d.2, ← c, Nat.succ_mul]
    omega
theorem ma_hr_next {r a b : Nat → Nat} {n N : Nat} (hn : n < N) (h1 : ∀ p, p < n → b p = a p) (h2 : b n + 1 = a n) (h3 : ∀ p, n < p → p < N → a p = 0 ∧ b p = r p) : ma_hr r b N + 1 = ma_hr r a N := by
  have h := ma_hr_tail (r := r) (a := a) (b := b) (n := n + 1) (by
    simp only [ma_hr]
    rw [ma_hr_eq n h1, ← h2, Nat.add_assoc]) (N - (n + 1)) fun p q1 q2 => h3 p (by omega) (by omega)
  rw [show n + 1 + (N - (n + 1)) = N by omega] at h
  exact h
/-! positions -/
def ma_cnt (pr : Nat → Bool) (wo : Nat → Nat) (e : Nat) : Nat := ma_on (ma_D pr wo e) (fun _ => 1)
theorem ma_cnt_0 (pr : Nat → Bool) (wo : Nat → Nat) : ma_cnt pr wo 0 = 0 := by
  refine (ma_sum_eq 6 fun j _ => ?_).trans (ma_sum_zero 6)
  rw [ma_D_0]; rfl
theorem ma_cnt_s {pr : Nat → Bool} {wo : Nat → Nat} {j : Nat} (hj : j < 6) (hp : pr j = true) : ma_cnt pr wo (ma_key wo j + 1) = ma_cnt pr wo (ma_key wo j) + 1 :=
  ma_on_grow hj hp rfl _
theorem ma_cnt_le {pr : Nat → Bool} {wo : Nat → Nat} {e e' : Nat} (h : e ≤ e') : ma_cnt pr wo e ≤ ma_cnt pr wo e' := by
  refine ma_sum_le 6 fun j _ => ?_
  try dsimp only
  by_cases c : ma_D pr wo e j = true
  · have q := ma_D_iff.mp c
    rw [if_pos c, if_pos (ma_D_iff.mpr ⟨q.1, by omega⟩)]
    exact Nat.le_refl _
  · rw [if_neg c]; exact Nat.zero_le _
theorem ma_cnt_6 (pr : Nat → Bool) (wo : Nat → Nat) (e : Nat) : ma_cnt pr wo e ≤ 6 := by
  have h : ma_cnt pr wo e ≤ ma_sum (fun _ => 1) 6 := ma_sum_le 6 fun j _ => by
    try dsimp only
    split
    · exact Nat.le_refl _
    · exact Nat.zero_le _
  exact h
theorem ma_pos_lt {pr : Nat → Bool} {wo : Nat → Nat} {i j : Nat} (hi : i < 6) (hp : pr i = true) (h : ma_key wo i < ma_key wo j) : ma_cnt pr wo (ma_key wo i) < ma_cnt pr wo (ma_key wo j) := by
  have a := ma_cnt_s hi hp (wo := wo)
  have b := ma_cnt_le (pr := pr) (wo := wo) (show ma_key wo i + 1 ≤ ma_key wo j from h)
  omega
theorem ma_no {pr : Nat → Bool} {wo : Nat → Nat} (e : Nat) : (∃ j, j < 6 ∧ pr j = true ∧ ma_key wo j = e) ∨ ∀ j, j < 6 → pr j = true → ma_key wo j ≠ e := by
  rcases Classical.em (∃ j, j < 6 ∧ pr j = true ∧ ma_key wo j = e) with h | h
  · exact Or.inl h
  · exact Or.inr fun j hj hp q => h ⟨j, hj, hp, q⟩
theorem ma_pos_on {pr : Nat → Bool} {wo : Nat → Nat} : ∀ e n, n < ma_cnt pr wo e → ∃ j, j < 6 ∧ pr j = true ∧ ma_key wo j < e ∧ ma_cnt pr wo (ma_key wo j) = n := by
  intro e
  induction e with
  | zero => intro n hn; rw [ma_cnt_0] at hn; exact absurd hn (Nat.not_lt_zero _)
  | succ e ih =>
    intro n hn
    by_cases c : n < ma_cnt pr wo e
    · obtain ⟨j, h1, h2, h3, h4⟩ := ih n c
      exact ⟨j, h1, h2, by omega, h4⟩
    · rcases ma_no (pr := pr) (wo := wo) e with ⟨j, hj, hp, he⟩ | h
      · have a := ma_cnt_s hj hp (wo := wo)
        rw [he] at a
        exact ⟨j, hj, hp, by omega, by rw [he]; omega⟩
      · have a : ma_cnt pr wo (e + 1) = ma_cnt pr wo e := ma_on_skip h _
        omega
theorem ma_ord_sum {pr : Nat → Bool} {wo ord : Nat → Nat} (ho : ∀ j, j < 6 → pr j = true → ord (ma_cnt pr wo (ma_key wo j)) = j) (y : Nat → Nat) : ∀ e, ma_sum (fun p => y (ord p)) (ma_cnt pr wo e) = ma_on (ma_D pr wo e) y := by
  intro e
  induction e with
  | zero =>
    rw [ma_cnt_0]
    refine Eq.symm ((ma_sum_eq 6 fun j _ => ?_).trans (ma_sum_zero 6))
    rw [ma_D_0]; rfl
  | succ e ih =>
    rcases ma_no (pr := pr) (wo := wo) e with ⟨j, hj, hp, he⟩ | h
    · have a := ma_cnt_s hj hp (wo := wo)
      have b := ho j hj hp
      rw [he] at a b
      rw [a, ma_on_grow hj hp he, ← ih]
      simp only [ma_sum]
      rw [b]
    · have a : ma_cnt pr wo (e + 1) = ma_cnt pr wo e := ma_on_skip h _
      rw [a, ma_on_skip h, ih]
theorem ma_ord_pre {pr : Nat → Bool} {wo ord k g : Nat → Nat} (ho : ∀ j, j < 6 → pr j = true → ord (ma_cnt pr wo (ma_key wo j)) = j) (h : ∀ e, e ≤ 54 → ma_on (ma_D pr wo e) k ≤ ma_on (ma_D pr wo e) g) : ∀ i, i ≤ ma_cnt pr wo 54 → ma_sum (fun p => k (ord p)) i ≤ ma_sum (fun p => g (ord p)) i := by
  intro i hi
  have hx : ∃ e, e ≤ 54 ∧ ma_cnt pr wo e = i := by
    by_cases c : i < ma_cnt pr wo 54
    · obtain ⟨j, _, _, h3, h4⟩ := ma_pos_on 54 i c
      exact ⟨_, Nat.le_of_lt h3, h4⟩
    · exact ⟨54, Nat.le_refl _, by omega⟩
  obtain ⟨e, he, rfl⟩ := hx
  rw [ma_ord_sum ho, ma_ord_sum ho]
  exact h e he
def ma_rk (ma ord : Nat → Nat) (N : Nat) (k : Nat → Nat) : Nat := ma_hr (fun p => ma (ord p)) (fun p => k (ord p)) N
theorem ma_rk_le {w : Nat → Nat → Bool} {U : Nat → Bool} {mu ma : Nat → Nat} {pr : Nat → Bool} {wo kg ord k : Nat → Nat} (hB : ma_Best w U mu ma pr wo kg) (ho : ∀ j, j < 6 → pr j = true → ord (ma_cnt pr wo (ma_key wo j)) = j) (hk : ∀ j, j < 6 → k j ≤ ma j) (hf : ma_fit w U (fun j => mu j + k j)) : ma_rk ma ord (ma_cnt pr wo 54) k ≤ ma_rk ma ord (ma_cnt pr wo 54) kg := by
  have a := ma_ord_pre ho (hB.2.2 k hk hf)
  have b := ma_hr_dom (r := fun p => ma (ord p)) _ a
  have c := a _ (Nat.le_refl _)
  unfold ma_rk
  omega
theorem ma_ord_lt {pr : Nat → Bool} {wo ord : Nat → Nat} (ho : ∀ j, j < 6 → pr j = true → ord (ma_cnt pr wo (ma_key wo j)) = j) {p : Nat} (hp : p < ma_cnt pr wo 54) : ord p < 6 ∧ pr (ord p) = true ∧ ma_cnt pr wo (ma_key wo (ord p)) = p := by
  obtain ⟨j, hj, h2, _, h4⟩ := ma_pos_on 54 p hp
  have := ho j hj h2
  rw [h4] at this
  rw [this]
  exact ⟨hj, h2, h4⟩
theorem ma_rk_inj {pr : Nat → Bool} {wo ord ma k g : Nat → Nat} (hw : ∀ j, j < 6 → pr j = true → 1 ≤ wo j) (ho : ∀ j, j < 6 → pr j = true → ord (ma_cnt pr wo (ma_key wo j)) = j) (hk : ∀ j, j < 6 → pr j = true → k j ≤ ma j) (hg : ∀ j, j < 6 → pr j = true → g j ≤ ma j) (h : ma_rk ma ord (ma_cnt pr wo 54) k = ma_rk ma ord (ma_cnt pr wo 54) g) : ∀ j, j < 6 → pr j = true → k j = g j := by
  intro j hj hp
  have a := ma_hr_inj (r := fun p => ma (ord p)) (k := fun p => k (ord p)) (g := fun p => g (ord p)) (ma_cnt pr wo 54)
    (fun p hp => have q := ma_ord_lt ho hp; hk _ q.1 q.2.1) (fun p hp => have q := ma_ord_lt ho hp; hg _ q.1 q.2.1) h
    (ma_cnt pr wo (ma_key wo j)) (by
      have c := ma_cnt_s hj hp (wo := wo)
      have d := ma_cnt_le (pr := pr) (wo := wo) (show ma_key wo j + 1 ≤ 54 from ma_key_lt hj (hw j hj hp))
      omega)
  try dsimp only at a
  rw [ho j hj hp] at a
  exact a
end
section
/-! rows pasted from kit/rows (pk_, bt, b_, s_l), then my own on bits -/
theorem pk_us {f : Nat → Int32} {k : Nat} {x : Int32} : upd f k x k = x := if_pos rfl
theorem pk_un {f : Nat → Int32} {k j : Nat} {x : Int32} (h : j ≠ k) : upd f k x j = f j := if_neg h
theorem pk_sub {a b : Nat} (h : b ≤ a) : nI a - nI b = nI (a - b) := by
  obtain ⟨c, rfl⟩ : ∃ c, a = c + b := ⟨a - b, by omega⟩
  rw [← nI_add, Int32.add_sub_cancel, Nat.add_sub_cancel]
theorem pk_m1 (n : Nat) : nI (n + 1) + (-1) = nI n := by
  rw [← nI_1, Int32.add_assoc, show (1 : Int32) + (-1) = 0 from rfl, Int32.add_zero]
theorem pk_mul (a b : Nat) : nI a * nI b = nI (a * b) := (Int32.ofNat_mul a b).symm
theorem pk_ix (x : Int32) {n : Nat} (hn : n < 2 ^ 31) : x < 0 ∨ nI n ≤ x ∨ ∃ j : Nat, j < n ∧ x = nI j := by
  by_cases h : x < 0
  · exact Or.inl h
  · obtain ⟨j, hj, rfl⟩ := nI_of h
    by_cases h2 : j < n
    · exact Or.inr (Or.inr ⟨j, h2, rfl⟩)
    · exact Or.inr (Or.inl (nI_le (by omega) hj))
theorem pk_le {x y : Int32} {A B : Prop} (a b : Nat) (f : a ≤ b → A) (g : b < a → B) (hx : x = nI a := by rfl) (hy : y = nI b := by rfl) (ha : a < 2 ^ 31 := by omega) (hb : b < 2 ^ 31 := by omega) : (x ≤ y → A) ∧ (¬ x ≤ y → B) := by
  subst hx hy
  rw [nI_leI ha hb]
  exact ⟨f, fun z => g (by omega)⟩
theorem pk_lt {x y : Int32} {A B : Prop} (a b : Nat) (f : a < b → A) (g : b ≤ a → B) (hx : x = nI a := by rfl) (hy : y = nI b := by rfl) (ha : a < 2 ^ 31 := by omega) (hb : b < 2 ^ 31 := by omega) : (x < y → A) ∧ (¬ x < y → B) := by
  subst hx hy
  rw [nI_ltI ha hb]
  exact ⟨f, fun z => g (by omega)⟩
theorem pk_eq {x y : Int32} {A B : Prop} (a b : Nat) (f : a = b → A) (g : a ≠ b → B) (hx : x = nI a := by rfl) (hy : y = nI b := by rfl) (ha : a < 2 ^ 31 := by omega) (hb : b < 2 ^ 31 := by omega) : (x = y → A) ∧ (¬ x = y → B) := by
  subst hx hy
  rw [nI_eq ha hb]
  exact ⟨f, g⟩
theorem pk_in {x : Int32} (n N : Nat) (h : n < N) (hx : x = nI n := by rfl) (hN : N < 2 ^ 31 := by omega) : vp_in x N := by
  subst hx
  exact vp_in_nI h hN
theorem pk_cl {x : Int32} (n : Nat) (hx : x = nI n := by rfl) (h : n < 2 ^ 31 := by omega) : x.toNatClampNeg = n := by
  subst hx
  exact nI_clamp h
theorem pk_tn {n : Nat} (h : n < 2 ^ 32) : (nI n).toBitVec.toNat = n := Nat.mod_eq_of_lt h
theorem pk_and (x : Int32) {m : Int32} (k : Nat) (hm : m.toBitVec.toNat = 2 ^ k - 1) : x &&& m = nI (x.toBitVec.toNat % 2 ^ k) := by
  apply Int32.toBitVec_inj.mp
  apply BitVec.eq_of_toNat_eq
  rw [Int32.toBitVec_and, BitVec.toNat_and, hm, Nat.and_two_pow_sub_one_eq_mod]
  show _ = (BitVec.ofNat 32 _).toNat
  rw [BitVec.toNat_ofNat]
  exact (Nat.mod_eq_of_lt (Nat.lt_of_le_of_lt (Nat.mod_le _ _) x.toBitVec.isLt)).symm
theorem pk_andN {n : Nat} (h : n < 2 ^ 32) {m : Int32} (k : Nat) (hm : m.toBitVec.toNat = 2 ^ k - 1) : nI n &&& m = nI (n % 2 ^ k) := by
  rw [pk_and _ k hm, pk_tn h]
theorem pk_andE (x : Int32) {m : Int32} (k : Nat) (hm : m.toBitVec.toNat = 2 ^ k - 1) : ∃ j : Nat, j < 2 ^ k ∧ x &&& m = nI j := ⟨_, Nat.mod_lt _ (Nat.two_pow_pos k), pk_and x k hm⟩
theorem pk_shl (a s : Int32) (k : Nat) (hs : (s.toBitVec.smod 32).toNat = k) : (a <<< s).toBitVec.toNat = a.toBitVec.toNat * 2 ^ k % 2 ^ 32 := by
  show (a.toBitVec <<< (s.toBitVec.smod 32).toNat).toNat = _
  rw [hs, BitVec.toNat_shiftLeft, Nat.shiftLeft_eq]
theorem pk_shlN {n : Nat} (s : Int32) (k : Nat) (hs : (s.toBitVec.smod 32).toNat = k) (h : n * 2 ^ k < 2 ^ 32) : nI n <<< s = nI (n * 2 ^ k) := by
  apply Int32.toBitVec_inj.mp
  apply BitVec.eq_of_toNat_eq
  have hn : n < 2 ^ 32 := Nat.lt_of_le_of_lt (Nat.le_mul_of_pos_right n (Nat.two_pow_pos k)) h
  rw [pk_shl _ _ k hs, pk_tn hn, pk_tn h, Nat.mod_eq_of_lt h]
theorem pk_shr (a s : Int32) (k : Nat) (hs : (s.toBitVec.smod 32).toNat = k) : (a >>> s).toInt = a.toInt >>> k := by
  show (a.toBitVec.sshiftRight (s.toBitVec.smod 32).toNat).toInt = _
  rw [hs, BitVec.toInt_sshiftRight]
  rfl
theorem pk_shrN {n : Nat} (h : n < 2 ^ 31) (s : Int32) (k : Nat) (hs : (s.toBitVec.smod 32).toNat = k) : nI n >>> s = nI (n / 2 ^ k) := by
  apply Int32.toInt_inj.mp
  have h2 : n / 2 ^ k ≤ n := Nat.div_le_self _ _
  rw [pk_shr _ _ k hs, nI_toInt h, nI_toInt (by omega), Int.shiftRight_eq_div_pow]
  rfl
theorem pk_loop {σ : Type} (W : Nat → Nat → σ → Prop) (I : Nat → σ → Prop) (e i0 : Nat) (s : σ) (hi : i0 ≤ e) (h0 : I i0 s) (hx : ∀ n s, I e s → W (n + 1) e s)
    (hs : ∀ n i s, i < e → I i s → (∀ s', I (i + 1) s' → W n (i + 1) s') → W (n + 1) i s) : ∃ n, W n i0 s :=
  ⟨e + 1, loop_i W I e hx hs (e + 1) i0 s hi (by omega) h0⟩
def bt (x : Int32) (i : Nat) : Bool := x.toBitVec.getLsbD i
theorem b_ext {x y : Int32} (h : ∀ i, i < 32 → bt x i = bt y i) : x = y := Int32.toBitVec_inj.mp (BitVec.eq_of_getLsbD_eq (fun i hi => h i hi))
theorem b_or (x y : Int32) (i : Nat) : bt (x ||| y) i = (bt x i || bt y i) := by unfold bt; rw [Int32.toBitVec_or, BitVec.getLsbD_or]
theorem b_and (x y : Int32) (i : Nat) : bt (x &&& y) i = (bt x i && bt y i) := by unfold bt; rw [Int32.toBitVec_and, BitVec.getLsbD_and]
theorem b_xor (x y : Int32) (i : Nat) : bt (x ^^^ y) i = (bt x i ^^ bt y i) := by unfold bt; rw [Int32.toBitVec_xor, BitVec.getLsbD_xor]
theorem b_big {x : Int32} {i : Nat} (h : 32 ≤ i) : bt x i = false := BitVec.getLsbD_of_ge _ _ h
theorem b_m1 : ∀ i, i < 32 → bt (-1) i = true := by decide +kernel
theorem b_0 (i : Nat) : bt 0 i = false := BitVec.getLsbD_zero
theorem s_l : ∀ n, n < 32 → ((nI n &&& 31).toBitVec.smod 32).toNat = n := by decide +kernel
theorem b_shl (n : Nat) (hn : n < 32) (x : Int32) {i : Nat} (hi : i < 32) : bt (x <<< (nI n &&& 31)) i = (decide (n ≤ i) && bt x (i - n)) := by
  unfold bt
  rw [Int32.toBitVec_shiftLeft]
  show (x.toBitVec <<< ((nI n &&& 31).toBitVec.smod 32).toNat).getLsbD i = _
  rw [s_l n hn, BitVec.getLsbD_shiftLeft]
  rcases Nat.lt_or_ge i n with h | h
  · simp [h, Nat.not_le.mpr h]
  · simp [hi, h, Nat.not_lt.mpr h]
theorem b_sshr (n : Nat) (hn : n < 32) (x : Int32) {i : Nat} (hi : i < 32) : bt (x >>> (nI n &&& 31)) i = if n + i < 32 then bt x (n + i) else bt x 31 := by
  unfold bt
  rw [Int32.toBitVec_shiftRight]
  show (x.toBitVec.sshiftRight ((nI n &&& 31).toBitVec.smod 32).toNat).getLsbD i = _
  rw [s_l n hn, BitVec.getLsbD_sshiftRight, BitVec.msb_eq_getLsbD_last]
  simp [hi]
/-! bits: one test, set, clear; the window of a span -/
theorem ma_b1 : ∀ i, i < 32 → bt 1 i = decide (i = 0) := by decide +kernel
theorem ma_bm2 : ∀ i, i < 32 → bt (-2) i = decide (0 < i) := by decide +kernel
theorem ma_b24 : ∀ i, i < 32 → bt 16777215 i = decide (i < 24) := by decide +kernel
theorem ma_bit (x : Int32) {j : Nat} (hj : j < 32) : (x >>> (nI j &&& 31)) &&& 1 = if bt x j = true then 1 else 0 := by
  apply b_ext
  intro i hi
  rw [b_and, b_sshr j hj x hi, ma_b1 i hi]
  by_cases h : i = 0
  · subst h
    rw [decide_eq_true rfl, Bool.and_true, Nat.add_zero, if_pos hj]
    cases bt x j <;> decide
  · rw [decide_eq_false h, Bool.and_false]
    cases bt x j
    · rw [if_neg Bool.false_ne_true, b_0]
    · rw [if_pos rfl, ma_b1 i hi, decide_eq_false h]
theorem ma_bit0 (x : Int32) {j : Nat} (hj : j < 32) : ((x >>> (nI j &&& 31)) &&& 1) = 0 ↔ bt x j = false := by
  rw [ma_bit x hj]
  cases bt x j <;> decide
theorem ma_bit1 (x : Int32) {j : Nat} (hj : j < 32) : ((x >>> (nI j &&& 31)) &&& 1) = 1 ↔ bt x j = true := by
  rw [ma_bit x hj]
  cases bt x j <;> decide
theorem ma_bn (x : Int32) {j : Nat} (hj : j < 32) : (x >>> (nI j &&& 31)) &&& 1 = nI (if bt x j = true then 1 else 0) := by
  rw [ma_bit x hj]
  cases bt x j <;> rfl
theorem ma_tb (S : Nat) {j : Nat} (hj : j < 32) : bt (nI S) j = S.testBit j := by
  show (BitVec.ofNat 32 S).getLsbD j = _
  rw [BitVec.getLsbD_ofNat, decide_eq_true hj, Bool.true_and]
theorem ma_one {j i : Nat} (hj : j < 32) (hi : i < 32) : bt ((1 : Int32) <<< (nI j &&& 31)) i = decide (i = j) := by
  rw [b_shl j hj 1 hi]
  by_cases h : j ≤ i
  · rw [decide_eq_true h, Bool.true_and, ma_b1 _ (by omega)]
    by_cases e : i = j
    · rw [decide_eq_true e, decide_eq_true (by omega)]
    · rw [decide_eq_false e, decide_eq_false (by omega)]
  · rw [decide_eq_false h, Bool.false_and, decide_eq_false (by omega)]
theorem ma_set (x : Int32) {j i : Nat} (hj : j < 32) (hi : i < 32) : bt (x ||| ((1 : Int32) <<< (nI j &&& 31))) i = (bt x i || decide (i = j)) := by
  rw [b_or, ma_one hj hi]
theorem ma_clr (x : Int32) {j i : Nat} (hj : j < 32) (hi : i < 32) : bt (x &&& (((1 : Int32) <<< (nI j &&& 31)) ^^^ (-1))) i = (bt x i && !decide (i = j)) := by
  rw [b_and, b_xor, ma_one hj hi, b_m1 i hi, Bool.xor_true]
theorem ma_and0 (x : Int32) {j : Nat} (hj : j < 32) : (x &&& ((1 : Int32) <<< (nI j &&& 31))) = 0 ↔ bt x j = false := by
  constructor
  · intro h
    have a := b_and x ((1 : Int32) <<< (nI j &&& 31)) j
    rw [h, b_0, ma_one hj hj, decide_eq_true rfl, Bool.and_true] at a
    exact a.symm
  · intro h
    apply b_ext
    intro i hi
    rw [b_and, ma_one hj hi, b_0]
    by_cases e : i = j
    · rw [e, h, Bool.false_and]
    · rw [decide_eq_false e, Bool.and_false]
theorem ma_late (x : Int32) {j i : Nat} (hj : j < 32) (hi : i < 32) : bt (x &&& ((-2 : Int32) <<< (nI j &&& 31))) i = (bt x i && decide (j < i)) := by
  rw [b_and, b_shl j hj _ hi]
  by_cases h : j ≤ i
  · rw [decide_eq_true h, Bool.true_and, ma_bm2 _ (by omega)]
    by_cases e : j < i
    · rw [decide_eq_true e, decide_eq_true (show 0 < i - j by omega)]
    · rw [decide_eq_false e, decide_eq_false (show ¬ 0 < i - j by omega)]
  · rw [decide_eq_false h, Bool.false_and, decide_eq_false (show ¬ j < i by omega)]
theorem ma_not (x : Int32) {i : Nat} (hi : i < 32) : bt (16777215 &&& (x ^^^ (-1))) i = (decide (i < 24) && !bt x i) := by
  rw [b_and, b_xor, b_m1 i hi, Bool.xor_true, ma_b24 i hi]
theorem ma_span : ∀ d, d < 25 → ∀ r, r < d → ∀ t, t < 24 → bt (((1 : Int32) <<< (nI d &&& 31)) - ((1 : Int32) <<< (nI r &&& 31))) t = (decide (r ≤ t) && decide (t < d)) := by decide +kernel
theorem ma_sh1 : ∀ j, j < 6 → (1 : Int32) <<< (nI j &&& 31) = nI (2 ^ j) := by decide +kernel
theorem ma_6 {i : Nat} (h : i < 6) : ¬ (6 : Int32) ≤ nI i := nI_ge (b := 6) h (by decide)
theorem ma_24 {i : Nat} (h : i < 24) : ¬ (24 : Int32) ≤ nI i := nI_ge (b := 24) h (by decide)
theorem ma_64 {i : Nat} (h : i < 64) : ¬ (64 : Int32) ≤ nI i := nI_ge (b := 64) h (by decide)
theorem ma_y6 : (6 : Int32) ≤ nI 6 := by decide
theorem ma_y24 : (24 : Int32) ≤ nI 24 := by decide
theorem ma_y64 : (64 : Int32) ≤ nI 64 := by decide
theorem ma_in6 {i : Nat} (h : i < 6) : vp_in (nI i) 6 := vp_in_nI h (by decide)
theorem ma_in64 {i : Nat} (h : i < 64) : vp_in (nI i) 64 := vp_in_nI h (by decide)
theorem ma_c6 {i : Nat} (h : i < 6) : (nI i).toNatClampNeg = i := nI_clamp (by omega)
theorem ma_c64 {i : Nat} (h : i < 64) : (nI i).toNatClampNeg = i := nI_clamp (by omega)
theorem ma_nb0 : narrow .boolean (.int (0 : Int32)) = .int 0 := lw_bz_n 0
theorem ma_nb1 : narrow .boolean (.int (1 : Int32)) = .int 1 := lw_bz_n 1
theorem ma_vn0 : vp_nar .boolean 0 = 0 := by unfold vp_nar; rw [ma_nb0]
theorem ma_vn1 : vp_nar .boolean 1 = 1 := by unfold vp_nar; rw [ma_nb1]
theorem ma_sum_lt {f : Nat → Nat} {B : Nat} : ∀ n, (∀ i, i < n → f i ≤ B) → ma_sum f n ≤ n * B := by
  intro n
  induction n with
  | zero => intro _; exact Nat.zero_le _
  | succ n ih =>
    intro h
    have a := ih fun i hi => h i (by omega)
    have b := h n (by omega)
    simp only [ma_sum, Nat.succ_mul]
    omega
end
section
/-! the reference's walks: covers, measure, can, fits -/
def ma_w (pr : Nat → Bool) (fr tw : Nat → Nat) : Nat → Nat → Bool := fun j t => pr j && (decide (fr j ≤ t) && decide (t < tw j))
def ma_Yt (pr : Nat → Bool) (fr tw : Nat → Nat) (U : Nat → Bool) (sh : Int32) (aT aF aG : Nat → Int32) : Prop :=
  (∀ j, j < 6 → aT j = if pr j = true then 1 else 0) ∧ (∀ j, j < 6 → pr j = true → aF j = nI (fr j) ∧ aG j = nI (tw j) ∧ fr j ≤ 24 ∧ tw j ≤ 24) ∧ ∀ t, t < 24 → bt sh t = !U t
theorem ma_any_s (f : Nat → Bool) (n : Nat) : ma_any f (n + 1) = (ma_any f n || f n) := rfl
theorem ma_sum_s (f : Nat → Nat) (n : Nat) : ma_sum f (n + 1) = ma_sum f n + f n := rfl
theorem ma_nf {b : Bool} (h : ¬ b = false) : b = true := by cases b with | false => exact absurd rfl h | true => rfl
theorem ma_nt {b : Bool} (h : ¬ b = true) : b = false := by cases b with | true => exact absurd rfl h | false => rfl
def ma_U (b : Nat) (U : Nat → Bool) : Nat → Bool := fun t => decide (b ≤ t) && U t
theorem ma_U_0 {w : Nat → Nat → Bool} {U : Nat → Bool} {x : Nat → Nat} : ma_fit w (ma_U 0 U) x ↔ ma_fit w U x := by
  constructor
  · exact ma_fit_U (fun _ _ _ _ h => h) fun t _ h => by
      unfold ma_U at h
      rw [decide_eq_true (Nat.zero_le t), Bool.true_and] at h
      exact h
  · exact ma_fit_U (fun _ _ _ _ h => h) fun t _ h => by
      unfold ma_U
      rw [decide_eq_true (Nat.zero_le t), Bool.true_and]
      exact h
theorem ma_rm_24 (w : Nat → Nat → Bool) (U : Nat → Bool) (S : Nat) : ma_rm w U S ≤ 24 := by
  have h : ma_rm w U S ≤ 24 * 1 := ma_sum_lt 24 fun t _ => by
    try dsimp only
    split
    · exact Nat.le_refl _
    · exact Nat.zero_le _
  omega
theorem ma_dem_600 {S : Nat} {x : Nat → Nat} (h : ∀ j, j < 6 → x j ≤ 100) : ma_dem S x ≤ 600 := by
  have h : ma_dem S x ≤ 6 * 100 := ma_sum_lt 6 fun t ht => by
    try dsimp only
    split
    · exact h t ht
    · exact Nat.zero_le _
  omega
section
variable {sh ct : Int32} {aT aF aG aM aY aW aR aN aO aK aB : Nat → Int32} {pr : Nat → Bool} {fr tw : Nat → Nat} {U : Nat → Bool}
theorem ma_th0 (h : ∀ j, j < 6 → aT j = if pr j = true then 1 else 0) {j : Nat} (hj : j < 6) : aT (nI j).toNatClampNeg = 0 ↔ pr j = false := by
  rw [ma_c6 hj, h j hj]
  cases pr j <;> decide
theorem ma_covers (hY : ma_Yt pr fr tw U sh aT aF aG) {S t : Nat} (ht : t < 24) {post : Int32 → Prop} (h : post (if (ma_hit (ma_w pr fr tw) S t && U t) = true then 1 else 0)) : wpY_covers post (sh, ct, aT, aF, aG, aM, aY, aW, aR, aN, aO, aK, aB) (nI S) (nI t) := by
  refine loop_0 (fun n i s => wY_covers_5 post (nI S) (nI t) sh ct aT aF aG aM aY aW aR aN aO aK aB n s (nI i)) (fun i s => s = if ma_any (fun j => S.testBit j && ma_w pr fr tw j t) i = true then (1 : Int32) else 0) 6 0 rfl ?_ ?_
  · intro n s e
    subst e
    refine br_t ma_y6 ?_
    change post (if ((ma_any (fun j => S.testBit j && ma_w pr fr tw j t) 6) && U t) = true then 1 else 0) at h
    cases hA : ma_any (fun j => S.testBit j && ma_w pr fr tw j t) 6 with
    | false =>
      rw [hA, Bool.false_and, if_neg Bool.false_ne_true] at h
      exact br_t (if_neg Bool.false_ne_true) h
    | true =>
      rw [hA, Bool.true_and] at h
      refine br_f (by rw [if_pos rfl]; decide) ?_
      cases hU : U t with
      | true =>
        rw [hU, if_pos rfl] at h
        exact br_t ((ma_bit0 sh (by omega)).mpr (by rw [hY.2.2 t ht, hU]; rfl)) h
      | false =>
        rw [hU, if_neg Bool.false_ne_true] at h
        refine br_f (fun z => ?_) h
        have z' := (ma_bit0 sh (by omega)).mp z
        rw [hY.2.2 t ht, hU] at z'
        exact absurd z' (by decide)
  · intro n i s hi e ih
    subst e
    refine br_f (ma_6 hi) ?_
    cases hA : ma_any (fun j => S.testBit j && ma_w pr fr tw j t) i with
    | true =>
      refine br_f (by rw [if_pos rfl]; decide) (nm_r (nI_1 i) (ih _ ?_))
      rw [ma_any_s, hA, Bool.true_or, if_pos rfl]
    | false =>
      refine br_t (if_neg Bool.false_ne_true) ?_
      have k0 : (S.testBit i && ma_w pr fr tw i t) = false → wY_covers_5 post (nI S) (nI t) sh ct aT aF aG aM aY aW aR aN aO aK aB n 0 (nI (i + 1)) := fun q => ih 0 (by
        try dsimp only
        rw [ma_any_s, hA, q]; rfl)
      have k1 : (S.testBit i && ma_w pr fr tw i t) = true → wY_covers_5 post (nI S) (nI t) sh ct aT aF aG aM aY aW aR aN aO aK aB n 1 (nI (i + 1)) := fun q => ih 1 (by
        try dsimp only
        rw [ma_any_s, hA, q]; rfl)
      have b1 : ((nI S >>> (nI i &&& 31)) &&& 1) = 1 ↔ S.testBit i = true := by rw [ma_bit1 _ (by omega), ma_tb S (by omega)]
      have b2 := ma_th0 hY.1 hi
      have b3 : pr i = true → (nI t < aF (nI i).toNatClampNeg ↔ t < fr i) := fun p => by
        have q := hY.2.1 i hi p
        rw [ma_c6 hi, q.1]
        exact nI_ltI (by omega) (by omega)
      have b4 : pr i = true → (aG (nI i).toNatClampNeg ≤ nI t ↔ tw i ≤ t) := fun p => by
        have q := hY.2.1 i hi p
        rw [ma_c6 hi, q.2.1]
        exact nI_leI (by omega) (by omega)
      refine br_c (fun h1 => ⟨ma_in6 hi, br_c (fun h2 => nm_r (nI_1 i) (k0 ?_)) (fun h2 => ⟨ma_in6 hi, br_c (fun h3 => nm_r (nI_1 i) (k0 ?_)) (fun h3 => ⟨ma_in6 hi, br_c (fun h4 => nm_r (nI_1 i) (k0 ?_)) (fun h4 => nm_r (nI_1 i) (k1 ?_))⟩)⟩)⟩) (fun h1 => nm_r (nI_1 i) (k0 ?_))
      · unfold ma_w
        rw [b2.mp h2, Bool.false_and, Bool.and_false]
      · have p : pr i = true := ma_nf fun z => h2 (b2.mpr z)
        have q := (b3 p).mp h3
        unfold ma_w
        rw [decide_eq_false (show ¬ fr i ≤ t by omega), Bool.false_and, Bool.and_false, Bool.and_false]
      · have p : pr i = true := ma_nf fun z => h2 (b2.mpr z)
        have q := (b4 p).mp h4
        unfold ma_w
        rw [decide_eq_false (show ¬ t < tw i by omega), Bool.and_false, Bool.and_false, Bool.and_false]
      · have p : pr i = true := ma_nf fun z => h2 (b2.mpr z)
        have q := mt (b3 p).mpr h3
        have q2 := mt (b4 p).mpr h4
        unfold ma_w
        rw [b1.mp h1, p, decide_eq_true (show fr i ≤ t by omega), decide_eq_true (show t < tw i by omega)]
        rfl
      · rw [ma_nt (mt b1.mpr h1), Bool.false_and]
theorem ma_measure (hY : ma_Yt pr fr tw U sh aT aF aG) {b : Nat} (hb : b ≤ 24) {post : SY → Prop} (h : ∀ aR' : Nat → Int32, (∀ S, S < 64 → aR' S = nI (ma_rm (ma_w pr fr tw) (ma_U b U) S)) → post (sh, ct, aT, aF, aG, aM, aY, aW, aR', aN, aO, aK, aB)) : wpY_measure post (sh, ct, aT, aF, aG, aM, aY, aW, aR, aN, aO, aK, aB) (nI b) := by
  refine loop_0 (fun n i s => wY_measure_2 post (nI b) sh ct n (nI i) aT aF aG aM aY aW s aN aO aK aB) (fun i s => ∀ S, S < i → s S = nI (ma_rm (ma_w pr fr tw) (ma_U b U) S)) 64 aR (fun S hS => absurd hS (Nat.not_lt_zero _)) ?_ ?_
  · intro n s e
    exact br_t ma_y64 (h s e)
  · intro n i s hi e ih
    refine br_f (ma_64 hi) ⟨ma_in64 hi, nm_r (congrArg (fun q => upd s q 0) (ma_c64 hi)) ?_⟩
    refine pk_loop (fun m t r => wY_measure_17 post (wY_measure_2 post (nI b) sh ct n) (nI b) (nI i) sh ct m (nI t) aT aF aG aM aY aW r aN aO aK aB) (fun t r => b ≤ t ∧ (∀ S, S < i → r S = nI (ma_rm (ma_w pr fr tw) (ma_U b U) S)) ∧ r i = nI (ma_sum (fun t => if (ma_hit (ma_w pr fr tw) i t && ma_U b U t) = true then 1 else 0) t)) 24 b (upd s i 0) hb ⟨Nat.le_refl _, fun S hS => ?_, ?_⟩ ?_ ?_
    · rw [pk_un (by omega)]
      exact e S hS
    · rw [pk_us]
      rw [(ma_sum_eq b fun t ht => by
        try dsimp only
        unfold ma_U
        rw [decide_eq_false (show ¬ b ≤ t by omega), Bool.false_and, Bool.and_false, if_neg Bool.false_ne_true]).trans (ma_sum_zero b)]
      rfl
    · intro m r e3
      obtain ⟨_, e1, e2⟩ := e3
      refine br_t ma_y24 (nm_r (nI_1 i) (ih r ?_))
      intro S hS
      by_cases c : S = i
      · rw [c]; exact e2
      · exact e1 S (by omega)
    · intro m t r ht e3 ih2
      obtain ⟨hbt, e1, e2⟩ := e3
      refine br_f (ma_24 ht) ⟨ma_in64 hi, ma_covers hY ht ?_⟩
      have hu : ma_U b U t = U t := by unfold ma_U; rw [decide_eq_true hbt, Bool.true_and]
      cases hc : (ma_hit (ma_w pr fr tw) i t && U t) with
      | false =>
        refine br_t (if_neg Bool.false_ne_true) ⟨ma_in64 hi, nm_r (e' := upd r i (r i)) (by rw [ma_c64 hi, Int32.add_zero]) (nm_r (nI_1 t) (ih2 _ ⟨by omega, fun S hS => ?_, ?_⟩))⟩
        · rw [pk_un (by omega)]; exact e1 S hS
        · rw [pk_us, e2, ma_sum_s]
          try dsimp only
          rw [hu, hc, if_neg Bool.false_ne_true, Nat.add_zero]
      | true =>
        refine br_f (by rw [if_pos rfl]; decide) ⟨ma_in64 hi, nm_r (e' := upd r i (r i + 1)) (by rw [ma_c64 hi]) (nm_r (nI_1 t) (ih2 _ ⟨by omega, fun S hS => ?_, ?_⟩))⟩
        · rw [pk_un (by omega)]; exact e1 S hS
        · rw [pk_us, e2, ma_sum_s, nI_1]
          try dsimp only
          rw [hu, hc, if_pos rfl]
theorem ma_can {w : Nat → Nat → Bool} {V : Nat → Bool} {x : Nat → Nat} (hT : ∀ j, j < 6 → aT j = if pr j = true then 1 else 0) (hR : ∀ S, S < 64 → aR S = nI (ma_rm w V S)) (hN : ∀ j, j < 6 → pr j = true → aN j = nI (x j)) (hx : ∀ j, j < 6 → x j ≤ 100) (h0 : ∀ j, j < 6 → pr j = false → x j = 0) {post : Int32 → Prop} (h1 : ma_fit w V x → post 1) (h2 : ¬ ma_fit w V x → post 0) : wpY_can post (sh, ct, aT, aF, aG, aM, aY, aW, aR, aN, aO, aK, aB) := by
  refine pk_loop (fun n i s => wY_can_4 post sh ct aT aF aG aM aY aW aR aN aO aK aB n s (nI i)) (fun i s => (s = 1 ∧ ∀ S, S < i → ma_dem S x ≤ ma_rm w V S) ∨ (s = 0 ∧ ¬ ma_fit w V x)) 64 1 1 (by decide) (Or.inl ⟨rfl, fun S hS => ?_⟩) ?_ ?_
  · rw [show S = 0 by omega, ma_dem_0]; exact Nat.zero_le _
  · intro n s e
    rcases e with ⟨rfl, e⟩ | ⟨rfl, e⟩
    · exact br_t ma_y64 ⟨ma_nb1, h1 e⟩
    · exact br_t ma_y64 ⟨ma_nb0, h2 e⟩
  · intro n i s hi e ih
    rcases e with ⟨rfl, e⟩ | ⟨rfl, e⟩
    · refine br_f (ma_64 hi) (br_f (by decide) ?_)
      refine loop_0 (fun m j s => wY_can_19 post (wY_can_4 post sh ct aT aF aG aM aY aW aR aN aO aK aB n) (nI i) sh ct aT aF aG aM aY aW aR aN aO aK aB m s (nI j)) (fun j s => s = nI (ma_sum (fun j => if i.testBit j = true then x j else 0) j)) 6 0 rfl ?_ ?_
      · intro m s es
        have b1 := ma_rm_24 w V i
        have b2 := ma_dem_600 (S := i) hx
        refine br_t ma_y6 ⟨ma_in64 hi, pk_lt (ma_rm w V i) (ma_dem i x) (fun q => nm_r (nI_1 i) (ih 0 (Or.inr ⟨rfl, fun f => ?_⟩))) (fun q => nm_r (nI_1 i) (ih 1 (Or.inl ⟨rfl, fun S hS => ?_⟩))) (by rw [ma_c64 hi]; exact hR i hi) es⟩
        · have := f i hi
          omega
        · by_cases c : S = i
          · rw [c]; exact q
          · exact e S (by omega)
      · intro m j s hj es ih2
        subst es
        have b1 : ((nI i >>> (nI j &&& 31)) &&& 1) = 1 ↔ i.testBit j = true := by rw [ma_bit1 _ (by omega), ma_tb i (by omega)]
        have b2 := ma_th0 hT hj
        refine br_f (ma_6 hj) (br_c (fun q1 => ⟨ma_in6 hj, br_c (fun q2 => nm_r (Int32.add_zero _) (nm_r (nI_1 j) (ih2 _ ?_))) (fun q2 => ⟨ma_in6 hj, nm_e (nm_r (nI_1 j) (ih2 _ ?_))⟩)⟩) (fun q1 => nm_r (Int32.add_zero _) (nm_r (nI_1 j) (ih2 _ ?_))))
        · rw [ma_sum_s]
          try dsimp only
          rw [if_pos (b1.mp q1), h0 j hj (b2.mp q2), Nat.add_zero]
        · rw [ma_sum_s, ← nI_add]
          try dsimp only
          rw [if_pos (b1.mp q1), ma_c6 hj, hN j hj (ma_nf fun z => q2 (b2.mpr z))]
        · rw [ma_sum_s]
          try dsimp only
          rw [if_neg (mt b1.mpr q1), Nat.add_zero]
    · exact br_f (ma_64 hi) (br_t rfl ⟨ma_nb0, h2 e⟩)
theorem ma_fits {x : Nat → Nat} (hY : ma_Yt pr fr tw U sh aT aF aG) (hM : ∀ j, j < 6 → pr j = true → aM j = nI (x j)) (hx : ∀ j, j < 6 → x j ≤ 100) (h0 : ∀ j, j < 6 → pr j = false → x j = 0) {post : Int32 → SY → Prop} (h1 : ∀ aR' aN' : Nat → Int32, ma_fit (ma_w pr fr tw) U x → post 1 (sh, ct, aT, aF, aG, aM, aY, aW, aR', aN', aO, aK, aB)) (h2 : ∀ aR' aN' : Nat → Int32, ¬ ma_fit (ma_w pr fr tw) U x → post 0 (sh, ct, aT, aF, aG, aM, aY, aW, aR', aN', aO, aK, aB)) : wpY_fits post (sh, ct, aT, aF, aG, aM, aY, aW, aR, aN, aO, aK, aB) := by
  unfold wpY_fits
  try dsimp only
  refine ma_measure (b := 0) hY (by decide) (fun aR' hR => ?_)
  refine loop_0 (fun n i s => wY_fits_7 post sh ct n (nI i) aT aF aG aM aY aW aR' s aO aK aB) (fun i s => ∀ j, j < i → s j = aM j) 6 aN (fun j hj => absurd hj (Nat.not_lt_zero _)) ?_ ?_
  · intro n s e
    exact br_t ma_y6 (ma_can (x := x) hY.1 hR (fun j hj p => (e j hj).trans (hM j hj p)) hx h0 (fun f => ⟨ma_nb1, h1 _ _ (ma_U_0.mp f)⟩) (fun f => ⟨ma_nb0, h2 _ _ (fun z => f (ma_U_0.mpr z))⟩))
  · intro n i s hi e ih
    refine br_f (ma_6 hi) ⟨ma_in6 hi, ma_in6 hi, nm_r (e' := upd s i (aM i)) (by rw [ma_c6 hi]) (nm_r (nI_1 i) (ih _ ?_))⟩
    intro j hj
    by_cases c : j = i
    · rw [c, pk_us]
    · rw [pk_un c]; exact e j (by omega)
end
end
section
/-! the reference's sort, next, lost, possible, keepBest -/
theorem pk_loopD {σ : Type} (W : Nat → Nat → σ → Prop) (I : Nat → σ → Prop) (hx : ∀ n s, I 0 s → W (n + 1) 0 s)
    (hs : ∀ n i s, I (i + 1) s → (∀ s', I i s' → W n i s') → W (n + 1) (i + 1) s) : ∀ (e : Nat) (s : σ), I e s → W (e + 1) e s := by
  intro e
  induction e with
  | zero => exact fun s h => hx 0 s h
  | succ e ih => exact fun s h => hs (e + 1) e s h (fun s' h' => ih s' h')
def ma_P (pr : Nat → Bool) (mu ma wo : Nat → Nat) : Prop :=
  ∀ j, j < 6 → (pr j = true → mu j ≤ 6 ∧ ma j ≤ 6 ∧ 1 ≤ wo j ∧ wo j ≤ 9) ∧ (pr j = false → mu j = 0 ∧ ma j = 0 ∧ wo j = 0)
def ma_Yp (pr : Nat → Bool) (mu ma wo : Nat → Nat) (aM aY aW : Nat → Int32) : Prop :=
  ∀ j, j < 6 → pr j = true → aM j = nI (mu j) ∧ aY j = nI (ma j) ∧ aW j = nI (wo j)
theorem ma_P6 {pr : Nat → Bool} {mu ma wo : Nat → Nat} (h : ma_P pr mu ma wo) {j : Nat} (hj : j < 6) : mu j ≤ 6 ∧ ma j ≤ 6 ∧ wo j ≤ 9 := by
  have q := h j hj
  cases hp : pr j with
  | true => have := q.1 hp; exact ⟨this.1, this.2.1, this.2.2.2⟩
  | false => have := q.2 hp; omega
def ma_ls (pr : Nat → Bool) (ma wo k : Nat → Nat) : Nat := ma_on pr (fun j => wo j * (ma j - k j))
theorem ma_ls_add {pr : Nat → Bool} {ma wo k : Nat → Nat} (h : ∀ j, j < 6 → k j ≤ ma j) : ma_ls pr ma wo k + ma_on pr (fun j => wo j * k j) = ma_on pr (fun j => wo j * ma j) := by
  unfold ma_ls
  rw [← ma_on_add]
  refine ma_on_eq (fun _ _ => rfl) fun j hj _ => ?_
  have := h j hj
  try dsimp only
  rw [← Nat.mul_add, Nat.sub_add_cancel this]
theorem ma_ls_bd {pr : Nat → Bool} {mu ma wo k : Nat → Nat} (h : ma_P pr mu ma wo) : ma_ls pr ma wo k ≤ 324 := by
  have q : ma_ls pr ma wo k ≤ 6 * 54 := ma_sum_lt 6 fun j hj => by
    try dsimp only
    have b := ma_P6 h hj
    split
    · exact Nat.le_trans (Nat.mul_le_mul b.2.2 (Nat.sub_le _ _)) (Nat.mul_le_mul_left 9 b.2.1)
    · exact Nat.zero_le _
  omega
section
variable {sh ct : Int32} {aT aF aG aM aY aW aR aN aO aK aB : Nat → Int32} {pr : Nat → Bool} {mu ma wo fr tw : Nat → Nat} {U : Nat → Bool}
theorem ma_before (hP : ma_P pr mu ma wo) (hW : ma_Yp pr mu ma wo aM aY aW) {i j : Nat} (hi : i < 6) (hj : j < 6) (hp : pr i = true) {post : Int32 → Prop} (h : ∀ r : Int32, (pr j = true → r = if ma_key wo i < ma_key wo j then 1 else 0) → post r) : wpY_before post (sh, ct, aT, aF, aG, aM, aY, aW, aR, aN, aO, aK, aB) (nI i) (nI j) := by
  have hb := ma_P6 hP hi
  have hb2 := ma_P6 hP hj
  have f1 : pr j = true → (aW (nI j).toNatClampNeg < aW (nI i).toNatClampNeg ↔ wo j < wo i) := fun p => by
    rw [ma_c6 hi, ma_c6 hj, (hW i hi hp).2.2, (hW j hj p).2.2]
    exact nI_ltI (by omega) (by omega)
  have f2 : pr j = true → (aW (nI i).toNatClampNeg = aW (nI j).toNatClampNeg ↔ wo i = wo j) := fun p => by
    rw [ma_c6 hi, ma_c6 hj, (hW i hi hp).2.2, (hW j hj p).2.2]
    exact nI_eq (by omega) (by omega)
  have f3 : nI j ≤ nI i ↔ j ≤ i := nI_leI (by omega) (by omega)
  have g1 : pr j = true → 1 ≤ wo j := fun p => ((hP j hj).1 p).2.2.1
  refine ⟨ma_in6 hi, ma_in6 hj, br_c (fun q1 => h 1 fun p => ?_) (fun q1 => ⟨ma_in6 hi, ma_in6 hj, br_c (fun q2 => br_c (fun q3 => h 0 fun p => ?_) (fun q3 => h 1 fun p => ?_)) (fun q2 => h 0 fun p => ?_)⟩)⟩
  · have a := (f1 p).mp q1
    rw [if_pos]
    unfold ma_key
    omega
  · have a := mt (f1 p).mpr q1
    have b := (f2 p).mp q2
    have c := f3.mp q3
    rw [if_neg]
    unfold ma_key
    omega
  · have a := mt (f1 p).mpr q1
    have b := (f2 p).mp q2
    have c := mt f3.mpr q3
    rw [if_pos]
    unfold ma_key
    omega
  · have a := mt (f1 p).mpr q1
    have b := mt (f2 p).mpr q2
    rw [if_neg]
    unfold ma_key
    omega
theorem ma_cnt_lt {pr : Nat → Bool} {wo : Nat → Nat} {j : Nat} (hj : j < 6) (hp : pr j = true) : ma_cnt pr wo (ma_key wo j) < 6 := by
  have a := ma_cnt_s hj hp (wo := wo)
  have b := ma_cnt_6 pr wo (ma_key wo j + 1)
  omega
theorem ma_cnt_ne {pr : Nat → Bool} {wo : Nat → Nat} {i j : Nat} (hi : i < 6) (hj : j < 6) (hp : pr i = true) (hq : pr j = true) (h : i ≠ j) : ma_cnt pr wo (ma_key wo i) ≠ ma_cnt pr wo (ma_key wo j) := by
  have a := ma_pos_lt (wo := wo) (j := j) hi hp
  have b := ma_pos_lt (wo := wo) (j := i) hj hq
  have c : ma_key wo i ≠ ma_key wo j := fun z => h (ma_key_inj hi hj z)
  omega
theorem ma_sort (hP : ma_P pr mu ma wo) (hT : ∀ j, j < 6 → aT j = if pr j = true then 1 else 0) (hW : ma_Yp pr mu ma wo aM aY aW) {post : SY → Prop} (h : ∀ aO' : Nat → Int32, (∀ j, j < 6 → pr j = true → aO' (ma_cnt pr wo (ma_key wo j)) = nI j) → post (sh, nI (ma_cnt pr wo 54), aT, aF, aG, aM, aY, aW, aR, aN, aO', aK, aB)) : wpY_sort post (sh, ct, aT, aF, aG, aM, aY, aW, aR, aN, aO, aK, aB) := by
  refine loop_0 (fun n i (s : Int32 × (Nat → Int32)) => wY_sort_7 post sh n (nI i) s.1 aT aF aG aM aY aW aR aN s.2 aK aB) (fun i s => s.1 = nI (ma_sum (fun j => if pr j = true then 1 else 0) i) ∧ ∀ j, j < i → pr j = true → s.2 (ma_cnt pr wo (ma_key wo j)) = nI j) 6 (0, aO) ⟨rfl, fun j hj => absurd hj (Nat.not_lt_zero _)⟩ ?_ ?_
  · intro n s e
    obtain ⟨c, o⟩ := s
    obtain ⟨e1, e2⟩ := e
    have e3 : c = nI (ma_cnt pr wo 54) := by
      rw [show c = nI (ma_sum (fun j => if pr j = true then 1 else 0) 6) from e1]
      refine congrArg nI (ma_sum_eq 6 fun j hj => ?_)
      try dsimp only
      rw [ma_D_54 (fun i hi hp => ((hP i hi).1 hp).2.2.1) j hj]
    subst e3
    exact br_t ma_y6 (h o e2)
  · intro n j s hj e ih
    obtain ⟨c, o⟩ := s
    obtain ⟨e1, e2⟩ := e
    try dsimp only at e1 e2
    refine br_f (ma_6 hj) ?_
    refine loop_0 (fun m i x => wY_sort_17 post (wY_sort_7 post sh n) (nI j) sh c aT aF aG aM aY aW aR aN o aK aB m x (nI i)) (fun i x => pr j = true → x = nI (ma_sum (fun i => if ma_D pr wo (ma_key wo j) i = true then 1 else 0) i)) 6 0 (fun _ => rfl) ?_ ?_
    · intro m x ex
      refine br_t ma_y6 ⟨ma_in6 hj, br_c (fun q => nm_r (nI_1 j) (ih (c, o) ⟨?_, ?_⟩)) (fun q => ?_)⟩
      · have p := (ma_th0 hT hj).mp q
        rw [ma_sum_s, p]
        exact e1
      · intro i hi hp
        by_cases z : i = j
        · rw [z, (ma_th0 hT hj).mp q] at hp
          exact absurd hp (by decide)
        · exact e2 i (by omega) hp
      · have p : pr j = true := ma_nf fun z => q ((ma_th0 hT hj).mpr z)
        have ex' : x = nI (ma_cnt pr wo (ma_key wo j)) := ex p
        have hl := ma_cnt_lt (wo := wo) hj p
        refine ⟨pk_in _ 6 hl ex', nm_r (e' := upd o (ma_cnt pr wo (ma_key wo j)) (nI j)) (by rw [ex', ma_c6 hl]) (nm_e (nm_r (nI_1 j) (ih (c + 1, upd o (ma_cnt pr wo (ma_key wo j)) (nI j)) ⟨?_, ?_⟩)))⟩
        · show c + 1 = _
          rw [e1, nI_1, ma_sum_s, p, if_pos rfl]
        · intro i hi hp
          show upd o _ _ _ = _
          by_cases z : i = j
          · rw [z, pk_us]
          · rw [pk_un (ma_cnt_ne (by omega) hj hp p z)]
            exact e2 i (by omega) hp
    · intro m i x hi ex ih2
      refine br_f (ma_6 hi) ⟨ma_in6 hi, br_c (fun q1 => nm_r (Int32.add_zero _) (nm_r (nI_1 i) (ih2 _ fun p => ?_))) (fun q1 => br_c (fun q2 => nm_r (Int32.add_zero _) (nm_r (nI_1 i) (ih2 _ fun p => ?_))) (fun q2 => ?_))⟩
      · have a := (ma_th0 hT hi).mp q1
        rw [ma_sum_s, ex p]
        have : ma_D pr wo (ma_key wo j) i = false := by unfold ma_D; rw [a, Bool.false_and]
        rw [this, if_neg Bool.false_ne_true, Nat.add_zero]
      · have a := (nI_eq (by omega) (by omega)).mp q2
        rw [ma_sum_s, ex p]
        have : ma_D pr wo (ma_key wo j) i = false := ma_D_at (by rw [a]; exact Nat.le_refl _)
        rw [this, if_neg Bool.false_ne_true, Nat.add_zero]
      · have a : pr i = true := ma_nf fun z => q1 ((ma_th0 hT hi).mpr z)
        refine ma_before hP hW hi hj a (fun r hr => br_c (fun q3 => nm_r (Int32.add_zero _) (nm_r (nI_1 i) (ih2 _ fun p => ?_))) (fun q3 => nm_e (nm_r (nI_1 i) (ih2 _ fun p => ?_))))
        · have b := hr p
          rw [q3] at b
          have c : ¬ ma_key wo i < ma_key wo j := fun z => by
            rw [if_pos z] at b
            exact absurd b (by decide)
          rw [ma_sum_s, ex p, if_neg (fun z => c (ma_D_iff.mp z).2), Nat.add_zero]
        · have b := hr p
          have c : ma_key wo i < ma_key wo j := by
            apply Classical.byContradiction
            intro z
            rw [if_neg z] at b
            exact q3 b
          rw [ma_sum_s, ex p, if_pos (ma_D_iff.mpr ⟨a, c⟩), nI_1]
theorem ma_next {ord k : Nat → Nat} (hP : ma_P pr mu ma wo) (hW : ma_Yp pr mu ma wo aM aY aW) (ho : ∀ j, j < 6 → pr j = true → ord (ma_cnt pr wo (ma_key wo j)) = j) (hO : ∀ p, p < ma_cnt pr wo 54 → aO p = nI (ord p)) (hk : ∀ j, j < 6 → k j ≤ ma j) (hK : ∀ j, j < 6 → pr j = true → aK j = nI (k j)) {post : Int32 → SY → Prop} (hA : ∀ (aK' : Nat → Int32) (k' : Nat → Nat), (∀ j, j < 6 → k' j ≤ ma j) → (∀ j, j < 6 → pr j = true → aK' j = nI (k' j)) → ma_rk ma ord (ma_cnt pr wo 54) k' + 1 = ma_rk ma ord (ma_cnt pr wo 54) k → post 1 (sh, nI (ma_cnt pr wo 54), aT, aF, aG, aM, aY, aW, aR, aN, aO, aK', aB)) (hB : ∀ aK' : Nat → Int32, ma_rk ma ord (ma_cnt pr wo 54) k = 0 → post 0 (sh, nI (ma_cnt pr wo 54), aT, aF, aG, aM, aY, aW, aR, aN, aO, aK', aB)) : wpY_next post (sh, nI (ma_cnt pr wo 54), aT, aF, aG, aM, aY, aW, aR, aN, aO, aK, aB) := by
  have hN := ma_cnt_6 pr wo 54
  refine nm_e ⟨ma_cnt pr wo 54 + 1, ?_⟩
  refine pk_loopD (fun n i s => wY_next_7 post sh (nI (ma_cnt pr wo 54)) n (nI i - 1) aT aF aG aM aY aW aR aN aO s aB) (fun i s => i ≤ ma_cnt pr wo 54 ∧ ∃ k' : Nat → Nat, (∀ j, j < 6 → k' j ≤ ma j) ∧ (∀ j, j < 6 → pr j = true → s j = nI (k' j)) ∧ (∀ p, p < i → k' (ord p) = k (ord p)) ∧ ∀ p, i ≤ p → p < ma_cnt pr wo 54 → k (ord p) = 0 ∧ k' (ord p) = ma (ord p)) ?_ ?_ (ma_cnt pr wo 54) aK ⟨Nat.le_refl _, k, hk, hK, fun _ _ => rfl, fun p h1 h2 => absurd h2 (by omega)⟩
  · intro n s e
    obtain ⟨_, k', _, _, _, h5⟩ := e
    exact br_t (by decide) (hB s (ma_hr_zero _ fun p hp => (h5 p (Nat.zero_le _) hp).1))
  · intro n p s e ih
    obtain ⟨hp, k', h1, h2, h3, h4⟩ := e
    have q := ma_ord_lt ho (p := p) (by omega)
    have oe := hO p (by omega)
    have hoi : ∀ i, i < ma_cnt pr wo 54 → i ≠ p → ord i ≠ ord p := fun i hi z y => by
      have := (ma_ord_lt ho hi).2.2
      rw [y, q.2.2] at this
      exact z this.symm
    have hv := h2 (ord p) q.1 q.2.1
    have hb := h1 (ord p) q.1
    have hb6 := ma_P6 hP q.1
    have ep := h3 p (by omega)
    show wY_next_7 post sh (nI (ma_cnt pr wo 54)) (n + 1) (nI (p + 1) - 1) aT aF aG aM aY aW aR aN aO s aB
    rw [nI_pred]
    refine br_f (nI_pos (by omega)) ⟨ma_in6 (by omega), nm_r (e' := nI (ord p)) (by rw [ma_c6 (by omega)]; exact oe) ⟨ma_in6 q.1, ?_⟩⟩
    refine pk_le (k' (ord p)) 0 (fun z => ⟨ma_in6 q.1, ma_in6 q.1, nm_r (e' := upd s (ord p) (aY (ord p))) (by rw [ma_c6 q.1]) (nm_r (Int32.sub_eq_add_neg (nI p) 1).symm (ih _ ⟨by omega, ma_put k' (ord p) (ma (ord p)), ?_, ?_, ?_, ?_⟩))⟩) (fun z => ⟨ma_in6 q.1, ma_in6 q.1, nm_r (e' := upd s (ord p) (nI (k' (ord p) - 1))) (by rw [ma_c6 q.1, hv]; exact congrArg _ (pk_sub z)) (hA _ (ma_put k' (ord p) (k' (ord p) - 1)) ?_ ?_ ?_)⟩) (by rw [ma_c6 q.1]; exact hv)
    · intro j hj
      by_cases c : j = ord p
      · rw [c, ma_put_s]; exact Nat.le_refl _
      · rw [ma_put_n c]; exact h1 j hj
    · intro j hj hpj
      by_cases c : j = ord p
      · rw [c, ma_put_s, pk_us]; exact (hW _ q.1 q.2.1).2.1
      · rw [ma_put_n c, pk_un c]; exact h2 j hj hpj
    · intro i hi
      rw [ma_put_n (hoi i (by omega) (by omega))]
      exact h3 i (by omega)
    · intro i hi1 hi2
      by_cases c : i = p
      · rw [c, ma_put_s]; exact ⟨by omega, rfl⟩
      · rw [ma_put_n (hoi i hi2 c)]
        exact h4 i (by omega) hi2
    · intro j hj
      by_cases c : j = ord p
      · rw [c, ma_put_s]; omega
      · rw [ma_put_n c]; exact h1 j hj
    · intro j hj hpj
      by_cases c : j = ord p
      · rw [c, ma_put_s, pk_us]
      · rw [ma_put_n c, pk_un c]; exact h2 j hj hpj
    · refine ma_hr_next (n := p) (by omega) (fun i hi => ?_) ?_ (fun i hi1 hi2 => ?_)
      · rw [ma_put_n (hoi i (by omega) (by omega))]
        exact h3 i (by omega)
      · rw [ma_put_s]; omega
      · rw [ma_put_n (hoi i hi2 (by omega))]
        exact h4 i hi1 hi2
theorem ma_lost {k : Nat → Nat} (hT : ∀ j, j < 6 → aT j = if pr j = true then 1 else 0) (hW : ma_Yp pr mu ma wo aM aY aW) (hk : ∀ j, j < 6 → k j ≤ ma j) (hK : ∀ j, j < 6 → pr j = true → aK j = nI (k j)) {post : Int32 → Prop} (h : post (nI (ma_ls pr ma wo k))) : wpY_lost post (sh, ct, aT, aF, aG, aM, aY, aW, aR, aN, aO, aK, aB) := by
  refine loop_0 (fun n i s => wY_lost_4 post sh ct aT aF aG aM aY aW aR aN aO aK aB n s (nI i)) (fun i s => s = nI (ma_sum (fun j => if pr j = true then wo j * (ma j - k j) else 0) i)) 6 0 rfl ?_ ?_
  · intro n s e
    subst e
    exact br_t ma_y6 h
  · intro n i s hi e ih
    subst e
    refine br_f (ma_6 hi) ⟨ma_in6 hi, br_c (fun q => nm_r (Int32.add_zero _) (nm_r (nI_1 i) (ih _ ?_))) (fun q => ⟨ma_in6 hi, ma_in6 hi, ma_in6 hi, nm_e (nm_r (nI_1 i) (ih _ ?_))⟩)⟩
    · rw [ma_sum_s, (ma_th0 hT hi).mp q, if_neg Bool.false_ne_true, Nat.add_zero]
    · have p : pr i = true := ma_nf fun z => q ((ma_th0 hT hi).mpr z)
      have a := hW i hi p
      rw [ma_sum_s, if_pos p, ma_c6 hi, a.2.1, a.2.2, hK i hi p, pk_sub (hk i hi), pk_mul, nI_add]
theorem ma_possible {k : Nat → Nat} {w : Nat → Nat → Bool} {V : Nat → Bool} (hP : ma_P pr mu ma wo) (hT : ∀ j, j < 6 → aT j = if pr j = true then 1 else 0) (hW : ma_Yp pr mu ma wo aM aY aW) (hR : ∀ S, S < 64 → aR S = nI (ma_rm w V S)) (hk : ∀ j, j < 6 → k j ≤ ma j) (hK : ∀ j, j < 6 → pr j = true → aK j = nI (k j)) {post : Int32 → SY → Prop} (h1 : ∀ aN' : Nat → Int32, ma_fit w V (fun j => mu j + k j) → post 1 (sh, ct, aT, aF, aG, aM, aY, aW, aR, aN', aO, aK, aB)) (h2 : ∀ aN' : Nat → Int32, ¬ ma_fit w V (fun j => mu j + k j) → post 0 (sh, ct, aT, aF, aG, aM, aY, aW, aR, aN', aO, aK, aB)) : wpY_possible post (sh, ct, aT, aF, aG, aM, aY, aW, aR, aN, aO, aK, aB) := by
  refine loop_0 (fun n i s => wY_possible_2 post sh ct n (nI i) aT aF aG aM aY aW aR s aO aK aB) (fun i s => ∀ j, j < i → s j = aM j + aK j) 6 aN (fun j hj => absurd hj (Nat.not_lt_zero _)) ?_ ?_
  · intro n s e
    refine br_t ma_y6 (ma_can (x := fun j => mu j + k j) hT hR (fun j hj p => ?_) (fun j hj => ?_) (fun j hj p => ?_) (fun f => ⟨ma_nb1, h1 _ f⟩) (fun f => ⟨ma_nb0, h2 _ f⟩))
    · rw [e j hj, (hW j hj p).1, hK j hj p, nI_add]
    · have a := ma_P6 hP hj
      have b := hk j hj
      try dsimp only
      omega
    · have a := (hP j hj).2 p
      have b := hk j hj
      try dsimp only
      omega
  · intro n i s hi e ih
    refine br_f (ma_6 hi) ⟨ma_in6 hi, ma_in6 hi, ma_in6 hi, nm_r (e' := upd s i (aM i + aK i)) (by rw [ma_c6 hi]) (nm_r (nI_1 i) (ih _ ?_))⟩
    intro j hj
    by_cases c : j = i
    · rw [c, pk_us]
    · rw [pk_un c]; exact e j (by omega)
theorem ma_keepBest {post : SY → Prop} (h : ∀ aB' : Nat → Int32, (∀ j, j < 6 → aB' j = aK j) → post (sh, ct, aT, aF, aG, aM, aY, aW, aR, aN, aO, aK, aB')) : wpY_keepBest post (sh, ct, aT, aF, aG, aM, aY, aW, aR, aN, aO, aK, aB) := by
  refine loop_0 (fun n i s => wY_keepBest_2 post sh ct n (nI i) aT aF aG aM aY aW aR aN aO aK s) (fun i s => ∀ j, j < i → s j = aK j) 6 aB (fun j hj => absurd hj (Nat.not_lt_zero _)) ?_ ?_
  · intro n s e
    exact br_t ma_y6 (h s e)
  · intro n i s hi e ih
    refine br_f (ma_6 hi) ⟨ma_in6 hi, ma_in6 hi, nm_r (e' := upd s i (aK i)) (by rw [ma_c6 hi]) (nm_r (nI_1 i) (ih _ ?_))⟩
    intro j hj
    by_cases c : j = i
    · rw [c, pk_us]
    · rw [pk_un c]; exact e j (by omega)
end
end
section
/-! the reference's search through all kept vectors -/
theorem ma_rm_U0 (w : Nat → Nat → Bool) (U : Nat → Bool) (S : Nat) : ma_rm w (ma_U 0 U) S = ma_rm w U S := by
  have e : ∀ t, ma_U 0 U t = U t := fun t => by
    unfold ma_U
    rw [decide_eq_true (Nat.zero_le t), Bool.true_and]
  refine ma_sum_eq 24 fun t _ => ?_
  try dsimp only
  rw [e t]
theorem ma_hr_mono {r k g : Nat → Nat} (n : Nat) (h : ∀ p, p < n → k p ≤ g p) : ma_hr r k n ≤ ma_hr r g n := by
  have a := ma_hr_dom (r := r) (k := k) (g := g) n fun i hi => ma_sum_le i fun p hp => h p (by omega)
  have b := ma_sum_le n h
  omega
section
variable {sh : Int32} {aT aF aG aM aY aW aR aO : Nat → Int32} {pr : Nat → Bool} {mu ma wo ord kg : Nat → Nat} {w : Nat → Nat → Bool} {V : Nat → Bool}
theorem ma_try78 (hP : ma_P pr mu ma wo) (hW : ma_Yp pr mu ma wo aM aY aW) (ho : ∀ j, j < 6 → pr j = true → ord (ma_cnt pr wo (ma_key wo j)) = j) (hO : ∀ p, p < ma_cnt pr wo 54 → aO p = nI (ord p)) {post : Int32 → SY → Prop} (h : ∀ aN' aK' aB' : Nat → Int32, (∀ j, j < 6 → pr j = true → aB' j = nI (kg j)) → post (nI (ma_ls pr ma wo kg)) (sh, nI (ma_cnt pr wo 54), aT, aF, aG, aM, aY, aW, aR, aN', aO, aK', aB')) {R c : Nat} {x1 : Int32} {aN aK aB : Nat → Int32} {k : Nat → Nat} (hk : ∀ j, j < 6 → k j ≤ ma j) (hK : ∀ j, j < 6 → pr j = true → aK j = nI (k j)) (hr : ma_rk ma ord (ma_cnt pr wo 54) k = R) (hx : (x1 = 100000 ∧ ma_rk ma ord (ma_cnt pr wo 54) kg < R) ∨ (x1 = nI (ma_ls pr ma wo kg) ∧ ∀ j, j < 6 → pr j = true → aB j = nI (kg j)))
    (ih : ∀ R', R' + 1 = R → ∀ (aK' : Nat → Int32) (k' : Nat → Nat), (∀ j, j < 6 → k' j ≤ ma j) → (∀ j, j < 6 → pr j = true → aK' j = nI (k' j)) → ma_rk ma ord (ma_cnt pr wo 54) k' = R' → ((x1 = 100000 ∧ ma_rk ma ord (ma_cnt pr wo 54) kg ≤ R') ∨ (x1 = nI (ma_ls pr ma wo kg) ∧ ∀ j, j < 6 → pr j = true → aB j = nI (kg j))) → wY_tryAll_42 post (R' + 2) x1 1 (nI (c + 1)) sh (nI (ma_cnt pr wo 54)) aT aF aG aM aY aW aR aN aO aK' aB) :
    wY_tryAll_78 post (wY_tryAll_42 post (R + 1)) x1 (nI c) sh (nI (ma_cnt pr wo 54)) aT aF aG aM aY aW aR aN aO aK aB := by
  unfold wY_tryAll_78
  refine ma_next hP hW ho hO hk hK (fun aK' k' h1 h2 h3 => nm_r (nI_1 c) ?_) (fun aK' h1 => nm_r (nI_1 c) ?_)
  · obtain ⟨R', rfl⟩ : ∃ R', R = R' + 1 := ⟨R - 1, by omega⟩
    refine ih R' rfl aK' k' h1 h2 (by omega) ?_
    rcases hx with ⟨a, b⟩ | b
    · exact Or.inl ⟨a, by omega⟩
    · exact Or.inr b
  · rcases hx with ⟨a, b⟩ | ⟨rfl, b⟩
    · exact absurd b (by omega)
    · exact br_c (fun _ => h _ _ _ b) (fun _ => br_t rfl (h _ _ _ b))
theorem ma_try42 (hP : ma_P pr mu ma wo) (hT : ∀ j, j < 6 → aT j = if pr j = true then 1 else 0) (hW : ma_Yp pr mu ma wo aM aY aW) (ho : ∀ j, j < 6 → pr j = true → ord (ma_cnt pr wo (ma_key wo j)) = j) (hO : ∀ p, p < ma_cnt pr wo 54 → aO p = nI (ord p)) (hR : ∀ S, S < 64 → aR S = nI (ma_rm w V S)) (hB : ma_Best w V mu ma pr wo kg) {R0 : Nat} (hR0 : R0 < 117649) {post : Int32 → SY → Prop} (h : ∀ aN' aK' aB' : Nat → Int32, (∀ j, j < 6 → pr j = true → aB' j = nI (kg j)) → post (nI (ma_ls pr ma wo kg)) (sh, nI (ma_cnt pr wo 54), aT, aF, aG, aM, aY, aW, aR, aN', aO, aK', aB')) :
    ∀ (R c : Nat) (x1 : Int32) (aN aK aB : Nat → Int32) (k : Nat → Nat), c + R = R0 → (∀ j, j < 6 → k j ≤ ma j) → (∀ j, j < 6 → pr j = true → aK j = nI (k j)) → ma_rk ma ord (ma_cnt pr wo 54) k = R → ((x1 = 100000 ∧ ma_rk ma ord (ma_cnt pr wo 54) kg ≤ R) ∨ (x1 = nI (ma_ls pr ma wo kg) ∧ ∀ j, j < 6 → pr j = true → aB j = nI (kg j))) → wY_tryAll_42 post (R + 2) x1 1 (nI c) sh (nI (ma_cnt pr wo 54)) aT aF aG aM aY aW aR aN aO aK aB := by
  intro R
  induction R using Nat.strongRecOn with
  | _ R IH =>
    intro c x1 aN aK aB k hc hk hK hr hx
    have hgl := ma_ls_bd (k := kg) hP
    have hkl := ma_ls_bd (k := k) hP
    have hw1 : ∀ j, j < 6 → pr j = true → 1 ≤ wo j ∧ wo j ≤ 9 := fun j hj p => ((hP j hj).1 p).2.2
    have tl : ∀ (x1 : Int32) (aN aB : Nat → Int32), ((x1 = 100000 ∧ ma_rk ma ord (ma_cnt pr wo 54) kg < R) ∨ (x1 = nI (ma_ls pr ma wo kg) ∧ ∀ j, j < 6 → pr j = true → aB j = nI (kg j))) → wY_tryAll_78 post (wY_tryAll_42 post (R + 1)) x1 (nI c) sh (nI (ma_cnt pr wo 54)) aT aF aG aM aY aW aR aN aO aK aB :=
      fun x1 aN aB hx => ma_try78 hP hW ho hO h hk hK hr hx (fun R' e aK' k' a b d f => IH R' (by omega) (c + 1) x1 aN aK' aB k' (by omega) a b d f)
    have lsle : ma_fit w V (fun j => mu j + k j) → ma_ls pr ma wo kg ≤ ma_ls pr ma wo k := fun f => by
      have a := ma_loss hw1 (hB.2.2 k hk f)
      have b := ma_ls_add (pr := pr) (wo := wo) hk
      have d := ma_ls_add (pr := pr) (wo := wo) hB.2.1
      omega
    refine br_f (nI_ge (b := 117649) (by omega) (by decide)) (br_f (by decide) (ma_lost hT hW hk hK ?_))
    rcases hx with ⟨rfl, b⟩ | ⟨rfl, b⟩
    · refine br_f (nI_ge (b := 100000) (by omega) (by decide)) (ma_possible hP hT hW hR hk hK (fun aN' f => ?_) (fun aN' f => ?_))
      · refine br_f (by decide) (ma_keepBest (fun aB' e => ?_))
        have e1 := ma_rk_le hB ho hk f
        have e2 := ma_rk_inj (fun j hj p => (hw1 j hj p).1) ho (fun j hj _ => hk j hj) (fun j hj _ => hB.2.1 j hj) (show ma_rk ma ord (ma_cnt pr wo 54) k = ma_rk ma ord (ma_cnt pr wo 54) kg by omega)
        have e3 : ma_ls pr ma wo k = ma_ls pr ma wo kg := ma_on_eq (fun _ _ => rfl) fun j hj p => by
          try dsimp only
          rw [e2 j hj p]
        rw [e3]
        exact tl _ _ _ (Or.inr ⟨rfl, fun j hj p => by rw [e j hj, hK j hj p, e2 j hj p]⟩)
      · refine br_t rfl (tl _ _ _ (Or.inl ⟨rfl, ?_⟩))
        apply Classical.byContradiction
        intro z
        have e2 := ma_rk_inj (fun j hj p => (hw1 j hj p).1) ho (fun j hj _ => hk j hj) (fun j hj _ => hB.2.1 j hj) (show ma_rk ma ord (ma_cnt pr wo 54) k = ma_rk ma ord (ma_cnt pr wo 54) kg by omega)
        refine f (ma_fit_eq (fun j hj => ?_) hB.1)
        try dsimp only
        cases hp : pr j with
        | true => rw [e2 j hj hp]
        | false =>
          have a1 := (hP j hj).2 hp
          have a2 := hk j hj
          have a3 := hB.2.1 j hj
          omega
    · exact pk_le (ma_ls pr ma wo kg) (ma_ls pr ma wo k) (fun q => tl _ _ _ (Or.inr ⟨rfl, b⟩)) (fun q => ma_possible hP hT hW hR hk hK (fun aN' f => absurd (lsle f) (by omega)) (fun aN' f => br_t rfl (tl _ _ _ (Or.inr ⟨rfl, b⟩))))
end
section
variable {sh ct : Int32} {aT aF aG aM aY aW aR aN aO aK aB : Nat → Int32} {pr : Nat → Bool} {mu ma wo fr tw kg : Nat → Nat} {U : Nat → Bool}
theorem ma_tryAll (hP : ma_P pr mu ma wo) (hY : ma_Yt pr fr tw U sh aT aF aG) (hW : ma_Yp pr mu ma wo aM aY aW) (hB : ma_Best (ma_w pr fr tw) U mu ma pr wo kg) {post : Int32 → SY → Prop} (h : ∀ (ct' : Int32) (aR' aN' aO' aK' aB' : Nat → Int32), (∀ j, j < 6 → pr j = true → aB' j = nI (kg j)) → post (nI (ma_ls pr ma wo kg)) (sh, ct', aT, aF, aG, aM, aY, aW, aR', aN', aO', aK', aB')) : wpY_tryAll post (sh, ct, aT, aF, aG, aM, aY, aW, aR, aN, aO, aK, aB) := by
  unfold wpY_tryAll
  dsimp only
  refine ma_sort hP hY.1 hW (fun aO' hO => ?_)
  refine ma_measure (b := 0) hY (by decide) (fun aR' hR => ?_)
  have hR' : ∀ S, S < 64 → aR' S = nI (ma_rm (ma_w pr fr tw) U S) := fun S hS => by rw [hR S hS, ma_rm_U0]
  obtain ⟨ord, ho, hO2⟩ : ∃ ord : Nat → Nat, (∀ j, j < 6 → pr j = true → ord (ma_cnt pr wo (ma_key wo j)) = j) ∧ (∀ p, p < ma_cnt pr wo 54 → aO' p = nI (ord p)) := by
    refine ⟨fun p => (aO' p).toNatClampNeg, fun j hj p => ?_, fun p hp => ?_⟩
    · try dsimp only
      rw [hO j hj p, ma_c6 hj]
    · obtain ⟨j, hj, hp, _, e⟩ := ma_pos_on 54 p hp
      have a := hO j hj hp
      rw [e] at a
      try dsimp only
      rw [a, ma_c6 hj]
  have hl : ma_rk ma ord (ma_cnt pr wo 54) ma < 117649 := by
    have a := ma_hr_lt (r := fun p => ma (ord p)) (k := fun p => ma (ord p)) (ma_cnt pr wo 54) fun p hp => ⟨Nat.le_refl _, (ma_P6 hP (ma_ord_lt ho hp).1).2.1⟩
    have b : 7 ^ ma_cnt pr wo 54 ≤ 7 ^ 6 := Nat.pow_le_pow_right (by decide) (ma_cnt_6 pr wo 54)
    have c : 7 ^ 6 = 117649 := by decide
    unfold ma_rk
    omega
  refine loop_0 (fun n i s => wY_tryAll_11 post sh (nI (ma_cnt pr wo 54)) n (nI i) aT aF aG aM aY aW aR' aN aO' s aB) (fun i s => ∀ j, j < i → s j = aY j) 6 aK (fun j hj => absurd hj (Nat.not_lt_zero _)) ?_ ?_
  · intro n s e
    refine br_t ma_y6 ⟨_, ma_try42 hP hY.1 hW ho hO2 hR' hB hl (fun _ _ _ b => h _ _ _ _ _ _ b) _ 0 100000 aN s aB ma (Nat.zero_add _) (fun _ _ => Nat.le_refl _) (fun j hj p => (e j hj).trans (hW j hj p).2.1) rfl (Or.inl ⟨rfl, ?_⟩)⟩
    exact ma_hr_mono _ fun p hp => hB.2.1 _ (ma_ord_lt ho hp).1
  · intro n i s hi e ih
    refine br_f (ma_6 hi) ⟨ma_in6 hi, ma_in6 hi, nm_r (e' := upd s i (aY i)) (by rw [ma_c6 hi]) (nm_r (nI_1 i) (ih _ ?_))⟩
    intro j hj
    by_cases c : j = i
    · rw [c, pk_us]
    · rw [pk_un c]; exact e j (by omega)
end
end
section
/-! the class's walks: countUnits, sharesFit, shareMusts, fitsWithMust, growShare, shareBest, lossOfShares -/
theorem ma_countUnits {x : Int32} {post : Int32 → Prop} (h : post (nI (ma_sum (fun t => if bt x t = true then 1 else 0) 24))) : wpX_countUnits post x := by
  refine loop_0 (fun n i s => wX_countUnits_4 post x n s (nI i)) (fun i s => s = nI (ma_sum (fun t => if bt x t = true then 1 else 0) i)) 24 0 rfl ?_ ?_
  · intro n s e
    subst e
    exact br_t ma_y24 h
  · intro n i s hi e ih
    subst e
    exact br_f (ma_24 hi) (nm_e (nm_r (nI_1 i) (ih _ (by rw [ma_bn x (by omega), nI_add, ma_sum_s]))))
section
variable {pt op : Int32} {bW bM bY bV bS : Nat → Int32} {pr : Nat → Bool} {mu ma wo x : Nat → Nat} {w : Nat → Nat → Bool} {V : Nat → Bool}
theorem ma_sharesFit {u : Int32} (hw : ∀ j, j < 6 → ∀ t, t < 24 → bt (bW j) t = w j t) (hu : ∀ t, t < 24 → bt u t = V t) (hS : ∀ j, j < 6 → bS j = nI (x j)) (hx : ∀ j, j < 6 → x j ≤ 100) {post : Int32 → Prop} (h1 : ma_fit w V x → post 1) (h2 : ¬ ma_fit w V x → post 0) : wpX_sharesFit post (pt, op, bW, bM, bY, bV, bS) u := by
  refine pk_loop (fun n i (_ : Unit) => wX_sharesFit_2 post u pt op bW bM bY bV bS n (nI i)) (fun i _ => ∀ S, S < i → ma_dem S x ≤ ma_rm w V S) 64 1 () (by decide) (fun S hS => ?_) ?_ ?_
  · rw [show S = 0 by omega, ma_dem_0]; exact Nat.zero_le _
  · intro n _ e
    exact br_t ma_y64 (h1 e)
  · intro n i _ hi e ih
    refine br_f (ma_64 hi) ?_
    refine loop_0 (fun m j (s : Int32 × Int32) => wX_sharesFit_16 post (wX_sharesFit_2 post u pt op bW bM bY bV bS n) u (nI i) pt op bW bM bY bV bS m s.1 s.2 (nI j)) (fun j s => s.1 = nI (ma_sum (fun j => if i.testBit j = true then x j else 0) j) ∧ ∀ t, t < 24 → bt s.2 t = ma_any (fun j => i.testBit j && w j t) j) 6 (0, 0) ⟨rfl, fun t _ => b_0 t⟩ ?_ ?_
    · intro m s es
      obtain ⟨c, d⟩ := s
      obtain ⟨e1, e2⟩ := es
      try dsimp only at e1 e2
      have b1 := ma_rm_24 w V i
      have b2 := ma_dem_600 (S := i) hx
      have er : ma_sum (fun t => if bt (d &&& u) t = true then 1 else 0) 24 = ma_rm w V i := ma_sum_eq 24 fun t ht => by
        try dsimp only
        rw [b_and, e2 t ht, hu t ht]
        rfl
      refine br_t ma_y6 (ma_countUnits ?_)
      rw [er]
      refine pk_le (ma_dem i x) (ma_rm w V i) (fun q => nm_r (nI_1 i) (ih () fun S hS => ?_)) (fun q => h2 fun f => ?_) e1
      · by_cases c : S = i
        · rw [c]; exact q
        · exact e S (by omega)
      · have := f i hi
        omega
    · intro m j s hj es ih2
      obtain ⟨c, d⟩ := s
      obtain ⟨e1, e2⟩ := es
      try dsimp only at e1 e2
      have b1 : ((nI i >>> (nI j &&& 31)) &&& 1) = 0 ↔ i.testBit j = false := by rw [ma_bit0 _ (by omega), ma_tb i (by omega)]
      refine br_f (ma_6 hj) (br_c (fun q => nm_r (nI_1 j) (ih2 (c, d) ⟨?_, fun t ht => ?_⟩)) (fun q => ⟨ma_in6 hj, nm_e ⟨ma_in6 hj, nm_e (nm_r (nI_1 j) (ih2 (_, _) ⟨?_, fun t ht => ?_⟩))⟩⟩))
      · try dsimp only
        rw [ma_sum_s, b1.mp q, if_neg Bool.false_ne_true, Nat.add_zero]
        exact e1
      · try dsimp only
        rw [ma_any_s, b1.mp q, Bool.false_and, Bool.or_false]
        exact e2 t ht
      · try dsimp only
        rw [ma_sum_s, ma_nf (mt b1.mpr q), if_pos rfl, ma_c6 hj, hS j hj, e1, nI_add]
      · try dsimp only
        rw [ma_any_s, ma_nf (mt b1.mpr q), Bool.true_and, ma_c6 hj, b_or, e2 t ht, hw j hj t ht]
theorem ma_shareMusts {post : SX → Prop} (h : ∀ bS' : Nat → Int32, (∀ j, j < 6 → bS' j = bM j) → post (pt, op, bW, bM, bY, bV, bS')) : wpX_shareMusts post (pt, op, bW, bM, bY, bV, bS) := by
  refine loop_0 (fun n i s => wX_shareMusts_2 post pt op n (nI i) bW bM bY bV s) (fun i s => ∀ j, j < i → s j = bM j) 6 bS (fun j hj => absurd hj (Nat.not_lt_zero _)) ?_ ?_
  · intro n s e
    exact br_t ma_y6 (h s e)
  · intro n i s hi e ih
    refine br_f (ma_6 hi) ⟨ma_in6 hi, ma_in6 hi, nm_r (e' := upd s i (bM i)) (by rw [ma_c6 hi]) (nm_r (nI_1 i) (ih _ ?_))⟩
    intro j hj
    by_cases c : j = i
    · rw [c, pk_us]
    · rw [pk_un c]; exact e j (by omega)
theorem ma_fitsWith {j v : Nat} (hw : ∀ j, j < 6 → ∀ t, t < 24 → bt (bW j) t = w j t) (hu : ∀ t, t < 24 → bt op t = V t) (hM : ∀ j, j < 6 → bM j = nI (mu j)) (hm : ∀ j, j < 6 → mu j ≤ 6) (hj : j < 6) (hv : v ≤ 100) {post : Int32 → SX → Prop} (h1 : ∀ bS' : Nat → Int32, ma_fit w V (ma_put mu j v) → post 1 (pt, op, bW, bM, bY, bV, bS')) (h2 : ∀ bS' : Nat → Int32, ¬ ma_fit w V (ma_put mu j v) → post 0 (pt, op, bW, bM, bY, bV, bS')) : wpX_fitsWithMust post (pt, op, bW, bM, bY, bV, bS) (nI j) (nI v) := by
  unfold wpX_fitsWithMust
  dsimp only
  refine ma_shareMusts (fun bS' e => ⟨ma_in6 hj, nm_r (e' := upd bS' j (nI v)) (by rw [ma_c6 hj]) ?_⟩)
  refine ma_sharesFit (x := ma_put mu j v) hw hu (fun i hi => ?_) (fun i hi => ?_) (fun f => ⟨ma_nb1, h1 _ f⟩) (fun f => ⟨ma_nb0, h2 _ f⟩)
  · by_cases c : i = j
    · rw [c, pk_us, ma_put_s]
    · rw [pk_un c, ma_put_n c, e i hi, hM i hi]
  · by_cases c : i = j
    · rw [c, ma_put_s]; exact hv
    · rw [ma_put_n c]
      have := hm i hi
      omega
theorem ma_grow {u : Int32} {j a : Nat} (hw : ∀ j, j < 6 → ∀ t, t < 24 → bt (bW j) t = w j t) (hu : ∀ t, t < 24 → bt u t = V t) (hS : ∀ j, j < 6 → bS j = nI (x j)) (hx : ∀ j, j < 6 → x j ≤ 50) (hf : ma_fit w V x) (hj : j < 6) (hA : bY j = nI a) (ha : a ≤ 6) {post : SX → Prop} (h : ∀ (bS' : Nat → Int32) (v : Nat), (∀ i, i < 6 → bS' i = nI (ma_put x j v i)) → x j ≤ v → v ≤ x j + a → ma_fit w V (ma_put x j v) → (v = x j + a ∨ ¬ ma_fit w V (ma_put x j (v + 1))) → post (pt, op, bW, bM, bY, bV, bS')) : wpX_growShare post (pt, op, bW, bM, bY, bV, bS) (nI j) u := by
  have hpx : ∀ i, ma_put x j (x j + 0) i = x i := fun i => by
    by_cases c : i = j
    · rw [c, ma_put_s, Nat.add_zero]
    · rw [ma_put_n c]
  have hxj := hx j hj
  refine loop_0 (fun n i s => wX_growShare_2 post (nI j) u pt op n (nI i) bW bM bY bV s) (fun i s => (∀ l, l < 6 → s l = nI (ma_put x j (x j + i) l)) ∧ ma_fit w V (ma_put x j (x j + i))) a bS ⟨fun l hl => ?_, ?_⟩ ?_ ?_
  · rw [hpx l]; exact hS l hl
  · exact ma_fit_eq (fun l _ => hpx l) hf
  · intro n s e
    exact ⟨ma_in6 hj, br_t (by rw [ma_c6 hj, hA]; exact nI_le (Nat.le_refl _) (by omega)) (h s _ e.1 (Nat.le_add_right _ _) (Nat.le_refl _) e.2 (Or.inl rfl))⟩
  · intro n i s hi e ih
    have es : s j = nI (x j + i) := by rw [e.1 j hj, ma_put_s]
    refine ⟨ma_in6 hj, br_f (by rw [ma_c6 hj, hA]; exact nI_ge hi (by omega)) ⟨ma_in6 hj, ma_in6 hj, nm_r (e' := upd s j (nI (x j + (i + 1)))) (by rw [ma_c6 hj, es, nI_1, Nat.add_assoc]) ?_⟩⟩
    have hS2 : ∀ l, l < 6 → upd s j (nI (x j + (i + 1))) l = nI (ma_put x j (x j + (i + 1)) l) := fun l hl => by
      by_cases c : l = j
      · rw [c, pk_us, ma_put_s]
      · rw [pk_un c, ma_put_n c, e.1 l hl, ma_put_n c]
    refine ma_sharesFit (x := ma_put x j (x j + (i + 1))) hw hu hS2 (fun l hl => ?_) (fun f => br_f (by decide) (nm_r (nI_1 i) (ih _ ⟨hS2, f⟩))) (fun f => br_t rfl ⟨ma_in6 hj, ma_in6 hj, nm_r (e' := upd (upd s j (nI (x j + (i + 1)))) j (nI (x j + i))) ?_ (h _ (x j + i) (fun l hl => ?_) (Nat.le_add_right _ _) (by omega) e.2 (Or.inr f))⟩)
    · by_cases c : l = j
      · rw [c, ma_put_s]; omega
      · rw [ma_put_n c]
        have := hx l hl
        omega
    · rw [ma_c6 hj, pk_us, ← Nat.add_assoc, nI_pred]
    · by_cases c : l = j
      · rw [c, pk_us, ma_put_s]
      · rw [pk_un c, pk_un c, ma_put_n c, e.1 l hl, ma_put_n c]
theorem ma_shareBest {u : Int32} (hP : ma_P pr mu ma wo) (hw : ∀ j, j < 6 → ∀ t, t < 24 → bt (bW j) t = w j t) (hu : ∀ t, t < 24 → bt u t = V t) (hM : ∀ j, j < 6 → bM j = nI (mu j)) (hY : ∀ j, j < 6 → bY j = nI (ma j)) (hV : ∀ j, j < 6 → bV j = nI (wo j)) (hf : ma_fit w V mu) {post : SX → Prop} (h : ∀ (bS' : Nat → Int32) (x : Nat → Nat), (∀ j, j < 6 → bS' j = nI (x j)) → ma_G w V mu ma pr wo 54 x → post (pt, op, bW, bM, bY, bV, bS')) : wpX_shareBest post (pt, op, bW, bM, bY, bV, bS) u := by
  unfold wpX_shareBest
  dsimp only
  refine ma_shareMusts (fun bS' e => ?_)
  refine loop_0 (fun n i s => wX_shareBest_7 post u n (nI (9 - i)) pt op bW bM bY bV s) (fun i s => ∃ x : Nat → Nat, (∀ j, j < 6 → s j = nI (x j)) ∧ ma_G w V mu ma pr wo (6 * i) x) 9 bS' ⟨mu, fun j hj => (e j hj).trans (hM j hj), ma_G_0 hf⟩ ?_ ?_
  · intro n s e
    obtain ⟨x, e1, e2⟩ := e
    exact br_t (by decide) (h s x e1 e2)
  · intro n i s hi e ih
    refine br_f (nI_nlt (b := 1) (by omega) (by omega)) ?_
    refine loop_0 (fun m j s => wX_shareBest_14 post (wX_shareBest_7 post u n) u (nI (9 - i)) m (nI j) pt op bW bM bY bV s) (fun j s => ∃ x : Nat → Nat, (∀ j, j < 6 → s j = nI (x j)) ∧ ma_G w V mu ma pr wo (6 * i + j) x) 6 s e ?_ ?_
    · intro m s e
      refine br_t ma_y6 (nm_r (e' := nI (9 - (i + 1))) ?_ (ih s e))
      rw [show 9 - i = 9 - (i + 1) + 1 by omega]
      exact pk_m1 _
    · intro m j s hj e ih2
      obtain ⟨x, e1, e2⟩ := e
      have hb := ma_P6 hP hj
      have hx : ∀ l, l < 6 → x l ≤ 50 := fun l hl => by
        have a := e2.1.2.1 l hl
        have b := ma_P6 hP hl
        omega
      refine br_f (ma_6 hj) ⟨ma_in6 hj, pk_eq (wo j) (9 - i) (fun q => ?_) (fun q => nm_r (nI_1 j) (ih2 s ⟨x, e1, ma_G_skip e2 fun l hl hp z => ?_⟩)) (by rw [ma_c6 hj]; exact hV j hj)⟩
      · have hp : pr j = true := ma_nf fun z => by
          have := ((hP j hj).2 z).2.2
          omega
        have hk : ma_key wo j = 6 * i + j := by
          unfold ma_key
          omega
        have hxj : x j = mu j := e2.1.2.2.1 j hj (ma_D_at (by omega))
        refine ma_grow hw hu e1 hx e2.1.1 hj (hY j hj) hb.2.1 (fun bS' v a1 a2 a3 a4 a5 => nm_r (nI_1 j) (ih2 bS' ⟨ma_put x j v, a1, ?_⟩))
        rw [hxj] at a2 a3 a5
        exact ma_G_grow e2 hj hp hk a2 a3 a4 a5
      · replace z : ma_key wo l = 6 * i + j := z
        unfold ma_key at z
        have := ((hP l hl).1 hp).2.2
        have : l = j := by omega
        subst this
        omega
theorem ma_lossOf (hP : ma_P pr mu ma wo) (hM : ∀ j, j < 6 → bM j = nI (mu j)) (hY : ∀ j, j < 6 → bY j = nI (ma j)) (hV : ∀ j, j < 6 → bV j = nI (wo j)) (hS : ∀ j, j < 6 → bS j = nI (x j)) (hb : ∀ j, j < 6 → mu j ≤ x j ∧ x j ≤ mu j + ma j) {post : Int32 → Prop} (h : post (nI (ma_ls pr ma wo (fun j => x j - mu j)))) : wpX_lossOfShares post (pt, op, bW, bM, bY, bV, bS) := by
  refine loop_0 (fun n i s => wX_lossOfShares_4 post pt op bW bM bY bV bS n s (nI i)) (fun i s => s = nI (ma_sum (fun j => if pr j = true then wo j * (ma j - (x j - mu j)) else 0) i)) 6 0 rfl ?_ ?_
  · intro n s e
    subst e
    exact br_t ma_y6 h
  · intro n i s hi e ih
    subst e
    refine br_f (ma_6 hi) ⟨ma_in6 hi, ma_in6 hi, ma_in6 hi, ma_in6 hi, nm_e (nm_r (nI_1 i) (ih _ ?_))⟩
    have b := hb i hi
    rw [ma_sum_s, ma_c6 hi, hM i hi, hY i hi, hV i hi, hS i hi, nI_add, pk_sub b.2, pk_mul, nI_add]
    cases hp : pr i with
    | true =>
      rw [if_pos rfl, show mu i + ma i - x i = ma i - (x i - mu i) by omega]
    | false =>
      rw [if_neg Bool.false_ne_true, ((hP i hi).2 hp).2.2, Nat.zero_mul]
end
end
section
/-! the relation; small private methods of both sides; the pure steps of take, bring, change -/
def ma_pb (p : Nat → Bool) (j : Nat) (b : Bool) : Nat → Bool := fun i => if i = j then b else p i
theorem ma_pb_s {p : Nat → Bool} {j : Nat} {b : Bool} : ma_pb p j b j = b := if_pos rfl
theorem ma_pb_n {p : Nat → Bool} {i j : Nat} {b : Bool} (h : i ≠ j) : ma_pb p j b i = p i := if_neg h
def ma_X (pr : Nat → Bool) (mu ma wo : Nat → Nat) (w : Nat → Nat → Bool) (U : Nat → Bool) (pt op : Int32) (bW bM bY bV : Nat → Int32) : Prop :=
  (∀ j, j < 32 → bt pt j = (decide (j < 6) && pr j)) ∧ (∀ t, t < 24 → bt op t = U t) ∧ (∀ j, j < 6 → ∀ t, t < 24 → bt (bW j) t = w j t) ∧ (∀ j, j < 6 → bM j = nI (mu j)) ∧ (∀ j, j < 6 → bY j = nI (ma j)) ∧ (∀ j, j < 6 → bV j = nI (wo j))
/-- tasks, their numbers and windows, and the units that are not blocked, as both sides hold them; the musts fit -/
def i_Rel (_ : Nat) (u : SX) (v : SY) : Prop := match u, v with
  | (pt, op, bW, bM, bY, bV, _), (sh, _, aT, aF, aG, aM, aY, aW, _, _, _, _, _) =>
    ∃ (pr : Nat → Bool) (mu ma wo fr tw : Nat → Nat) (U : Nat → Bool), ma_P pr mu ma wo ∧ ma_X pr mu ma wo (ma_w pr fr tw) U pt op bW bM bY bV ∧ ma_Yt pr fr tw U sh aT aF aG ∧ ma_Yp pr mu ma wo aM aY aW ∧ (∀ t, 24 ≤ t → t < 32 → bt sh t = false) ∧ ma_fit (ma_w pr fr tw) U mu
section
variable {pt op : Int32} {bW bM bY bV bS : Nat → Int32} {sh ct : Int32} {aT aF aG aM aY aW aR aN aO aK aB : Nat → Int32} {pr : Nat → Bool} {mu ma wo fr tw : Nat → Nat} {U : Nat → Bool}
theorem ma_rel {k : Nat} (hP : ma_P pr mu ma wo) (hX : ma_X pr mu ma wo (ma_w pr fr tw) U pt op bW bM bY bV) (hY : ma_Yt pr fr tw U sh aT aF aG) (hW : ma_Yp pr mu ma wo aM aY aW) (hH : ∀ t, 24 ≤ t → t < 32 → bt sh t = false) (hf : ma_fit (ma_w pr fr tw) U mu) : i_Rel k (pt, op, bW, bM, bY, bV, bS) (sh, ct, aT, aF, aG, aM, aY, aW, aR, aN, aO, aK, aB) := by
  unfold i_Rel
  exact ⟨pr, mu, ma, wo, fr, tw, U, hP, hX, hY, hW, hH, hf⟩
theorem ma_un {k : Nat} (h : i_Rel k (pt, op, bW, bM, bY, bV, bS) (sh, ct, aT, aF, aG, aM, aY, aW, aR, aN, aO, aK, aB)) : ∃ (pr : Nat → Bool) (mu ma wo fr tw : Nat → Nat) (U : Nat → Bool), ma_P pr mu ma wo ∧ ma_X pr mu ma wo (ma_w pr fr tw) U pt op bW bM bY bV ∧ ma_Yt pr fr tw U sh aT aF aG ∧ ma_Yp pr mu ma wo aM aY aW ∧ (∀ t, 24 ≤ t → t < 32 → bt sh t = false) ∧ ma_fit (ma_w pr fr tw) U mu := h
theorem i_up {k : Nat} {u : SX} {v : SY} (h : i_Rel k u v) : i_Rel (k + 4) u v := h
theorem i_vc0 : wpX_init (fun u => wpY_init (fun v => i_Rel 0 u v)) := by
  unfold wpX_init wpY_init
  refine ma_rel (pr := fun _ => false) (mu := fun _ => 0) (ma := fun _ => 0) (wo := fun _ => 0) (fr := fun _ => 0) (tw := fun _ => 0) (U := fun _ => true) (fun j _ => ⟨fun h => absurd h Bool.false_ne_true, fun _ => ⟨rfl, rfl, rfl⟩⟩) ⟨fun j hj => ?_, fun t ht => ?_, fun j _ t _ => ?_, fun _ _ => rfl, fun _ _ => rfl, fun _ _ => rfl⟩ ⟨fun j _ => rfl, fun j _ h => absurd h Bool.false_ne_true, fun t _ => ?_⟩ (fun j _ h => absurd h Bool.false_ne_true) (fun t _ _ => b_0 t) (fun S _ => ?_)
  · rw [b_0, Bool.and_false]
  · rw [ma_b24 t (by omega), decide_eq_true ht]
  · rw [b_0]; rfl
  · rw [b_0]; rfl
  · rw [show ma_dem S (fun _ => 0) = 0 from (ma_sum_eq 6 fun j _ => by try dsimp only
                                                                       split <;> rfl).trans (ma_sum_zero 6)]
    exact Nat.zero_le _
/-! is it a task, is it a unit -/
def ma_tk (pr : Nat → Bool) (x : Int32) : Prop := ∃ j, j < 6 ∧ x = nI j ∧ pr j = true
theorem ma_pt0 (h : ∀ j, j < 32 → bt pt j = (decide (j < 6) && pr j)) {j : Nat} (hj : j < 6) : ((pt >>> (nI j &&& 31)) &&& 1) = 0 ↔ pr j = false := by
  rw [ma_bit0 _ (by omega), h j (by omega), decide_eq_true hj, Bool.true_and]
theorem ma_isTask1 (h : ∀ j, j < 32 → bt pt j = (decide (j < 6) && pr j)) {j : Nat} (hj : j < 6) (hp : pr j = true) {post : Int32 → Prop} (hq : post 1) : wpX_isTask post (pt, op, bW, bM, bY, bV, bS) (nI j) :=
  br_f (nI_pos (by omega)) (br_f (ma_6 hj) (br_f (fun z => absurd ((ma_pt0 h hj).mp z) (by rw [hp]; decide)) hq))
theorem ma_isTask0 (h : ∀ j, j < 32 → bt pt j = (decide (j < 6) && pr j)) {x : Int32} (hx : ¬ ma_tk pr x) {post : Int32 → Prop} (hq : post 0) : wpX_isTask post (pt, op, bW, bM, bY, bV, bS) x := by
  rcases pk_ix x (n := 6) (by decide) with z | z | ⟨j, hj, rfl⟩
  · exact br_t z hq
  · exact br_c (fun _ => hq) (fun _ => br_t z hq)
  · exact br_f (nI_pos (by omega)) (br_f (ma_6 hj) (br_t ((ma_pt0 h hj).mpr (ma_nt fun z => hx ⟨j, hj, rfl, z⟩)) hq))
theorem ma_is1 (h : ∀ j, j < 6 → aT j = if pr j = true then 1 else 0) {j : Nat} (hj : j < 6) (hp : pr j = true) {post : Int32 → Prop} (hq : post 1) : wpY_is post (sh, ct, aT, aF, aG, aM, aY, aW, aR, aN, aO, aK, aB) (nI j) :=
  br_f (nI_pos (by omega)) (br_f (ma_6 hj) ⟨ma_in6 hj, br_f (fun z => absurd ((ma_th0 h hj).mp z) (by rw [hp]; decide)) hq⟩)
theorem ma_is0 (h : ∀ j, j < 6 → aT j = if pr j = true then 1 else 0) {x : Int32} (hx : ¬ ma_tk pr x) {post : Int32 → Prop} (hq : post 0) : wpY_is post (sh, ct, aT, aF, aG, aM, aY, aW, aR, aN, aO, aK, aB) x := by
  rcases pk_ix x (n := 6) (by decide) with z | z | ⟨j, hj, rfl⟩
  · exact br_t z hq
  · exact br_c (fun _ => hq) (fun _ => br_t z hq)
  · exact br_f (nI_pos (by omega)) (br_f (ma_6 hj) ⟨ma_in6 hj, br_t ((ma_th0 h hj).mpr (ma_nt fun z => hx ⟨j, hj, rfl, z⟩)) hq⟩)
theorem ma_n0 {n : Nat} (hn : n < 2 ^ 31) {x : Int32} (h : nI n ≤ x) : ¬ x < 0 := by
  have a : (0 : Int32) ≤ nI n := nI_pos' hn
  exact Int32.not_lt.mpr (Int32.le_trans a h)
/-! a packed number -/
def ma_gd (p : Int32) (m a c : Nat) : Prop := m ≤ 6 ∧ a ≤ 6 ∧ 1 ≤ c ∧ c ≤ 9 ∧ p &&& 7 = nI m ∧ (p >>> ((3 : Int32) &&& 31)) &&& 7 = nI a ∧ p >>> ((6 : Int32) &&& 31) = nI c
theorem ma_gd_of {p : Int32} (h1 : ¬ 6 < p &&& 7) (h2 : ¬ 6 < (p >>> ((3 : Int32) &&& 31)) &&& 7) (h3 : ¬ p >>> ((6 : Int32) &&& 31) < 1) (h4 : ¬ 9 < p >>> ((6 : Int32) &&& 31)) : ∃ m a c, ma_gd p m a c := by
  obtain ⟨m, hm, em⟩ := pk_andE p (m := 7) 3 (by decide)
  obtain ⟨a, ha, ea⟩ := pk_andE (p >>> ((3 : Int32) &&& 31)) (m := 7) 3 (by decide)
  have h0 : ¬ p >>> ((6 : Int32) &&& 31) < 0 := fun z => h3 (Int32.lt_trans z (by decide))
  obtain ⟨c, hc, ec⟩ := nI_of h0
  rw [em] at h1
  rw [ea] at h2
  rw [ec] at h3 h4
  have k1 : ¬ 6 < m := fun z => h1 (nI_lt (a := 6) z (by omega))
  have k2 : ¬ 6 < a := fun z => h2 (nI_lt (a := 6) z (by omega))
  have k3 : ¬ c < 1 := fun z => h3 (nI_lt (b := 1) z (by decide))
  have k4 : ¬ 9 < c := fun z => h4 (nI_lt (a := 9) z (by omega))
  exact ⟨m, a, c, by omega, by omega, by omega, by omega, em, ea, ec⟩
theorem ma_gd_pos {p : Int32} {m a c : Nat} (h : ma_gd p m a c) : ¬ p < 0 := by
  intro z
  obtain ⟨_, _, h1, h2, _, _, e⟩ := h
  have s := pk_shr p ((6 : Int32) &&& 31) 6 (by decide)
  rw [e, nI_toInt (by omega), Int.shiftRight_eq_div_pow] at s
  rw [Int32.lt_iff_toInt_lt, show (0 : Int32).toInt = 0 from by decide] at z
  omega
theorem ma_isPacked1 {p : Int32} {m a c : Nat} (h : ma_gd p m a c) {post : Int32 → Prop} (hq : post 1) : wpX_isPacked post p := by
  obtain ⟨h1, h2, h3, h4, e1, e2, e3⟩ := h
  unfold wpX_isPacked wpX_worthOf wpX_mustOf wpX_mayOf
  dsimp only
  rw [e1, e2, e3]
  exact br_f (nI_nlt (a := 6) h1 (by decide)) (br_f (nI_nlt (a := 6) h2 (by decide)) (br_f (nI_nlt (b := 1) h3 (by omega)) (br_f (nI_nlt (a := 9) h4 (by decide)) hq)))
theorem ma_isPacked0 {p : Int32} (h : ¬ ∃ m a c, ma_gd p m a c) {post : Int32 → Prop} (hq : post 0) : wpX_isPacked post p :=
  br_c (fun _ => hq) (fun q1 => br_c (fun _ => hq) (fun q2 => br_c (fun _ => hq) (fun q3 => br_c (fun _ => hq) (fun q4 => absurd (ma_gd_of q1 q2 q3 q4) h))))
theorem ma_form1 {p : Int32} {m a c : Nat} (h : ma_gd p m a c) {post : Int32 → Prop} (hq : post 1) : wpY_form post (sh, ct, aT, aF, aG, aM, aY, aW, aR, aN, aO, aK, aB) p := by
  have h0 := ma_gd_pos h
  obtain ⟨h1, h2, h3, h4, e1, e2, e3⟩ := h
  refine nm_r e3 (br_f h0 ?_)
  rw [e1, e2]
  exact br_f (nI_nlt (a := 6) h1 (by decide)) (br_f (nI_nlt (a := 6) h2 (by decide)) (br_f (nI_nlt (b := 1) h3 (by omega)) (br_f (nI_nlt (a := 9) h4 (by decide)) hq)))
theorem ma_form0 {p : Int32} (h : ¬ ∃ m a c, ma_gd p m a c) {post : Int32 → Prop} (hq : post 0) : wpY_form post (sh, ct, aT, aF, aG, aM, aY, aW, aR, aN, aO, aK, aB) p :=
  nm_e (br_c (fun _ => hq) (fun _ => br_c (fun _ => hq) (fun q1 => br_c (fun _ => hq) (fun q2 => br_c (fun _ => hq) (fun q3 => br_c (fun _ => hq) (fun q4 => absurd (ma_gd_of q1 q2 q3 q4) h))))))
theorem ma_setParts {j m a c : Nat} {p : Int32} (hj : j < 6) (e1 : p &&& 7 = nI m) (e2 : (p >>> ((3 : Int32) &&& 31)) &&& 7 = nI a) (e3 : p >>> ((6 : Int32) &&& 31) = nI c) {post : SX → Prop} (h : post (pt, op, bW, upd bM j (nI m), upd bY j (nI a), upd bV j (nI c), bS)) : wpX_setParts post (pt, op, bW, bM, bY, bV, bS) (nI j) p := by
  unfold wpX_setParts wpX_mustOf wpX_mayOf wpX_worthOf
  dsimp only
  exact ⟨ma_in6 hj, nm_r (e' := upd bM j (nI m)) (by rw [ma_c6 hj, e1]) ⟨ma_in6 hj, nm_r (e' := upd bY j (nI a)) (by rw [ma_c6 hj, e2]) ⟨ma_in6 hj, nm_r (e' := upd bV j (nI c)) (by rw [ma_c6 hj, e3]) h⟩⟩⟩
theorem ma_hold {j m a c : Nat} {p : Int32} (hj : j < 6) (e1 : p &&& 7 = nI m) (e2 : (p >>> ((3 : Int32) &&& 31)) &&& 7 = nI a) (e3 : p >>> ((6 : Int32) &&& 31) = nI c) {post : SY → Prop} (h : post (sh, ct, aT, aF, aG, upd aM j (nI m), upd aY j (nI a), upd aW j (nI c), aR, aN, aO, aK, aB)) : wpY_hold post (sh, ct, aT, aF, aG, aM, aY, aW, aR, aN, aO, aK, aB) (nI j) p :=
  ⟨ma_in6 hj, nm_r (e' := upd aM j (nI m)) (by rw [ma_c6 hj, e1]) ⟨ma_in6 hj, nm_r (e' := upd aY j (nI a)) (by rw [ma_c6 hj, e2]) ⟨ma_in6 hj, nm_r (e' := upd aW j (nI c)) (by rw [ma_c6 hj, e3]) h⟩⟩⟩
/-! the relation after a task's numbers are set, and after a task is taken -/
theorem ma_P_put {j m a c : Nat} (hP : ma_P pr mu ma wo) (h : m ≤ 6 ∧ a ≤ 6 ∧ 1 ≤ c ∧ c ≤ 9) : ma_P (ma_pb pr j true) (ma_put mu j m) (ma_put ma j a) (ma_put wo j c) := by
  intro i hi
  by_cases e : i = j
  · rw [e, ma_pb_s, ma_put_s, ma_put_s, ma_put_s]
    exact ⟨fun _ => h, fun z => absurd z (by decide)⟩
  · rw [ma_pb_n e, ma_put_n e, ma_put_n e, ma_put_n e]
    exact hP i hi
theorem ma_Yp_put {j m a c : Nat} (hW : ma_Yp pr mu ma wo aM aY aW) : ma_Yp (ma_pb pr j true) (ma_put mu j m) (ma_put ma j a) (ma_put wo j c) (upd aM j (nI m)) (upd aY j (nI a)) (upd aW j (nI c)) := by
  intro i hi hp
  by_cases e : i = j
  · rw [e, ma_put_s, ma_put_s, ma_put_s, pk_us, pk_us, pk_us]
    exact ⟨rfl, rfl, rfl⟩
  · rw [ma_pb_n e] at hp
    rw [ma_put_n e, ma_put_n e, ma_put_n e, pk_un e, pk_un e, pk_un e]
    exact hW i hi hp
theorem ma_nat_put {b : Nat → Int32} {x : Nat → Nat} {j v : Nat} (h : ∀ j, j < 6 → b j = nI (x j)) : ∀ i, i < 6 → upd b j (nI v) i = nI (ma_put x j v i) := by
  intro i hi
  by_cases e : i = j
  · rw [e, pk_us, ma_put_s]
  · rw [pk_un e, ma_put_n e]; exact h i hi
theorem ma_T_put {j : Nat} {b : Bool} (h : ∀ j, j < 6 → aT j = if pr j = true then 1 else 0) : ∀ i, i < 6 → upd aT j (if b = true then 1 else 0) i = if ma_pb pr j b i = true then 1 else 0 := by
  intro i hi
  by_cases e : i = j
  · rw [e, pk_us, ma_pb_s]
  · rw [pk_un e, ma_pb_n e]; exact h i hi
theorem ma_fit_take {x : Nat → Nat} {j : Nat} (h : ma_fit (ma_w pr fr tw) U x) : ma_fit (ma_w (ma_pb pr j false) fr tw) U (ma_put x j 0) := by
  intro S hS
  have hb : ∀ i, (S ^^^ (S &&& 2 ^ j)).testBit i = (S.testBit i && !decide (i = j)) := fun i => by
    rw [Nat.testBit_xor, Nat.testBit_and, Nat.testBit_two_pow]
    by_cases e : i = j
    · rw [decide_eq_true e, decide_eq_true e.symm]
      cases S.testBit i <;> rfl
    · rw [decide_eq_false e, decide_eq_false (fun z => e z.symm)]
      cases S.testBit i <;> rfl
  have hl : S ^^^ (S &&& 2 ^ j) < 64 := Nat.xor_lt_two_pow (n := 6) hS (Nat.lt_of_le_of_lt Nat.and_le_left hS)
  refine Nat.le_trans (Nat.le_trans ?_ (h _ hl)) ?_
  · refine ma_sum_le 6 fun i hi => ?_
    try dsimp only
    rw [hb i]
    by_cases e : i = j
    · rw [e, ma_put_s]
      split
      · exact Nat.zero_le _
      · exact Nat.zero_le _
    · rw [ma_put_n e, decide_eq_false e, Bool.not_false, Bool.and_true]
      exact Nat.le_refl _
  · refine ma_sum_le 24 fun t ht => ?_
    try dsimp only
    have k : ma_hit (ma_w pr fr tw) (S ^^^ (S &&& 2 ^ j)) t = true → ma_hit (ma_w (ma_pb pr j false) fr tw) S t = true := by
      simp only [ma_hit, ma_any_iff, Bool.and_eq_true]
      rintro ⟨i, hi, a, b⟩
      rw [hb i, Bool.and_eq_true] at a
      have e : i ≠ j := fun z => by
        rw [decide_eq_true z] at a
        exact absurd a.2 (by decide)
      refine ⟨i, hi, a.1, ?_⟩
      unfold ma_w at b ⊢
      rw [ma_pb_n e]
      exact b
    revert k
    cases ma_hit (ma_w pr fr tw) (S ^^^ (S &&& 2 ^ j)) t <;> cases ma_hit (ma_w (ma_pb pr j false) fr tw) S t <;> cases U t <;> decide
end
end
section
/-! take, block, change, tasks, blocked, bring -/
section
variable {pt op : Int32} {bW bM bY bV bS : Nat → Int32} {sh ct : Int32} {aT aF aG aM aY aW aR aN aO aK aB : Nat → Int32} {pr : Nat → Bool} {mu ma wo fr tw : Nat → Nat} {U : Nat → Bool}
theorem ma_mu100 (hP : ma_P pr mu ma wo) : ∀ j, j < 6 → mu j ≤ 100 := fun j hj => by
  have := (ma_P6 hP hj).1
  omega
theorem ma_mu0 (hP : ma_P pr mu ma wo) : ∀ j, j < 6 → pr j = false → mu j = 0 := fun j hj h => ((hP j hj).2 h).1
theorem ma_isUnit1 {t : Nat} (ht : t < 24) {post : Int32 → Prop} (hq : post 1) : wpX_isUnit post (nI t) :=
  br_f (nI_pos (by omega)) (br_f (ma_24 ht) hq)
theorem ma_isUnit0 {x : Int32} (h : x < 0 ∨ nI 24 ≤ x) {post : Int32 → Prop} (hq : post 0) : wpX_isUnit post x := by
  rcases h with h | h
  · exact br_t h hq
  · exact br_c (fun _ => hq) (fun _ => br_t h hq)
theorem ma_mustOf {p : Int32} {m : Nat} (e : p &&& 7 = nI m) {post : Int32 → Prop} (h : post (nI m)) : wpX_mustOf post p := by
  unfold wpX_mustOf
  rw [e]
  exact h
theorem ma_sh_on {t : Nat} (ht : t < 24) (h : ∀ t, t < 24 → bt sh t = !U t) : ∀ i, i < 24 → bt (sh ||| ((1 : Int32) <<< (nI t &&& 31))) i = !ma_pb U t false i := by
  intro i hi
  rw [ma_set _ (by omega) (by omega), h i hi]
  by_cases e : i = t
  · rw [e, ma_pb_s, decide_eq_true rfl, Bool.or_true]; rfl
  · rw [ma_pb_n e, decide_eq_false e, Bool.or_false]
theorem ma_sh_off {t : Nat} (ht : t < 24) (h : ∀ t, t < 24 → bt sh t = !U t) : ∀ i, i < 24 → bt (sh &&& (((1 : Int32) <<< (nI t &&& 31)) ^^^ (-1))) i = !ma_pb U t true i := by
  intro i hi
  rw [ma_clr _ (by omega) (by omega), h i hi]
  by_cases e : i = t
  · rw [e, ma_pb_s, decide_eq_true rfl, Bool.not_true, Bool.and_false]
  · rw [ma_pb_n e, decide_eq_false e, Bool.not_false, Bool.and_true]
theorem ma_op_on {t : Nat} (ht : t < 24) (h : ∀ t, t < 24 → bt op t = U t) : ∀ i, i < 24 → bt (op &&& (((1 : Int32) <<< (nI t &&& 31)) ^^^ (-1))) i = ma_pb U t false i := by
  intro i hi
  rw [ma_clr _ (by omega) (by omega), h i hi]
  by_cases e : i = t
  · rw [e, ma_pb_s, decide_eq_true rfl, Bool.not_true, Bool.and_false]
  · rw [ma_pb_n e, decide_eq_false e, Bool.not_false, Bool.and_true]
theorem ma_op_off {t : Nat} (ht : t < 24) (h : ∀ t, t < 24 → bt op t = U t) : ∀ i, i < 24 → bt (op ||| ((1 : Int32) <<< (nI t &&& 31))) i = ma_pb U t true i := by
  intro i hi
  rw [ma_set _ (by omega) (by omega), h i hi]
  by_cases e : i = t
  · rw [e, ma_pb_s, decide_eq_true rfl, Bool.or_true]
  · rw [ma_pb_n e, decide_eq_false e, Bool.or_false]
theorem ma_block43 (hP : ma_P pr mu ma wo) (hY : ma_Yt pr fr tw U sh aT aF aG) (hW : ma_Yp pr mu ma wo aM aY aW) {sh' old : Int32} {U' : Nat → Bool} (hs : ∀ t, t < 24 → bt sh' t = !U' t) {post : Int32 → SY → Prop} {x1 : Int32} (h1 : ∀ aR' aN' : Nat → Int32, ma_fit (ma_w pr fr tw) U' mu → post x1 (sh', ct, aT, aF, aG, aM, aY, aW, aR', aN', aO, aK, aB)) (h2 : ∀ aR' aN' : Nat → Int32, ¬ ma_fit (ma_w pr fr tw) U' mu → post (-3) (old, ct, aT, aF, aG, aM, aY, aW, aR', aN', aO, aK, aB)) : wY_block_43 post x1 old sh' sh ct aT aF aG aM aY aW aR aN aO aK aB := by
  unfold wY_block_43
  exact ma_fits (x := mu) (U := U') ⟨hY.1, hY.2.1, hs⟩ (fun j hj p => (hW j hj p).1) (ma_mu100 hP) (ma_mu0 hP) (fun aR' aN' f => br_f (by decide) (h1 aR' aN' f)) (fun aR' aN' f => br_t rfl (h2 aR' aN' f))
theorem ma_23 {x : Int32} (h : nI 24 ≤ x) : ¬ x ≤ 23 := fun z => absurd (Int32.le_trans h z) (by decide)
theorem ma_le23 {t : Nat} (h : t < 24) : nI t ≤ 23 := nI_le (b := 23) (by omega) (by decide)
end
theorem i_vc_take {k : Nat} {u : SX} {v : SY} (I : i_Rel k u v) (hk : k + 4 ≤ 2048) (v1 : Int32) : wpX_take (fun r u' => wpY_take (fun r' v' => r' = r ∧ i_Rel (k + 4) u' v') v v1) u v1 := by
  obtain ⟨pt, op, bW, bM, bY, bV, bS⟩ := u
  obtain ⟨sh, ct, aT, aF, aG, aM, aY, aW, aR, aN, aO, aK, aB⟩ := v
  obtain ⟨pr, mu, ma, wo, fr, tw, U, hP, hX, hY, hW, hH, hf⟩ := ma_un I
  unfold wpX_take
  dsimp only
  by_cases ht : ma_tk pr v1
  · obtain ⟨j, hj, rfl, hp⟩ := ht
    refine ma_isTask1 hX.1 hj hp (br_f (by decide) (nm_e ⟨ma_in6 hj, nm_r (e' := upd bW j 0) (by rw [ma_c6 hj]) ?_⟩))
    refine ma_setParts (m := 0) (a := 0) (c := 0) hj (by decide) (by decide) (by decide) ?_
    dsimp only
    unfold wpY_take
    dsimp only
    refine ma_is1 hY.1 hj hp (br_f (by decide) ⟨ma_in6 hj, nm_r (e' := upd aT j (if false = true then 1 else 0)) (by rw [ma_c6 hj, ma_vn0]; rfl) ⟨rfl, ?_⟩⟩)
    refine ma_rel (pr := ma_pb pr j false) (mu := ma_put mu j 0) (ma := ma_put ma j 0) (wo := ma_put wo j 0) (fr := fr) (tw := tw) (U := U) (fun i hi => ?_) ⟨fun i hi => ?_, hX.2.1, fun i hi t ht => ?_, ma_nat_put hX.2.2.2.1, ma_nat_put hX.2.2.2.2.1, ma_nat_put hX.2.2.2.2.2⟩ ⟨ma_T_put (b := false) hY.1, fun i hi q => ?_, hY.2.2⟩ (fun i hi q => ?_) hH (ma_fit_take hf)
    · by_cases e : i = j
      · rw [e, ma_pb_s, ma_put_s, ma_put_s, ma_put_s]
        exact ⟨fun z => absurd z (by decide), fun _ => ⟨rfl, rfl, rfl⟩⟩
      · rw [ma_pb_n e, ma_put_n e, ma_put_n e, ma_put_n e]
        exact hP i hi
    · rw [ma_clr _ (by omega) hi, hX.1 i hi]
      by_cases e : i = j
      · rw [e, ma_pb_s, decide_eq_true rfl, Bool.not_true, Bool.and_false, Bool.and_false]
      · rw [ma_pb_n e, decide_eq_false e, Bool.not_false, Bool.and_true]
    · unfold ma_w
      by_cases e : i = j
      · rw [e, pk_us, ma_pb_s, b_0, Bool.false_and]
      · rw [pk_un e, ma_pb_n e]
        exact hX.2.2.1 i hi t ht
    · have e : i ≠ j := fun z => by
        rw [z, ma_pb_s] at q
        exact absurd q (by decide)
      rw [ma_pb_n e] at q
      exact hY.2.1 i hi q
    · have e : i ≠ j := fun z => by
        rw [z, ma_pb_s] at q
        exact absurd q (by decide)
      rw [ma_pb_n e] at q
      rw [ma_put_n e, ma_put_n e, ma_put_n e]
      exact hW i hi q
  · refine ma_isTask0 hX.1 ht (br_t rfl ?_)
    unfold wpY_take
    dsimp only
    exact ma_is0 hY.1 ht (br_t rfl ⟨rfl, i_up I⟩)
theorem i_vc_block {k : Nat} {u : SX} {v : SY} (I : i_Rel k u v) (hk : k + 4 ≤ 2048) (v1 : Int32) (v2 : Int32) : wpX_block (fun r u' => wpY_block (fun r' v' => r' = r ∧ i_Rel (k + 4) u' v') v v1 (lw_bz v2)) u v1 (lw_bz v2) := by
  obtain ⟨pt, op, bW, bM, bY, bV, bS⟩ := u
  obtain ⟨sh, ct, aT, aF, aG, aM, aY, aW, aR, aN, aO, aK, aB⟩ := v
  obtain ⟨pr, mu, ma, wo, fr, tw, U, hP, hX, hY, hW, hH, hf⟩ := ma_un I
  unfold wpX_block
  dsimp only
  rcases pk_ix v1 (n := 24) (by decide) with z | z | ⟨t, ht, rfl⟩
  · exact ma_isUnit0 (Or.inl z) (br_t rfl (br_t z ⟨rfl, i_up I⟩))
  · exact ma_isUnit0 (Or.inr z) (br_t rfl (br_f (ma_n0 (by decide) z) (br_f (ma_23 z) ⟨rfl, i_up I⟩)))
  · refine ma_isUnit1 ht (br_f (by decide) ?_)
    rcases lw_bz_01 v2 with e | e
    · rw [e]
      refine br_t rfl (nm_e (br_f (nI_pos (by omega)) (br_t (ma_le23 ht) (br_t rfl ?_))))
      refine ma_block43 hP hY hW (ma_sh_off ht hY.2.2) (fun aR' aN' f => ⟨rfl, ?_⟩) (fun aR' aN' f => absurd (ma_fit_U (fun _ _ _ _ h => h) (fun i _ h => ?_) hf) f)
      · refine ma_rel (U := ma_pb U t true) hP ⟨hX.1, ma_op_off ht hX.2.1, hX.2.2⟩ ⟨hY.1, hY.2.1, ma_sh_off ht hY.2.2⟩ hW (fun i h1 h2 => ?_) f
        rw [ma_clr _ (by omega) h2, hH i h1 h2, Bool.false_and]
      · by_cases c : i = t
        · rw [c, ma_pb_s]
        · rw [ma_pb_n c]; exact h
    · rw [e]
      refine br_f (by decide) (nm_e (ma_shareMusts (fun bS' e => ma_sharesFit (w := ma_w pr fr tw) (V := ma_pb U t false) (x := mu) hX.2.2.1 (ma_op_on ht hX.2.1) (fun j hj => (e j hj).trans (hX.2.2.2.1 j hj)) (ma_mu100 hP) (fun f => br_f (by decide) ?_) (fun f => br_t rfl ?_))))
      · refine br_f (nI_pos (by omega)) (br_t (ma_le23 ht) (br_f (by decide) ?_))
        refine ma_block43 hP hY hW (ma_sh_on ht hY.2.2) (fun aR' aN' _ => ⟨rfl, ?_⟩) (fun aR' aN' f' => absurd f f')
        refine ma_rel (U := ma_pb U t false) hP ⟨hX.1, ma_op_on ht hX.2.1, hX.2.2⟩ ⟨hY.1, hY.2.1, ma_sh_on ht hY.2.2⟩ hW (fun i h1 h2 => ?_) f
        rw [ma_set _ (by omega) h2, hH i h1 h2, Bool.false_or, decide_eq_false (by omega)]
      · refine br_f (nI_pos (by omega)) (br_t (ma_le23 ht) (br_f (by decide) ?_))
        exact ma_block43 hP hY hW (ma_sh_on ht hY.2.2) (fun aR' aN' f' => absurd f' f) (fun aR' aN' _ => ⟨rfl, ma_rel hP hX hY hW hH hf⟩)
theorem i_vc_change {k : Nat} {u : SX} {v : SY} (I : i_Rel k u v) (hk : k + 4 ≤ 2048) (v1 : Int32) (v2 : Int32) : wpX_change (fun r u' => wpY_change (fun r' v' => r' = r ∧ i_Rel (k + 4) u' v') v v1 v2) u v1 v2 := by
  obtain ⟨pt, op, bW, bM, bY, bV, bS⟩ := u
  obtain ⟨sh, ct, aT, aF, aG, aM, aY, aW, aR, aN, aO, aK, aB⟩ := v
  obtain ⟨pr, mu, ma, wo, fr, tw, U, hP, hX, hY, hW, hH, hf⟩ := ma_un I
  unfold wpX_change
  dsimp only
  by_cases ht : ma_tk pr v1
  · obtain ⟨j, hj, rfl, hp⟩ := ht
    refine ma_isTask1 hX.1 hj hp (br_f (by decide) ?_)
    by_cases hg : ∃ m a c, ma_gd v2 m a c
    · obtain ⟨m, a, c, g⟩ := hg
      have g' := g
      obtain ⟨h1, h2, h3, h4, e1, e2, e3⟩ := g'
      have epr : ma_pb pr j true = pr := funext fun i => by
        by_cases e : i = j
        · rw [e, ma_pb_s, hp]
        · rw [ma_pb_n e]
      have hP' := ma_P_put (j := j) hP ⟨h1, h2, h3, h4⟩
      have hW' := ma_Yp_put (j := j) (m := m) (a := a) (c := c) hW
      rw [epr] at hP' hW'
      have q := hW j hj hp
      have b := ma_P6 hP hj
      have eo : aM (nI j).toNatClampNeg + 8 * aY (nI j).toNatClampNeg + 64 * aW (nI j).toNatClampNeg = nI (mu j + 8 * ma j + 64 * wo j) := by
        rw [ma_c6 hj, q.1, q.2.1, q.2.2]
        show nI (mu j) + nI 8 * nI (ma j) + nI 64 * nI (wo j) = _
        rw [pk_mul, pk_mul, nI_add, nI_add]
      have o1 : nI (mu j + 8 * ma j + 64 * wo j) &&& 7 = nI (mu j) := by
        rw [pk_andN (by omega) (m := 7) 3 (by decide)]
        exact congrArg nI (by omega)
      have o2 : (nI (mu j + 8 * ma j + 64 * wo j) >>> ((3 : Int32) &&& 31)) &&& 7 = nI (ma j) := by
        rw [pk_shrN (by omega) _ 3 (by decide), pk_andN (by omega) (m := 7) 3 (by decide)]
        exact congrArg nI (by omega)
      have o3 : nI (mu j + 8 * ma j + 64 * wo j) >>> ((6 : Int32) &&& 31) = nI (wo j) := by
        rw [pk_shrN (by omega) _ 6 (by decide)]
        exact congrArg nI (by omega)
      refine ma_isPacked1 g (br_f (by decide) (ma_mustOf e1 (ma_fitsWith hX.2.2.1 hX.2.1 hX.2.2.2.1 (fun i hi => (ma_P6 hP hi).1) hj (by omega) (fun bS' f => br_f (by decide) (ma_setParts hj e1 e2 e3 ?_)) (fun bS' f => br_t rfl ?_))))
      · dsimp only
        unfold wpY_change
        dsimp only
        refine ma_is1 hY.1 hj hp (br_f (by decide) (ma_form1 g (br_f (by decide) ⟨ma_in6 hj, ma_in6 hj, ma_in6 hj, nm_r eo (ma_hold hj e1 e2 e3 ?_)⟩)))
        exact ma_fits (x := ma_put mu j m) hY (fun i hi p => (hW' i hi p).1) (ma_mu100 hP') (ma_mu0 hP') (fun aR' aN' _ => br_f (by decide) ⟨rfl, ma_rel hP' ⟨hX.1, hX.2.1, hX.2.2.1, ma_nat_put hX.2.2.2.1, ma_nat_put hX.2.2.2.2.1, ma_nat_put hX.2.2.2.2.2⟩ hY hW' hH f⟩) (fun aR' aN' f' => absurd f f')
      · dsimp only
        unfold wpY_change
        dsimp only
        refine ma_is1 hY.1 hj hp (br_f (by decide) (ma_form1 g (br_f (by decide) ⟨ma_in6 hj, ma_in6 hj, ma_in6 hj, nm_r eo (ma_hold hj e1 e2 e3 ?_)⟩)))
        have hW2 : ma_Yp pr mu ma wo (upd (upd aM j (nI m)) j (nI (mu j))) (upd (upd aY j (nI a)) j (nI (ma j))) (upd (upd aW j (nI c)) j (nI (wo j))) := fun i hi p => by
          by_cases e : i = j
          · rw [e, pk_us, pk_us, pk_us]
            exact ⟨rfl, rfl, rfl⟩
          · rw [pk_un e, pk_un e, pk_un e, pk_un e, pk_un e, pk_un e]
            exact hW i hi p
        exact ma_fits (x := ma_put mu j m) hY (fun i hi p => (hW' i hi p).1) (ma_mu100 hP') (ma_mu0 hP') (fun aR' aN' f' => absurd f' f) (fun aR' aN' _ => br_t rfl (ma_hold hj o1 o2 o3 ⟨rfl, ma_rel hP hX hY hW2 hH hf⟩))
    · refine ma_isPacked0 hg (br_t rfl ?_)
      unfold wpY_change
      dsimp only
      exact ma_is1 hY.1 hj hp (br_f (by decide) (ma_form0 hg (br_t rfl ⟨rfl, i_up I⟩)))
  · refine ma_isTask0 hX.1 ht (br_t rfl ?_)
    unfold wpY_change
    dsimp only
    exact ma_is0 hY.1 ht (br_t rfl ⟨rfl, i_up I⟩)
theorem i_vc_tasks {k : Nat} {u : SX} {v : SY} (I : i_Rel k u v) (hk : k + 4 ≤ 2048) : wpX_tasks (fun r => wpY_tasks (fun r' => r' = r ∧ i_Rel (k + 4) u v) v) u := by
  obtain ⟨pt, op, bW, bM, bY, bV, bS⟩ := u
  obtain ⟨sh, ct, aT, aF, aG, aM, aY, aW, aR, aN, aO, aK, aB⟩ := v
  obtain ⟨pr, mu, ma, wo, fr, tw, U, hP, hX, hY, hW, hH, hf⟩ := ma_un I
  unfold wpX_tasks wpY_tasks
  dsimp only
  refine loop_0 (fun n i s => wY_tasks_4 (fun r' => r' = pt ∧ i_Rel (k + 4) (pt, op, bW, bM, bY, bV, bS) (sh, ct, aT, aF, aG, aM, aY, aW, aR, aN, aO, aK, aB)) sh ct aT aF aG aM aY aW aR aN aO aK aB n s (nI i)) (fun i s => ∀ b, b < 32 → bt s b = (decide (b < i) && pr b)) 6 0 (fun b _ => ?_) ?_ ?_
  · rw [b_0, decide_eq_false (Nat.not_lt_zero _), Bool.false_and]
  · intro n s e
    exact br_t ma_y6 ⟨b_ext fun b hb => (e b hb).trans (hX.1 b hb).symm, i_up I⟩
  · intro n i s hi e ih
    refine br_f (ma_6 hi) ⟨ma_in6 hi, br_c (fun q => nm_e (nm_r (nI_1 i) (ih _ fun b hb => ?_))) (fun q => nm_e (nm_r (nI_1 i) (ih _ fun b hb => ?_)))⟩
    · have p := (ma_th0 hY.1 hi).mp q
      rw [b_or, b_0, Bool.or_false, e b hb]
      by_cases c : b = i
      · rw [c, p, Bool.and_false, Bool.and_false]
      · rw [show decide (b < i + 1) = decide (b < i) from decide_eq_decide.mpr (by omega)]
    · have p : pr i = true := ma_nf fun z => q ((ma_th0 hY.1 hi).mpr z)
      rw [ma_set _ (by omega) hb, e b hb]
      by_cases c : b = i
      · rw [c, p, decide_eq_true rfl, Bool.or_true, decide_eq_true (Nat.lt_succ_self i)]
        rfl
      · rw [decide_eq_false c, Bool.or_false, show decide (b < i + 1) = decide (b < i) from decide_eq_decide.mpr (by omega)]
theorem i_vc_blocked {k : Nat} {u : SX} {v : SY} (I : i_Rel k u v) (hk : k + 4 ≤ 2048) : wpX_blocked (fun r => wpY_blocked (fun r' => r' = r ∧ i_Rel (k + 4) u v) v) u := by
  obtain ⟨pt, op, bW, bM, bY, bV, bS⟩ := u
  obtain ⟨sh, ct, aT, aF, aG, aM, aY, aW, aR, aN, aO, aK, aB⟩ := v
  obtain ⟨pr, mu, ma, wo, fr, tw, U, hP, hX, hY, hW, hH, hf⟩ := ma_un I
  unfold wpX_blocked wpY_blocked
  dsimp only
  refine ⟨b_ext fun i hi => ?_, i_up I⟩
  rw [ma_not op hi]
  by_cases c : i < 24
  · rw [decide_eq_true c, Bool.true_and, hX.2.1 i c, hY.2.2 i c]
  · rw [decide_eq_false c, Bool.false_and, hH i (by omega) hi]
theorem ma_least (pr : Nat → Bool) : (∀ j, j < 6 → pr j = true) ∨ ∃ j, j < 6 ∧ pr j = false ∧ ∀ i, i < j → pr i = true := by
  have h : ∀ n, (∀ j, j < n → pr j = true) ∨ ∃ j, j < n ∧ pr j = false ∧ ∀ i, i < j → pr i = true := by
    intro n
    induction n with
    | zero => exact Or.inl fun j hj => absurd hj (Nat.not_lt_zero _)
    | succ n ih =>
      rcases ih with ih | ⟨j, hj, a, b⟩
      · by_cases hp : pr n = true
        · refine Or.inl fun j hj => ?_
          by_cases c : j = n
          · rw [c, hp]
          · exact ih j (by omega)
        · exact Or.inr ⟨n, Nat.lt_succ_self n, ma_nt hp, ih⟩
      · exact Or.inr ⟨j, by omega, a, b⟩
  exact h 6
end
section
/-! bring -/
section
variable {pt op : Int32} {bW bM bY bV bS : Nat → Int32} {sh ct : Int32} {aT aF aG aM aY aW aR aN aO aK aB : Nat → Int32} {pr : Nat → Bool} {mu ma wo fr tw : Nat → Nat} {U : Nat → Bool}
theorem ma_lfn1 (h : ∀ j, j < 32 → bt pt j = (decide (j < 6) && pr j)) {j : Nat} (hj : j < 6) (hp : pr j = false) (hl : ∀ i, i < j → pr i = true) {post : Int32 → Prop} (hq : post (nI j)) : wpX_leastFreeNumber post (pt, op, bW, bM, bY, bV, bS) :=
  loop_0 (fun n i (_ : Unit) => wX_leastFreeNumber_2 post pt op bW bM bY bV bS n (nI i)) (fun _ _ => True) j () trivial (fun n _ _ => br_f (ma_6 hj) (br_t ((ma_pt0 h hj).mpr hp) hq)) (fun n i _ hi _ ih => br_f (ma_6 (by omega)) (br_f (fun z => by
    have a := (ma_pt0 h (j := i) (by omega)).mp z
    rw [hl i hi] at a
    exact absurd a (by decide)) (nm_r (nI_1 i) (ih () trivial))))
theorem ma_lfn0 (h : ∀ j, j < 32 → bt pt j = (decide (j < 6) && pr j)) (hl : ∀ i, i < 6 → pr i = true) {post : Int32 → Prop} (hq : post (-1)) : wpX_leastFreeNumber post (pt, op, bW, bM, bY, bV, bS) :=
  loop_0 (fun n i (_ : Unit) => wX_leastFreeNumber_2 post pt op bW bM bY bV bS n (nI i)) (fun _ _ => True) 6 () trivial (fun n _ _ => br_t ma_y6 hq) (fun n i _ hi _ ih => br_f (ma_6 hi) (br_f (fun z => by
    have a := (ma_pt0 h hi).mp z
    rw [hl i hi] at a
    exact absurd a (by decide)) (nm_r (nI_1 i) (ih () trivial))))
theorem ma_br28 (h : ∀ j, j < 6 → aT j = if pr j = true then 1 else 0) {j : Nat} (hj : j ≤ 6) (hl : ∀ i, i < j → pr i = true) {x1 x2 x3 : Int32} {post : Int32 → SY → Prop} (hq : ∀ n, wY_bring_28 post x1 x2 x3 sh ct aT aF aG aM aY aW aR aN aO aK aB (n + 1) (nI j)) : ∃ n, wY_bring_28 post x1 x2 x3 sh ct aT aF aG aM aY aW aR aN aO aK aB n 0 :=
  loop_0 (fun n i (_ : Unit) => wY_bring_28 post x1 x2 x3 sh ct aT aF aG aM aY aW aR aN aO aK aB n (nI i)) (fun _ _ => True) j () trivial (fun n _ _ => hq n) (fun n i _ hi _ ih => br_f (ma_6 (by omega)) ⟨ma_in6 (by omega), br_f (fun z => by
    have a := (ma_th0 h (j := i) (by omega)).mp z
    rw [hl i hi] at a
    exact absurd a (by decide)) (nm_r (nI_1 i) (ih () trivial))⟩)
theorem ma_Yp_off {j : Nat} {x y z : Int32} (hp : pr j = false) (hW : ma_Yp pr mu ma wo aM aY aW) : ma_Yp pr mu ma wo (upd aM j x) (upd aY j y) (upd aW j z) := by
  intro i hi q
  have e : i ≠ j := fun z => by
    rw [z, hp] at q
    exact absurd q (by decide)
  rw [pk_un e, pk_un e, pk_un e]
  exact hW i hi q
theorem ma_T2 {j : Nat} {b c : Bool} {p : Nat → Bool} (h : ∀ j, j < 6 → aT j = if pr j = true then 1 else 0) (hb : p j = b) (hn : ∀ i, i < 6 → i ≠ j → p i = pr i) : ∀ i, i < 6 → upd (upd aT j (if c = true then 1 else 0)) j (if b = true then 1 else 0) i = if p i = true then 1 else 0 := by
  intro i hi
  by_cases e : i = j
  · rw [e, pk_us, hb]
  · rw [pk_un e, pk_un e, hn i hi e]; exact h i hi
end
theorem i_vc_bring {k : Nat} {u : SX} {v : SY} (I : i_Rel k u v) (hk : k + 4 ≤ 2048) (v1 : Int32) (v2 : Int32) (v3 : Int32) : wpX_bring (fun r u' => wpY_bring (fun r' v' => r' = r ∧ i_Rel (k + 4) u' v') v v1 v2 v3) u v1 v2 v3 := by
  obtain ⟨pt, op, bW, bM, bY, bV, bS⟩ := u
  obtain ⟨sh, ct, aT, aF, aG, aM, aY, aW, aR, aN, aO, aK, aB⟩ := v
  obtain ⟨pr, mu, ma, wo, fr, tw, U, hP, hX, hY, hW, hH, hf⟩ := ma_un I
  unfold wpX_bring
  dsimp only
  by_cases h1 : v1 < 0
  · exact br_t h1 (br_t rfl (br_t h1 ⟨rfl, i_up I⟩))
  by_cases h2 : v2 ≤ v1
  · exact br_f h1 (br_t h2 (br_t rfl (br_f h1 (br_t h2 ⟨rfl, i_up I⟩))))
  by_cases h3 : 24 < v2
  · exact br_f h1 (br_f h2 (br_t h3 (br_t rfl (br_f h1 (br_f h2 (br_t h3 ⟨rfl, i_up I⟩))))))
  refine br_f h1 (br_f h2 (br_f h3 (br_f (by decide) ?_)))
  by_cases hg : ∃ m a c, ma_gd v3 m a c
  case neg => exact ma_isPacked0 hg (br_t rfl (br_f h1 (br_f h2 (br_f h3 (ma_form0 hg (br_t rfl ⟨rfl, i_up I⟩))))))
  obtain ⟨m, a, c, g⟩ := hg
  refine ma_isPacked1 g (br_f (by decide) ?_)
  rcases ma_least pr with hl | ⟨j, hj, hp, hl⟩
  · refine ma_lfn0 hX.1 hl (br_t rfl (br_f h1 (br_f h2 (br_f h3 (ma_form1 g (br_f (by decide) (ma_br28 hY.1 (j := 6) (by decide) hl fun n => br_t ma_y6 ⟨rfl, i_up I⟩)))))))
  obtain ⟨r, hr, e⟩ := nI_of h1
  have h0 : ¬ v2 < 0 := fun z => h2 (Int32.le_of_lt (Int32.lt_of_lt_of_le z (Int32.not_lt.mp h1)))
  obtain ⟨d, hd, e'⟩ := nI_of h0
  subst e e'
  have hrd : r < d := Nat.lt_of_not_le fun z => h2 (nI_le z hr)
  have hd24 : d < 25 := Nat.lt_of_not_le fun z => h3 (nI_lt (a := 24) z hd)
  have g' := g
  obtain ⟨g1, g2, g3, g4, e1, e2, e3⟩ := g'
  have hj1 : ¬ nI j = -1 := fun z => nI_pos (n := j) (by omega) (by rw [z]; decide)
  have hw' : ∀ i, i < 6 → ∀ t, t < 24 → bt (upd bW j (((1 : Int32) <<< (nI d &&& 31)) - ((1 : Int32) <<< (nI r &&& 31))) i) t = ma_w (ma_pb pr j true) (ma_put fr j r) (ma_put tw j d) i t := fun i hi t ht => by
    unfold ma_w
    by_cases e : i = j
    · rw [e, pk_us, ma_pb_s, ma_put_s, ma_put_s, Bool.true_and]
      exact ma_span d hd24 r hrd t ht
    · rw [pk_un e, ma_pb_n e, ma_put_n e, ma_put_n e]
      exact hX.2.2.1 i hi t ht
  have hP' := ma_P_put (j := j) hP ⟨g1, g2, g3, g4⟩
  have hW' := ma_Yp_put (j := j) (m := m) (a := a) (c := c) hW
  have hY2 : ∀ i, i < 6 → ma_pb pr j true i = true → upd aF j (nI r) i = nI (ma_put fr j r i) ∧ upd aG j (nI d) i = nI (ma_put tw j d i) ∧ ma_put fr j r i ≤ 24 ∧ ma_put tw j d i ≤ 24 := fun i hi q => by
    by_cases e : i = j
    · rw [e, pk_us, pk_us, ma_put_s, ma_put_s]
      exact ⟨rfl, rfl, by omega, by omega⟩
    · rw [ma_pb_n e] at q
      rw [pk_un e, pk_un e, ma_put_n e, ma_put_n e]
      exact hY.2.1 i hi q
  have hY' : ma_Yt (ma_pb pr j true) (ma_put fr j r) (ma_put tw j d) U sh (upd aT j (if true = true then 1 else 0)) (upd aF j (nI r)) (upd aG j (nI d)) := ⟨ma_T_put (b := true) hY.1, hY2, hY.2.2⟩
  have hT1 : ∀ i, i < 6 → upd (upd aT j (if true = true then 1 else 0)) j (if true = true then 1 else 0) i = if ma_pb pr j true i = true then 1 else 0 := ma_T2 (b := true) (c := true) hY.1 ma_pb_s (fun i _ e => ma_pb_n e)
  have hT0 : ∀ i, i < 6 → upd (upd aT j (if true = true then 1 else 0)) j (if false = true then 1 else 0) i = if pr i = true then 1 else 0 := ma_T2 (b := false) (c := true) hY.1 hp (fun i _ e => rfl)
  have hY0 : ma_Yt pr fr tw U sh (upd (upd aT j (if true = true then 1 else 0)) j (if false = true then 1 else 0)) (upd aF j (nI r)) (upd aG j (nI d)) := ⟨hT0, fun i hi q => by
    have e : i ≠ j := fun z => by
      rw [z, hp] at q
      exact absurd q (by decide)
    rw [pk_un e, pk_un e]
    exact hY.2.1 i hi q, hY.2.2⟩
  refine ma_lfn1 hX.1 hj hp hl (br_f hj1 (ma_mustOf e1 ⟨ma_in6 hj, nm_r (e' := upd bW j (((1 : Int32) <<< (nI d &&& 31)) - ((1 : Int32) <<< (nI r &&& 31)))) (by rw [ma_c6 hj]) ?_⟩))
  refine ma_fitsWith (w := ma_w (ma_pb pr j true) (ma_put fr j r) (ma_put tw j d)) (V := U) (mu := mu) hw' hX.2.1 hX.2.2.2.1 (fun i hi => (ma_P6 hP hi).1) hj (by omega) (fun bS' f => br_f (by decide) (ma_setParts hj e1 e2 e3 (nm_e ?_))) (fun bS' f => br_t rfl ⟨ma_in6 hj, nm_r (e' := upd (upd bW j (((1 : Int32) <<< (nI d &&& 31)) - ((1 : Int32) <<< (nI r &&& 31)))) j 0) (by rw [ma_c6 hj]) ?_⟩)
  · refine br_f h1 (br_f h2 (br_f h3 (ma_form1 g (br_f (by decide) (ma_br28 hY.1 (Nat.le_of_lt hj) hl fun n => br_f (ma_6 hj) ⟨ma_in6 hj, br_t ((ma_th0 hY.1 hj).mpr hp) ⟨ma_in6 hj, nm_r (e' := upd aT j (if true = true then 1 else 0)) (by rw [ma_c6 hj, ma_vn1]; rfl) ⟨ma_in6 hj, nm_r (e' := upd aF j (nI r)) (by rw [ma_c6 hj]) ⟨ma_in6 hj, nm_r (e' := upd aG j (nI d)) (by rw [ma_c6 hj]) (ma_hold hj e1 e2 e3 ?_)⟩⟩⟩⟩)))))
    refine ma_fits (x := ma_put mu j m) hY' (fun i hi p => (hW' i hi p).1) (ma_mu100 hP') (ma_mu0 hP') (fun aR' aN' _ => ⟨ma_in6 hj, nm_r (e' := upd (upd aT j (if true = true then 1 else 0)) j (if true = true then 1 else 0)) (by rw [ma_c6 hj, ma_vn1]; rfl) ⟨ma_in6 hj, br_f (by rw [ma_c6 hj, pk_us]; decide) ⟨rfl, ?_⟩⟩⟩) (fun aR' aN' f' => absurd f f')
    refine ma_rel hP' ⟨fun i hi => ?_, hX.2.1, hw', ma_nat_put hX.2.2.2.1, ma_nat_put hX.2.2.2.2.1, ma_nat_put hX.2.2.2.2.2⟩ ⟨hT1, hY2, hY.2.2⟩ hW' hH f
    rw [ma_set _ (by omega) hi, hX.1 i hi]
    by_cases e : i = j
    · rw [e, ma_pb_s, decide_eq_true rfl, Bool.or_true, decide_eq_true hj]
      rfl
    · rw [ma_pb_n e, decide_eq_false e, Bool.or_false]
  · refine br_f h1 (br_f h2 (br_f h3 (ma_form1 g (br_f (by decide) (ma_br28 hY.1 (Nat.le_of_lt hj) hl fun n => br_f (ma_6 hj) ⟨ma_in6 hj, br_t ((ma_th0 hY.1 hj).mpr hp) ⟨ma_in6 hj, nm_r (e' := upd aT j (if true = true then 1 else 0)) (by rw [ma_c6 hj, ma_vn1]; rfl) ⟨ma_in6 hj, nm_r (e' := upd aF j (nI r)) (by rw [ma_c6 hj]) ⟨ma_in6 hj, nm_r (e' := upd aG j (nI d)) (by rw [ma_c6 hj]) (ma_hold hj e1 e2 e3 ?_)⟩⟩⟩⟩)))))
    refine ma_fits (x := ma_put mu j m) hY' (fun i hi p => (hW' i hi p).1) (ma_mu100 hP') (ma_mu0 hP') (fun aR' aN' f' => absurd f' f) (fun aR' aN' _ => ⟨ma_in6 hj, nm_r (e' := upd (upd aT j (if true = true then 1 else 0)) j (if false = true then 1 else 0)) (by rw [ma_c6 hj, ma_vn0]; rfl) ⟨ma_in6 hj, br_t (by rw [ma_c6 hj, pk_us]; rfl) ⟨rfl, ?_⟩⟩⟩)
    refine ma_rel hP ⟨hX.1, hX.2.1, fun i hi t ht => ?_, hX.2.2.2⟩ hY0 (ma_Yp_off hp hW) hH hf
    by_cases e : i = j
    · unfold ma_w
      rw [e, pk_us, hp, b_0, Bool.false_and]
    · rw [pk_un e, pk_un e]
      exact hX.2.2.1 i hi t ht
end
section
/-! loss, kept, idle, lossWithout, greatestMust -/
theorem ma_put_id {x : Nat → Nat} {j : Nat} (i : Nat) : ma_put x j (x j) i = x i := by
  by_cases e : i = j
  · rw [e, ma_put_s]
  · rw [ma_put_n e]
theorem ma_put_le {x : Nat → Nat} {j v v' : Nat} (h : v ≤ v') : ∀ i, i < 6 → ma_put x j v i ≤ ma_put x j v' i := fun i _ => by
  by_cases e : i = j
  · rw [e, ma_put_s, ma_put_s]; exact h
  · rw [ma_put_n e, ma_put_n e]; exact Nat.le_refl _
theorem ma_max {w : Nat → Nat → Bool} {V : Nat → Bool} {x : Nat → Nat} {j : Nat} (hf : ma_fit w V x) : ∀ a, ∃ v, x j ≤ v ∧ v ≤ x j + a ∧ ma_fit w V (ma_put x j v) ∧ (v = x j + a ∨ ¬ ma_fit w V (ma_put x j (v + 1))) := by
  intro a
  induction a with
  | zero => exact ⟨x j, Nat.le_refl _, Nat.le_refl _, ma_fit_eq (fun i _ => ma_put_id i) hf, Or.inl rfl⟩
  | succ a ih =>
    obtain ⟨v, h1, h2, h3, h4⟩ := ih
    by_cases q : ma_fit w V (ma_put x j (v + 1))
    · rcases h4 with h4 | h4
      · exact ⟨v + 1, by omega, by omega, q, Or.inl (by omega)⟩
      · exact absurd q h4
    · exact ⟨v, h1, by omega, h3, Or.inr q⟩
theorem ma_Gex {w : Nat → Nat → Bool} {V : Nat → Bool} {pr : Nat → Bool} {mu ma wo : Nat → Nat} (hf : ma_fit w V mu) : ∀ e, ∃ x, ma_G w V mu ma pr wo e x := by
  intro e
  induction e with
  | zero => exact ⟨mu, ma_G_0 hf⟩
  | succ e ih =>
    obtain ⟨x, h⟩ := ih
    rcases ma_no (pr := pr) (wo := wo) e with ⟨j, hj, hp, he⟩ | q
    · have hxj : x j = mu j := h.1.2.2.1 j hj (ma_D_at (by omega))
      obtain ⟨v, h1, h2, h3, h4⟩ := ma_max (j := j) h.1.1 (ma j)
      rw [hxj] at h1 h2 h4
      exact ⟨_, ma_G_grow h hj hp he h1 h2 h3 h4⟩
    · exact ⟨x, ma_G_skip h q⟩
theorem ma_ss (c p q : Int32) : c - p - q = c - (p + q) := by grind
section
variable {pt op : Int32} {bW bM bY bV bS : Nat → Int32} {sh ct : Int32} {aT aF aG aM aY aW aR aN aO aK aB : Nat → Int32} {pr : Nat → Bool} {mu ma wo fr tw x kg : Nat → Nat} {U : Nat → Bool}
theorem ma_xidle {c : Int32} (hS : ∀ j, j < 6 → bS j = nI (x j)) {post : Int32 → SX → Prop} (h : post (c - nI (ma_sum x 6)) (pt, op, bW, bM, bY, bV, bS)) : ∃ n, wX_idle_18 post pt op bW bM bY bV bS n c 0 := by
  refine loop_0 (fun n i s => wX_idle_18 post pt op bW bM bY bV bS n s (nI i)) (fun i s => s = c - nI (ma_sum x i)) 6 c (Int32.sub_zero c).symm ?_ ?_
  · intro n s e
    subst e
    exact br_t ma_y6 h
  · intro n i s hi e ih
    subst e
    exact br_f (ma_6 hi) ⟨ma_in6 hi, nm_e (nm_r (nI_1 i) (ih _ (by rw [ma_c6 hi, hS i hi, ma_ss, nI_add, ma_sum_s])))⟩
theorem ma_yidle (hT : ∀ j, j < 6 → aT j = if pr j = true then 1 else 0) (hs : ∀ t, t < 24 → bt sh t = !U t) (hW : ma_Yp pr mu ma wo aM aY aW) (hB : ∀ j, j < 6 → pr j = true → aB j = nI (kg j)) {post : Int32 → SY → Prop} (h : post (nI (ma_sum (fun t => if U t = true then 1 else 0) 24) - nI (ma_sum (fun j => if pr j = true then mu j + kg j else 0) 6)) (sh, ct, aT, aF, aG, aM, aY, aW, aR, aN, aO, aK, aB)) : ∃ n, wY_idle_9 post sh ct aT aF aG aM aY aW aR aN aO aK aB n 0 0 := by
  refine loop_0 (fun n i s => wY_idle_9 post sh ct aT aF aG aM aY aW aR aN aO aK aB n s (nI i)) (fun i s => s = nI (ma_sum (fun t => if U t = true then 1 else 0) i)) 24 0 rfl ?_ ?_
  · intro n c e
    subst e
    refine br_t ma_y24 ?_
    refine loop_0 (fun n i s => wY_idle_42 post sh ct aT aF aG aM aY aW aR aN aO aK aB n s (nI i)) (fun i s => s = nI (ma_sum (fun t => if U t = true then 1 else 0) 24) - nI (ma_sum (fun j => if pr j = true then mu j + kg j else 0) i)) 6 _ (Int32.sub_zero _).symm ?_ ?_
    · intro n s e
      subst e
      exact br_t ma_y6 h
    · intro n i s hi e ih
      subst e
      refine br_f (ma_6 hi) ⟨ma_in6 hi, br_c (fun q => nm_r (Int32.sub_zero _) (nm_r (nI_1 i) (ih _ ?_))) (fun q => ⟨ma_in6 hi, ma_in6 hi, nm_e (nm_r (nI_1 i) (ih _ ?_))⟩)⟩
      · rw [ma_sum_s (fun j => if pr j = true then mu j + kg j else 0) i, (ma_th0 hT hi).mp q, if_neg Bool.false_ne_true, Nat.add_zero]
      · have p : pr i = true := ma_nf fun z => q ((ma_th0 hT hi).mpr z)
        rw [ma_sum_s (fun j => if pr j = true then mu j + kg j else 0) i, if_pos p, ma_c6 hi, (hW i hi p).1, hB i hi p, nI_add, ma_ss, nI_add]
  · intro n i s hi e ih
    subst e
    have b := ma_bit0 sh (j := i) (by omega)
    rw [hs i hi] at b
    refine br_f (ma_24 hi) (br_c (fun q => nm_r (nI_1 _) (nm_r (nI_1 i) (ih _ ?_))) (fun q => nm_r (Int32.add_zero _) (nm_r (nI_1 i) (ih _ ?_))))
    · have a := b.mp q
      have a' : U i = true := by
        revert a
        cases U i <;> decide
      rw [ma_sum_s, a', if_pos rfl]
    · have a := mt b.mpr q
      have a' : U i = false := by
        revert a
        cases U i <;> decide
      rw [ma_sum_s, a', if_neg Bool.false_ne_true, Nat.add_zero]
theorem ma_fitsWithE {w : Nat → Nat → Bool} {V : Nat → Bool} {j v : Nat} {p : Int32} (ep : p = nI v) (hw : ∀ j, j < 6 → ∀ t, t < 24 → bt (bW j) t = w j t) (hu : ∀ t, t < 24 → bt op t = V t) (hM : ∀ j, j < 6 → bM j = nI (mu j)) (hm : ∀ j, j < 6 → mu j ≤ 6) (hj : j < 6) (hv : v ≤ 100) {post : Int32 → SX → Prop} (h1 : ∀ bS' : Nat → Int32, ma_fit w V (ma_put mu j v) → post 1 (pt, op, bW, bM, bY, bV, bS')) (h2 : ∀ bS' : Nat → Int32, ¬ ma_fit w V (ma_put mu j v) → post 0 (pt, op, bW, bM, bY, bV, bS')) : wpX_fitsWithMust post (pt, op, bW, bM, bY, bV, bS) (nI j) p := by
  subst ep
  exact ma_fitsWith hw hu hM hm hj hv h1 h2
theorem ma_xgm {w : Nat → Nat → Bool} {V : Nat → Bool} {j G : Nat} (hw : ∀ j, j < 6 → ∀ t, t < 24 → bt (bW j) t = w j t) (hu : ∀ t, t < 24 → bt op t = V t) (hM : ∀ j, j < 6 → bM j = nI (mu j)) (hm : ∀ j, j < 6 → mu j ≤ 6) (hj : j < 6) (h1 : mu j ≤ G) (h2 : G ≤ 6) (h3 : ma_fit w V (ma_put mu j G)) (h4 : G = 6 ∨ ¬ ma_fit w V (ma_put mu j (G + 1))) {post : Int32 → SX → Prop} (h : ∀ bS' : Nat → Int32, post (nI G) (pt, op, bW, bM, bY, bV, bS')) : ∃ n, wX_greatestMust_17 post (nI j) n (nI (mu j)) pt op bW bM bY bV bS := by
  refine pk_loop (fun n i s => wX_greatestMust_17 post (nI j) n (nI i) pt op bW bM bY bV s) (fun _ _ => True) G (mu j) bS h1 trivial ?_ ?_
  · intro n s _
    rcases h4 with h4 | h4
    · subst h4
      exact br_t ma_y6 (h s)
    · by_cases c : G = 6
      · subst c
        exact br_t ma_y6 (h s)
      · exact br_f (ma_6 (by omega)) (ma_fitsWithE (nI_1 G) hw hu hM hm hj (by omega) (fun bS' f => absurd f h4) (fun bS' f => br_t rfl (h bS')))
  · intro n i s hi _ ih
    refine br_f (ma_6 (by omega)) (ma_fitsWithE (nI_1 i) hw hu hM hm hj (by omega) (fun bS' f => br_f (by decide) (nm_r (nI_1 i) (ih bS' trivial))) (fun bS' f => absurd (ma_fit_le (ma_put_le (by omega)) h3) f))
theorem ma_ygm {j G : Nat} (hP : ma_P pr mu ma wo) (hY : ma_Yt pr fr tw U sh aT aF aG) (hW : ma_Yp pr mu ma wo aM aY aW) (hj : j < 6) (hp : pr j = true) (h2 : G ≤ 6) (h3 : ma_fit (ma_w pr fr tw) U (ma_put mu j G)) (h4 : G = 6 ∨ ¬ ma_fit (ma_w pr fr tw) U (ma_put mu j (G + 1))) {post : Int32 → SY → Prop} (h : ∀ aM' aR' aN' : Nat → Int32, (∀ i, i ≠ j → aM' i = aM i) → post (nI G) (sh, ct, aT, aF, aG, upd aM' j (nI (mu j)), aY, aW, aR', aN', aO, aK, aB)) : ∃ n, wY_greatestMust_22 post (nI j) (nI (mu j)) n 0 0 sh ct aT aF aG aM aY aW aR aN aO aK aB := by
  refine loop_0 (fun n m (s : Int32 × (Nat → Int32) × (Nat → Int32) × (Nat → Int32)) => wY_greatestMust_22 post (nI j) (nI (mu j)) n s.1 (nI m) sh ct aT aF aG s.2.1 aY aW s.2.2.1 s.2.2.2 aO aK aB) (fun m s => (∃ q, s.1 = nI q ∧ ((m ≤ G + 1 ∧ q = m - 1) ∨ (G + 1 < m ∧ q = G))) ∧ ∀ i, i ≠ j → s.2.1 i = aM i) 7 (0, aM, aR, aN) ⟨⟨0, rfl, Or.inl ⟨by omega, rfl⟩⟩, fun _ _ => rfl⟩ ?_ ?_
  · intro n s e
    obtain ⟨x3, a, b, c⟩ := s
    obtain ⟨⟨q, e1, e2⟩, e3⟩ := e
    have eq : q = G := by omega
    have e1' : x3 = nI G := by rw [← eq]; exact e1
    subst e1'
    exact br_t (by decide) ⟨ma_in6 hj, nm_r (e' := upd a j (nI (mu j))) (by rw [ma_c6 hj]) (h a b c e3)⟩
  · intro n m s hm e ih
    obtain ⟨x3, a, b, c⟩ := s
    obtain ⟨⟨q, e1, e2⟩, e3⟩ := e
    try dsimp only at e1 e2 e3
    have hn : ∀ i, i ≠ j → upd a j (nI m) i = aM i := fun i hi => by rw [pk_un hi]; exact e3 i hi
    refine br_f (nI_nlt (a := 6) (by omega) (by decide)) ⟨ma_in6 hj, nm_r (e' := upd a j (nI m)) (by rw [ma_c6 hj]) ?_⟩
    refine ma_fits (x := ma_put mu j m) hY (fun i hi p => ?_) (fun i hi => ?_) (fun i hi p => ?_) (fun aR' aN' f => br_f (by decide) (nm_r (nI_1 m) (ih (nI m, upd a j (nI m), aR', aN') ⟨⟨m, rfl, Or.inl ⟨?_, rfl⟩⟩, hn⟩))) (fun aR' aN' f => br_t rfl (nm_r (nI_1 m) (ih (x3, upd a j (nI m), aR', aN') ⟨⟨q, e1, Or.inr ?_⟩, hn⟩)))
    · by_cases z : i = j
      · rw [z, pk_us, ma_put_s]
      · rw [hn i z, ma_put_n z]; exact (hW i hi p).1
    · by_cases z : i = j
      · rw [z, ma_put_s]; omega
      · rw [ma_put_n z]; exact ma_mu100 hP i hi
    · have z : i ≠ j := fun z => by
        rw [z, hp] at p
        exact absurd p (by decide)
      rw [ma_put_n z]
      exact ma_mu0 hP i hi p
    · apply Classical.byContradiction
      intro z
      rcases h4 with h4 | h4
      · omega
      · exact h4 (ma_fit_le (ma_put_le (by omega)) f)
    · have z : ¬ m ≤ G := fun z => f (ma_fit_le (ma_put_le z) h3)
      omega
end
theorem i_vc_loss {k : Nat} {u : SX} {v : SY} (I : i_Rel k u v) (hk : k + 4 ≤ 2048) : wpX_loss (fun r u' => wpY_loss (fun r' v' => r' = r ∧ i_Rel (k + 4) u' v') v) u := by
  obtain ⟨pt, op, bW, bM, bY, bV, bS⟩ := u
  obtain ⟨sh, ct, aT, aF, aG, aM, aY, aW, aR, aN, aO, aK, aB⟩ := v
  obtain ⟨pr, mu, ma, wo, fr, tw, U, hP, hX, hY, hW, hH, hf⟩ := ma_un I
  unfold wpX_loss
  dsimp only
  refine ma_shareBest hP hX.2.2.1 hX.2.1 hX.2.2.2.1 hX.2.2.2.2.1 hX.2.2.2.2.2 hf (fun bS' x e hG => ma_lossOf hP hX.2.2.2.1 hX.2.2.2.2.1 hX.2.2.2.2.2 e hG.1.2.1 ?_)
  unfold wpY_loss
  dsimp only
  exact ma_tryAll hP hY hW (ma_G_Best hG) (fun _ _ _ _ _ _ _ => ⟨rfl, ma_rel hP hX hY hW hH hf⟩)
theorem i_vc_kept {k : Nat} {u : SX} {v : SY} (I : i_Rel k u v) (hk : k + 4 ≤ 2048) (v1 : Int32) : wpX_kept (fun r u' => wpY_kept (fun r' v' => r' = r ∧ i_Rel (k + 4) u' v') v v1) u v1 := by
  obtain ⟨pt, op, bW, bM, bY, bV, bS⟩ := u
  obtain ⟨sh, ct, aT, aF, aG, aM, aY, aW, aR, aN, aO, aK, aB⟩ := v
  obtain ⟨pr, mu, ma, wo, fr, tw, U, hP, hX, hY, hW, hH, hf⟩ := ma_un I
  unfold wpX_kept
  dsimp only
  by_cases ht : ma_tk pr v1
  · obtain ⟨j, hj, rfl, hp⟩ := ht
    refine ma_isTask1 hX.1 hj hp (br_f (by decide) ?_)
    refine ma_shareBest hP hX.2.2.1 hX.2.1 hX.2.2.2.1 hX.2.2.2.2.1 hX.2.2.2.2.2 hf (fun bS' x e hG => ⟨ma_in6 hj, ma_in6 hj, ?_⟩)
    unfold wpY_kept
    dsimp only
    refine ma_tryAll hP hY hW (ma_G_Best hG) (fun _ _ _ _ _ aB' hB => ma_is1 hY.1 hj hp (br_f (by decide) ⟨ma_in6 hj, ?_, ma_rel hP hX hY hW hH hf⟩))
    show aB' (nI j).toNatClampNeg = bS' (nI j).toNatClampNeg - bM (nI j).toNatClampNeg
    rw [ma_c6 hj, hB j hj hp, e j hj, hX.2.2.2.1 j hj, pk_sub (hG.1.2.1 j hj).1]
  · refine ma_isTask0 hX.1 ht (br_t rfl ?_)
    unfold wpY_kept
    dsimp only
    obtain ⟨x, hG⟩ := ma_Gex (ma := ma) (pr := pr) (wo := wo) hf 54
    exact ma_tryAll hP hY hW (ma_G_Best hG) (fun _ _ _ _ _ aB' hB => ma_is0 hY.1 ht (br_t rfl ⟨rfl, ma_rel hP hX hY hW hH hf⟩))
theorem i_vc_idle {k : Nat} {u : SX} {v : SY} (I : i_Rel k u v) (hk : k + 4 ≤ 2048) : wpX_idle (fun r u' => wpY_idle (fun r' v' => r' = r ∧ i_Rel (k + 4) u' v') v) u := by
  obtain ⟨pt, op, bW, bM, bY, bV, bS⟩ := u
  obtain ⟨sh, ct, aT, aF, aG, aM, aY, aW, aR, aN, aO, aK, aB⟩ := v
  obtain ⟨pr, mu, ma, wo, fr, tw, U, hP, hX, hY, hW, hH, hf⟩ := ma_un I
  unfold wpX_idle
  dsimp only
  refine ma_shareBest hP hX.2.2.1 hX.2.1 hX.2.2.2.1 hX.2.2.2.2.1 hX.2.2.2.2.2 hf (fun bS' x e hG => ma_countUnits (ma_xidle e ?_))
  unfold wpY_idle
  dsimp only
  refine ma_tryAll hP hY hW (ma_G_Best hG) (fun _ _ _ _ _ aB' hB => ma_yidle hY.1 hY.2.2 hW hB ⟨?_, ma_rel hP hX hY hW hH hf⟩)
  have a : ma_sum (fun t => if U t = true then 1 else 0) 24 = ma_sum (fun t => if bt op t = true then 1 else 0) 24 := ma_sum_eq 24 fun t ht => by
    try dsimp only
    rw [hX.2.1 t ht]
  have b : ma_sum (fun j => if pr j = true then mu j + (x j - mu j) else 0) 6 = ma_sum x 6 := ma_sum_eq 6 fun j hj => by
    try dsimp only
    have q := hG.1.2.1 j hj
    cases hp : pr j with
    | true => rw [if_pos rfl]; omega
    | false =>
      have := (hP j hj).2 hp
      rw [if_neg Bool.false_ne_true]
      omega
  rw [a, b]
theorem i_vc_lossWithout {k : Nat} {u : SX} {v : SY} (I : i_Rel k u v) (hk : k + 4 ≤ 2048) (v1 : Int32) : wpX_lossWithout (fun r u' => wpY_lossWithout (fun r' v' => r' = r ∧ i_Rel (k + 4) u' v') v v1) u v1 := by
  obtain ⟨pt, op, bW, bM, bY, bV, bS⟩ := u
  obtain ⟨sh, ct, aT, aF, aG, aM, aY, aW, aR, aN, aO, aK, aB⟩ := v
  obtain ⟨pr, mu, ma, wo, fr, tw, U, hP, hX, hY, hW, hH, hf⟩ := ma_un I
  unfold wpX_lossWithout
  dsimp only
  rcases pk_ix v1 (n := 24) (by decide) with z | z | ⟨t, ht, rfl⟩
  · exact ma_isUnit0 (Or.inl z) (br_t rfl (br_t z ⟨rfl, i_up I⟩))
  · exact ma_isUnit0 (Or.inr z) (br_t rfl (br_f (ma_n0 (by decide) z) (br_f (ma_23 z) ⟨rfl, i_up I⟩)))
  · have hY' : ma_Yt pr fr tw (ma_pb U t false) (sh ||| ((1 : Int32) <<< (nI t &&& 31))) aT aF aG := ⟨hY.1, hY.2.1, ma_sh_on ht hY.2.2⟩
    refine ma_isUnit1 ht (br_f (by decide) (nm_e (ma_shareMusts (fun bS' e => ma_sharesFit (w := ma_w pr fr tw) (V := ma_pb U t false) (x := mu) hX.2.2.1 (ma_op_on ht hX.2.1) (fun j hj => (e j hj).trans (hX.2.2.2.1 j hj)) (ma_mu100 hP) (fun f => br_f (by decide) ?_) (fun f => br_t rfl ?_)))))
    · refine ma_shareBest hP hX.2.2.1 (ma_op_on ht hX.2.1) hX.2.2.2.1 hX.2.2.2.2.1 hX.2.2.2.2.2 f (fun bS2 x e hG => ma_lossOf hP hX.2.2.2.1 hX.2.2.2.2.1 hX.2.2.2.2.2 e hG.1.2.1 ?_)
      refine br_f (nI_pos (by omega)) (br_t (ma_le23 ht) (nm_e ?_))
      refine ma_fits (x := mu) hY' (fun j hj p => (hW j hj p).1) (ma_mu100 hP) (ma_mu0 hP) (fun aR' aN' _ => br_f (by decide) ?_) (fun aR' aN' f' => absurd f f')
      exact ma_tryAll hP hY' hW (ma_G_Best hG) (fun _ _ _ _ _ _ _ => ⟨rfl, ma_rel hP hX hY hW hH hf⟩)
    · refine br_f (nI_pos (by omega)) (br_t (ma_le23 ht) (nm_e ?_))
      exact ma_fits (x := mu) hY' (fun j hj p => (hW j hj p).1) (ma_mu100 hP) (ma_mu0 hP) (fun aR' aN' f' => absurd f' f) (fun aR' aN' _ => br_t rfl ⟨rfl, ma_rel hP hX hY hW hH hf⟩)
theorem i_vc_greatestMust {k : Nat} {u : SX} {v : SY} (I : i_Rel k u v) (hk : k + 4 ≤ 2048) (v1 : Int32) : wpX_greatestMust (fun r u' => wpY_greatestMust (fun r' v' => r' = r ∧ i_Rel (k + 4) u' v') v v1) u v1 := by
  obtain ⟨pt, op, bW, bM, bY, bV, bS⟩ := u
  obtain ⟨sh, ct, aT, aF, aG, aM, aY, aW, aR, aN, aO, aK, aB⟩ := v
  obtain ⟨pr, mu, ma, wo, fr, tw, U, hP, hX, hY, hW, hH, hf⟩ := ma_un I
  unfold wpX_greatestMust
  dsimp only
  by_cases ht : ma_tk pr v1
  · obtain ⟨j, hj, rfl, hp⟩ := ht
    have b := (ma_P6 hP hj).1
    obtain ⟨G, h1, h2, h3, h4⟩ := ma_max (j := j) hf (6 - mu j)
    have h2' : G ≤ 6 := by omega
    have h4' : G = 6 ∨ ¬ ma_fit (ma_w pr fr tw) U (ma_put mu j (G + 1)) := h4.imp (fun z => by omega) id
    refine ma_isTask1 hX.1 hj hp (br_f (by decide) ⟨ma_in6 hj, nm_r (e' := nI (mu j)) (by rw [ma_c6 hj]; exact hX.2.2.2.1 j hj) ?_⟩)
    refine ma_xgm hX.2.2.1 hX.2.1 hX.2.2.2.1 (fun i hi => (ma_P6 hP hi).1) hj h1 h2' h3 h4' (fun bS' => ?_)
    unfold wpY_greatestMust
    dsimp only
    refine ma_is1 hY.1 hj hp (br_f (by decide) ⟨ma_in6 hj, nm_r (e' := nI (mu j)) (by rw [ma_c6 hj]; exact (hW j hj hp).1) ?_⟩)
    refine ma_ygm hP hY hW hj hp h2' h3 h4' (fun aM' aR' aN' e => ⟨rfl, ?_⟩)
    have hW2 : ma_Yp pr mu ma wo (upd aM' j (nI (mu j))) aY aW := fun i hi p => by
      by_cases z : i = j
      · rw [z, pk_us]
        exact ⟨rfl, (hW j hj hp).2⟩
      · rw [pk_un z, e i z]
        exact hW i hi p
    exact ma_rel hP hX hY hW2 hH hf
  · refine ma_isTask0 hX.1 ht (br_t rfl ?_)
    unfold wpY_greatestMust
    dsimp only
    exact ma_is0 hY.1 ht (br_t rfl ⟨rfl, i_up I⟩)
end
section
/-! freeable and at, unit by unit, both sides in step -/
theorem ma_leastP (P : Nat → Prop) : (∀ j, j < 6 → ¬ P j) ∨ ∃ j, j < 6 ∧ P j ∧ ∀ i, i < j → ¬ P i := by
  have h : ∀ n, (∀ j, j < n → ¬ P j) ∨ ∃ j, j < n ∧ P j ∧ ∀ i, i < j → ¬ P i := by
    intro n
    induction n with
    | zero => exact Or.inl fun j hj => absurd hj (Nat.not_lt_zero _)
    | succ n ih =>
      rcases ih with ih | ⟨j, hj, a, b⟩
      · rcases Classical.em (P n) with hp | hp
        · exact Or.inr ⟨n, Nat.lt_succ_self n, hp, ih⟩
        · refine Or.inl fun j hj => ?_
          by_cases c : j = n
          · rw [c]; exact hp
          · exact ih j (by omega)
      · exact Or.inr ⟨j, by omega, a, b⟩
  exact h 6
theorem ma_hit_one {w : Nat → Nat → Bool} {j t : Nat} (hj : j < 6) : ma_hit w (2 ^ j) t = w j t := by
  rw [Bool.eq_iff_iff]
  simp only [ma_hit, ma_any_iff, Bool.and_eq_true, Nat.testBit_two_pow, decide_eq_true_iff]
  constructor
  · rintro ⟨i, _, e, h⟩
    rw [e]; exact h
  · intro h
    exact ⟨j, hj, rfl, h⟩
section
variable {pt op : Int32} {bW bM bY bV bS : Nat → Int32} {sh ct : Int32} {aT aF aG aM aY aW aR aN aO aK aB : Nat → Int32} {pr : Nat → Bool} {mu ma wo fr tw : Nat → Nat} {U : Nat → Bool}
theorem ma_free {old : Int32} {b : Nat} (hb : b ≤ 24) (hP : ma_P pr mu ma wo) (hw : ∀ j, j < 6 → ∀ t, t < 24 → bt (bW j) t = ma_w pr fr tw j t) (hS : ∀ j, j < 6 → bS j = nI (mu j)) (hT : ∀ j, j < 6 → aT j = if pr j = true then 1 else 0) (hF : ∀ j, j < 6 → pr j = true → aF j = nI (fr j) ∧ aG j = nI (tw j) ∧ fr j ≤ 24 ∧ tw j ≤ 24) (hW : ma_Yp pr mu ma wo aM aY aW) :
    ∀ (d t c : Nat) (U : Nat → Bool), t + d = b → ∃ r : Int32,
      (∀ (rest : Int32) (post : Int32 → SX → Prop), (∀ i, i < 24 → bt rest i = U i) → post r (pt, op, bW, bM, bY, bV, bS) → wX_freeable_25 post (nI b) pt op bW bM bY bV bS (d + 1) rest (nI c) (nI t)) ∧
      (∀ (sh ct : Int32) (aR aN aO aK aB : Nat → Int32) (post : Int32 → SY → Prop), (∀ i, i < 24 → bt sh i = !U i) → (∀ aR' aN' : Nat → Int32, post r (old, ct, aT, aF, aG, aM, aY, aW, aR', aN', aO, aK, aB)) → wY_freeable_28 post (nI b) old (d + 1) (nI c) (nI t) sh ct aT aF aG aM aY aW aR aN aO aK aB) := by
  intro d
  induction d with
  | zero =>
    intro t c U ht
    have e : nI b ≤ nI t := nI_le (by omega) (by omega)
    exact ⟨nI c, fun rest post _ h => br_t e h, fun sh ct aR aN aO aK aB post _ h => br_t e (h aR aN)⟩
  | succ d ih =>
    intro t c U ht
    have e : ¬ nI b ≤ nI t := nI_ge (by omega) (by omega)
    have ht24 : t < 24 := by omega
    cases hU : U t with
    | false =>
      obtain ⟨r, h1, h2⟩ := ih (t + 1) c U (by omega)
      refine ⟨r, fun rest post hr h => br_f e (nm_e (br_t ((ma_and0 rest (by omega)).mpr (by rw [hr t ht24, hU])) (nm_r (nI_1 t) (h1 rest post hr h)))), fun sh ct aR aN aO aK aB post hs h => br_f e (br_f (fun z => ?_) (nm_r (nI_1 t) (h2 sh ct aR aN aO aK aB post hs h)))⟩
      have z' := (ma_bit0 sh (by omega)).mp z
      rw [hs t ht24, hU] at z'
      exact absurd z' (by decide)
    | true =>
      by_cases f : ma_fit (ma_w pr fr tw) (ma_pb U t false) mu
      · obtain ⟨r, h1, h2⟩ := ih (t + 1) (c + 1) (ma_pb U t false) (by omega)
        refine ⟨r, fun rest post hr h => br_f e (nm_e (br_f (fun z => ?_) (ma_sharesFit (x := mu) hw (ma_op_on ht24 hr) hS (ma_mu100 hP) (fun _ => br_f (by decide) (nm_e (nm_r (nI_1 c) (nm_r (nI_1 t) (h1 _ post (ma_op_on ht24 hr) h))))) (fun f' => absurd f f')))), fun sh ct aR aN aO aK aB post hs h => br_f e (br_t ((ma_bit0 sh (by omega)).mpr (by rw [hs t ht24, hU]; rfl)) ?_)⟩
        · have z' := (ma_and0 rest (by omega)).mp z
          rw [hr t ht24, hU] at z'
          exact absurd z' (by decide)
        · refine br_f (nI_pos (by omega)) (br_t (ma_le23 ht24) (br_f (by decide) ?_))
          exact ma_block43 hP ⟨hT, hF, hs⟩ hW (ma_sh_on ht24 hs) (fun aR' aN' _ => br_t rfl (nm_r (nI_1 c) (nm_r (nI_1 t) (h2 _ _ _ _ _ _ _ post (ma_sh_on ht24 hs) h)))) (fun aR' aN' f' => absurd f f')
      · obtain ⟨r, h1, h2⟩ := ih (t + 1) c U (by omega)
        refine ⟨r, fun rest post hr h => br_f e (nm_e (br_f (fun z => ?_) (ma_sharesFit (x := mu) hw (ma_op_on ht24 hr) hS (ma_mu100 hP) (fun f' => absurd f' f) (fun _ => br_t rfl (nm_r (nI_1 t) (h1 _ post hr h)))))), fun sh ct aR aN aO aK aB post hs h => br_f e (br_t ((ma_bit0 sh (by omega)).mpr (by rw [hs t ht24, hU]; rfl)) ?_)⟩
        · have z' := (ma_and0 rest (by omega)).mp z
          rw [hr t ht24, hU] at z'
          exact absurd z' (by decide)
        · refine br_f (nI_pos (by omega)) (br_t (ma_le23 ht24) (br_f (by decide) ?_))
          exact ma_block43 hP ⟨hT, hF, hs⟩ hW (ma_sh_on ht24 hs) (fun aR' aN' f' => absurd f' f) (fun aR' aN' _ => br_f (fun z => nI_pos (n := t) (by omega) (by rw [← z]; decide)) (nm_r (Int32.add_zero _) (nm_r (nI_1 t) (h2 _ _ _ _ _ _ _ post hs h))))
/-! one unit of the first plan -/
def ma_cd (w : Nat → Nat → Bool) (U : Nat → Bool) (x : Nat → Nat) (u j : Nat) : Prop := 0 < x j ∧ w j u = true ∧ U u = true ∧ ma_fit w (ma_U (u + 1) U) (ma_put x j (x j - 1))
theorem ma_put50 {x : Nat → Nat} {j : Nat} (hx : ∀ j, j < 6 → x j ≤ 50) (hj : j < 6) : ∀ i, i < 6 → ma_put x j (x j - 1) i ≤ 100 := fun i hi => by
  by_cases e : i = j
  · rw [e, ma_put_s]
    have := hx j hj
    omega
  · rw [ma_put_n e]
    have := hx i hi
    omega
theorem ma_op_late {u : Nat} (hu : u < 24) (h : ∀ t, t < 24 → bt op t = U t) : ∀ t, t < 24 → bt (op &&& ((-2 : Int32) <<< (nI u &&& 31))) t = ma_U (u + 1) U t := by
  intro t ht
  rw [ma_late _ (by omega) (by omega), h t ht]
  unfold ma_U
  rw [Bool.and_comm]
  rfl
theorem ma_giveX {u e : Nat} {x : Nat → Nat} {w : Nat → Nat → Bool} (hu : u < 24) (he : e ≤ 6) (hx : ∀ j, j < 6 → x j ≤ 50) (hw : ∀ j, j < 6 → ∀ t, t < 24 → bt (bW j) t = w j t) (ho : ∀ t, t < 24 → bt op t = U t) (hU : U u = true) (hc : ∀ i, i < e → ¬ ma_cd w U x u i) (hS : ∀ j, j < 6 → bS j = nI (x j)) {post : Int32 → SX → Prop} (h : ∀ (n : Nat) (s : Nat → Int32), (∀ j, j < 6 → s j = nI (x j)) → wX_giveUnit_25 post (nI u) (op &&& ((-2 : Int32) <<< (nI u &&& 31))) pt op (n + 1) (nI e) bW bM bY bV s) : wpX_giveUnit post (pt, op, bW, bM, bY, bV, bS) (nI u) := by
  refine br_f (fun z => ?_) (nm_e (loop_0 (fun n i s => wX_giveUnit_25 post (nI u) (op &&& ((-2 : Int32) <<< (nI u &&& 31))) pt op n (nI i) bW bM bY bV s) (fun i s => ∀ j, j < 6 → s j = nI (x j)) e bS hS h ?_))
  · have z' := (ma_bit0 op (by omega)).mp z
    rw [ho u hu, hU] at z'
    exact absurd z' (by decide)
  · intro n i s hi es ih
    have hi6 : i < 6 := by omega
    have hxi := hx i hi6
    have ws : ((bW (nI i).toNatClampNeg >>> (nI u &&& 31)) &&& 1) = 0 ↔ w i u = false := by rw [ma_bit0 _ (by omega), ma_c6 hi6, hw i hi6 u hu]
    refine br_f (ma_6 hi6) ⟨ma_in6 hi6, pk_le (x i) 0 (fun z => nm_r (nI_1 i) (ih s es)) (fun z => ⟨ma_in6 hi6, br_c (fun q => nm_r (nI_1 i) (ih s es)) (fun q => ⟨ma_in6 hi6, ma_in6 hi6, nm_r (e' := upd s i (nI (x i - 1))) (by rw [ma_c6 hi6, es i hi6]; exact congrArg _ (pk_sub z)) ?_⟩)⟩) (by rw [ma_c6 hi6]; exact es i hi6)⟩
    refine ma_sharesFit (x := ma_put x i (x i - 1)) hw (ma_op_late hu ho) (ma_nat_put es) (ma_put50 hx hi6) (fun f => absurd ⟨z, ma_nf (mt ws.mpr q), hU, f⟩ (hc i hi)) (fun f => br_t rfl ⟨ma_in6 hi6, ma_in6 hi6, nm_r (e' := upd (upd s i (nI (x i - 1))) i (nI (x i))) ?_ (nm_r (nI_1 i) (ih _ fun l hl => ?_))⟩)
    · rw [ma_c6 hi6, pk_us, nI_1, Nat.sub_add_cancel z]
    · by_cases c : l = i
      · rw [c, pk_us]
      · rw [pk_un c, pk_un c]; exact es l hl
theorem ma_giveY {u e : Nat} {x : Nat → Nat} (hu : u < 24) (he : e ≤ 6) (hx : ∀ j, j < 6 → x j ≤ 50) (h0 : ∀ j, j < 6 → pr j = false → x j = 0) (hY : ma_Yt pr fr tw U sh aT aF aG) (hc : ∀ i, i < e → ¬ ma_cd (ma_w pr fr tw) U x u i) (hN : ∀ j, j < 6 → aN j = nI (x j)) {post : Int32 → SY → Prop} (h : ∀ (n : Nat) (aR' s : Nat → Int32), (∀ S, S < 64 → aR' S = nI (ma_rm (ma_w pr fr tw) (ma_U (u + 1) U) S)) → (∀ j, j < 6 → s j = nI (x j)) → wY_give_9 post (nI u) sh ct (n + 1) (nI e) aT aF aG aM aY aW aR' s aO aK aB) : wpY_give post (sh, ct, aT, aF, aG, aM, aY, aW, aR, aN, aO, aK, aB) (nI u) := by
  unfold wpY_give
  dsimp only
  rw [nI_1 u]
  refine ma_measure hY (by omega) (fun aR' hR => ?_)
  refine loop_0 (fun n i s => wY_give_9 post (nI u) sh ct n (nI i) aT aF aG aM aY aW aR' s aO aK aB) (fun i s => ∀ j, j < 6 → s j = nI (x j)) e aN hN (fun n s es => h n aR' s hR es) ?_
  intro n i s hi es ih
  have hi6 : i < 6 := by omega
  have hxi := hx i hi6
  refine br_f (ma_6 hi6) ⟨ma_in6 hi6, pk_le (x i) 0 (fun z => nm_r (nI_1 i) (ih s es)) (fun z => ?_) (by rw [ma_c6 hi6]; exact es i hi6)⟩
  rw [ma_sh1 i hi6]
  refine ma_covers hY hu ?_
  rw [ma_hit_one hi6]
  cases hcv : (ma_w pr fr tw i u && U u) with
  | false => exact br_t (if_neg Bool.false_ne_true) (nm_r (nI_1 i) (ih s es))
  | true =>
    rw [Bool.and_eq_true] at hcv
    refine br_f (by rw [if_pos rfl]; decide) ⟨ma_in6 hi6, ma_in6 hi6, nm_r (e' := upd s i (nI (x i - 1))) (by rw [ma_c6 hi6, es i hi6]; exact congrArg _ (pk_sub z)) ?_⟩
    refine ma_can (x := ma_put x i (x i - 1)) hY.1 hR (fun l hl _ => ma_nat_put es l hl) (ma_put50 hx hi6) (fun l hl p => ?_) (fun f => absurd ⟨z, hcv.1, hcv.2, f⟩ (hc i hi)) (fun f => br_t rfl ⟨ma_in6 hi6, ma_in6 hi6, nm_r (e' := upd (upd s i (nI (x i - 1))) i (nI (x i))) ?_ (nm_r (nI_1 i) (ih _ fun l hl => ?_))⟩)
    · by_cases c : l = i
      · rw [c, ma_put_s]
        rw [c] at p
        rw [h0 i hi6 p]
      · rw [ma_put_n c]; exact h0 l hl p
    · rw [ma_c6 hi6, pk_us, nI_1, Nat.sub_add_cancel z]
    · by_cases c : l = i
      · rw [c, pk_us]
      · rw [pk_un c, pk_un c]; exact es l hl
theorem ma_step {u : Nat} {x : Nat → Nat} (hu : u < 24) (hx : ∀ j, j < 6 → x j ≤ 50) (h0 : ∀ j, j < 6 → pr j = false → x j = 0) (hw : ∀ j, j < 6 → ∀ t, t < 24 → bt (bW j) t = ma_w pr fr tw j t) (ho : ∀ t, t < 24 → bt op t = U t) (hY : ma_Yt pr fr tw U sh aT aF aG) :
    ∃ (r : Int32) (x1 : Nat → Nat), (∀ j, j < 6 → x1 j ≤ x j) ∧
      (∀ (bS : Nat → Int32) (post : Int32 → SX → Prop), (∀ j, j < 6 → bS j = nI (x j)) → (∀ bS' : Nat → Int32, (∀ j, j < 6 → bS' j = nI (x1 j)) → post r (pt, op, bW, bM, bY, bV, bS')) → wpX_giveUnit post (pt, op, bW, bM, bY, bV, bS) (nI u)) ∧
      (∀ (ct : Int32) (aR aN aO aK aB : Nat → Int32) (post : Int32 → SY → Prop), (∀ j, j < 6 → aN j = nI (x j)) → (∀ aR' aN' : Nat → Int32, (∀ j, j < 6 → aN' j = nI (x1 j)) → post r (sh, ct, aT, aF, aG, aM, aY, aW, aR', aN', aO, aK, aB)) → wpY_give post (sh, ct, aT, aF, aG, aM, aY, aW, aR, aN, aO, aK, aB) (nI u)) := by
  rcases ma_leastP (ma_cd (ma_w pr fr tw) U x u) with hn | ⟨j, hj, hc, hl⟩
  · refine ⟨-1, x, fun _ _ => Nat.le_refl _, fun bS post hS h => ?_, fun ct aR aN aO aK aB post hN h => ?_⟩
    · cases hU : U u with
      | false => exact br_t ((ma_bit0 op (by omega)).mpr (by rw [ho u hu, hU])) (h bS hS)
      | true => exact ma_giveX hu (Nat.le_refl 6) hx hw ho hU hn hS (fun n s es => br_t ma_y6 (h s es))
    · exact ma_giveY hu (Nat.le_refl 6) hx h0 hY hn hN (fun n aR' s hR es => br_t ma_y6 (h aR' s es))
  · obtain ⟨c1, c2, c3, c4⟩ := hc
    have hxj := hx j hj
    refine ⟨nI j, ma_put x j (x j - 1), fun i hi => ?_, fun bS post hS h => ?_, fun ct aR aN aO aK aB post hN h => ?_⟩
    · by_cases e : i = j
      · rw [e, ma_put_s]; exact Nat.sub_le _ _
      · rw [ma_put_n e]; exact Nat.le_refl _
    · refine ma_giveX hu (Nat.le_of_lt hj) hx hw ho c3 hl hS (fun n s es => ?_)
      refine br_f (ma_6 hj) ⟨ma_in6 hj, br_f (by rw [ma_c6 hj, es j hj]; exact nI_nle c1 (by omega)) ⟨ma_in6 hj, br_f (fun z => ?_) ⟨ma_in6 hj, ma_in6 hj, nm_r (e' := upd s j (nI (x j - 1))) (by rw [ma_c6 hj, es j hj]; exact congrArg _ (pk_sub c1)) ?_⟩⟩⟩
      · have z' := (ma_bit0 _ (by omega)).mp z
        rw [ma_c6 hj, hw j hj u hu, c2] at z'
        exact absurd z' (by decide)
      · exact ma_sharesFit (x := ma_put x j (x j - 1)) hw (ma_op_late hu ho) (ma_nat_put es) (ma_put50 hx hj) (fun f => br_f (by decide) (h _ (ma_nat_put es))) (fun f => absurd c4 f)
    · refine ma_giveY hu (Nat.le_of_lt hj) hx h0 hY hl hN (fun n aR' s hR es => ?_)
      refine br_f (ma_6 hj) ⟨ma_in6 hj, br_f (by rw [ma_c6 hj, es j hj]; exact nI_nle c1 (by omega)) ?_⟩
      rw [ma_sh1 j hj]
      refine ma_covers hY hu ?_
      rw [ma_hit_one hj, c2, c3]
      refine br_f (by decide) ⟨ma_in6 hj, ma_in6 hj, nm_r (e' := upd s j (nI (x j - 1))) (by rw [ma_c6 hj, es j hj]; exact congrArg _ (pk_sub c1)) ?_⟩
      refine ma_can (x := ma_put x j (x j - 1)) hY.1 hR (fun l hl _ => ma_nat_put es l hl) (ma_put50 hx hj) (fun l hl p => ?_) (fun f => br_f (by decide) (h _ _ (ma_nat_put es))) (fun f => absurd c4 f)
      by_cases c : l = j
      · rw [c, ma_put_s]
        rw [c] at p
        rw [h0 j hj p]
      · rw [ma_put_n c]; exact h0 l hl p
end
end
section
/-! the owed statements of freeable and at -/
section
variable {pt op : Int32} {bW bM bY bV bS : Nat → Int32} {sh ct : Int32} {aT aF aG aM aY aW aR aN aO aK aB : Nat → Int32} {pr : Nat → Bool} {mu ma wo fr tw kg : Nat → Nat} {U : Nat → Bool}
theorem ma_steps {t : Nat} (ht : t < 24) (hw : ∀ j, j < 6 → ∀ t, t < 24 → bt (bW j) t = ma_w pr fr tw j t) (ho : ∀ t, t < 24 → bt op t = U t) (hY : ma_Yt pr fr tw U sh aT aF aG) :
    ∀ (d u : Nat) (x : Nat → Nat) (r0 : Int32), u + d = t + 1 → (∀ j, j < 6 → x j ≤ 50) → (∀ j, j < 6 → pr j = false → x j = 0) → ∃ r : Int32,
      (∀ (bS : Nat → Int32) (post : Int32 → SX → Prop), (∀ j, j < 6 → bS j = nI (x j)) → (∀ bS' : Nat → Int32, post r (pt, op, bW, bM, bY, bV, bS')) → wX_at_21 post (nI t) (d + 1) r0 (nI u) pt op bW bM bY bV bS) ∧
      (∀ (ct : Int32) (aR aN aO aK aB : Nat → Int32) (post : Int32 → SY → Prop), (∀ j, j < 6 → aN j = nI (x j)) → (∀ aR' aN' : Nat → Int32, post r (sh, ct, aT, aF, aG, aM, aY, aW, aR', aN', aO, aK, aB)) → wY_at_55 post (nI t) (d + 1) r0 (nI u) sh ct aT aF aG aM aY aW aR aN aO aK aB) := by
  intro d
  induction d with
  | zero =>
    intro u x r0 hu _ _
    have e : nI t < nI u := nI_lt (by omega) (by omega)
    exact ⟨r0, fun bS post _ h => br_t e (h bS), fun ct aR aN aO aK aB post _ h => br_t e (br_f (ma_24 ht) (h aR aN))⟩
  | succ d ih =>
    intro u x r0 hu hx h0
    have e : ¬ nI t < nI u := nI_nlt (by omega) (by omega)
    have hu24 : u < 24 := by omega
    obtain ⟨r1, x1, hle, s1, s2⟩ := ma_step (aM := aM) (aY := aY) (aW := aW) (pt := pt) (bM := bM) (bY := bY) (bV := bV) hu24 hx h0 hw ho hY
    obtain ⟨r, i1, i2⟩ := ih (u + 1) x1 r1 (by omega) (fun j hj => Nat.le_trans (hle j hj) (hx j hj)) (fun j hj p => by
      have a := hle j hj
      rw [h0 j hj p] at a
      omega)
    exact ⟨r, fun bS post hS h => br_f e (s1 bS _ hS (fun bS' hS' => nm_r (nI_1 u) (i1 bS' post hS' h))), fun ct aR aN aO aK aB post hN h => br_f e (br_f (ma_24 hu24) (s2 ct aR aN aO aK aB _ hN (fun aR' aN' hN' => nm_r (nI_1 u) (i2 ct aR' aN' aO aK aB post hN' h))))⟩
theorem ma_far {v1 : Int32} (hv : nI 24 ≤ v1) (hY : ma_Yt pr fr tw U sh aT aF aG) (hw : ∀ j, j < 6 → ∀ t, t < 24 → bt (bW j) t = ma_w pr fr tw j t) (ho : ∀ t, t < 24 → bt op t = U t) :
    ∀ (d u : Nat) (x : Nat → Nat) (r0 : Int32), u + d = 24 → (∀ j, j < 6 → x j ≤ 50) → (∀ j, j < 6 → pr j = false → x j = 0) → ∀ (aR aN : Nat → Int32) (post : Int32 → SY → Prop), (∀ j, j < 6 → aN j = nI (x j)) → (∀ aR' aN' : Nat → Int32, post (-1) (sh, ct, aT, aF, aG, aM, aY, aW, aR', aN', aO, aK, aB)) → wY_at_55 post v1 (d + 1) r0 (nI u) sh ct aT aF aG aM aY aW aR aN aO aK aB := by
  intro d
  induction d with
  | zero =>
    intro u x r0 hu _ _ aR aN post _ h
    rw [show u = 24 by omega]
    exact br_c (fun _ => br_t hv (h aR aN)) (fun _ => br_t ma_y24 (br_t hv (h aR aN)))
  | succ d ih =>
    intro u x r0 hu hx h0 aR aN post hN h
    have hu24 : u < 24 := by omega
    have e : ¬ v1 < nI u := fun z => absurd (Int32.lt_of_le_of_lt hv z) (nI_nlt (by omega) (by omega))
    obtain ⟨r1, x1, hle, s1, s2⟩ := ma_step (aM := aM) (aY := aY) (aW := aW) (pt := 0) (bM := aM) (bY := aM) (bV := aM) hu24 hx h0 hw ho hY
    refine br_f e (br_f (ma_24 hu24) (s2 ct aR aN aO aK aB _ hN (fun aR' aN' hN' => nm_r (nI_1 u) (ih (u + 1) x1 r1 (by omega) (fun j hj => Nat.le_trans (hle j hj) (hx j hj)) (fun j hj p => ?_) aR' aN' post hN' h))))
    have a := hle j hj
    rw [h0 j hj p] at a
    omega
theorem ma_at7 {x : Nat → Nat} {v1 : Int32} (hT : ∀ j, j < 6 → aT j = if pr j = true then 1 else 0) (hW : ma_Yp pr mu ma wo aM aY aW) (hB : ∀ j, j < 6 → pr j = true → aB j = nI (kg j)) (h1 : ∀ j, j < 6 → pr j = true → x j = mu j + kg j) (h0 : ∀ j, j < 6 → pr j = false → x j = 0) {post : Int32 → SY → Prop} (h : ∀ aN' : Nat → Int32, (∀ j, j < 6 → aN' j = nI (x j)) → ∃ n, wY_at_55 post v1 n (-1) 0 sh ct aT aF aG aM aY aW aR aN' aO aK aB) : ∃ n, wY_at_7 post v1 sh ct n 0 aT aF aG aM aY aW aR aN aO aK aB := by
  refine loop_0 (fun n i s => wY_at_7 post v1 sh ct n (nI i) aT aF aG aM aY aW aR s aO aK aB) (fun i s => ∀ j, j < i → s j = nI (x j)) 6 aN (fun j hj => absurd hj (Nat.not_lt_zero _)) ?_ ?_
  · intro n s e
    exact br_t ma_y6 (h s e)
  · intro n i s hi e ih
    have st : ∀ j, j < i + 1 → upd s i (nI (x i)) j = nI (x j) := fun j hj => by
      by_cases c : j = i
      · rw [c, pk_us]
      · rw [pk_un c]; exact e j (by omega)
    refine br_f (ma_6 hi) ⟨ma_in6 hi, br_c (fun q => ⟨ma_in6 hi, nm_r (e' := upd s i (nI (x i))) ?_ (nm_r (nI_1 i) (ih _ st))⟩) (fun q => ⟨ma_in6 hi, ma_in6 hi, ma_in6 hi, nm_r (e' := upd s i (nI (x i))) ?_ (nm_r (nI_1 i) (ih _ st))⟩)⟩
    · rw [ma_c6 hi, h0 i hi ((ma_th0 hT hi).mp q)]
      rfl
    · have p : pr i = true := ma_nf fun z => q ((ma_th0 hT hi).mpr z)
      rw [ma_c6 hi, (hW i hi p).1, hB i hi p, nI_add, h1 i hi p]
end
theorem i_vc_freeable {k : Nat} {u : SX} {v : SY} (I : i_Rel k u v) (hk : k + 4 ≤ 2048) (v1 : Int32) (v2 : Int32) : wpX_freeable (fun r u' => wpY_freeable (fun r' v' => r' = r ∧ i_Rel (k + 4) u' v') v v1 v2) u v1 v2 := by
  obtain ⟨pt, op, bW, bM, bY, bV, bS⟩ := u
  obtain ⟨sh, ct, aT, aF, aG, aM, aY, aW, aR, aN, aO, aK, aB⟩ := v
  obtain ⟨pr, mu, ma, wo, fr, tw, U, hP, hX, hY, hW, hH, hf⟩ := ma_un I
  unfold wpX_freeable
  dsimp only
  by_cases h1 : v1 < 0
  · exact br_t h1 (br_t rfl (br_t h1 ⟨rfl, i_up I⟩))
  by_cases h2 : v2 ≤ v1
  · exact br_f h1 (br_t h2 (br_t rfl (br_f h1 (br_t h2 ⟨rfl, i_up I⟩))))
  by_cases h3 : 24 < v2
  · exact br_f h1 (br_f h2 (br_t h3 (br_t rfl (br_f h1 (br_f h2 (br_f (Int32.not_le.mpr h3) ⟨rfl, i_up I⟩))))))
  obtain ⟨a, ha, e⟩ := nI_of h1
  have h0 : ¬ v2 < 0 := fun z => h2 (Int32.le_of_lt (Int32.lt_of_lt_of_le z (Int32.not_lt.mp h1)))
  obtain ⟨b, hb, e'⟩ := nI_of h0
  subst e e'
  have hab : a < b := Nat.lt_of_not_le fun z => h2 (nI_le z ha)
  have hb24 : b ≤ 24 := Nat.le_of_not_lt fun z => h3 (nI_lt (a := 24) z hb)
  refine br_f h1 (br_f h2 (br_f h3 (br_f (by decide) (ma_shareMusts (fun bS' e => ?_)))))
  obtain ⟨r, f1, f2⟩ := ma_free (old := sh) (pt := pt) (op := op) (bM := bM) (bY := bY) (bV := bV) hb24 hP hX.2.2.1 (fun j hj => (e j hj).trans (hX.2.2.2.1 j hj)) hY.1 hY.2.1 hW (b - a) a 0 U (by omega)
  exact ⟨_, f1 op _ hX.2.1 (br_f h1 (br_f h2 (br_t (Int32.not_lt.mp h3) ⟨_, f2 sh ct aR aN aO aK aB _ hY.2.2 (fun aR' aN' => ⟨rfl, ma_rel hP hX hY hW hH hf⟩)⟩)))⟩
theorem i_vc_at {k : Nat} {u : SX} {v : SY} (I : i_Rel k u v) (hk : k + 4 ≤ 2048) (v1 : Int32) : wpX_at (fun r u' => wpY_at (fun r' v' => r' = r ∧ i_Rel (k + 4) u' v') v v1) u v1 := by
  obtain ⟨pt, op, bW, bM, bY, bV, bS⟩ := u
  obtain ⟨sh, ct, aT, aF, aG, aM, aY, aW, aR, aN, aO, aK, aB⟩ := v
  obtain ⟨pr, mu, ma, wo, fr, tw, U, hP, hX, hY, hW, hH, hf⟩ := ma_un I
  have hx : ∀ x : Nat → Nat, ma_G (ma_w pr fr tw) U mu ma pr wo 54 x → (∀ j, j < 6 → x j ≤ 50) ∧ (∀ j, j < 6 → pr j = true → x j = mu j + (x j - mu j)) ∧ (∀ j, j < 6 → pr j = false → x j = 0) := fun x hG => by
    refine ⟨fun j hj => ?_, fun j hj p => ?_, fun j hj p => ?_⟩
    · have a := hG.1.2.1 j hj
      have b := ma_P6 hP hj
      omega
    · have a := hG.1.2.1 j hj
      omega
    · have a := hG.1.2.1 j hj
      have b := (hP j hj).2 p
      omega
  unfold wpX_at
  dsimp only
  rcases pk_ix v1 (n := 24) (by decide) with z | z | ⟨t, ht, rfl⟩
  · refine ma_isUnit0 (Or.inl z) (br_t rfl ?_)
    unfold wpY_at
    dsimp only
    obtain ⟨x, hG⟩ := ma_Gex (ma := ma) (pr := pr) (wo := wo) hf 54
    have q := hx x hG
    refine ma_tryAll hP hY hW (ma_G_Best hG) (fun _ _ _ _ _ aB' hB => ma_at7 hY.1 hW hB q.2.1 q.2.2 (fun aN' hN => ⟨1, br_t z (br_f (fun y => ?_) ⟨rfl, ma_rel hP hX hY hW hH hf⟩)⟩))
    exact absurd (Int32.lt_of_le_of_lt y z) (by decide)
  · refine ma_isUnit0 (Or.inr z) (br_t rfl ?_)
    unfold wpY_at
    dsimp only
    obtain ⟨x, hG⟩ := ma_Gex (ma := ma) (pr := pr) (wo := wo) hf 54
    have q := hx x hG
    exact ma_tryAll hP hY hW (ma_G_Best hG) (fun _ _ _ _ _ aB' hB => ma_at7 hY.1 hW hB q.2.1 q.2.2 (fun aN' hN => ⟨_, ma_far z hY hX.2.2.1 hX.2.1 24 0 x (-1) rfl q.1 q.2.2 _ aN' _ hN (fun aR' aN' => ⟨rfl, ma_rel hP hX hY hW hH hf⟩)⟩))
  · refine ma_isUnit1 ht (br_f (by decide) ?_)
    refine ma_shareBest hP hX.2.2.1 hX.2.1 hX.2.2.2.1 hX.2.2.2.2.1 hX.2.2.2.2.2 hf (fun bS' x e hG => ?_)
    have q := hx x hG
    obtain ⟨r, s1, s2⟩ := ma_steps (aM := aM) (aY := aY) (aW := aW) (pt := pt) (bM := bM) (bY := bY) (bV := bV) ht hX.2.2.1 hX.2.1 hY (t + 1) 0 x (-1) (Nat.zero_add _) q.1 q.2.2
    refine ⟨_, s1 bS' _ e (fun bS2 => ?_)⟩
    unfold wpY_at
    dsimp only
    exact ma_tryAll hP hY hW (ma_G_Best hG) (fun ct' aR' _ aO' aK' aB' hB => ma_at7 hY.1 hW hB q.2.1 q.2.2 (fun aN' hN => ⟨_, s2 ct' aR' aN' aO' aK' aB' _ hN (fun aR' aN' => ⟨rfl, ma_rel hP hX hY hW hH hf⟩)⟩))
end
