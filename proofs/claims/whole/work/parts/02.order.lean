/-! the order of tasks by a key below 54; the vector grown along it; positions; rank -/
def ma_key (wo : Nat → Nat) (j : Nat) : Nat := 6 * (9 - wo j) + j
def ma_D (pr : Nat → Bool) (wo : Nat → Nat) (e : Nat) : Nat → Bool := fun j => pr j && decide (ma_key wo j < e)
theorem ma_D_iff {pr : Nat → Bool} {wo : Nat → Nat} {e j : Nat} : ma_D pr wo e j = true ↔ pr j = true ∧ ma_key wo j < e := by
  unfold ma_D
  rw [Bool.and_eq_true, decide_eq_true_iff]
theorem ma_key_inj {wo : Nat → Nat} {i j : Nat} (hi : i < 6) (hj : j < 6) (h : ma_key wo i = ma_key wo j) : i = j := by
  unfold ma_key at h
  omega
theorem ma_key_lt {wo : Nat → Nat} {j : Nat} (hj : j < 6) (h : 1 ≤ wo j) : ma_key wo j < 54 := by
  unfold ma_key
  omega
theorem ma_D_0 (pr : Nat → Bool) (wo : Nat → Nat) (j : Nat) : ma_D pr wo 0 j = false := by
  cases h : ma_D pr wo 0 j with
  | false => rfl
  | true => exact absurd (ma_D_iff.mp h).2 (Nat.not_lt_zero _)
theorem ma_D_54 {pr : Nat → Bool} {wo : Nat → Nat} (hw : ∀ j, j < 6 → pr j = true → 1 ≤ wo j) : ∀ j, j < 6 → ma_D pr wo 54 j = pr j := by
  intro j hj
  rw [Bool.eq_iff_iff, ma_D_iff]
  exact ⟨fun h => h.1, fun h => ⟨h, ma_key_lt hj (hw j hj h)⟩⟩
theorem ma_D_skip {pr : Nat → Bool} {wo : Nat → Nat} {e : Nat} (h : ∀ j, j < 6 → pr j = true → ma_key wo j ≠ e) : ∀ j, j < 6 → ma_D pr wo (e + 1) j = ma_D pr wo e j := by
  intro j hj
  rw [Bool.eq_iff_iff, ma_D_iff, ma_D_iff]
  constructor
  · rintro ⟨a, b⟩
    have := h j hj a
    exact ⟨a, by omega⟩
  · rintro ⟨a, b⟩
    exact ⟨a, by omega⟩
theorem ma_D_grow {pr : Nat → Bool} {wo : Nat → Nat} {e j : Nat} (hj : j < 6) (hp : pr j = true) (he : ma_key wo j = e) : ∀ i, i < 6 → ma_D pr wo (e + 1) i = (ma_D pr wo e i || decide (i = j)) := by
  intro i hi
  rw [Bool.eq_iff_iff, Bool.or_eq_true, ma_D_iff, ma_D_iff, decide_eq_true_iff]
  constructor
  · rintro ⟨a, b⟩
    by_cases q : ma_key wo i = e
    · exact Or.inr (ma_key_inj hi hj (q.trans he.symm))
    · exact Or.inl ⟨a, by omega⟩
  · rintro (⟨a, b⟩ | rfl)
    · exact ⟨a, by omega⟩
    · exact ⟨hp, by omega⟩
theorem ma_D_at {pr : Nat → Bool} {wo : Nat → Nat} {e j : Nat} (h : e ≤ ma_key wo j) : ma_D pr wo e j = false := by
  cases q : ma_D pr wo e j with
  | false => rfl
  | true => exact absurd (ma_D_iff.mp q).2 (by omega)
theorem ma_on_skip {pr : Nat → Bool} {wo : Nat → Nat} {e : Nat} (h : ∀ j, j < 6 → pr j = true → ma_key wo j ≠ e) (y : Nat → Nat) : ma_on (ma_D pr wo (e + 1)) y = ma_on (ma_D pr wo e) y :=
  ma_on_eq (ma_D_skip h) fun _ _ _ => rfl
theorem ma_on_grow {pr : Nat → Bool} {wo : Nat → Nat} {e j : Nat} (hj : j < 6) (hp : pr j = true) (he : ma_key wo j = e) (y : Nat → Nat) : ma_on (ma_D pr wo (e + 1)) y = ma_on (ma_D pr wo e) y + y j := by
  have h := (ma_sum_one (fun i => if ma_D pr wo e i = true then y i else 0) j (y j) 6).1 hj
  rw [if_neg (by rw [ma_D_at (by omega)]; decide)] at h
  unfold ma_on
  rw [← h, Nat.add_zero]
  refine ma_sum_eq 6 fun i hi => ?_
  try dsimp only
  rw [ma_D_grow hj hp he i hi]
  by_cases e : i = j
  · rw [if_pos e, decide_eq_true e, Bool.or_true, if_pos rfl, e]
  · rw [if_neg e, decide_eq_false e, Bool.or_false]
/-! G: what holds of the shares when all keys below e have been grown -/
def ma_G (w : Nat → Nat → Bool) (U : Nat → Bool) (mu ma : Nat → Nat) (pr : Nat → Bool) (wo : Nat → Nat) (e : Nat) (x : Nat → Nat) : Prop :=
  ma_Inv w U mu ma (ma_D pr wo e) x ∧ ∀ y, ma_fit w U y → (∀ j, j < 6 → mu j ≤ y j ∧ y j ≤ mu j + ma j) → ∀ e', e' ≤ e → ma_on (ma_D pr wo e') y ≤ ma_on (ma_D pr wo e') x
theorem ma_G_0 {w : Nat → Nat → Bool} {U : Nat → Bool} {mu ma : Nat → Nat} {pr : Nat → Bool} {wo : Nat → Nat} (hf : ma_fit w U mu) : ma_G w U mu ma pr wo 0 mu :=
  have h := ma_Inv_0 (ma := ma) hf fun j _ => ma_D_0 pr wo j
  ⟨h, fun y hy hb e' he => by rw [Nat.le_zero.mp he]; exact ma_dom h hy hb⟩
theorem ma_G_skip {w : Nat → Nat → Bool} {U : Nat → Bool} {mu ma : Nat → Nat} {pr : Nat → Bool} {wo : Nat → Nat} {e : Nat} {x : Nat → Nat} (h : ma_G w U mu ma pr wo e x) (hk : ∀ j, j < 6 → pr j = true → ma_key wo j ≠ e) : ma_G w U mu ma pr wo (e + 1) x := by
  obtain ⟨⟨h1, h2, h3, T, hT, h4, h5⟩, h6⟩ := h
  have q := ma_D_skip hk
  refine ⟨⟨h1, h2, fun j hj h => h3 j hj (by rw [← q j hj]; exact h), T, hT, h4, fun j hj h => h5 j hj (by rw [← q j hj]; exact h)⟩, fun y hy hb e' he => ?_⟩
  by_cases c : e' ≤ e
  · exact h6 y hy hb e' c
  · have c' : e' = e + 1 := by omega
    rw [c', ma_on_skip hk, ma_on_skip hk]
    exact h6 y hy hb e (Nat.le_refl _)
theorem ma_G_grow {w : Nat → Nat → Bool} {U : Nat → Bool} {mu ma : Nat → Nat} {pr : Nat → Bool} {wo : Nat → Nat} {e : Nat} {x : Nat → Nat} {j v : Nat} (h : ma_G w U mu ma pr wo e x) (hj : j < 6) (hp : pr j = true) (he : ma_key wo j = e) (h1 : mu j ≤ v) (h2 : v ≤ mu j + ma j) (hf : ma_fit w U (ma_put x j v)) (hm : v = mu j + ma j ∨ ¬ ma_fit w U (ma_put x j (v + 1))) : ma_G w U mu ma pr wo (e + 1) (ma_put x j v) := by
  obtain ⟨hI, h6⟩ := h
  have hI' := ma_Inv_s hI hj (ma_D_at (by omega)) h1 h2 hf hm (ma_D_grow hj hp he)
  refine ⟨hI', fun y hy hb e' he' => ?_⟩
  by_cases c : e' ≤ e
  · refine Nat.le_trans (h6 y hy hb e' c) (Nat.le_of_eq (ma_on_eq (fun _ _ => rfl) fun i hi hd => ?_))
    have : i ≠ j := by
      intro q
      have := (ma_D_iff.mp hd).2
      rw [q] at this
      omega
    rw [ma_put_n this]
  · have c' : e' = e + 1 := by omega
    rw [c']
    exact ma_dom hI' hy hb
/-! the best kept vector -/
def ma_Best (w : Nat → Nat → Bool) (U : Nat → Bool) (mu ma : Nat → Nat) (pr : Nat → Bool) (wo : Nat → Nat) (kg : Nat → Nat) : Prop :=
  ma_fit w U (fun j => mu j + kg j) ∧ (∀ j, j < 6 → kg j ≤ ma j) ∧
  ∀ k : Nat → Nat, (∀ j, j < 6 → k j ≤ ma j) → ma_fit w U (fun j => mu j + k j) → ∀ e, e ≤ 54 → ma_on (ma_D pr wo e) k ≤ ma_on (ma_D pr wo e) kg
theorem ma_G_Best {w : Nat → Nat → Bool} {U : Nat → Bool} {mu ma : Nat → Nat} {pr : Nat → Bool} {wo : Nat → Nat} {x : Nat → Nat} (h : ma_G w U mu ma pr wo 54 x) : ma_Best w U mu ma pr wo (fun j => x j - mu j) := by
  obtain ⟨⟨h1, h2, _⟩, h6⟩ := h
  refine ⟨ma_fit_eq (fun j hj => ?_) h1, fun j hj => ?_, fun k hk hf e he => ?_⟩
  · have := h2 j hj
    try dsimp only
    omega
  · have := h2 j hj
    try dsimp only
    omega
  · have a := h6 _ hf (fun j hj => ⟨Nat.le_add_right _ _, Nat.add_le_add_left (hk j hj) _⟩) e he
    have b := ma_on_add (ma_D pr wo e) mu k
    have c := ma_on_add (ma_D pr wo e) mu (fun j => x j - mu j)
    have d : ma_on (ma_D pr wo e) (fun j => mu j + (x j - mu j)) = ma_on (ma_D pr wo e) x := ma_on_eq (fun _ _ => rfl) fun j hj _ => by
      have := h2 j hj
      try dsimp only
      omega
    omega
theorem ma_loss {pr : Nat → Bool} {wo k kg : Nat → Nat} (hw : ∀ j, j < 6 → pr j = true → 1 ≤ wo j ∧ wo j ≤ 9) (h : ∀ e, e ≤ 54 → ma_on (ma_D pr wo e) k ≤ ma_on (ma_D pr wo e) kg) : ma_on pr (fun j => wo j * k j) ≤ ma_on pr (fun j => wo j * kg j) := by
  have stp : ∀ n, n < 9 → ∀ y : Nat → Nat, ma_on pr (fun j => min (wo j) (n + 1) * y j) = ma_on pr (fun j => min (wo j) n * y j) + ma_on (ma_D pr wo (6 * (9 - n))) y := by
    intro n hn y
    unfold ma_on
    rw [← ma_sum_add]
    refine ma_sum_eq 6 fun j hj => ?_
    try dsimp only
    by_cases hp : pr j = true
    · have hw' := hw j hj hp
      rw [if_pos hp, if_pos hp]
      by_cases c : n + 1 ≤ wo j
      · rw [if_pos (ma_D_iff.mpr ⟨hp, by unfold ma_key; omega⟩), Nat.min_eq_right c, Nat.min_eq_right (by omega), Nat.succ_mul]
      · rw [if_neg (fun q => absurd (ma_D_iff.mp q).2 (by unfold ma_key; omega)), Nat.min_eq_left (by omega), Nat.min_eq_left (by omega), Nat.add_zero]
    · rw [if_neg hp, if_neg hp, if_neg (fun q => hp (ma_D_iff.mp q).1)]
  have all : ∀ n, n ≤ 9 → ma_on pr (fun j => min (wo j) n * k j) ≤ ma_on pr (fun j => min (wo j) n * kg j) := by
    intro n
    induction n with
    | zero =>
      intro _
      refine ma_on_le fun j _ _ => ?_
      rw [Nat.min_zero, Nat.zero_mul]
      exact Nat.zero_le _
    | succ n ih =>
      intro hn
      rw [stp n hn k, stp n hn kg]
      exact Nat.add_le_add (ih (by omega)) (h _ (by omega))
  have e : ∀ y : Nat → Nat, ma_on pr (fun j => min (wo j) 9 * y j) = ma_on pr (fun j => wo j * y j) := fun y =>
    ma_on_eq (fun _ _ => rfl) fun j hj hp => by
      try dsimp only
      rw [Nat.min_eq_left (hw j hj hp).2]
  rw [← e k, ← e kg]
  exact all 9 (Nat.le_refl _)
/-! rank: digits k p with greatest digit r p, read from position 0 -/
def ma_hr (r k : Nat → Nat) : Nat → Nat
  | 0 => 0
  | n + 1 => ma_hr r k n * (r n + 1) + k n
theorem ma_hr_dom {r k g : Nat → Nat} : ∀ n, (∀ i, i ≤ n → ma_sum k i ≤ ma_sum g i) → ma_hr r k n + ma_sum g n ≤ ma_hr r g n + ma_sum k n := by
  intro n
  induction n with
  | zero => intro _; exact Nat.le_refl _
  | succ n ih =>
    intro h
    have a := ih fun i hi => h i (by omega)
    have b := h n (by omega)
    have c : ma_hr r k n ≤ ma_hr r g n := by omega
    have d := Nat.mul_le_mul_right (r n) c
    simp only [ma_hr, ma_sum, Nat.mul_add, Nat.mul_one]
    omega
theorem ma_hr_inj {r k g : Nat → Nat} : ∀ n, (∀ p, p < n → k p ≤ r p) → (∀ p, p < n → g p ≤ r p) → ma_hr r k n = ma_hr r g n → ∀ p, p < n → k p = g p := by
  intro n
  induction n with
  | zero => intro _ _ _ p hp; exact absurd hp (Nat.not_lt_zero _)
  | succ n ih =>
    intro hk hg h
    have a := hk n (by omega)
    have b := hg n (by omega)
    simp only [ma_hr] at h
    have hh : ma_hr r k n = ma_hr r g n := by
      rcases Nat.lt_trichotomy (ma_hr r k n) (ma_hr r g n) with c | c | c
      · have d := Nat.mul_le_mul_right (r n + 1) (Nat.succ_le_of_lt c)
        rw [Nat.succ_mul] at d
        omega
      · exact c
      · have d := Nat.mul_le_mul_right (r n + 1) (Nat.succ_le_of_lt c)
        rw [Nat.succ_mul] at d
        omega
    rw [hh] at h
    intro p hp
    by_cases e : p = n
    · rw [e]; omega
    · exact ih (fun p hp => hk p (by omega)) (fun p hp => hg p (by omega)) hh p (by omega)
theorem ma_hr_lt {r k : Nat → Nat} : ∀ n, (∀ p, p < n → k p ≤ r p ∧ r p ≤ 6) → ma_hr r k n + 1 ≤ 7 ^ n := by
  intro n
  induction n with
  | zero => intro _; exact Nat.le_refl _
  | succ n ih =>
    intro h
    have a := ih fun p hp => h p (by omega)
    have b := h n (by omega)
    have c : (ma_hr r k n + 1) * (r n + 1) ≤ 7 ^ n * 7 := Nat.mul_le_mul a (by omega)
    rw [Nat.succ_mul] at c
    simp only [ma_hr, Nat.pow_succ]
    omega
theorem ma_hr_eq {r k g : Nat → Nat} : ∀ n, (∀ p, p < n → k p = g p) → ma_hr r k n = ma_hr r g n := by
  intro n
  induction n with
  | zero => intro _; rfl
  | succ n ih =>
    intro h
    simp only [ma_hr]
    rw [ih fun p hp => h p (by omega), h n (by omega)]
theorem ma_hr_zero {r k : Nat → Nat} : ∀ n, (∀ p, p < n → k p = 0) → ma_hr r k n = 0 := by
  intro n
  induction n with
  | zero => intro _; rfl
  | succ n ih =>
    intro h
    simp only [ma_hr]
    rw [ih fun p hp => h p (by omega), h n (by omega), Nat.zero_mul]
theorem ma_hr_tail {r a b : Nat → Nat} {n : Nat} (h : ma_hr r b n + 1 = ma_hr r a n) : ∀ m, (∀ p, n ≤ p → p < n + m → a p = 0 ∧ b p = r p) → ma_hr r b (n + m) + 1 = ma_hr r a (n + m) := by
  intro m
  induction m with
  | zero => intro _; exact h
  | succ m ih =>
    intro hp
    have c := ih fun p h1 h2 => hp p h1 (by omega)
    have d := hp (n + m) (by omega) (by omega)
    rw [← Nat.add_assoc]
    simp only [ma_hr]
    rw [d.1, d.2, ← c, Nat.succ_mul]
    omega
theorem ma_hr_next {r a b : Nat → Nat} {n N : Nat} (hn : n < N) (h1 : ∀ p, p < n → b p = a p) (h2 : b n + 1 = a n) (h3 : ∀ p, n < p → p < N → a p = 0 ∧ b p = r p) : ma_hr r b N + 1 = ma_hr r a N := by
  have h := ma_hr_tail (r := r) (a := a) (b := b) (n := n + 1) (by
    simp only [ma_hr]
    rw [ma_hr_eq n h1, ← h2, Nat.add_assoc]) (N - (n + 1)) fun p q1 q2 => h3 p (by omega) (by omega)
  rw [show n + 1 + (N - (n + 1)) = N by omega] at h
  exact h
/-! positions -/
def ma_cnt (pr : Nat → Bool) (wo : Nat → Nat) (e : Nat) : Nat := ma_on (ma_D pr wo e) (fun _ => 1)
theorem ma_cnt_0 (pr : Nat → Bool) (wo : Nat → Nat) : ma_cnt pr wo 0 = 0 := by
  refine (ma_sum_eq 6 fun j _ => ?_).trans (ma_sum_zero 6)
  rw [ma_D_0]; rfl
theorem ma_cnt_s {pr : Nat → Bool} {wo : Nat → Nat} {j : Nat} (hj : j < 6) (hp : pr j = true) : ma_cnt pr wo (ma_key wo j + 1) = ma_cnt pr wo (ma_key wo j) + 1 :=
  ma_on_grow hj hp rfl _
theorem ma_cnt_le {pr : Nat → Bool} {wo : Nat → Nat} {e e' : Nat} (h : e ≤ e') : ma_cnt pr wo e ≤ ma_cnt pr wo e' := by
  refine ma_sum_le 6 fun j _ => ?_
  try dsimp only
  by_cases c : ma_D pr wo e j = true
  · have q := ma_D_iff.mp c
    rw [if_pos c, if_pos (ma_D_iff.mpr ⟨q.1, by omega⟩)]
    exact Nat.le_refl _
  · rw [if_neg c]; exact Nat.zero_le _
theorem ma_cnt_6 (pr : Nat → Bool) (wo : Nat → Nat) (e : Nat) : ma_cnt pr wo e ≤ 6 := by
  have h : ma_cnt pr wo e ≤ ma_sum (fun _ => 1) 6 := ma_sum_le 6 fun j _ => by
    try dsimp only
    split
    · exact Nat.le_refl _
    · exact Nat.zero_le _
  exact h
theorem ma_pos_lt {pr : Nat → Bool} {wo : Nat → Nat} {i j : Nat} (hi : i < 6) (hp : pr i = true) (h : ma_key wo i < ma_key wo j) : ma_cnt pr wo (ma_key wo i) < ma_cnt pr wo (ma_key wo j) := by
  have a := ma_cnt_s hi hp (wo := wo)
  have b := ma_cnt_le (pr := pr) (wo := wo) (show ma_key wo i + 1 ≤ ma_key wo j from h)
  omega
theorem ma_no {pr : Nat → Bool} {wo : Nat → Nat} (e : Nat) : (∃ j, j < 6 ∧ pr j = true ∧ ma_key wo j = e) ∨ ∀ j, j < 6 → pr j = true → ma_key wo j ≠ e := by
  rcases Classical.em (∃ j, j < 6 ∧ pr j = true ∧ ma_key wo j = e) with h | h
  · exact Or.inl h
  · exact Or.inr fun j hj hp q => h ⟨j, hj, hp, q⟩
theorem ma_pos_on {pr : Nat → Bool} {wo : Nat → Nat} : ∀ e n, n < ma_cnt pr wo e → ∃ j, j < 6 ∧ pr j = true ∧ ma_key wo j < e ∧ ma_cnt pr wo (ma_key wo j) = n := by
  intro e
  induction e with
  | zero => intro n hn; rw [ma_cnt_0] at hn; exact absurd hn (Nat.not_lt_zero _)
  | succ e ih =>
    intro n hn
    by_cases c : n < ma_cnt pr wo e
    · obtain ⟨j, h1, h2, h3, h4⟩ := ih n c
      exact ⟨j, h1, h2, by omega, h4⟩
    · rcases ma_no (pr := pr) (wo := wo) e with ⟨j, hj, hp, he⟩ | h
      · have a := ma_cnt_s hj hp (wo := wo)
        rw [he] at a
        exact ⟨j, hj, hp, by omega, by rw [he]; omega⟩
      · have a : ma_cnt pr wo (e + 1) = ma_cnt pr wo e := ma_on_skip h _
        omega
theorem ma_ord_sum {pr : Nat → Bool} {wo ord : Nat → Nat} (ho : ∀ j, j < 6 → pr j = true → ord (ma_cnt pr wo (ma_key wo j)) = j) (y : Nat → Nat) : ∀ e, ma_sum (fun p => y (ord p)) (ma_cnt pr wo e) = ma_on (ma_D pr wo e) y := by
  intro e
  induction e with
  | zero =>
    rw [ma_cnt_0]
    refine Eq.symm ((ma_sum_eq 6 fun j _ => ?_).trans (ma_sum_zero 6))
    rw [ma_D_0]; rfl
  | succ e ih =>
    rcases ma_no (pr := pr) (wo := wo) e with ⟨j, hj, hp, he⟩ | h
    · have a := ma_cnt_s hj hp (wo := wo)
      have b := ho j hj hp
      rw [he] at a b
      rw [a, ma_on_grow hj hp he, ← ih]
      simp only [ma_sum]
      rw [b]
    · have a : ma_cnt pr wo (e + 1) = ma_cnt pr wo e := ma_on_skip h _
      rw [a, ma_on_skip h, ih]
theorem ma_ord_pre {pr : Nat → Bool} {wo ord k g : Nat → Nat} (ho : ∀ j, j < 6 → pr j = true → ord (ma_cnt pr wo (ma_key wo j)) = j) (h : ∀ e, e ≤ 54 → ma_on (ma_D pr wo e) k ≤ ma_on (ma_D pr wo e) g) : ∀ i, i ≤ ma_cnt pr wo 54 → ma_sum (fun p => k (ord p)) i ≤ ma_sum (fun p => g (ord p)) i := by
  intro i hi
  have hx : ∃ e, e ≤ 54 ∧ ma_cnt pr wo e = i := by
    by_cases c : i < ma_cnt pr wo 54
    · obtain ⟨j, _, _, h3, h4⟩ := ma_pos_on 54 i c
      exact ⟨_, Nat.le_of_lt h3, h4⟩
    · exact ⟨54, Nat.le_refl _, by omega⟩
  obtain ⟨e, he, rfl⟩ := hx
  rw [ma_ord_sum ho, ma_ord_sum ho]
  exact h e he
def ma_rk (ma ord : Nat → Nat) (N : Nat) (k : Nat → Nat) : Nat := ma_hr (fun p => ma (ord p)) (fun p => k (ord p)) N
theorem ma_rk_le {w : Nat → Nat → Bool} {U : Nat → Bool} {mu ma : Nat → Nat} {pr : Nat → Bool} {wo kg ord k : Nat → Nat} (hB : ma_Best w U mu ma pr wo kg) (ho : ∀ j, j < 6 → pr j = true → ord (ma_cnt pr wo (ma_key wo j)) = j) (hk : ∀ j, j < 6 → k j ≤ ma j) (hf : ma_fit w U (fun j => mu j + k j)) : ma_rk ma ord (ma_cnt pr wo 54) k ≤ ma_rk ma ord (ma_cnt pr wo 54) kg := by
  have a := ma_ord_pre ho (hB.2.2 k hk hf)
  have b := ma_hr_dom (r := fun p => ma (ord p)) _ a
  have c := a _ (Nat.le_refl _)
  unfold ma_rk
  omega
theorem ma_ord_lt {pr : Nat → Bool} {wo ord : Nat → Nat} (ho : ∀ j, j < 6 → pr j = true → ord (ma_cnt pr wo (ma_key wo j)) = j) {p : Nat} (hp : p < ma_cnt pr wo 54) : ord p < 6 ∧ pr (ord p) = true ∧ ma_cnt pr wo (ma_key wo (ord p)) = p := by
  obtain ⟨j, hj, h2, _, h4⟩ := ma_pos_on 54 p hp
  have := ho j hj h2
  rw [h4] at this
  rw [this]
  exact ⟨hj, h2, h4⟩
theorem ma_rk_inj {pr : Nat → Bool} {wo ord ma k g : Nat → Nat} (hw : ∀ j, j < 6 → pr j = true → 1 ≤ wo j) (ho : ∀ j, j < 6 → pr j = true → ord (ma_cnt pr wo (ma_key wo j)) = j) (hk : ∀ j, j < 6 → pr j = true → k j ≤ ma j) (hg : ∀ j, j < 6 → pr j = true → g j ≤ ma j) (h : ma_rk ma ord (ma_cnt pr wo 54) k = ma_rk ma ord (ma_cnt pr wo 54) g) : ∀ j, j < 6 → pr j = true → k j = g j := by
  intro j hj hp
  have a := ma_hr_inj (r := fun p => ma (ord p)) (k := fun p => k (ord p)) (g := fun p => g (ord p)) (ma_cnt pr wo 54)
    (fun p hp => have q := ma_ord_lt ho hp; hk _ q.1 q.2.1) (fun p hp => have q := ma_ord_lt ho hp; hg _ q.1 q.2.1) h
    (ma_cnt pr wo (ma_key wo j)) (by
      have c := ma_cnt_s hj hp (wo := wo)
      have d := ma_cnt_le (pr := pr) (wo := wo) (show ma_key wo j + 1 ≤ 54 from ma_key_lt hj (hw j hj hp))
      omega)
  try dsimp only at a
  rw [ho j hj hp] at a
  exact a
