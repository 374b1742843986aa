/-! counting: how many i < n satisfy q -/
def cc_c (q : Nat → Bool) : Nat → Nat
  | 0 => 0
  | n + 1 => cc_c q n + (q n).toNat
theorem cc_s (q : Nat → Bool) (n : Nat) : cc_c q (n + 1) = cc_c q n + (q n).toNat := rfl
theorem cc_t {q : Nat → Bool} {n : Nat} (h : q n = true) : cc_c q (n + 1) = cc_c q n + 1 := by rw [cc_s, h]; rfl
theorem cc_f {q : Nat → Bool} {n : Nat} (h : q n = false) : cc_c q (n + 1) = cc_c q n := by rw [cc_s, h]; rfl
theorem cc_le (q : Nat → Bool) : ∀ n, cc_c q n ≤ n := by
  intro n
  induction n with
  | zero => exact Nat.le_refl _
  | succ n ih =>
    have h : (q n).toNat ≤ 1 := Bool.toNat_le _
    rw [cc_s]; omega
theorem cc_congr {q q' : Nat → Bool} : ∀ n, (∀ i, i < n → q i = q' i) → cc_c q n = cc_c q' n := by
  intro n
  induction n with
  | zero => intro _; rfl
  | succ n ih =>
    intro h
    rw [cc_s, cc_s, ih (fun i hi => h i (by omega)), h n (by omega)]
theorem cc_up {q : Nat → Bool} {a b : Nat} (h : a ≤ b) : cc_c q a ≤ cc_c q b := by
  obtain ⟨d, rfl⟩ : ∃ d, b = a + d := ⟨b - a, by omega⟩
  induction d with
  | zero => exact Nat.le_refl _
  | succ d ih =>
    have h1 := ih (by omega)
    rw [← Nat.add_assoc, cc_s]; omega
theorem cc_mono {q q' : Nat → Bool} : ∀ n, (∀ i, i < n → q i = true → q' i = true) → cc_c q n ≤ cc_c q' n := by
  intro n
  induction n with
  | zero => intro _; exact Nat.le_refl _
  | succ n ih =>
    intro h
    have h1 := ih (fun i hi => h i (by omega))
    have h2 := h n (by omega)
    rw [cc_s, cc_s]
    cases e : q n with
    | false => rw [Bool.toNat_false]; omega
    | true => rw [h2 e, Bool.toNat_true]; omega
theorem cc_all {q : Nat → Bool} : ∀ n, (∀ i, i < n → q i = true) → cc_c q n = n := by
  intro n
  induction n with
  | zero => intro _; rfl
  | succ n ih =>
    intro h
    rw [cc_t (h n (by omega)), ih (fun i hi => h i (by omega))]
theorem cc_none {q : Nat → Bool} : ∀ n, (∀ i, i < n → q i = false) → cc_c q n = 0 := by
  intro n
  induction n with
  | zero => intro _; rfl
  | succ n ih =>
    intro h
    rw [cc_f (h n (by omega)), ih (fun i hi => h i (by omega))]
/-- the two agree but at j -/
theorem cc_one {q q' : Nat → Bool} {j : Nat} : ∀ n, j < n → (∀ i, i < n → i ≠ j → q' i = q i) → cc_c q' n + (q j).toNat = cc_c q n + (q' j).toNat := by
  intro n
  induction n with
  | zero => intro h _; omega
  | succ n ih =>
    intro hj h
    rw [cc_s, cc_s]
    by_cases e : j = n
    · subst e
      rw [cc_congr (q := q') (q' := q) j (fun i hi => h i (by omega) (by omega))]; omega
    · have h1 := ih (by omega) (fun i hi hn => h i (by omega) hn)
      rw [h n (by omega) (by omega)]; omega
theorem cc_pos {q : Nat → Bool} : ∀ n, 0 < cc_c q n → ∃ i, i < n ∧ q i = true := by
  intro n
  induction n with
  | zero => intro h; exact absurd h (Nat.lt_irrefl _)
  | succ n ih =>
    intro h
    cases e : q n with
    | true => exact ⟨n, by omega, e⟩
    | false =>
      rw [cc_f e] at h
      obtain ⟨i, hi, hq⟩ := ih h
      exact ⟨i, by omega, hq⟩
theorem cc_has {q : Nat → Bool} {n i : Nat} (hi : i < n) (hq : q i = true) : 0 < cc_c q n := by
  have h1 := cc_up (q := q) (a := i + 1) (b := n) (by omega)
  rw [cc_t hq] at h1; omega
/-- every k below the count is the rank of some i -/
theorem cc_at {q : Nat → Bool} : ∀ n k, k < cc_c q n → ∃ i, i < n ∧ q i = true ∧ cc_c q i = k := by
  intro n
  induction n with
  | zero => intro k h; exact absurd h (Nat.not_lt_zero _)
  | succ n ih =>
    intro k h
    by_cases hk : k < cc_c q n
    · obtain ⟨i, hi, a, b⟩ := ih k hk
      exact ⟨i, by omega, a, b⟩
    · cases e : q n with
      | false => rw [cc_f e] at h; omega
      | true => rw [cc_t e] at h; exact ⟨n, by omega, e, by omega⟩
theorem cc_inj {q : Nat → Bool} {i j : Nat} (hi : q i = true) (hj : q j = true) (h : cc_c q i = cc_c q j) : i = j := by
  by_cases a : i < j
  · have h1 := cc_up (q := q) (a := i + 1) (b := j) (by omega)
    rw [cc_t hi] at h1; omega
  · by_cases b : j < i
    · have h1 := cc_up (q := q) (a := j + 1) (b := i) (by omega)
      rw [cc_t hj] at h1; omega
    · omega
