section
theorem pk_us {f : Nat → Int32} {k : Nat} {x : Int32} : upd f k x k = x := if_pos rfl
theorem pk_un {f : Nat → Int32} {k j : Nat} {x : Int32} (h : j ≠ k) : upd f k x j = f j := if_neg h
theorem pk_sub {a b : Nat} (h : b ≤ a) : nI a - nI b = nI (a - b) := by
  obtain ⟨c, rfl⟩ : ∃ c, a = c + b := ⟨a - b, by omega⟩
  rw [← nI_add, Int32.add_sub_cancel, Nat.add_sub_cancel]
theorem pk_m1 (n : Nat) : nI (n + 1) + (-1) = nI n := by
  rw [← nI_1, Int32.add_assoc, show (1 : Int32) + (-1) = 0 from rfl, Int32.add_zero]
theorem pk_ix (x : Int32) {n : Nat} (hn : n < 2 ^ 31) : x < 0 ∨ nI n ≤ x ∨ ∃ j : Nat, j < n ∧ x = nI j := by
  by_cases h : x < 0
  · exact Or.inl h
  · obtain ⟨j, hj, rfl⟩ := nI_of h
    by_cases h2 : j < n
    · exact Or.inr (Or.inr ⟨j, h2, rfl⟩)
    · exact Or.inr (Or.inl (nI_le (by omega) hj))
theorem pk_le {x y : Int32} {A B : Prop} (a b : Nat) (f : a ≤ b → A) (g : b < a → B) (hx : x = nI a := by rfl) (hy : y = nI b := by rfl) (ha : a < 2 ^ 31 := by omega) (hb : b < 2 ^ 31 := by omega) : (x ≤ y → A) ∧ (¬ x ≤ y → B) := by
  subst hx hy
  rw [nI_leI ha hb]
  exact ⟨f, fun z => g (by omega)⟩
theorem pk_lt {x y : Int32} {A B : Prop} (a b : Nat) (f : a < b → A) (g : b ≤ a → B) (hx : x = nI a := by rfl) (hy : y = nI b := by rfl) (ha : a < 2 ^ 31 := by omega) (hb : b < 2 ^ 31 := by omega) : (x < y → A) ∧ (¬ x < y → B) := by
  subst hx hy
  rw [nI_ltI ha hb]
  exact ⟨f, fun z => g (by omega)⟩
theorem pk_eq {x y : Int32} {A B : Prop} (a b : Nat) (f : a = b → A) (g : a ≠ b → B) (hx : x = nI a := by rfl) (hy : y = nI b := by rfl) (ha : a < 2 ^ 31 := by omega) (hb : b < 2 ^ 31 := by omega) : (x = y → A) ∧ (¬ x = y → B) := by
  subst hx hy
  rw [nI_eq ha hb]
  exact ⟨f, g⟩
theorem pk_in {x : Int32} (n N : Nat) (h : n < N) (hx : x = nI n := by rfl) (hN : N < 2 ^ 31 := by omega) : vp_in x N := by
  subst hx
  exact vp_in_nI h hN
theorem pk_cl {x : Int32} (n : Nat) (hx : x = nI n := by rfl) (h : n < 2 ^ 31 := by omega) : x.toNatClampNeg = n := by
  subst hx
  exact nI_clamp h
theorem pk_loop {σ : Type} (W : Nat → Nat → σ → Prop) (I : Nat → σ → Prop) (e i0 : Nat) (s : σ) (hi : i0 ≤ e) (h0 : I i0 s) (hx : ∀ n s, I e s → W (n + 1) e s)
    (hs : ∀ n i s, i < e → I i s → (∀ s', I (i + 1) s' → W n (i + 1) s') → W (n + 1) i s) : ∃ n, W n i0 s :=
  ⟨e + 1, loop_i W I e hx hs (e + 1) i0 s hi (by omega) h0⟩
theorem pk_loopD {σ : Type} (W : Nat → Nat → σ → Prop) (I : Nat → σ → Prop) (hx : ∀ n s, I 0 s → W (n + 1) 0 s)
    (hs : ∀ n i s, I (i + 1) s → (∀ s', I i s' → W n i s') → W (n + 1) (i + 1) s) : ∀ (e : Nat) (s : σ), I e s → W (e + 1) e s := by
  intro e
  induction e with
  | zero => exact fun s h => hx 0 s h
  | succ e ih => exact fun s h => hs (e + 1) e s h (fun s' h' => ih s' h')
end
section
/-! counting: how many i < n satisfy q -/
def cc_c (q : Nat → Bool) : Nat → Nat
  | 0 => 0
  | n + 1 => cc_c q n + (q n).toNat
theorem cc_s (q : Nat → Bool) (n : Nat) : cc_c q (n + 1) = cc_c q n + (q n).toNat := rfl
theorem cc_t {q : Nat → Bool} {n : Nat} (h : q n = true) : cc_c q (n + 1) = cc_c q n + 1 := by rw [cc_s, h]; rfl
theorem cc_f {q : Nat → Bool} {n : Nat} (h : q n = false) : cc_c q (n + 1) = cc_c q n := by rw [cc_s, h]; rfl
theorem cc_le (q : Nat → Bool) : ∀ n, cc_c q n ≤ n := by
  intro n
  induction n with
  | zero => exact Nat.le_refl _
  | succ n ih =>
    have h : (q n).toNat ≤ 1 := Bool.toNat_le _
    rw [cc_s]; omega
theorem cc_congr {q q' : Nat → Bool} : ∀ n, (∀ i, i < n → q i = q' i) → cc_c q n = cc_c q' n := by
  intro n
  induction n with
  | zero => intro _; rfl
  | succ n ih =>
    intro h
    rw [cc_s, cc_s, ih (fun i hi => h i (by omega)), h n (by omega)]
theorem cc_up {q : Nat → Bool} {a b : Nat} (h : a ≤ b) : cc_c q a ≤ cc_c q b := by
  obtain ⟨d, rfl⟩ : ∃ d, b = a + d := ⟨b - a, by omega⟩
  induction d with
  | zero => exact Nat.le_refl _
  | succ d ih =>
    have h1 := ih (by omega)
    rw [← Nat.add_assoc, cc_s]; omega
theorem cc_mono {q q' : Nat → Bool} : ∀ n, (∀ i, i < n → q i = true → q' i = true) → cc_c q n ≤ cc_c q' n := by
  intro n
  induction n with
  | zero => intro _; exact Nat.le_refl _
  | succ n ih =>
    intro h
    have h1 := ih (fun i hi => h i (by omega))
    have h2 := h n (by omega)
    rw [cc_s, cc_s]
    cases e : q n with
    | false => rw [Bool.toNat_false]; omega
    | true => rw [h2 e, Bool.toNat_true]; omega
theorem cc_all {q : Nat → Bool} : ∀ n, (∀ i, i < n → q i = true) → cc_c q n = n := by
  intro n
  induction n with
  | zero => intro _; rfl
  | succ n ih =>
    intro h
    rw [cc_t (h n (by omega)), ih (fun i hi => h i (by omega))]
theorem cc_none {q : Nat → Bool} : ∀ n, (∀ i, i < n → q i = false) → cc_c q n = 0 := by
  intro n
  induction n with
  | zero => intro _; rfl
  | succ n ih =>
    intro h
    rw [cc_f (h n (by omega)), ih (fun i hi => h i (by omega))]
/-- the two agree but at j -/
theorem cc_one {q q' : Nat → Bool} {j : Nat} : ∀ n, j < n → (∀ i, i < n → i ≠ j → q' i = q i) → cc_c q' n + (q j).toNat = cc_c q n + (q' j).toNat := by
  intro n
  induction n with
  | zero => intro h _; omega
  | succ n ih =>
    intro hj h
    rw [cc_s, cc_s]
    by_cases e : j = n
    · subst e
      rw [cc_congr (q := q') (q' := q) j (fun i hi => h i (by omega) (by omega))]; omega
    · have h1 := ih (by omega) (fun i hi hn => h i (by omega) hn)
      rw [h n (by omega) (by omega)]; omega
theorem cc_pos {q : Nat → Bool} : ∀ n, 0 < cc_c q n → ∃ i, i < n ∧ q i = true := by
  intro n
  induction n with
  | zero => intro h; exact absurd h (Nat.lt_irrefl _)
  | succ n ih =>
    intro h
    cases e : q n with
    | true => exact ⟨n, by omega, e⟩
    | false =>
      rw [cc_f e] at h
      obtain ⟨i, hi, hq⟩ := ih h
      exact ⟨i, by omega, hq⟩
theorem cc_has {q : Nat → Bool} {n i : Nat} (hi : i < n) (hq : q i = true) : 0 < cc_c q n := by
  have h1 := cc_up (q := q) (a := i + 1) (b := n) (by omega)
  rw [cc_t hq] at h1; omega
/-- every k below the count is the rank of some i -/
theorem cc_at {q : Nat → Bool} : ∀ n k, k < cc_c q n → ∃ i, i < n ∧ q i = true ∧ cc_c q i = k := by
  intro n
  induction n with
  | zero => intro k h; exact absurd h (Nat.not_lt_zero _)
  | succ n ih =>
    intro k h
    by_cases hk : k < cc_c q n
    · obtain ⟨i, hi, a, b⟩ := ih k hk
      exact ⟨i, by omega, a, b⟩
    · cases e : q n with
      | false => rw [cc_f e] at h; omega
      | true => rw [cc_t e] at h; exact ⟨n, by omega, e, by omega⟩
theorem cc_inj {q : Nat → Bool} {i j : Nat} (hi : q i = true) (hj : q j = true) (h : cc_c q i = cc_c q j) : i = j := by
  by_cases a : i < j
  · have h1 := cc_up (q := q) (a := i + 1) (b := j) (by omega)
    rw [cc_t hi] at h1; omega
  · by_cases b : j < i
    · have h1 := cc_up (q := q) (a := j + 1) (b := i) (by omega)
      rw [cc_t hj] at h1; omega
    · omega
end
section
/-! the cuts: an ascending array f on one side, any array g of the same content on the other -/
def cu_asc (f : Nat → Int32) (n : Nat) : Prop := ∀ i j, i < j → j < n → f i < f j
/-- how many of the first n are at most v -/
def cu_to (f : Nat → Int32) (n : Nat) (v : Int32) : Nat := cc_c (fun i => decide (f i ≤ v)) n
def cu_same (f g : Nat → Int32) (n : Nat) : Prop := ∀ p : Int32 → Bool, cc_c (fun i => p (f i)) n = cc_c (fun i => p (g i)) n
theorem cu_to_le (f : Nat → Int32) (n : Nat) (v : Int32) : cu_to f n v ≤ n := cc_le _ n
theorem cu_lt_le {a b c : Int32} (h : a < b) (h2 : b ≤ c) : a ≤ c := by
  rw [Int32.lt_iff_toInt_lt] at h
  rw [Int32.le_iff_toInt_le] at h2 ⊢
  omega
theorem cu_split {f : Nat → Int32} {v : Int32} : ∀ n, cu_asc f n → ∀ i, i < n → (f i ≤ v ↔ i < cu_to f n v) := by
  intro n
  induction n with
  | zero => intro _ i hi; omega
  | succ n ih =>
    intro h i hi
    have h1 := ih (fun a b hab hb => h a b hab (by omega))
    by_cases e : f n ≤ v
    · have ha : ∀ j, j < n + 1 → f j ≤ v := by
        intro j hj
        by_cases z : j = n
        · rw [z]; exact e
        · exact cu_lt_le (h j n (by omega) (by omega)) e
      have hc : cu_to f (n + 1) v = n + 1 := cc_all (n + 1) (fun j hj => decide_eq_true (ha j hj))
      rw [hc]
      exact ⟨fun _ => hi, fun _ => ha i hi⟩
    · have hc : cu_to f (n + 1) v = cu_to f n v := cc_f (decide_eq_false e)
      have hl := cu_to_le f n v
      rw [hc]
      by_cases z : i = n
      · rw [z]
        exact ⟨fun x => absurd x e, fun x => by omega⟩
      · exact h1 i (by omega)
theorem cu_rank {f : Nat → Int32} {n j : Nat} (h : cu_asc f n) (hj : j < n) : cu_to f n (f j) = j + 1 := by
  have h1 := (cu_split (v := f j) n h j hj).mp (Int32.le_refl _)
  have h2 := cu_to_le f n (f j)
  by_cases e : j + 1 < n
  · have h3 : ¬ f (j + 1) ≤ f j := by
      have h4 := h j (j + 1) (by omega) e
      rw [Int32.lt_iff_toInt_lt] at h4
      rw [Int32.le_iff_toInt_le]
      omega
    have h5 := mt (cu_split (v := f j) n h (j + 1) e).mpr h3
    omega
  · omega
theorem cu_same_to {f g : Nat → Int32} {n : Nat} (h : cu_same f g n) (v : Int32) : cu_to f n v = cu_to g n v := h (fun x => decide (x ≤ v))
theorem cu_same_symm {f g : Nat → Int32} {n : Nat} (h : cu_same f g n) : cu_same g f n := fun p => (h p).symm
theorem cu_same_mem {f g : Nat → Int32} {n i : Nat} (h : cu_same f g n) (hi : i < n) : ∃ j, j < n ∧ g j = f i := by
  have h1 : 0 < cc_c (fun j => decide (f j = f i)) n := cc_has hi (decide_eq_true rfl)
  have h2 := h (fun x => decide (x = f i))
  rw [show cc_c (fun j => decide (f j = f i)) n = cc_c (fun j => decide (g j = f i)) n from h2] at h1
  obtain ⟨j, hj, e⟩ := cc_pos n h1
  exact ⟨j, hj, of_decide_eq_true e⟩
/-- of the same content as an ascending one: the number up to g i is the place of g i there, plus one -/
theorem cu_same_rank {f g : Nat → Int32} {n i : Nat} (ha : cu_asc f n) (h : cu_same f g n) (hi : i < n) : ∃ j, j < n ∧ f j = g i ∧ cu_to g n (g i) = j + 1 := by
  obtain ⟨j, hj, e⟩ := cu_same_mem (cu_same_symm h) hi
  refine ⟨j, hj, e, ?_⟩
  rw [← cu_same_to h, ← e, cu_rank ha hj]
/-! insertion -/
/-- the entries above k moved up by one, up to n -/
def cu_sh (f : Nat → Int32) (n k : Nat) : Nat → Int32 := fun i => if k < i ∧ i ≤ n then f (i - 1) else f i
theorem cu_sh0 (f : Nat → Int32) (n : Nat) : cu_sh f n n = f := by
  funext i
  exact if_neg (fun h => by omega)
theorem cu_shs (f : Nat → Int32) {n k : Nat} (hk : k + 1 ≤ n) : upd (cu_sh f n (k + 1)) (k + 1) (cu_sh f n (k + 1) k) = cu_sh f n k := by
  funext i
  unfold upd cu_sh
  by_cases e : i = k + 1
  · subst e
    rw [if_pos rfl, if_neg (by omega), if_pos (by omega)]
    rfl
  · rw [if_neg e]
    by_cases a : k + 1 < i ∧ i ≤ n
    · rw [if_pos a, if_pos (by omega)]
    · rw [if_neg a, if_neg (by omega)]
def cu_ins (f : Nat → Int32) (n p : Nat) (v : Int32) : Nat → Int32 := upd (cu_sh f n p) p v
theorem cu_ins_lo {f : Nat → Int32} {n p i : Nat} {v : Int32} (h : i < p) : cu_ins f n p v i = f i := by
  unfold cu_ins upd cu_sh
  rw [if_neg (by omega), if_neg (by omega)]
theorem cu_ins_at {f : Nat → Int32} {n p : Nat} {v : Int32} : cu_ins f n p v p = v := if_pos rfl
theorem cu_ins_hi {f : Nat → Int32} {n p i : Nat} {v : Int32} (h : p < i) (hn : i ≤ n) : cu_ins f n p v i = f (i - 1) := by
  unfold cu_ins upd cu_sh
  rw [if_neg (by omega), if_pos ⟨h, hn⟩]
theorem cu_ins_asc {f : Nat → Int32} {n p : Nat} {v : Int32} (ha : cu_asc f n) (hp : p ≤ n) (h1 : ∀ i, i < p → f i < v) (h2 : ∀ i, p ≤ i → i < n → v < f i) : cu_asc (cu_ins f n p v) (n + 1) := by
  intro i j hij hj
  by_cases a : i < p
  · rw [cu_ins_lo a]
    by_cases b : j < p
    · rw [cu_ins_lo b]; exact ha i j hij (by omega)
    · by_cases c : j = p
      · rw [c, cu_ins_at]; exact h1 i a
      · rw [cu_ins_hi (by omega) (by omega)]; exact ha i (j - 1) (by omega) (by omega)
  · by_cases c : i = p
    · rw [c, cu_ins_at, cu_ins_hi (by omega) (by omega)]; exact h2 (j - 1) (by omega) (by omega)
    · rw [cu_ins_hi (by omega) (by omega), cu_ins_hi (by omega) (by omega)]; exact ha (i - 1) (j - 1) (by omega) (by omega)
theorem cu_ins_n {f : Nat → Int32} {n p : Nat} {v : Int32} (q : Int32 → Bool) : ∀ d, p + d ≤ n → cc_c (fun i => q (cu_ins f n p v i)) (p + d + 1) = cc_c (fun i => q (f i)) (p + d) + (q v).toNat := by
  intro d
  induction d with
  | zero =>
    intro _
    rw [cc_s]
    show cc_c (fun i => q (cu_ins f n p v i)) p + (q (cu_ins f n p v p)).toNat = cc_c (fun i => q (f i)) p + (q v).toNat
    rw [cu_ins_at, cc_congr (q' := fun i => q (f i)) p (fun i hi => by show q (cu_ins f n p v i) = _; rw [cu_ins_lo hi])]
  | succ d ih =>
    intro h
    have e := ih (by omega)
    rw [← Nat.add_assoc, cc_s, e]
    show _ + (q (cu_ins f n p v (p + d + 1))).toNat = cc_c (fun i => q (f i)) (p + d) + (q (f (p + d))).toNat + _
    rw [cu_ins_hi (by omega) (by omega), show p + d + 1 - 1 = p + d from rfl]
    omega
theorem cu_app_n (g : Nat → Int32) (n : Nat) (v : Int32) (q : Int32 → Bool) : cc_c (fun i => q (upd g n v i)) (n + 1) = cc_c (fun i => q (g i)) n + (q v).toNat := by
  rw [cc_s]
  show cc_c (fun i => q (upd g n v i)) n + (q (upd g n v n)).toNat = _
  rw [pk_us, cc_congr (q' := fun i => q (g i)) n (fun i hi => by show q (upd g n v i) = _; rw [pk_un (by omega)])]
theorem cu_ins_same {f g : Nat → Int32} {n p : Nat} {v : Int32} (h : cu_same f g n) (hp : p ≤ n) : cu_same (cu_ins f n p v) (upd g n v) (n + 1) := by
  intro q
  have e := cu_ins_n (f := f) (n := n) (p := p) (v := v) q (n - p) (by omega)
  rw [show p + (n - p) = n from by omega] at e
  rw [e, cu_app_n, h q]
/-! removal -/
/-- the entries from k on moved down by one, those below m - 1 -/
def cu_rm (f : Nat → Int32) (k m : Nat) : Nat → Int32 := fun j => if k ≤ j ∧ j + 1 < m then f (j + 1) else f j
theorem cu_rm0 (f : Nat → Int32) (k : Nat) : cu_rm f k (k + 1) = f := by
  funext i
  exact if_neg (fun h => by omega)
theorem cu_rms (f : Nat → Int32) {k m : Nat} (h : k < m) : upd (cu_rm f k m) (m - 1) (cu_rm f k m m) = cu_rm f k (m + 1) := by
  funext j
  unfold upd cu_rm
  by_cases e : j = m - 1
  · subst e
    rw [if_pos rfl, if_neg (by omega), if_pos (by omega), show m - 1 + 1 = m from by omega]
  · rw [if_neg e]
    by_cases a : k ≤ j ∧ j + 1 < m
    · rw [if_pos a, if_pos (by omega)]
    · rw [if_neg a, if_neg (by omega)]
theorem cu_rm_lo {f : Nat → Int32} {k m j : Nat} (h : j < k) : cu_rm f k m j = f j := if_neg (fun z => by omega)
theorem cu_rm_hi {f : Nat → Int32} {k m j : Nat} (h : k ≤ j) (hm : j + 1 < m) : cu_rm f k m j = f (j + 1) := if_pos ⟨h, hm⟩
theorem cu_rm_asc {f : Nat → Int32} {k n : Nat} (ha : cu_asc f (n + 1)) : cu_asc (cu_rm f k (n + 1)) n := by
  intro i j hij hj
  by_cases a : i < k
  · rw [cu_rm_lo a]
    by_cases b : j < k
    · rw [cu_rm_lo b]; exact ha i j hij (by omega)
    · rw [cu_rm_hi (by omega) (by omega)]; exact ha i (j + 1) (by omega) (by omega)
  · rw [cu_rm_hi (by omega) (by omega), cu_rm_hi (by omega) (by omega)]; exact ha (i + 1) (j + 1) (by omega) (by omega)
theorem cu_rm_n {f : Nat → Int32} {k n : Nat} (q : Int32 → Bool) : ∀ d, k + d ≤ n → cc_c (fun i => q (cu_rm f k (n + 1) i)) (k + d) + (q (f k)).toNat = cc_c (fun i => q (f i)) (k + d + 1) := by
  intro d
  induction d with
  | zero =>
    intro _
    rw [cc_s]
    show cc_c (fun i => q (cu_rm f k (n + 1) i)) k + _ = cc_c (fun i => q (f i)) k + _
    rw [cc_congr (q' := fun i => q (f i)) k (fun i hi => by show q (cu_rm f k (n + 1) i) = _; rw [cu_rm_lo hi])]
  | succ d ih =>
    intro h
    have e := ih (by omega)
    rw [← Nat.add_assoc, cc_s, cc_s, ← e]
    show _ + (q (cu_rm f k (n + 1) (k + d))).toNat + _ = _ + (q (f (k + d + 1))).toNat
    rw [cu_rm_hi (by omega) (by omega)]
    omega
/-- the last entry put in the place of the one that goes -/
theorem cu_last_n (g : Nat → Int32) {n a : Nat} (h : a ≤ n) (q : Int32 → Bool) : cc_c (fun i => q (upd g a (g n) i)) n + (q (g a)).toNat = cc_c (fun i => q (g i)) (n + 1) := by
  rw [cc_s]
  by_cases e : a = n
  · subst e
    rw [cc_congr (q' := fun i => q (g i)) a (fun i hi => by show q (upd g a (g a) i) = _; rw [pk_un (by omega)])]
  · have h1 := cc_one (q := fun i => q (g i)) (q' := fun i => q (upd g a (g n) i)) (j := a) n (by omega) (fun i _ hn => by show q (upd g a (g n) i) = q (g i); rw [pk_un hn])
    rw [show (q (upd g a (g n) a)) = q (g n) from by rw [pk_us]] at h1
    exact h1
theorem cu_rm_same {f g : Nat → Int32} {k n a : Nat} (h : cu_same f g (n + 1)) (hk : k ≤ n) (hn : a ≤ n) (e : g a = f k) : cu_same (cu_rm f k (n + 1)) (upd g a (g n)) n := by
  intro q
  have h1 := cu_rm_n (f := f) (k := k) (n := n) q (n - k) (by omega)
  rw [show k + (n - k) = n from by omega] at h1
  have h2 := cu_last_n g hn q
  have h3 := h q
  rw [e] at h2
  omega
end
section
/-! the rows: state and value by id -/
def ro_in (lo hi x : Int32) : Bool := decide (lo ≤ x) && decide (x < hi)
def ro_two (a b s : Int32) : Bool := decide (s = a) || decide (s = b)
theorem ro_in_t {lo hi x : Int32} (h1 : lo ≤ x) (h2 : x < hi) : ro_in lo hi x = true := by
  unfold ro_in; rw [decide_eq_true h1, decide_eq_true h2]; rfl
theorem ro_in_f1 {lo hi x : Int32} (h1 : ¬ lo ≤ x) : ro_in lo hi x = false := by
  unfold ro_in; rw [decide_eq_false h1]; rfl
theorem ro_in_f2 {lo hi x : Int32} (h2 : ¬ x < hi) : ro_in lo hi x = false := by
  unfold ro_in; rw [decide_eq_false h2, Bool.and_false]
theorem ro_two_a {a b s : Int32} (h : s = a) : ro_two a b s = true := by
  unfold ro_two; rw [decide_eq_true h]; rfl
theorem ro_two_b {a b s : Int32} (h : s = b) : ro_two a b s = true := by
  unfold ro_two; rw [decide_eq_true h, Bool.or_true]
theorem ro_two_f {a b s : Int32} (h1 : ¬ s = a) (h2 : ¬ s = b) : ro_two a b s = false := by
  unfold ro_two; rw [decide_eq_false h1, decide_eq_false h2]; rfl
theorem ro_two_or {a b s : Int32} (h : ro_two a b s = true) : s = a ∨ s = b := by
  by_cases h1 : s = a
  · exact Or.inl h1
  · by_cases h2 : s = b
    · exact Or.inr h2
    · rw [ro_two_f h1 h2] at h; exact absurd h (by decide)
/-- how many rows are pending -/
def ro_np (st : Nat → Int32) (n : Nat) : Nat := cc_c (fun i => ro_two 1 3 (st i)) n
/-- what a select makes of a row's state and value -/
def ro_as (lo hi s x : Int32) : Int32 := if ro_in lo hi x = true then (if s = 1 then 2 else if s = 3 then 0 else s) else s
def ro_av (lo hi s x : Int32) : Int32 := if ro_in lo hi x = true ∧ s = 3 then 0 else x
def ro_S (lo hi : Int32) (st va : Nat → Int32) (m : Nat) : Nat → Int32 := fun i => if i < m then ro_as lo hi (st i) (va i) else st i
def ro_V (lo hi : Int32) (st va : Nat → Int32) (m : Nat) : Nat → Int32 := fun i => if i < m then ro_av lo hi (st i) (va i) else va i
theorem ro_S0 (lo hi : Int32) (st va : Nat → Int32) : ro_S lo hi st va 0 = st := by
  funext i; exact if_neg (Nat.not_lt_zero i)
theorem ro_V0 (lo hi : Int32) (st va : Nat → Int32) : ro_V lo hi st va 0 = va := by
  funext i; exact if_neg (Nat.not_lt_zero i)
theorem ro_S_at (lo hi : Int32) (st va : Nat → Int32) (m : Nat) : ro_S lo hi st va m m = st m := if_neg (Nat.lt_irrefl m)
theorem ro_V_at (lo hi : Int32) (st va : Nat → Int32) (m : Nat) : ro_V lo hi st va m m = va m := if_neg (Nat.lt_irrefl m)
theorem ro_S_lt {lo hi : Int32} {st va : Nat → Int32} {m i : Nat} (h : i < m) : ro_S lo hi st va m i = ro_as lo hi (st i) (va i) := if_pos h
theorem ro_V_lt {lo hi : Int32} {st va : Nat → Int32} {m i : Nat} (h : i < m) : ro_V lo hi st va m i = ro_av lo hi (st i) (va i) := if_pos h
theorem ro_Ss {lo hi : Int32} {st va : Nat → Int32} {m : Nat} {s : Int32} (h : ro_as lo hi (st m) (va m) = s) : upd (ro_S lo hi st va m) m s = ro_S lo hi st va (m + 1) := by
  funext i
  unfold upd ro_S
  by_cases e : i = m
  · rw [if_pos e, if_pos (by omega), e, h]
  · rw [if_neg e]
    by_cases a : i < m
    · rw [if_pos a, if_pos (by omega)]
    · rw [if_neg a, if_neg (by omega)]
theorem ro_Vs {lo hi : Int32} {st va : Nat → Int32} {m : Nat} {s : Int32} (h : ro_av lo hi (st m) (va m) = s) : upd (ro_V lo hi st va m) m s = ro_V lo hi st va (m + 1) := by
  funext i
  unfold upd ro_V
  by_cases e : i = m
  · rw [if_pos e, if_pos (by omega), e, h]
  · rw [if_neg e]
    by_cases a : i < m
    · rw [if_pos a, if_pos (by omega)]
    · rw [if_neg a, if_neg (by omega)]
theorem ro_upd_self (f : Nat → Int32) (m : Nat) : upd f m (f m) = f := by
  funext i
  unfold upd
  by_cases e : i = m
  · rw [if_pos e, e]
  · rw [if_neg e]
theorem ro_Sk {lo hi : Int32} {st va : Nat → Int32} {m : Nat} (h : ro_as lo hi (st m) (va m) = st m) : ro_S lo hi st va m = ro_S lo hi st va (m + 1) := by
  have e := ro_Ss h
  rw [← ro_S_at lo hi st va m, ro_upd_self] at e
  exact e
theorem ro_Vk {lo hi : Int32} {st va : Nat → Int32} {m : Nat} (h : ro_av lo hi (st m) (va m) = va m) : ro_V lo hi st va m = ro_V lo hi st va (m + 1) := by
  have e := ro_Vs h
  rw [← ro_V_at lo hi st va m, ro_upd_self] at e
  exact e
theorem ro_as_out {lo hi s x : Int32} (h : ro_in lo hi x = false) : ro_as lo hi s x = s := by
  unfold ro_as; rw [h]; exact if_neg (by decide)
theorem ro_av_out {lo hi s x : Int32} (h : ro_in lo hi x = false) : ro_av lo hi s x = x := by
  unfold ro_av; rw [h]; exact if_neg (fun z => absurd z.1 (by decide))
theorem ro_as_1 {lo hi s x : Int32} (h : ro_in lo hi x = true) (e : s = 1) : ro_as lo hi s x = 2 := by
  unfold ro_as; rw [if_pos h, if_pos e]
theorem ro_as_3 {lo hi s x : Int32} (h : ro_in lo hi x = true) (e : s = 3) : ro_as lo hi s x = 0 := by
  unfold ro_as; rw [if_pos h, if_neg (by rw [e]; decide), if_pos e]
theorem ro_as_e {lo hi s x : Int32} (e1 : ¬ s = 1) (e3 : ¬ s = 3) : ro_as lo hi s x = s := by
  unfold ro_as
  by_cases h : ro_in lo hi x = true
  · rw [if_pos h, if_neg e1, if_neg e3]
  · rw [if_neg h]
theorem ro_av_3 {lo hi s x : Int32} (h : ro_in lo hi x = true) (e : s = 3) : ro_av lo hi s x = 0 := if_pos ⟨h, e⟩
theorem ro_av_e {lo hi s x : Int32} (e : ¬ s = 3) : ro_av lo hi s x = x := if_neg (fun z => e z.2)
theorem ro_nt {b : Bool} (h : ¬ b = true) : b = false := by
  cases b with
  | false => rfl
  | true => exact absurd rfl h
/-- behind a select no row in the range is ADDED -/
theorem ro_no1 {lo hi s x : Int32} (h : ro_in lo hi (ro_av lo hi s x) = true) : ¬ ro_as lo hi s x = 1 := by
  by_cases i : ro_in lo hi x = true
  · by_cases e1 : s = 1
    · rw [ro_as_1 i e1]; decide
    · by_cases e3 : s = 3
      · rw [ro_as_3 i e3]; decide
      · rw [ro_as_e e1 e3]; exact e1
  · rw [ro_av_out (ro_nt i)] at h
    exact absurd h i
theorem ro_free {lo hi s x : Int32} (h : s = 0 → x = 0) (e : ro_as lo hi s x = 0) : ro_av lo hi s x = 0 := by
  by_cases i : ro_in lo hi x = true
  · by_cases e1 : s = 1
    · rw [ro_as_1 i e1] at e; exact absurd e (by decide)
    · by_cases e3 : s = 3
      · exact ro_av_3 i e3
      · rw [ro_as_e e1 e3] at e; rw [ro_av_e e3]; exact h e
  · rw [ro_as_out (ro_nt i)] at e
    rw [ro_av_out (ro_nt i)]; exact h e
theorem ro_av_or (lo hi s x : Int32) : ro_av lo hi s x = 0 ∨ ro_av lo hi s x = x := by
  unfold ro_av
  by_cases h : ro_in lo hi x = true ∧ s = 3
  · exact Or.inl (if_pos h)
  · exact Or.inr (if_neg h)
theorem ro_pen {lo hi s x : Int32} (h : ro_two 1 3 (ro_as lo hi s x) = true) : ro_two 1 3 s = true := by
  by_cases i : ro_in lo hi x = true
  · by_cases e1 : s = 1
    · exact ro_two_a e1
    · by_cases e3 : s = 3
      · exact ro_two_b e3
      · rw [ro_as_e e1 e3] at h; exact h
  · rw [ro_as_out (ro_nt i)] at h; exact h
/-- the sum of the values of those that q takes -/
def ro_T (q : Nat → Bool) (va : Nat → Int32) : Nat → Int64
  | 0 => 0
  | n + 1 => if q n = true then ro_T q va n + (va n).toInt64 else ro_T q va n
theorem ro_Tt {q : Nat → Bool} {va : Nat → Int32} {n : Nat} (h : q n = true) : ro_T q va (n + 1) = ro_T q va n + (va n).toInt64 := if_pos h
theorem ro_Tf {q : Nat → Bool} {va : Nat → Int32} {n : Nat} (h : q n = false) : ro_T q va (n + 1) = ro_T q va n := if_neg (by rw [h]; decide)
theorem ro_Tc {q q' : Nat → Bool} {va : Nat → Int32} : ∀ n, (∀ i, i < n → q i = q' i) → ro_T q va n = ro_T q' va n := by
  intro n
  induction n with
  | zero => intro _; rfl
  | succ n ih =>
    intro h
    have e := ih (fun i hi => h i (by omega))
    cases z : q' n with
    | true => rw [ro_Tt z, ro_Tt ((h n (by omega)).trans z), e]
    | false => rw [ro_Tf z, ro_Tf ((h n (by omega)).trans z), e]
/-- ri lists, in order, those below m that q takes -/
def ro_R (ri : Nat → Int32) (q : Nat → Bool) (m : Nat) : Prop := ∀ i, i < m → q i = true → ri (cc_c q i) = nI i
theorem ro_R0 {ri : Nat → Int32} {q : Nat → Bool} : ro_R ri q 0 := fun i hi => absurd hi (Nat.not_lt_zero i)
theorem ro_Rt {ri : Nat → Int32} {q : Nat → Bool} {m : Nat} (h : ro_R ri q m) (e : q m = true) : ro_R (upd ri (cc_c q m) (nI m)) q (m + 1) := by
  intro i hi hq
  by_cases a : i = m
  · rw [a, pk_us]
  · rw [pk_un (fun z => a (cc_inj hq e z))]
    exact h i (by omega) hq
theorem ro_Rf {ri : Nat → Int32} {q : Nat → Bool} {m : Nat} (h : ro_R ri q m) (e : q m = false) : ro_R ri q (m + 1) := by
  intro i hi hq
  by_cases a : i = m
  · rw [a, e] at hq; exact absurd hq (by decide)
  · exact h i (by omega) hq
theorem ro_Rc {ri : Nat → Int32} {q q' : Nat → Bool} {m : Nat} (h : ro_R ri q m) (e : ∀ i, i < m → q' i = q i) : ro_R ri q' m := by
  intro i hi hq
  rw [cc_congr (q := q') (q' := q) i (fun j hj => e j (by omega))]
  exact h i hi ((e i hi).symm.trans hq)
/-! one row changed -/
theorem ro_np_upd {st : Nat → Int32} {j n : Nat} {s : Int32} (hj : j < n) : ro_np (upd st j s) n + (ro_two 1 3 (st j)).toNat = ro_np st n + (ro_two 1 3 s).toNat := by
  have h := cc_one (q := fun i => ro_two 1 3 (st i)) (q' := fun i => ro_two 1 3 (upd st j s i)) (j := j) n hj (fun i _ hn => by show ro_two 1 3 (upd st j s i) = ro_two 1 3 (st i); rw [pk_un hn])
  rw [show ro_two 1 3 (upd st j s j) = ro_two 1 3 s from by rw [pk_us]] at h
  exact h
theorem ro_np_S {lo hi : Int32} {st va : Nat → Int32} {n : Nat} : ro_np (ro_S lo hi st va n) n ≤ ro_np st n :=
  cc_mono n (fun i hd h => by
    have h' : ro_two 1 3 (ro_S lo hi st va n i) = true := h
    rw [ro_S_lt hd] at h'
    exact ro_pen h')
end
section
/-! X's walks: one lemma a method, general post -/
def bo_I (b : Bool) : Int32 := cond b 1 0
theorem bo_z {b : Bool} {A B : Prop} (f : b = false → A) (g : b = true → B) : (bo_I b = 0 → A) ∧ (¬ bo_I b = 0 → B) := by
  cases b with
  | false => exact ⟨fun _ => f rfl, fun z => absurd rfl z⟩
  | true => exact ⟨fun z => absurd z (by decide), fun _ => g rfl⟩
theorem cc_nt {q : Nat → Bool} {n : Nat} (h : q n = true) : nI (cc_c q n) + 1 = nI (cc_c q (n + 1)) := by rw [cc_t h, nI_1]
theorem cc_nf {q : Nat → Bool} {n : Nat} (h : q n = false) : nI (cc_c q n) = nI (cc_c q (n + 1)) := by rw [cc_f h]
theorem nn_m1 {j : Nat} (hj : j < 2 ^ 31) : ¬ nI j = -1 := by
  intro h
  have e := congrArg Int32.toInt h
  rw [nI_toInt hj, show (-1 : Int32).toInt = -1 from by decide] at e
  omega
theorem nn_sub1 {p : Nat} (h : 0 < p) : nI p - 1 = nI (p - 1) := by
  obtain ⟨m, rfl⟩ : ∃ m, p = m + 1 := ⟨p - 1, by omega⟩
  exact nI_pred m
theorem xw_isPending {post : Int32 → Prop} {s : Int32} (h : post (bo_I (ro_two 1 3 s))) : wpX_isPending post s :=
  br_c (fun e => by rw [ro_two_a e] at h; exact h) (fun e1 => br_c (fun e => by rw [ro_two_b e] at h; exact h) (fun e3 => by rw [ro_two_f e1 e3] at h; exact h))
theorem xw_isLive {post : Int32 → Prop} {s : Int32} (h : post (bo_I (ro_two 1 2 s))) : wpX_isLive post s :=
  br_c (fun e => by rw [ro_two_a e] at h; exact h) (fun e1 => br_c (fun e => by rw [ro_two_b e] at h; exact h) (fun e3 => by rw [ro_two_f e1 e3] at h; exact h))
theorem xw_isStored {post : Int32 → Prop} {s : Int32} (h : post (bo_I (ro_two 2 3 s))) : wpX_isStored post s :=
  br_c (fun e => by rw [ro_two_a e] at h; exact h) (fun e1 => br_c (fun e => by rw [ro_two_b e] at h; exact h) (fun e3 => by rw [ro_two_f e1 e3] at h; exact h))
theorem xw_isInside {post : Int32 → Prop} {x lo hi : Int32} (h : post (bo_I (ro_in lo hi x))) : wpX_isInside post x lo hi :=
  br_c (fun e => by rw [ro_in_f1 (Int32.not_le.mpr e)] at h; exact h) (fun e1 => br_c (fun e => by rw [ro_in_f2 (Int32.not_lt.mpr e)] at h; exact h) (fun e2 => by rw [ro_in_t (Int32.not_lt.mp e1) (Int32.not_le.mp e2)] at h; exact h))
section
variable {R P C n : Nat} {fr fp fc fn fs : Int32} {ft : Int64} {st va cu ri : Nat → Int32}
/-! counts over the rows -/
theorem xl_np {post : Int32 → Prop} {q : Nat → Bool} (hR : R ≤ 32) (hq : ∀ i, i < R → ro_two 1 3 (st i) = q i) (h : post (nI (cc_c q R))) : ∀ d i, i + d = R → wX_pendingCount_4 post (nI R) fp fc fn fs ft st va cu ri (d + 1) (nI (cc_c q i)) (nI i) := by
  intro d
  induction d with
  | zero =>
    intro i hi
    obtain rfl : i = R := by omega
    exact pk_le i i (fun _ => h) (fun z => absurd z (by omega))
  | succ d ih =>
    intro i hi
    have t := ih (i + 1) (by omega)
    have c : (nI i).toNatClampNeg = i := nI_clamp (by omega)
    refine pk_le R i (fun z => absurd z (by omega)) (fun _ => ⟨pk_in i 32 (by omega), xw_isPending (bo_z (fun e => nm_r (nI_1 i) ?_) (fun e => nm_r ?_ (nm_r (nI_1 i) t)))⟩)
    · rw [c, hq i (by omega)] at e
      rw [cc_nf e]; exact t
    · rw [c, hq i (by omega)] at e
      exact cc_nt e
theorem xw_np {post : Int32 → Prop} (hR : R ≤ 32) (h : post (nI (ro_np st R))) : wpX_pendingCount post (nI R, fp, fc, fn, fs, ft, st, va, cu, ri) :=
  ⟨R + 1, xl_np (q := fun i => ro_two 1 3 (st i)) hR (fun _ _ => rfl) h R 0 (by omega)⟩
theorem xl_ns {post : Int32 → Prop} {q : Nat → Bool} (hR : R ≤ 32) (hq : ∀ i, i < R → ro_two 2 3 (st i) = q i) (h : post (nI (cc_c q R))) : ∀ d i, i + d = R → wX_storedCount_4 post (nI R) fp fc fn fs ft st va cu ri (d + 1) (nI (cc_c q i)) (nI i) := by
  intro d
  induction d with
  | zero =>
    intro i hi
    obtain rfl : i = R := by omega
    exact pk_le i i (fun _ => h) (fun z => absurd z (by omega))
  | succ d ih =>
    intro i hi
    have t := ih (i + 1) (by omega)
    have c : (nI i).toNatClampNeg = i := nI_clamp (by omega)
    refine pk_le R i (fun z => absurd z (by omega)) (fun _ => ⟨pk_in i 32 (by omega), xw_isStored (bo_z (fun e => nm_r (nI_1 i) ?_) (fun e => nm_r ?_ (nm_r (nI_1 i) t)))⟩)
    · rw [c, hq i (by omega)] at e
      rw [cc_nf e]; exact t
    · rw [c, hq i (by omega)] at e
      exact cc_nt e
theorem xw_ns {post : Int32 → Prop} {q : Nat → Bool} (hR : R ≤ 32) (hq : ∀ i, i < R → ro_two 2 3 (st i) = q i) (h : post (nI (cc_c q R))) : wpX_storedCount post (nI R, fp, fc, fn, fs, ft, st, va, cu, ri) :=
  ⟨R + 1, xl_ns hR hq h R 0 (by omega)⟩
theorem xl_count {post : Int32 → Prop} {lo hi : Int32} {q : Nat → Bool} (hR : R ≤ 32) (hq : ∀ i, i < R → (ro_two 1 2 (st i) && ro_in lo hi (va i)) = q i) (h : post (nI (cc_c q R))) : ∀ d i, i + d = R → wX_count_13 post lo hi (nI R) fp fc fn fs ft st va cu ri (d + 1) (nI (cc_c q i)) (nI i) := by
  intro d
  induction d with
  | zero =>
    intro i hi
    obtain rfl : i = R := by omega
    exact pk_le i i (fun _ => h) (fun z => absurd z (by omega))
  | succ d ih =>
    intro i hi
    have t := ih (i + 1) (by omega)
    have c : (nI i).toNatClampNeg = i := nI_clamp (by omega)
    have Q := hq i (by omega)
    refine pk_le R i (fun z => absurd z (by omega)) (fun _ => ⟨pk_in i 32 (by omega), xw_isLive (bo_z (fun e => nm_r (nI_1 i) ?_) (fun e => ⟨pk_in i 32 (by omega), xw_isInside (bo_z (fun e2 => nm_r (nI_1 i) ?_) (fun e2 => nm_r ?_ (nm_r (nI_1 i) t)))⟩))⟩)
    · rw [c] at e
      rw [e] at Q
      rw [cc_nf (q := q) Q.symm]; exact t
    · rw [c] at e e2
      rw [e, e2] at Q
      rw [cc_nf (q := q) Q.symm]; exact t
    · rw [c] at e e2
      rw [e, e2] at Q
      exact cc_nt Q.symm
theorem xw_count {post : Int32 → Prop} {lo hi : Int32} {q : Nat → Bool} (hR : R ≤ 32) (hq : ∀ i, i < R → (ro_two 1 2 (st i) && ro_in lo hi (va i)) = q i) (h0 : ¬ lo < hi → post (-6)) (h : lo < hi → post (nI (cc_c q R))) : wpX_count post (nI R, fp, fc, fn, fs, ft, st, va, cu, ri) lo hi :=
  br_c (fun e => ⟨R + 1, xl_count hR hq (h e) R 0 (by omega)⟩) h0
theorem xl_below {post : Int32 → Prop} {j : Nat} {q : Nat → Bool} (hR : R ≤ 32) (hj : j < 16) (hq : ∀ i, i < R → (ro_two 2 3 (st i) && decide (va i < cu j)) = q i) (h : post (nI (cc_c q R))) : ∀ d i, i + d = R → wX_cutBelow_14 post (nI j) (nI R) fp fc fn fs ft st va cu ri (d + 1) (nI (cc_c q i)) (nI i) := by
  intro d
  induction d with
  | zero =>
    intro i hi
    obtain rfl : i = R := by omega
    exact pk_le i i (fun _ => h) (fun z => absurd z (by omega))
  | succ d ih =>
    intro i hi
    have t := ih (i + 1) (by omega)
    have c : (nI i).toNatClampNeg = i := nI_clamp (by omega)
    have cj : (nI j).toNatClampNeg = j := nI_clamp (by omega)
    have Q := hq i (by omega)
    refine pk_le R i (fun z => absurd z (by omega)) (fun _ => ⟨pk_in i 32 (by omega), xw_isStored (bo_z (fun e => nm_r (nI_1 i) ?_) (fun e => ⟨pk_in i 32 (by omega), pk_in j 16 hj, br_c (fun e2 => nm_r (nI_1 i) ?_) (fun e2 => nm_r ?_ (nm_r (nI_1 i) t))⟩))⟩)
    · rw [c] at e
      rw [e] at Q
      rw [cc_nf (q := q) Q.symm]; exact t
    · rw [c] at e e2
      rw [cj] at e2
      rw [e, decide_eq_false (Int32.not_lt.mpr e2)] at Q
      rw [cc_nf (q := q) Q.symm]; exact t
    · rw [c] at e e2
      rw [cj] at e2
      rw [e, decide_eq_true (Int32.not_le.mp e2)] at Q
      exact cc_nt Q.symm
/-! ids and cuts within and without -/
theorem xw_isId_in {post : Int32 → Prop} {j : Nat} (hR : R ≤ 32) (hj : j < R) (h : post 1) : wpX_isId post (nI R, fp, fc, fn, fs, ft, st, va, cu, ri) (nI j) :=
  br_f (nI_pos (by omega)) (pk_le R j (fun z => absurd z (by omega)) (fun _ => h))
theorem xw_isId_out {post : Int32 → Prop} {x : Int32} (ho : x < 0 ∨ nI R ≤ x) (h : post 0) : wpX_isId post (nI R, fp, fc, fn, fs, ft, st, va, cu, ri) x :=
  br_c (fun _ => h) (fun e => br_t (ho.resolve_left e) h)
theorem xw_isCut_in {post : Int32 → Prop} {j : Nat} (hn : n ≤ 16) (hj : j < n) (h : post 1) : wpX_isCut post (fr, fp, fc, nI n, fs, ft, st, va, cu, ri) (nI j) :=
  br_f (nI_pos (by omega)) (pk_le n j (fun z => absurd z (by omega)) (fun _ => h))
theorem xw_isCut_out {post : Int32 → Prop} {x : Int32} (ho : x < 0 ∨ nI n ≤ x) (h : post 0) : wpX_isCut post (fr, fp, fc, nI n, fs, ft, st, va, cu, ri) x :=
  br_c (fun _ => h) (fun e => br_t (ho.resolve_left e) h)
theorem xw_rowState_in {post : Int32 → Prop} {j : Nat} (hR : R ≤ 32) (hj : j < R) (h : post (st j)) : wpX_rowState post (nI R, fp, fc, fn, fs, ft, st, va, cu, ri) (nI j) := by
  unfold wpX_rowState
  dsimp only
  refine xw_isId_in hR hj (br_f (by decide) ⟨pk_in j 32 (by omega), ?_⟩)
  rw [nI_clamp (by omega)]; exact h
theorem xw_rowState_out {post : Int32 → Prop} {x : Int32} (ho : x < 0 ∨ nI R ≤ x) (h : post (-1)) : wpX_rowState post (nI R, fp, fc, fn, fs, ft, st, va, cu, ri) x := by
  unfold wpX_rowState
  dsimp only
  exact xw_isId_out ho (br_t rfl h)
theorem xw_rowValue_in {post : Int32 → Prop} {j : Nat} (hR : R ≤ 32) (hj : j < R) (h : post (va j)) : wpX_rowValue post (nI R, fp, fc, fn, fs, ft, st, va, cu, ri) (nI j) := by
  unfold wpX_rowValue
  dsimp only
  refine xw_isId_in hR hj (br_f (by decide) ⟨pk_in j 32 (by omega), ?_⟩)
  rw [nI_clamp (by omega)]; exact h
theorem xw_rowValue_out {post : Int32 → Prop} {x : Int32} (ho : x < 0 ∨ nI R ≤ x) (h : post 0) : wpX_rowValue post (nI R, fp, fc, fn, fs, ft, st, va, cu, ri) x := by
  unfold wpX_rowValue
  dsimp only
  exact xw_isId_out ho (br_t rfl h)
theorem xw_cutValue_in {post : Int32 → Prop} {j : Nat} (hn : n ≤ 16) (hj : j < n) (h : post (cu j)) : wpX_cutValue post (fr, fp, fc, nI n, fs, ft, st, va, cu, ri) (nI j) := by
  unfold wpX_cutValue
  dsimp only
  refine xw_isCut_in hn hj (br_f (by decide) ⟨pk_in j 16 (by omega), ?_⟩)
  rw [nI_clamp (by omega)]; exact h
theorem xw_cutValue_out {post : Int32 → Prop} {x : Int32} (ho : x < 0 ∨ nI n ≤ x) (h : post 0) : wpX_cutValue post (fr, fp, fc, nI n, fs, ft, st, va, cu, ri) x := by
  unfold wpX_cutValue
  dsimp only
  exact xw_isCut_out ho (br_t rfl h)
theorem xw_cutBelow_in {post : Int32 → Prop} {j : Nat} {q : Nat → Bool} (hR : R ≤ 32) (hn : n ≤ 16) (hj : j < n) (hq : ∀ i, i < R → (ro_two 2 3 (st i) && decide (va i < cu j)) = q i) (h : post (nI (cc_c q R))) : wpX_cutBelow post (nI R, fp, fc, nI n, fs, ft, st, va, cu, ri) (nI j) := by
  unfold wpX_cutBelow
  dsimp only
  exact xw_isCut_in hn hj (br_f (by decide) ⟨R + 1, xl_below hR (by omega) hq h R 0 (by omega)⟩)
theorem xw_cutBelow_out {post : Int32 → Prop} {x : Int32} (ho : x < 0 ∨ nI n ≤ x) (h : post (-1)) : wpX_cutBelow post (fr, fp, fc, nI n, fs, ft, st, va, cu, ri) x := by
  unfold wpX_cutBelow
  dsimp only
  exact xw_isCut_out ho (br_t rfl h)
/-! the cuts up to a value -/
theorem xl_upTo {post : Int32 → Prop} {v : Int32} {q : Nat → Bool} (hn : n ≤ 16) (hq : ∀ i, i < n → decide (cu i ≤ v) = q i) (h : post (nI (cc_c q n))) : ∀ d i, i + d = n → wX_cutsUpTo_4 post v fr fp fc (nI n) fs ft st va cu ri (d + 1) (nI (cc_c q i)) (nI i) := by
  intro d
  induction d with
  | zero =>
    intro i hi
    obtain rfl : i = n := by omega
    exact pk_le i i (fun _ => h) (fun z => absurd z (by omega))
  | succ d ih =>
    intro i hi
    have t := ih (i + 1) (by omega)
    have c : (nI i).toNatClampNeg = i := nI_clamp (by omega)
    have Q := hq i (by omega)
    refine pk_le n i (fun z => absurd z (by omega)) (fun _ => ⟨pk_in i 16 (by omega), br_c (fun e => nm_r (nI_1 i) ?_) (fun e => nm_r ?_ (nm_r (nI_1 i) t))⟩)
    · rw [c] at e
      rw [decide_eq_false (Int32.not_le.mpr e)] at Q
      rw [cc_nf (q := q) Q.symm]; exact t
    · rw [c] at e
      rw [decide_eq_true (Int32.not_lt.mp e)] at Q
      exact cc_nt Q.symm
theorem xw_upTo {post : Int32 → Prop} {v : Int32} (hn : n ≤ 16) (h : post (nI (cu_to cu n v))) : wpX_cutsUpTo post (fr, fp, fc, nI n, fs, ft, st, va, cu, ri) v :=
  ⟨n + 1, xl_upTo (q := fun i => decide (cu i ≤ v)) hn (fun _ _ => rfl) h n 0 (by omega)⟩
theorem xw_pieceOf_in {post : Int32 → Prop} {j : Nat} (hR : R ≤ 32) (hn : n ≤ 16) (hj : j < R) (h0 : ro_two 2 3 (st j) = false → post (-1)) (h : ro_two 2 3 (st j) = true → post (nI (cu_to cu n (va j)))) : wpX_pieceOf post (nI R, fp, fc, nI n, fs, ft, st, va, cu, ri) (nI j) := by
  unfold wpX_pieceOf
  dsimp only
  refine xw_rowState_in hR hj (xw_isStored (bo_z h0 (fun e => ⟨pk_in j 32 (by omega), ?_⟩)))
  rw [nI_clamp (by omega)]
  exact xw_upTo hn (h e)
theorem xw_pieceOf_out {post : Int32 → Prop} {x : Int32} (ho : x < 0 ∨ nI R ≤ x) (h : post (-1)) : wpX_pieceOf post (nI R, fp, fc, fn, fs, ft, st, va, cu, ri) x := by
  unfold wpX_pieceOf
  dsimp only
  exact xw_rowState_out ho (xw_isStored (br_t rfl h))
end
end
section
/-! X's methods that store -/
/-- is v among the first n -/
def cu_has (f : Nat → Int32) (n : Nat) (v : Int32) : Bool := decide (0 < cc_c (fun i => decide (f i = v)) n)
theorem cu_has_t {f : Nat → Int32} {n i : Nat} {v : Int32} (hi : i < n) (e : f i = v) : cu_has f n v = true :=
  decide_eq_true (cc_has hi (decide_eq_true e))
theorem cu_has_f {f : Nat → Int32} {n : Nat} {v : Int32} (h : ∀ i, i < n → ¬ f i = v) : cu_has f n v = false := by
  have e : cc_c (fun i => decide (f i = v)) n = 0 := cc_none n (fun i hi => decide_eq_false (h i hi))
  unfold cu_has
  rw [e]; rfl
theorem cu_has_ne {f : Nat → Int32} {n : Nat} {v : Int32} (h : cu_has f n v = false) : ∀ i, i < n → ¬ f i = v := by
  intro i hi e
  rw [cu_has_t hi e] at h
  exact absurd h (by decide)
/-- the number of cuts, and the cuts, behind addCut -/
def cu_N (C : Nat) (f : Nat → Int32) (n : Nat) (v : Int32) : Nat := if cu_has f n v = true ∨ C ≤ n then n else n + 1
def cu_F (C : Nat) (f : Nat → Int32) (n : Nat) (v : Int32) : Nat → Int32 := if cu_has f n v = true ∨ C ≤ n then f else cu_ins f n (cu_to f n v) v
def cu_G (C : Nat) (g : Nat → Int32) (n : Nat) (v : Int32) : Nat → Int32 := if cu_has g n v = true ∨ C ≤ n then g else upd g n v
theorem cu_noeq {f : Nat → Int32} {n : Nat} {v : Int32} (ha : cu_asc f n) (h : 0 < cu_to f n v → ¬ f (cu_to f n v - 1) = v) : ∀ i, i < n → ¬ f i = v := by
  intro i hi e
  have h1 := (cu_split (v := v) n ha i hi).mp (by rw [e]; exact Int32.le_refl _)
  have h2 := cu_to_le f n v
  have h3 := h (by omega)
  have h4 := (cu_split (v := v) n ha (cu_to f n v - 1) (by omega)).mpr (by omega)
  by_cases z : i = cu_to f n v - 1
  · exact h3 (by rw [← z]; exact e)
  · have h5 := ha i (cu_to f n v - 1) (by omega) (by omega)
    rw [e, Int32.lt_iff_toInt_lt] at h5
    rw [Int32.le_iff_toInt_le] at h4
    omega
theorem cu_F_asc {C : Nat} {f : Nat → Int32} {n : Nat} {v : Int32} (ha : cu_asc f n) : cu_asc (cu_F C f n v) (cu_N C f n v) := by
  unfold cu_F cu_N
  by_cases h : cu_has f n v = true ∨ C ≤ n
  · rw [if_pos h, if_pos h]; exact ha
  · rw [if_neg h, if_neg h]
    have hne := cu_has_ne (ro_nt (fun z => h (Or.inl z)))
    have hl := cu_to_le f n v
    refine cu_ins_asc ha hl (fun i hi => ?_) (fun i h1 h2 => ?_)
    · have a := (cu_split (v := v) n ha i (by omega)).mpr hi
      have b := hne i (by omega)
      rw [Int32.le_iff_toInt_le] at a
      rw [Int32.lt_iff_toInt_lt]
      have c : ¬ (f i).toInt = v.toInt := fun z => b (Int32.toInt_inj.mp z)
      omega
    · have a := mt (cu_split (v := v) n ha i h2).mp (by omega)
      exact Int32.not_le.mp a
theorem cu_N_le {C : Nat} {f : Nat → Int32} {n : Nat} {v : Int32} (hn : n ≤ C) : cu_N C f n v ≤ C := by
  unfold cu_N
  by_cases h : cu_has f n v = true ∨ C ≤ n
  · rw [if_pos h]; exact hn
  · rw [if_neg h]
    have h2 : ¬ C ≤ n := fun z => h (Or.inr z)
    omega
theorem cu_same_has {f g : Nat → Int32} {n : Nat} (h : cu_same f g n) (v : Int32) : cu_has g n v = cu_has f n v := by
  unfold cu_has
  rw [show cc_c (fun i => decide (g i = v)) n = cc_c (fun i => decide (f i = v)) n from (h (fun x => decide (x = v))).symm]
theorem cu_same_N {C : Nat} {f g : Nat → Int32} {n : Nat} (h : cu_same f g n) (v : Int32) : cu_N C g n v = cu_N C f n v := by
  unfold cu_N
  rw [cu_same_has h]
theorem cu_same_F {C : Nat} {f g : Nat → Int32} {n : Nat} (h : cu_same f g n) (v : Int32) : cu_same (cu_F C f n v) (cu_G C g n v) (cu_N C f n v) := by
  unfold cu_F cu_G cu_N
  rw [cu_same_has h]
  by_cases z : cu_has f n v = true ∨ C ≤ n
  · rw [if_pos z, if_pos z, if_pos z]; exact h
  · rw [if_neg z, if_neg z, if_neg z]; exact cu_ins_same h (cu_to_le f n v)
section
variable {R P C n : Nat} {fr fp fc fn fs : Int32} {ft : Int64} {st va cu ri : Nat → Int32}
theorem xl_free {post : Int32 → Prop} (hR : R ≤ 32) (h0 : (∀ j, j < R → ¬ st j = 0) → post (-1)) (h1 : ∀ j, j < R → st j = 0 → (∀ i, i < j → ¬ st i = 0) → post (nI j)) : ∀ d i, i + d = R → (∀ j, j < i → ¬ st j = 0) → wX_smallestFreeId_2 post (nI R) fp fc fn fs ft st va cu ri (d + 1) (nI i) := by
  intro d
  induction d with
  | zero =>
    intro i hi hn
    obtain rfl : i = R := by omega
    exact pk_le i i (fun _ => h0 hn) (fun z => absurd z (by omega))
  | succ d ih =>
    intro i hi hn
    have c : (nI i).toNatClampNeg = i := nI_clamp (by omega)
    refine pk_le R i (fun z => absurd z (by omega)) (fun _ => ⟨pk_in i 32 (by omega), br_c (fun e => h1 i (by omega) ?_ hn) (fun e => nm_r (nI_1 i) (ih (i + 1) (by omega) ?_))⟩)
    · rw [c] at e; exact e
    · rw [c] at e; exact lt_s (p := fun j => ¬ st j = 0) hn e
theorem xw_free {post : Int32 → Prop} (hR : R ≤ 32) (h0 : (∀ j, j < R → ¬ st j = 0) → post (-1)) (h1 : ∀ j, j < R → st j = 0 → (∀ i, i < j → ¬ st i = 0) → post (nI j)) : wpX_smallestFreeId post (nI R, fp, fc, fn, fs, ft, st, va, cu, ri) :=
  ⟨R + 1, xl_free hR h0 h1 R 0 (by omega) (fun j hj => absurd hj (Nat.not_lt_zero j))⟩
theorem xw_insert {post : Int32 → SX → Prop} {v : Int32} (hR : R ≤ 32) (hP : P ≤ 16)
    (h1 : v = 2147483647 → post (-2) (nI R, nI P, fc, fn, fs, ft, st, va, cu, ri))
    (h2 : ¬ v = 2147483647 → (∀ j, j < R → ¬ st j = 0) → post (-3) (nI R, nI P, fc, fn, fs, ft, st, va, cu, ri))
    (h3 : ∀ j, ¬ v = 2147483647 → j < R → st j = 0 → (∀ i, i < j → ¬ st i = 0) → P ≤ ro_np st R → post (-4) (nI R, nI P, fc, fn, fs, ft, st, va, cu, ri))
    (h4 : ∀ j, ¬ v = 2147483647 → j < R → st j = 0 → (∀ i, i < j → ¬ st i = 0) → ro_np st R < P → post (nI j) (nI R, nI P, fc, fn, fs, ft, upd st j 1, upd va j v, cu, ri)) :
    wpX_insert post (nI R, nI P, fc, fn, fs, ft, st, va, cu, ri) v := by
  unfold wpX_insert
  dsimp only
  refine br_c h1 (fun e => xw_free hR (fun hn => br_t rfl (h2 e hn)) (fun j hj e0 hm => br_f (nn_m1 (by omega)) (xw_np hR ?_)))
  have hl := cc_le (fun i => ro_two 1 3 (st i)) R
  have c : (nI j).toNatClampNeg = j := nI_clamp (by omega)
  refine pk_lt (ro_np st R) P (fun z => ⟨pk_in j 32 (by omega), nm_r (by rw [c]) ⟨pk_in j 32 (by omega), nm_r (by rw [c]) (h4 j e hj e0 hm z)⟩⟩) (fun z => h3 j e hj e0 hm z) rfl rfl ?_ (by omega)
  show cc_c (fun i => ro_two 1 3 (st i)) R < 2 ^ 31
  omega
theorem xw_freeRow {post : SX → Prop} {j : Nat} (hj : j < 32) (h : post (fr, fp, fc, fn, fs, ft, upd st j 0, upd va j 0, cu, ri)) : wpX_freeRow post (fr, fp, fc, fn, fs, ft, st, va, cu, ri) (nI j) := by
  have c : (nI j).toNatClampNeg = j := nI_clamp (by omega)
  unfold wpX_freeRow
  dsimp only
  rw [c]
  exact ⟨pk_in j 32 hj, nm_e ⟨pk_in j 32 hj, nm_e h⟩⟩
theorem xw_delete_in {post : Int32 → SX → Prop} {j : Nat} (hR : R ≤ 32) (hP : P ≤ 16) (hj : j < R)
    (h1 : st j = 1 → post 0 (nI R, nI P, fc, fn, fs, ft, upd st j 0, upd va j 0, cu, ri))
    (h2 : st j = 2 → ro_np st R < P → post 0 (nI R, nI P, fc, fn, fs, ft, upd st j 3, va, cu, ri))
    (h3 : st j = 2 → P ≤ ro_np st R → post (-4) (nI R, nI P, fc, fn, fs, ft, st, va, cu, ri))
    (h4 : ¬ st j = 1 → ¬ st j = 2 → post (-5) (nI R, nI P, fc, fn, fs, ft, st, va, cu, ri)) :
    wpX_delete post (nI R, nI P, fc, fn, fs, ft, st, va, cu, ri) (nI j) := by
  unfold wpX_delete
  dsimp only
  have c : (nI j).toNatClampNeg = j := nI_clamp (by omega)
  have hl := cc_le (fun i => ro_two 1 3 (st i)) R
  refine xw_rowState_in hR hj (xw_isLive (bo_z (fun e => h4 (fun z => ?_) (fun z => ?_)) (fun e => br_c (fun e1 => xw_freeRow (by omega) (h1 e1)) (fun e1 => xw_np hR ?_))))
  · rw [ro_two_a z] at e; exact absurd e (by decide)
  · rw [ro_two_b z] at e; exact absurd e (by decide)
  · have e2 : st j = 2 := (ro_two_or e).resolve_left e1
    refine pk_lt (ro_np st R) P (fun z => ⟨pk_in j 32 (by omega), nm_r (by rw [c]) (h2 e2 z)⟩) (fun z => h3 e2 z) rfl rfl ?_ (by omega)
    show cc_c (fun i => ro_two 1 3 (st i)) R < 2 ^ 31
    omega
theorem xw_delete_out {post : Int32 → SX → Prop} {x : Int32} (ho : x < 0 ∨ nI R ≤ x) (h : post (-5) (nI R, fp, fc, fn, fs, ft, st, va, cu, ri)) : wpX_delete post (nI R, fp, fc, fn, fs, ft, st, va, cu, ri) x := by
  unfold wpX_delete
  dsimp only
  exact xw_rowState_out ho (xw_isLive (br_t rfl h))
theorem xw_restore_in {post : Int32 → SX → Prop} {j : Nat} (hR : R ≤ 32) (hj : j < R)
    (h1 : st j = 3 → post 0 (nI R, fp, fc, fn, fs, ft, upd st j 2, va, cu, ri))
    (h2 : ¬ st j = 3 → post (-5) (nI R, fp, fc, fn, fs, ft, st, va, cu, ri)) :
    wpX_restore post (nI R, fp, fc, fn, fs, ft, st, va, cu, ri) (nI j) := by
  unfold wpX_restore
  dsimp only
  have c : (nI j).toNatClampNeg = j := nI_clamp (by omega)
  exact xw_rowState_in hR hj (br_c (fun e => ⟨pk_in j 32 (by omega), nm_r (by rw [c]) (h1 e)⟩) h2)
theorem xw_restore_out {post : Int32 → SX → Prop} {x : Int32} (ho : x < 0 ∨ nI R ≤ x) (h : post (-5) (nI R, fp, fc, fn, fs, ft, st, va, cu, ri)) : wpX_restore post (nI R, fp, fc, fn, fs, ft, st, va, cu, ri) x := by
  unfold wpX_restore
  dsimp only
  exact xw_rowState_out ho (br_f (by decide) h)
/-! forgetCut -/
theorem xl_forget {post : Int32 → SX → Prop} {k : Nat} (hn : n ≤ 16) (h : post 0 (fr, fp, fc, nI (n - 1), fs, ft, st, va, cu_rm cu k n, ri)) : ∀ d m, m + d = n → k < m → wX_forgetCut_15 post fr fp fc (nI n) fs ft (d + 1) (nI m) st va (cu_rm cu k m) ri := by
  intro d
  induction d with
  | zero =>
    intro m hm hk
    obtain rfl : m = n := by omega
    exact pk_le m m (fun _ => nm_r (nn_sub1 (by omega)) h) (fun z => absurd z (by omega))
  | succ d ih =>
    intro m hm hk
    have c : (nI m).toNatClampNeg = m := nI_clamp (by omega)
    have s1 : nI m - 1 = nI (m - 1) := nn_sub1 (by omega)
    have c1 : (nI m - 1).toNatClampNeg = m - 1 := by rw [s1]; exact nI_clamp (by omega)
    exact pk_le n m (fun z => absurd z (by omega)) (fun _ => ⟨pk_in m 16 (by omega), pk_in (m - 1) 16 (by omega) s1, nm_r (by rw [c, c1]; exact cu_rms cu hk) (nm_r (nI_1 m) (ih (m + 1) (by omega) (by omega)))⟩)
theorem xw_forgetCut_in {post : Int32 → SX → Prop} {j : Nat} (hn : n ≤ 16) (hj : j < n) (h : post 0 (fr, fp, fc, nI (n - 1), fs, ft, st, va, cu_rm cu j n, ri)) : wpX_forgetCut post (fr, fp, fc, nI n, fs, ft, st, va, cu, ri) (nI j) := by
  unfold wpX_forgetCut
  dsimp only
  have t := xl_forget (k := j) hn h (n - (j + 1)) (j + 1) (by omega) (by omega)
  rw [cu_rm0] at t
  exact xw_isCut_in hn hj (br_f (by decide) (nm_r (nI_1 j) ⟨_, t⟩))
theorem xw_forgetCut_out {post : Int32 → SX → Prop} {x : Int32} (ho : x < 0 ∨ nI n ≤ x) (h : post (-7) (fr, fp, fc, nI n, fs, ft, st, va, cu, ri)) : wpX_forgetCut post (fr, fp, fc, nI n, fs, ft, st, va, cu, ri) x := by
  unfold wpX_forgetCut
  dsimp only
  exact xw_isCut_out ho (br_t rfl h)
/-! addCut -/
theorem xl_shift {post : SX → Prop} {v : Int32} {p : Nat} (hn : n < 16) (h : post (fr, fp, fc, nI (n + 1), fs, ft, st, va, cu_ins cu n p v, ri)) : ∀ d m, p + d = m → m ≤ n → wX_addCut_40 post v (nI p) fr fp fc (nI n) fs ft (d + 1) (nI m) st va (cu_sh cu n m) ri := by
  intro d
  induction d with
  | zero =>
    intro m hm hk
    obtain rfl : p = m := by omega
    have c : (nI p).toNatClampNeg = p := nI_clamp (by omega)
    exact pk_le p p (fun _ => ⟨pk_in p 16 (by omega), nm_r (by rw [c]; rfl) (nm_r (nI_1 n) h)⟩) (fun z => absurd z (by omega))
  | succ d ih =>
    intro m hm hk
    obtain ⟨l, rfl⟩ : ∃ l, m = l + 1 := ⟨m - 1, by omega⟩
    have c : (nI (l + 1)).toNatClampNeg = l + 1 := nI_clamp (by omega)
    have s1 : nI (l + 1) - 1 = nI l := nI_pred l
    have c1 : (nI (l + 1) - 1).toNatClampNeg = l := by rw [s1]; exact nI_clamp (by omega)
    exact pk_le (l + 1) p (fun z => absurd z (by omega)) (fun _ => ⟨pk_in l 16 (by omega) s1, pk_in (l + 1) 16 (by omega), nm_r (by rw [c, c1]; exact cu_shs cu hk) (nm_r (pk_m1 l) (ih l (by omega) (by omega)))⟩)
theorem xw_add23 {post : SX → Prop} {v : Int32} {p : Nat} (hC : C ≤ 16) (hn : n ≤ C) (hp : p ≤ n) (h1 : C ≤ n → post (fr, fp, nI C, nI n, fs, ft, st, va, cu, ri)) (h2 : n < C → post (fr, fp, nI C, nI (n + 1), fs, ft, st, va, cu_ins cu n p v, ri)) : wX_addCut_23 post v (nI p) fr fp (nI C) (nI n) fs ft st va cu ri := by
  refine pk_lt n C (fun z => ?_) h1
  have t := xl_shift (p := p) (by omega) (h2 z) (n - p) n (by omega) (Nat.le_refl n)
  rw [cu_sh0] at t
  exact ⟨_, t⟩
theorem xw_addCut {post : SX → Prop} {v : Int32} (hC : C ≤ 16) (hn : n ≤ C) (ha : cu_asc cu n) (h : post (fr, fp, nI C, nI (cu_N C cu n v), fs, ft, st, va, cu_F C cu n v, ri)) : wpX_addCut post (fr, fp, nI C, nI n, fs, ft, st, va, cu, ri) v := by
  have hl := cu_to_le cu n v
  have K : (0 < cu_to cu n v → ¬ cu (cu_to cu n v - 1) = v) → wX_addCut_23 post v (nI (cu_to cu n v)) fr fp (nI C) (nI n) fs ft st va cu ri := by
    intro hx
    have hh := cu_has_f (cu_noeq ha hx)
    refine xw_add23 hC hn hl (fun z => ?_) (fun z => ?_)
    · unfold cu_N cu_F at h
      rw [if_pos (Or.inr z), if_pos (Or.inr z)] at h
      exact h
    · have hne : ¬ (cu_has cu n v = true ∨ C ≤ n) := by
        intro y
        cases y with
        | inl y => rw [hh] at y; exact absurd y (by decide)
        | inr y => omega
      unfold cu_N cu_F at h
      rw [if_neg hne, if_neg hne] at h
      exact h
  unfold wpX_addCut
  dsimp only
  refine xw_upTo (by omega) (pk_le (cu_to cu n v) 0 (fun z => K (fun y => by omega)) (fun z => ?_))
  have s1 : nI (cu_to cu n v) - 1 = nI (cu_to cu n v - 1) := nn_sub1 z
  have c1 : (nI (cu_to cu n v) - 1).toNatClampNeg = cu_to cu n v - 1 := by rw [s1]; exact nI_clamp (by omega)
  refine ⟨pk_in (cu_to cu n v - 1) 16 (by omega) s1, br_c (fun e => ?_) (fun e => K (fun _ => ?_))⟩
  · rw [c1] at e
    have hh : cu_has cu n v = true := cu_has_t (i := cu_to cu n v - 1) (by omega) e
    unfold cu_N cu_F at h
    rw [if_pos (Or.inl hh), if_pos (Or.inl hh)] at h
    exact h
  · rw [c1] at e; exact e
/-! applyPending -/
theorem xl_apply {post : SX → Prop} {lo hi : Int32} (hR : R ≤ 32) (h : post (nI R, fp, fc, fn, fs, ft, ro_S lo hi st va R, ro_V lo hi st va R, cu, ri)) : ∀ d i, i + d = R → wX_applyPending_2 post lo hi (d + 1) (nI i) (nI R) fp fc fn fs ft (ro_S lo hi st va i) (ro_V lo hi st va i) cu ri := by
  intro d
  induction d with
  | zero =>
    intro i hd
    obtain rfl : i = R := by omega
    exact pk_le i i (fun _ => h) (fun z => absurd z (by omega))
  | succ d ih =>
    intro i hd
    have t := ih (i + 1) (by omega)
    have c : (nI i).toNatClampNeg = i := nI_clamp (by omega)
    refine pk_le R i (fun z => absurd z (by omega)) (fun _ => ⟨pk_in i 32 (by omega), xw_isInside (bo_z (fun e => nm_r (nI_1 i) ?_) (fun e => ⟨pk_in i 32 (by omega), br_c (fun e1 => ⟨pk_in i 32 (by omega), nm_r (e' := ro_S lo hi st va (i + 1)) ?_ (nm_r (nI_1 i) ?_)⟩) (fun e1 => ⟨pk_in i 32 (by omega), br_c (fun e3 => xw_freeRow (by omega) ?_) (fun e3 => nm_r (nI_1 i) ?_)⟩)⟩))⟩)
    · rw [c, ro_V_at] at e
      rw [ro_Sk (ro_as_out e), ro_Vk (ro_av_out e)]; exact t
    · rw [c, ro_V_at] at e
      rw [c, ro_S_at] at e1
      rw [c]
      exact ro_Ss (ro_as_1 e e1)
    · rw [c, ro_S_at] at e1
      rw [ro_Vk (ro_av_e (by rw [e1]; decide))]
      exact t
    · rw [c, ro_V_at] at e
      rw [c, ro_S_at] at e3
      dsimp only
      rw [ro_Ss (ro_as_3 e e3), ro_Vs (ro_av_3 e e3)]
      exact nm_r (nI_1 i) t
    · rw [c, ro_S_at] at e1 e3
      rw [ro_Sk (ro_as_e e1 e3), ro_Vk (ro_av_e e3)]; exact t
theorem xw_apply {post : SX → Prop} {lo hi : Int32} (hR : R ≤ 32) (h : post (nI R, fp, fc, fn, fs, ft, ro_S lo hi st va R, ro_V lo hi st va R, cu, ri)) : wpX_applyPending post (nI R, fp, fc, fn, fs, ft, st, va, cu, ri) lo hi := by
  have t := xl_apply hR h R 0 (by omega)
  rw [ro_S0, ro_V0] at t
  exact ⟨_, t⟩
/-! takeResult -/
theorem xl_take {post : SX → Prop} {lo hi : Int32} {q : Nat → Bool} (hR : R ≤ 32) (hq : ∀ i, i < R → (ro_two 1 2 (st i) && ro_in lo hi (va i)) = q i) (h : ∀ ri', ro_R ri' q R → post (nI R, fp, fc, fn, nI (cc_c q R), ro_T q va R, st, va, cu, ri')) : ∀ d i ri', i + d = R → ro_R ri' q i → wX_takeResult_12 post lo hi (nI R) fp fc fn (d + 1) (nI i) (nI (cc_c q i)) (ro_T q va i) st va cu ri' := by
  intro d
  induction d with
  | zero =>
    intro i ri' hd hr
    obtain rfl : i = R := by omega
    exact pk_le i i (fun _ => h ri' hr) (fun z => absurd z (by omega))
  | succ d ih =>
    intro i ri' hd hr
    have c : (nI i).toNatClampNeg = i := nI_clamp (by omega)
    have hl := cc_le q i
    have cq : (nI (cc_c q i)).toNatClampNeg = cc_c q i := nI_clamp (by omega)
    have Q := hq i (by omega)
    refine pk_le R i (fun z => absurd z (by omega)) (fun _ => ⟨pk_in i 32 (by omega), xw_isLive (bo_z (fun e => nm_r (nI_1 i) ?_) (fun e => ⟨pk_in i 32 (by omega), xw_isInside (bo_z (fun e2 => nm_r (nI_1 i) ?_) (fun e2 => ?_))⟩))⟩)
    · rw [c] at e
      rw [e] at Q
      rw [cc_nf (q := q) Q.symm, ← ro_Tf (va := va) Q.symm]
      exact ih (i + 1) ri' (by omega) (ro_Rf hr Q.symm)
    · rw [c] at e e2
      rw [e, e2] at Q
      rw [cc_nf (q := q) Q.symm, ← ro_Tf (va := va) Q.symm]
      exact ih (i + 1) ri' (by omega) (ro_Rf hr Q.symm)
    · rw [c] at e e2
      rw [e, e2] at Q
      have t := ih (i + 1) (upd ri' (cc_c q i) (nI i)) (by omega) (ro_Rt hr Q.symm)
      refine ⟨pk_in (cc_c q i) 32 (by omega), nm_r (by rw [cq]) (nm_r (cc_nt Q.symm) ⟨pk_in i 32 (by omega), nm_r ?_ (nm_r (nI_1 i) t)⟩)⟩
      rw [c]
      exact (ro_Tt Q.symm).symm
theorem xw_take {post : SX → Prop} {lo hi : Int32} {q : Nat → Bool} (hR : R ≤ 32) (hq : ∀ i, i < R → (ro_two 1 2 (st i) && ro_in lo hi (va i)) = q i) (h : ∀ ri', ro_R ri' q R → post (nI R, fp, fc, fn, nI (cc_c q R), ro_T q va R, st, va, cu, ri')) : wpX_takeResult post (nI R, fp, fc, fn, fs, ft, st, va, cu, ri) lo hi :=
  ⟨R + 1, xl_take hR hq h R 0 ri (by omega) ro_R0⟩
/-! select -/
theorem xw_select {post : Int32 → SX → Prop} {lo hi : Int32} {q : Nat → Bool} (hR : R ≤ 32) (hC : C ≤ 16) (hn : n ≤ C) (ha : cu_asc cu n)
    (hq : ∀ i, i < R → (ro_two 1 2 (ro_S lo hi st va R i) && ro_in lo hi (ro_V lo hi st va R i)) = q i)
    (h0 : ¬ lo < hi → post (-6) (nI R, fp, nI C, nI n, fs, ft, st, va, cu, ri))
    (h : lo < hi → ∀ ri', ro_R ri' q R → post (nI (cc_c q R)) (nI R, fp, nI C, nI (cu_N C (cu_F C cu n lo) (cu_N C cu n lo) hi), nI (cc_c q R), ro_T q (ro_V lo hi st va R) R, ro_S lo hi st va R, ro_V lo hi st va R, cu_F C (cu_F C cu n lo) (cu_N C cu n lo) hi, ri')) :
    wpX_select post (nI R, fp, nI C, nI n, fs, ft, st, va, cu, ri) lo hi := by
  unfold wpX_select
  dsimp only
  refine br_c (fun e => xw_apply hR ?_) h0
  dsimp only
  refine xw_addCut hC hn ha ?_
  dsimp only
  refine xw_addCut hC (cu_N_le hn) (cu_F_asc ha) ?_
  dsimp only
  refine xw_take hR hq (fun ri' hr => ?_)
  exact h e ri' hr
theorem xw_resultRow_in {post : Int32 → Prop} {j s : Nat} (hs : s ≤ 32) (hj : j < s) (h : post (ri j)) : wpX_resultRow post (fr, fp, fc, fn, nI s, ft, st, va, cu, ri) (nI j) := by
  have c : (nI j).toNatClampNeg = j := nI_clamp (by omega)
  refine br_f (nI_pos (by omega)) (pk_lt j s (fun _ => ⟨pk_in j 32 (by omega), ?_⟩) (fun z => absurd z (by omega)))
  rw [c]; exact h
theorem xw_resultRow_out {post : Int32 → Prop} {x : Int32} {s : Nat} (ho : x < 0 ∨ nI s ≤ x) (h : post (-1)) : wpX_resultRow post (fr, fp, fc, fn, nI s, ft, st, va, cu, ri) x :=
  br_c (fun _ => h) (fun e => br_f (Int32.not_lt.mpr (ho.resolve_left e)) h)
end
end
section
/-! Y's walks -/
theorem ro_all {x : Int32} (h : ¬ x = 2147483647) : ro_in (-2147483648) 2147483647 x = true := by
  have a := Int32.le_toInt x
  have b := Int32.toInt_lt x
  have e1 : (-2147483648 : Int32).toInt = -2147483648 := by decide
  have e2 : (2147483647 : Int32).toInt = 2147483647 := by decide
  refine ro_in_t ?_ ?_
  · rw [Int32.le_iff_toInt_le, e1]; omega
  · rw [Int32.lt_iff_toInt_lt, e2]
    have c : ¬ x.toInt = 2147483647 := fun z => h (Int32.toInt_inj.mp (by rw [z, e2]))
    omega
section
variable {R P C n : Nat} {fr fp fc fn : Int32} {fs : Int64} {st va ir cu : Nat → Int32}
theorem yl_count {post : Int32 → Prop} {a b lo hi : Int32} {q : Nat → Bool} (hR : R ≤ 32) (hq : ∀ i, i < R → (ro_two a b (st i) && ro_in lo hi (va i)) = q i) (h : post (nI (cc_c q R))) : ∀ d i, i + d = R → wY_countIn_6 post a b lo hi (nI R) fp fc fs fn st va ir cu (d + 1) (nI (cc_c q i)) (nI i) := by
  intro d
  induction d with
  | zero =>
    intro i hd
    obtain rfl : i = R := by omega
    exact pk_le i i (fun _ => h) (fun z => absurd z (by omega))
  | succ d ih =>
    intro i hd
    have t := ih (i + 1) (by omega)
    have c : (nI i).toNatClampNeg = i := nI_clamp (by omega)
    have Q := hq i (by omega)
    have join : ro_two a b (st i) = true → wY_countIn_37 post (wY_countIn_6 post a b lo hi (nI R) fp fc fs fn st va ir cu (d + 1)) a b lo hi (nI (cc_c q i)) (nI i) (nI R) fp fc fs fn st va ir cu := by
      intro z
      rw [z] at Q
      refine ⟨pk_in i 32 (by omega), br_c (fun e => nm_r (nI_1 i) ?_) (fun e => ⟨pk_in i 32 (by omega), br_c (fun e2 => nm_r (nI_1 i) ?_) (fun e2 => nm_r ?_ (nm_r (nI_1 i) t))⟩)⟩
      · rw [c] at e
        rw [ro_in_f1 (Int32.not_le.mpr e)] at Q
        rw [cc_nf (q := q) Q.symm]; exact t
      · rw [c] at e2
        rw [ro_in_f2 (Int32.not_lt.mpr e2)] at Q
        rw [cc_nf (q := q) Q.symm]; exact t
      · rw [c] at e e2
        rw [ro_in_t (Int32.not_lt.mp e) (Int32.not_le.mp e2)] at Q
        exact cc_nt Q.symm
    refine pk_le R i (fun z => absurd z (by omega)) (fun _ => ⟨pk_in i 32 (by omega), br_c (fun e => join ?_) (fun e => ⟨pk_in i 32 (by omega), br_c (fun e2 => join ?_) (fun e2 => nm_r (nI_1 i) ?_)⟩)⟩)
    · rw [c] at e; exact ro_two_a e
    · rw [c] at e2; exact ro_two_b e2
    · rw [c] at e e2
      rw [ro_two_f e e2] at Q
      rw [cc_nf (q := q) Q.symm]; exact t
theorem yw_countIn {post : Int32 → Prop} {a b lo hi : Int32} {q : Nat → Bool} (hR : R ≤ 32) (hq : ∀ i, i < R → (ro_two a b (st i) && ro_in lo hi (va i)) = q i) (h : post (nI (cc_c q R))) : wpY_countIn post (nI R, fp, fc, fs, fn, st, va, ir, cu) a b lo hi :=
  ⟨R + 1, yl_count hR hq h R 0 (by omega)⟩
theorem yw_np {post : Int32 → Prop} (hR : R ≤ 32) (hv : ∀ i, i < R → ¬ va i = 2147483647) (h : post (nI (ro_np st R))) : wpY_pendingCount post (nI R, fp, fc, fs, fn, st, va, ir, cu) := by
  unfold wpY_pendingCount
  dsimp only
  exact yw_countIn (q := fun i => ro_two 1 3 (st i)) hR (fun i hi => by rw [ro_all (hv i hi), Bool.and_true]) h
theorem yw_ns {post : Int32 → Prop} {q : Nat → Bool} (hR : R ≤ 32) (hv : ∀ i, i < R → ¬ va i = 2147483647) (hq : ∀ i, i < R → ro_two 2 3 (st i) = q i) (h : post (nI (cc_c q R))) : wpY_storedCount post (nI R, fp, fc, fs, fn, st, va, ir, cu) := by
  unfold wpY_storedCount
  dsimp only
  exact yw_countIn hR (fun i hi => by rw [ro_all (hv i hi), Bool.and_true]; exact hq i hi) h
theorem yw_count {post : Int32 → Prop} {lo hi : Int32} {q : Nat → Bool} (hR : R ≤ 32) (hq : ∀ i, i < R → (ro_two 1 2 (st i) && ro_in lo hi (va i)) = q i) (h0 : ¬ lo < hi → post (-6)) (h : lo < hi → post (nI (cc_c q R))) : wpY_count post (nI R, fp, fc, fs, fn, st, va, ir, cu) lo hi := by
  unfold wpY_count
  dsimp only
  exact br_c (fun e => yw_countIn hR hq (h e)) h0
theorem yl_insert {post : Int32 → SY → Prop} {v : Int32} (hR : R ≤ 32) (hP : P ≤ 16) (hv : ∀ i, i < R → ¬ va i = 2147483647)
    (h2 : (∀ j, j < R → ¬ st j = 0) → post (-3) (nI R, nI P, fc, fs, fn, st, va, ir, cu))
    (h3 : ∀ j, j < R → st j = 0 → (∀ i, i < j → ¬ st i = 0) → ro_np st R = P → post (-4) (nI R, nI P, fc, fs, fn, st, va, ir, cu))
    (h4 : ∀ j, j < R → st j = 0 → (∀ i, i < j → ¬ st i = 0) → ro_np st R ≠ P → post (nI j) (nI R, nI P, fc, fs, fn, upd st j 1, upd va j v, ir, cu)) :
    ∀ d i, i + d = R → (∀ j, j < i → ¬ st j = 0) → wY_insert_11 post v (nI R) (nI P) fc fs fn st va ir cu (d + 1) (nI i) := by
  intro d
  induction d with
  | zero =>
    intro i hd hm
    obtain rfl : i = R := by omega
    exact pk_le i i (fun _ => h2 hm) (fun z => absurd z (by omega))
  | succ d ih =>
    intro i hd hm
    have c : (nI i).toNatClampNeg = i := nI_clamp (by omega)
    have hl := cc_le (fun i => ro_two 1 3 (st i)) R
    refine pk_le R i (fun z => absurd z (by omega)) (fun _ => ⟨pk_in i 32 (by omega), br_c (fun e => yw_np hR hv ?_) (fun e => nm_r (nI_1 i) (ih (i + 1) (by omega) ?_))⟩)
    · rw [c] at e
      refine pk_eq (ro_np st R) P (fun z => h3 i (by omega) e hm z) (fun z => ⟨pk_in i 32 (by omega), nm_r (by rw [c]) ⟨pk_in i 32 (by omega), nm_r (by rw [c]) (h4 i (by omega) e hm z)⟩⟩) rfl rfl ?_ (by omega)
      show cc_c (fun i => ro_two 1 3 (st i)) R < 2 ^ 31
      omega
    · rw [c] at e; exact lt_s (p := fun j => ¬ st j = 0) hm e
theorem yw_insert {post : Int32 → SY → Prop} {v : Int32} (hR : R ≤ 32) (hP : P ≤ 16) (hv : ∀ i, i < R → ¬ va i = 2147483647)
    (h1 : v = 2147483647 → post (-2) (nI R, nI P, fc, fs, fn, st, va, ir, cu))
    (h2 : ¬ v = 2147483647 → (∀ j, j < R → ¬ st j = 0) → post (-3) (nI R, nI P, fc, fs, fn, st, va, ir, cu))
    (h3 : ∀ j, ¬ v = 2147483647 → j < R → st j = 0 → (∀ i, i < j → ¬ st i = 0) → ro_np st R = P → post (-4) (nI R, nI P, fc, fs, fn, st, va, ir, cu))
    (h4 : ∀ j, ¬ v = 2147483647 → j < R → st j = 0 → (∀ i, i < j → ¬ st i = 0) → ro_np st R ≠ P → post (nI j) (nI R, nI P, fc, fs, fn, upd st j 1, upd va j v, ir, cu)) :
    wpY_insert post (nI R, nI P, fc, fs, fn, st, va, ir, cu) v :=
  br_c h1 (fun e => ⟨R + 1, yl_insert hR hP hv (h2 e) (fun j => h3 j e) (fun j => h4 j e) R 0 (by omega) (fun j hj => absurd hj (Nat.not_lt_zero j))⟩)
theorem yw_rowState_in {post : Int32 → Prop} {j : Nat} (hR : R ≤ 32) (hj : j < R) (h : post (st j)) : wpY_rowState post (nI R, fp, fc, fs, fn, st, va, ir, cu) (nI j) := by
  have c : (nI j).toNatClampNeg = j := nI_clamp (by omega)
  refine br_f (nI_pos (by omega)) (pk_lt j R (fun _ => ⟨pk_in j 32 (by omega), ?_⟩) (fun z => absurd z (by omega)))
  rw [c]; exact h
theorem yw_rowState_out {post : Int32 → Prop} {x : Int32} (ho : x < 0 ∨ nI R ≤ x) (h : post (-1)) : wpY_rowState post (nI R, fp, fc, fs, fn, st, va, ir, cu) x :=
  br_c (fun _ => h) (fun e => br_f (Int32.not_lt.mpr (ho.resolve_left e)) h)
theorem yw_rowValue_in {post : Int32 → Prop} {j : Nat} (hR : R ≤ 32) (hj : j < R) (hz : st j = 0 → va j = 0) (h : post (va j)) : wpY_rowValue post (nI R, fp, fc, fs, fn, st, va, ir, cu) (nI j) := by
  have c : (nI j).toNatClampNeg = j := nI_clamp (by omega)
  refine br_f (nI_pos (by omega)) (pk_le R j (fun z => absurd z (by omega)) (fun _ => ⟨pk_in j 32 (by omega), br_c (fun e => ?_) (fun e => ⟨pk_in j 32 (by omega), ?_⟩)⟩))
  · rw [c] at e
    rw [hz e] at h; exact h
  · rw [c]; exact h
theorem yw_rowValue_out {post : Int32 → Prop} {x : Int32} (ho : x < 0 ∨ nI R ≤ x) (h : post 0) : wpY_rowValue post (nI R, fp, fc, fs, fn, st, va, ir, cu) x :=
  br_c (fun _ => h) (fun e => br_t (ho.resolve_left e) h)
theorem yw_delete_in {post : Int32 → SY → Prop} {j : Nat} (hR : R ≤ 32) (hP : P ≤ 16) (hj : j < R) (hv : ∀ i, i < R → ¬ va i = 2147483647)
    (h1 : st j = 1 → post 0 (nI R, nI P, fc, fs, fn, upd st j 0, upd va j 0, ir, cu))
    (h2 : st j = 2 → ro_np st R ≠ P → post 0 (nI R, nI P, fc, fs, fn, upd st j 3, va, ir, cu))
    (h3 : st j = 2 → ro_np st R = P → post (-4) (nI R, nI P, fc, fs, fn, st, va, ir, cu))
    (h4 : ¬ st j = 1 → ¬ st j = 2 → post (-5) (nI R, nI P, fc, fs, fn, st, va, ir, cu)) :
    wpY_delete post (nI R, nI P, fc, fs, fn, st, va, ir, cu) (nI j) := by
  have c : (nI j).toNatClampNeg = j := nI_clamp (by omega)
  have hl := cc_le (fun i => ro_two 1 3 (st i)) R
  unfold wpY_delete
  dsimp only
  refine yw_rowState_in hR hj (br_c (fun e => br_t e ⟨pk_in j 32 (by omega), nm_r (by rw [c]) ⟨pk_in j 32 (by omega), nm_r (by rw [c]) (h1 e)⟩⟩) (fun e => br_c (fun e2 => br_f e (yw_np hR hv ?_)) (fun e2 => h4 e e2)))
  refine pk_eq (ro_np st R) P (fun z => h3 e2 z) (fun z => ⟨pk_in j 32 (by omega), nm_r (by rw [c]) (h2 e2 z)⟩) rfl rfl ?_ (by omega)
  show cc_c (fun i => ro_two 1 3 (st i)) R < 2 ^ 31
  omega
theorem yw_delete_out {post : Int32 → SY → Prop} {x : Int32} (ho : x < 0 ∨ nI R ≤ x) (h : post (-5) (nI R, fp, fc, fs, fn, st, va, ir, cu)) : wpY_delete post (nI R, fp, fc, fs, fn, st, va, ir, cu) x := by
  unfold wpY_delete
  dsimp only
  exact yw_rowState_out ho (br_f (by decide) (br_f (by decide) h))
theorem yw_restore_in {post : Int32 → SY → Prop} {j : Nat} (hR : R ≤ 32) (hj : j < R)
    (h1 : st j = 3 → post 0 (nI R, fp, fc, fs, fn, upd st j 2, va, ir, cu))
    (h2 : ¬ st j = 3 → post (-5) (nI R, fp, fc, fs, fn, st, va, ir, cu)) :
    wpY_restore post (nI R, fp, fc, fs, fn, st, va, ir, cu) (nI j) := by
  have c : (nI j).toNatClampNeg = j := nI_clamp (by omega)
  unfold wpY_restore
  dsimp only
  exact yw_rowState_in hR hj (br_c (fun e => ⟨pk_in j 32 (by omega), nm_r (by rw [c]) (h1 e)⟩) h2)
theorem yw_restore_out {post : Int32 → SY → Prop} {x : Int32} (ho : x < 0 ∨ nI R ≤ x) (h : post (-5) (nI R, fp, fc, fs, fn, st, va, ir, cu)) : wpY_restore post (nI R, fp, fc, fs, fn, st, va, ir, cu) x := by
  unfold wpY_restore
  dsimp only
  exact yw_rowState_out ho (br_f (by decide) h)
/-! the cuts -/
theorem yl_upTo {post : Int32 → Prop} {v : Int32} {q : Nat → Bool} (hn : n ≤ 16) (hq : ∀ i, i < n → decide (cu i ≤ v) = q i) (h : post (nI (cc_c q n))) : ∀ d i, i + d = n → wY_cutsUpTo_4 post v fr fp fc fs (nI n) st va ir cu (d + 1) (nI (cc_c q i)) (nI i) := by
  intro d
  induction d with
  | zero =>
    intro i hi
    obtain rfl : i = n := by omega
    exact pk_le i i (fun _ => h) (fun z => absurd z (by omega))
  | succ d ih =>
    intro i hi
    have t := ih (i + 1) (by omega)
    have c : (nI i).toNatClampNeg = i := nI_clamp (by omega)
    have Q := hq i (by omega)
    refine pk_le n i (fun z => absurd z (by omega)) (fun _ => ⟨pk_in i 16 (by omega), br_c (fun e => nm_r (nI_1 i) ?_) (fun e => nm_r ?_ (nm_r (nI_1 i) t))⟩)
    · rw [c] at e
      rw [decide_eq_false (Int32.not_le.mpr e)] at Q
      rw [cc_nf (q := q) Q.symm]; exact t
    · rw [c] at e
      rw [decide_eq_true (Int32.not_lt.mp e)] at Q
      exact cc_nt Q.symm
theorem yw_upTo {post : Int32 → Prop} {v : Int32} (hn : n ≤ 16) (h : post (nI (cu_to cu n v))) : wpY_cutsUpTo post (fr, fp, fc, fs, nI n, st, va, ir, cu) v :=
  ⟨n + 1, yl_upTo (q := fun i => decide (cu i ≤ v)) hn (fun _ _ => rfl) h n 0 (by omega)⟩
theorem yl_cutAt {post : Int32 → Prop} {k : Int32} {rk : Nat → Nat} (hn : n ≤ 16) (hr : ∀ i, i < n → cu_to cu n (cu i) = rk i + 1) (h0 : (∀ i, i < n → ¬ nI (rk i) = k) → post (-1)) (h1 : ∀ i, i < n → nI (rk i) = k → post (nI i)) : ∀ d i, i + d = n → (∀ j, j < i → ¬ nI (rk j) = k) → wY_cutAt_2 post k fr fp fc fs (nI n) st va ir cu (d + 1) (nI i) := by
  intro d
  induction d with
  | zero =>
    intro i hi hm
    obtain rfl : i = n := by omega
    exact pk_le i i (fun _ => h0 hm) (fun z => absurd z (by omega))
  | succ d ih =>
    intro i hi hm
    have c : (nI i).toNatClampNeg = i := nI_clamp (by omega)
    have e0 : nI (cu_to cu n (cu i)) - 1 = nI (rk i) := by rw [hr i (by omega)]; exact nI_pred _
    refine pk_le n i (fun z => absurd z (by omega)) (fun _ => ⟨pk_in i 16 (by omega), ?_⟩)
    rw [c]
    refine yw_upTo hn (br_c (fun e => h1 i (by omega) (e0.symm.trans e)) (fun e => nm_r (nI_1 i) (ih (i + 1) (by omega) (lt_s (p := fun j => ¬ nI (rk j) = k) hm (fun z => e (e0.trans z))))))
theorem yw_cutAt {post : Int32 → Prop} {k : Int32} {rk : Nat → Nat} (hn : n ≤ 16) (hr : ∀ i, i < n → cu_to cu n (cu i) = rk i + 1) (h0 : (∀ i, i < n → ¬ nI (rk i) = k) → post (-1)) (h1 : ∀ i, i < n → nI (rk i) = k → post (nI i)) : wpY_cutAt post (fr, fp, fc, fs, nI n, st, va, ir, cu) k :=
  ⟨n + 1, yl_cutAt hn hr h0 h1 n 0 (by omega) (fun j hj => absurd hj (Nat.not_lt_zero j))⟩
/-- cutAt against an ascending array of the same content -/
theorem yw_cutAt_in {post : Int32 → Prop} {f : Nat → Int32} {j : Nat} (hn : n ≤ 16) (ha : cu_asc f n) (hs : cu_same f cu n) (hj : j < n) (h : ∀ i, i < n → cu i = f j → post (nI i)) : wpY_cutAt post (fr, fp, fc, fs, nI n, st, va, ir, cu) (nI j) := by
  have H : ∀ i, i < n → cu_to cu n (cu i) - 1 < n ∧ f (cu_to cu n (cu i) - 1) = cu i ∧ cu_to cu n (cu i) = cu_to cu n (cu i) - 1 + 1 := by
    intro i hi
    obtain ⟨l, hl, e, e2⟩ := cu_same_rank ha hs hi
    rw [e2]
    exact ⟨hl, e, rfl⟩
  refine yw_cutAt (rk := fun i => cu_to cu n (cu i) - 1) hn (fun i hi => (H i hi).2.2) (fun z => ?_) (fun i hi z => ?_)
  · obtain ⟨i, hi, e⟩ := cu_same_mem hs hj
    exact absurd (by rw [e, ← cu_same_to hs, cu_rank ha hj]; rfl) (z i hi)
  · have hz : nI (cu_to cu n (cu i) - 1) = nI j := z
    have e := (nI_eq (by have := (H i hi).1; omega) (by omega)).mp hz
    have e2 := (H i hi).2.1
    rw [e] at e2
    exact h i hi e2.symm
theorem yw_cutAt_out {post : Int32 → Prop} {f : Nat → Int32} {x : Int32} (hn : n ≤ 16) (ha : cu_asc f n) (hs : cu_same f cu n) (ho : x < 0 ∨ nI n ≤ x) (h : post (-1)) : wpY_cutAt post (fr, fp, fc, fs, nI n, st, va, ir, cu) x := by
  refine yw_cutAt (rk := fun i => cu_to cu n (cu i) - 1) hn (fun i hi => ?_) (fun _ => h) (fun i hi z => ?_)
  · obtain ⟨l, hl, e, e2⟩ := cu_same_rank ha hs hi
    rw [e2]; rfl
  · obtain ⟨l, hl, e, e2⟩ := cu_same_rank ha hs hi
    have hz : nI (cu_to cu n (cu i) - 1) = x := z
    rw [e2, Nat.add_sub_cancel] at hz
    rw [← hz] at ho
    cases ho with
    | inl w => exact absurd w (nI_pos (by omega))
    | inr w => exact absurd w (nI_ge hl (by omega))
theorem yw_cutValue_in {post : Int32 → Prop} {f : Nat → Int32} {j : Nat} (hn : n ≤ 16) (ha : cu_asc f n) (hs : cu_same f cu n) (hj : j < n) (h : post (f j)) : wpY_cutValue post (fr, fp, fc, fs, nI n, st, va, ir, cu) (nI j) := by
  unfold wpY_cutValue
  dsimp only
  refine yw_cutAt_in hn ha hs hj (fun i hi e => br_t (nI_pos' (by omega)) ⟨pk_in i 16 (by omega), ?_⟩)
  rw [nI_clamp (by omega), e]; exact h
theorem yw_cutValue_out {post : Int32 → Prop} {f : Nat → Int32} {x : Int32} (hn : n ≤ 16) (ha : cu_asc f n) (hs : cu_same f cu n) (ho : x < 0 ∨ nI n ≤ x) (h : post 0) : wpY_cutValue post (fr, fp, fc, fs, nI n, st, va, ir, cu) x := by
  unfold wpY_cutValue
  dsimp only
  exact yw_cutAt_out hn ha hs ho (br_f (by decide) h)
theorem yw_cutBelow_in {post : Int32 → Prop} {f : Nat → Int32} {j : Nat} {q : Nat → Bool} (hR : R ≤ 32) (hn : n ≤ 16) (ha : cu_asc f n) (hs : cu_same f cu n) (hj : j < n) (hq : ∀ i, i < R → (ro_two 2 3 (st i) && decide (va i < f j)) = q i) (h : post (nI (cc_c q R))) : wpY_cutBelow post (nI R, fp, fc, fs, nI n, st, va, ir, cu) (nI j) := by
  unfold wpY_cutBelow
  dsimp only
  refine yw_cutAt_in hn ha hs hj (fun i hi e => br_t (nI_pos' (by omega)) ⟨pk_in i 16 (by omega), ?_⟩)
  rw [nI_clamp (by omega), e]
  refine yw_countIn hR (fun l hl => ?_) h
  have a : (-2147483648 : Int32) ≤ va l := by
    have b := Int32.le_toInt (va l)
    rw [Int32.le_iff_toInt_le, show (-2147483648 : Int32).toInt = -2147483648 from by decide]
    omega
  rw [← hq l hl]
  unfold ro_in
  rw [decide_eq_true a, Bool.true_and]
theorem yw_cutBelow_out {post : Int32 → Prop} {f : Nat → Int32} {x : Int32} (hn : n ≤ 16) (ha : cu_asc f n) (hs : cu_same f cu n) (ho : x < 0 ∨ nI n ≤ x) (h : post (-1)) : wpY_cutBelow post (fr, fp, fc, fs, nI n, st, va, ir, cu) x := by
  unfold wpY_cutBelow
  dsimp only
  exact yw_cutAt_out hn ha hs ho (br_f (by decide) h)
theorem yw_forgetCut_in {post : Int32 → SY → Prop} {f : Nat → Int32} {j : Nat} (hn : n ≤ 16) (ha : cu_asc f n) (hs : cu_same f cu n) (hj : j < n) (h : ∀ i, i < n → cu i = f j → post 0 (fr, fp, fc, fs, nI (n - 1), st, va, ir, upd cu i (cu (n - 1)))) : wpY_forgetCut post (fr, fp, fc, fs, nI n, st, va, ir, cu) (nI j) := by
  unfold wpY_forgetCut
  dsimp only
  refine yw_cutAt_in hn ha hs hj (fun i hi e => br_t (nI_pos' (by omega)) (nm_r (nn_sub1 (by omega)) ⟨pk_in (n - 1) 16 (by omega), pk_in i 16 (by omega), ?_⟩))
  rw [nI_clamp (show i < 2 ^ 31 by omega), nI_clamp (show n - 1 < 2 ^ 31 by omega)]
  exact nm_e (h i hi e)
theorem yw_forgetCut_out {post : Int32 → SY → Prop} {f : Nat → Int32} {x : Int32} (hn : n ≤ 16) (ha : cu_asc f n) (hs : cu_same f cu n) (ho : x < 0 ∨ nI n ≤ x) (h : post (-7) (fr, fp, fc, fs, nI n, st, va, ir, cu)) : wpY_forgetCut post (fr, fp, fc, fs, nI n, st, va, ir, cu) x := by
  unfold wpY_forgetCut
  dsimp only
  exact yw_cutAt_out hn ha hs ho (br_f (by decide) h)
theorem yw_pieceOf_in {post : Int32 → Prop} {j : Nat} (hR : R ≤ 32) (hn : n ≤ 16) (hj : j < R) (h0 : ro_two 2 3 (st j) = false → post (-1)) (h : ro_two 2 3 (st j) = true → post (nI (cu_to cu n (va j)))) : wpY_pieceOf post (nI R, fp, fc, fs, nI n, st, va, ir, cu) (nI j) := by
  have c : (nI j).toNatClampNeg = j := nI_clamp (by omega)
  have join : ro_two 2 3 (st j) = true → wY_pieceOf_18 post (nI j) (nI R) fp fc fs (nI n) st va ir cu := by
    intro z
    refine ⟨pk_in j 32 (by omega), ?_⟩
    rw [c]
    exact yw_upTo hn (h z)
  unfold wpY_pieceOf
  dsimp only
  exact yw_rowState_in hR hj (br_c (fun e => join (ro_two_a e)) (fun e => br_c (fun e2 => join (ro_two_b e2)) (fun e2 => h0 (ro_two_f e e2))))
theorem yw_pieceOf_out {post : Int32 → Prop} {x : Int32} (ho : x < 0 ∨ nI R ≤ x) (h : post (-1)) : wpY_pieceOf post (nI R, fp, fc, fs, fn, st, va, ir, cu) x := by
  unfold wpY_pieceOf
  dsimp only
  exact yw_rowState_out ho (br_f (by decide) (br_f (by decide) h))
end
end
section
/-! Y's addCut, select, resultRow -/
theorem bo_nar (b : Bool) : vp_nar .boolean (bo_I b) = bo_I b := by
  cases b with
  | false => rfl
  | true => rfl
section
variable {R P C n : Nat} {fr fp fc fn : Int32} {fs : Int64} {st va ir cu : Nat → Int32}
theorem yl_addCut {post : SY → Prop} {v : Int32} (hC : C ≤ 16) (hn : n ≤ C) (h : post (fr, fp, nI C, fs, nI (cu_N C cu n v), st, va, ir, cu_G C cu n v)) : ∀ d i, i + d = n → (∀ j, j < i → ¬ cu j = v) → wY_addCut_2 post v fr fp (nI C) fs (nI n) st va ir cu (d + 1) (nI i) := by
  intro d
  induction d with
  | zero =>
    intro i hi hm
    obtain rfl : i = n := by omega
    have c : (nI i).toNatClampNeg = i := nI_clamp (by omega)
    have hh := cu_has_f hm
    refine pk_le i i (fun _ => pk_le C i (fun z => ?_) (fun z => nm_r (nI_1 i) ⟨pk_in i 16 (by omega), nm_r (by rw [c]) ?_⟩)) (fun z => absurd z (by omega))
    · unfold cu_N cu_G at h
      rw [if_pos (Or.inr z), if_pos (Or.inr z)] at h
      exact h
    · have hne : ¬ (cu_has cu i v = true ∨ C ≤ i) := by
        intro y
        cases y with
        | inl y => rw [hh] at y; exact absurd y (by decide)
        | inr y => omega
      unfold cu_N cu_G at h
      rw [if_neg hne, if_neg hne] at h
      exact h
  | succ d ih =>
    intro i hi hm
    have c : (nI i).toNatClampNeg = i := nI_clamp (by omega)
    refine pk_le n i (fun z => absurd z (by omega)) (fun _ => ⟨pk_in i 16 (by omega), br_c (fun e => ?_) (fun e => nm_r (nI_1 i) (ih (i + 1) (by omega) ?_))⟩)
    · rw [c] at e
      have hh : cu_has cu n v = true := cu_has_t (i := i) (by omega) e
      unfold cu_N cu_G at h
      rw [if_pos (Or.inl hh), if_pos (Or.inl hh)] at h
      exact h
    · rw [c] at e; exact lt_s (p := fun j => ¬ cu j = v) hm e
theorem yw_addCut {post : SY → Prop} {v : Int32} (hC : C ≤ 16) (hn : n ≤ C) (h : post (fr, fp, nI C, fs, nI (cu_N C cu n v), st, va, ir, cu_G C cu n v)) : wpY_addCut post (fr, fp, nI C, fs, nI n, st, va, ir, cu) v :=
  ⟨n + 1, yl_addCut hC hn h n 0 (by omega) (fun j hj => absurd hj (Nat.not_lt_zero j))⟩
theorem yl_marks {post : Int32 → SY → Prop} {lo hi : Int32} {q : Nat → Bool} (hR : R ≤ 32)
    (hq : ∀ i, i < R → (ro_two 1 2 (st i) && ro_in lo hi (va i)) = q i)
    (hq2 : ∀ i, i < R → (decide (st i = 2) && ro_in lo hi (va i)) = q i)
    (h : ∀ ir', (∀ j, j < R → ir' j = bo_I (q j)) → post (nI (cc_c q R)) (nI R, fp, fc, ro_T q va R, fn, st, va, ir', cu)) :
    ∀ d i ir', i + d = R → (∀ j, j < i → ir' j = bo_I (q j)) → wY_select_105 post lo hi (nI R) fp fc fn (d + 1) (nI i) (ro_T q va i) st va ir' cu := by
  intro d
  induction d with
  | zero =>
    intro i ir' hd hr
    obtain rfl : i = R := by omega
    exact pk_le i i (fun _ => yw_countIn hR hq (h ir' hr)) (fun z => absurd z (by omega))
  | succ d ih =>
    intro i ir' hd hr
    have c : (nI i).toNatClampNeg = i := nI_clamp (by omega)
    have Q := hq2 i (by omega)
    have join : ∀ z : Bool, q i = z → wY_select_153 post (wY_select_105 post lo hi (nI R) fp fc fn (d + 1)) lo hi (nI i) (bo_I z) (nI i) (nI R) fp fc (ro_T q va i) fn st va ir' cu := by
      intro z hz
      have nx : ∀ j, j < i + 1 → upd ir' i (bo_I z) j = bo_I (q j) := by
        intro j hj
        by_cases a : j = i
        · rw [a, pk_us, hz]
        · rw [pk_un a]; exact hr j (by omega)
      have t := ih (i + 1) (upd ir' i (bo_I z)) (by omega) nx
      refine ⟨pk_in i 32 (by omega), nm_r (e' := upd ir' i (bo_I z)) (by rw [c, bo_nar]) ⟨pk_in i 32 (by omega), ?_⟩⟩
      rw [c, pk_us]
      refine bo_z (fun e => nm_r (nI_1 i) ?_) (fun e => ⟨pk_in i 32 (by omega), nm_r (ro_Tt (hz.trans e)).symm (nm_r (nI_1 i) t)⟩)
      rw [← ro_Tf (va := va) (hz.trans e)]; exact t
    refine pk_le R i (fun z => absurd z (by omega)) (fun _ => ⟨pk_in i 32 (by omega), br_c (fun e => ⟨pk_in i 32 (by omega), br_c (fun e1 => join false ?_) (fun e1 => ⟨pk_in i 32 (by omega), br_c (fun e2 => join false ?_) (fun e2 => join true ?_)⟩)⟩) (fun e => join false ?_)⟩)
    · rw [c] at e e1
      rw [ro_in_f1 (Int32.not_le.mpr e1), Bool.and_false] at Q
      exact Q.symm
    · rw [c] at e2
      rw [ro_in_f2 (Int32.not_lt.mpr e2), Bool.and_false] at Q
      exact Q.symm
    · rw [c] at e e1 e2
      rw [decide_eq_true e, ro_in_t (Int32.not_lt.mp e1) (Int32.not_le.mp e2)] at Q
      exact Q.symm
    · rw [c] at e
      rw [decide_eq_false e, Bool.false_and] at Q
      exact Q.symm
theorem yl_apply {post : Int32 → SY → Prop} {lo hi : Int32} (hR : R ≤ 32) (hC : C ≤ 16) (hn : n ≤ C)
    (h : ∃ m, wY_select_105 post lo hi (nI R) fp (nI C) (nI (cu_N C (cu_G C cu n lo) (cu_N C cu n lo) hi)) m 0 0 (ro_S lo hi st va R) (ro_V lo hi st va R) ir (cu_G C (cu_G C cu n lo) (cu_N C cu n lo) hi)) :
    ∀ d i, i + d = R → wY_select_10 post lo hi (nI R) fp (nI C) fs (nI n) (d + 1) (nI i) (ro_S lo hi st va i) (ro_V lo hi st va i) ir cu := by
  intro d
  induction d with
  | zero =>
    intro i hd
    obtain rfl : i = R := by omega
    refine pk_le i i (fun _ => yw_addCut hC hn ?_) (fun z => absurd z (by omega))
    dsimp only
    refine yw_addCut hC (cu_N_le hn) ?_
    exact h
  | succ d ih =>
    intro i hd
    have t := ih (i + 1) (by omega)
    have c : (nI i).toNatClampNeg = i := nI_clamp (by omega)
    refine pk_le R i (fun z => absurd z (by omega)) (fun _ => ⟨pk_in i 32 (by omega), br_c (fun e => nm_r (nI_1 i) ?_) (fun ea => ⟨pk_in i 32 (by omega), br_c (fun e => nm_r (nI_1 i) ?_) (fun eb => ⟨pk_in i 32 (by omega), br_c (fun e1 => ⟨pk_in i 32 (by omega), nm_r (e' := ro_S lo hi st va (i + 1)) ?_ (nm_r (nI_1 i) ?_)⟩) (fun e1 => ⟨pk_in i 32 (by omega), br_c (fun e3 => ⟨pk_in i 32 (by omega), nm_r (e' := ro_S lo hi st va (i + 1)) ?_ ⟨pk_in i 32 (by omega), nm_r (e' := ro_V lo hi st va (i + 1)) ?_ (nm_r (nI_1 i) t)⟩⟩) (fun e3 => nm_r (nI_1 i) ?_)⟩)⟩)⟩)⟩)
    · rw [c, ro_V_at] at e
      have o := ro_in_f1 (hi := hi) (Int32.not_le.mpr e)
      rw [ro_Sk (ro_as_out o), ro_Vk (ro_av_out o)]; exact t
    · rw [c, ro_V_at] at e
      have o := ro_in_f2 (lo := lo) (Int32.not_lt.mpr e)
      rw [ro_Sk (ro_as_out o), ro_Vk (ro_av_out o)]; exact t
    · rw [c, ro_V_at] at ea eb
      rw [c, ro_S_at] at e1
      rw [c]
      exact ro_Ss (ro_as_1 (ro_in_t (Int32.not_lt.mp ea) (Int32.not_le.mp eb)) e1)
    · rw [c, ro_S_at] at e1
      rw [ro_Vk (ro_av_e (by rw [e1]; decide))]
      exact t
    · rw [c, ro_V_at] at ea eb
      rw [c, ro_S_at] at e3
      rw [c]
      exact ro_Ss (ro_as_3 (ro_in_t (Int32.not_lt.mp ea) (Int32.not_le.mp eb)) e3)
    · rw [c, ro_V_at] at ea eb
      rw [c, ro_S_at] at e3
      rw [c]
      exact ro_Vs (ro_av_3 (ro_in_t (Int32.not_lt.mp ea) (Int32.not_le.mp eb)) e3)
    · rw [c, ro_S_at] at e1 e3
      rw [ro_Sk (ro_as_e e1 e3), ro_Vk (ro_av_e e3)]; exact t
theorem yw_select {post : Int32 → SY → Prop} {lo hi : Int32} {q : Nat → Bool} (hR : R ≤ 32) (hC : C ≤ 16) (hn : n ≤ C)
    (hq : ∀ i, i < R → (ro_two 1 2 (ro_S lo hi st va R i) && ro_in lo hi (ro_V lo hi st va R i)) = q i)
    (hq2 : ∀ i, i < R → (decide (ro_S lo hi st va R i = 2) && ro_in lo hi (ro_V lo hi st va R i)) = q i)
    (h0 : ¬ lo < hi → post (-6) (nI R, fp, nI C, fs, nI n, st, va, ir, cu))
    (h : lo < hi → ∀ ir', (∀ j, j < R → ir' j = bo_I (q j)) → post (nI (cc_c q R)) (nI R, fp, nI C, ro_T q (ro_V lo hi st va R) R, nI (cu_N C (cu_G C cu n lo) (cu_N C cu n lo) hi), ro_S lo hi st va R, ro_V lo hi st va R, ir', cu_G C (cu_G C cu n lo) (cu_N C cu n lo) hi)) :
    wpY_select post (nI R, fp, nI C, fs, nI n, st, va, ir, cu) lo hi := by
  unfold wpY_select
  dsimp only
  refine br_c (fun e => ?_) h0
  have t := yl_apply (fs := fs) hR hC hn ⟨_, yl_marks hR hq hq2 (h e) R 0 ir (by omega) (fun j hj => absurd hj (Nat.not_lt_zero j))⟩ R 0 (by omega)
  rw [ro_S0, ro_V0] at t
  exact ⟨_, t⟩
theorem yl_rr {post : Int32 → Prop} {k : Int32} {q : Nat → Bool} (hR : R ≤ 32) (hq : ∀ i, i < R → (!decide (ir i = 0)) = q i) (h0 : (∀ i, i < R → q i = true → ¬ nI (cc_c q i) = k) → post (-1)) (h1 : ∀ i, i < R → q i = true → nI (cc_c q i) = k → post (nI i)) : ∀ d i, i + d = R → (∀ j, j < i → q j = true → ¬ nI (cc_c q j) = k) → wY_resultRow_4 post k (nI R) fp fc fs fn st va ir cu (d + 1) (nI (cc_c q i)) (nI i) := by
  intro d
  induction d with
  | zero =>
    intro i hd hm
    obtain rfl : i = R := by omega
    exact pk_le i i (fun _ => h0 hm) (fun z => absurd z (by omega))
  | succ d ih =>
    intro i hd hm
    have c : (nI i).toNatClampNeg = i := nI_clamp (by omega)
    have Q := hq i (by omega)
    refine pk_le R i (fun z => absurd z (by omega)) (fun _ => ⟨pk_in i 32 (by omega), br_c (fun e => nm_r (nI_1 i) ?_) (fun e => br_c (fun e1 => h1 i (by omega) ?_ e1) (fun e1 => nm_r (cc_nt ?_) (nm_r (nI_1 i) (ih (i + 1) (by omega) ?_))))⟩)
    · rw [c] at e
      rw [decide_eq_true e] at Q
      rw [cc_nf (q := q) Q.symm]
      refine ih (i + 1) (by omega) (lt_s (p := fun j => q j = true → ¬ nI (cc_c q j) = k) hm (fun z => ?_))
      rw [← Q] at z
      exact absurd z (by decide)
    · rw [c] at e
      rw [decide_eq_false e] at Q
      exact Q.symm
    · rw [c] at e
      rw [decide_eq_false e] at Q
      exact Q.symm
    · exact lt_s (p := fun j => q j = true → ¬ nI (cc_c q j) = k) hm (fun _ => e1)
theorem yw_resultRow {post : Int32 → Prop} {k : Int32} {q : Nat → Bool} (hR : R ≤ 32) (hq : ∀ i, i < R → (!decide (ir i = 0)) = q i) (h0 : (∀ i, i < R → q i = true → ¬ nI (cc_c q i) = k) → post (-1)) (h1 : ∀ i, i < R → q i = true → nI (cc_c q i) = k → post (nI i)) : wpY_resultRow post (nI R, fp, fc, fs, fn, st, va, ir, cu) k :=
  ⟨R + 1, yl_rr hR hq h0 h1 R 0 (by omega) (fun j hj => absurd hj (Nat.not_lt_zero j))⟩
end
end
section
/-! the relation -/
/-- which ids are marked -/
def re_mk (ir : Nat → Int32) : Nat → Bool := fun i => !decide (ir i = 0)
def re_K (R P C n : Nat) (st va cu g : Nat → Int32) : Prop := (4 ≤ R ∧ R ≤ 32) ∧ (1 ≤ P ∧ P ≤ 16) ∧ (1 ≤ C ∧ C ≤ 16) ∧ n ≤ C ∧ (∀ i, i < R → ¬ va i = 2147483647) ∧ (∀ i, i < R → st i = 0 → va i = 0) ∧ ro_np st R ≤ P ∧ cu_asc cu n ∧ cu_same cu g n
/-- the same limits, rows, number of cuts and sum; X's cuts ascend and have Y's content; X's result lists what Y marks -/
def i_Rel (_ : Nat) (u : SX) (v : SY) : Prop := ∃ (R P C n : Nat) (t : Int64) (st va cu ri ir g : Nat → Int32), u = (nI R, nI P, nI C, nI n, nI (cc_c (re_mk ir) R), t, st, va, cu, ri) ∧ v = (nI R, nI P, nI C, t, nI n, st, va, ir, g) ∧ re_K R P C n st va cu g ∧ ro_R ri (re_mk ir) R
theorem i_up {k : Nat} {u : SX} {v : SY} (h : i_Rel k u v) : i_Rel (k + 3) u v := h
/-! the constructors -/
def re_cl (k lo hi : Int32) : Int32 := if lo ≤ k then (if k ≤ hi then k else hi) else lo
theorem re_cl_c {k lo hi : Int32} {Q : Int32 → Prop} (h : Q (re_cl k lo hi)) : (lo ≤ k → ((k ≤ hi → Q k) ∧ (¬ k ≤ hi → Q hi))) ∧ (¬ lo ≤ k → Q lo) := by
  unfold re_cl at h
  refine br_c (fun e => br_c (fun e2 => ?_) (fun e2 => ?_)) (fun e => ?_)
  · rw [if_pos e, if_pos e2] at h; exact h
  · rw [if_pos e, if_neg e2] at h; exact h
  · rw [if_neg e] at h; exact h
theorem re_cl_n (k : Int32) {lo hi : Nat} (h1 : lo ≤ hi) (h2 : hi < 2 ^ 31) : ∃ j, (lo ≤ j ∧ j ≤ hi) ∧ re_cl k (nI lo) (nI hi) = nI j := by
  unfold re_cl
  by_cases e : nI lo ≤ k
  · by_cases e2 : k ≤ nI hi
    · have h0 : ¬ k < 0 := by
        have a := nI_toInt (show lo < 2 ^ 31 by omega)
        rw [Int32.le_iff_toInt_le, a] at e
        rw [Int32.lt_iff_toInt_lt, show (0 : Int32).toInt = 0 from by decide]
        omega
      obtain ⟨j, hj, rfl⟩ := nI_of h0
      rw [if_pos e, if_pos e2]
      exact ⟨j, ⟨(nI_leI (by omega) hj).mp e, (nI_leI hj h2).mp e2⟩, rfl⟩
    · rw [if_pos e, if_neg e2]
      exact ⟨hi, ⟨h1, Nat.le_refl _⟩, rfl⟩
  · rw [if_neg e]
    exact ⟨lo, ⟨Nat.le_refl _, h1⟩, rfl⟩
theorem xw_init {post : SX → Prop} {a b c : Int32} (h : post (re_cl a 4 32, re_cl b 1 16, re_cl c 1 16, 0, 0, 0, (fun _ => 0), (fun _ => 0), (fun _ => 0), (fun _ => 0))) : wpX_init post a b c := by
  unfold wpX_init
  refine re_cl_c (Q := fun r_1 => wpX_clamp (fun r_2 => (wpX_clamp (fun r_3 => (post (r_1, r_2, r_3, 0, 0, 0, (fun _ => 0), (fun _ => 0), (fun _ => 0), (fun _ => 0)))) c 1 16)) b 1 16) ?_
  refine re_cl_c (Q := fun r_2 => wpX_clamp (fun r_3 => (post (re_cl a 4 32, r_2, r_3, 0, 0, 0, (fun _ => 0), (fun _ => 0), (fun _ => 0), (fun _ => 0)))) c 1 16) ?_
  exact re_cl_c (Q := fun r_3 => (post (re_cl a 4 32, re_cl b 1 16, r_3, 0, 0, 0, (fun _ => 0), (fun _ => 0), (fun _ => 0), (fun _ => 0)))) h
theorem yw_init {post : SY → Prop} {a b c : Int32} (h : post (re_cl a 4 32, re_cl b 1 16, re_cl c 1 16, 0, 0, (fun _ => 0), (fun _ => 0), (fun _ => 0), (fun _ => 0))) : wpY_init post a b c := by
  unfold wpY_init
  refine re_cl_c (Q := fun z => wY_init_58 post b c z 0 0 0 0 0 (fun _ => 0) (fun _ => 0) (fun _ => 0) (fun _ => 0)) ?_
  unfold wY_init_58
  refine re_cl_c (Q := fun z => wY_init_83 post c z (re_cl a 4 32) 0 0 0 0 (fun _ => 0) (fun _ => 0) (fun _ => 0) (fun _ => 0)) ?_
  unfold wY_init_83
  exact re_cl_c (Q := fun z => post (re_cl a 4 32, re_cl b 1 16, z, 0, 0, (fun _ => 0), (fun _ => 0), (fun _ => 0), (fun _ => 0))) h
theorem i_vc0 (k0 : Int32) (k1 : Int32) (k2 : Int32) : wpX_init (fun u => wpY_init (fun v => i_Rel 3 u v) k0 k1 k2) k0 k1 k2 := by
  refine xw_init (yw_init ?_)
  obtain ⟨R, hR, eR⟩ := re_cl_n k0 (lo := 4) (hi := 32) (by omega) (by omega)
  obtain ⟨P, hP, eP⟩ := re_cl_n k1 (lo := 1) (hi := 16) (by omega) (by omega)
  obtain ⟨C, hC, eC⟩ := re_cl_n k2 (lo := 1) (hi := 16) (by omega) (by omega)
  have z : cc_c (re_mk (fun _ => 0)) R = 0 := cc_none R (fun i _ => rfl)
  have z2 : ro_np (fun _ => 0) R = 0 := cc_none R (fun i _ => rfl)
  refine ⟨R, P, C, 0, 0, fun _ => 0, fun _ => 0, fun _ => 0, fun _ => 0, fun _ => 0, fun _ => 0, ?_, ?_, ⟨hR, hP, hC, Nat.zero_le _, fun i _ => by show ¬ (0 : Int32) = 2147483647; decide, fun i _ _ => rfl, ?_, fun i j _ hj => absurd hj (Nat.not_lt_zero j), fun p => rfl⟩, fun i _ h => absurd (show false = true from h) (by decide)⟩
  · rw [z, ← eR, ← eP, ← eC]; rfl
  · rw [← eR, ← eP, ← eC]; rfl
  · rw [z2]; exact Nat.zero_le _
/-! one row changed -/
section
variable {R P C n : Nat} {st va cu g : Nat → Int32}
theorem re_ins {j : Nat} {v : Int32} (K : re_K R P C n st va cu g) (hj : j < R) (e0 : st j = 0) (hv : ¬ v = 2147483647) (hp : ro_np st R < P) : re_K R P C n (upd st j 1) (upd va j v) cu g := by
  obtain ⟨hR, hP, hC, hn, h1, h2, h3, h4, h5⟩ := K
  refine ⟨hR, hP, hC, hn, fun i hi => ?_, fun i hi z => ?_, ?_, h4, h5⟩
  · by_cases a : i = j
    · rw [a, pk_us]; exact hv
    · rw [pk_un a]; exact h1 i hi
  · by_cases a : i = j
    · rw [a, pk_us] at z; exact absurd z (by decide)
    · rw [pk_un a] at z ⊢; exact h2 i hi z
  · have e := ro_np_upd (st := st) (j := j) (n := R) (s := 1) hj
    rw [e0, show ro_two 1 3 0 = false from by decide, show ro_two 1 3 1 = true from by decide, Bool.toNat_false, Bool.toNat_true] at e
    omega
theorem re_del1 {j : Nat} (K : re_K R P C n st va cu g) (hj : j < R) (e0 : st j = 1) : re_K R P C n (upd st j 0) (upd va j 0) cu g := by
  obtain ⟨hR, hP, hC, hn, h1, h2, h3, h4, h5⟩ := K
  refine ⟨hR, hP, hC, hn, fun i hi => ?_, fun i hi z => ?_, ?_, h4, h5⟩
  · by_cases a : i = j
    · rw [a, pk_us]; decide
    · rw [pk_un a]; exact h1 i hi
  · by_cases a : i = j
    · rw [a, pk_us]
    · rw [pk_un a] at z ⊢; exact h2 i hi z
  · have e := ro_np_upd (st := st) (j := j) (n := R) (s := 0) hj
    rw [e0, show ro_two 1 3 0 = false from by decide, show ro_two 1 3 1 = true from by decide, Bool.toNat_false, Bool.toNat_true] at e
    omega
theorem re_del2 {j : Nat} (K : re_K R P C n st va cu g) (hj : j < R) (e0 : st j = 2) (hp : ro_np st R < P) : re_K R P C n (upd st j 3) va cu g := by
  obtain ⟨hR, hP, hC, hn, h1, h2, h3, h4, h5⟩ := K
  refine ⟨hR, hP, hC, hn, h1, fun i hi z => ?_, ?_, h4, h5⟩
  · by_cases a : i = j
    · rw [a, pk_us] at z; exact absurd z (by decide)
    · rw [pk_un a] at z; exact h2 i hi z
  · have e := ro_np_upd (st := st) (j := j) (n := R) (s := 3) hj
    rw [e0, show ro_two 1 3 2 = false from by decide, show ro_two 1 3 3 = true from by decide, Bool.toNat_false, Bool.toNat_true] at e
    omega
theorem re_res {j : Nat} (K : re_K R P C n st va cu g) (hj : j < R) (e0 : st j = 3) : re_K R P C n (upd st j 2) va cu g := by
  obtain ⟨hR, hP, hC, hn, h1, h2, h3, h4, h5⟩ := K
  refine ⟨hR, hP, hC, hn, h1, fun i hi z => ?_, ?_, h4, h5⟩
  · by_cases a : i = j
    · rw [a, pk_us] at z; exact absurd z (by decide)
    · rw [pk_un a] at z; exact h2 i hi z
  · have e := ro_np_upd (st := st) (j := j) (n := R) (s := 2) hj
    rw [e0, show ro_two 1 3 2 = false from by decide, show ro_two 1 3 3 = true from by decide, Bool.toNat_false, Bool.toNat_true] at e
    omega
theorem re_sel {lo hi : Int32} (K : re_K R P C n st va cu g) : re_K R P C (cu_N C (cu_F C cu n lo) (cu_N C cu n lo) hi) (ro_S lo hi st va R) (ro_V lo hi st va R) (cu_F C (cu_F C cu n lo) (cu_N C cu n lo) hi) (cu_G C (cu_G C g n lo) (cu_N C cu n lo) hi) := by
  obtain ⟨hR, hP, hC, hn, h1, h2, h3, h4, h5⟩ := K
  refine ⟨hR, hP, hC, cu_N_le (cu_N_le hn), fun i hd => ?_, fun i hd z => ?_, ?_, cu_F_asc (cu_F_asc h4), cu_same_F (cu_same_F h5 lo) hi⟩
  · rw [ro_V_lt hd]
    cases ro_av_or lo hi (st i) (va i) with
    | inl e => rw [e]; decide
    | inr e => rw [e]; exact h1 i hd
  · rw [ro_S_lt hd] at z
    rw [ro_V_lt hd]
    exact ro_free (h2 i hd) z
  · exact Nat.le_trans ro_np_S h3
theorem re_fgt {j a : Nat} (K : re_K R P C n st va cu g) (hj : j < n) (ha : a < n) (e : g a = cu j) : re_K R P C (n - 1) st va (cu_rm cu j n) (upd g a (g (n - 1))) := by
  obtain ⟨hR, hP, hC, hn, h1, h2, h3, h4, h5⟩ := K
  obtain ⟨m, rfl⟩ : ∃ m, n = m + 1 := ⟨n - 1, by omega⟩
  exact ⟨hR, hP, hC, by omega, h1, h2, h3, cu_rm_asc h4, cu_rm_same h5 (by omega) (by omega) e⟩
end
theorem re_bo (b : Bool) : (!decide (bo_I b = 0)) = b := by
  cases b with
  | false => rfl
  | true => rfl
/-- behind a select LIVE and SETTLED are one in the range -/
theorem re_q2 {lo hi s x : Int32} : (decide (ro_as lo hi s x = 2) && ro_in lo hi (ro_av lo hi s x)) = (ro_two 1 2 (ro_as lo hi s x) && ro_in lo hi (ro_av lo hi s x)) := by
  by_cases h : ro_in lo hi (ro_av lo hi s x) = true
  · rw [h, Bool.and_true, Bool.and_true]
    unfold ro_two
    rw [decide_eq_false (ro_no1 h), Bool.false_or]
  · rw [ro_nt h, Bool.and_false, Bool.and_false]
end
section
/-! what is owed, a method each -/
theorem i_vc_insert {k : Nat} {u : SX} {v : SY} (I : i_Rel k u v) (hk : k + 3 ≤ 1539) (v1 : Int32) : wpX_insert (fun r u' => wpY_insert (fun r' v' => r' = r ∧ i_Rel (k + 3) u' v') v v1) u v1 := by
  obtain ⟨R, P, C, n, t, st, va, cu, ri, ir, g, rfl, rfl, K, hr⟩ := I
  have hR := K.1.2
  have hP := K.2.1.2
  have hv := K.2.2.2.2.1
  have hp := K.2.2.2.2.2.2.1
  refine xw_insert hR hP (fun e => ?_) (fun ne hn => ?_) (fun j ne hj e0 hm hq => ?_) (fun j ne hj e0 hm hq => ?_)
  · exact yw_insert hR hP hv (fun _ => ⟨rfl, R, P, C, n, t, st, va, cu, ri, ir, g, rfl, rfl, K, hr⟩) (fun ne => absurd e ne) (fun _ ne => absurd e ne) (fun _ ne => absurd e ne)
  · exact yw_insert hR hP hv (fun e => absurd e ne) (fun _ _ => ⟨rfl, R, P, C, n, t, st, va, cu, ri, ir, g, rfl, rfl, K, hr⟩) (fun j _ hj e0 => absurd e0 (hn j hj)) (fun j _ hj e0 => absurd e0 (hn j hj))
  · exact yw_insert hR hP hv (fun e => absurd e ne) (fun _ hn => absurd e0 (hn j hj)) (fun _ _ _ _ _ _ => ⟨rfl, R, P, C, n, t, st, va, cu, ri, ir, g, rfl, rfl, K, hr⟩) (fun _ _ _ _ _ hz => absurd (Nat.le_antisymm hp hq) hz)
  · refine yw_insert hR hP hv (fun e => absurd e ne) (fun _ hn => absurd e0 (hn j hj)) (fun _ _ _ _ _ hz => absurd hz (by omega)) (fun i _ hi f0 hl _ => ?_)
    have e : i = j := by
      rcases Nat.lt_trichotomy i j with a | a | a
      · exact absurd f0 (hm i a)
      · exact a
      · exact absurd e0 (hl j a)
    rw [e]
    exact ⟨rfl, R, P, C, n, t, upd st j 1, upd va j v1, cu, ri, ir, g, rfl, rfl, re_ins K hj e0 ne hq, hr⟩
theorem i_vc_delete {k : Nat} {u : SX} {v : SY} (I : i_Rel k u v) (hk : k + 3 ≤ 1539) (v1 : Int32) : wpX_delete (fun r u' => wpY_delete (fun r' v' => r' = r ∧ i_Rel (k + 3) u' v') v v1) u v1 := by
  obtain ⟨R, P, C, n, t, st, va, cu, ri, ir, g, rfl, rfl, K, hr⟩ := I
  have hR := K.1.2
  have hP := K.2.1.2
  have hv := K.2.2.2.2.1
  have hp := K.2.2.2.2.2.2.1
  have out : v1 < 0 ∨ nI R ≤ v1 → wpX_delete (fun r u' => wpY_delete (fun r' v' => r' = r ∧ i_Rel (k + 3) u' v') (nI R, nI P, nI C, t, nI n, st, va, ir, g) v1) (nI R, nI P, nI C, nI n, nI (cc_c (re_mk ir) R), t, st, va, cu, ri) v1 := fun ho => xw_delete_out ho (yw_delete_out ho ⟨rfl, R, P, C, n, t, st, va, cu, ri, ir, g, rfl, rfl, K, hr⟩)
  rcases pk_ix v1 (n := R) (by omega) with a | a | ⟨j, hj, rfl⟩
  · exact out (Or.inl a)
  · exact out (Or.inr a)
  · refine xw_delete_in hR hP hj (fun e => ?_) (fun e hq => ?_) (fun e hq => ?_) (fun e1 e2 => ?_)
    · exact yw_delete_in hR hP hj hv (fun _ => ⟨rfl, R, P, C, n, t, upd st j 0, upd va j 0, cu, ri, ir, g, rfl, rfl, re_del1 K hj e, hr⟩) (fun z => absurd (e.symm.trans z) (by decide)) (fun z => absurd (e.symm.trans z) (by decide)) (fun z => absurd e z)
    · exact yw_delete_in hR hP hj hv (fun z => absurd (e.symm.trans z) (by decide)) (fun _ _ => ⟨rfl, R, P, C, n, t, upd st j 3, va, cu, ri, ir, g, rfl, rfl, re_del2 K hj e hq, hr⟩) (fun _ z => absurd z (by omega)) (fun _ z => absurd e z)
    · exact yw_delete_in hR hP hj hv (fun z => absurd (e.symm.trans z) (by decide)) (fun _ z => absurd (Nat.le_antisymm hp hq) z) (fun _ _ => ⟨rfl, R, P, C, n, t, st, va, cu, ri, ir, g, rfl, rfl, K, hr⟩) (fun _ z => absurd e z)
    · exact yw_delete_in hR hP hj hv (fun z => absurd z e1) (fun z => absurd z e2) (fun z => absurd z e2) (fun _ _ => ⟨rfl, R, P, C, n, t, st, va, cu, ri, ir, g, rfl, rfl, K, hr⟩)
theorem i_vc_restore {k : Nat} {u : SX} {v : SY} (I : i_Rel k u v) (hk : k + 3 ≤ 1539) (v1 : Int32) : wpX_restore (fun r u' => wpY_restore (fun r' v' => r' = r ∧ i_Rel (k + 3) u' v') v v1) u v1 := by
  obtain ⟨R, P, C, n, t, st, va, cu, ri, ir, g, rfl, rfl, K, hr⟩ := I
  have hR := K.1.2
  have out : v1 < 0 ∨ nI R ≤ v1 → wpX_restore (fun r u' => wpY_restore (fun r' v' => r' = r ∧ i_Rel (k + 3) u' v') (nI R, nI P, nI C, t, nI n, st, va, ir, g) v1) (nI R, nI P, nI C, nI n, nI (cc_c (re_mk ir) R), t, st, va, cu, ri) v1 := fun ho => xw_restore_out ho (yw_restore_out ho ⟨rfl, R, P, C, n, t, st, va, cu, ri, ir, g, rfl, rfl, K, hr⟩)
  rcases pk_ix v1 (n := R) (by omega) with a | a | ⟨j, hj, rfl⟩
  · exact out (Or.inl a)
  · exact out (Or.inr a)
  · exact xw_restore_in hR hj (fun e => yw_restore_in hR hj (fun _ => ⟨rfl, R, P, C, n, t, upd st j 2, va, cu, ri, ir, g, rfl, rfl, re_res K hj e, hr⟩) (fun z => absurd e z)) (fun e => yw_restore_in hR hj (fun z => absurd z e) (fun _ => ⟨rfl, R, P, C, n, t, st, va, cu, ri, ir, g, rfl, rfl, K, hr⟩))
theorem i_vc_select {k : Nat} {u : SX} {v : SY} (I : i_Rel k u v) (hk : k + 3 ≤ 1539) (v1 : Int32) (v2 : Int32) : wpX_select (fun r u' => wpY_select (fun r' v' => r' = r ∧ i_Rel (k + 3) u' v') v v1 v2) u v1 v2 := by
  obtain ⟨R, P, C, n, t, st, va, cu, ri, ir, g, rfl, rfl, K, hr⟩ := I
  have hR := K.1.2
  have hC := K.2.2.1.2
  have hn := K.2.2.2.1
  have ha := K.2.2.2.2.2.2.2.1
  have hs := K.2.2.2.2.2.2.2.2
  have hq2 : ∀ i, i < R → (decide (ro_S v1 v2 st va R i = 2) && ro_in v1 v2 (ro_V v1 v2 st va R i)) = (ro_two 1 2 (ro_S v1 v2 st va R i) && ro_in v1 v2 (ro_V v1 v2 st va R i)) := by
    intro i hi
    rw [ro_S_lt hi, ro_V_lt hi]
    exact re_q2
  refine xw_select (q := fun i => ro_two 1 2 (ro_S v1 v2 st va R i) && ro_in v1 v2 (ro_V v1 v2 st va R i)) hR hC hn ha (fun _ _ => rfl) (fun e => ?_) (fun e ri' hr' => ?_)
  · exact yw_select (q := fun i => ro_two 1 2 (ro_S v1 v2 st va R i) && ro_in v1 v2 (ro_V v1 v2 st va R i)) hR hC hn (fun _ _ => rfl) hq2 (fun _ => ⟨rfl, R, P, C, n, t, st, va, cu, ri, ir, g, rfl, rfl, K, hr⟩) (fun z => absurd z e)
  · refine yw_select (q := fun i => ro_two 1 2 (ro_S v1 v2 st va R i) && ro_in v1 v2 (ro_V v1 v2 st va R i)) hR hC hn (fun _ _ => rfl) hq2 (fun z => absurd e z) (fun _ ir' hi => ⟨rfl, ?_⟩)
    have mk : ∀ i, i < R → re_mk ir' i = (ro_two 1 2 (ro_S v1 v2 st va R i) && ro_in v1 v2 (ro_V v1 v2 st va R i)) := by
      intro i hd
      show (!decide (ir' i = 0)) = _
      rw [hi i hd]
      exact re_bo _
    refine ⟨R, P, C, cu_N C (cu_F C cu n v1) (cu_N C cu n v1) v2, ro_T (fun i => ro_two 1 2 (ro_S v1 v2 st va R i) && ro_in v1 v2 (ro_V v1 v2 st va R i)) (ro_V v1 v2 st va R) R, ro_S v1 v2 st va R, ro_V v1 v2 st va R, cu_F C (cu_F C cu n v1) (cu_N C cu n v1) v2, ri', ir', cu_G C (cu_G C g n v1) (cu_N C cu n v1) v2, ?_, ?_, re_sel K, ro_Rc hr' mk⟩
    · rw [cc_congr R mk]
    · rw [cu_same_N hs v1, cu_same_N (cu_same_F hs v1) v2]
theorem i_vc_resultRow {k : Nat} {u : SX} {v : SY} (I : i_Rel k u v) (hk : k + 3 ≤ 1539) (v1 : Int32) : wpX_resultRow (fun r => wpY_resultRow (fun r' => r' = r ∧ i_Rel (k + 3) u v) v v1) u v1 := by
  have J := i_up I
  revert J
  obtain ⟨R, P, C, n, t, st, va, cu, ri, ir, g, rfl, rfl, K, hr⟩ := I
  intro J
  have hR := K.1.2
  have hl := cc_le (re_mk ir) R
  have low : ∀ i, i < R → re_mk ir i = true → cc_c (re_mk ir) i < cc_c (re_mk ir) R := by
    intro i hi h
    have a := cc_up (q := re_mk ir) (a := i + 1) (b := R) (by omega)
    rw [cc_t h] at a
    omega
  have out : v1 < 0 ∨ nI (cc_c (re_mk ir) R) ≤ v1 → wpX_resultRow (fun r => wpY_resultRow (fun r' => r' = r ∧ i_Rel (k + 3) (nI R, nI P, nI C, nI n, nI (cc_c (re_mk ir) R), t, st, va, cu, ri) (nI R, nI P, nI C, t, nI n, st, va, ir, g)) (nI R, nI P, nI C, t, nI n, st, va, ir, g) v1) (nI R, nI P, nI C, nI n, nI (cc_c (re_mk ir) R), t, st, va, cu, ri) v1 := by
    intro ho
    refine xw_resultRow_out ho (yw_resultRow (q := re_mk ir) hR (fun _ _ => rfl) (fun _ => ⟨rfl, J⟩) (fun i hi h e => ?_))
    have a := low i hi h
    rw [← e] at ho
    cases ho with
    | inl w => exact absurd w (nI_pos (by omega))
    | inr w => exact absurd w (nI_ge a (by omega))
  rcases pk_ix v1 (n := cc_c (re_mk ir) R) (by omega) with a | a | ⟨j, hj, rfl⟩
  · exact out (Or.inl a)
  · exact out (Or.inr a)
  · obtain ⟨i, hi, hq, e⟩ := cc_at R j hj
    have er : ri j = nI i := by rw [← e]; exact hr i hi hq
    refine xw_resultRow_in (by omega) hj (yw_resultRow (q := re_mk ir) hR (fun _ _ => rfl) (fun z => absurd (by rw [e]) (z i hi hq)) (fun l hl2 hq2 e2 => ⟨?_, J⟩))
    have a := low l hl2 hq2
    have e3 := (nI_eq (by omega) (by omega)).mp e2
    rw [er, cc_inj hq2 hq (e3.trans e.symm)]
theorem i_vc_resultSum {k : Nat} {u : SX} {v : SY} (I : i_Rel k u v) (hk : k + 3 ≤ 1539) : wpX_resultSum (fun r => wpY_resultSum (fun r' => r' = r ∧ i_Rel (k + 3) u v) v) u := by
  have J := i_up I
  revert J
  obtain ⟨R, P, C, n, t, st, va, cu, ri, ir, g, rfl, rfl, K, hr⟩ := I
  intro J
  exact ⟨rfl, J⟩
theorem i_vc_count {k : Nat} {u : SX} {v : SY} (I : i_Rel k u v) (hk : k + 3 ≤ 1539) (v1 : Int32) (v2 : Int32) : wpX_count (fun r => wpY_count (fun r' => r' = r ∧ i_Rel (k + 3) u v) v v1 v2) u v1 v2 := by
  have J := i_up I
  revert J
  obtain ⟨R, P, C, n, t, st, va, cu, ri, ir, g, rfl, rfl, K, hr⟩ := I
  intro J
  have hR := K.1.2
  exact xw_count (q := fun i => ro_two 1 2 (st i) && ro_in v1 v2 (va i)) hR (fun _ _ => rfl)
    (fun e => yw_count (q := fun i => ro_two 1 2 (st i) && ro_in v1 v2 (va i)) hR (fun _ _ => rfl) (fun _ => ⟨rfl, J⟩) (fun z => absurd z e))
    (fun e => yw_count (q := fun i => ro_two 1 2 (st i) && ro_in v1 v2 (va i)) hR (fun _ _ => rfl) (fun z => absurd e z) (fun _ => ⟨rfl, J⟩))
theorem i_vc_forgetCut {k : Nat} {u : SX} {v : SY} (I : i_Rel k u v) (hk : k + 3 ≤ 1539) (v1 : Int32) : wpX_forgetCut (fun r u' => wpY_forgetCut (fun r' v' => r' = r ∧ i_Rel (k + 3) u' v') v v1) u v1 := by
  obtain ⟨R, P, C, n, t, st, va, cu, ri, ir, g, rfl, rfl, K, hr⟩ := I
  have hn : n ≤ 16 := Nat.le_trans K.2.2.2.1 K.2.2.1.2
  have ha := K.2.2.2.2.2.2.2.1
  have hs := K.2.2.2.2.2.2.2.2
  have out : v1 < 0 ∨ nI n ≤ v1 → wpX_forgetCut (fun r u' => wpY_forgetCut (fun r' v' => r' = r ∧ i_Rel (k + 3) u' v') (nI R, nI P, nI C, t, nI n, st, va, ir, g) v1) (nI R, nI P, nI C, nI n, nI (cc_c (re_mk ir) R), t, st, va, cu, ri) v1 := fun ho => xw_forgetCut_out ho (yw_forgetCut_out hn ha hs ho ⟨rfl, R, P, C, n, t, st, va, cu, ri, ir, g, rfl, rfl, K, hr⟩)
  rcases pk_ix v1 (n := n) (by omega) with a | a | ⟨j, hj, rfl⟩
  · exact out (Or.inl a)
  · exact out (Or.inr a)
  · exact xw_forgetCut_in hn hj (yw_forgetCut_in hn ha hs hj (fun i hi e => ⟨rfl, R, P, C, n - 1, t, st, va, cu_rm cu j n, ri, ir, upd g i (g (n - 1)), rfl, rfl, re_fgt K hj hi e, hr⟩))
theorem i_vc_cutCount {k : Nat} {u : SX} {v : SY} (I : i_Rel k u v) (hk : k + 3 ≤ 1539) : wpX_cutCount (fun r => wpY_cutCount (fun r' => r' = r ∧ i_Rel (k + 3) u v) v) u := by
  have J := i_up I
  revert J
  obtain ⟨R, P, C, n, t, st, va, cu, ri, ir, g, rfl, rfl, K, hr⟩ := I
  intro J
  exact ⟨rfl, J⟩
theorem i_vc_cutValue {k : Nat} {u : SX} {v : SY} (I : i_Rel k u v) (hk : k + 3 ≤ 1539) (v1 : Int32) : wpX_cutValue (fun r => wpY_cutValue (fun r' => r' = r ∧ i_Rel (k + 3) u v) v v1) u v1 := by
  have J := i_up I
  revert J
  obtain ⟨R, P, C, n, t, st, va, cu, ri, ir, g, rfl, rfl, K, hr⟩ := I
  intro J
  have hR := K.1.2
  have hn : n ≤ 16 := Nat.le_trans K.2.2.2.1 K.2.2.1.2
  have hf := K.2.2.2.2.2.1
  have ha := K.2.2.2.2.2.2.2.1
  have hs := K.2.2.2.2.2.2.2.2
  have out : v1 < 0 ∨ nI n ≤ v1 → wpX_cutValue (fun r => wpY_cutValue (fun r' => r' = r ∧ i_Rel (k + 3) (nI R, nI P, nI C, nI n, nI (cc_c (re_mk ir) R), t, st, va, cu, ri) (nI R, nI P, nI C, t, nI n, st, va, ir, g)) (nI R, nI P, nI C, t, nI n, st, va, ir, g) v1) (nI R, nI P, nI C, nI n, nI (cc_c (re_mk ir) R), t, st, va, cu, ri) v1 := fun ho => xw_cutValue_out ho (yw_cutValue_out hn ha hs ho ⟨rfl, J⟩)
  rcases pk_ix v1 (n := n) (by omega) with a | a | ⟨j, hj, rfl⟩
  · exact out (Or.inl a)
  · exact out (Or.inr a)
  · exact xw_cutValue_in hn hj (yw_cutValue_in hn ha hs hj ⟨rfl, J⟩)
theorem i_vc_cutBelow {k : Nat} {u : SX} {v : SY} (I : i_Rel k u v) (hk : k + 3 ≤ 1539) (v1 : Int32) : wpX_cutBelow (fun r => wpY_cutBelow (fun r' => r' = r ∧ i_Rel (k + 3) u v) v v1) u v1 := by
  have J := i_up I
  revert J
  obtain ⟨R, P, C, n, t, st, va, cu, ri, ir, g, rfl, rfl, K, hr⟩ := I
  intro J
  have hR := K.1.2
  have hn : n ≤ 16 := Nat.le_trans K.2.2.2.1 K.2.2.1.2
  have hf := K.2.2.2.2.2.1
  have ha := K.2.2.2.2.2.2.2.1
  have hs := K.2.2.2.2.2.2.2.2
  have out : v1 < 0 ∨ nI n ≤ v1 → wpX_cutBelow (fun r => wpY_cutBelow (fun r' => r' = r ∧ i_Rel (k + 3) (nI R, nI P, nI C, nI n, nI (cc_c (re_mk ir) R), t, st, va, cu, ri) (nI R, nI P, nI C, t, nI n, st, va, ir, g)) (nI R, nI P, nI C, t, nI n, st, va, ir, g) v1) (nI R, nI P, nI C, nI n, nI (cc_c (re_mk ir) R), t, st, va, cu, ri) v1 := fun ho => xw_cutBelow_out ho (yw_cutBelow_out hn ha hs ho ⟨rfl, J⟩)
  rcases pk_ix v1 (n := n) (by omega) with a | a | ⟨j, hj, rfl⟩
  · exact out (Or.inl a)
  · exact out (Or.inr a)
  · exact xw_cutBelow_in (q := fun i => ro_two 2 3 (st i) && decide (va i < cu j)) hR hn hj (fun _ _ => rfl) (yw_cutBelow_in (q := fun i => ro_two 2 3 (st i) && decide (va i < cu j)) hR hn ha hs hj (fun _ _ => rfl) ⟨rfl, J⟩)
theorem i_vc_pieceOf {k : Nat} {u : SX} {v : SY} (I : i_Rel k u v) (hk : k + 3 ≤ 1539) (v1 : Int32) : wpX_pieceOf (fun r => wpY_pieceOf (fun r' => r' = r ∧ i_Rel (k + 3) u v) v v1) u v1 := by
  have J := i_up I
  revert J
  obtain ⟨R, P, C, n, t, st, va, cu, ri, ir, g, rfl, rfl, K, hr⟩ := I
  intro J
  have hR := K.1.2
  have hn : n ≤ 16 := Nat.le_trans K.2.2.2.1 K.2.2.1.2
  have hf := K.2.2.2.2.2.1
  have ha := K.2.2.2.2.2.2.2.1
  have hs := K.2.2.2.2.2.2.2.2
  have out : v1 < 0 ∨ nI R ≤ v1 → wpX_pieceOf (fun r => wpY_pieceOf (fun r' => r' = r ∧ i_Rel (k + 3) (nI R, nI P, nI C, nI n, nI (cc_c (re_mk ir) R), t, st, va, cu, ri) (nI R, nI P, nI C, t, nI n, st, va, ir, g)) (nI R, nI P, nI C, t, nI n, st, va, ir, g) v1) (nI R, nI P, nI C, nI n, nI (cc_c (re_mk ir) R), t, st, va, cu, ri) v1 := fun ho => xw_pieceOf_out ho (yw_pieceOf_out ho ⟨rfl, J⟩)
  rcases pk_ix v1 (n := R) (by omega) with a | a | ⟨j, hj, rfl⟩
  · exact out (Or.inl a)
  · exact out (Or.inr a)
  · exact xw_pieceOf_in hR hn hj (fun e => yw_pieceOf_in hR hn hj (fun _ => ⟨rfl, J⟩) (fun z => absurd (e.symm.trans z) (by decide))) (fun e => yw_pieceOf_in hR hn hj (fun z => absurd (e.symm.trans z) (by decide)) (fun _ => ⟨by rw [cu_same_to hs], J⟩))
theorem i_vc_rowState {k : Nat} {u : SX} {v : SY} (I : i_Rel k u v) (hk : k + 3 ≤ 1539) (v1 : Int32) : wpX_rowState (fun r => wpY_rowState (fun r' => r' = r ∧ i_Rel (k + 3) u v) v v1) u v1 := by
  have J := i_up I
  revert J
  obtain ⟨R, P, C, n, t, st, va, cu, ri, ir, g, rfl, rfl, K, hr⟩ := I
  intro J
  have hR := K.1.2
  have hn : n ≤ 16 := Nat.le_trans K.2.2.2.1 K.2.2.1.2
  have hf := K.2.2.2.2.2.1
  have ha := K.2.2.2.2.2.2.2.1
  have hs := K.2.2.2.2.2.2.2.2
  have out : v1 < 0 ∨ nI R ≤ v1 → wpX_rowState (fun r => wpY_rowState (fun r' => r' = r ∧ i_Rel (k + 3) (nI R, nI P, nI C, nI n, nI (cc_c (re_mk ir) R), t, st, va, cu, ri) (nI R, nI P, nI C, t, nI n, st, va, ir, g)) (nI R, nI P, nI C, t, nI n, st, va, ir, g) v1) (nI R, nI P, nI C, nI n, nI (cc_c (re_mk ir) R), t, st, va, cu, ri) v1 := fun ho => xw_rowState_out ho (yw_rowState_out ho ⟨rfl, J⟩)
  rcases pk_ix v1 (n := R) (by omega) with a | a | ⟨j, hj, rfl⟩
  · exact out (Or.inl a)
  · exact out (Or.inr a)
  · exact xw_rowState_in hR hj (yw_rowState_in hR hj ⟨rfl, J⟩)
theorem i_vc_rowValue {k : Nat} {u : SX} {v : SY} (I : i_Rel k u v) (hk : k + 3 ≤ 1539) (v1 : Int32) : wpX_rowValue (fun r => wpY_rowValue (fun r' => r' = r ∧ i_Rel (k + 3) u v) v v1) u v1 := by
  have J := i_up I
  revert J
  obtain ⟨R, P, C, n, t, st, va, cu, ri, ir, g, rfl, rfl, K, hr⟩ := I
  intro J
  have hR := K.1.2
  have hn : n ≤ 16 := Nat.le_trans K.2.2.2.1 K.2.2.1.2
  have hf := K.2.2.2.2.2.1
  have ha := K.2.2.2.2.2.2.2.1
  have hs := K.2.2.2.2.2.2.2.2
  have out : v1 < 0 ∨ nI R ≤ v1 → wpX_rowValue (fun r => wpY_rowValue (fun r' => r' = r ∧ i_Rel (k + 3) (nI R, nI P, nI C, nI n, nI (cc_c (re_mk ir) R), t, st, va, cu, ri) (nI R, nI P, nI C, t, nI n, st, va, ir, g)) (nI R, nI P, nI C, t, nI n, st, va, ir, g) v1) (nI R, nI P, nI C, nI n, nI (cc_c (re_mk ir) R), t, st, va, cu, ri) v1 := fun ho => xw_rowValue_out ho (yw_rowValue_out ho ⟨rfl, J⟩)
  rcases pk_ix v1 (n := R) (by omega) with a | a | ⟨j, hj, rfl⟩
  · exact out (Or.inl a)
  · exact out (Or.inr a)
  · exact xw_rowValue_in hR hj (yw_rowValue_in hR hj (hf j hj) ⟨rfl, J⟩)
theorem i_vc_storedCount {k : Nat} {u : SX} {v : SY} (I : i_Rel k u v) (hk : k + 3 ≤ 1539) : wpX_storedCount (fun r => wpY_storedCount (fun r' => r' = r ∧ i_Rel (k + 3) u v) v) u := by
  have J := i_up I
  revert J
  obtain ⟨R, P, C, n, t, st, va, cu, ri, ir, g, rfl, rfl, K, hr⟩ := I
  intro J
  have hR := K.1.2
  have hv := K.2.2.2.2.1
  exact xw_ns (q := fun i => ro_two 2 3 (st i)) hR (fun _ _ => rfl) (yw_ns (q := fun i => ro_two 2 3 (st i)) hR hv (fun _ _ => rfl) ⟨rfl, J⟩)
theorem i_vc_pendingCount {k : Nat} {u : SX} {v : SY} (I : i_Rel k u v) (hk : k + 3 ≤ 1539) : wpX_pendingCount (fun r => wpY_pendingCount (fun r' => r' = r ∧ i_Rel (k + 3) u v) v) u := by
  have J := i_up I
  revert J
  obtain ⟨R, P, C, n, t, st, va, cu, ri, ir, g, rfl, rfl, K, hr⟩ := I
  intro J
  have hR := K.1.2
  have hv := K.2.2.2.2.1
  exact xw_np hR (yw_np hR hv ⟨rfl, J⟩)
end
