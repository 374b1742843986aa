section
/-! counting: how many i < n satisfy q -/
def cc_c (q : Nat → Bool) : Nat → Nat
  | 0 => 0
  | n + 1 => cc_c q n + (q n).toNat
theorem cc_s (q : Nat → Bool) (n : Nat) : cc_c q (n + 1) = cc_c q n + (q n).toNat := rfl
theorem cc_t {q : Nat → Bool} {n : Nat} (h : q n = true) : cc_c q (n + 1) = cc_c q n + 1 := by rw [cc_s, h]; rfl
theorem cc_f {q : Nat → Bool} {n : Nat} (h : q n = false) : cc_c q (n + 1) = cc_c q n := by rw [cc_s, h]; rfl
theorem cc_le (q : Nat → Bool) : ∀ n, cc_c q n ≤ n := by
  intro n
  induction n with
  | zero => exact Nat.le_refl _
  | succ n ih =>
    have h : (q n).toNat ≤ 1 := Bool.toNat_le _
    rw [cc_s]; omega
theorem cc_congr {q q' : Nat → Bool} : ∀ n, (∀ i, i < n → q i = q' i) → cc_c q n = cc_c q' n := by
  intro n
  induction n with
  | zero => intro _; rfl
  | succ n ih =>
    intro h
    rw [cc_s, cc_s, ih (fun i hi => h i (by omega)), h n (by omega)]
theorem cc_up {q : Nat → Bool} {a b : Nat} (h : a ≤ b) : cc_c q a ≤ cc_c q b := by
  obtain ⟨d, rfl⟩ : ∃ d, b = a + d := ⟨b - a, by omega⟩
  induction d with
  | zero => exact Nat.le_refl _
  | succ d ih =>
    have h1 := ih (by omega)
    rw [← Nat.add_assoc, cc_s]; omega
theorem cc_mono {q q' : Nat → Bool} : ∀ n, (∀ i, i < n → q i = true → q' i = true) → cc_c q n ≤ cc_c q' n := by
  intro n
  induction n with
  | zero => intro _; exact Nat.le_refl _
  | succ n ih =>
    intro h
    have h1 := ih (fun i hi => h i (by omega))
    have h2 := h n (by omega)
    rw [cc_s, cc_s]
    cases e : q n with
    | false => rw [Bool.toNat_false]; omega
    | true => rw [h2 e, Bool.toNat_true]; omega
theorem cc_all {q : Nat → Bool} : ∀ n, (∀ i, i < n → q i = true) → cc_c q n = n := by
  intro n
  induction n with
  | zero => intro _; rfl
  | succ n ih =>
    intro h
    rw [cc_t (h n (by omega)), ih (fun i hi => h i (by omega))]
theorem cc_none {q : Nat → Bool} : ∀ n, (∀ i, i < n → q i = false) → cc_c q n = 0 := by
  intro n
  induction n with
  | zero => intro _; rfl
  | succ n ih =>
    intro h
    rw [cc_f (h n (by omega)), ih (fun i hi => h i (by omega))]
/-- the two agree but at j -/
theorem cc_one {q q' : Nat → Bool} {j : Nat} : ∀ n, j < n → (∀ i, i < n → i ≠ j → q' i = q i) → cc_c q' n + (q j).toNat = cc_c q n + (q' j).toNat := by
  intro n
  induction n with
  | zero => intro h _; omega
  | succ n ih =>
    intro hj h
    rw [cc_s, cc_s]
    by_cases e : j = n
    · subst e
      rw [cc_congr (q := q') (q' := q) j (fun i hi => h i (by omega) (by omega))]; omega
    · have h1 := ih (by omega) (fun i hi hn => h i (by omega) hn)
      rw [h n (by omega) (by omega)]; omega
theorem cc_pos {q : Nat → Bool} : ∀ n, 0 < cc_c q n → ∃ i, i < n ∧ q i = true := by
  intro n
  induction n with
  | zero => intro h; exact absurd h (Nat.lt_irrefl _)
  | succ n ih =>
    intro h
    cases e : q n with
    | true => exact ⟨n, by omega, e⟩
    | false =>
      rw [cc_f e] at h
      obtain ⟨i, hi, hq⟩ := ih h
      exact ⟨i, by omega, hq⟩
theorem cc_has {q : Nat → Bool} {n i : Nat} (hi : i < n) (hq : q i = true) : 0 < cc_c q n := by
  have h1 := cc_up (q := q) (a := i + 1) (b := n) (by omega)
  rw [cc_t hq] at h1; omega
/-- every k below the count is the rank of some i -/
theorem cc_at {q : Nat → Bool} : ∀ n k, k < cc_c q n → ∃ i, i < n ∧ q i = true ∧ cc_c q i = k := by
  intro n
  induction n with
  | zero => intro k h; exact absurd h (Nat.not_lt_zero _)
  | succ n ih =>
    intro k h
    by_cases hk : k < cc_c q n
    · obtain ⟨i, hi, a, b⟩ := ih k hk
      exact ⟨i, by omega, a, b⟩
    · cases e : q n with
      | false => rw [cc_f e] at h; omega
      | true => rw [cc_t e] at h; exact ⟨n, by omega, e, by omega⟩
theorem cc_inj {q : Nat → Bool} {i j : Nat} (hi : q i = true) (hj : q j = true) (h : cc_c q i = cc_c q j) : i = j := by
  by_cases a : i < j
  · have h1 := cc_up (q := q) (a := i + 1) (b := j) (by omega)
    rw [cc_t hi] at h1; omega
  · by_cases b : j < i
    · have h1 := cc_up (q := q) (a := j + 1) (b := i) (by omega)
      rw [cc_t hj] at h1; omega
    · omega
end
section
/-! the cuts: an ascending array f on one side, any array g of the same content on the other -/
def cu_asc (f : Nat → Int32) (n : Nat) : Prop := ∀ i j, i < j → j < n → f i < f j
/-- how many of the first n are at most v -/
def cu_to (f : Nat → Int32) (n : Nat) (v : Int32) : Nat := cc_c (fun i => decide (f i ≤ v)) n
def cu_same (f g : Nat → Int32) (n : Nat) : Prop := ∀ p : Int32 → Bool, cc_c (fun i => p (f i)) n = cc_c (fun i => p (g i)) n
theorem cu_to_le (f : Nat → Int32) (n : Nat) (v : Int32) : cu_to f n v ≤ n := cc_le _ n
theorem cu_lt_le {a b c : Int32} (h : a < b) (h2 : b ≤ c) : a ≤ c := by
  rw [Int32.lt_iff_toInt_lt] at h
  rw [Int32.le_iff_toInt_le] at h2 ⊢
  omega
theorem cu_split {f : Nat → Int32} {v : Int32} : ∀ n, cu_asc f n → ∀ i, i < n → (f i ≤ v ↔ i < cu_to f n v) := by
  intro n
  induction n with
  | zero => intro _ i hi; omega
  | succ n ih =>
    intro h i hi
    have h1 := ih (fun a b hab hb => h a b hab (by omega))
    by_cases e : f n ≤ v
    · have ha : ∀ j, j < n + 1 → f j ≤ v := by
        intro j hj
        by_cases z : j = n
        · rw [z]; exact e
        · exact cu_lt_le (h j n (by omega) (by omega)) e
      have hc : cu_to f (n + 1) v = n + 1 := cc_all (n + 1) (fun j hj => decide_eq_true (ha j hj))
      rw [hc]
      exact ⟨fun _ => hi, fun _ => ha i hi⟩
    · have hc : cu_to f (n + 1) v = cu_to f n v := cc_f (decide_eq_false e)
      have hl := cu_to_le f n v
      rw [hc]
      by_cases z : i = n
      · rw [z]
        exact ⟨fun x => absurd x e, fun x => by omega⟩
      · exact h1 i (by omega)
theorem cu_rank {f : Nat → Int32} {n j : Nat} (h : cu_asc f n) (hj : j < n) : cu_to f n (f j) = j + 1 := by
  have h1 := (cu_split (v := f j) n h j hj).mp (Int32.le_refl _)
  have h2 := cu_to_le f n (f j)
  by_cases e : j + 1 < n
  · have h3 : ¬ f (j + 1) ≤ f j := by
      have h4 := h j (j + 1) (by omega) e
      rw [Int32.lt_iff_toInt_lt] at h4
      rw [Int32.le_iff_toInt_le]
      omega
    have h5 := mt (cu_split (v := f j) n h (j + 1) e).mpr h3
    omega
  · omega
theorem cu_same_to {f g : Nat → Int32} {n : Nat} (h : cu_same f g n) (v : Int32) : cu_to f n v = cu_to g n v := h (fun x => decide (x ≤ v))
theorem cu_same_symm {f g : Nat → Int32} {n : Nat} (h : cu_same f g n) : cu_same g f n := fun p => (h p).symm
theorem cu_same_mem {f g : Nat → Int32} {n i : Nat} (h : cu_same f g n) (hi : i < n) : ∃ j, j < n ∧ g j = f i := by
  have h1 : 0 < cc_c (fun j => decide (f j = f i)) n := cc_has hi (decide_eq_true rfl)
  have h2 := h (fun x => decide (x = f i))
  rw [show cc_c (fun j => decide (f j = f i)) n = cc_c (fun j => decide (g j = f i)) n from h2] at h1
  obtain ⟨j, hj, e⟩ := cc_pos n h1
  exact ⟨j, hj, of_decide_eq_true e⟩
/-- of the same content as an ascending one: the number up to g i is the place of g i there, plus one -/
theorem cu_same_rank {f g : Nat → Int32} {n i : Nat} (ha : cu_asc f n) (h : cu_same f g n) (hi : i < n) : ∃ j, j < n ∧ f j = g i ∧ cu_to g n (g i) = j + 1 := by
  obtain ⟨j, hj, e⟩ := cu_same_mem (cu_same_symm h) hi
  refine ⟨j, hj, e, ?_⟩
  rw [← cu_same_to h, ← e, cu_rank ha hj]
/-! insertion -/
/-- the entries above k moved up by one, up to n -/
def cu_sh (f : Nat → Int32) (n k : Nat) : Nat → Int32 := fun i => if k < i ∧ i ≤ n then f (i - 1) else f i
theorem cu_sh0 (f : Nat → Int32) (n : Nat) : cu_sh f n n = f := by
  funext i
  exact if_neg (fun h => by omega)
theorem cu_shs (f : Nat → Int32) {n k : Nat} (hk : k + 1 ≤ n) : upd (cu_sh f n (k + 1)) (k + 1) (cu_sh f n (k + 1) k) = cu_sh f n k := by
  funext i
  unfold upd cu_sh
  by_cases e : i = k + 1
  · subst e
    rw [if_pos rfl, if_neg (by omega), if_pos (by omega)]
    rfl
  · rw [if_neg e]
    by_cases a : k + 1 < i ∧ i ≤ n
    · rw [if_pos a, if_pos (by omega)]
    · rw [if_neg a, if_neg (by omega)]
def cu_ins (f : Nat → Int32) (n p : Nat) (v : Int32) : Nat → Int32 := upd (cu_sh f n p) p v
theorem cu_ins_lo {f : Nat → Int32} {n p i : Nat} {v : Int32} (h : i < p) : cu_ins f n p v i = f i := by
  unfold cu_ins upd cu_sh
  rw [if_neg (by omega), if_neg (by omega)]
theorem cu_ins_at {f : Nat → Int32} {n p : Nat} {v : Int32} : cu_ins f n p v p = v := if_pos rfl
theorem cu_ins_hi {f : Nat → Int32} {n p i : Nat} {v : Int32} (h : p < i) (hn : i ≤ n) : cu_ins f n p v i = f (i - 1) := by
  unfold cu_ins upd cu_sh
  rw [if_neg (by omega), if_pos ⟨h, hn⟩]
theorem cu_ins_asc {f : Nat → Int32} {n p : Nat} {v : Int32} (ha : cu_asc f n) (hp : p ≤ n) (h1 : ∀ i, i < p → f i < v) (h2 : ∀ i, p ≤ i → i < n → v < f i) : cu_asc (cu_ins f n p v) (n + 1) := by
  intro i j hij hj
  by_cases a : i < p
  · rw [cu_ins_lo a]
    by_cases b : j < p
    · rw [cu_ins_lo b]; exact ha i j hij (by omega)
    · by_cases c : j = p
      · rw [c, cu_ins_at]; exact h1 i a
      · rw [cu_ins_hi (by omega) (by omega)]; exact ha i (j - 1) (by omega) (by omega)
  · by_cases c : i = p
    · rw [c, cu_ins_at, cu_ins_hi (by omega) (by omega)]; exact h2 (j - 1) (by omega) (by omega)
    · rw [cu_ins_hi (by omega) (by omega), cu_ins_hi (by omega) (by omega)]; exact ha (i - 1) (j - 1) (by omega) (by omega)
theorem cu_ins_n {f : Nat → Int32} {n p : Nat} {v : Int32} (q : Int32 → Bool) : ∀ d, p + d ≤ n → cc_c (fun i => q (cu_ins f n p v i)) (p + d + 1) = cc_c (fun i => q (f i)) (p + d) + (q v).toNat := by
  intro d
  induction d with
  | zero =>
    intro _
    rw [cc_s]
    show cc_c (fun i => q (cu_ins f n p v i)) p + (q (cu_ins f n p v p)).toNat = cc_c (fun i => q (f i)) p + (q v).toNat
    rw [cu_ins_at, cc_congr (q' := fun i => q (f i)) p (fun i hi => by show q (cu_ins f n p v i) = _; rw [cu_ins_lo hi])]
  | succ d ih =>
    intro h
    have e := ih (by omega)
    rw [← Nat.add_assoc, cc_s, e]
    show _ + (q (cu_ins f n p v (p + d + 1))).toNat = cc_c (fun i => q (f i)) (p + d) + (q (f (p + d))).toNat + _
    rw [cu_ins_hi (by omega) (by omega), show p + d + 1 - 1 = p + d from rfl]
    omega
theorem cu_app_n (g : Nat → Int32) (n : Nat) (v : Int32) (q : Int32 → Bool) : cc_c (fun i => q (upd g n v i)) (n + 1) = cc_c (fun i => q (g i)) n + (q v).toNat := by
  rw [cc_s]
  show cc_c (fun i => q (upd g n v i)) n + (q (upd g n v n)).toNat = _
  rw [pk_us, cc_congr (q' := fun i => q (g i)) n (fun i hi => by show q (upd g n v i) = _; rw [pk_un (by omega)])]
theorem cu_ins_same {f g : Nat → Int32} {n p : Nat} {v : Int32} (h : cu_same f g n) (hp : p ≤ n) : cu_same (cu_ins f n p v) (upd g n v) (n + 1) := by
  intro q
  have e := cu_ins_n (f := f) (n := n) (p := p) (v := v) q (n - p) (by omega)
  rw [show p + (n - p) = n from by omega] at e
  rw [e, cu_app_n, h q]
/-! removal -/
/-- the entries from k on moved down by one, those below m - 1 -/
def cu_rm (f : Nat → Int32) (k m : Nat) : Nat → Int32 := fun j => if k ≤ j ∧ j + 1 < m then f (j + 1) else f j
theorem cu_rm0 (f : Nat → Int32) (k : Nat) : cu_rm f k (k + 1) = f := by
  funext i
  exact if_neg (fun h => by omega)
theorem cu_rms (f : Nat → Int32) {k m : Nat} (h : k < m) : upd (cu_rm f k m) (m - 1) (cu_rm f k m m) = cu_rm f k (m + 1) := by
  funext j
  unfold upd cu_rm
  by_cases e : j = m - 1
  · subst e
    rw [if_pos rfl, if_neg (by omega), if_pos (by omega), show m - 1 + 1 = m from by omega]
  · rw [if_neg e]
    by_cases a : k ≤ j ∧ j + 1 < m
    · rw [if_pos a, if_pos (by omega)]
    · rw [if_neg a, if_neg (by omega)]
theorem cu_rm_lo {f : Nat → Int32} {k m j : Nat} (h : j < k) : cu_rm f k m j = f j := if_neg (fun z => by omega)
theorem cu_rm_hi {f : Nat → Int32} {k m j : Nat} (h : k ≤ j) (hm : j + 1 < m) : cu_rm f k m j = f (j + 1) := if_pos ⟨h, hm⟩
theorem cu_rm_asc {f : Nat → Int32} {k n : Nat} (ha : cu_asc f (n + 1)) : cu_asc (cu_rm f k (n + 1)) n := by
  intro i j hij hj
  by_cases a : i < k
  · rw [cu_rm_lo a]
    by_cases b : j < k
    · rw [cu_rm_lo b]; exact ha i j hij (by omega)
    · rw [cu_rm_hi (by omega) (by omega)]; exact ha i (j + 1) (by omega) (by omega)
  · rw [cu_rm_hi (by omega) (by omega), cu_rm_hi (by omega) (by omega)]; exact ha (i + 1) (j + 1) (by omega) (by omega)
theorem cu_rm_n {f : Nat → Int32} {k n : Nat} (q : Int32 → Bool) : ∀ d, k + d ≤ n → cc_c (fun i => q (cu_rm f k (n + 1) i)) (k + d) + (q (f k)).toNat = cc_c (fun i => q (f i)) (k + d + 1) := by
  intro d
  induction d with
  | zero =>
    intro _
    rw [cc_s]
    show cc_c (fun i => q (cu_rm f k (n + 1) i)) k + _ = cc_c (fun i => q (f i)) k + _
    rw [cc_congr (q' := fun i => q (f i)) k (fun i hi => by show q (cu_rm f k (n + 1) i) = _; rw [cu_rm_lo hi])]
  | succ d ih =>
    intro h
    have e := ih (by omega)
    rw [← Nat.add_assoc, cc_s, cc_s, ← e]
    show _ + (q (cu_rm f k (n + 1) (k + d))).toNat + _ = _ + (q (f (k + d + 1))).toNat
    rw [cu_rm_hi (by omega) (by omega)]
    omega
/-- the last entry put in the place of the one that goes -/
theorem cu_last_n (g : Nat → Int32) {n a : Nat} (h : a ≤ n) (q : Int32 → Bool) : cc_c (fun i => q (upd g a (g n) i)) n + (q (g a)).toNat = cc_c (fun i => q (g i)) (n + 1) := by
  rw [cc_s]
  by_cases e : a = n
  · subst e
    rw [cc_congr (q' := fun i => q (g i)) a (fun i hi => by show q (upd g a (g a) i) = _; rw [pk_un (by omega)])]
  · have h1 := cc_one (q := fun i => q (g i)) (q' := fun i => q (upd g a (g n) i)) (j := a) n (by omega) (fun i _ hn => by show q (upd g a (g n) i) = q (g i); rw [pk_un hn])
    rw [show (q (upd g a (g n) a)) = q (g n) from by rw [pk_us]] at h1
    exact h1
theorem cu_rm_same {f g : Nat → Int32} {k n a : Nat} (h : cu_same f g (n + 1)) (hk : k ≤ n) (hn : a ≤ n) (e : g a = f k) : cu_same (cu_rm f k (n + 1)) (upd g a (g n)) n := by
  intro q
  have h1 := cu_rm_n (f := f) (k := k) (n := n) q (n - k) (by omega)
  rw [show k + (n - k) = n from by omega] at h1
  have h2 := cu_last_n g hn q
  have h3 := h q
  rw [e] at h2
  omega
end
section
/-! the rows: state and value by id -/
def ro_in (lo hi x : Int32) : Bool := decide (lo ≤ x) && decide (x < hi)
def ro_two (a b s : Int32) : Bool := decide (s = a) || decide (s = b)
theorem ro_in_t {lo hi x : Int32} (h1 : lo ≤ x) (h2 : x < hi) : ro_in lo hi x = true := by
  unfold ro_in; rw [decide_eq_true h1, decide_eq_true h2]; rfl
theorem ro_in_f1 {lo hi x : Int32} (h1 : ¬ lo ≤ x) : ro_in lo hi x = false := by
  unfold ro_in; rw [decide_eq_false h1]; rfl
theorem ro_in_f2 {lo hi x : Int32} (h2 : ¬ x < hi) : ro_in lo hi x = false := by
  unfold ro_in; rw [decide_eq_false h2, Bool.and_false]
theorem ro_two_a {a b s : Int32} (h : s = a) : ro_two a b s = true := by
  unfold ro_two; rw [decide_eq_true h]; rfl
theorem ro_two_b {a b s : Int32} (h : s = b) : ro_two a b s = true := by
  unfold ro_two; rw [decide_eq_true h, Bool.or_true]
theorem ro_two_f {a b s : Int32} (h1 : ¬ s = a) (h2 : ¬ s = b) : ro_two a b s = false := by
  unfold ro_two; rw [decide_eq_false h1, decide_eq_false h2]; rfl
theorem ro_two_or {a b s : Int32} (h : ro_two a b s = true) : s = a ∨ s = b := by
  by_cases h1 : s = a
  · exact Or.inl h1
  · by_cases h2 : s = b
    · exact Or.inr h2
    · rw [ro_two_f h1 h2] at h; exact absurd h (by decide)
/-- how many rows are pending -/
def ro_np (st : Nat → Int32) (n : Nat) : Nat := cc_c (fun i => ro_two 1 3 (st i)) n
/-- what a select makes of a row's state and value -/
def ro_as (lo hi s x : Int32) : Int32 := if ro_in lo hi x = true then (if s = 1 then 2 else if s = 3 then 0 else s) else s
def ro_av (lo hi s x : Int32) : Int32 := if ro_in lo hi x = true ∧ s = 3 then 0 else x
def ro_S (lo hi : Int32) (st va : Nat → Int32) (m : Nat) : Nat → Int32 := fun i => if i < m then ro_as lo hi (st i) (va i) else st i
def ro_V (lo hi : Int32) (st va : Nat → Int32) (m : Nat) : Nat → Int32 := fun i => if i < m then ro_av lo hi (st i) (va i) else va i
theorem ro_S0 (lo hi : Int32) (st va : Nat → Int32) : ro_S lo hi st va 0 = st := by
  funext i; exact if_neg (Nat.not_lt_zero i)
theorem ro_V0 (lo hi : Int32) (st va : Nat → Int32) : ro_V lo hi st va 0 = va := by
  funext i; exact if_neg (Nat.not_lt_zero i)
theorem ro_S_at (lo hi : Int32) (st va : Nat → Int32) (m : Nat) : ro_S lo hi st va m m = st m := if_neg (Nat.lt_irrefl m)
theorem ro_V_at (lo hi : Int32) (st va : Nat → Int32) (m : Nat) : ro_V lo hi st va m m = va m := if_neg (Nat.lt_irrefl m)
theorem ro_S_lt {lo hi : Int32} {st va : Nat → Int32} {m i : Nat} (h : i < m) : ro_S lo hi st va m i = ro_as lo hi (st i) (va i) := if_pos h
theorem ro_V_lt {lo hi : Int32} {st va : Nat → Int32} {m i : Nat} (h : i < m) : ro_V lo hi st va m i = ro_av lo hi (st i) (va i) := if_pos h
theorem ro_Ss {lo hi : Int32} {st va : Nat → Int32} {m : Nat} {s : Int32} (h : ro_as lo hi (st m) (va m) = s) : upd (ro_S lo hi st va m) m s = ro_S lo hi st va (m + 1) := by
  funext i
  unfold upd ro_S
  by_cases e : i = m
  · rw [if_pos e, if_pos (by omega), e, h]
  · rw [if_neg e]
    by_cases a : i < m
    · rw [if_pos a, if_pos (by omega)]
    · rw [if_neg a, if_neg (by omega)]
theorem ro_Vs {lo hi : Int32} {st va : Nat → Int32} {m : Nat} {s : Int32} (h : ro_av lo hi (st m) (va m) = s) : upd (ro_V lo hi st va m) m s = ro_V lo hi st va (m + 1) := by
  funext i
  unfold upd ro_V
  by_cases e : i = m
  · rw [if_pos e, if_pos (by omega), e, h]
  · rw [if_neg e]
    by_cases a : i < m
    · rw [if_pos a, if_pos (by omega)]
    · rw [if_neg a, if_neg (by omega)]
theorem ro_upd_self (f : Nat → Int32) (m : Nat) : upd f m (f m) = f := by
  funext i
  unfold upd
  by_cases e : i = m
  · rw [if_pos e, e]
  · rw [if_neg e]
theorem ro_Sk {lo hi : Int32} {st va : Nat → Int32} {m : Nat} (h : ro_as lo hi (st m) (va m) = st m) : ro_S lo hi st va m = ro_S lo hi st va (m + 1) := by
  have e := ro_Ss h
  rw [← ro_S_at lo hi st va m, ro_upd_self] at e
  exact e
theorem ro_Vk {lo hi : Int32} {st va : Nat → Int32} {m : Nat} (h : ro_av lo hi (st m) (va m) = va m) : ro_V lo hi st va m = ro_V lo hi st va (m + 1) := by
  have e := ro_Vs h
  rw [← ro_V_at lo hi st va m, ro_upd_self] at e
  exact e
theorem ro_as_out {lo hi s x : Int32} (h : ro_in lo hi x = false) : ro_as lo hi s x = s := by
  unfold ro_as; rw [h]; exact if_neg (by decide)
theorem ro_av_out {lo hi s x : Int32} (h : ro_in lo hi x = false) : ro_av lo hi s x = x := by
  unfold ro_av; rw [h]; exact if_neg (fun z => absurd z.1 (by decide))
theorem ro_as_1 {lo hi s x : Int32} (h : ro_in lo hi x = true) (e : s = 1) : ro_as lo hi s x = 2 := by
  unfold ro_as; rw [if_pos h, if_pos e]
theorem ro_as_3 {lo hi s x : Int32} (h : ro_in lo hi x = true) (e : s = 3) : ro_as lo hi s x = 0 := by
  unfold ro_as; rw [if_pos h, if_neg (by rw [e]; decide), if_pos e]
theorem ro_as_e {lo hi s x : Int32} (e1 : ¬ s = 1) (e3 : ¬ s = 3) : ro_as lo hi s x = s := by
  unfold ro_as
  by_cases h : ro_in lo hi x = true
  · rw [if_pos h, if_neg e1, if_neg e3]
  · rw [if_neg h]
theorem ro_av_3 {lo hi s x : Int32} (h : ro_in lo hi x = true) (e : s = 3) : ro_av lo hi s x = 0 := if_pos ⟨h, e⟩
theorem ro_av_e {lo hi s x : Int32} (e : ¬ s = 3) : ro_av lo hi s x = x := if_neg (fun z => e z.2)
theorem ro_nt {b : Bool} (h : ¬ b = true) : b = false := by
  cases b with
  | false => rfl
  | true => exact absurd rfl h
/-- behind a select no row in the range is ADDED -/
theorem ro_no1 {lo hi s x : Int32} (h : ro_in lo hi (ro_av lo hi s x) = true) : ¬ ro_as lo hi s x = 1 := by
  by_cases i : ro_in lo hi x = true
  · by_cases e1 : s = 1
    · rw [ro_as_1 i e1]; decide
    · by_cases e3 : s = 3
      · rw [ro_as_3 i e3]; decide
      · rw [ro_as_e e1 e3]; exact e1
  · rw [ro_av_out (ro_nt i)] at h
    exact absurd h i
theorem ro_free {lo hi s x : Int32} (h : s = 0 → x = 0) (e : ro_as lo hi s x = 0) : ro_av lo hi s x = 0 := by
  by_cases i : ro_in lo hi x = true
  · by_cases e1 : s = 1
    · rw [ro_as_1 i e1] at e; exact absurd e (by decide)
    · by_cases e3 : s = 3
      · exact ro_av_3 i e3
      · rw [ro_as_e e1 e3] at e; rw [ro_av_e e3]; exact h e
  · rw [ro_as_out (ro_nt i)] at e
    rw [ro_av_out (ro_nt i)]; exact h e
theorem ro_av_or (lo hi s x : Int32) : ro_av lo hi s x = 0 ∨ ro_av lo hi s x = x := by
  unfold ro_av
  by_cases h : ro_in lo hi x = true ∧ s = 3
  · exact Or.inl (if_pos h)
  · exact Or.inr (if_neg h)
theorem ro_pen {lo hi s x : Int32} (h : ro_two 1 3 (ro_as lo hi s x) = true) : ro_two 1 3 s = true := by
  by_cases i : ro_in lo hi x = true
  · by_cases e1 : s = 1
    · exact ro_two_a e1
    · by_cases e3 : s = 3
      · exact ro_two_b e3
      · rw [ro_as_e e1 e3] at h; exact h
  · rw [ro_as_out (ro_nt i)] at h; exact h
/-- the sum of the values of those that q takes -/
def ro_T (q : Nat → Bool) (va : Nat → Int32) : Nat → Int64
  | 0 => 0
  | n + 1 => if q n = true then ro_T q va n + (va n).toInt64 else ro_T q va n
theorem ro_Tt {q : Nat → Bool} {va : Nat → Int32} {n : Nat} (h : q n = true) : ro_T q va (n + 1) = ro_T q va n + (va n).toInt64 := if_pos h
theorem ro_Tf {q : Nat → Bool} {va : Nat → Int32} {n : Nat} (h : q n = false) : ro_T q va (n + 1) = ro_T q va n := if_neg (by rw [h]; decide)
theorem ro_Tc {q q' : Nat → Bool} {va : Nat → Int32} : ∀ n, (∀ i, i < n → q i = q' i) → ro_T q va n = ro_T q' va n := by
  intro n
  induction n with
  | zero => intro _; rfl
  | succ n ih =>
    intro h
    have e := ih (fun i hi => h i (by omega))
    cases z : q' n with
    | true => rw [ro_Tt z, ro_Tt ((h n (by omega)).trans z), e]
    | false => rw [ro_Tf z, ro_Tf ((h n (by omega)).trans z), e]
/-- ri lists, in order, those below m that q takes -/
def ro_R (ri : Nat → Int32) (q : Nat → Bool) (m : Nat) : Prop := ∀ i, i < m → q i = true → ri (cc_c q i) = nI i
theorem ro_R0 {ri : Nat → Int32} {q : Nat → Bool} : ro_R ri q 0 := fun i hi => absurd hi (Nat.not_lt_zero i)
theorem ro_Rt {ri : Nat → Int32} {q : Nat → Bool} {m : Nat} (h : ro_R ri q m) (e : q m = true) : ro_R (upd ri (cc_c q m) (nI m)) q (m + 1) := by
  intro i hi hq
  by_cases a : i = m
  · rw [a, pk_us]
  · rw [pk_un (fun z => a (cc_inj hq e z))]
    exact h i (by omega) hq
theorem ro_Rf {ri : Nat → Int32} {q : Nat → Bool} {m : Nat} (h : ro_R ri q m) (e : q m = false) : ro_R ri q (m + 1) := by
  intro i hi hq
  by_cases a : i = m
  · rw [a, e] at hq; exact absurd hq (by decide)
  · exact h i (by omega) hq
theorem ro_Rc {ri : Nat → Int32} {q q' : Nat → Bool} {m : Nat} (h : ro_R ri q m) (e : ∀ i, i < m → q' i = q i) : ro_R ri q' m := by
  intro i hi hq
  rw [cc_congr (q := q') (q' := q) i (fun j hj => e j (by omega))]
  exact h i hi ((e i hi).symm.trans hq)
/-! one row changed -/
theorem ro_np_upd {st : Nat → Int32} {j n : Nat} {s : Int32} (hj : j < n) : ro_np (upd st j s) n + (ro_two 1 3 (st j)).toNat = ro_np st n + (ro_two 1 3 s).toNat := by
  have h := cc_one (q := fun i => ro_two 1 3 (st i)) (q' := fun i => ro_two 1 3 (upd st j s i)) (j := j) n hj (fun i _ hn => by show ro_two 1 3 (upd st j s i) = ro_two 1 3 (st i); rw [pk_un hn])
  rw [show ro_two 1 3 (upd st j s j) = ro_two 1 3 s from by rw [pk_us]] at h
  exact h
theorem ro_np_S {lo hi : Int32} {st va : Nat → Int32} {n : Nat} : ro_np (ro_S lo hi st va n) n ≤ ro_np st n :=
  cc_mono n (fun i hd h => by
    have h' : ro_two 1 3 (ro_S lo hi st va n i) = true := h
    rw [ro_S_lt hd] at h'
    exact ro_pen h')
end
section
/-! X's walks: one lemma a method, general post -/
def bo_I (b : Bool) : Int32 := cond b 1 0
theorem bo_z {b : Bool} {A B : Prop} (f : b = false → A) (g : b = true → B) : (bo_I b = 0 → A) ∧ (¬ bo_I b = 0 → B) := by
  cases b with
  | false => exact ⟨fun _ => f rfl, fun z => absurd rfl z⟩
  | true => exact ⟨fun z => absurd z (by decide), fun _ => g rfl⟩
theorem cc_nt {q : Nat → Bool} {n : Nat} (h : q n = true) : nI (cc_c q n) + 1 = nI (cc_c q (n + 1)) := by rw [cc_t h, nI_1]
theorem cc_nf {q : Nat → Bool} {n : Nat} (h : q n = false) : nI (cc_c q n) = nI (cc_c q (n + 1)) := by rw [cc_f h]
theorem nn_m1 {j : Nat} (hj : j < 2 ^ 31) : ¬ nI j = -1 := by
  intro h
  have e := congrArg Int32.toInt h
  rw [nI_toInt hj, show (-1 : Int32).toInt = -1 from by decide] at e
  omega
theorem nn_sub1 {p : Nat} (h : 0 < p) : nI p - 1 = nI (p - 1) := by
  obtain ⟨m, rfl⟩ : ∃ m, p = m + 1 := ⟨p - 1, by omega⟩
  exact nI_pred m
theorem xw_isPending {post : Int32 → Prop} {s : Int32} (h : post (bo_I (ro_two 1 3 s))) : wpX_isPending post () s :=
  br_c (fun e => by rw [ro_two_a e] at h; exact h) (fun e1 => br_c (fun e => by rw [ro_two_b e] at h; exact h) (fun e3 => by rw [ro_two_f e1 e3] at h; exact h))
theorem xw_isLive {post : Int32 → Prop} {s : Int32} (h : post (bo_I (ro_two 1 2 s))) : wpX_isLive post () s :=
  br_c (fun e => by rw [ro_two_a e] at h; exact h) (fun e1 => br_c (fun e => by rw [ro_two_b e] at h; exact h) (fun e3 => by rw [ro_two_f e1 e3] at h; exact h))
theorem xw_isStored {post : Int32 → Prop} {s : Int32} (h : post (bo_I (ro_two 2 3 s))) : wpX_isStored post () s :=
  br_c (fun e => by rw [ro_two_a e] at h; exact h) (fun e1 => br_c (fun e => by rw [ro_two_b e] at h; exact h) (fun e3 => by rw [ro_two_f e1 e3] at h; exact h))
theorem xw_isInside {post : Int32 → Prop} {x lo hi : Int32} (h : post (bo_I (ro_in lo hi x))) : wpX_isInside post () x lo hi :=
  br_c (fun e => by rw [ro_in_f1 (Int32.not_le.mpr e)] at h; exact h) (fun e1 => br_c (fun e => by rw [ro_in_f2 (Int32.not_lt.mpr e)] at h; exact h) (fun e2 => by rw [ro_in_t (Int32.not_lt.mp e1) (Int32.not_le.mp e2)] at h; exact h))
section
variable {R P C n : Nat} {fr fp fc fn fs : Int32} {ft : Int64} {st va cu ri : Nat → Int32}
/-! counts over the rows -/
theorem xl_np {post : Int32 → Prop} {q : Nat → Bool} (hR : R ≤ 32) (hq : ∀ i, i < R → ro_two 1 3 (st i) = q i) (h : post (nI (cc_c q R))) : ∀ d i, i + d = R → wX_pendingCount_4 post (nI R) fp fc fn fs ft st va cu ri (d + 1) (nI (cc_c q i)) (nI i) := by
  intro d
  induction d with
  | zero =>
    intro i hi
    obtain rfl : i = R := by omega
    exact pk_le i i (fun _ => h) (fun z => absurd z (by omega))
  | succ d ih =>
    intro i hi
    have t := ih (i + 1) (by omega)
    have c : (nI i).toNatClampNeg = i := nI_clamp (by omega)
    refine pk_le R i (fun z => absurd z (by omega)) (fun _ => ⟨pk_in i 32 (by omega), xw_isPending (bo_z (fun e => nm_r (nI_1 i) ?_) (fun e => nm_r ?_ (nm_r (nI_1 i) t)))⟩)
    · rw [c, hq i (by omega)] at e
      rw [cc_nf e]; exact t
    · rw [c, hq i (by omega)] at e
      exact cc_nt e
theorem xw_np {post : Int32 → Prop} (hR : R ≤ 32) (h : post (nI (ro_np st R))) : wpX_pendingCount post (nI R, fp, fc, fn, fs, ft, st, va, cu, ri) :=
  ⟨R + 1, xl_np (q := fun i => ro_two 1 3 (st i)) hR (fun _ _ => rfl) h R 0 (by omega)⟩
theorem xl_ns {post : Int32 → Prop} {q : Nat → Bool} (hR : R ≤ 32) (hq : ∀ i, i < R → ro_two 2 3 (st i) = q i) (h : post (nI (cc_c q R))) : ∀ d i, i + d = R → wX_storedCount_4 post (nI R) fp fc fn fs ft st va cu ri (d + 1) (nI (cc_c q i)) (nI i) := by
  intro d
  induction d with
  | zero =>
    intro i hi
    obtain rfl : i = R := by omega
    exact pk_le i i (fun _ => h) (fun z => absurd z (by omega))
  | succ d ih =>
    intro i hi
    have t := ih (i + 1) (by omega)
    have c : (nI i).toNatClampNeg = i := nI_clamp (by omega)
    refine pk_le R i (fun z => absurd z (by omega)) (fun _ => ⟨pk_in i 32 (by omega), xw_isStored (bo_z (fun e => nm_r (nI_1 i) ?_) (fun e => nm_r ?_ (nm_r (nI_1 i) t)))⟩)
    · rw [c, hq i (by omega)] at e
      rw [cc_nf e]; exact t
    · rw [c, hq i (by omega)] at e
      exact cc_nt e
theorem xw_ns {post : Int32 → Prop} {q : Nat → Bool} (hR : R ≤ 32) (hq : ∀ i, i < R → ro_two 2 3 (st i) = q i) (h : post (nI (cc_c q R))) : wpX_storedCount post (nI R, fp, fc, fn, fs, ft, st, va, cu, ri) :=
  ⟨R + 1, xl_ns hR hq h R 0 (by omega)⟩
theorem xl_count {post : Int32 → Prop} {lo hi : Int32} {q : Nat → Bool} (hR : R ≤ 32) (hq : ∀ i, i < R → (ro_two 1 2 (st i) && ro_in lo hi (va i)) = q i) (h : post (nI (cc_c q R))) : ∀ d i, i + d = R → wX_count_13 post lo hi (nI R) fp fc fn fs ft st va cu ri (d + 1) (nI (cc_c q i)) (nI i) := by
  intro d
  induction d with
  | zero =>
    intro i hi
    obtain rfl : i = R := by omega
    exact pk_le i i (fun _ => h) (fun z => absurd z (by omega))
  | succ d ih =>
    intro i hi
    have t := ih (i + 1) (by omega)
    have c : (nI i).toNatClampNeg = i := nI_clamp (by omega)
    have Q := hq i (by omega)
    refine pk_le R i (fun z => absurd z (by omega)) (fun _ => ⟨pk_in i 32 (by omega), xw_isLive (bo_z (fun e => nm_r (nI_1 i) ?_) (fun e => ⟨pk_in i 32 (by omega), xw_isInside (bo_z (fun e2 => nm_r (nI_1 i) ?_) (fun e2 => nm_r ?_ (nm_r (nI_1 i) t)))⟩))⟩)
    · rw [c] at e
      rw [e] at Q
      rw [cc_nf (q := q) Q.symm]; exact t
    · rw [c] at e e2
      rw [e, e2] at Q
      rw [cc_nf (q := q) Q.symm]; exact t
    · rw [c] at e e2
      rw [e, e2] at Q
      exact cc_nt Q.symm
theorem xw_count {post : Int32 → Prop} {lo hi : Int32} {q : Nat → Bool} (hR : R ≤ 32) (hq : ∀ i, i < R → (ro_two 1 2 (st i) && ro_in lo hi (va i)) = q i) (h0 : ¬ lo < hi → post (-6)) (h : lo < hi → post (nI (cc_c q R))) : wpX_count post (nI R, fp, fc, fn, fs, ft, st, va, cu, ri) lo hi :=
  br_c (fun e => ⟨R + 1, xl_count hR hq (h e) R 0 (by omega)⟩) h0
theorem xl_below {post : Int32 → Prop} {j : Nat} {q : Nat → Bool} (hR : R ≤ 32) (hj : j < 16) (hq : ∀ i, i < R → (ro_two 2 3 (st i) && decide (va i < cu j)) = q i) (h : post (nI (cc_c q R))) : ∀ d i, i + d = R → wX_cutBelow_14 post (nI j) (nI R) fp fc fn fs ft st va cu ri (d + 1) (nI (cc_c q i)) (nI i) := by
  intro d
  induction d with
  | zero =>
    intro i hi
    obtain rfl : i = R := by omega
    exact pk_le i i (fun _ => h) (fun z => absurd z (by omega))
  | succ d ih =>
    intro i hi
    have t := ih (i + 1) (by omega)
    have c : (nI i).toNatClampNeg = i := nI_clamp (by omega)
    have cj : (nI j).toNatClampNeg = j := nI_clamp (by omega)
    have Q := hq i (by omega)
    refine pk_le R i (fun z => absurd z (by omega)) (fun _ => ⟨pk_in i 32 (by omega), xw_isStored (bo_z (fun e => nm_r (nI_1 i) ?_) (fun e => ⟨pk_in i 32 (by omega), pk_in j 16 hj, br_c (fun e2 => nm_r (nI_1 i) ?_) (fun e2 => nm_r ?_ (nm_r (nI_1 i) t))⟩))⟩)
    · rw [c] at e
      rw [e] at Q
      rw [cc_nf (q := q) Q.symm]; exact t
    · rw [c] at e e2
      rw [cj] at e2
      rw [e, decide_eq_false (Int32.not_lt.mpr e2)] at Q
      rw [cc_nf (q := q) Q.symm]; exact t
    · rw [c] at e e2
      rw [cj] at e2
      rw [e, decide_eq_true (Int32.not_le.mp e2)] at Q
      exact cc_nt Q.symm
/-! ids and cuts within and without -/
theorem xw_isId_in {post : Int32 → Prop} {j : Nat} (hR : R ≤ 32) (hj : j < R) (h : post 1) : wpX_isId post (nI R, fp, fc, fn, fs, ft, st, va, cu, ri) (nI j) :=
  br_f (nI_pos (by omega)) (pk_le R j (fun z => absurd z (by omega)) (fun _ => h))
theorem xw_isId_out {post : Int32 → Prop} {x : Int32} (ho : x < 0 ∨ nI R ≤ x) (h : post 0) : wpX_isId post (nI R, fp, fc, fn, fs, ft, st, va, cu, ri) x :=
  br_c (fun _ => h) (fun e => br_t (ho.resolve_left e) h)
theorem xw_isCut_in {post : Int32 → Prop} {j : Nat} (hn : n ≤ 16) (hj : j < n) (h : post 1) : wpX_isCut post (fr, fp, fc, nI n, fs, ft, st, va, cu, ri) (nI j) :=
  br_f (nI_pos (by omega)) (pk_le n j (fun z => absurd z (by omega)) (fun _ => h))
theorem xw_isCut_out {post : Int32 → Prop} {x : Int32} (ho : x < 0 ∨ nI n ≤ x) (h : post 0) : wpX_isCut post (fr, fp, fc, nI n, fs, ft, st, va, cu, ri) x :=
  br_c (fun _ => h) (fun e => br_t (ho.resolve_left e) h)
theorem xw_rowState_in {post : Int32 → Prop} {j : Nat} (hR : R ≤ 32) (hj : j < R) (h : post (st j)) : wpX_rowState post (nI R, fp, fc, fn, fs, ft, st, va, cu, ri) (nI j) := by
  unfold wpX_rowState
  dsimp only
  refine xw_isId_in hR hj (br_f (by decide) ⟨pk_in j 32 (by omega), ?_⟩)
  rw [nI_clamp (by omega)]; exact h
theorem xw_rowState_out {post : Int32 → Prop} {x : Int32} (ho : x < 0 ∨ nI R ≤ x) (h : post (-1)) : wpX_rowState post (nI R, fp, fc, fn, fs, ft, st, va, cu, ri) x := by
  unfold wpX_rowState
  dsimp only
  exact xw_isId_out ho (br_t rfl h)
theorem xw_rowValue_in {post : Int32 → Prop} {j : Nat} (hR : R ≤ 32) (hj : j < R) (h : post (va j)) : wpX_rowValue post (nI R, fp, fc, fn, fs, ft, st, va, cu, ri) (nI j) := by
  unfold wpX_rowValue
  dsimp only
  refine xw_isId_in hR hj (br_f (by decide) ⟨pk_in j 32 (by omega), ?_⟩)
  rw [nI_clamp (by omega)]; exact h
theorem xw_rowValue_out {post : Int32 → Prop} {x : Int32} (ho : x < 0 ∨ nI R ≤ x) (h : post 0) : wpX_rowValue post (nI R, fp, fc, fn, fs, ft, st, va, cu, ri) x := by
  unfold wpX_rowValue
  dsimp only
  exact xw_isId_out ho (br_t rfl h)
theorem xw_cutValue_in {post : Int32 → Prop} {j : Nat} (hn : n ≤ 16) (hj : j < n) (h : post (cu j)) : wpX_cutValue post (fr, fp, fc, nI n, fs, ft, st, va, cu, ri) (nI j) := by
  unfold wpX_cutValue
  dsimp only
  refine xw_isCut_in hn hj (br_f (by decide) ⟨pk_in j 16 (by omega), ?_⟩)
  rw [nI_clamp (by omega)]; exact h
theorem xw_cutValue_out {post : Int32 → Prop} {x : Int32} (ho : x < 0 ∨ nI n ≤ x) (h : post 0) : wpX_cutValue post (fr, fp, fc, nI n, fs, ft, st, va, cu, ri) x := by
  unfold wpX_cutValue
  dsimp only
  exact xw_isCut_out ho (br_t rfl h)
theorem xw_cutBelow_in {post : Int32 → Prop} {j : Nat} {q : Nat → Bool} (hR : R ≤ 32) (hn : n ≤ 16) (hj : j < n) (hq : ∀ i, i < R → (ro_two 2 3 (st i) && decide (va i < cu j)) = q i) (h : post (nI (cc_c q R))) : wpX_cutBelow post (nI R, fp, fc, nI n, fs, ft, st, va, cu, ri) (nI j) := by
  unfold wpX_cutBelow
  dsimp only
  exact xw_isCut_in hn hj (br_f (by decide) ⟨R + 1, xl_below hR (by omega) hq h R 0 (by omega)⟩)
theorem xw_cutBelow_out {post : Int32 → Prop} {x : Int32} (ho : x < 0 ∨ nI n ≤ x) (h : post (-1)) : wpX_cutBelow post (fr, fp, fc, nI n, fs, ft, st, va, cu, ri) x := by
  unfold wpX_cutBelow
  dsimp only
  exact xw_isCut_out ho (br_t rfl h)
/-! the cuts up to a value -/
theorem xl_upTo {post : Int32 → Prop} {v : Int32} {q : Nat → Bool} (hn : n ≤ 16) (hq : ∀ i, i < n → decide (cu i ≤ v) = q i) (h : post (nI (cc_c q n))) : ∀ d i, i + d = n → wX_cutsUpTo_4 post v fr fp fc (nI n) fs ft st va cu ri (d + 1) (nI (cc_c q i)) (nI i) := by
  intro d
  induction d with
  | zero =>
    intro i hi
    obtain rfl : i = n := by omega
    exact pk_le i i (fun _ => h) (fun z => absurd z (by omega))
  | succ d ih =>
    intro i hi
    have t := ih (i + 1) (by omega)
    have c : (nI i).toNatClampNeg = i := nI_clamp (by omega)
    have Q := hq i (by omega)
    refine pk_le n i (fun z => absurd z (by omega)) (fun _ => ⟨pk_in i 16 (by omega), br_c (fun e => nm_r (nI_1 i) ?_) (fun e => nm_r ?_ (nm_r (nI_1 i) t))⟩)
    · rw [c] at e
      rw [decide_eq_false (Int32.not_le.mpr e)] at Q
      rw [cc_nf (q := q) Q.symm]; exact t
    · rw [c] at e
      rw [decide_eq_true (Int32.not_lt.mp e)] at Q
      exact cc_nt Q.symm
theorem xw_upTo {post : Int32 → Prop} {v : Int32} (hn : n ≤ 16) (h : post (nI (cu_to cu n v))) : wpX_cutsUpTo post (fr, fp, fc, nI n, fs, ft, st, va, cu, ri) v :=
  ⟨n + 1, xl_upTo (q := fun i => decide (cu i ≤ v)) hn (fun _ _ => rfl) h n 0 (by omega)⟩
theorem xw_pieceOf_in {post : Int32 → Prop} {j : Nat} (hR : R ≤ 32) (hn : n ≤ 16) (hj : j < R) (h0 : ro_two 2 3 (st j) = false → post (-1)) (h : ro_two 2 3 (st j) = true → post (nI (cu_to cu n (va j)))) : wpX_pieceOf post (nI R, fp, fc, nI n, fs, ft, st, va, cu, ri) (nI j) := by
  unfold wpX_pieceOf
  dsimp only
  refine xw_rowState_in hR hj (xw_isStored (bo_z h0 (fun e => ⟨pk_in j 32 (by omega), ?_⟩)))
  rw [nI_clamp (by omega)]
  exact xw_upTo hn (h e)
theorem xw_pieceOf_out {post : Int32 → Prop} {x : Int32} (ho : x < 0 ∨ nI R ≤ x) (h : post (-1)) : wpX_pieceOf post (nI R, fp, fc, fn, fs, ft, st, va, cu, ri) x := by
  unfold wpX_pieceOf
  dsimp only
  exact xw_rowState_out ho (xw_isStored (br_t rfl h))
end
end
section
/-! X's methods that store -/
/-- is v among the first n -/
def cu_has (f : Nat → Int32) (n : Nat) (v : Int32) : Bool := decide (0 < cc_c (fun i => decide (f i = v)) n)
theorem cu_has_t {f : Nat → Int32} {n i : Nat} {v : Int32} (hi : i < n) (e : f i = v) : cu_has f n v = true :=
  decide_eq_true (cc_has hi (decide_eq_true e))
theorem cu_has_f {f : Nat → Int32} {n : Nat} {v : Int32} (h : ∀ i, i < n → ¬ f i = v) : cu_has f n v = false := by
  have e : cc_c (fun i => decide (f i = v)) n = 0 := cc_none n (fun i hi => decide_eq_false (h i hi))
  unfold cu_has
  rw [e]; rfl
theorem cu_has_ne {f : Nat → Int32} {n : Nat} {v : Int32} (h : cu_has f n v = false) : ∀ i, i < n → ¬ f i = v := by
  intro i hi e
  rw [cu_has_t hi e] at h
  exact absurd h (by decide)
/-- the number of cuts, and the cuts, behind addCut -/
def cu_N (C : Nat) (f : Nat → Int32) (n : Nat) (v : Int32) : Nat := if cu_has f n v = true ∨ C ≤ n then n else n + 1
def cu_F (C : Nat) (f : Nat → Int32) (n : Nat) (v : Int32) : Nat → Int32 := if cu_has f n v = true ∨ C ≤ n then f else cu_ins f n (cu_to f n v) v
def cu_G (C : Nat) (g : Nat → Int32) (n : Nat) (v : Int32) : Nat → Int32 := if cu_has g n v = true ∨ C ≤ n then g else upd g n v
theorem cu_noeq {f : Nat → Int32} {n : Nat} {v : Int32} (ha : cu_asc f n) (h : 0 < cu_to f n v → ¬ f (cu_to f n v - 1) = v) : ∀ i, i < n → ¬ f i = v := by
  intro i hi e
  have h1 := (cu_split (v := v) n ha i hi).mp (by rw [e]; exact Int32.le_refl _)
  have h2 := cu_to_le f n v
  have h3 := h (by omega)
  have h4 := (cu_split (v := v) n ha (cu_to f n v - 1) (by omega)).mpr (by omega)
  by_cases z : i = cu_to f n v - 1
  · exact h3 (by rw [← z]; exact e)
  · have h5 := ha i (cu_to f n v - 1) (by omega) (by omega)
    rw [e, Int32.lt_iff_toInt_lt] at h5
    rw [Int32.le_iff_toInt_le] at h4
    omega
theorem cu_F_asc {C : Nat} {f : Nat → Int32} {n : Nat} {v : Int32} (ha : cu_asc f n) : cu_asc (cu_F C f n v) (cu_N C f n v) := by
  unfold cu_F cu_N
  by_cases h : cu_has f n v = true ∨ C ≤ n
  · rw [if_pos h, if_pos h]; exact ha
  · rw [if_neg h, if_neg h]
    have hne := cu_has_ne (ro_nt (fun z => h (Or.inl z)))
    have hl := cu_to_le f n v
    refine cu_ins_asc ha hl (fun i hi => ?_) (fun i h1 h2 => ?_)
    · have a := (cu_split (v := v) n ha i (by omega)).mpr hi
      have b := hne i (by omega)
      rw [Int32.le_iff_toInt_le] at a
      rw [Int32.lt_iff_toInt_lt]
      have c : ¬ (f i).toInt = v.toInt := fun z => b (Int32.toInt_inj.mp z)
      omega
    · have a := mt (cu_split (v := v) n ha i h2).mp (by omega)
      exact Int32.not_le.mp a
theorem cu_N_le {C : Nat} {f : Nat → Int32} {n : Nat} {v : Int32} (hn : n ≤ C) : cu_N C f n v ≤ C := by
  unfold cu_N
  by_cases h : cu_has f n v = true ∨ C ≤ n
  · rw [if_pos h]; exact hn
  · rw [if_neg h]
    have h2 : ¬ C ≤ n := fun z => h (Or.inr z)
    omega
theorem cu_same_has {f g : Nat → Int32} {n : Nat} (h : cu_same f g n) (v : Int32) : cu_has g n v = cu_has f n v := by
  unfold cu_has
  rw [show cc_c (fun i => decide (g i = v)) n = cc_c (fun i => decide (f i = v)) n from (h (fun x => decide (x = v))).symm]
theorem cu_same_N {C : Nat} {f g : Nat → Int32} {n : Nat} (h : cu_same f g n) (v : Int32) : cu_N C g n v = cu_N C f n v := by
  unfold cu_N
  rw [cu_same_has h]
theorem cu_same_F {C : Nat} {f g : Nat → Int32} {n : Nat} (h : cu_same f g n) (v : Int32) : cu_same (cu_F C f n v) (cu_G C g n v) (cu_N C f n v) := by
  unfold cu_F cu_G cu_N
  rw [cu_same_has h]
  by_cases z : cu_has f n v = true ∨ C ≤ n
  · rw [if_pos z, if_pos z, if_pos z]; exact h
  · rw [if_neg z, if_neg z, if_neg z]; exact cu_ins_same h (cu_to_le f n v)
section
variable {R P C n : Nat} {fr fp fc fn fs : Int32} {ft : Int64} {st va cu ri : Nat → Int32}
theorem xl_free {post : Int32 → Prop} (hR : R ≤ 32) (h0 : (∀ j, j < R → ¬ st j = 0) → post (-1)) (h1 : ∀ j, j < R → st j = 0 → (∀ i, i < j → ¬ st i = 0) → post (nI j)) : ∀ d i, i + d = R → (∀ j, j < i → ¬ st j = 0) → wX_smallestFreeId_2 post (nI R) fp fc fn fs ft st va cu ri (d + 1) (nI i) := by
  intro d
  induction d with
  | zero =>
    intro i hi hn
    obtain rfl : i = R := by omega
    exact pk_le i i (fun _ => h0 hn) (fun z => absurd z (by omega))
  | succ d ih =>
    intro i hi hn
    have c : (nI i).toNatClampNeg = i := nI_clamp (by omega)
    refine pk_le R i (fun z => absurd z (by omega)) (fun _ => ⟨pk_in i 32 (by omega), br_c (fun e => h1 i (by omega) ?_ hn) (fun e => nm_r (nI_1 i) (ih (i + 1) (by omega) ?_))⟩)
    · rw [c] at e; exact e
    · rw [c] at e; exact lt_s (p := fun j => ¬ st j = 0) hn e
theorem xw_free {post : Int32 → Prop} (hR : R ≤ 32) (h0 : (∀ j, j < R → ¬ st j = 0) → post (-1)) (h1 : ∀ j, j < R → st j = 0 → (∀ i, i < j → ¬ st i = 0) → post (nI j)) : wpX_smallestFreeId post (nI R, fp, fc, fn, fs, ft, st, va, cu, ri) :=
  ⟨R + 1, xl_free hR h0 h1 R 0 (by omega) (fun j hj => absurd hj (Nat.not_lt_zero j))⟩
theorem xw_insert {post : Int32 → St2 → Prop} {v : Int32} (hR : R ≤ 32) (hP : P ≤ 16)
    (h1 : v = 2147483647 → post (-2) (nI R, nI P, fc, fn, fs, ft, st, va, cu, ri))
    (h2 : ¬ v = 2147483647 → (∀ j, j < R → ¬ st j = 0) → post (-3) (nI R, nI P, fc, fn, fs, ft, st, va, cu, ri))
    (h3 : ∀ j, ¬ v = 2147483647 → j < R → st j = 0 → (∀ i, i < j → ¬ st i = 0) → P ≤ ro_np st R → post (-4) (nI R, nI P, fc, fn, fs, ft, st, va, cu, ri))
    (h4 : ∀ j, ¬ v = 2147483647 → j < R → st j = 0 → (∀ i, i < j → ¬ st i = 0) → ro_np st R < P → post (nI j) (nI R, nI P, fc, fn, fs, ft, upd st j 1, upd va j v, cu, ri)) :
    wpX_insert post (nI R, nI P, fc, fn, fs, ft, st, va, cu, ri) v := by
  unfold wpX_insert
  dsimp only
  refine br_c h1 (fun e => xw_free hR (fun hn => br_t rfl (h2 e hn)) (fun j hj e0 hm => br_f (nn_m1 (by omega)) (xw_np hR ?_)))
  have hl := cc_le (fun i => ro_two 1 3 (st i)) R
  have c : (nI j).toNatClampNeg = j := nI_clamp (by omega)
  refine pk_lt (ro_np st R) P (fun z => ⟨pk_in j 32 (by omega), nm_r (by rw [c]) ⟨pk_in j 32 (by omega), nm_r (by rw [c]) (h4 j e hj e0 hm z)⟩⟩) (fun z => h3 j e hj e0 hm z) rfl rfl ?_ (by omega)
  show cc_c (fun i => ro_two 1 3 (st i)) R < 2 ^ 31
  omega
theorem xw_freeRow {post : St2 → Prop} {j : Nat} (hj : j < 32) (h : post (fr, fp, fc, fn, fs, ft, upd st j 0, upd va j 0, cu, ri)) : wpX_freeRow post (fr, fp, fc, fn, fs, ft, st, va, cu, ri) (nI j) := by
  have c : (nI j).toNatClampNeg = j := nI_clamp (by omega)
  unfold wpX_freeRow
  dsimp only
  rw [c]
  exact ⟨pk_in j 32 hj, nm_e ⟨pk_in j 32 hj, nm_e h⟩⟩
theorem xw_delete_in {post : Int32 → St2 → Prop} {j : Nat} (hR : R ≤ 32) (hP : P ≤ 16) (hj : j < R)
    (h1 : st j = 1 → post 0 (nI R, nI P, fc, fn, fs, ft, upd st j 0, upd va j 0, cu, ri))
    (h2 : st j = 2 → ro_np st R < P → post 0 (nI R, nI P, fc, fn, fs, ft, upd st j 3, va, cu, ri))
    (h3 : st j = 2 → P ≤ ro_np st R → post (-4) (nI R, nI P, fc, fn, fs, ft, st, va, cu, ri))
    (h4 : ¬ st j = 1 → ¬ st j = 2 → post (-5) (nI R, nI P, fc, fn, fs, ft, st, va, cu, ri)) :
    wpX_delete post (nI R, nI P, fc, fn, fs, ft, st, va, cu, ri) (nI j) := by
  unfold wpX_delete
  dsimp only
  have c : (nI j).toNatClampNeg = j := nI_clamp (by omega)
  have hl := cc_le (fun i => ro_two 1 3 (st i)) R
  refine xw_rowState_in hR hj (xw_isLive (bo_z (fun e => h4 (fun z => ?_) (fun z => ?_)) (fun e => br_c (fun e1 => xw_freeRow (by omega) (h1 e1)) (fun e1 => xw_np hR ?_))))
  · rw [ro_two_a z] at e; exact absurd e (by decide)
  · rw [ro_two_b z] at e; exact absurd e (by decide)
  · have e2 : st j = 2 := (ro_two_or e).resolve_left e1
    refine pk_lt (ro_np st R) P (fun z => ⟨pk_in j 32 (by omega), nm_r (by rw [c]) (h2 e2 z)⟩) (fun z => h3 e2 z) rfl rfl ?_ (by omega)
    show cc_c (fun i => ro_two 1 3 (st i)) R < 2 ^ 31
    omega
theorem xw_delete_out {post : Int32 → St2 → Prop} {x : Int32} (ho : x < 0 ∨ nI R ≤ x) (h : post (-5) (nI R, fp, fc, fn, fs, ft, st, va, cu, ri)) : wpX_delete post (nI R, fp, fc, fn, fs, ft, st, va, cu, ri) x := by
  unfold wpX_delete
  dsimp only
  exact xw_rowState_out ho (xw_isLive (br_t rfl h))
theorem xw_restore_in {post : Int32 → St2 → Prop} {j : Nat} (hR : R ≤ 32) (hj : j < R)
    (h1 : st j = 3 → post 0 (nI R, fp, fc, fn, fs, ft, upd st j 2, va, cu, ri))
    (h2 : ¬ st j = 3 → post (-5) (nI R, fp, fc, fn, fs, ft, st, va, cu, ri)) :
    wpX_restore post (nI R, fp, fc, fn, fs, ft, st, va, cu, ri) (nI j) := by
  unfold wpX_restore
  dsimp only
  have c : (nI j).toNatClampNeg = j := nI_clamp (by omega)
  exact xw_rowState_in hR hj (br_c (fun e => ⟨pk_in j 32 (by omega), nm_r (by rw [c]) (h1 e)⟩) h2)
theorem xw_restore_out {post : Int32 → St2 → Prop} {x : Int32} (ho : x < 0 ∨ nI R ≤ x) (h : post (-5) (nI R, fp, fc, fn, fs, ft, st, va, cu, ri)) : wpX_restore post (nI R, fp, fc, fn, fs, ft, st, va, cu, ri) x := by
  unfold wpX_restore
  dsimp only
  exact xw_rowState_out ho (br_f (by decide) h)
/-! forgetCut -/
theorem xl_forget {post : Int32 → St2 → Prop} {k : Nat} (hn : n ≤ 16) (h : post 0 (fr, fp, fc, nI (n - 1), fs, ft, st, va, cu_rm cu k n, ri)) : ∀ d m, m + d = n → k < m → wX_forgetCut_15 post fr fp fc (nI n) fs ft (d + 1) (nI m) st va (cu_rm cu k m) ri := by
  intro d
  induction d with
  | zero =>
    intro m hm hk
    obtain rfl : m = n := by omega
    exact pk_le m m (fun _ => nm_r (nn_sub1 (by omega)) h) (fun z => absurd z (by omega))
  | succ d ih =>
    intro m hm hk
    have c : (nI m).toNatClampNeg = m := nI_clamp (by omega)
    have s1 : nI m - 1 = nI (m - 1) := nn_sub1 (by omega)
    have c1 : (nI m - 1).toNatClampNeg = m - 1 := by rw [s1]; exact nI_clamp (by omega)
    exact pk_le n m (fun z => absurd z (by omega)) (fun _ => ⟨pk_in m 16 (by omega), pk_in (m - 1) 16 (by omega) s1, nm_r (by rw [c, c1]; exact cu_rms cu hk) (nm_r (nI_1 m) (ih (m + 1) (by omega) (by omega)))⟩)
theorem xw_forgetCut_in {post : Int32 → St2 → Prop} {j : Nat} (hn : n ≤ 16) (hj : j < n) (h : post 0 (fr, fp, fc, nI (n - 1), fs, ft, st, va, cu_rm cu j n, ri)) : wpX_forgetCut post (fr, fp, fc, nI n, fs, ft, st, va, cu, ri) (nI j) := by
  unfold wpX_forgetCut
  dsimp only
  have t := xl_forget (k := j) hn h (n - (j + 1)) (j + 1) (by omega) (by omega)
  rw [cu_rm0] at t
  exact xw_isCut_in hn hj (br_f (by decide) (nm_r (nI_1 j) ⟨_, t⟩))
theorem xw_forgetCut_out {post : Int32 → St2 → Prop} {x : Int32} (ho : x < 0 ∨ nI n ≤ x) (h : post (-7) (fr, fp, fc, nI n, fs, ft, st, va, cu, ri)) : wpX_forgetCut post (fr, fp, fc, nI n, fs, ft, st, va, cu, ri) x := by
  unfold wpX_forgetCut
  dsimp only
  exact xw_isCut_out ho (br_t rfl h)
/-! addCut -/
theorem xl_shift {post : St2 → Prop} {v : Int32} {p : Nat} (hn : n < 16) (h : post (fr, fp, fc, nI (n + 1), fs, ft, st, va, cu_ins cu n p v, ri)) : ∀ d m, p + d = m → m ≤ n → wX_addCut_40 post v (nI p) fr fp fc (nI n) fs ft (d + 1) (nI m) st va (cu_sh cu n m) ri := by
  intro d
  induction d with
  | zero =>
    intro m hm hk
    obtain rfl : p = m := by omega
    have c : (nI p).toNatClampNeg = p := nI_clamp (by omega)
    exact pk_le p p (fun _ => ⟨pk_in p 16 (by omega), nm_r (by rw [c]; rfl) (nm_r (nI_1 n) h)⟩) (fun z => absurd z (by omega))
  | succ d ih =>
    intro m hm hk
    obtain ⟨l, rfl⟩ : ∃ l, m = l + 1 := ⟨m - 1, by omega⟩
    have c : (nI (l + 1)).toNatClampNeg = l + 1 := nI_clamp (by omega)
    have s1 : nI (l + 1) - 1 = nI l := nI_pred l
    have c1 : (nI (l + 1) - 1).toNatClampNeg = l := by rw [s1]; exact nI_clamp (by omega)
    exact pk_le (l + 1) p (fun z => absurd z (by omega)) (fun _ => ⟨pk_in l 16 (by omega) s1, pk_in (l + 1) 16 (by omega), nm_r (by rw [c, c1]; exact cu_shs cu hk) (nm_r (pk_m1 l) (ih l (by omega) (by omega)))⟩)
theorem xw_add23 {post : St2 → Prop} {v : Int32} {p : Nat} (hC : C ≤ 16) (hn : n ≤ C) (hp : p ≤ n) (h1 : C ≤ n → post (fr, fp, nI C, nI n, fs, ft, st, va, cu, ri)) (h2 : n < C → post (fr, fp, nI C, nI (n + 1), fs, ft, st, va, cu_ins cu n p v, ri)) : wX_addCut_23 post v (nI p) fr fp (nI C) (nI n) fs ft st va cu ri := by
  refine pk_lt n C (fun z => ?_) h1
  have t := xl_shift (p := p) (by omega) (h2 z) (n - p) n (by omega) (Nat.le_refl n)
  rw [cu_sh0] at t
  exact ⟨_, t⟩
theorem xw_addCut {post : St2 → Prop} {v : Int32} (hC : C ≤ 16) (hn : n ≤ C) (ha : cu_asc cu n) (h : post (fr, fp, nI C, nI (cu_N C cu n v), fs, ft, st, va, cu_F C cu n v, ri)) : wpX_addCut post (fr, fp, nI C, nI n, fs, ft, st, va, cu, ri) v := by
  have hl := cu_to_le cu n v
  have K : (0 < cu_to cu n v → ¬ cu (cu_to cu n v - 1) = v) → wX_addCut_23 post v (nI (cu_to cu n v)) fr fp (nI C) (nI n) fs ft st va cu ri := by
    intro hx
    have hh := cu_has_f (cu_noeq ha hx)
    refine xw_add23 hC hn hl (fun z => ?_) (fun z => ?_)
    · unfold cu_N cu_F at h
      rw [if_pos (Or.inr z), if_pos (Or.inr z)] at h
      exact h
    · have hne : ¬ (cu_has cu n v = true ∨ C ≤ n) := by
        intro y
        cases y with
        | inl y => rw [hh] at y; exact absurd y (by decide)
        | inr y => omega
      unfold cu_N cu_F at h
      rw [if_neg hne, if_neg hne] at h
      exact h
  unfold wpX_addCut
  dsimp only
  refine xw_upTo (by omega) (pk_le (cu_to cu n v) 0 (fun z => K (fun y => by omega)) (fun z => ?_))
  have s1 : nI (cu_to cu n v) - 1 = nI (cu_to cu n v - 1) := nn_sub1 z
  have c1 : (nI (cu_to cu n v) - 1).toNatClampNeg = cu_to cu n v - 1 := by rw [s1]; exact nI_clamp (by omega)
  refine ⟨pk_in (cu_to cu n v - 1) 16 (by omega) s1, br_c (fun e => ?_) (fun e => K (fun _ => ?_))⟩
  · rw [c1] at e
    have hh : cu_has cu n v = true := cu_has_t (i := cu_to cu n v - 1) (by omega) e
    unfold cu_N cu_F at h
    rw [if_pos (Or.inl hh), if_pos (Or.inl hh)] at h
    exact h
  · rw [c1] at e; exact e
/-! applyPending -/
theorem xl_apply {post : St2 → Prop} {lo hi : Int32} (hR : R ≤ 32) (h : post (nI R, fp, fc, fn, fs, ft, ro_S lo hi st va R, ro_V lo hi st va R, cu, ri)) : ∀ d i, i + d = R → wX_applyPending_2 post lo hi (d + 1) (nI i) (nI R) fp fc fn fs ft (ro_S lo hi st va i) (ro_V lo hi st va i) cu ri := by
  intro d
  induction d with
  | zero =>
    intro i hd
    obtain rfl : i = R := by omega
    exact pk_le i i (fun _ => h) (fun z => absurd z (by omega))
  | succ d ih =>
    intro i hd
    have t := ih (i + 1) (by omega)
    have c : (nI i).toNatClampNeg = i := nI_clamp (by omega)
    refine pk_le R i (fun z => absurd z (by omega)) (fun _ => ⟨pk_in i 32 (by omega), xw_isInside (bo_z (fun e => nm_r (nI_1 i) ?_) (fun e => ⟨pk_in i 32 (by omega), br_c (fun e1 => ⟨pk_in i 32 (by omega), nm_r (e' := ro_S lo hi st va (i + 1)) ?_ (nm_r (nI_1 i) ?_)⟩) (fun e1 => ⟨pk_in i 32 (by omega), br_c (fun e3 => xw_freeRow (by omega) ?_) (fun e3 => nm_r (nI_1 i) ?_)⟩)⟩))⟩)
    · rw [c, ro_V_at] at e
      rw [ro_Sk (ro_as_out e), ro_Vk (ro_av_out e)]; exact t
    · rw [c, ro_V_at] at e
      rw [c, ro_S_at] at e1
      rw [c]
      exact ro_Ss (ro_as_1 e e1)
    · rw [c, ro_S_at] at e1
      rw [ro_Vk (ro_av_e (by rw [e1]; decide))]
      exact t
    · rw [c, ro_V_at] at e
      rw [c, ro_S_at] at e3
      dsimp only
      rw [ro_Ss (ro_as_3 e e3), ro_Vs (ro_av_3 e e3)]
      exact nm_r (nI_1 i) t
    · rw [c, ro_S_at] at e1 e3
      rw [ro_Sk (ro_as_e e1 e3), ro_Vk (ro_av_e e3)]; exact t
theorem xw_apply {post : St2 → Prop} {lo hi : Int32} (hR : R ≤ 32) (h : post (nI R, fp, fc, fn, fs, ft, ro_S lo hi st va R, ro_V lo hi st va R, cu, ri)) : wpX_applyPending post (nI R, fp, fc, fn, fs, ft, st, va, cu, ri) lo hi := by
  have t := xl_apply hR h R 0 (by omega)
  rw [ro_S0, ro_V0] at t
  exact ⟨_, t⟩
/-! takeResult -/
theorem xl_take {post : St2 → Prop} {lo hi : Int32} {q : Nat → Bool} (hR : R ≤ 32) (hq : ∀ i, i < R → (ro_two 1 2 (st i) && ro_in lo hi (va i)) = q i) (h : ∀ ri', ro_R ri' q R → post (nI R, fp, fc, fn, nI (cc_c q R), ro_T q va R, st, va, cu, ri')) : ∀ d i ri', i + d = R → ro_R ri' q i → wX_takeResult_12 post lo hi (nI R) fp fc fn (d + 1) (nI i) (nI (cc_c q i)) (ro_T q va i) st va cu ri' := by
  intro d
  induction d with
  | zero =>
    intro i ri' hd hr
    obtain rfl : i = R := by omega
    exact pk_le i i (fun _ => h ri' hr) (fun z => absurd z (by omega))
  | succ d ih =>
    intro i ri' hd hr
    have c : (nI i).toNatClampNeg = i := nI_clamp (by omega)
    have hl := cc_le q i
    have cq : (nI (cc_c q i)).toNatClampNeg = cc_c q i := nI_clamp (by omega)
    have Q := hq i (by omega)
    refine pk_le R i (fun z => absurd z (by omega)) (fun _ => ⟨pk_in i 32 (by omega), xw_isLive (bo_z (fun e => nm_r (nI_1 i) ?_) (fun e => ⟨pk_in i 32 (by omega), xw_isInside (bo_z (fun e2 => nm_r (nI_1 i) ?_) (fun e2 => ?_))⟩))⟩)
    · rw [c] at e
      rw [e] at Q
      rw [cc_nf (q := q) Q.symm, ← ro_Tf (va := va) Q.symm]
      exact ih (i + 1) ri' (by omega) (ro_Rf hr Q.symm)
    · rw [c] at e e2
      rw [e, e2] at Q
      rw [cc_nf (q := q) Q.symm, ← ro_Tf (va := va) Q.symm]
      exact ih (i + 1) ri' (by omega) (ro_Rf hr Q.symm)
    · rw [c] at e e2
      rw [e, e2] at Q
      have t := ih (i + 1) (upd ri' (cc_c q i) (nI i)) (by omega) (ro_Rt hr Q.symm)
      refine ⟨pk_in (cc_c q i) 32 (by omega), nm_r (by rw [cq]) (nm_r (cc_nt Q.symm) ⟨pk_in i 32 (by omega), nm_r ?_ (nm_r (nI_1 i) t)⟩)⟩
      rw [c]
      exact (ro_Tt Q.symm).symm
theorem xw_take {post : St2 → Prop} {lo hi : Int32} {q : Nat → Bool} (hR : R ≤ 32) (hq : ∀ i, i < R → (ro_two 1 2 (st i) && ro_in lo hi (va i)) = q i) (h : ∀ ri', ro_R ri' q R → post (nI R, fp, fc, fn, nI (cc_c q R), ro_T q va R, st, va, cu, ri')) : wpX_takeResult post (nI R, fp, fc, fn, fs, ft, st, va, cu, ri) lo hi :=
  ⟨R + 1, xl_take hR hq h R 0 ri (by omega) ro_R0⟩
/-! select -/
theorem xw_select {post : Int32 → St2 → Prop} {lo hi : Int32} {q : Nat → Bool} (hR : R ≤ 32) (hC : C ≤ 16) (hn : n ≤ C) (ha : cu_asc cu n)
    (hq : ∀ i, i < R → (ro_two 1 2 (ro_S lo hi st va R i) && ro_in lo hi (ro_V lo hi st va R i)) = q i)
    (h0 : ¬ lo < hi → post (-6) (nI R, fp, nI C, nI n, fs, ft, st, va, cu, ri))
    (h : lo < hi → ∀ ri', ro_R ri' q R → post (nI (cc_c q R)) (nI R, fp, nI C, nI (cu_N C (cu_F C cu n lo) (cu_N C cu n lo) hi), nI (cc_c q R), ro_T q (ro_V lo hi st va R) R, ro_S lo hi st va R, ro_V lo hi st va R, cu_F C (cu_F C cu n lo) (cu_N C cu n lo) hi, ri')) :
    wpX_select post (nI R, fp, nI C, nI n, fs, ft, st, va, cu, ri) lo hi := by
  unfold wpX_select
  dsimp only
  refine br_c (fun e => xw_apply hR ?_) h0
  dsimp only
  refine xw_addCut hC hn ha ?_
  dsimp only
  refine xw_addCut hC (cu_N_le hn) (cu_F_asc ha) ?_
  dsimp only
  refine xw_take hR hq (fun ri' hr => ?_)
  exact h e ri' hr
theorem xw_resultRow_in {post : Int32 → Prop} {j s : Nat} (hs : s ≤ 32) (hj : j < s) (h : post (ri j)) : wpX_resultRow post (fr, fp, fc, fn, nI s, ft, st, va, cu, ri) (nI j) := by
  have c : (nI j).toNatClampNeg = j := nI_clamp (by omega)
  refine br_f (nI_pos (by omega)) (pk_lt j s (fun _ => ⟨pk_in j 32 (by omega), ?_⟩) (fun z => absurd z (by omega)))
  rw [c]; exact h
theorem xw_resultRow_out {post : Int32 → Prop} {x : Int32} {s : Nat} (ho : x < 0 ∨ nI s ≤ x) (h : post (-1)) : wpX_resultRow post (fr, fp, fc, fn, nI s, ft, st, va, cu, ri) x :=
  br_c (fun _ => h) (fun e => br_f (Int32.not_lt.mpr (ho.resolve_left e)) h)
end
end
section
/-! the class's invariant, and each storing call as one answer and one new state -/
def mi_K (R P C n : Nat) (st cu : Nat → Int32) : Prop := (4 ≤ R ∧ R ≤ 32) ∧ (1 ≤ P ∧ P ≤ 16) ∧ (1 ≤ C ∧ C ≤ 16) ∧ n ≤ C ∧ ro_np st R ≤ P ∧ cu_asc cu n
section
variable {R P C n : Nat} {st va cu : Nat → Int32}
theorem mi_least (st : Nat → Int32) : ∀ R, (∀ j, j < R → ¬ st j = 0) ∨ ∃ j, j < R ∧ st j = 0 ∧ ∀ i, i < j → ¬ st i = 0 := by
  intro R
  induction R with
  | zero => exact Or.inl (fun j hj => absurd hj (Nat.not_lt_zero j))
  | succ R ih =>
    cases ih with
    | inr h =>
      obtain ⟨j, hj, a, b⟩ := h
      exact Or.inr ⟨j, by omega, a, b⟩
    | inl h =>
      by_cases e : st R = 0
      · exact Or.inr ⟨R, by omega, e, h⟩
      · exact Or.inl (lt_s (p := fun j => ¬ st j = 0) h e)
theorem mi_uniq {i j : Nat} (e0 : st j = 0) (hm : ∀ i, i < j → ¬ st i = 0) (f0 : st i = 0) (hl : ∀ l, l < i → ¬ st l = 0) : i = j := by
  rcases Nat.lt_trichotomy i j with a | a | a
  · exact absurd f0 (hm i a)
  · exact a
  · exact absurd e0 (hl j a)
theorem mi_insert (va : Nat → Int32) (K : mi_K R P C n st cu) (v : Int32) : ∃ (r : Int32) (st' va' : Nat → Int32), mi_K R P C n st' cu ∧ ∀ (post : Int32 → St2 → Prop) (fs : Int32) (ft : Int64) (ri : Nat → Int32), post r (nI R, nI P, nI C, nI n, fs, ft, st', va', cu, ri) → wpX_insert post (nI R, nI P, nI C, nI n, fs, ft, st, va, cu, ri) v := by
  have K' := K
  obtain ⟨hR, hP, hC, hn, hp, ha⟩ := K'
  by_cases e : v = 2147483647
  · exact ⟨-2, st, va, K, fun post fs ft ri h => xw_insert hR.2 hP.2 (fun _ => h) (fun ne => absurd e ne) (fun _ ne => absurd e ne) (fun _ ne => absurd e ne)⟩
  · cases mi_least st R with
    | inl hf => exact ⟨-3, st, va, K, fun post fs ft ri h => xw_insert hR.2 hP.2 (fun z => absurd z e) (fun _ _ => h) (fun j _ hj e0 => absurd e0 (hf j hj)) (fun j _ hj e0 => absurd e0 (hf j hj))⟩
    | inr hf =>
      obtain ⟨j, hj, e0, hm⟩ := hf
      by_cases hq : ro_np st R < P
      · refine ⟨nI j, upd st j 1, upd va j v, ⟨hR, hP, hC, hn, ?_, ha⟩, fun post fs ft ri h => xw_insert hR.2 hP.2 (fun z => absurd z e) (fun _ z => absurd e0 (z j hj)) (fun _ _ _ _ _ z => absurd z (by omega)) (fun i _ hi f0 hl _ => ?_)⟩
        · have q := ro_np_upd (st := st) (j := j) (n := R) (s := 1) hj
          rw [e0, show ro_two 1 3 0 = false from by decide, show ro_two 1 3 1 = true from by decide, Bool.toNat_false, Bool.toNat_true] at q
          omega
        · rw [mi_uniq e0 hm f0 hl]; exact h
      · exact ⟨-4, st, va, K, fun post fs ft ri h => xw_insert hR.2 hP.2 (fun z => absurd z e) (fun _ z => absurd e0 (z j hj)) (fun _ _ _ _ _ _ => h) (fun _ _ _ _ _ z => absurd z hq)⟩
theorem mi_delete (va : Nat → Int32) (K : mi_K R P C n st cu) (x : Int32) : ∃ (r : Int32) (st' va' : Nat → Int32), mi_K R P C n st' cu ∧ ∀ (post : Int32 → St2 → Prop) (fs : Int32) (ft : Int64) (ri : Nat → Int32), post r (nI R, nI P, nI C, nI n, fs, ft, st', va', cu, ri) → wpX_delete post (nI R, nI P, nI C, nI n, fs, ft, st, va, cu, ri) x := by
  have K' := K
  obtain ⟨hR, hP, hC, hn, hp, ha⟩ := K'
  rcases pk_ix x (n := R) (by omega) with a | a | ⟨j, hj, rfl⟩
  · exact ⟨-5, st, va, K, fun post fs ft ri h => xw_delete_out (Or.inl a) h⟩
  · exact ⟨-5, st, va, K, fun post fs ft ri h => xw_delete_out (Or.inr a) h⟩
  · by_cases e1 : st j = 1
    · refine ⟨0, upd st j 0, upd va j 0, ⟨hR, hP, hC, hn, ?_, ha⟩, fun post fs ft ri h => xw_delete_in hR.2 hP.2 hj (fun _ => h) (fun z => absurd (e1.symm.trans z) (by decide)) (fun z => absurd (e1.symm.trans z) (by decide)) (fun z => absurd e1 z)⟩
      have q := ro_np_upd (st := st) (j := j) (n := R) (s := 0) hj
      rw [e1, show ro_two 1 3 0 = false from by decide, show ro_two 1 3 1 = true from by decide, Bool.toNat_false, Bool.toNat_true] at q
      omega
    · by_cases e2 : st j = 2
      · by_cases hq : ro_np st R < P
        · refine ⟨0, upd st j 3, va, ⟨hR, hP, hC, hn, ?_, ha⟩, fun post fs ft ri h => xw_delete_in hR.2 hP.2 hj (fun z => absurd z e1) (fun _ _ => h) (fun _ z => absurd z (by omega)) (fun _ z => absurd e2 z)⟩
          have q := ro_np_upd (st := st) (j := j) (n := R) (s := 3) hj
          rw [e2, show ro_two 1 3 2 = false from by decide, show ro_two 1 3 3 = true from by decide, Bool.toNat_false, Bool.toNat_true] at q
          omega
        · exact ⟨-4, st, va, K, fun post fs ft ri h => xw_delete_in hR.2 hP.2 hj (fun z => absurd z e1) (fun _ z => absurd z hq) (fun _ _ => h) (fun _ z => absurd e2 z)⟩
      · exact ⟨-5, st, va, K, fun post fs ft ri h => xw_delete_in hR.2 hP.2 hj (fun z => absurd z e1) (fun z => absurd z e2) (fun z => absurd z e2) (fun _ _ => h)⟩
theorem mi_restore (va : Nat → Int32) (K : mi_K R P C n st cu) (x : Int32) : ∃ (r : Int32) (st' : Nat → Int32), mi_K R P C n st' cu ∧ ∀ (post : Int32 → St2 → Prop) (fs : Int32) (ft : Int64) (ri : Nat → Int32), post r (nI R, nI P, nI C, nI n, fs, ft, st', va, cu, ri) → wpX_restore post (nI R, nI P, nI C, nI n, fs, ft, st, va, cu, ri) x := by
  have K' := K
  obtain ⟨hR, hP, hC, hn, hp, ha⟩ := K'
  rcases pk_ix x (n := R) (by omega) with a | a | ⟨j, hj, rfl⟩
  · exact ⟨-5, st, K, fun post fs ft ri h => xw_restore_out (Or.inl a) h⟩
  · exact ⟨-5, st, K, fun post fs ft ri h => xw_restore_out (Or.inr a) h⟩
  · by_cases e3 : st j = 3
    · refine ⟨0, upd st j 2, ⟨hR, hP, hC, hn, ?_, ha⟩, fun post fs ft ri h => xw_restore_in hR.2 hj (fun _ => h) (fun z => absurd e3 z)⟩
      have q := ro_np_upd (st := st) (j := j) (n := R) (s := 2) hj
      rw [e3, show ro_two 1 3 2 = false from by decide, show ro_two 1 3 3 = true from by decide, Bool.toNat_false, Bool.toNat_true] at q
      omega
    · exact ⟨-5, st, K, fun post fs ft ri h => xw_restore_in hR.2 hj (fun z => absurd z e3) (fun _ => h)⟩
theorem mi_forget (va : Nat → Int32) (K : mi_K R P C n st cu) (x : Int32) : ∃ (r : Int32) (n' : Nat) (cu' : Nat → Int32), mi_K R P C n' st cu' ∧ ∀ (post : Int32 → St2 → Prop) (fs : Int32) (ft : Int64) (ri : Nat → Int32), post r (nI R, nI P, nI C, nI n', fs, ft, st, va, cu', ri) → wpX_forgetCut post (nI R, nI P, nI C, nI n, fs, ft, st, va, cu, ri) x := by
  have K' := K
  obtain ⟨hR, hP, hC, hn, hp, ha⟩ := K'
  rcases pk_ix x (n := n) (by omega) with a | a | ⟨j, hj, rfl⟩
  · exact ⟨-7, n, cu, K, fun post fs ft ri h => xw_forgetCut_out (Or.inl a) h⟩
  · exact ⟨-7, n, cu, K, fun post fs ft ri h => xw_forgetCut_out (Or.inr a) h⟩
  · refine ⟨0, n - 1, cu_rm cu j n, ⟨hR, hP, hC, by omega, hp, ?_⟩, fun post fs ft ri h => xw_forgetCut_in (by omega) hj h⟩
    obtain ⟨m, rfl⟩ : ∃ m, n = m + 1 := ⟨n - 1, by omega⟩
    exact cu_rm_asc ha
theorem mi_sel (lo hi : Int32) (va : Nat → Int32) (K : mi_K R P C n st cu) : mi_K R P C (cu_N C (cu_F C cu n lo) (cu_N C cu n lo) hi) (ro_S lo hi st va R) (cu_F C (cu_F C cu n lo) (cu_N C cu n lo) hi) := by
  obtain ⟨hR, hP, hC, hn, hp, ha⟩ := K
  exact ⟨hR, hP, hC, cu_N_le (cu_N_le hn), Nat.le_trans ro_np_S hp, cu_F_asc (cu_F_asc ha)⟩
theorem mi_state {fs : Int32} {ft : Int64} {ri : Nat → Int32} {post : Int32 → Prop} (hR : R ≤ 32) (x : Int32) (h : ∀ r, post r) : wpX_rowState post (nI R, nI P, nI C, nI n, fs, ft, st, va, cu, ri) x := by
  rcases pk_ix x (n := R) (by omega) with a | a | ⟨j, hj, rfl⟩
  · exact xw_rowState_out (Or.inl a) (h _)
  · exact xw_rowState_out (Or.inr a) (h _)
  · exact xw_rowState_in hR hj (h _)
theorem mi_count {fs : Int32} {ft : Int64} {ri : Nat → Int32} {post : Int32 → Prop} {lo hi : Int32} (hR : R ≤ 32) (h : ∀ r, post r) : wpX_count post (nI R, nI P, nI C, nI n, fs, ft, st, va, cu, ri) lo hi :=
  xw_count (q := fun i => ro_two 1 2 (st i) && ro_in lo hi (va i)) hR (fun _ _ => rfl) (fun _ => h _) (fun _ => h _)
end
/-! the law's own helpers -/
theorem mi_cell {post : Int32 → Prop} {L : Nat} {xs : Nat → Int32} {p : Nat} (hL : L ≤ 260) (hp : p < 2 ^ 31) (h : ∀ r, post r) : wpL_cell post L xs () (nI p) :=
  pk_le L p (fun _ => h _) (fun z => ⟨pk_in p L z, h _⟩)
theorem mi_val (c : Int32) : ∃ r : Int32, ∀ post : Int32 → Prop, post r → wpL_val post () c := by
  unfold wpL_val
  by_cases h : (((c.toUInt32 >>> ((5 : Int32).toUInt32 &&& Int32.toUInt32 31)).toInt32) &&& 7) = 7
  · exact ⟨c, fun post p => br_t h p⟩
  · by_cases a : (26 : Int32) ≤ c &&& 31
    · by_cases a0 : c &&& 31 = 26
      · exact ⟨_, fun post p => br_f h (nm_e (br_t a (br_t a0 p)))⟩
      · by_cases a1 : c &&& 31 = 27
        · exact ⟨_, fun post p => br_f h (nm_e (br_t a (br_f a0 (br_t a1 p))))⟩
        · by_cases a2 : c &&& 31 = 28
          · exact ⟨_, fun post p => br_f h (nm_e (br_t a (br_f a0 (br_f a1 (br_t a2 p)))))⟩
          · by_cases a3 : c &&& 31 = 29
            · exact ⟨_, fun post p => br_f h (nm_e (br_t a (br_f a0 (br_f a1 (br_f a2 (br_t a3 p))))))⟩
            · by_cases a4 : c &&& 31 = 30
              · exact ⟨_, fun post p => br_f h (nm_e (br_t a (br_f a0 (br_f a1 (br_f a2 (br_f a3 (br_t a4 p)))))))⟩
              · exact ⟨_, fun post p => br_f h (nm_e (br_t a (br_f a0 (br_f a1 (br_f a2 (br_f a3 (br_f a4 p)))))))⟩
    · exact ⟨_, fun post p => br_f h (nm_e (br_f a p))⟩
theorem mi_mod {post : Int32 → Prop} {c m : Int32} (hm : ¬ m = 0) (h : ∀ r, post r) : wpL_mod post () c m := ⟨hm, h _⟩
end
section
/-! the law's checks of a state -/
section
variable {post : Int32 → Prop} {L : Nat} {xs : Nat → Int32} {J91 : Int32 → Int32 → Int32 → Int32 → Int32 → Int32 → Int32 → Int64 → (Nat → Int32) → (Nat → Int32) → (Nat → Int32) → (Nat → Int32) → Int32 → Int32 → Int32 → Int32 → Int32 → Int64 → (Nat → Int32) → (Nat → Int32) → (Nat → Int32) → (Nat → Int32) → Prop} {x9 x10 : Int32} {kc ks : Nat} {R P C n : Nat} {fs gs : Int32} {ft gt : Int64} {st va cu ri rj : Nat → Int32}
/-- a row against the cuts -/
theorem li_237 {J165 : Int32 → Int32 → Int32 → Prop} {x12 x13 v : Int32} {i : Nat} (K : mi_K R P C n st cu) (H : J165 x12 x13 (nI (i + 1))) : ∀ d k, k + d = n → wL_law_237 post L xs J91 J165 (nI R) (nI P) (nI C) x9 x10 (nI n) x12 x13 (nI i) (nI (cu_to cu n v)) v kc ks (nI R) (nI P) (nI C) (nI n) fs ft st va cu ri (nI R) (nI P) (nI C) (nI n) gs gt st va cu rj (d + 1) (nI k) := by
  have hn : n ≤ 16 := by have := K.2.2.1.2; have := K.2.2.2.1; omega
  have ha := K.2.2.2.2.2
  have hl := cu_to_le cu n v
  intro d
  induction d with
  | zero =>
    intro k hk
    obtain rfl : k = n := by omega
    exact pk_le k k (fun _ => nm_r (nI_1 i) H) (fun z => absurd z (by omega))
  | succ d ih =>
    intro k hk
    have t := ih (k + 1) (by omega)
    have sp := cu_split (v := v) n ha k (by omega)
    refine pk_le n k (fun z => absurd z (by omega)) (fun _ => xw_cutValue_in hn (by omega) (br_c (fun e => ?_) (fun e => ?_)))
    · exact pk_lt k (cu_to cu n v) (fun _ => br_t rfl (nm_r (nI_1 k) t)) (fun z => absurd (sp.mp e) (by omega))
    · exact pk_lt k (cu_to cu n v) (fun z => absurd (sp.mpr z) e) (fun _ => br_t rfl (nm_r (nI_1 k) t))
theorem li_213 {J165 : Int32 → Int32 → Int32 → Prop} {x12 x13 x16 : Int32} {i : Nat} (K : mi_K R P C n st cu) (hi : i < R) (hx : ro_two 2 3 (st i) = true → x16 = nI (cu_to cu n (va i))) (H : J165 x12 x13 (nI (i + 1))) : wL_law_213 post L xs J91 J165 (nI R) (nI P) (nI C) x9 x10 (nI n) x12 x13 (nI i) (st i) x16 kc ks (nI R) (nI P) (nI C) (nI n) fs ft st va cu ri (nI R) (nI P) (nI C) (nI n) gs gt st va cu rj := by
  have hR := K.1.2
  have join : ro_two 2 3 (st i) = true → wL_law_225 post L xs J91 J165 (nI R) (nI P) (nI C) x9 x10 (nI n) x12 x13 (nI i) x16 kc ks (nI R) (nI P) (nI C) (nI n) fs ft st va cu ri (nI R) (nI P) (nI C) (nI n) gs gt st va cu rj := by
    intro z
    rw [hx z]
    unfold wL_law_225
    exact xw_rowValue_in hR hi ⟨_, li_237 K H n 0 (by omega)⟩
  exact br_c (fun e => join (ro_two_a e)) (fun e => br_c (fun e2 => join (ro_two_b e2)) (fun e2 => nm_r (nI_1 i) H))
theorem li_165 {q s : Nat → Bool} (K : mi_K R P C n st cu) (hs : ∀ i, i < R → ro_two 2 3 (st i) = s i) (hq : ∀ i, i < R → ro_two 1 3 (st i) = q i) (H : ∃ m, wL_law_293 post L xs J91 (nI R) (nI P) (nI C) x9 x10 (nI n) (nI (cc_c s R)) (nI (cc_c q R)) kc ks (nI R) (nI P) (nI C) (nI n) fs ft st va cu ri (nI R) (nI P) (nI C) (nI n) gs gt st va cu rj m 0) : ∀ d i, i + d = R → wL_law_165 post L xs J91 (nI R) (nI P) (nI C) x9 x10 (nI n) kc ks (nI R) (nI P) (nI C) (nI n) fs ft st va cu ri (nI R) (nI P) (nI C) (nI n) gs gt st va cu rj (d + 1) (nI (cc_c s i)) (nI (cc_c q i)) (nI i) := by
  have hR := K.1.2
  have hn : n ≤ 16 := by have := K.2.2.1.2; have := K.2.2.2.1; omega
  intro d
  induction d with
  | zero =>
    intro i hi
    obtain rfl : i = R := by omega
    exact pk_le i i (fun _ => H) (fun z => absurd z (by omega))
  | succ d ih =>
    intro i hi
    have t := ih (i + 1) (by omega)
    have Qs := hs i (by omega)
    have Qq := hq i (by omega)
    have hl := cu_to_le cu n (va i)
    have j198 : ∀ x16 : Int32, (ro_two 2 3 (st i) = true → x16 = nI (cu_to cu n (va i))) → wL_law_198 post L xs J91 (wL_law_165 post L xs J91 (nI R) (nI P) (nI C) x9 x10 (nI n) kc ks (nI R) (nI P) (nI C) (nI n) fs ft st va cu ri (nI R) (nI P) (nI C) (nI n) gs gt st va cu rj (d + 1)) (nI R) (nI P) (nI C) x9 x10 (nI n) (nI (cc_c s (i + 1))) (nI (cc_c q i)) (nI i) (st i) x16 kc ks (nI R) (nI P) (nI C) (nI n) fs ft st va cu ri (nI R) (nI P) (nI C) (nI n) gs gt st va cu rj := by
      intro x16 hx
      have j210 : q i = true → wL_law_210 post L xs J91 (wL_law_165 post L xs J91 (nI R) (nI P) (nI C) x9 x10 (nI n) kc ks (nI R) (nI P) (nI C) (nI n) fs ft st va cu ri (nI R) (nI P) (nI C) (nI n) gs gt st va cu rj (d + 1)) (nI R) (nI P) (nI C) x9 x10 (nI n) (nI (cc_c s (i + 1))) (nI (cc_c q i)) (nI i) (st i) x16 kc ks (nI R) (nI P) (nI C) (nI n) fs ft st va cu ri (nI R) (nI P) (nI C) (nI n) gs gt st va cu rj :=
        fun z => nm_r (cc_nt z) (li_213 K (by omega) hx t)
      refine br_c (fun e => j210 ?_) (fun e => br_c (fun e2 => j210 ?_) (fun e2 => ?_))
      · rw [← Qq]; exact ro_two_a e
      · rw [← Qq]; exact ro_two_b e2
      · rw [ro_two_f e e2] at Qq
        rw [cc_nf (q := q) Qq.symm]
        exact li_213 K (by omega) hx t
    refine pk_le R i (fun z => absurd z (by omega)) (fun _ => xw_rowState_in hR (by omega) (xw_pieceOf_in hR hn (by omega) (fun e => ?_) (fun e => ?_)))
    · rw [e] at Qs
      refine br_t (by decide) ?_
      rw [cc_nf (q := s) Qs.symm]
      exact j198 _ (fun z => absurd (e.symm.trans z) (by decide))
    · rw [e] at Qs
      exact br_f (nI_pos (by omega)) (nm_r (cc_nt Qs.symm) (j198 _ (fun _ => rfl)))
theorem li_122 (K : mi_K R P C n st cu) (H : ∃ m, wL_law_165 post L xs J91 (nI R) (nI P) (nI C) x9 x10 (nI n) kc ks (nI R) (nI P) (nI C) (nI n) fs ft st va cu ri (nI R) (nI P) (nI C) (nI n) gs gt st va cu rj m 0 0 0) : ∀ d i, 1 ≤ i → i ≤ 17 → n ≤ i + d → wL_law_122 post L xs J91 (nI R) (nI P) (nI C) x9 x10 (nI n) kc ks (nI R) (nI P) (nI C) (nI n) fs ft st va cu ri (nI R) (nI P) (nI C) (nI n) gs gt st va cu rj (d + 1) (nI i) := by
  have hn : n ≤ 16 := by have := K.2.2.1.2; have := K.2.2.2.1; omega
  have ha := K.2.2.2.2.2
  intro d
  induction d with
  | zero =>
    intro i h1 h2 h3
    exact pk_le n i (fun _ => H) (fun z => absurd z (by omega))
  | succ d ih =>
    intro i h1 h2 h3
    refine pk_le n i (fun _ => H) (fun z => ?_)
    rw [nn_sub1 (show 0 < i by omega)]
    exact xw_cutValue_in hn (by omega) (xw_cutValue_in hn (by omega) (br_t (ha (i - 1) i (by omega) z) (nm_r (nI_1 i) (ih (i + 1) (by omega) (by omega) (by omega)))))
theorem li_306 {J293 : Int32 → Prop} {x12 x13 : Int32} {k : Nat} {q : Nat → Bool} (K : mi_K R P C n st cu) (hk : k < n) (hq : ∀ i, i < R → (ro_two 2 3 (st i) && decide (va i < cu k)) = q i) (H : J293 (nI (k + 1))) : ∀ d i, i + d = R → wL_law_306 post L xs J91 J293 (nI R) (nI P) (nI C) x9 x10 (nI n) x12 x13 (nI k) kc ks (nI R) (nI P) (nI C) (nI n) fs ft st va cu ri (nI R) (nI P) (nI C) (nI n) gs gt st va cu rj (d + 1) (nI (cc_c q i)) (nI i) := by
  have hR := K.1.2
  have hn : n ≤ 16 := by have := K.2.2.1.2; have := K.2.2.2.1; omega
  have ha := K.2.2.2.2.2
  intro d
  induction d with
  | zero =>
    intro i hi
    obtain rfl : i = R := by omega
    exact pk_le i i (fun _ => xw_cutBelow_in hR hn hk hq (br_t rfl (nm_r (nI_1 k) H))) (fun z => absurd z (by omega))
  | succ d ih =>
    intro i hi
    have t := ih (i + 1) (by omega)
    have Q := hq i (by omega)
    have hl := cu_to_le cu n (va i)
    have sp := cu_split (v := va i) n ha k hk
    refine pk_le R i (fun z => absurd z (by omega)) (fun _ => xw_pieceOf_in hR hn (by omega) (fun e => ?_) (fun e => ?_))
    · rw [e] at Q
      refine br_t (by decide) (nm_r (nI_1 i) ?_)
      rw [cc_nf (q := q) Q.symm]; exact t
    · rw [e] at Q
      refine br_f (nI_pos (by omega)) (pk_lt k (cu_to cu n (va i)) (fun z => nm_r (nI_1 i) ?_) (fun z => nm_r ?_ (nm_r (nI_1 i) t)))
      · rw [decide_eq_false (Int32.not_lt.mpr (sp.mpr z))] at Q
        rw [cc_nf (q := q) Q.symm]; exact t
      · rw [decide_eq_true (Int32.not_le.mp (fun y => absurd (sp.mp y) (by omega)))] at Q
        exact cc_nt Q.symm
end
end
section
/-! a select and its checks -/
section
variable {post : Int32 → Prop} {L : Nat} {xs : Nat → Int32} {J91 : Int32 → Int32 → Int32 → Int32 → Int32 → Int32 → Int32 → Int64 → (Nat → Int32) → (Nat → Int32) → (Nat → Int32) → (Nat → Int32) → Int32 → Int32 → Int32 → Int32 → Int32 → Int64 → (Nat → Int32) → (Nat → Int32) → (Nat → Int32) → (Nat → Int32) → Prop} {x9 x10 : Int32} {kc ks : Nat} {R P C n : Nat} {fs gs : Int32} {ft gt : Int64} {st va cu ri rj : Nat → Int32}
/-- what the law asks behind a turn -/
def li_J (J91 : Int32 → Int32 → Int32 → Int32 → Int32 → Int32 → Int32 → Int64 → (Nat → Int32) → (Nat → Int32) → (Nat → Int32) → (Nat → Int32) → Int32 → Int32 → Int32 → Int32 → Int32 → Int64 → (Nat → Int32) → (Nat → Int32) → (Nat → Int32) → (Nat → Int32) → Prop) (x10 : Int32) (R P C b : Nat) : Prop := ∀ (p n : Nat) (fs gs : Int32) (ft gt : Int64) (st va cu ri rj : Nat → Int32), p ≤ b → mi_K R P C n st cu → J91 (nI p) (x10 + 1) (nI R) (nI P) (nI C) (nI n) fs ft st va cu ri (nI R) (nI P) (nI C) (nI n) gs gt st va cu rj
theorem li_q {lo hi s x : Int32} : (ro_two 1 2 (ro_as lo hi s x) && ro_in lo hi (ro_av lo hi s x)) = (ro_two 1 2 s && ro_in lo hi x) := by
  by_cases h : ro_in lo hi x = true
  · by_cases e1 : s = 1
    · rw [ro_as_1 h e1, ro_av_e (by rw [e1]; decide), ro_two_a e1]; rfl
    · by_cases e3 : s = 3
      · rw [ro_as_3 h e3, ro_two_f e1 (by rw [e3]; decide), show ro_two 1 2 0 = false from by decide, Bool.false_and, Bool.false_and]
      · rw [ro_as_e e1 e3, ro_av_e e3]
  · rw [ro_as_out (ro_nt h), ro_av_out (ro_nt h)]
theorem li_822 {lo hi fn : Int32} {cv : Nat → Int32} {q : Nat → Bool} (hR : R ≤ 32) (hr : ro_R ri q R)
    (hq : ∀ i, i < R → (ro_two 1 2 (st i) && ro_in lo hi (va i)) = q i)
    (H : wL_law_1025 post L xs J91 (nI R) (nI P) (nI C) x9 x10 lo hi kc ks (nI R) (nI P) (nI C) fn (nI (cc_c q R)) (ro_T q (ro_V lo hi st va R) R) (ro_S lo hi st va R) (ro_V lo hi st va R) cv ri (nI R) (nI P) (nI C) (nI n) gs gt st va cu rj) :
    ∀ d i, i + d = R → wL_law_822 post L xs J91 (nI R) (nI P) (nI C) x9 x10 lo hi (nI (cc_c q R)) kc ks (nI R) (nI P) (nI C) fn (nI (cc_c q R)) (ro_T q (ro_V lo hi st va R) R) (ro_S lo hi st va R) (ro_V lo hi st va R) cv ri (nI R) (nI P) (nI C) (nI n) gs gt st va cu rj (d + 1) (nI (cc_c q i)) (ro_T q (ro_V lo hi st va R) i) (nI i) := by
  have hl := cc_le q R
  intro d
  induction d with
  | zero =>
    intro i hi
    obtain rfl : i = R := by omega
    exact pk_le i i (fun _ => br_t rfl (xw_resultRow_out (Or.inr (Int32.le_refl _)) (br_t rfl (br_t rfl H)))) (fun z => absurd z (by omega))
  | succ d ih =>
    intro i hd
    have t := ih (i + 1) (by omega)
    have Q := hq i (by omega)
    have eS : ro_S lo hi st va R i = ro_as lo hi (st i) (va i) := ro_S_lt (by omega)
    have eV : ro_V lo hi st va R i = ro_av lo hi (st i) (va i) := ro_V_lt (by omega)
    have skip : q i = false → ∀ x22 : Int32, x22 = nI i + 1 → wL_law_822 post L xs J91 (nI R) (nI P) (nI C) x9 x10 lo hi (nI (cc_c q R)) kc ks (nI R) (nI P) (nI C) fn (nI (cc_c q R)) (ro_T q (ro_V lo hi st va R) R) (ro_S lo hi st va R) (ro_V lo hi st va R) cv ri (nI R) (nI P) (nI C) (nI n) gs gt st va cu rj (d + 1) (nI (cc_c q i)) (ro_T q (ro_V lo hi st va R) i) x22 := by
      intro z x22 ex
      rw [ex, nI_1, cc_nf (q := q) z, ← ro_Tf (va := ro_V lo hi st va R) z]; exact t
    have j972 : q i = false → ro_as lo hi (st i) (va i) = st i → ro_av lo hi (st i) (va i) = va i → wL_law_972 post L xs J91 (wL_law_822 post L xs J91 (nI R) (nI P) (nI C) x9 x10 lo hi (nI (cc_c q R)) kc ks (nI R) (nI P) (nI C) fn (nI (cc_c q R)) (ro_T q (ro_V lo hi st va R) R) (ro_S lo hi st va R) (ro_V lo hi st va R) cv ri (nI R) (nI P) (nI C) (nI n) gs gt st va cu rj (d + 1)) (nI R) (nI P) (nI C) x9 x10 lo hi (nI (cc_c q R)) (nI (cc_c q i)) (ro_T q (ro_V lo hi st va R) i) (nI i) (st i) (va i) (ro_S lo hi st va R i) (ro_V lo hi st va R i) kc ks (nI R) (nI P) (nI C) fn (nI (cc_c q R)) (ro_T q (ro_V lo hi st va R) R) (ro_S lo hi st va R) (ro_V lo hi st va R) cv ri (nI R) (nI P) (nI C) (nI n) gs gt st va cu rj := by
      intro z e1 e2
      exact br_t (eS.trans e1) (br_t (eV.trans e2) (skip z))
    have out : ro_in lo hi (va i) = false → wL_law_883 post L xs J91 (wL_law_822 post L xs J91 (nI R) (nI P) (nI C) x9 x10 lo hi (nI (cc_c q R)) kc ks (nI R) (nI P) (nI C) fn (nI (cc_c q R)) (ro_T q (ro_V lo hi st va R) R) (ro_S lo hi st va R) (ro_V lo hi st va R) cv ri (nI R) (nI P) (nI C) (nI n) gs gt st va cu rj (d + 1)) (nI R) (nI P) (nI C) x9 x10 lo hi (nI (cc_c q R)) (nI (cc_c q i)) (ro_T q (ro_V lo hi st va R) i) (nI i) (st i) (va i) (ro_S lo hi st va R i) (ro_V lo hi st va R i) kc ks (nI R) (nI P) (nI C) fn (nI (cc_c q R)) (ro_T q (ro_V lo hi st va R) R) (ro_S lo hi st va R) (ro_V lo hi st va R) cv ri (nI R) (nI P) (nI C) (nI n) gs gt st va cu rj := by
      intro z
      have w := j972 (by rw [← Q, z, Bool.and_false]) (ro_as_out z) (ro_av_out z)
      exact br_t rfl (br_t rfl (br_c (fun _ => w) (fun _ => br_t rfl w)))
    have ins : ro_in lo hi (va i) = true → wL_law_884 post L xs J91 (wL_law_822 post L xs J91 (nI R) (nI P) (nI C) x9 x10 lo hi (nI (cc_c q R)) kc ks (nI R) (nI P) (nI C) fn (nI (cc_c q R)) (ro_T q (ro_V lo hi st va R) R) (ro_S lo hi st va R) (ro_V lo hi st va R) cv ri (nI R) (nI P) (nI C) (nI n) gs gt st va cu rj (d + 1)) (nI R) (nI P) (nI C) x9 x10 lo hi (nI (cc_c q R)) (nI (cc_c q i)) (ro_T q (ro_V lo hi st va R) i) (nI i) (st i) (va i) (ro_S lo hi st va R i) (ro_V lo hi st va R i) 1 kc ks (nI R) (nI P) (nI C) fn (nI (cc_c q R)) (ro_T q (ro_V lo hi st va R) R) (ro_S lo hi st va R) (ro_V lo hi st va R) cv ri (nI R) (nI P) (nI C) (nI n) gs gt st va cu rj := by
      intro z
      rw [z, Bool.and_true] at Q
      have live : ro_two 1 2 (st i) = true → ro_as lo hi (st i) (va i) = 2 → ¬ st i = 3 → wL_law_903 post L xs J91 (wL_law_822 post L xs J91 (nI R) (nI P) (nI C) x9 x10 lo hi (nI (cc_c q R)) kc ks (nI R) (nI P) (nI C) fn (nI (cc_c q R)) (ro_T q (ro_V lo hi st va R) R) (ro_S lo hi st va R) (ro_V lo hi st va R) cv ri (nI R) (nI P) (nI C) (nI n) gs gt st va cu rj (d + 1)) (nI R) (nI P) (nI C) x9 x10 lo hi (nI (cc_c q R)) (nI (cc_c q i)) (ro_T q (ro_V lo hi st va R) i) (nI i) (va i) (ro_S lo hi st va R i) (ro_V lo hi st va R i) kc ks (nI R) (nI P) (nI C) fn (nI (cc_c q R)) (ro_T q (ro_V lo hi st va R) R) (ro_S lo hi st va R) (ro_V lo hi st va R) cv ri (nI R) (nI P) (nI C) (nI n) gs gt st va cu rj := by
        intro y e2 e3
        rw [y] at Q
        have qt : q i = true := Q.symm
        have lt := cc_up (q := q) (a := i + 1) (b := R) (by omega)
        rw [cc_t qt] at lt
        have ev : ro_V lo hi st va R i = va i := eV.trans (ro_av_e e3)
        have et : ro_T q (ro_V lo hi st va R) i + (va i).toInt64 = ro_T q (ro_V lo hi st va R) (i + 1) := by rw [ro_Tt qt, ev]
        unfold wL_law_903
        exact xw_resultRow_in (by omega) lt (br_t (hr i (by omega) qt) (br_t (eS.trans e2) (br_t ev (nm_r (cc_nt qt) (nm_r et (nm_r (nI_1 i) t))))))
      refine br_f (by decide) (br_c (fun e => live (ro_two_a e) (ro_as_1 z e) (by rw [e]; decide)) (fun e1 => br_c (fun e => live (ro_two_b e) ((ro_as_e e1 (by rw [e]; decide)).trans e) (by rw [e]; decide)) (fun e2 => ?_)))
      have qf : q i = false := by rw [← Q]; exact ro_two_f e1 e2
      refine br_f (by decide) (br_c (fun e3 => br_t (eS.trans (ro_as_3 z e3)) (skip qf)) (fun e3 => ?_))
      exact br_c (fun _ => j972 qf (ro_as_e e1 e3) (ro_av_e e3)) (fun _ => br_f (by decide) (skip qf))
    refine pk_le R i (fun z => absurd z (by omega)) (fun _ => xw_rowState_in hR (by omega) (xw_rowValue_in hR (by omega) (xw_rowState_in hR (by omega) (xw_rowValue_in hR (by omega) (br_c (fun e => out (ro_in_f1 (Int32.not_le.mpr e))) (fun e => br_c (fun e2 => out (ro_in_f2 (Int32.not_lt.mpr e2))) (fun e2 => ins (ro_in_t (Int32.not_lt.mp e) (Int32.not_le.mp e2)))))))))
theorem li_795 {b p : Nat} {lo hi : Int32} (K : mi_K R P C n st cu) (hx : x9 = nI p) (hp : p ≤ b) (H : li_J J91 x10 R P C b) : wL_law_795 post L xs J91 (nI R) (nI P) (nI C) x9 x10 lo hi kc ks (nI R) (nI P) (nI C) (nI n) fs ft st va cu ri (nI R) (nI P) (nI C) (nI n) gs gt st va cu rj := by
  have hR := K.1.2
  have hC := K.2.2.1.2
  have hn := K.2.2.2.1
  have ha := K.2.2.2.2.2
  have hq : ∀ i, i < R → (ro_two 1 2 (ro_S lo hi st va R i) && ro_in lo hi (ro_V lo hi st va R i)) = (ro_two 1 2 (st i) && ro_in lo hi (va i)) := by
    intro i hd
    rw [ro_S_lt hd, ro_V_lt hd]
    exact li_q
  subst hx
  unfold wL_law_795
  refine xw_select (q := fun i => ro_two 1 2 (st i) && ro_in lo hi (va i)) hR hC hn ha hq (fun e => ?_) (fun e ri' hr => ?_)
  · dsimp only
    refine br_t (Int32.not_lt.mp e) ?_
    unfold wL_law_1025
    refine xw_select (q := fun i => ro_two 1 2 (st i) && ro_in lo hi (va i)) hR hC hn ha hq (fun _ => ?_) (fun z => absurd z e)
    exact nm_e (H p n fs gs ft gt st va cu ri rj hp K)
  · dsimp only
    refine br_f (Int32.not_le.mpr e) ⟨_, li_822 hR hr (fun _ _ => rfl) ?_ R 0 (by omega)⟩
    unfold wL_law_1025
    refine xw_select (q := fun i => ro_two 1 2 (st i) && ro_in lo hi (va i)) hR hC hn ha hq (fun z => absurd e z) (fun _ rj' _ => ?_)
    exact nm_e (H p _ _ _ _ _ _ _ _ ri' rj' hp (mi_sel lo hi va K))
theorem li_746 {b p : Nat} {lo hi : Int32} (K : mi_K R P C n st cu) (hx : x9 = nI p) (hp : p ≤ b) (H : li_J J91 x10 R P C b) : ∀ d i, i + d = R → wL_law_746 post L xs J91 (nI R) (nI P) (nI C) x9 x10 lo hi kc ks (nI R) (nI P) (nI C) (nI n) fs ft st va cu ri (nI R) (nI P) (nI C) (nI n) gs gt st va cu rj (d + 1) (nI i) := by
  have hR := K.1.2
  intro d
  induction d with
  | zero =>
    intro i hi
    obtain rfl : i = R := by omega
    exact pk_le i i (fun _ => li_795 K hx hp H) (fun z => absurd z (by omega))
  | succ d ih =>
    intro i hi
    exact pk_le R i (fun z => absurd z (by omega)) (fun _ => xw_rowState_in hR (by omega) (xw_rowState_in hR (by omega) (br_t rfl (xw_rowValue_in hR (by omega) (xw_rowValue_in hR (by omega) (br_t rfl (nm_r (nI_1 i) (ih (i + 1) (by omega)))))))))
theorem li_736 {b p : Nat} {lo hi : Int32} (K : mi_K R P C n st cu) (hx : x9 = nI p) (hp : p ≤ b) (H : li_J J91 x10 R P C b) : wL_law_736 post L xs J91 (nI R) (nI P) (nI C) x9 x10 lo hi kc ks (nI R) (nI P) (nI C) (nI n) fs ft st va cu ri (nI R) (nI P) (nI C) (nI n) gs gt st va cu rj :=
  br_c (fun _ => li_795 K hx hp H) (fun _ => ⟨_, li_746 K hx hp H R 0 (by omega)⟩)
end
end
section
/-! the other calls, a turn, the law -/
section
variable {post : Int32 → Prop} {L : Nat} {xs : Nat → Int32} {J91 : Int32 → Int32 → Int32 → Int32 → Int32 → Int32 → Int32 → Int64 → (Nat → Int32) → (Nat → Int32) → (Nat → Int32) → (Nat → Int32) → Int32 → Int32 → Int32 → Int32 → Int32 → Int64 → (Nat → Int32) → (Nat → Int32) → (Nat → Int32) → (Nat → Int32) → Prop} {x9 x10 : Int32} {kc ks : Nat} {R P C n : Nat} {fs gs : Int32} {ft gt : Int64} {st va cu ri rj : Nat → Int32}
theorem li_536 {b p : Nat} {x14 x16 x17 : Int32} (K : mi_K R P C n st cu) (hx : x9 = nI p) (hp : p ≤ b) (H : li_J J91 x10 R P C b) : ∀ d (x18 x19 : Int32), d ≤ 32 → x19 = nI d + (-1) → wL_law_536 post L xs J91 (nI R) (nI P) (nI C) x9 x10 x14 x16 x17 kc ks (nI R) (nI P) (nI C) (nI n) fs ft st va cu ri (nI R) (nI P) (nI C) (nI n) gs gt st va cu rj (d + 1) x18 x19 := by
  have hR := K.1.2
  have h0 : ¬ nI R = 0 := nI_ne0 (by have := K.1.1; omega) (by omega)
  subst hx
  intro d
  induction d with
  | zero =>
    intro x18 x19 _ ex
    refine br_t (by rw [ex]; decide) (br_c (fun _ => ?_) (fun _ => ?_))
    · obtain ⟨r, st', K', w⟩ := mi_restore va K x18
      refine w _ _ _ _ ?_
      dsimp only
      refine w _ _ _ _ ?_
      exact nm_e (H p n fs gs ft gt st' va cu ri rj hp K')
    · obtain ⟨r, st', va', K', w⟩ := mi_delete va K x18
      refine w _ _ _ _ ?_
      dsimp only
      refine w _ _ _ _ ?_
      exact nm_e (H p n fs gs ft gt st' va' cu ri rj hp K')
  | succ d ih =>
    intro x18 x19 hd ex
    rw [pk_m1] at ex
    subst ex
    exact br_f (nI_pos (by omega)) ⟨h0, mi_state hR _ (fun r => br_c (fun _ => ⟨h0, fun x18' _ x19' e => ih x18' x19' (by omega) e⟩) (fun _ x19' e => ih x18 x19' (by omega) e))⟩
theorem li_515 {b p : Nat} {x14 x15 z0 : Int32} (K : mi_K R P C n st cu) (hx : x9 = nI p) (hp : p ≤ b) (H : li_J J91 x10 R P C b) : wL_law_515 post L xs J91 (nI R) (nI P) (nI C) x9 x10 x14 x15 z0 kc ks (nI R) (nI P) (nI C) (nI n) fs ft st va cu ri (nI R) (nI P) (nI C) (nI n) gs gt st va cu rj := by
  have hR := K.1.2
  have h4 := K.1.1
  have h0 : ¬ nI R = 0 := nI_ne0 (by omega) (by omega)
  have e : nI R - 1 = nI R + (-1) := by
    obtain ⟨m, rfl⟩ : ∃ m, R = m + 1 := ⟨R - 1, by omega⟩
    rw [nI_pred, pk_m1]
  exact mi_mod h0 (fun r x19 ex => ⟨_, li_536 K hx hp H R r x19 (by omega) (ex.trans e)⟩)
theorem li_293 {p : Nat} {q s : Nat → Bool} (K : mi_K R P C n st cu) (hL : L ≤ 260) (hx : x9 = nI p) (hp : p ≤ 2000) (h1 : post 1) (hs : ∀ i, i < R → ro_two 2 3 (st i) = s i) (hq : ∀ i, i < R → ro_two 1 3 (st i) = q i) (H : li_J J91 x10 R P C (p + 3)) : ∀ d k, k + d = n → wL_law_293 post L xs J91 (nI R) (nI P) (nI C) x9 x10 (nI n) (nI (cc_c s R)) (nI (cc_c q R)) kc ks (nI R) (nI P) (nI C) (nI n) fs ft st va cu ri (nI R) (nI P) (nI C) (nI n) gs gt st va cu rj (d + 1) (nI k) := by
  have hR := K.1.2
  have h4 := K.1.1
  have hP := K.2.1.2
  have hn : n ≤ 16 := by have := K.2.2.1.2; have := K.2.2.2.1; omega
  have hpd : cc_c q R ≤ P := by rw [← cc_congr R hq]; exact K.2.2.2.2.1
  intro d
  induction d with
  | zero =>
    intro k hk
    obtain rfl : k = n := by omega
    refine pk_le k k (fun _ => xw_ns hR hs (br_t rfl (xw_np hR ?_))) (fun z => absurd z (by omega))
    rw [show ro_np st R = cc_c q R from cc_congr R hq]
    refine br_t rfl (pk_le (cc_c q R) P (fun _ => ?_) (fun z => absurd z (by omega)))
    refine br_c (fun _ => ?_) (fun _ => h1)
    rw [hx, show nI p + 1 = nI (p + 1) from nI_1 p, show nI p + 2 = nI (p + 2) from nI_add p 2]
    refine mi_cell hL (by omega) (fun c0 op eop => mi_cell hL (by omega) (fun a => nm_e (br_c (fun _ => br_c (fun _ => ?_) (fun _ => br_c (fun _ => br_c (fun _ => ?_) (fun _ => ?_)) (fun _ => br_c (fun _ => ?_) (fun _ => ?_)))) (fun _ => ?_))))
    · -- delete
      refine mi_mod ?_ (fun r x16 _ => ?_)
      · rw [show nI R + 2 = nI (R + 2) from nI_add R 2]; exact nI_ne0 (by omega) (by omega)
      · obtain ⟨r, st', va', K', w⟩ := mi_delete va K x16
        refine w _ _ _ _ ?_
        dsimp only
        refine w _ _ _ _ ?_
        exact nm_e (H (p + 2) k fs gs ft gt st' va' cu ri rj (by omega) K')
    · -- forgetCut
      refine mi_mod ?_ (fun r x16 _ => ?_)
      · rw [show nI k + 2 = nI (k + 2) from nI_add k 2]; exact nI_ne0 (by omega) (by omega)
      · obtain ⟨r, n', cu', K', w⟩ := mi_forget va K x16
        refine w _ _ _ _ ?_
        dsimp only
        refine w _ _ _ _ ?_
        exact nm_e (H (p + 2) n' fs gs ft gt st va cu' ri rj (by omega) K')
    · -- count, select
      obtain ⟨lo, wlo⟩ := mi_val a
      refine wlo _ (mi_cell hL (by omega) (fun c1 => ?_))
      obtain ⟨hi, whi⟩ := mi_val c1
      refine whi _ (nm_r (show nI (p + 2) + 1 = nI (p + 3) from nI_1 _) (br_c (fun _ => mi_count hR (fun _ => mi_count hR (fun _ => nm_e (H (p + 3) k fs gs ft gt st va cu ri rj (by omega) K)))) (fun _ => br_c (fun _ => li_736 K rfl (by omega) H) (fun _ => br_c (fun _ => li_736 K rfl (by omega) H) (fun _ => li_736 K rfl (by omega) H)))))
    · exact li_515 K rfl (by omega) H
    · exact li_515 K rfl (by omega) H
    · -- insert
      obtain ⟨v, wv⟩ := mi_val a
      obtain ⟨r, st', va', K', w⟩ := mi_insert va K v
      refine wv _ (w _ _ _ _ ?_)
      dsimp only
      refine wv _ (w _ _ _ _ ?_)
      exact nm_e (H (p + 2) k fs gs ft gt st' va' cu ri rj (by omega) K')
  | succ d ih =>
    intro k hk
    refine pk_le n k (fun z => absurd z (by omega)) (fun _ => ⟨_, li_306 (q := fun i => ro_two 2 3 (st i) && decide (va i < cu k)) K (by omega) (fun _ _ => rfl) (ih (k + 1) (by omega)) R 0 (by omega)⟩)
theorem li_91 (hL : L ≤ 260) (h1 : post 1) : ∀ d T p n (fs gs : Int32) (ft gt : Int64) (st va cu ri rj : Nat → Int32), T + d = L + 1 → p ≤ 3 + 3 * T → mi_K R P C n st cu → wL_law_91 post L xs (nI R) (nI P) (nI C) kc ks (d + 1) (nI p) (nI T) (nI R) (nI P) (nI C) (nI n) fs ft st va cu ri (nI R) (nI P) (nI C) (nI n) gs gt st va cu rj := by
  intro d
  induction d with
  | zero =>
    intro T p n fs gs ft gt st va cu ri rj hT hp K
    exact pk_lt L T (fun _ => h1) (fun z => absurd z (by omega))
  | succ d ih =>
    intro T p n fs gs ft gt st va cu ri rj hT hp K
    have hn := K.2.2.2.1
    have hC := K.2.2.1.2
    refine pk_lt L T (fun _ => h1) (fun _ => br_f (nI_pos (by omega)) (pk_le n C (fun _ => ?_) (fun z => absurd z (by omega))))
    refine ⟨_, li_122 K ⟨_, li_165 (s := fun i => ro_two 2 3 (st i)) (q := fun i => ro_two 1 3 (st i)) K (fun _ _ => rfl) (fun _ _ => rfl) ⟨_, li_293 K hL rfl (by omega) h1 (fun _ _ => rfl) (fun _ _ => rfl) ?_ n 0 (by omega)⟩ R 0 (by omega)⟩ 16 1 (by omega) (by omega) (by omega)⟩
    intro p' n' fs' gs' ft' gt' st' va' cu' ri' rj' hp' K'
    rw [nI_1]
    exact ih (T + 1) p' n' fs' gs' ft' gt' st' va' cu' ri' rj' (by omega) (by omega) K'
end
end
section
def mi_cl (k lo hi : Int32) : Int32 := if lo ≤ k then (if k ≤ hi then k else hi) else lo
theorem mi_cl_c {k lo hi : Int32} {Q : Int32 → Prop} (h : Q (mi_cl k lo hi)) : (lo ≤ k → ((k ≤ hi → Q k) ∧ (¬ k ≤ hi → Q hi))) ∧ (¬ lo ≤ k → Q lo) := by
  unfold mi_cl at h
  refine br_c (fun e => br_c (fun e2 => ?_) (fun e2 => ?_)) (fun e => ?_)
  · rw [if_pos e, if_pos e2] at h; exact h
  · rw [if_pos e, if_neg e2] at h; exact h
  · rw [if_neg e] at h; exact h
theorem mi_cl_n (k : Int32) {lo hi : Nat} (h1 : lo ≤ hi) (h2 : hi < 2 ^ 31) : ∃ j, (lo ≤ j ∧ j ≤ hi) ∧ mi_cl k (nI lo) (nI hi) = nI j := by
  unfold mi_cl
  by_cases e : nI lo ≤ k
  · by_cases e2 : k ≤ nI hi
    · have h0 : ¬ k < 0 := by
        have a := nI_toInt (show lo < 2 ^ 31 by omega)
        rw [Int32.le_iff_toInt_le, a] at e
        rw [Int32.lt_iff_toInt_lt, show (0 : Int32).toInt = 0 from by decide]
        omega
      obtain ⟨j, hj, rfl⟩ := nI_of h0
      rw [if_pos e, if_pos e2]
      exact ⟨j, ⟨(nI_leI (by omega) hj).mp e, (nI_leI hj h2).mp e2⟩, rfl⟩
    · rw [if_pos e, if_neg e2]
      exact ⟨hi, ⟨h1, Nat.le_refl _⟩, rfl⟩
  · rw [if_neg e]
    exact ⟨lo, ⟨Nat.le_refl _, h1⟩, rfl⟩
theorem mi_lclamp {post : Int32 → Prop} {k lo hi : Int32} (h : post (mi_cl k lo hi)) : wpL_clamp post () k lo hi := mi_cl_c h
theorem mi_xclamp {post : Int32 → Prop} {k lo hi : Int32} (h : post (mi_cl k lo hi)) : wpX_clamp post () k lo hi := mi_cl_c h
theorem mi_init {post : St2 → Prop} {a b c : Int32} (h : post (mi_cl a 4 32, mi_cl b 1 16, mi_cl c 1 16, 0, 0, 0, (fun _ => 0), (fun _ => 0), (fun _ => 0), (fun _ => 0))) : wpX_init post 4 112 (0, 0, 0, 0, 0, 0) a b c := by
  unfold wpX_init
  dsimp only
  exact ⟨by omega, by omega, by omega, by omega, by omega, by omega, by omega, by omega, mi_xclamp (mi_xclamp (mi_xclamp h))⟩
theorem i_vc (xs : Nat → Int32) (L : Nat) (hL : L ≤ 260) : wpL_law (fun r => r = 1) L xs := by
  unfold wpL_law
  refine mi_cell (p := 0) hL (by omega) (fun a x1 _ => mi_cell (p := 1) hL (by omega) (fun b x2 _ => mi_cell (p := 2) hL (by omega) (fun c x3 _ => mi_lclamp (mi_lclamp (mi_lclamp ⟨4, 112, by omega, by omega, mi_init ?_⟩)))))
  dsimp only
  refine ⟨by omega, by omega, 4, 112, by omega, by omega, mi_init ?_⟩
  dsimp only
  obtain ⟨R, hR, eR⟩ := mi_cl_n x1 (lo := 4) (hi := 32) (by omega) (by omega)
  obtain ⟨P, hP, eP⟩ := mi_cl_n x2 (lo := 1) (hi := 16) (by omega) (by omega)
  obtain ⟨C, hC, eC⟩ := mi_cl_n x3 (lo := 1) (hi := 16) (by omega) (by omega)
  have eR' : mi_cl x1 4 32 = nI R := eR
  have eP' : mi_cl x2 1 16 = nI P := eP
  have eC' : mi_cl x3 1 16 = nI C := eC
  rw [eR', eP', eC']
  have z2 : ro_np (fun _ => 0) R = 0 := cc_none R (fun i _ => rfl)
  exact ⟨_, li_91 (post := fun r => r = 1) (R := R) (P := P) (C := C) hL rfl (L + 1) 0 3 0 0 0 0 0 (fun _ => 0) (fun _ => 0) (fun _ => 0) (fun _ => 0) (fun _ => 0) (by omega) (by omega) ⟨hR, hP, hC, Nat.zero_le _, by rw [z2]; exact Nat.zero_le _, fun i j _ hj => absurd hj (Nat.not_lt_zero j)⟩⟩
end
