/-! the cuts: an ascending array f on one side, any array g of the same content on the other -/
def cu_asc (f : Nat → Int32) (n : Nat) : Prop := ∀ i j, i < j → j < n → f i < f j
/-- how many of the first n are at most v -/
def cu_to (f : Nat → Int32) (n : Nat) (v : Int32) : Nat := cc_c (fun i => decide (f i ≤ v)) n
def cu_same (f g : Nat → Int32) (n : Nat) : Prop := ∀ p : Int32 → Bool, cc_c (fun i => p (f i)) n = cc_c (fun i => p (g i)) n
theorem cu_to_le (f : Nat → Int32) (n : Nat) (v : Int32) : cu_to f n v ≤ n := cc_le _ n
theorem cu_lt_le {a b c : Int32} (h : a < b) (h2 : b ≤ c) : a ≤ c := by
  rw [Int32.lt_iff_toInt_lt] at h
  rw [Int32.le_iff_toInt_le] at h2 ⊢
  omega
theorem cu_split {f : Nat → Int32} {v : Int32} : ∀ n, cu_asc f n → ∀ i, i < n → (f i ≤ v ↔ i < cu_to f n v) := by
  intro n
  induction n with
  | zero => intro _ i hi; omega
  | succ n ih =>
    intro h i hi
    have h1 := ih (fun a b hab hb => h a b hab (by omega))
    by_cases e : f n ≤ v
    · have ha : ∀ j, j < n + 1 → f j ≤ v := by
        intro j hj
        by_cases z : j = n
        · rw [z]; exact e
        · exact cu_lt_le (h j n (by omega) (by omega)) e
      have hc : cu_to f (n + 1) v = n + 1 := cc_all (n + 1) (fun j hj => decide_eq_true (ha j hj))
      rw [hc]
      exact ⟨fun _ => hi, fun _ => ha i hi⟩
    · have hc : cu_to f (n + 1) v = cu_to f n v := cc_f (decide_eq_false e)
      have hl := cu_to_le f n v
      rw [hc]
      by_cases z : i = n
      · rw [z]
        exact ⟨fun x => absurd x e, fun x => by omega⟩
      · exact h1 i (by omega)
theorem cu_rank {f : Nat → Int32} {n j : Nat} (h : cu_asc f n) (hj : j < n) : cu_to f n (f j) = j + 1 := by
  have h1 := (cu_split (v := f j) n h j hj).mp (Int32.le_refl _)
  have h2 := cu_to_le f n (f j)
  by_cases e : j + 1 < n
  · have h3 : ¬ f (j + 1) ≤ f j := by
      have h4 := h j (j + 1) (by omega) e
      rw [Int32.lt_iff_toInt_lt] at h4
      rw [Int32.le_iff_toInt_le]
      omega
    have h5 := mt (cu_split (v := f j) n h (j + 1) e).mpr h3
    omega
  · omega
theorem cu_same_to {f g : Nat → Int32} {n : Nat} (h : cu_same f g n) (v : Int32) : cu_to f n v = cu_to g n v := h (fun x => decide (x ≤ v))
theorem cu_same_symm {f g : Nat → Int32} {n : Nat} (h : cu_same f g n) : cu_same g f n := fun p => (h p).symm
theorem cu_same_mem {f g : Nat → Int32} {n i : Nat} (h : cu_same f g n) (hi : i < n) : ∃ j, j < n ∧ g j = f i := by
  have h1 : 0 < cc_c (fun j => decide (f j = f i)) n := cc_has hi (decide_eq_true rfl)
  have h2 := h (fun x => decide (x = f i))
  rw [show cc_c (fun j => decide (f j = f i)) n = cc_c (fun j => decide (g j = f i)) n from h2] at h1
  obtain ⟨j, hj, e⟩ := cc_pos n h1
  exact ⟨j, hj, of_decide_eq_true e⟩
/-- of the same content as an ascending one: the number up to g i is the place of g i there, plus one -/
theorem cu_same_rank {f g : Nat → Int32} {n i : Nat} (ha : cu_asc f n) (h : cu_same f g n) (hi : i < n) : ∃ j, j < n ∧ f j = g i ∧ cu_to g n (g i) = j + 1 := by
  obtain ⟨j, hj, e⟩ := cu_same_mem (cu_same_symm h) hi
  refine ⟨j, hj, e, ?_⟩
  rw [← cu_same_to h, ← e, cu_rank ha hj]
/-! insertion -/
/-- the entries above k moved up by one, up to n -/
def cu_sh (f : Nat → Int32) (n k : Nat) : Nat → Int32 := fun i => if k < i ∧ i ≤ n then f (i - 1) else f i
theorem cu_sh0 (f : Nat → Int32) (n : Nat) : cu_sh f n n = f := by
  funext i
  exact if_neg (fun h => by omega)
theorem cu_shs (f : Nat → Int32) {n k : Nat} (hk : k + 1 ≤ n) : upd (cu_sh f n (k + 1)) (k + 1) (cu_sh f n (k + 1) k) = cu_sh f n k := by
  funext i
  unfold upd cu_sh
  by_cases e : i = k + 1
  · subst e
    rw [if_pos rfl, if_neg (by omega), if_pos (by omega)]
    rfl
  · rw [if_neg e]
    by_cases a : k + 1 < i ∧ i ≤ n
    · rw [if_pos a, if_pos (by omega)]
    · rw [if_neg a, if_neg (by omega)]
def cu_ins (f : Nat → Int32) (n p : Nat) (v : Int32) : Nat → Int32 := upd (cu_sh f n p) p v
theorem cu_ins_lo {f : Nat → Int32} {n p i : Nat} {v : Int32} (h : i < p) : cu_ins f n p v i = f i := by
  unfold cu_ins upd cu_sh
  rw [if_neg (by omega), if_neg (by omega)]
theorem cu_ins_at {f : Nat → Int32} {n p : Nat} {v : Int32} : cu_ins f n p v p = v := if_pos rfl
theorem cu_ins_hi {f : Nat → Int32} {n p i : Nat} {v : Int32} (h : p < i) (hn : i ≤ n) : cu_ins f n p v i = f (i - 1) := by
  unfold cu_ins upd cu_sh
  rw [if_neg (by omega), if_pos ⟨h, hn⟩]
theorem cu_ins_asc {f : Nat → Int32} {n p : Nat} {v : Int32} (ha : cu_asc f n) (hp : p ≤ n) (h1 : ∀ i, i < p → f i < v) (h2 : ∀ i, p ≤ i → i < n → v < f i) : cu_asc (cu_ins f n p v) (n + 1) := by
  intro i j hij hj
  by_cases a : i < p
  · rw [cu_ins_lo a]
    by_cases b : j < p
    · rw [cu_ins_lo b]; exact ha i j hij (by omega)
    · by_cases c : j = p
      · rw [c, cu_ins_at]; exact h1 i a
      · rw [cu_ins_hi (by omega) (by omega)]; exact ha i (j - 1) (by omega) (by omega)
  · by_cases c : i = p
    · rw [c, cu_ins_at, cu_ins_hi (by omega) (by omega)]; exact h2 (j - 1) (by omega) (by omega)
    · rw [cu_ins_hi (by omega) (by omega), cu_ins_hi (by omega) (by omega)]; exact ha (i - 1) (j - 1) (by omega) (by omega)
theorem cu_ins_n {f : Nat → Int32} {n p : Nat} {v : Int32} (q : Int32 → Bool) : ∀ d, p + d ≤ n → cc_c (fun i => q (cu_ins f n p v i)) (p + d + 1) = cc_c (fun i => q (f i)) (p + d) + (q v).toNat := by
  intro d
  induction d with
  | zero =>
    intro _
    rw [cc_s]
    show cc_c (fun i => q (cu_ins f n p v i)) p + (q (cu_ins f n p v p)).toNat = cc_c (fun i => q (f i)) p + (q v).toNat
    rw [cu_ins_at, cc_congr (q' := fun i => q (f i)) p (fun i hi => by show q (cu_ins f n p v i) = _; rw [cu_ins_lo hi])]
  | succ d ih =>
    intro h
    have e := ih (by omega)
    rw [← Nat.add_assoc, cc_s, e]
    show _ + (q (cu_ins f n p v (p + d + 1))).toNat = cc_c (fun i => q (f i)) (p + d) + (q (f (p + d))).toNat + _
    rw [cu_ins_hi (by omega) (by omega), show p + d + 1 - 1 = p + d from rfl]
    omega
theorem cu_app_n (g : Nat → Int32) (n : Nat) (v : Int32) (q : Int32 → Bool) : cc_c (fun i => q (upd g n v i)) (n + 1) = cc_c (fun i => q (g i)) n + (q v).toNat := by
  rw [cc_s]
  show cc_c (fun i => q (upd g n v i)) n + (q (upd g n v n)).toNat = _
  rw [pk_us, cc_congr (q' := fun i => q (g i)) n (fun i hi => by show q (upd g n v i) = _; rw [pk_un (by omega)])]
theorem cu_ins_same {f g : Nat → Int32} {n p : Nat} {v : Int32} (h : cu_same f g n) (hp : p ≤ n) : cu_same (cu_ins f n p v) (upd g n v) (n + 1) := by
  intro q
  have e := cu_ins_n (f := f) (n := n) (p := p) (v := v) q (n - p) (by omega)
  rw [show p + (n - p) = n from by omega] at e
  rw [e, cu_app_n, h q]
/-! removal -/
/-- the entries from k on moved down by one, those below m - 1 -/
def cu_rm (f : Nat → Int32) (k m : Nat) : Nat → Int32 := fun j => if k ≤ j ∧ j + 1 < m then f (j + 1) else f j
theorem cu_rm0 (f : Nat → Int32) (k : Nat) : cu_rm f k (k + 1) = f := by
  funext i
  exact if_neg (fun h => by omega)
theorem cu_rms (f : Nat → Int32) {k m : Nat} (h : k < m) : upd (cu_rm f k m) (m - 1) (cu_rm f k m m) = cu_rm f k (m + 1) := by
  funext j
  unfold upd cu_rm
  by_cases e : j = m - 1
  · subst e
    rw [if_pos rfl, if_neg (by omega), if_pos (by omega), show m - 1 + 1 = m from by omega]
  · rw [if_neg e]
    by_cases a : k ≤ j ∧ j + 1 < m
    · rw [if_pos a, if_pos (by omega)]
    · rw [if_neg a, if_neg (by omega)]
theorem cu_rm_lo {f : Nat → Int32} {k m j : Nat} (h : j < k) : cu_rm f k m j = f j := if_neg (fun z => by omega)
theorem cu_rm_hi {f : Nat → Int32} {k m j : Nat} (h : k ≤ j) (hm : j + 1 < m) : cu_rm f k m j = f (j + 1) := if_pos ⟨h, hm⟩
theorem cu_rm_asc {f : Nat → Int32} {k n : Nat} (ha : cu_asc f (n + 1)) : cu_asc (cu_rm f k (n + 1)) n := by
  intro i j hij hj
  by_cases a : i < k
  · rw [cu_rm_lo a]
    by_cases b : j < k
    · rw [cu_rm_lo b]; exact ha i j hij (by omega)
    · rw [cu_rm_hi (by omega) (by omega)]; exact ha i (j + 1) (by omega) (by omega)
  · rw [cu_rm_hi (by omega) (by omega), cu_rm_hi (by omega) (by omega)]; exact ha (i + 1) (j + 1) (by omega) (by omega)
theorem cu_rm_n {f : Nat → Int32} {k n : Nat} (q : Int32 → Bool) : ∀ d, k + d ≤ n → cc_c (fun i => q (cu_rm f k (n + 1) i)) (k + d) + (q (f k)).toNat = cc_c (fun i => q (f i)) (k + d + 1) := by
  intro d
  induction d with
  | zero =>
    intro _
    rw [cc_s]
    show cc_c (fun i => q (cu_rm f k (n + 1) i)) k + _ = cc_c (fun i => q (f i)) k + _
    rw [cc_congr (q' := fun i => q (f i)) k (fun i hi => by show q (cu_rm f k (n + 1) i) = _; rw [cu_rm_lo hi])]
  | succ d ih =>
    intro h
    have e := ih (by omega)
    rw [← Nat.add_assoc, cc_s, cc_s, ← e]
    show _ + (q (cu_rm f k (n + 1) (k + d))).toNat + _ = _ + (q (f (k + d + 1))).toNat
    rw [cu_rm_hi (by omega) (by omega)]
    omega
/-- the last entry put in the place of the one that goes -/
theorem cu_last_n (g : Nat → Int32) {n a : Nat} (h : a ≤ n) (q : Int32 → Bool) : cc_c (fun i => q (upd g a (g n) i)) n + (q (g a)).toNat = cc_c (fun i => q (g i)) (n + 1) := by
  rw [cc_s]
  by_cases e : a = n
  · subst e
    rw [cc_congr (q' := fun i => q (g i)) a (fun i hi => by show q (upd g a (g a) i) = _; rw [pk_un (by omega)])]
  · have h1 := cc_one (q := fun i => q (g i)) (q' := fun i => q (upd g a (g n) i)) (j := a) n (by omega) (fun i _ hn => by show q (upd g a (g n) i) = q (g i); rw [pk_un hn])
    rw [show (q (upd g a (g n) a)) = q (g n) from by rw [pk_us]] at h1
    exact h1
theorem cu_rm_same {f g : Nat → Int32} {k n a : Nat} (h : cu_same f g (n + 1)) (hk : k ≤ n) (hn : a ≤ n) (e : g a = f k) : cu_same (cu_rm f k (n + 1)) (upd g a (g n)) n := by
  intro q
  have h1 := cu_rm_n (f := f) (k := k) (n := n) q (n - k) (by omega)
  rw [show k + (n - k) = n from by omega] at h1
  have h2 := cu_last_n g hn q
  have h3 := h q
  rw [e] at h2
  omega
