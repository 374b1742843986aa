/-! the rows: state and value by id -/
def ro_in (lo hi x : Int32) : Bool := decide (lo ≤ x) && decide (x < hi)
def ro_two (a b s : Int32) : Bool := decide (s = a) || decide (s = b)
theorem ro_in_t {lo hi x : Int32} (h1 : lo ≤ x) (h2 : x < hi) : ro_in lo hi x = true := by
  unfold ro_in; rw [decide_eq_true h1, decide_eq_true h2]; rfl
theorem ro_in_f1 {lo hi x : Int32} (h1 : ¬ lo ≤ x) : ro_in lo hi x = false := by
  unfold ro_in; rw [decide_eq_false h1]; rfl
theorem ro_in_f2 {lo hi x : Int32} (h2 : ¬ x < hi) : ro_in lo hi x = false := by
  unfold ro_in; rw [decide_eq_false h2, Bool.and_false]
theorem ro_two_a {a b s : Int32} (h : s = a) : ro_two a b s = true := by
  unfold ro_two; rw [decide_eq_true h]; rfl
theorem ro_two_b {a b s : Int32} (h : s = b) : ro_two a b s = true := by
  unfold ro_two; rw [decide_eq_true h, Bool.or_true]
theorem ro_two_f {a b s : Int32} (h1 : ¬ s = a) (h2 : ¬ s = b) : ro_two a b s = false := by
  unfold ro_two; rw [decide_eq_false h1, decide_eq_false h2]; rfl
theorem ro_two_or {a b s : Int32} (h : ro_two a b s = true) : s = a ∨ s = b := by
  by_cases h1 : s = a
  · exact Or.inl h1
  · by_cases h2 : s = b
    · exact Or.inr h2
    · rw [ro_two_f h1 h2] at h; exact absurd h (by decide)
/-- how many rows are pending -/
def ro_np (st : Nat → Int32) (n : Nat) : Nat := cc_c (fun i => ro_two 1 3 (st i)) n
/-- what a select makes of a row's state and value -/
def ro_as (lo hi s x : Int32) : Int32 := if ro_in lo hi x = true then (if s = 1 then 2 else if s = 3 then 0 else s) else s
def ro_av (lo hi s x : Int32) : Int32 := if ro_in lo hi x = true ∧ s = 3 then 0 else x
def ro_S (lo hi : Int32) (st va : Nat → Int32) (m : Nat) : Nat → Int32 := fun i => if i < m then ro_as lo hi (st i) (va i) else st i
def ro_V (lo hi : Int32) (st va : Nat → Int32) (m : Nat) : Nat → Int32 := fun i => if i < m then ro_av lo hi (st i) (va i) else va i
theorem ro_S0 (lo hi : Int32) (st va : Nat → Int32) : ro_S lo hi st va 0 = st := by
  funext i; exact if_neg (Nat.not_lt_zero i)
theorem ro_V0 (lo hi : Int32) (st va : Nat → Int32) : ro_V lo hi st va 0 = va := by
  funext i; exact if_neg (Nat.not_lt_zero i)
theorem ro_S_at (lo hi : Int32) (st va : Nat → Int32) (m : Nat) : ro_S lo hi st va m m = st m := if_neg (Nat.lt_irrefl m)
theorem ro_V_at (lo hi : Int32) (st va : Nat → Int32) (m : Nat) : ro_V lo hi st va m m = va m := if_neg (Nat.lt_irrefl m)
theorem ro_S_lt {lo hi : Int32} {st va : Nat → Int32} {m i : Nat} (h : i < m) : ro_S lo hi st va m i = ro_as lo hi (st i) (va i) := if_pos h
theorem ro_V_lt {lo hi : Int32} {st va : Nat → Int32} {m i : Nat} (h : i < m) : ro_V lo hi st va m i = ro_av lo hi (st i) (va i) := if_pos h
theorem ro_Ss {lo hi : Int32} {st va : Nat → Int32} {m : Nat} {s : Int32} (h : ro_as lo hi (st m) (va m) = s) : upd (ro_S lo hi st va m) m s = ro_S lo hi st va (m + 1) := by
  funext i
  unfold upd ro_S
  by_cases e : i = m
  · rw [if_pos e, if_pos (by omega), e, h]
  · rw [if_neg e]
    by_cases a : i < m
    · rw [if_pos a, if_pos (by omega)]
    · rw [if_neg a, if_neg (by omega)]
theorem ro_Vs {lo hi : Int32} {st va : Nat → Int32} {m : Nat} {s : Int32} (h : ro_av lo hi (st m) (va m) = s) : upd (ro_V lo hi st va m) m s = ro_V lo hi st va (m + 1) := by
  funext i
  unfold upd ro_V
  by_cases e : i = m
  · rw [if_pos e, if_pos (by omega), e, h]
  · rw [if_neg e]
    by_cases a : i < m
    · rw [if_pos a, if_pos (by omega)]
    · rw [if_neg a, if_neg (by omega)]
theorem ro_upd_self (f : Nat → Int32) (m : Nat) : upd f m (f m) = f := by
  funext i
  unfold upd
  by_cases e : i = m
  · rw [if_pos e, e]
  · rw [if_neg e]
theorem ro_Sk {lo hi : Int32} {st va : Nat → Int32} {m : Nat} (h : ro_as lo hi (st m) (va m) = st m) : ro_S lo hi st va m = ro_S lo hi st va (m + 1) := by
  have e := ro_Ss h
  rw [← ro_S_at lo hi st va m, ro_upd_self] at e
  exact e
theorem ro_Vk {lo hi : Int32} {st va : Nat → Int32} {m : Nat} (h : ro_av lo hi (st m) (va m) = va m) : ro_V lo hi st va m = ro_V lo hi st va (m + 1) := by
  have e := ro_Vs h
  rw [← ro_V_at lo hi st va m, ro_upd_self] at e
  exact e
theorem ro_as_out {lo hi s x : Int32} (h : ro_in lo hi x = false) : ro_as lo hi s x = s := by
  unfold ro_as; rw [h]; exact if_neg (by decide)
theorem ro_av_out {lo hi s x : Int32} (h : ro_in lo hi x = false) : ro_av lo hi s x = x := by
  unfold ro_av; rw [h]; exact if_neg (fun z => absurd z.1 (by decide))
theorem ro_as_1 {lo hi s x : Int32} (h : ro_in lo hi x = true) (e : s = 1) : ro_as lo hi s x = 2 := by
  unfold ro_as; rw [if_pos h, if_pos e]
theorem ro_as_3 {lo hi s x : Int32} (h : ro_in lo hi x = true) (e : s = 3) : ro_as lo hi s x = 0 := by
  unfold ro_as; rw [if_pos h, if_neg (by rw [e]; decide), if_pos e]
theorem ro_as_e {lo hi s x : Int32} (e1 : ¬ s = 1) (e3 : ¬ s = 3) : ro_as lo hi s x = s := by
  unfold ro_as
  by_cases h : ro_in lo hi x = true
  · rw [if_pos h, if_neg e1, if_neg e3]
  · rw [if_neg h]
theorem ro_av_3 {lo hi s x : Int32} (h : ro_in lo hi x = true) (e : s = 3) : ro_av lo hi s x = 0 := if_pos ⟨h, e⟩
theorem ro_av_e {lo hi s x : Int32} (e : ¬ s = 3) : ro_av lo hi s x = x := if_neg (fun z => e z.2)
theorem ro_nt {b : Bool} (h : ¬ b = true) : b = false := by
  cases b with
  | false => rfl
  | true => exact absurd rfl h
/-- behind a select no row in the range is ADDED -/
theorem ro_no1 {lo hi s x : Int32} (h : ro_in lo hi (ro_av lo hi s x) = true) : ¬ ro_as lo hi s x = 1 := by
  by_cases i : ro_in lo hi x = true
  · by_cases e1 : s = 1
    · rw [ro_as_1 i e1]; decide
    · by_cases e3 : s = 3
      · rw [ro_as_3 i e3]; decide
      · rw [ro_as_e e1 e3]; exact e1
  · rw [ro_av_out (ro_nt i)] at h
    exact absurd h i
theorem ro_free {lo hi s x : Int32} (h : s = 0 → x = 0) (e : ro_as lo hi s x = 0) : ro_av lo hi s x = 0 := by
  by_cases i : ro_in lo hi x = true
  · by_cases e1 : s = 1
    · rw [ro_as_1 i e1] at e; exact absurd e (by decide)
    · by_cases e3 : s = 3
      · exact ro_av_3 i e3
      · rw [ro_as_e e1 e3] at e; rw [ro_av_e e3]; exact h e
  · rw [ro_as_out (ro_nt i)] at e
    rw [ro_av_out (ro_nt i)]; exact h e
theorem ro_av_or (lo hi s x : Int32) : ro_av lo hi s x = 0 ∨ ro_av lo hi s x = x := by
  unfold ro_av
  by_cases h : ro_in lo hi x = true ∧ s = 3
  · exact Or.inl (if_pos h)
  · exact Or.inr (if_neg h)
theorem ro_pen {lo hi s x : Int32} (h : ro_two 1 3 (ro_as lo hi s x) = true) : ro_two 1 3 s = true := by
  by_cases i : ro_in lo hi x = true
  · by_cases e1 : s = 1
    · exact ro_two_a e1
    · by_cases e3 : s = 3
      · exact ro_two_b e3
      · rw [ro_as_e e1 e3] at h; exact h
  · rw [ro_as_out (ro_nt i)] at h; exact h
/-- the sum of the values of those that q takes -/
def ro_T (q : Nat → Bool) (va : Nat → Int32) : Nat → Int64
  | 0 => 0
  | n + 1 => if q n = true then ro_T q va n + (va n).toInt64 else ro_T q va n
theorem ro_Tt {q : Nat → Bool} {va : Nat → Int32} {n : Nat} (h : q n = true) : ro_T q va (n + 1) = ro_T q va n + (va n).toInt64 := if_pos h
theorem ro_Tf {q : Nat → Bool} {va : Nat → Int32} {n : Nat} (h : q n = false) : ro_T q va (n + 1) = ro_T q va n := if_neg (by rw [h]; decide)
theorem ro_Tc {q q' : Nat → Bool} {va : Nat → Int32} : ∀ n, (∀ i, i < n → q i = q' i) → ro_T q va n = ro_T q' va n := by
  intro n
  induction n with
  | zero => intro _; rfl
  | succ n ih =>
    intro h
    have e := ih (fun i hi => h i (by omega))
    cases z : q' n with
    | true => rw [ro_Tt z, ro_Tt ((h n (by omega)).trans z), e]
    | false => rw [ro_Tf z, ro_Tf ((h n (by omega)).trans z), e]
/-- ri lists, in order, those below m that q takes -/
def ro_R (ri : Nat → Int32) (q : Nat → Bool) (m : Nat) : Prop := ∀ i, i < m → q i = true → ri (cc_c q i) = nI i
theorem ro_R0 {ri : Nat → Int32} {q : Nat → Bool} : ro_R ri q 0 := fun i hi => absurd hi (Nat.not_lt_zero i)
theorem ro_Rt {ri : Nat → Int32} {q : Nat → Bool} {m : Nat} (h : ro_R ri q m) (e : q m = true) : ro_R (upd ri (cc_c q m) (nI m)) q (m + 1) := by
  intro i hi hq
  by_cases a : i = m
  · rw [a, pk_us]
  · rw [pk_un (fun z => a (cc_inj hq e z))]
    exact h i (by omega) hq
theorem ro_Rf {ri : Nat → Int32} {q : Nat → Bool} {m : Nat} (h : ro_R ri q m) (e : q m = false) : ro_R ri q (m + 1) := by
  intro i hi hq
  by_cases a : i = m
  · rw [a, e] at hq; exact absurd hq (by decide)
  · exact h i (by omega) hq
theorem ro_Rc {ri : Nat → Int32} {q q' : Nat → Bool} {m : Nat} (h : ro_R ri q m) (e : ∀ i, i < m → q' i = q i) : ro_R ri q' m := by
  intro i hi hq
  rw [cc_congr (q := q') (q' := q) i (fun j hj => e j (by omega))]
  exact h i hi ((e i hi).symm.trans hq)
/-! one row changed -/
theorem ro_np_upd {st : Nat → Int32} {j n : Nat} {s : Int32} (hj : j < n) : ro_np (upd st j s) n + (ro_two 1 3 (st j)).toNat = ro_np st n + (ro_two 1 3 s).toNat := by
  have h := cc_one (q := fun i => ro_two 1 3 (st i)) (q' := fun i => ro_two 1 3 (upd st j s i)) (j := j) n hj (fun i _ hn => by show ro_two 1 3 (upd st j s i) = ro_two 1 3 (st i); rw [pk_un hn])
  rw [show ro_two 1 3 (upd st j s j) = ro_two 1 3 s from by rw [pk_us]] at h
  exact h
theorem ro_np_S {lo hi : Int32} {st va : Nat → Int32} {n : Nat} : ro_np (ro_S lo hi st va n) n ≤ ro_np st n :=
  cc_mono n (fun i hd h => by
    have h' : ro_two 1 3 (ro_S lo hi st va n i) = true := h
    rw [ro_S_lt hd] at h'
    exact ro_pen h')
