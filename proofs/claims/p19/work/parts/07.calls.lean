/-! the class's invariant, and each storing call as one answer and one new state -/
def mi_K (R P C n : Nat) (st cu : Nat → Int32) : Prop := (4 ≤ R ∧ R ≤ 32) ∧ (1 ≤ P ∧ P ≤ 16) ∧ (1 ≤ C ∧ C ≤ 16) ∧ n ≤ C ∧ ro_np st R ≤ P ∧ cu_asc cu n
section
variable {R P C n : Nat} {st va cu : Nat → Int32}
theorem mi_least (st : Nat → Int32) : ∀ R, (∀ j, j < R → ¬ st j = 0) ∨ ∃ j, j < R ∧ st j = 0 ∧ ∀ i, i < j → ¬ st i = 0 := by
  intro R
  induction R with
  | zero => exact Or.inl (fun j hj => absurd hj (Nat.not_lt_zero j))
  | succ R ih =>
    cases ih with
    | inr h =>
      obtain ⟨j, hj, a, b⟩ := h
      exact Or.inr ⟨j, by omega, a, b⟩
    | inl h =>
      by_cases e : st R = 0
      · exact Or.inr ⟨R, by omega, e, h⟩
      · exact Or.inl (lt_s (p := fun j => ¬ st j = 0) h e)
theorem mi_uniq {i j : Nat} (e0 : st j = 0) (hm : ∀ i, i < j → ¬ st i = 0) (f0 : st i = 0) (hl : ∀ l, l < i → ¬ st l = 0) : i = j := by
  rcases Nat.lt_trichotomy i j with a | a | a
  · exact absurd f0 (hm i a)
  · exact a
  · exact absurd e0 (hl j a)
theorem mi_insert (va : Nat → Int32) (K : mi_K R P C n st cu) (v : Int32) : ∃ (r : Int32) (st' va' : Nat → Int32), mi_K R P C n st' cu ∧ ∀ (post : Int32 → St2 → Prop) (fs : Int32) (ft : Int64) (ri : Nat → Int32), post r (nI R, nI P, nI C, nI n, fs, ft, st', va', cu, ri) → wpX_insert post (nI R, nI P, nI C, nI n, fs, ft, st, va, cu, ri) v := by
  have K' := K
  obtain ⟨hR, hP, hC, hn, hp, ha⟩ := K'
  by_cases e : v = 2147483647
  · exact ⟨-2, st, va, K, fun post fs ft ri h => xw_insert hR.2 hP.2 (fun _ => h) (fun ne => absurd e ne) (fun _ ne => absurd e ne) (fun _ ne => absurd e ne)⟩
  · cases mi_least st R with
    | inl hf => exact ⟨-3, st, va, K, fun post fs ft ri h => xw_insert hR.2 hP.2 (fun z => absurd z e) (fun _ _ => h) (fun j _ hj e0 => absurd e0 (hf j hj)) (fun j _ hj e0 => absurd e0 (hf j hj))⟩
    | inr hf =>
      obtain ⟨j, hj, e0, hm⟩ := hf
      by_cases hq : ro_np st R < P
      · refine ⟨nI j, upd st j 1, upd va j v, ⟨hR, hP, hC, hn, ?_, ha⟩, fun post fs ft ri h => xw_insert hR.2 hP.2 (fun z => absurd z e) (fun _ z => absurd e0 (z j hj)) (fun _ _ _ _ _ z => absurd z (by omega)) (fun i _ hi f0 hl _ => ?_)⟩
        · have q := ro_np_upd (st := st) (j := j) (n := R) (s := 1) hj
          rw [e0, show ro_two 1 3 0 = false from by decide, show ro_two 1 3 1 = true from by decide, Bool.toNat_false, Bool.toNat_true] at q
          omega
        · rw [mi_uniq e0 hm f0 hl]; exact h
      · exact ⟨-4, st, va, K, fun post fs ft ri h => xw_insert hR.2 hP.2 (fun z => absurd z e) (fun _ z => absurd e0 (z j hj)) (fun _ _ _ _ _ _ => h) (fun _ _ _ _ _ z => absurd z hq)⟩
theorem mi_delete (va : Nat → Int32) (K : mi_K R P C n st cu) (x : Int32) : ∃ (r : Int32) (st' va' : Nat → Int32), mi_K R P C n st' cu ∧ ∀ (post : Int32 → St2 → Prop) (fs : Int32) (ft : Int64) (ri : Nat → Int32), post r (nI R, nI P, nI C, nI n, fs, ft, st', va', cu, ri) → wpX_delete post (nI R, nI P, nI C, nI n, fs, ft, st, va, cu, ri) x := by
  have K' := K
  obtain ⟨hR, hP, hC, hn, hp, ha⟩ := K'
  rcases pk_ix x (n := R) (by omega) with a | a | ⟨j, hj, rfl⟩
  · exact ⟨-5, st, va, K, fun post fs ft ri h => xw_delete_out (Or.inl a) h⟩
  · exact ⟨-5, st, va, K, fun post fs ft ri h => xw_delete_out (Or.inr a) h⟩
  · by_cases e1 : st j = 1
    · refine ⟨0, upd st j 0, upd va j 0, ⟨hR, hP, hC, hn, ?_, ha⟩, fun post fs ft ri h => xw_delete_in hR.2 hP.2 hj (fun _ => h) (fun z => absurd (e1.symm.trans z) (by decide)) (fun z => absurd (e1.symm.trans z) (by decide)) (fun z => absurd e1 z)⟩
      have q := ro_np_upd (st := st) (j := j) (n := R) (s := 0) hj
      rw [e1, show ro_two 1 3 0 = false from by decide, show ro_two 1 3 1 = true from by decide, Bool.toNat_false, Bool.toNat_true] at q
      omega
    · by_cases e2 : st j = 2
      · by_cases hq : ro_np st R < P
        · refine ⟨0, upd st j 3, va, ⟨hR, hP, hC, hn, ?_, ha⟩, fun post fs ft ri h => xw_delete_in hR.2 hP.2 hj (fun z => absurd z e1) (fun _ _ => h) (fun _ z => absurd z (by omega)) (fun _ z => absurd e2 z)⟩
          have q := ro_np_upd (st := st) (j := j) (n := R) (s := 3) hj
          rw [e2, show ro_two 1 3 2 = false from by decide, show ro_two 1 3 3 = true from by decide, Bool.toNat_false, Bool.toNat_true] at q
          omega
        · exact ⟨-4, st, va, K, fun post fs ft ri h => xw_delete_in hR.2 hP.2 hj (fun z => absurd z e1) (fun _ z => absurd z hq) (fun _ _ => h) (fun _ z => absurd e2 z)⟩
      · exact ⟨-5, st, va, K, fun post fs ft ri h => xw_delete_in hR.2 hP.2 hj (fun z => absurd z e1) (fun z => absurd z e2) (fun z => absurd z e2) (fun _ _ => h)⟩
theorem mi_restore (va : Nat → Int32) (K : mi_K R P C n st cu) (x : Int32) : ∃ (r : Int32) (st' : Nat → Int32), mi_K R P C n st' cu ∧ ∀ (post : Int32 → St2 → Prop) (fs : Int32) (ft : Int64) (ri : Nat → Int32), post r (nI R, nI P, nI C, nI n, fs, ft, st', va, cu, ri) → wpX_restore post (nI R, nI P, nI C, nI n, fs, ft, st, va, cu, ri) x := by
  have K' := K
  obtain ⟨hR, hP, hC, hn, hp, ha⟩ := K'
  rcases pk_ix x (n := R) (by omega) with a | a | ⟨j, hj, rfl⟩
  · exact ⟨-5, st, K, fun post fs ft ri h => xw_restore_out (Or.inl a) h⟩
  · exact ⟨-5, st, K, fun post fs ft ri h => xw_restore_out (Or.inr a) h⟩
  · by_cases e3 : st j = 3
    · refine ⟨0, upd st j 2, ⟨hR, hP, hC, hn, ?_, ha⟩, fun post fs ft ri h => xw_restore_in hR.2 hj (fun _ => h) (fun z => absurd e3 z)⟩
      have q := ro_np_upd (st := st) (j := j) (n := R) (s := 2) hj
      rw [e3, show ro_two 1 3 2 = false from by decide, show ro_two 1 3 3 = true from by decide, Bool.toNat_false, Bool.toNat_true] at q
      omega
    · exact ⟨-5, st, K, fun post fs ft ri h => xw_restore_in hR.2 hj (fun z => absurd z e3) (fun _ => h)⟩
theorem mi_forget (va : Nat → Int32) (K : mi_K R P C n st cu) (x : Int32) : ∃ (r : Int32) (n' : Nat) (cu' : Nat → Int32), mi_K R P C n' st cu' ∧ ∀ (post : Int32 → St2 → Prop) (fs : Int32) (ft : Int64) (ri : Nat → Int32), post r (nI R, nI P, nI C, nI n', fs, ft, st, va, cu', ri) → wpX_forgetCut post (nI R, nI P, nI C, nI n, fs, ft, st, va, cu, ri) x := by
  have K' := K
  obtain ⟨hR, hP, hC, hn, hp, ha⟩ := K'
  rcases pk_ix x (n := n) (by omega) with a | a | ⟨j, hj, rfl⟩
  · exact ⟨-7, n, cu, K, fun post fs ft ri h => xw_forgetCut_out (Or.inl a) h⟩
  · exact ⟨-7, n, cu, K, fun post fs ft ri h => xw_forgetCut_out (Or.inr a) h⟩
  · refine ⟨0, n - 1, cu_rm cu j n, ⟨hR, hP, hC, by omega, hp, ?_⟩, fun post fs ft ri h => xw_forgetCut_in (by omega) hj h⟩
    obtain ⟨m, rfl⟩ : ∃ m, n = m + 1 := ⟨n - 1, by omega⟩
    exact cu_rm_asc ha
theorem mi_sel (lo hi : Int32) (va : Nat → Int32) (K : mi_K R P C n st cu) : mi_K R P C (cu_N C (cu_F C cu n lo) (cu_N C cu n lo) hi) (ro_S lo hi st va R) (cu_F C (cu_F C cu n lo) (cu_N C cu n lo) hi) := by
  obtain ⟨hR, hP, hC, hn, hp, ha⟩ := K
  exact ⟨hR, hP, hC, cu_N_le (cu_N_le hn), Nat.le_trans ro_np_S hp, cu_F_asc (cu_F_asc ha)⟩
theorem mi_state {fs : Int32} {ft : Int64} {ri : Nat → Int32} {post : Int32 → Prop} (hR : R ≤ 32) (x : Int32) (h : ∀ r, post r) : wpX_rowState post (nI R, nI P, nI C, nI n, fs, ft, st, va, cu, ri) x := by
  rcases pk_ix x (n := R) (by omega) with a | a | ⟨j, hj, rfl⟩
  · exact xw_rowState_out (Or.inl a) (h _)
  · exact xw_rowState_out (Or.inr a) (h _)
  · exact xw_rowState_in hR hj (h _)
theorem mi_count {fs : Int32} {ft : Int64} {ri : Nat → Int32} {post : Int32 → Prop} {lo hi : Int32} (hR : R ≤ 32) (h : ∀ r, post r) : wpX_count post (nI R, nI P, nI C, nI n, fs, ft, st, va, cu, ri) lo hi :=
  xw_count (q := fun i => ro_two 1 2 (st i) && ro_in lo hi (va i)) hR (fun _ _ => rfl) (fun _ => h _) (fun _ => h _)
end
/-! the law's own helpers -/
theorem mi_cell {post : Int32 → Prop} {L : Nat} {xs : Nat → Int32} {p : Nat} (hL : L ≤ 260) (hp : p < 2 ^ 31) (h : ∀ r, post r) : wpL_cell post L xs () (nI p) :=
  pk_le L p (fun _ => h _) (fun z => ⟨pk_in p L z, h _⟩)
theorem mi_val (c : Int32) : ∃ r : Int32, ∀ post : Int32 → Prop, post r → wpL_val post () c := by
  unfold wpL_val
  by_cases h : (((c.toUInt32 >>> ((5 : Int32).toUInt32 &&& Int32.toUInt32 31)).toInt32) &&& 7) = 7
  · exact ⟨c, fun post p => br_t h p⟩
  · by_cases a : (26 : Int32) ≤ c &&& 31
    · by_cases a0 : c &&& 31 = 26
      · exact ⟨_, fun post p => br_f h (nm_e (br_t a (br_t a0 p)))⟩
      · by_cases a1 : c &&& 31 = 27
        · exact ⟨_, fun post p => br_f h (nm_e (br_t a (br_f a0 (br_t a1 p))))⟩
        · by_cases a2 : c &&& 31 = 28
          · exact ⟨_, fun post p => br_f h (nm_e (br_t a (br_f a0 (br_f a1 (br_t a2 p)))))⟩
          · by_cases a3 : c &&& 31 = 29
            · exact ⟨_, fun post p => br_f h (nm_e (br_t a (br_f a0 (br_f a1 (br_f a2 (br_t a3 p))))))⟩
            · by_cases a4 : c &&& 31 = 30
              · exact ⟨_, fun post p => br_f h (nm_e (br_t a (br_f a0 (br_f a1 (br_f a2 (br_f a3 (br_t a4 p)))))))⟩
              · exact ⟨_, fun post p => br_f h (nm_e (br_t a (br_f a0 (br_f a1 (br_f a2 (br_f a3 (br_f a4 p)))))))⟩
    · exact ⟨_, fun post p => br_f h (nm_e (br_f a p))⟩
theorem mi_mod {post : Int32 → Prop} {c m : Int32} (hm : ¬ m = 0) (h : ∀ r, post r) : wpL_mod post () c m := ⟨hm, h _⟩
