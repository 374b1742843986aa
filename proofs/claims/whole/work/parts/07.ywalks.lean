/-! Y's walks -/
theorem ro_all {x : Int32} (h : ¬ x = 2147483647) : ro_in (-2147483648) 2147483647 x = true := by
  have a := Int32.le_toInt x
  have b := Int32.toInt_lt x
  have e1 : (-2147483648 : Int32).toInt = -2147483648 := by decide
  have e2 : (2147483647 : Int32).toInt = 2147483647 := by decide
  refine ro_in_t ?_ ?_
  · rw [Int32.le_iff_toInt_le, e1]; omega
  · rw [Int32.lt_iff_toInt_lt, e2]
    have c : ¬ x.toInt = 2147483647 := fun z => h (Int32.toInt_inj.mp (by rw [z, e2]))
    omega
section
variable {R P C n : Nat} {fr fp fc fn : Int32} {fs : Int64} {st va ir cu : Nat → Int32}
theorem yl_count {post : Int32 → Prop} {a b lo hi : Int32} {q : Nat → Bool} (hR : R ≤ 32) (hq : ∀ i, i < R → (ro_two a b (st i) && ro_in lo hi (va i)) = q i) (h : post (nI (cc_c q R))) : ∀ d i, i + d = R → wY_countIn_6 post a b lo hi (nI R) fp fc fs fn st va ir cu (d + 1) (nI (cc_c q i)) (nI i) := by
  intro d
  induction d with
  | zero =>
    intro i hd
    obtain rfl : i = R := by omega
    exact pk_le i i (fun _ => h) (fun z => absurd z (by omega))
  | succ d ih =>
    intro i hd
    have t := ih (i + 1) (by omega)
    have c : (nI i).toNatClampNeg = i := nI_clamp (by omega)
    have Q := hq i (by omega)
    have join : ro_two a b (st i) = true → wY_countIn_37 post (wY_countIn_6 post a b lo hi (nI R) fp fc fs fn st va ir cu (d + 1)) a b lo hi (nI (cc_c q i)) (nI i) (nI R) fp fc fs fn st va ir cu := by
      intro z
      rw [z] at Q
      refine ⟨pk_in i 32 (by omega), br_c (fun e => nm_r (nI_1 i) ?_) (fun e => ⟨pk_in i 32 (by omega), br_c (fun e2 => nm_r (nI_1 i) ?_) (fun e2 => nm_r ?_ (nm_r (nI_1 i) t))⟩)⟩
      · rw [c] at e
        rw [ro_in_f1 (Int32.not_le.mpr e)] at Q
        rw [cc_nf (q := q) Q.symm]; exact t
      · rw [c] at e2
        rw [ro_in_f2 (Int32.not_lt.mpr e2)] at Q
        rw [cc_nf (q := q) Q.symm]; exact t
      · rw [c] at e e2
        rw [ro_in_t (Int32.not_lt.mp e) (Int32.not_le.mp e2)] at Q
        exact cc_nt Q.symm
    refine pk_le R i (fun z => absurd z (by omega)) (fun _ => ⟨pk_in i 32 (by omega), br_c (fun e => join ?_) (fun e => ⟨pk_in i 32 (by omega), br_c (fun e2 => join ?_) (fun e2 => nm_r (nI_1 i) ?_)⟩)⟩)
    · rw [c] at e; exact ro_two_a e
    · rw [c] at e2; exact ro_two_b e2
    · rw [c] at e e2
      rw [ro_two_f e e2] at Q
      rw [cc_nf (q := q) Q.symm]; exact t
theorem yw_countIn {post : Int32 → Prop} {a b lo hi : Int32} {q : Nat → Bool} (hR : R ≤ 32) (hq : ∀ i, i < R → (ro_two a b (st i) && ro_in lo hi (va i)) = q i) (h : post (nI (cc_c q R))) : wpY_countIn post (nI R, fp, fc, fs, fn, st, va, ir, cu) a b lo hi :=
  ⟨R + 1, yl_count hR hq h R 0 (by omega)⟩
theorem yw_np {post : Int32 → Prop} (hR : R ≤ 32) (hv : ∀ i, i < R → ¬ va i = 2147483647) (h : post (nI (ro_np st R))) : wpY_pendingCount post (nI R, fp, fc, fs, fn, st, va, ir, cu) := by
  unfold wpY_pendingCount
  dsimp only
  exact yw_countIn (q := fun i => ro_two 1 3 (st i)) hR (fun i hi => by rw [ro_all (hv i hi), Bool.and_true]) h
theorem yw_ns {post : Int32 → Prop} {q : Nat → Bool} (hR : R ≤ 32) (hv : ∀ i, i < R → ¬ va i = 2147483647) (hq : ∀ i, i < R → ro_two 2 3 (st i) = q i) (h : post (nI (cc_c q R))) : wpY_storedCount post (nI R, fp, fc, fs, fn, st, va, ir, cu) := by
  unfold wpY_storedCount
  dsimp only
  exact yw_countIn hR (fun i hi => by rw [ro_all (hv i hi), Bool.and_true]; exact hq i hi) h
theorem yw_count {post : Int32 → Prop} {lo hi : Int32} {q : Nat → Bool} (hR : R ≤ 32) (hq : ∀ i, i < R → (ro_two 1 2 (st i) && ro_in lo hi (va i)) = q i) (h0 : ¬ lo < hi → post (-6)) (h : lo < hi → post (nI (cc_c q R))) : wpY_count post (nI R, fp, fc, fs, fn, st, va, ir, cu) lo hi := by
  unfold wpY_count
  dsimp only
  exact br_c (fun e => yw_countIn hR hq (h e)) h0
theorem yl_insert {post : Int32 → SY → Prop} {v : Int32} (hR : R ≤ 32) (hP : P ≤ 16) (hv : ∀ i, i < R → ¬ va i = 2147483647)
    (h2 : (∀ j, j < R → ¬ st j = 0) → post (-3) (nI R, nI P, fc, fs, fn, st, va, ir, cu))
    (h3 : ∀ j, j < R → st j = 0 → (∀ i, i < j → ¬ st i = 0) → ro_np st R = P → post (-4) (nI R, nI P, fc, fs, fn, st, va, ir, cu))
    (h4 : ∀ j, j < R → st j = 0 → (∀ i, i < j → ¬ st i = 0) → ro_np st R ≠ P → post (nI j) (nI R, nI P, fc, fs, fn, upd st j 1, upd va j v, ir, cu)) :
    ∀ d i, i + d = R → (∀ j, j < i → ¬ st j = 0) → wY_insert_11 post v (nI R) (nI P) fc fs fn st va ir cu (d + 1) (nI i) := by
  intro d
  induction d with
  | zero =>
    intro i hd hm
    obtain rfl : i = R := by omega
    exact pk_le i i (fun _ => h2 hm) (fun z => absurd z (by omega))
  | succ d ih =>
    intro i hd hm
    have c : (nI i).toNatClampNeg = i := nI_clamp (by omega)
    have hl := cc_le (fun i => ro_two 1 3 (st i)) R
    refine pk_le R i (fun z => absurd z (by omega)) (fun _ => ⟨pk_in i 32 (by omega), br_c (fun e => yw_np hR hv ?_) (fun e => nm_r (nI_1 i) (ih (i + 1) (by omega) ?_))⟩)
    · rw [c] at e
      refine pk_eq (ro_np st R) P (fun z => h3 i (by omega) e hm z) (fun z => ⟨pk_in i 32 (by omega), nm_r (by rw [c]) ⟨pk_in i 32 (by omega), nm_r (by rw [c]) (h4 i (by omega) e hm z)⟩⟩) rfl rfl ?_ (by omega)
      show cc_c (fun i => ro_two 1 3 (st i)) R < 2 ^ 31
      omega
    · rw [c] at e; exact lt_s (p := fun j => ¬ st j = 0) hm e
theorem yw_insert {post : Int32 → SY → Prop} {v : Int32} (hR : R ≤ 32) (hP : P ≤ 16) (hv : ∀ i, i < R → ¬ va i = 2147483647)
    (h1 : v = 2147483647 → post (-2) (nI R, nI P, fc, fs, fn, st, va, ir, cu))
    (h2 : ¬ v = 2147483647 → (∀ j, j < R → ¬ st j = 0) → post (-3) (nI R, nI P, fc, fs, fn, st, va, ir, cu))
    (h3 : ∀ j, ¬ v = 2147483647 → j < R → st j = 0 → (∀ i, i < j → ¬ st i = 0) → ro_np st R = P → post (-4) (nI R, nI P, fc, fs, fn, st, va, ir, cu))
    (h4 : ∀ j, ¬ v = 2147483647 → j < R → st j = 0 → (∀ i, i < j → ¬ st i = 0) → ro_np st R ≠ P → post (nI j) (nI R, nI P, fc, fs, fn, upd st j 1, upd va j v, ir, cu)) :
    wpY_insert post (nI R, nI P, fc, fs, fn, st, va, ir, cu) v :=
  br_c h1 (fun e => ⟨R + 1, yl_insert hR hP hv (h2 e) (fun j => h3 j e) (fun j => h4 j e) R 0 (by omega) (fun j hj => absurd hj (Nat.not_lt_zero j))⟩)
theorem yw_rowState_in {post : Int32 → Prop} {j : Nat} (hR : R ≤ 32) (hj : j < R) (h : post (st j)) : wpY_rowState post (nI R, fp, fc, fs, fn, st, va, ir, cu) (nI j) := by
  have c : (nI j).toNatClampNeg = j := nI_clamp (by omega)
  refine br_f (nI_pos (by omega)) (pk_lt j R (fun _ => ⟨pk_in j 32 (by omega), ?_⟩) (fun z => absurd z (by omega)))
  rw [c]; exact h
theorem yw_rowState_out {post : Int32 → Prop} {x : Int32} (ho : x < 0 ∨ nI R ≤ x) (h : post (-1)) : wpY_rowState post (nI R, fp, fc, fs, fn, st, va, ir, cu) x :=
  br_c (fun _ => h) (fun e => br_f (Int32.not_lt.mpr (ho.resolve_left e)) h)
theorem yw_rowValue_in {post : Int32 → Prop} {j : Nat} (hR : R ≤ 32) (hj : j < R) (hz : st j = 0 → va j = 0) (h : post (va j)) : wpY_rowValue post (nI R, fp, fc, fs, fn, st, va, ir, cu) (nI j) := by
  have c : (nI j).toNatClampNeg = j := nI_clamp (by omega)
  refine br_f (nI_pos (by omega)) (pk_le R j (fun z => absurd z (by omega)) (fun _ => ⟨pk_in j 32 (by omega), br_c (fun e => ?_) (fun e => ⟨pk_in j 32 (by omega), ?_⟩)⟩))
  · rw [c] at e
    rw [hz e] at h; exact h
  · rw [c]; exact h
theorem yw_rowValue_out {post : Int32 → Prop} {x : Int32} (ho : x < 0 ∨ nI R ≤ x) (h : post 0) : wpY_rowValue post (nI R, fp, fc, fs, fn, st, va, ir, cu) x :=
  br_c (fun _ => h) (fun e => br_t (ho.resolve_left e) h)
theorem yw_delete_in {post : Int32 → SY → Prop} {j : Nat} (hR : R ≤ 32) (hP : P ≤ 16) (hj : j < R) (hv : ∀ i, i < R → ¬ va i = 2147483647)
    (h1 : st j = 1 → post 0 (nI R, nI P, fc, fs, fn, upd st j 0, upd va j 0, ir, cu))
    (h2 : st j = 2 → ro_np st R ≠ P → post 0 (nI R, nI P, fc, fs, fn, upd st j 3, va, ir, cu))
    (h3 : st j = 2 → ro_np st R = P → post (-4) (nI R, nI P, fc, fs, fn, st, va, ir, cu))
    (h4 : ¬ st j = 1 → ¬ st j = 2 → post (-5) (nI R, nI P, fc, fs, fn, st, va, ir, cu)) :
    wpY_delete post (nI R, nI P, fc, fs, fn, st, va, ir, cu) (nI j) := by
  have c : (nI j).toNatClampNeg = j := nI_clamp (by omega)
  have hl := cc_le (fun i => ro_two 1 3 (st i)) R
  unfold wpY_delete
  dsimp only
  refine yw_rowState_in hR hj (br_c (fun e => br_t e ⟨pk_in j 32 (by omega), nm_r (by rw [c]) ⟨pk_in j 32 (by omega), nm_r (by rw [c]) (h1 e)⟩⟩) (fun e => br_c (fun e2 => br_f e (yw_np hR hv ?_)) (fun e2 => h4 e e2)))
  refine pk_eq (ro_np st R) P (fun z => h3 e2 z) (fun z => ⟨pk_in j 32 (by omega), nm_r (by rw [c]) (h2 e2 z)⟩) rfl rfl ?_ (by omega)
  show cc_c (fun i => ro_two 1 3 (st i)) R < 2 ^ 31
  omega
theorem yw_delete_out {post : Int32 → SY → Prop} {x : Int32} (ho : x < 0 ∨ nI R ≤ x) (h : post (-5) (nI R, fp, fc, fs, fn, st, va, ir, cu)) : wpY_delete post (nI R, fp, fc, fs, fn, st, va, ir, cu) x := by
  unfold wpY_delete
  dsimp only
  exact yw_rowState_out ho (br_f (by decide) (br_f (by decide) h))
theorem yw_restore_in {post : Int32 → SY → Prop} {j : Nat} (hR : R ≤ 32) (hj : j < R)
    (h1 : st j = 3 → post 0 (nI R, fp, fc, fs, fn, upd st j 2, va, ir, cu))
    (h2 : ¬ st j = 3 → post (-5) (nI R, fp, fc, fs, fn, st, va, ir, cu)) :
    wpY_restore post (nI R, fp, fc, fs, fn, st, va, ir, cu) (nI j) := by
  have c : (nI j).toNatClampNeg = j := nI_clamp (by omega)
  unfold wpY_restore
  dsimp only
  exact yw_rowState_in hR hj (br_c (fun e => ⟨pk_in j 32 (by omega), nm_r (by rw [c]) (h1 e)⟩) h2)
theorem yw_restore_out {post : Int32 → SY → Prop} {x : Int32} (ho : x < 0 ∨ nI R ≤ x) (h : post (-5) (nI R, fp, fc, fs, fn, st, va, ir, cu)) : wpY_restore post (nI R, fp, fc, fs, fn, st, va, ir, cu) x := by
  unfold wpY_restore
  dsimp only
  exact yw_rowState_out ho (br_f (by decide) h)
/-! the cuts -/
theorem yl_upTo {post : Int32 → Prop} {v : Int32} {q : Nat → Bool} (hn : n ≤ 16) (hq : ∀ i, i < n → decide (cu i ≤ v) = q i) (h : post (nI (cc_c q n))) : ∀ d i, i + d = n → wY_cutsUpTo_4 post v fr fp fc fs (nI n) st va ir cu (d + 1) (nI (cc_c q i)) (nI i) := by
  intro d
  induction d with
  | zero =>
    intro i hi
    obtain rfl : i = n := by omega
    exact pk_le i i (fun _ => h) (fun z => absurd z (by omega))
  | succ d ih =>
    intro i hi
    have t := ih (i + 1) (by omega)
    have c : (nI i).toNatClampNeg = i := nI_clamp (by omega)
    have Q := hq i (by omega)
    refine pk_le n i (fun z => absurd z (by omega)) (fun _ => ⟨pk_in i 16 (by omega), br_c (fun e => nm_r (nI_1 i) ?_) (fun e => nm_r ?_ (nm_r (nI_1 i) t))⟩)
    · rw [c] at e
      rw [decide_eq_false (Int32.not_le.mpr e)] at Q
      rw [cc_nf (q := q) Q.symm]; exact t
    · rw [c] at e
      rw [decide_eq_true (Int32.not_lt.mp e)] at Q
      exact cc_nt Q.symm
theorem yw_upTo {post : Int32 → Prop} {v : Int32} (hn : n ≤ 16) (h : post (nI (cu_to cu n v))) : wpY_cutsUpTo post (fr, fp, fc, fs, nI n, st, va, ir, cu) v :=
  ⟨n + 1, yl_upTo (q := fun i => decide (cu i ≤ v)) hn (fun _ _ => rfl) h n 0 (by omega)⟩
theorem yl_cutAt {post : Int32 → Prop} {k : Int32} {rk : Nat → Nat} (hn : n ≤ 16) (hr : ∀ i, i < n → cu_to cu n (cu i) = rk i + 1) (h0 : (∀ i, i < n → ¬ nI (rk i) = k) → post (-1)) (h1 : ∀ i, i < n → nI (rk i) = k → post (nI i)) : ∀ d i, i + d = n → (∀ j, j < i → ¬ nI (rk j) = k) → wY_cutAt_2 post k fr fp fc fs (nI n) st va ir cu (d + 1) (nI i) := by
  intro d
  induction d with
  | zero =>
    intro i hi hm
    obtain rfl : i = n := by omega
    exact pk_le i i (fun _ => h0 hm) (fun z => absurd z (by omega))
  | succ d ih =>
    intro i hi hm
    have c : (nI i).toNatClampNeg = i := nI_clamp (by omega)
    have e0 : nI (cu_to cu n (cu i)) - 1 = nI (rk i) := by rw [hr i (by omega)]; exact nI_pred _
    refine pk_le n i (fun z => absurd z (by omega)) (fun _ => ⟨pk_in i 16 (by omega), ?_⟩)
    rw [c]
    refine yw_upTo hn (br_c (fun e => h1 i (by omega) (e0.symm.trans e)) (fun e => nm_r (nI_1 i) (ih (i + 1) (by omega) (lt_s (p := fun j => ¬ nI (rk j) = k) hm (fun z => e (e0.trans z))))))
theorem yw_cutAt {post : Int32 → Prop} {k : Int32} {rk : Nat → Nat} (hn : n ≤ 16) (hr : ∀ i, i < n → cu_to cu n (cu i) = rk i + 1) (h0 : (∀ i, i < n → ¬ nI (rk i) = k) → post (-1)) (h1 : ∀ i, i < n → nI (rk i) = k → post (nI i)) : wpY_cutAt post (fr, fp, fc, fs, nI n, st, va, ir, cu) k :=
  ⟨n + 1, yl_cutAt hn hr h0 h1 n 0 (by omega) (fun j hj => absurd hj (Nat.not_lt_zero j))⟩
/-- cutAt against an ascending array of the same content -/
theorem yw_cutAt_in {post : Int32 → Prop} {f : Nat → Int32} {j : Nat} (hn : n ≤ 16) (ha : cu_asc f n) (hs : cu_same f cu n) (hj : j < n) (h : ∀ i, i < n → cu i = f j → post (nI i)) : wpY_cutAt post (fr, fp, fc, fs, nI n, st, va, ir, cu) (nI j) := by
  have H : ∀ i, i < n → cu_to cu n (cu i) - 1 < n ∧ f (cu_to cu n (cu i) - 1) = cu i ∧ cu_to cu n (cu i) = cu_to cu n (cu i) - 1 + 1 := by
    intro i hi
    obtain ⟨l, hl, e, e2⟩ := cu_same_rank ha hs hi
    rw [e2]
    exact ⟨hl, e, rfl⟩
  refine yw_cutAt (rk := fun i => cu_to cu n (cu i) - 1) hn (fun i hi => (H i hi).2.2) (fun z => ?_) (fun i hi z => ?_)
  · obtain ⟨i, hi, e⟩ := cu_same_mem hs hj
    exact absurd (by rw [e, ← cu_same_to hs, cu_rank ha hj]; rfl) (z i hi)
  · have hz : nI (cu_to cu n (cu i) - 1) = nI j := z
    have e := (nI_eq (by have := (H i hi).1; omega) (by omega)).mp hz
    have e2 := (H i hi).2.1
    rw [e] at e2
    exact h i hi e2.symm
theorem yw_cutAt_out {post : Int32 → Prop} {f : Nat → Int32} {x : Int32} (hn : n ≤ 16) (ha : cu_asc f n) (hs : cu_same f cu n) (ho : x < 0 ∨ nI n ≤ x) (h : post (-1)) : wpY_cutAt post (fr, fp, fc, fs, nI n, st, va, ir, cu) x := by
  refine yw_cutAt (rk := fun i => cu_to cu n (cu i) - 1) hn (fun i hi => ?_) (fun _ => h) (fun i hi z => ?_)
  · obtain ⟨l, hl, e, e2⟩ := cu_same_rank ha hs hi
    rw [e2]; rfl
  · obtain ⟨l, hl, e, e2⟩ := cu_same_rank ha hs hi
    have hz : nI (cu_to cu n (cu i) - 1) = x := z
    rw [e2, Nat.add_sub_cancel] at hz
    rw [← hz] at ho
    cases ho with
    | inl w => exact absurd w (nI_pos (by omega))
    | inr w => exact absurd w (nI_ge hl (by omega))
theorem yw_cutValue_in {post : Int32 → Prop} {f : Nat → Int32} {j : Nat} (hn : n ≤ 16) (ha : cu_asc f n) (hs : cu_same f cu n) (hj : j < n) (h : post (f j)) : wpY_cutValue post (fr, fp, fc, fs, nI n, st, va, ir, cu) (nI j) := by
  unfold wpY_cutValue
  dsimp only
  refine yw_cutAt_in hn ha hs hj (fun i hi e => br_t (nI_pos' (by omega)) ⟨pk_in i 16 (by omega), ?_⟩)
  rw [nI_clamp (by omega), e]; exact h
theorem yw_cutValue_out {post : Int32 → Prop} {f : Nat → Int32} {x : Int32} (hn : n ≤ 16) (ha : cu_asc f n) (hs : cu_same f cu n) (ho : x < 0 ∨ nI n ≤ x) (h : post 0) : wpY_cutValue post (fr, fp, fc, fs, nI n, st, va, ir, cu) x := by
  unfold wpY_cutValue
  dsimp only
  exact yw_cutAt_out hn ha hs ho (br_f (by decide) h)
theorem yw_cutBelow_in {post : Int32 → Prop} {f : Nat → Int32} {j : Nat} {q : Nat → Bool} (hR : R ≤ 32) (hn : n ≤ 16) (ha : cu_asc f n) (hs : cu_same f cu n) (hj : j < n) (hq : ∀ i, i < R → (ro_two 2 3 (st i) && decide (va i < f j)) = q i) (h : post (nI (cc_c q R))) : wpY_cutBelow post (nI R, fp, fc, fs, nI n, st, va, ir, cu) (nI j) := by
  unfold wpY_cutBelow
  dsimp only
  refine yw_cutAt_in hn ha hs hj (fun i hi e => br_t (nI_pos' (by omega)) ⟨pk_in i 16 (by omega), ?_⟩)
  rw [nI_clamp (by omega), e]
  refine yw_countIn hR (fun l hl => ?_) h
  have a : (-2147483648 : Int32) ≤ va l := by
    have b := Int32.le_toInt (va l)
    rw [Int32.le_iff_toInt_le, show (-2147483648 : Int32).toInt = -2147483648 from by decide]
    omega
  rw [← hq l hl]
  unfold ro_in
  rw [decide_eq_true a, Bool.true_and]
theorem yw_cutBelow_out {post : Int32 → Prop} {f : Nat → Int32} {x : Int32} (hn : n ≤ 16) (ha : cu_asc f n) (hs : cu_same f cu n) (ho : x < 0 ∨ nI n ≤ x) (h : post (-1)) : wpY_cutBelow post (fr, fp, fc, fs, nI n, st, va, ir, cu) x := by
  unfold wpY_cutBelow
  dsimp only
  exact yw_cutAt_out hn ha hs ho (br_f (by decide) h)
theorem yw_forgetCut_in {post : Int32 → SY → Prop} {f : Nat → Int32} {j : Nat} (hn : n ≤ 16) (ha : cu_asc f n) (hs : cu_same f cu n) (hj : j < n) (h : ∀ i, i < n → cu i = f j → post 0 (fr, fp, fc, fs, nI (n - 1), st, va, ir, upd cu i (cu (n - 1)))) : wpY_forgetCut post (fr, fp, fc, fs, nI n, st, va, ir, cu) (nI j) := by
  unfold wpY_forgetCut
  dsimp only
  refine yw_cutAt_in hn ha hs hj (fun i hi e => br_t (nI_pos' (by omega)) (nm_r (nn_sub1 (by omega)) ⟨pk_in (n - 1) 16 (by omega), pk_in i 16 (by omega), ?_⟩))
  rw [nI_clamp (show i < 2 ^ 31 by omega), nI_clamp (show n - 1 < 2 ^ 31 by omega)]
  exact nm_e (h i hi e)
theorem yw_forgetCut_out {post : Int32 → SY → Prop} {f : Nat → Int32} {x : Int32} (hn : n ≤ 16) (ha : cu_asc f n) (hs : cu_same f cu n) (ho : x < 0 ∨ nI n ≤ x) (h : post (-7) (fr, fp, fc, fs, nI n, st, va, ir, cu)) : wpY_forgetCut post (fr, fp, fc, fs, nI n, st, va, ir, cu) x := by
  unfold wpY_forgetCut
  dsimp only
  exact yw_cutAt_out hn ha hs ho (br_f (by decide) h)
theorem yw_pieceOf_in {post : Int32 → Prop} {j : Nat} (hR : R ≤ 32) (hn : n ≤ 16) (hj : j < R) (h0 : ro_two 2 3 (st j) = false → post (-1)) (h : ro_two 2 3 (st j) = true → post (nI (cu_to cu n (va j)))) : wpY_pieceOf post (nI R, fp, fc, fs, nI n, st, va, ir, cu) (nI j) := by
  have c : (nI j).toNatClampNeg = j := nI_clamp (by omega)
  have join : ro_two 2 3 (st j) = true → wY_pieceOf_18 post (nI j) (nI R) fp fc fs (nI n) st va ir cu := by
    intro z
    refine ⟨pk_in j 32 (by omega), ?_⟩
    rw [c]
    exact yw_upTo hn (h z)
  unfold wpY_pieceOf
  dsimp only
  exact yw_rowState_in hR hj (br_c (fun e => join (ro_two_a e)) (fun e => br_c (fun e2 => join (ro_two_b e2)) (fun e2 => h0 (ro_two_f e e2))))
theorem yw_pieceOf_out {post : Int32 → Prop} {x : Int32} (ho : x < 0 ∨ nI R ≤ x) (h : post (-1)) : wpY_pieceOf post (nI R, fp, fc, fs, fn, st, va, ir, cu) x := by
  unfold wpY_pieceOf
  dsimp only
  exact yw_rowState_out ho (br_f (by decide) (br_f (by decide) h))
end
