/-! X's walks: one lemma a method, general post -/
def bo_I (b : Bool) : Int32 := cond b 1 0
theorem bo_z {b : Bool} {A B : Prop} (f : b = false → A) (g : b = true → B) : (bo_I b = 0 → A) ∧ (¬ bo_I b = 0 → B) := by
  cases b with
  | false => exact ⟨fun _ => f rfl, fun z => absurd rfl z⟩
  | true => exact ⟨fun z => absurd z (by decide), fun _ => g rfl⟩
theorem cc_nt {q : Nat → Bool} {n : Nat} (h : q n = true) : nI (cc_c q n) + 1 = nI (cc_c q (n + 1)) := by rw [cc_t h, nI_1]
theorem cc_nf {q : Nat → Bool} {n : Nat} (h : q n = false) : nI (cc_c q n) = nI (cc_c q (n + 1)) := by rw [cc_f h]
theorem nn_m1 {j : Nat} (hj : j < 2 ^ 31) : ¬ nI j = -1 := by
  intro h
  have e := congrArg Int32.toInt h
  rw [nI_toInt hj, show (-1 : Int32).toInt = -1 from by decide] at e
  omega
theorem nn_sub1 {p : Nat} (h : 0 < p) : nI p - 1 = nI (p - 1) := by
  obtain ⟨m, rfl⟩ : ∃ m, p = m + 1 := ⟨p - 1, by omega⟩
  exact nI_pred m
theorem xw_isPending {post : Int32 → Prop} {s : Int32} (h : post (bo_I (ro_two 1 3 s))) : wpX_isPending post () s :=
  br_c (fun e => by rw [ro_two_a e] at h; exact h) (fun e1 => br_c (fun e => by rw [ro_two_b e] at h; exact h) (fun e3 => by rw [ro_two_f e1 e3] at h; exact h))
theorem xw_isLive {post : Int32 → Prop} {s : Int32} (h : post (bo_I (ro_two 1 2 s))) : wpX_isLive post () s :=
  br_c (fun e => by rw [ro_two_a e] at h; exact h) (fun e1 => br_c (fun e => by rw [ro_two_b e] at h; exact h) (fun e3 => by rw [ro_two_f e1 e3] at h; exact h))
theorem xw_isStored {post : Int32 → Prop} {s : Int32} (h : post (bo_I (ro_two 2 3 s))) : wpX_isStored post () s :=
  br_c (fun e => by rw [ro_two_a e] at h; exact h) (fun e1 => br_c (fun e => by rw [ro_two_b e] at h; exact h) (fun e3 => by rw [ro_two_f e1 e3] at h; exact h))
theorem xw_isInside {post : Int32 → Prop} {x lo hi : Int32} (h : post (bo_I (ro_in lo hi x))) : wpX_isInside post () x lo hi :=
  br_c (fun e => by rw [ro_in_f1 (Int32.not_le.mpr e)] at h; exact h) (fun e1 => br_c (fun e => by rw [ro_in_f2 (Int32.not_lt.mpr e)] at h; exact h) (fun e2 => by rw [ro_in_t (Int32.not_lt.mp e1) (Int32.not_le.mp e2)] at h; exact h))
section
variable {R P C n : Nat} {fr fp fc fn fs : Int32} {ft : Int64} {st va cu ri : Nat → Int32}
/-! counts over the rows -/
theorem xl_np {post : Int32 → Prop} {q : Nat → Bool} (hR : R ≤ 32) (hq : ∀ i, i < R → ro_two 1 3 (st i) = q i) (h : post (nI (cc_c q R))) : ∀ d i, i + d = R → wX_pendingCount_4 post (nI R) fp fc fn fs ft st va cu ri (d + 1) (nI (cc_c q i)) (nI i) := by
  intro d
  induction d with
  | zero =>
    intro i hi
    obtain rfl : i = R := by omega
    exact pk_le i i (fun _ => h) (fun z => absurd z (by omega))
  | succ d ih =>
    intro i hi
    have t := ih (i + 1) (by omega)
    have c : (nI i).toNatClampNeg = i := nI_clamp (by omega)
    refine pk_le R i (fun z => absurd z (by omega)) (fun _ => ⟨pk_in i 32 (by omega), xw_isPending (bo_z (fun e => nm_r (nI_1 i) ?_) (fun e => nm_r ?_ (nm_r (nI_1 i) t)))⟩)
    · rw [c, hq i (by omega)] at e
      rw [cc_nf e]; exact t
    · rw [c, hq i (by omega)] at e
      exact cc_nt e
theorem xw_np {post : Int32 → Prop} (hR : R ≤ 32) (h : post (nI (ro_np st R))) : wpX_pendingCount post (nI R, fp, fc, fn, fs, ft, st, va, cu, ri) :=
  ⟨R + 1, xl_np (q := fun i => ro_two 1 3 (st i)) hR (fun _ _ => rfl) h R 0 (by omega)⟩
theorem xl_ns {post : Int32 → Prop} {q : Nat → Bool} (hR : R ≤ 32) (hq : ∀ i, i < R → ro_two 2 3 (st i) = q i) (h : post (nI (cc_c q R))) : ∀ d i, i + d = R → wX_storedCount_4 post (nI R) fp fc fn fs ft st va cu ri (d + 1) (nI (cc_c q i)) (nI i) := by
  intro d
  induction d with
  | zero =>
    intro i hi
    obtain rfl : i = R := by omega
    exact pk_le i i (fun _ => h) (fun z => absurd z (by omega))
  | succ d ih =>
    intro i hi
    have t := ih (i + 1) (by omega)
    have c : (nI i).toNatClampNeg = i := nI_clamp (by omega)
    refine pk_le R i (fun z => absurd z (by omega)) (fun _ => ⟨pk_in i 32 (by omega), xw_isStored (bo_z (fun e => nm_r (nI_1 i) ?_) (fun e => nm_r ?_ (nm_r (nI_1 i) t)))⟩)
    · rw [c, hq i (by omega)] at e
      rw [cc_nf e]; exact t
    · rw [c, hq i (by omega)] at e
      exact cc_nt e
theorem xw_ns {post : Int32 → Prop} {q : Nat → Bool} (hR : R ≤ 32) (hq : ∀ i, i < R → ro_two 2 3 (st i) = q i) (h : post (nI (cc_c q R))) : wpX_storedCount post (nI R, fp, fc, fn, fs, ft, st, va, cu, ri) :=
  ⟨R + 1, xl_ns hR hq h R 0 (by omega)⟩
theorem xl_count {post : Int32 → Prop} {lo hi : Int32} {q : Nat → Bool} (hR : R ≤ 32) (hq : ∀ i, i < R → (ro_two 1 2 (st i) && ro_in lo hi (va i)) = q i) (h : post (nI (cc_c q R))) : ∀ d i, i + d = R → wX_count_13 post lo hi (nI R) fp fc fn fs ft st va cu ri (d + 1) (nI (cc_c q i)) (nI i) := by
  intro d
  induction d with
  | zero =>
    intro i hi
    obtain rfl : i = R := by omega
    exact pk_le i i (fun _ => h) (fun z => absurd z (by omega))
  | succ d ih =>
    intro i hi
    have t := ih (i + 1) (by omega)
    have c : (nI i).toNatClampNeg = i := nI_clamp (by omega)
    have Q := hq i (by omega)
    refine pk_le R i (fun z => absurd z (by omega)) (fun _ => ⟨pk_in i 32 (by omega), xw_isLive (bo_z (fun e => nm_r (nI_1 i) ?_) (fun e => ⟨pk_in i 32 (by omega), xw_isInside (bo_z (fun e2 => nm_r (nI_1 i) ?_) (fun e2 => nm_r ?_ (nm_r (nI_1 i) t)))⟩))⟩)
    · rw [c] at e
      rw [e] at Q
      rw [cc_nf (q := q) Q.symm]; exact t
    · rw [c] at e e2
      rw [e, e2] at Q
      rw [cc_nf (q := q) Q.symm]; exact t
    · rw [c] at e e2
      rw [e, e2] at Q
      exact cc_nt Q.symm
theorem xw_count {post : Int32 → Prop} {lo hi : Int32} {q : Nat → Bool} (hR : R ≤ 32) (hq : ∀ i, i < R → (ro_two 1 2 (st i) && ro_in lo hi (va i)) = q i) (h0 : ¬ lo < hi → post (-6)) (h : lo < hi → post (nI (cc_c q R))) : wpX_count post (nI R, fp, fc, fn, fs, ft, st, va, cu, ri) lo hi :=
  br_c (fun e => ⟨R + 1, xl_count hR hq (h e) R 0 (by omega)⟩) h0
theorem xl_below {post : Int32 → Prop} {j : Nat} {q : Nat → Bool} (hR : R ≤ 32) (hj : j < 16) (hq : ∀ i, i < R → (ro_two 2 3 (st i) && decide (va i < cu j)) = q i) (h : post (nI (cc_c q R))) : ∀ d i, i + d = R → wX_cutBelow_14 post (nI j) (nI R) fp fc fn fs ft st va cu ri (d + 1) (nI (cc_c q i)) (nI i) := by
  intro d
  induction d with
  | zero =>
    intro i hi
    obtain rfl : i = R := by omega
    exact pk_le i i (fun _ => h) (fun z => absurd z (by omega))
  | succ d ih =>
    intro i hi
    have t := ih (i + 1) (by omega)
    have c : (nI i).toNatClampNeg = i := nI_clamp (by omega)
    have cj : (nI j).toNatClampNeg = j := nI_clamp (by omega)
    have Q := hq i (by omega)
    refine pk_le R i (fun z => absurd z (by omega)) (fun _ => ⟨pk_in i 32 (by omega), xw_isStored (bo_z (fun e => nm_r (nI_1 i) ?_) (fun e => ⟨pk_in i 32 (by omega), pk_in j 16 hj, br_c (fun e2 => nm_r (nI_1 i) ?_) (fun e2 => nm_r ?_ (nm_r (nI_1 i) t))⟩))⟩)
    · rw [c] at e
      rw [e] at Q
      rw [cc_nf (q := q) Q.symm]; exact t
    · rw [c] at e e2
      rw [cj] at e2
      rw [e, decide_eq_false (Int32.not_lt.mpr e2)] at Q
      rw [cc_nf (q := q) Q.symm]; exact t
    · rw [c] at e e2
      rw [cj] at e2
      rw [e, decide_eq_true (Int32.not_le.mp e2)] at Q
      exact cc_nt Q.symm
/-! ids and cuts within and without -/
theorem xw_isId_in {post : Int32 → Prop} {j : Nat} (hR : R ≤ 32) (hj : j < R) (h : post 1) : wpX_isId post (nI R, fp, fc, fn, fs, ft, st, va, cu, ri) (nI j) :=
  br_f (nI_pos (by omega)) (pk_le R j (fun z => absurd z (by omega)) (fun _ => h))
theorem xw_isId_out {post : Int32 → Prop} {x : Int32} (ho : x < 0 ∨ nI R ≤ x) (h : post 0) : wpX_isId post (nI R, fp, fc, fn, fs, ft, st, va, cu, ri) x :=
  br_c (fun _ => h) (fun e => br_t (ho.resolve_left e) h)
theorem xw_isCut_in {post : Int32 → Prop} {j : Nat} (hn : n ≤ 16) (hj : j < n) (h : post 1) : wpX_isCut post (fr, fp, fc, nI n, fs, ft, st, va, cu, ri) (nI j) :=
  br_f (nI_pos (by omega)) (pk_le n j (fun z => absurd z (by omega)) (fun _ => h))
theorem xw_isCut_out {post : Int32 → Prop} {x : Int32} (ho : x < 0 ∨ nI n ≤ x) (h : post 0) : wpX_isCut post (fr, fp, fc, nI n, fs, ft, st, va, cu, ri) x :=
  br_c (fun _ => h) (fun e => br_t (ho.resolve_left e) h)
theorem xw_rowState_in {post : Int32 → Prop} {j : Nat} (hR : R ≤ 32) (hj : j < R) (h : post (st j)) : wpX_rowState post (nI R, fp, fc, fn, fs, ft, st, va, cu, ri) (nI j) := by
  unfold wpX_rowState
  dsimp only
  refine xw_isId_in hR hj (br_f (by decide) ⟨pk_in j 32 (by omega), ?_⟩)
  rw [nI_clamp (by omega)]; exact h
theorem xw_rowState_out {post : Int32 → Prop} {x : Int32} (ho : x < 0 ∨ nI R ≤ x) (h : post (-1)) : wpX_rowState post (nI R, fp, fc, fn, fs, ft, st, va, cu, ri) x := by
  unfold wpX_rowState
  dsimp only
  exact xw_isId_out ho (br_t rfl h)
theorem xw_rowValue_in {post : Int32 → Prop} {j : Nat} (hR : R ≤ 32) (hj : j < R) (h : post (va j)) : wpX_rowValue post (nI R, fp, fc, fn, fs, ft, st, va, cu, ri) (nI j) := by
  unfold wpX_rowValue
  dsimp only
  refine xw_isId_in hR hj (br_f (by decide) ⟨pk_in j 32 (by omega), ?_⟩)
  rw [nI_clamp (by omega)]; exact h
theorem xw_rowValue_out {post : Int32 → Prop} {x : Int32} (ho : x < 0 ∨ nI R ≤ x) (h : post 0) : wpX_rowValue post (nI R, fp, fc, fn, fs, ft, st, va, cu, ri) x := by
  unfold wpX_rowValue
  dsimp only
  exact xw_isId_out ho (br_t rfl h)
theorem xw_cutValue_in {post : Int32 → Prop} {j : Nat} (hn : n ≤ 16) (hj : j < n) (h : post (cu j)) : wpX_cutValue post (fr, fp, fc, nI n, fs, ft, st, va, cu, ri) (nI j) := by
  unfold wpX_cutValue
  dsimp only
  refine xw_isCut_in hn hj (br_f (by decide) ⟨pk_in j 16 (by omega), ?_⟩)
  rw [nI_clamp (by omega)]; exact h
theorem xw_cutValue_out {post : Int32 → Prop} {x : Int32} (ho : x < 0 ∨ nI n ≤ x) (h : post 0) : wpX_cutValue post (fr, fp, fc, nI n, fs, ft, st, va, cu, ri) x := by
  unfold wpX_cutValue
  dsimp only
  exact xw_isCut_out ho (br_t rfl h)
theorem xw_cutBelow_in {post : Int32 → Prop} {j : Nat} {q : Nat → Bool} (hR : R ≤ 32) (hn : n ≤ 16) (hj : j < n) (hq : ∀ i, i < R → (ro_two 2 3 (st i) && decide (va i < cu j)) = q i) (h : post (nI (cc_c q R))) : wpX_cutBelow post (nI R, fp, fc, nI n, fs, ft, st, va, cu, ri) (nI j) := by
  unfold wpX_cutBelow
  dsimp only
  exact xw_isCut_in hn hj (br_f (by decide) ⟨R + 1, xl_below hR (by omega) hq h R 0 (by omega)⟩)
theorem xw_cutBelow_out {post : Int32 → Prop} {x : Int32} (ho : x < 0 ∨ nI n ≤ x) (h : post (-1)) : wpX_cutBelow post (fr, fp, fc, nI n, fs, ft, st, va, cu, ri) x := by
  unfold wpX_cutBelow
  dsimp only
  exact xw_isCut_out ho (br_t rfl h)
/-! the cuts up to a value -/
theorem xl_upTo {post : Int32 → Prop} {v : Int32} {q : Nat → Bool} (hn : n ≤ 16) (hq : ∀ i, i < n → decide (cu i ≤ v) = q i) (h : post (nI (cc_c q n))) : ∀ d i, i + d = n → wX_cutsUpTo_4 post v fr fp fc (nI n) fs ft st va cu ri (d + 1) (nI (cc_c q i)) (nI i) := by
  intro d
  induction d with
  | zero =>
    intro i hi
    obtain rfl : i = n := by omega
    exact pk_le i i (fun _ => h) (fun z => absurd z (by omega))
  | succ d ih =>
    intro i hi
    have t := ih (i + 1) (by omega)
    have c : (nI i).toNatClampNeg = i := nI_clamp (by omega)
    have Q := hq i (by omega)
    refine pk_le n i (fun z => absurd z (by omega)) (fun _ => ⟨pk_in i 16 (by omega), br_c (fun e => nm_r (nI_1 i) ?_) (fun e => nm_r ?_ (nm_r (nI_1 i) t))⟩)
    · rw [c] at e
      rw [decide_eq_false (Int32.not_le.mpr e)] at Q
      rw [cc_nf (q := q) Q.symm]; exact t
    · rw [c] at e
      rw [decide_eq_true (Int32.not_lt.mp e)] at Q
      exact cc_nt Q.symm
theorem xw_upTo {post : Int32 → Prop} {v : Int32} (hn : n ≤ 16) (h : post (nI (cu_to cu n v))) : wpX_cutsUpTo post (fr, fp, fc, nI n, fs, ft, st, va, cu, ri) v :=
  ⟨n + 1, xl_upTo (q := fun i => decide (cu i ≤ v)) hn (fun _ _ => rfl) h n 0 (by omega)⟩
theorem xw_pieceOf_in {post : Int32 → Prop} {j : Nat} (hR : R ≤ 32) (hn : n ≤ 16) (hj : j < R) (h0 : ro_two 2 3 (st j) = false → post (-1)) (h : ro_two 2 3 (st j) = true → post (nI (cu_to cu n (va j)))) : wpX_pieceOf post (nI R, fp, fc, nI n, fs, ft, st, va, cu, ri) (nI j) := by
  unfold wpX_pieceOf
  dsimp only
  refine xw_rowState_in hR hj (xw_isStored (bo_z h0 (fun e => ⟨pk_in j 32 (by omega), ?_⟩)))
  rw [nI_clamp (by omega)]
  exact xw_upTo hn (h e)
theorem xw_pieceOf_out {post : Int32 → Prop} {x : Int32} (ho : x < 0 ∨ nI R ≤ x) (h : post (-1)) : wpX_pieceOf post (nI R, fp, fc, fn, fs, ft, st, va, cu, ri) x := by
  unfold wpX_pieceOf
  dsimp only
  exact xw_rowState_out ho (xw_isStored (br_t rfl h))
end
