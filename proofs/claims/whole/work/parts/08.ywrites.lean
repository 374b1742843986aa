/-! Y's addCut, select, resultRow -/
theorem bo_nar (b : Bool) : vp_nar .boolean (bo_I b) = bo_I b := by
  cases b with
  | false => rfl
  | true => rfl
section
variable {R P C n : Nat} {fr fp fc fn : Int32} {fs : Int64} {st va ir cu : Nat → Int32}
theorem yl_addCut {post : SY → Prop} {v : Int32} (hC : C ≤ 16) (hn : n ≤ C) (h : post (fr, fp, nI C, fs, nI (cu_N C cu n v), st, va, ir, cu_G C cu n v)) : ∀ d i, i + d = n → (∀ j, j < i → ¬ cu j = v) → wY_addCut_2 post v fr fp (nI C) fs (nI n) st va ir cu (d + 1) (nI i) := by
  intro d
  induction d with
  | zero =>
    intro i hi hm
    obtain rfl : i = n := by omega
    have c : (nI i).toNatClampNeg = i := nI_clamp (by omega)
    have hh := cu_has_f hm
    refine pk_le i i (fun _ => pk_le C i (fun z => ?_) (fun z => nm_r (nI_1 i) ⟨pk_in i 16 (by omega), nm_r (by rw [c]) ?_⟩)) (fun z => absurd z (by omega))
    · unfold cu_N cu_G at h
      rw [if_pos (Or.inr z), if_pos (Or.inr z)] at h
      exact h
    · have hne : ¬ (cu_has cu i v = true ∨ C ≤ i) := by
        intro y
        cases y with
        | inl y => rw [hh] at y; exact absurd y (by decide)
        | inr y => omega
      unfold cu_N cu_G at h
      rw [if_neg hne, if_neg hne] at h
      exact h
  | succ d ih =>
    intro i hi hm
    have c : (nI i).toNatClampNeg = i := nI_clamp (by omega)
    refine pk_le n i (fun z => absurd z (by omega)) (fun _ => ⟨pk_in i 16 (by omega), br_c (fun e => ?_) (fun e => nm_r (nI_1 i) (ih (i + 1) (by omega) ?_))⟩)
    · rw [c] at e
      have hh : cu_has cu n v = true := cu_has_t (i := i) (by omega) e
      unfold cu_N cu_G at h
      rw [if_pos (Or.inl hh), if_pos (Or.inl hh)] at h
      exact h
    · rw [c] at e; exact lt_s (p := fun j => ¬ cu j = v) hm e
theorem yw_addCut {post : SY → Prop} {v : Int32} (hC : C ≤ 16) (hn : n ≤ C) (h : post (fr, fp, nI C, fs, nI (cu_N C cu n v), st, va, ir, cu_G C cu n v)) : wpY_addCut post (fr, fp, nI C, fs, nI n, st, va, ir, cu) v :=
  ⟨n + 1, yl_addCut hC hn h n 0 (by omega) (fun j hj => absurd hj (Nat.not_lt_zero j))⟩
theorem yl_marks {post : Int32 → SY → Prop} {lo hi : Int32} {q : Nat → Bool} (hR : R ≤ 32)
    (hq : ∀ i, i < R → (ro_two 1 2 (st i) && ro_in lo hi (va i)) = q i)
    (hq2 : ∀ i, i < R → (decide (st i = 2) && ro_in lo hi (va i)) = q i)
    (h : ∀ ir', (∀ j, j < R → ir' j = bo_I (q j)) → post (nI (cc_c q R)) (nI R, fp, fc, ro_T q va R, fn, st, va, ir', cu)) :
    ∀ d i ir', i + d = R → (∀ j, j < i → ir' j = bo_I (q j)) → wY_select_105 post lo hi (nI R) fp fc fn (d + 1) (nI i) (ro_T q va i) st va ir' cu := by
  intro d
  induction d with
  | zero =>
    intro i ir' hd hr
    obtain rfl : i = R := by omega
    exact pk_le i i (fun _ => yw_countIn hR hq (h ir' hr)) (fun z => absurd z (by omega))
  | succ d ih =>
    intro i ir' hd hr
    have c : (nI i).toNatClampNeg = i := nI_clamp (by omega)
    have Q := hq2 i (by omega)
    have join : ∀ z : Bool, q i = z → wY_select_153 post (wY_select_105 post lo hi (nI R) fp fc fn (d + 1)) lo hi (nI i) (bo_I z) (nI i) (nI R) fp fc (ro_T q va i) fn st va ir' cu := by
      intro z hz
      have nx : ∀ j, j < i + 1 → upd ir' i (bo_I z) j = bo_I (q j) := by
        intro j hj
        by_cases a : j = i
        · rw [a, pk_us, hz]
        · rw [pk_un a]; exact hr j (by omega)
      have t := ih (i + 1) (upd ir' i (bo_I z)) (by omega) nx
      refine ⟨pk_in i 32 (by omega), nm_r (e' := upd ir' i (bo_I z)) (by rw [c, bo_nar]) ⟨pk_in i 32 (by omega), ?_⟩⟩
      rw [c, pk_us]
      refine bo_z (fun e => nm_r (nI_1 i) ?_) (fun e => ⟨pk_in i 32 (by omega), nm_r (ro_Tt (hz.trans e)).symm (nm_r (nI_1 i) t)⟩)
      rw [← ro_Tf (va := va) (hz.trans e)]; exact t
    refine pk_le R i (fun z => absurd z (by omega)) (fun _ => ⟨pk_in i 32 (by omega), br_c (fun e => ⟨pk_in i 32 (by omega), br_c (fun e1 => join false ?_) (fun e1 => ⟨pk_in i 32 (by omega), br_c (fun e2 => join false ?_) (fun e2 => join true ?_)⟩)⟩) (fun e => join false ?_)⟩)
    · rw [c] at e e1
      rw [ro_in_f1 (Int32.not_le.mpr e1), Bool.and_false] at Q
      exact Q.symm
    · rw [c] at e2
      rw [ro_in_f2 (Int32.not_lt.mpr e2), Bool.and_false] at Q
      exact Q.symm
    · rw [c] at e e1 e2
      rw [decide_eq_true e, ro_in_t (Int32.not_lt.mp e1) (Int32.not_le.mp e2)] at Q
      exact Q.symm
    · rw [c] at e
      rw [decide_eq_false e, Bool.false_and] at Q
      exact Q.symm
theorem yl_apply {post : Int32 → SY → Prop} {lo hi : Int32} (hR : R ≤ 32) (hC : C ≤ 16) (hn : n ≤ C)
    (h : ∃ m, wY_select_105 post lo hi (nI R) fp (nI C) (nI (cu_N C (cu_G C cu n lo) (cu_N C cu n lo) hi)) m 0 0 (ro_S lo hi st va R) (ro_V lo hi st va R) ir (cu_G C (cu_G C cu n lo) (cu_N C cu n lo) hi)) :
    ∀ d i, i + d = R → wY_select_10 post lo hi (nI R) fp (nI C) fs (nI n) (d + 1) (nI i) (ro_S lo hi st va i) (ro_V lo hi st va i) ir cu := by
  intro d
  induction d with
  | zero =>
    intro i hd
    obtain rfl : i = R := by omega
    refine pk_le i i (fun _ => yw_addCut hC hn ?_) (fun z => absurd z (by omega))
    dsimp only
    refine yw_addCut hC (cu_N_le hn) ?_
    exact h
  | succ d ih =>
    intro i hd
    have t := ih (i + 1) (by omega)
    have c : (nI i).toNatClampNeg = i := nI_clamp (by omega)
    refine pk_le R i (fun z => absurd z (by omega)) (fun _ => ⟨pk_in i 32 (by omega), br_c (fun e => nm_r (nI_1 i) ?_) (fun ea => ⟨pk_in i 32 (by omega), br_c (fun e => nm_r (nI_1 i) ?_) (fun eb => ⟨pk_in i 32 (by omega), br_c (fun e1 => ⟨pk_in i 32 (by omega), nm_r (e' := ro_S lo hi st va (i + 1)) ?_ (nm_r (nI_1 i) ?_)⟩) (fun e1 => ⟨pk_in i 32 (by omega), br_c (fun e3 => ⟨pk_in i 32 (by omega), nm_r (e' := ro_S lo hi st va (i + 1)) ?_ ⟨pk_in i 32 (by omega), nm_r (e' := ro_V lo hi st va (i + 1)) ?_ (nm_r (nI_1 i) t)⟩⟩) (fun e3 => nm_r (nI_1 i) ?_)⟩)⟩)⟩)⟩)
    · rw [c, ro_V_at] at e
      have o := ro_in_f1 (hi := hi) (Int32.not_le.mpr e)
      rw [ro_Sk (ro_as_out o), ro_Vk (ro_av_out o)]; exact t
    · rw [c, ro_V_at] at e
      have o := ro_in_f2 (lo := lo) (Int32.not_lt.mpr e)
      rw [ro_Sk (ro_as_out o), ro_Vk (ro_av_out o)]; exact t
    · rw [c, ro_V_at] at ea eb
      rw [c, ro_S_at] at e1
      rw [c]
      exact ro_Ss (ro_as_1 (ro_in_t (Int32.not_lt.mp ea) (Int32.not_le.mp eb)) e1)
    · rw [c, ro_S_at] at e1
      rw [ro_Vk (ro_av_e (by rw [e1]; decide))]
      exact t
    · rw [c, ro_V_at] at ea eb
      rw [c, ro_S_at] at e3
      rw [c]
      exact ro_Ss (ro_as_3 (ro_in_t (Int32.not_lt.mp ea) (Int32.not_le.mp eb)) e3)
    · rw [c, ro_V_at] at ea eb
      rw [c, ro_S_at] at e3
      rw [c]
      exact ro_Vs (ro_av_3 (ro_in_t (Int32.not_lt.mp ea) (Int32.not_le.mp eb)) e3)
    · rw [c, ro_S_at] at e1 e3
      rw [ro_Sk (ro_as_e e1 e3), ro_Vk (ro_av_e e3)]; exact t
theorem yw_select {post : Int32 → SY → Prop} {lo hi : Int32} {q : Nat → Bool} (hR : R ≤ 32) (hC : C ≤ 16) (hn : n ≤ C)
    (hq : ∀ i, i < R → (ro_two 1 2 (ro_S lo hi st va R i) && ro_in lo hi (ro_V lo hi st va R i)) = q i)
    (hq2 : ∀ i, i < R → (decide (ro_S lo hi st va R i = 2) && ro_in lo hi (ro_V lo hi st va R i)) = q i)
    (h0 : ¬ lo < hi → post (-6) (nI R, fp, nI C, fs, nI n, st, va, ir, cu))
    (h : lo < hi → ∀ ir', (∀ j, j < R → ir' j = bo_I (q j)) → post (nI (cc_c q R)) (nI R, fp, nI C, ro_T q (ro_V lo hi st va R) R, nI (cu_N C (cu_G C cu n lo) (cu_N C cu n lo) hi), ro_S lo hi st va R, ro_V lo hi st va R, ir', cu_G C (cu_G C cu n lo) (cu_N C cu n lo) hi)) :
    wpY_select post (nI R, fp, nI C, fs, nI n, st, va, ir, cu) lo hi := by
  unfold wpY_select
  dsimp only
  refine br_c (fun e => ?_) h0
  have t := yl_apply (fs := fs) hR hC hn ⟨_, yl_marks hR hq hq2 (h e) R 0 ir (by omega) (fun j hj => absurd hj (Nat.not_lt_zero j))⟩ R 0 (by omega)
  rw [ro_S0, ro_V0] at t
  exact ⟨_, t⟩
theorem yl_rr {post : Int32 → Prop} {k : Int32} {q : Nat → Bool} (hR : R ≤ 32) (hq : ∀ i, i < R → (!decide (ir i = 0)) = q i) (h0 : (∀ i, i < R → q i = true → ¬ nI (cc_c q i) = k) → post (-1)) (h1 : ∀ i, i < R → q i = true → nI (cc_c q i) = k → post (nI i)) : ∀ d i, i + d = R → (∀ j, j < i → q j = true → ¬ nI (cc_c q j) = k) → wY_resultRow_4 post k (nI R) fp fc fs fn st va ir cu (d + 1) (nI (cc_c q i)) (nI i) := by
  intro d
  induction d with
  | zero =>
    intro i hd hm
    obtain rfl : i = R := by omega
    exact pk_le i i (fun _ => h0 hm) (fun z => absurd z (by omega))
  | succ d ih =>
    intro i hd hm
    have c : (nI i).toNatClampNeg = i := nI_clamp (by omega)
    have Q := hq i (by omega)
    refine pk_le R i (fun z => absurd z (by omega)) (fun _ => ⟨pk_in i 32 (by omega), br_c (fun e => nm_r (nI_1 i) ?_) (fun e => br_c (fun e1 => h1 i (by omega) ?_ e1) (fun e1 => nm_r (cc_nt ?_) (nm_r (nI_1 i) (ih (i + 1) (by omega) ?_))))⟩)
    · rw [c] at e
      rw [decide_eq_true e] at Q
      rw [cc_nf (q := q) Q.symm]
      refine ih (i + 1) (by omega) (lt_s (p := fun j => q j = true → ¬ nI (cc_c q j) = k) hm (fun z => ?_))
      rw [← Q] at z
      exact absurd z (by decide)
    · rw [c] at e
      rw [decide_eq_false e] at Q
      exact Q.symm
    · rw [c] at e
      rw [decide_eq_false e] at Q
      exact Q.symm
    · exact lt_s (p := fun j => q j = true → ¬ nI (cc_c q j) = k) hm (fun _ => e1)
theorem yw_resultRow {post : Int32 → Prop} {k : Int32} {q : Nat → Bool} (hR : R ≤ 32) (hq : ∀ i, i < R → (!decide (ir i = 0)) = q i) (h0 : (∀ i, i < R → q i = true → ¬ nI (cc_c q i) = k) → post (-1)) (h1 : ∀ i, i < R → q i = true → nI (cc_c q i) = k → post (nI i)) : wpY_resultRow post (nI R, fp, fc, fs, fn, st, va, ir, cu) k :=
  ⟨R + 1, yl_rr hR hq h0 h1 R 0 (by omega) (fun j hj => absurd hj (Nat.not_lt_zero j))⟩
end
