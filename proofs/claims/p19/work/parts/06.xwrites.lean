/-! X's methods that store -/
/-- is v among the first n -/
def cu_has (f : Nat → Int32) (n : Nat) (v : Int32) : Bool := decide (0 < cc_c (fun i => decide (f i = v)) n)
theorem cu_has_t {f : Nat → Int32} {n i : Nat} {v : Int32} (hi : i < n) (e : f i = v) : cu_has f n v = true :=
  decide_eq_true (cc_has hi (decide_eq_true e))
theorem cu_has_f {f : Nat → Int32} {n : Nat} {v : Int32} (h : ∀ i, i < n → ¬ f i = v) : cu_has f n v = false := by
  have e : cc_c (fun i => decide (f i = v)) n = 0 := cc_none n (fun i hi => decide_eq_false (h i hi))
  unfold cu_has
  rw [e]; rfl
theorem cu_has_ne {f : Nat → Int32} {n : Nat} {v : Int32} (h : cu_has f n v = false) : ∀ i, i < n → ¬ f i = v := by
  intro i hi e
  rw [cu_has_t hi e] at h
  exact absurd h (by decide)
/-- the number of cuts, and the cuts, behind addCut -/
def cu_N (C : Nat) (f : Nat → Int32) (n : Nat) (v : Int32) : Nat := if cu_has f n v = true ∨ C ≤ n then n else n + 1
def cu_F (C : Nat) (f : Nat → Int32) (n : Nat) (v : Int32) : Nat → Int32 := if cu_has f n v = true ∨ C ≤ n then f else cu_ins f n (cu_to f n v) v
def cu_G (C : Nat) (g : Nat → Int32) (n : Nat) (v : Int32) : Nat → Int32 := if cu_has g n v = true ∨ C ≤ n then g else upd g n v
theorem cu_noeq {f : Nat → Int32} {n : Nat} {v : Int32} (ha : cu_asc f n) (h : 0 < cu_to f n v → ¬ f (cu_to f n v - 1) = v) : ∀ i, i < n → ¬ f i = v := by
  intro i hi e
  have h1 := (cu_split (v := v) n ha i hi).mp (by rw [e]; exact Int32.le_refl _)
  have h2 := cu_to_le f n v
  have h3 := h (by omega)
  have h4 := (cu_split (v := v) n ha (cu_to f n v - 1) (by omega)).mpr (by omega)
  by_cases z : i = cu_to f n v - 1
  · exact h3 (by rw [← z]; exact e)
  · have h5 := ha i (cu_to f n v - 1) (by omega) (by omega)
    rw [e, Int32.lt_iff_toInt_lt] at h5
    rw [Int32.le_iff_toInt_le] at h4
    omega
theorem cu_F_asc {C : Nat} {f : Nat → Int32} {n : Nat} {v : Int32} (ha : cu_asc f n) : cu_asc (cu_F C f n v) (cu_N C f n v) := by
  unfold cu_F cu_N
  by_cases h : cu_has f n v = true ∨ C ≤ n
  · rw [if_pos h, if_pos h]; exact ha
  · rw [if_neg h, if_neg h]
    have hne := cu_has_ne (ro_nt (fun z => h (Or.inl z)))
    have hl := cu_to_le f n v
    refine cu_ins_asc ha hl (fun i hi => ?_) (fun i h1 h2 => ?_)
    · have a := (cu_split (v := v) n ha i (by omega)).mpr hi
      have b := hne i (by omega)
      rw [Int32.le_iff_toInt_le] at a
      rw [Int32.lt_iff_toInt_lt]
      have c : ¬ (f i).toInt = v.toInt := fun z => b (Int32.toInt_inj.mp z)
      omega
    · have a := mt (cu_split (v := v) n ha i h2).mp (by omega)
      exact Int32.not_le.mp a
theorem cu_N_le {C : Nat} {f : Nat → Int32} {n : Nat} {v : Int32} (hn : n ≤ C) : cu_N C f n v ≤ C := by
  unfold cu_N
  by_cases h : cu_has f n v = true ∨ C ≤ n
  · rw [if_pos h]; exact hn
  · rw [if_neg h]
    have h2 : ¬ C ≤ n := fun z => h (Or.inr z)
    omega
theorem cu_same_has {f g : Nat → Int32} {n : Nat} (h : cu_same f g n) (v : Int32) : cu_has g n v = cu_has f n v := by
  unfold cu_has
  rw [show cc_c (fun i => decide (g i = v)) n = cc_c (fun i => decide (f i = v)) n from (h (fun x => decide (x = v))).symm]
theorem cu_same_N {C : Nat} {f g : Nat → Int32} {n : Nat} (h : cu_same f g n) (v : Int32) : cu_N C g n v = cu_N C f n v := by
  unfold cu_N
  rw [cu_same_has h]
theorem cu_same_F {C : Nat} {f g : Nat → Int32} {n : Nat} (h : cu_same f g n) (v : Int32) : cu_same (cu_F C f n v) (cu_G C g n v) (cu_N C f n v) := by
  unfold cu_F cu_G cu_N
  rw [cu_same_has h]
  by_cases z : cu_has f n v = true ∨ C ≤ n
  · rw [if_pos z, if_pos z, if_pos z]; exact h
  · rw [if_neg z, if_neg z, if_neg z]; exact cu_ins_same h (cu_to_le f n v)
section
variable {R P C n : Nat} {fr fp fc fn fs : Int32} {ft : Int64} {st va cu ri : Nat → Int32}
theorem xl_free {post : Int32 → Prop} (hR : R ≤ 32) (h0 : (∀ j, j < R → ¬ st j = 0) → post (-1)) (h1 : ∀ j, j < R → st j = 0 → (∀ i, i < j → ¬ st i = 0) → post (nI j)) : ∀ d i, i + d = R → (∀ j, j < i → ¬ st j = 0) → wX_smallestFreeId_2 post (nI R) fp fc fn fs ft st va cu ri (d + 1) (nI i) := by
  intro d
  induction d with
  | zero =>
    intro i hi hn
    obtain rfl : i = R := by omega
    exact pk_le i i (fun _ => h0 hn) (fun z => absurd z (by omega))
  | succ d ih =>
    intro i hi hn
    have c : (nI i).toNatClampNeg = i := nI_clamp (by omega)
    refine pk_le R i (fun z => absurd z (by omega)) (fun _ => ⟨pk_in i 32 (by omega), br_c (fun e => h1 i (by omega) ?_ hn) (fun e => nm_r (nI_1 i) (ih (i + 1) (by omega) ?_))⟩)
    · rw [c] at e; exact e
    · rw [c] at e; exact lt_s (p := fun j => ¬ st j = 0) hn e
theorem xw_free {post : Int32 → Prop} (hR : R ≤ 32) (h0 : (∀ j, j < R → ¬ st j = 0) → post (-1)) (h1 : ∀ j, j < R → st j = 0 → (∀ i, i < j → ¬ st i = 0) → post (nI j)) : wpX_smallestFreeId post (nI R, fp, fc, fn, fs, ft, st, va, cu, ri) :=
  ⟨R + 1, xl_free hR h0 h1 R 0 (by omega) (fun j hj => absurd hj (Nat.not_lt_zero j))⟩
theorem xw_insert {post : Int32 → St2 → Prop} {v : Int32} (hR : R ≤ 32) (hP : P ≤ 16)
    (h1 : v = 2147483647 → post (-2) (nI R, nI P, fc, fn, fs, ft, st, va, cu, ri))
    (h2 : ¬ v = 2147483647 → (∀ j, j < R → ¬ st j = 0) → post (-3) (nI R, nI P, fc, fn, fs, ft, st, va, cu, ri))
    (h3 : ∀ j, ¬ v = 2147483647 → j < R → st j = 0 → (∀ i, i < j → ¬ st i = 0) → P ≤ ro_np st R → post (-4) (nI R, nI P, fc, fn, fs, ft, st, va, cu, ri))
    (h4 : ∀ j, ¬ v = 2147483647 → j < R → st j = 0 → (∀ i, i < j → ¬ st i = 0) → ro_np st R < P → post (nI j) (nI R, nI P, fc, fn, fs, ft, upd st j 1, upd va j v, cu, ri)) :
    wpX_insert post (nI R, nI P, fc, fn, fs, ft, st, va, cu, ri) v := by
  unfold wpX_insert
  dsimp only
  refine br_c h1 (fun e => xw_free hR (fun hn => br_t rfl (h2 e hn)) (fun j hj e0 hm => br_f (nn_m1 (by omega)) (xw_np hR ?_)))
  have hl := cc_le (fun i => ro_two 1 3 (st i)) R
  have c : (nI j).toNatClampNeg = j := nI_clamp (by omega)
  refine pk_lt (ro_np st R) P (fun z => ⟨pk_in j 32 (by omega), nm_r (by rw [c]) ⟨pk_in j 32 (by omega), nm_r (by rw [c]) (h4 j e hj e0 hm z)⟩⟩) (fun z => h3 j e hj e0 hm z) rfl rfl ?_ (by omega)
  show cc_c (fun i => ro_two 1 3 (st i)) R < 2 ^ 31
  omega
theorem xw_freeRow {post : St2 → Prop} {j : Nat} (hj : j < 32) (h : post (fr, fp, fc, fn, fs, ft, upd st j 0, upd va j 0, cu, ri)) : wpX_freeRow post (fr, fp, fc, fn, fs, ft, st, va, cu, ri) (nI j) := by
  have c : (nI j).toNatClampNeg = j := nI_clamp (by omega)
  unfold wpX_freeRow
  dsimp only
  rw [c]
  exact ⟨pk_in j 32 hj, nm_e ⟨pk_in j 32 hj, nm_e h⟩⟩
theorem xw_delete_in {post : Int32 → St2 → Prop} {j : Nat} (hR : R ≤ 32) (hP : P ≤ 16) (hj : j < R)
    (h1 : st j = 1 → post 0 (nI R, nI P, fc, fn, fs, ft, upd st j 0, upd va j 0, cu, ri))
    (h2 : st j = 2 → ro_np st R < P → post 0 (nI R, nI P, fc, fn, fs, ft, upd st j 3, va, cu, ri))
    (h3 : st j = 2 → P ≤ ro_np st R → post (-4) (nI R, nI P, fc, fn, fs, ft, st, va, cu, ri))
    (h4 : ¬ st j = 1 → ¬ st j = 2 → post (-5) (nI R, nI P, fc, fn, fs, ft, st, va, cu, ri)) :
    wpX_delete post (nI R, nI P, fc, fn, fs, ft, st, va, cu, ri) (nI j) := by
  unfold wpX_delete
  dsimp only
  have c : (nI j).toNatClampNeg = j := nI_clamp (by omega)
  have hl := cc_le (fun i => ro_two 1 3 (st i)) R
  refine xw_rowState_in hR hj (xw_isLive (bo_z (fun e => h4 (fun z => ?_) (fun z => ?_)) (fun e => br_c (fun e1 => xw_freeRow (by omega) (h1 e1)) (fun e1 => xw_np hR ?_))))
  · rw [ro_two_a z] at e; exact absurd e (by decide)
  · rw [ro_two_b z] at e; exact absurd e (by decide)
  · have e2 : st j = 2 := (ro_two_or e).resolve_left e1
    refine pk_lt (ro_np st R) P (fun z => ⟨pk_in j 32 (by omega), nm_r (by rw [c]) (h2 e2 z)⟩) (fun z => h3 e2 z) rfl rfl ?_ (by omega)
    show cc_c (fun i => ro_two 1 3 (st i)) R < 2 ^ 31
    omega
theorem xw_delete_out {post : Int32 → St2 → Prop} {x : Int32} (ho : x < 0 ∨ nI R ≤ x) (h : post (-5) (nI R, fp, fc, fn, fs, ft, st, va, cu, ri)) : wpX_delete post (nI R, fp, fc, fn, fs, ft, st, va, cu, ri) x := by
  unfold wpX_delete
  dsimp only
  exact xw_rowState_out ho (xw_isLive (br_t rfl h))
theorem xw_restore_in {post : Int32 → St2 → Prop} {j : Nat} (hR : R ≤ 32) (hj : j < R)
    (h1 : st j = 3 → post 0 (nI R, fp, fc, fn, fs, ft, upd st j 2, va, cu, ri))
    (h2 : ¬ st j = 3 → post (-5) (nI R, fp, fc, fn, fs, ft, st, va, cu, ri)) :
    wpX_restore post (nI R, fp, fc, fn, fs, ft, st, va, cu, ri) (nI j) := by
  unfold wpX_restore
  dsimp only
  have c : (nI j).toNatClampNeg = j := nI_clamp (by omega)
  exact xw_rowState_in hR hj (br_c (fun e => ⟨pk_in j 32 (by omega), nm_r (by rw [c]) (h1 e)⟩) h2)
theorem xw_restore_out {post : Int32 → St2 → Prop} {x : Int32} (ho : x < 0 ∨ nI R ≤ x) (h : post (-5) (nI R, fp, fc, fn, fs, ft, st, va, cu, ri)) : wpX_restore post (nI R, fp, fc, fn, fs, ft, st, va, cu, ri) x := by
  unfold wpX_restore
  dsimp only
  exact xw_rowState_out ho (br_f (by decide) h)
/-! forgetCut -/
theorem xl_forget {post : Int32 → St2 → Prop} {k : Nat} (hn : n ≤ 16) (h : post 0 (fr, fp, fc, nI (n - 1), fs, ft, st, va, cu_rm cu k n, ri)) : ∀ d m, m + d = n → k < m → wX_forgetCut_15 post fr fp fc (nI n) fs ft (d + 1) (nI m) st va (cu_rm cu k m) ri := by
  intro d
  induction d with
  | zero =>
    intro m hm hk
    obtain rfl : m = n := by omega
    exact pk_le m m (fun _ => nm_r (nn_sub1 (by omega)) h) (fun z => absurd z (by omega))
  | succ d ih =>
    intro m hm hk
    have c : (nI m).toNatClampNeg = m := nI_clamp (by omega)
    have s1 : nI m - 1 = nI (m - 1) := nn_sub1 (by omega)
    have c1 : (nI m - 1).toNatClampNeg = m - 1 := by rw [s1]; exact nI_clamp (by omega)
    exact pk_le n m (fun z => absurd z (by omega)) (fun _ => ⟨pk_in m 16 (by omega), pk_in (m - 1) 16 (by omega) s1, nm_r (by rw [c, c1]; exact cu_rms cu hk) (nm_r (nI_1 m) (ih (m + 1) (by omega) (by omega)))⟩)
theorem xw_forgetCut_in {post : Int32 → St2 → Prop} {j : Nat} (hn : n ≤ 16) (hj : j < n) (h : post 0 (fr, fp, fc, nI (n - 1), fs, ft, st, va, cu_rm cu j n, ri)) : wpX_forgetCut post (fr, fp, fc, nI n, fs, ft, st, va, cu, ri) (nI j) := by
  unfold wpX_forgetCut
  dsimp only
  have t := xl_forget (k := j) hn h (n - (j + 1)) (j + 1) (by omega) (by omega)
  rw [cu_rm0] at t
  exact xw_isCut_in hn hj (br_f (by decide) (nm_r (nI_1 j) ⟨_, t⟩))
theorem xw_forgetCut_out {post : Int32 → St2 → Prop} {x : Int32} (ho : x < 0 ∨ nI n ≤ x) (h : post (-7) (fr, fp, fc, nI n, fs, ft, st, va, cu, ri)) : wpX_forgetCut post (fr, fp, fc, nI n, fs, ft, st, va, cu, ri) x := by
  unfold wpX_forgetCut
  dsimp only
  exact xw_isCut_out ho (br_t rfl h)
/-! addCut -/
theorem xl_shift {post : St2 → Prop} {v : Int32} {p : Nat} (hn : n < 16) (h : post (fr, fp, fc, nI (n + 1), fs, ft, st, va, cu_ins cu n p v, ri)) : ∀ d m, p + d = m → m ≤ n → wX_addCut_40 post v (nI p) fr fp fc (nI n) fs ft (d + 1) (nI m) st va (cu_sh cu n m) ri := by
  intro d
  induction d with
  | zero =>
    intro m hm hk
    obtain rfl : p = m := by omega
    have c : (nI p).toNatClampNeg = p := nI_clamp (by omega)
    exact pk_le p p (fun _ => ⟨pk_in p 16 (by omega), nm_r (by rw [c]; rfl) (nm_r (nI_1 n) h)⟩) (fun z => absurd z (by omega))
  | succ d ih =>
    intro m hm hk
    obtain ⟨l, rfl⟩ : ∃ l, m = l + 1 := ⟨m - 1, by omega⟩
    have c : (nI (l + 1)).toNatClampNeg = l + 1 := nI_clamp (by omega)
    have s1 : nI (l + 1) - 1 = nI l := nI_pred l
    have c1 : (nI (l + 1) - 1).toNatClampNeg = l := by rw [s1]; exact nI_clamp (by omega)
    exact pk_le (l + 1) p (fun z => absurd z (by omega)) (fun _ => ⟨pk_in l 16 (by omega) s1, pk_in (l + 1) 16 (by omega), nm_r (by rw [c, c1]; exact cu_shs cu hk) (nm_r (pk_m1 l) (ih l (by omega) (by omega)))⟩)
theorem xw_add23 {post : St2 → Prop} {v : Int32} {p : Nat} (hC : C ≤ 16) (hn : n ≤ C) (hp : p ≤ n) (h1 : C ≤ n → post (fr, fp, nI C, nI n, fs, ft, st, va, cu, ri)) (h2 : n < C → post (fr, fp, nI C, nI (n + 1), fs, ft, st, va, cu_ins cu n p v, ri)) : wX_addCut_23 post v (nI p) fr fp (nI C) (nI n) fs ft st va cu ri := by
  refine pk_lt n C (fun z => ?_) h1
  have t := xl_shift (p := p) (by omega) (h2 z) (n - p) n (by omega) (Nat.le_refl n)
  rw [cu_sh0] at t
  exact ⟨_, t⟩
theorem xw_addCut {post : St2 → Prop} {v : Int32} (hC : C ≤ 16) (hn : n ≤ C) (ha : cu_asc cu n) (h : post (fr, fp, nI C, nI (cu_N C cu n v), fs, ft, st, va, cu_F C cu n v, ri)) : wpX_addCut post (fr, fp, nI C, nI n, fs, ft, st, va, cu, ri) v := by
  have hl := cu_to_le cu n v
  have K : (0 < cu_to cu n v → ¬ cu (cu_to cu n v - 1) = v) → wX_addCut_23 post v (nI (cu_to cu n v)) fr fp (nI C) (nI n) fs ft st va cu ri := by
    intro hx
    have hh := cu_has_f (cu_noeq ha hx)
    refine xw_add23 hC hn hl (fun z => ?_) (fun z => ?_)
    · unfold cu_N cu_F at h
      rw [if_pos (Or.inr z), if_pos (Or.inr z)] at h
      exact h
    · have hne : ¬ (cu_has cu n v = true ∨ C ≤ n) := by
        intro y
        cases y with
        | inl y => rw [hh] at y; exact absurd y (by decide)
        | inr y => omega
      unfold cu_N cu_F at h
      rw [if_neg hne, if_neg hne] at h
      exact h
  unfold wpX_addCut
  dsimp only
  refine xw_upTo (by omega) (pk_le (cu_to cu n v) 0 (fun z => K (fun y => by omega)) (fun z => ?_))
  have s1 : nI (cu_to cu n v) - 1 = nI (cu_to cu n v - 1) := nn_sub1 z
  have c1 : (nI (cu_to cu n v) - 1).toNatClampNeg = cu_to cu n v - 1 := by rw [s1]; exact nI_clamp (by omega)
  refine ⟨pk_in (cu_to cu n v - 1) 16 (by omega) s1, br_c (fun e => ?_) (fun e => K (fun _ => ?_))⟩
  · rw [c1] at e
    have hh : cu_has cu n v = true := cu_has_t (i := cu_to cu n v - 1) (by omega) e
    unfold cu_N cu_F at h
    rw [if_pos (Or.inl hh), if_pos (Or.inl hh)] at h
    exact h
  · rw [c1] at e; exact e
/-! applyPending -/
theorem xl_apply {post : St2 → Prop} {lo hi : Int32} (hR : R ≤ 32) (h : post (nI R, fp, fc, fn, fs, ft, ro_S lo hi st va R, ro_V lo hi st va R, cu, ri)) : ∀ d i, i + d = R → wX_applyPending_2 post lo hi (d + 1) (nI i) (nI R) fp fc fn fs ft (ro_S lo hi st va i) (ro_V lo hi st va i) cu ri := by
  intro d
  induction d with
  | zero =>
    intro i hd
    obtain rfl : i = R := by omega
    exact pk_le i i (fun _ => h) (fun z => absurd z (by omega))
  | succ d ih =>
    intro i hd
    have t := ih (i + 1) (by omega)
    have c : (nI i).toNatClampNeg = i := nI_clamp (by omega)
    refine pk_le R i (fun z => absurd z (by omega)) (fun _ => ⟨pk_in i 32 (by omega), xw_isInside (bo_z (fun e => nm_r (nI_1 i) ?_) (fun e => ⟨pk_in i 32 (by omega), br_c (fun e1 => ⟨pk_in i 32 (by omega), nm_r (e' := ro_S lo hi st va (i + 1)) ?_ (nm_r (nI_1 i) ?_)⟩) (fun e1 => ⟨pk_in i 32 (by omega), br_c (fun e3 => xw_freeRow (by omega) ?_) (fun e3 => nm_r (nI_1 i) ?_)⟩)⟩))⟩)
    · rw [c, ro_V_at] at e
      rw [ro_Sk (ro_as_out e), ro_Vk (ro_av_out e)]; exact t
    · rw [c, ro_V_at] at e
      rw [c, ro_S_at] at e1
      rw [c]
      exact ro_Ss (ro_as_1 e e1)
    · rw [c, ro_S_at] at e1
      rw [ro_Vk (ro_av_e (by rw [e1]; decide))]
      exact t
    · rw [c, ro_V_at] at e
      rw [c, ro_S_at] at e3
      dsimp only
      rw [ro_Ss (ro_as_3 e e3), ro_Vs (ro_av_3 e e3)]
      exact nm_r (nI_1 i) t
    · rw [c, ro_S_at] at e1 e3
      rw [ro_Sk (ro_as_e e1 e3), ro_Vk (ro_av_e e3)]; exact t
theorem xw_apply {post : St2 → Prop} {lo hi : Int32} (hR : R ≤ 32) (h : post (nI R, fp, fc, fn, fs, ft, ro_S lo hi st va R, ro_V lo hi st va R, cu, ri)) : wpX_applyPending post (nI R, fp, fc, fn, fs, ft, st, va, cu, ri) lo hi := by
  have t := xl_apply hR h R 0 (by omega)
  rw [ro_S0, ro_V0] at t
  exact ⟨_, t⟩
/-! takeResult -/
theorem xl_take {post : St2 → Prop} {lo hi : Int32} {q : Nat → Bool} (hR : R ≤ 32) (hq : ∀ i, i < R → (ro_two 1 2 (st i) && ro_in lo hi (va i)) = q i) (h : ∀ ri', ro_R ri' q R → post (nI R, fp, fc, fn, nI (cc_c q R), ro_T q va R, st, va, cu, ri')) : ∀ d i ri', i + d = R → ro_R ri' q i → wX_takeResult_12 post lo hi (nI R) fp fc fn (d + 1) (nI i) (nI (cc_c q i)) (ro_T q va i) st va cu ri' := by
  intro d
  induction d with
  | zero =>
    intro i ri' hd hr
    obtain rfl : i = R := by omega
    exact pk_le i i (fun _ => h ri' hr) (fun z => absurd z (by omega))
  | succ d ih =>
    intro i ri' hd hr
    have c : (nI i).toNatClampNeg = i := nI_clamp (by omega)
    have hl := cc_le q i
    have cq : (nI (cc_c q i)).toNatClampNeg = cc_c q i := nI_clamp (by omega)
    have Q := hq i (by omega)
    refine pk_le R i (fun z => absurd z (by omega)) (fun _ => ⟨pk_in i 32 (by omega), xw_isLive (bo_z (fun e => nm_r (nI_1 i) ?_) (fun e => ⟨pk_in i 32 (by omega), xw_isInside (bo_z (fun e2 => nm_r (nI_1 i) ?_) (fun e2 => ?_))⟩))⟩)
    · rw [c] at e
      rw [e] at Q
      rw [cc_nf (q := q) Q.symm, ← ro_Tf (va := va) Q.symm]
      exact ih (i + 1) ri' (by omega) (ro_Rf hr Q.symm)
    · rw [c] at e e2
      rw [e, e2] at Q
      rw [cc_nf (q := q) Q.symm, ← ro_Tf (va := va) Q.symm]
      exact ih (i + 1) ri' (by omega) (ro_Rf hr Q.symm)
    · rw [c] at e e2
      rw [e, e2] at Q
      have t := ih (i + 1) (upd ri' (cc_c q i) (nI i)) (by omega) (ro_Rt hr Q.symm)
      refine ⟨pk_in (cc_c q i) 32 (by omega), nm_r (by rw [cq]) (nm_r (cc_nt Q.symm) ⟨pk_in i 32 (by omega), nm_r ?_ (nm_r (nI_1 i) t)⟩)⟩
      rw [c]
      exact (ro_Tt Q.symm).symm
theorem xw_take {post : St2 → Prop} {lo hi : Int32} {q : Nat → Bool} (hR : R ≤ 32) (hq : ∀ i, i < R → (ro_two 1 2 (st i) && ro_in lo hi (va i)) = q i) (h : ∀ ri', ro_R ri' q R → post (nI R, fp, fc, fn, nI (cc_c q R), ro_T q va R, st, va, cu, ri')) : wpX_takeResult post (nI R, fp, fc, fn, fs, ft, st, va, cu, ri) lo hi :=
  ⟨R + 1, xl_take hR hq h R 0 ri (by omega) ro_R0⟩
/-! select -/
theorem xw_select {post : Int32 → St2 → Prop} {lo hi : Int32} {q : Nat → Bool} (hR : R ≤ 32) (hC : C ≤ 16) (hn : n ≤ C) (ha : cu_asc cu n)
    (hq : ∀ i, i < R → (ro_two 1 2 (ro_S lo hi st va R i) && ro_in lo hi (ro_V lo hi st va R i)) = q i)
    (h0 : ¬ lo < hi → post (-6) (nI R, fp, nI C, nI n, fs, ft, st, va, cu, ri))
    (h : lo < hi → ∀ ri', ro_R ri' q R → post (nI (cc_c q R)) (nI R, fp, nI C, nI (cu_N C (cu_F C cu n lo) (cu_N C cu n lo) hi), nI (cc_c q R), ro_T q (ro_V lo hi st va R) R, ro_S lo hi st va R, ro_V lo hi st va R, cu_F C (cu_F C cu n lo) (cu_N C cu n lo) hi, ri')) :
    wpX_select post (nI R, fp, nI C, nI n, fs, ft, st, va, cu, ri) lo hi := by
  unfold wpX_select
  dsimp only
  refine br_c (fun e => xw_apply hR ?_) h0
  dsimp only
  refine xw_addCut hC hn ha ?_
  dsimp only
  refine xw_addCut hC (cu_N_le hn) (cu_F_asc ha) ?_
  dsimp only
  refine xw_take hR hq (fun ri' hr => ?_)
  exact h e ri' hr
theorem xw_resultRow_in {post : Int32 → Prop} {j s : Nat} (hs : s ≤ 32) (hj : j < s) (h : post (ri j)) : wpX_resultRow post (fr, fp, fc, fn, nI s, ft, st, va, cu, ri) (nI j) := by
  have c : (nI j).toNatClampNeg = j := nI_clamp (by omega)
  refine br_f (nI_pos (by omega)) (pk_lt j s (fun _ => ⟨pk_in j 32 (by omega), ?_⟩) (fun z => absurd z (by omega)))
  rw [c]; exact h
theorem xw_resultRow_out {post : Int32 → Prop} {x : Int32} {s : Nat} (ho : x < 0 ∨ nI s ≤ x) (h : post (-1)) : wpX_resultRow post (fr, fp, fc, fn, nI s, ft, st, va, cu, ri) x :=
  br_c (fun _ => h) (fun e => br_f (Int32.not_lt.mpr (ho.resolve_left e)) h)
end
