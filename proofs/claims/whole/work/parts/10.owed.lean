/-! what is owed, a method each -/
theorem i_vc_insert {k : Nat} {u : SX} {v : SY} (I : i_Rel k u v) (hk : k + 3 ≤ 1539) (v1 : Int32) : wpX_insert (fun r u' => wpY_insert (fun r' v' => r' = r ∧ i_Rel (k + 3) u' v') v v1) u v1 := by
  obtain ⟨R, P, C, n, t, st, va, cu, ri, ir, g, rfl, rfl, K, hr⟩ := I
  have hR := K.1.2
  have hP := K.2.1.2
  have hv := K.2.2.2.2.1
  have hp := K.2.2.2.2.2.2.1
  refine xw_insert hR hP (fun e => ?_) (fun ne hn => ?_) (fun j ne hj e0 hm hq => ?_) (fun j ne hj e0 hm hq => ?_)
  · exact yw_insert hR hP hv (fun _ => ⟨rfl, R, P, C, n, t, st, va, cu, ri, ir, g, rfl, rfl, K, hr⟩) (fun ne => absurd e ne) (fun _ ne => absurd e ne) (fun _ ne => absurd e ne)
  · exact yw_insert hR hP hv (fun e => absurd e ne) (fun _ _ => ⟨rfl, R, P, C, n, t, st, va, cu, ri, ir, g, rfl, rfl, K, hr⟩) (fun j _ hj e0 => absurd e0 (hn j hj)) (fun j _ hj e0 => absurd e0 (hn j hj))
  · exact yw_insert hR hP hv (fun e => absurd e ne) (fun _ hn => absurd e0 (hn j hj)) (fun _ _ _ _ _ _ => ⟨rfl, R, P, C, n, t, st, va, cu, ri, ir, g, rfl, rfl, K, hr⟩) (fun _ _ _ _ _ hz => absurd (Nat.le_antisymm hp hq) hz)
  · refine yw_insert hR hP hv (fun e => absurd e ne) (fun _ hn => absurd e0 (hn j hj)) (fun _ _ _ _ _ hz => absurd hz (by omega)) (fun i _ hi f0 hl _ => ?_)
    have e : i = j := by
      rcases Nat.lt_trichotomy i j with a | a | a
      · exact absurd f0 (hm i a)
      · exact a
      · exact absurd e0 (hl j a)
    rw [e]
    exact ⟨rfl, R, P, C, n, t, upd st j 1, upd va j v1, cu, ri, ir, g, rfl, rfl, re_ins K hj e0 ne hq, hr⟩
theorem i_vc_delete {k : Nat} {u : SX} {v : SY} (I : i_Rel k u v) (hk : k + 3 ≤ 1539) (v1 : Int32) : wpX_delete (fun r u' => wpY_delete (fun r' v' => r' = r ∧ i_Rel (k + 3) u' v') v v1) u v1 := by
  obtain ⟨R, P, C, n, t, st, va, cu, ri, ir, g, rfl, rfl, K, hr⟩ := I
  have hR := K.1.2
  have hP := K.2.1.2
  have hv := K.2.2.2.2.1
  have hp := K.2.2.2.2.2.2.1
  have out : v1 < 0 ∨ nI R ≤ v1 → wpX_delete (fun r u' => wpY_delete (fun r' v' => r' = r ∧ i_Rel (k + 3) u' v') (nI R, nI P, nI C, t, nI n, st, va, ir, g) v1) (nI R, nI P, nI C, nI n, nI (cc_c (re_mk ir) R), t, st, va, cu, ri) v1 := fun ho => xw_delete_out ho (yw_delete_out ho ⟨rfl, R, P, C, n, t, st, va, cu, ri, ir, g, rfl, rfl, K, hr⟩)
  rcases pk_ix v1 (n := R) (by omega) with a | a | ⟨j, hj, rfl⟩
  · exact out (Or.inl a)
  · exact out (Or.inr a)
  · refine xw_delete_in hR hP hj (fun e => ?_) (fun e hq => ?_) (fun e hq => ?_) (fun e1 e2 => ?_)
    · exact yw_delete_in hR hP hj hv (fun _ => ⟨rfl, R, P, C, n, t, upd st j 0, upd va j 0, cu, ri, ir, g, rfl, rfl, re_del1 K hj e, hr⟩) (fun z => absurd (e.symm.trans z) (by decide)) (fun z => absurd (e.symm.trans z) (by decide)) (fun z => absurd e z)
    · exact yw_delete_in hR hP hj hv (fun z => absurd (e.symm.trans z) (by decide)) (fun _ _ => ⟨rfl, R, P, C, n, t, upd st j 3, va, cu, ri, ir, g, rfl, rfl, re_del2 K hj e hq, hr⟩) (fun _ z => absurd z (by omega)) (fun _ z => absurd e z)
    · exact yw_delete_in hR hP hj hv (fun z => absurd (e.symm.trans z) (by decide)) (fun _ z => absurd (Nat.le_antisymm hp hq) z) (fun _ _ => ⟨rfl, R, P, C, n, t, st, va, cu, ri, ir, g, rfl, rfl, K, hr⟩) (fun _ z => absurd e z)
    · exact yw_delete_in hR hP hj hv (fun z => absurd z e1) (fun z => absurd z e2) (fun z => absurd z e2) (fun _ _ => ⟨rfl, R, P, C, n, t, st, va, cu, ri, ir, g, rfl, rfl, K, hr⟩)
theorem i_vc_restore {k : Nat} {u : SX} {v : SY} (I : i_Rel k u v) (hk : k + 3 ≤ 1539) (v1 : Int32) : wpX_restore (fun r u' => wpY_restore (fun r' v' => r' = r ∧ i_Rel (k + 3) u' v') v v1) u v1 := by
  obtain ⟨R, P, C, n, t, st, va, cu, ri, ir, g, rfl, rfl, K, hr⟩ := I
  have hR := K.1.2
  have out : v1 < 0 ∨ nI R ≤ v1 → wpX_restore (fun r u' => wpY_restore (fun r' v' => r' = r ∧ i_Rel (k + 3) u' v') (nI R, nI P, nI C, t, nI n, st, va, ir, g) v1) (nI R, nI P, nI C, nI n, nI (cc_c (re_mk ir) R), t, st, va, cu, ri) v1 := fun ho => xw_restore_out ho (yw_restore_out ho ⟨rfl, R, P, C, n, t, st, va, cu, ri, ir, g, rfl, rfl, K, hr⟩)
  rcases pk_ix v1 (n := R) (by omega) with a | a | ⟨j, hj, rfl⟩
  · exact out (Or.inl a)
  · exact out (Or.inr a)
  · exact xw_restore_in hR hj (fun e => yw_restore_in hR hj (fun _ => ⟨rfl, R, P, C, n, t, upd st j 2, va, cu, ri, ir, g, rfl, rfl, re_res K hj e, hr⟩) (fun z => absurd e z)) (fun e => yw_restore_in hR hj (fun z => absurd z e) (fun _ => ⟨rfl, R, P, C, n, t, st, va, cu, ri, ir, g, rfl, rfl, K, hr⟩))
theorem i_vc_select {k : Nat} {u : SX} {v : SY} (I : i_Rel k u v) (hk : k + 3 ≤ 1539) (v1 : Int32) (v2 : Int32) : wpX_select (fun r u' => wpY_select (fun r' v' => r' = r ∧ i_Rel (k + 3) u' v') v v1 v2) u v1 v2 := by
  obtain ⟨R, P, C, n, t, st, va, cu, ri, ir, g, rfl, rfl, K, hr⟩ := I
  have hR := K.1.2
  have hC := K.2.2.1.2
  have hn := K.2.2.2.1
  have ha := K.2.2.2.2.2.2.2.1
  have hs := K.2.2.2.2.2.2.2.2
  have hq2 : ∀ i, i < R → (decide (ro_S v1 v2 st va R i = 2) && ro_in v1 v2 (ro_V v1 v2 st va R i)) = (ro_two 1 2 (ro_S v1 v2 st va R i) && ro_in v1 v2 (ro_V v1 v2 st va R i)) := by
    intro i hi
    rw [ro_S_lt hi, ro_V_lt hi]
    exact re_q2
  refine xw_select (q := fun i => ro_two 1 2 (ro_S v1 v2 st va R i) && ro_in v1 v2 (ro_V v1 v2 st va R i)) hR hC hn ha (fun _ _ => rfl) (fun e => ?_) (fun e ri' hr' => ?_)
  · exact yw_select (q := fun i => ro_two 1 2 (ro_S v1 v2 st va R i) && ro_in v1 v2 (ro_V v1 v2 st va R i)) hR hC hn (fun _ _ => rfl) hq2 (fun _ => ⟨rfl, R, P, C, n, t, st, va, cu, ri, ir, g, rfl, rfl, K, hr⟩) (fun z => absurd z e)
  · refine yw_select (q := fun i => ro_two 1 2 (ro_S v1 v2 st va R i) && ro_in v1 v2 (ro_V v1 v2 st va R i)) hR hC hn (fun _ _ => rfl) hq2 (fun z => absurd e z) (fun _ ir' hi => ⟨rfl, ?_⟩)
    have mk : ∀ i, i < R → re_mk ir' i = (ro_two 1 2 (ro_S v1 v2 st va R i) && ro_in v1 v2 (ro_V v1 v2 st va R i)) := by
      intro i hd
      show (!decide (ir' i = 0)) = _
      rw [hi i hd]
      exact re_bo _
    refine ⟨R, P, C, cu_N C (cu_F C cu n v1) (cu_N C cu n v1) v2, ro_T (fun i => ro_two 1 2 (ro_S v1 v2 st va R i) && ro_in v1 v2 (ro_V v1 v2 st va R i)) (ro_V v1 v2 st va R) R, ro_S v1 v2 st va R, ro_V v1 v2 st va R, cu_F C (cu_F C cu n v1) (cu_N C cu n v1) v2, ri', ir', cu_G C (cu_G C g n v1) (cu_N C cu n v1) v2, ?_, ?_, re_sel K, ro_Rc hr' mk⟩
    · rw [cc_congr R mk]
    · rw [cu_same_N hs v1, cu_same_N (cu_same_F hs v1) v2]
theorem i_vc_resultRow {k : Nat} {u : SX} {v : SY} (I : i_Rel k u v) (hk : k + 3 ≤ 1539) (v1 : Int32) : wpX_resultRow (fun r => wpY_resultRow (fun r' => r' = r ∧ i_Rel (k + 3) u v) v v1) u v1 := by
  have J := i_up I
  revert J
  obtain ⟨R, P, C, n, t, st, va, cu, ri, ir, g, rfl, rfl, K, hr⟩ := I
  intro J
  have hR := K.1.2
  have hl := cc_le (re_mk ir) R
  have low : ∀ i, i < R → re_mk ir i = true → cc_c (re_mk ir) i < cc_c (re_mk ir) R := by
    intro i hi h
    have a := cc_up (q := re_mk ir) (a := i + 1) (b := R) (by omega)
    rw [cc_t h] at a
    omega
  have out : v1 < 0 ∨ nI (cc_c (re_mk ir) R) ≤ v1 → wpX_resultRow (fun r => wpY_resultRow (fun r' => r' = r ∧ i_Rel (k + 3) (nI R, nI P, nI C, nI n, nI (cc_c (re_mk ir) R), t, st, va, cu, ri) (nI R, nI P, nI C, t, nI n, st, va, ir, g)) (nI R, nI P, nI C, t, nI n, st, va, ir, g) v1) (nI R, nI P, nI C, nI n, nI (cc_c (re_mk ir) R), t, st, va, cu, ri) v1 := by
    intro ho
    refine xw_resultRow_out ho (yw_resultRow (q := re_mk ir) hR (fun _ _ => rfl) (fun _ => ⟨rfl, J⟩) (fun i hi h e => ?_))
    have a := low i hi h
    rw [← e] at ho
    cases ho with
    | inl w => exact absurd w (nI_pos (by omega))
    | inr w => exact absurd w (nI_ge a (by omega))
  rcases pk_ix v1 (n := cc_c (re_mk ir) R) (by omega) with a | a | ⟨j, hj, rfl⟩
  · exact out (Or.inl a)
  · exact out (Or.inr a)
  · obtain ⟨i, hi, hq, e⟩ := cc_at R j hj
    have er : ri j = nI i := by rw [← e]; exact hr i hi hq
    refine xw_resultRow_in (by omega) hj (yw_resultRow (q := re_mk ir) hR (fun _ _ => rfl) (fun z => absurd (by rw [e]) (z i hi hq)) (fun l hl2 hq2 e2 => ⟨?_, J⟩))
    have a := low l hl2 hq2
    have e3 := (nI_eq (by omega) (by omega)).mp e2
    rw [er, cc_inj hq2 hq (e3.trans e.symm)]
theorem i_vc_resultSum {k : Nat} {u : SX} {v : SY} (I : i_Rel k u v) (hk : k + 3 ≤ 1539) : wpX_resultSum (fun r => wpY_resultSum (fun r' => r' = r ∧ i_Rel (k + 3) u v) v) u := by
  have J := i_up I
  revert J
  obtain ⟨R, P, C, n, t, st, va, cu, ri, ir, g, rfl, rfl, K, hr⟩ := I
  intro J
  exact ⟨rfl, J⟩
theorem i_vc_count {k : Nat} {u : SX} {v : SY} (I : i_Rel k u v) (hk : k + 3 ≤ 1539) (v1 : Int32) (v2 : Int32) : wpX_count (fun r => wpY_count (fun r' => r' = r ∧ i_Rel (k + 3) u v) v v1 v2) u v1 v2 := by
  have J := i_up I
  revert J
  obtain ⟨R, P, C, n, t, st, va, cu, ri, ir, g, rfl, rfl, K, hr⟩ := I
  intro J
  have hR := K.1.2
  exact xw_count (q := fun i => ro_two 1 2 (st i) && ro_in v1 v2 (va i)) hR (fun _ _ => rfl)
    (fun e => yw_count (q := fun i => ro_two 1 2 (st i) && ro_in v1 v2 (va i)) hR (fun _ _ => rfl) (fun _ => ⟨rfl, J⟩) (fun z => absurd z e))
    (fun e => yw_count (q := fun i => ro_two 1 2 (st i) && ro_in v1 v2 (va i)) hR (fun _ _ => rfl) (fun z => absurd e z) (fun _ => ⟨rfl, J⟩))
theorem i_vc_forgetCut {k : Nat} {u : SX} {v : SY} (I : i_Rel k u v) (hk : k + 3 ≤ 1539) (v1 : Int32) : wpX_forgetCut (fun r u' => wpY_forgetCut (fun r' v' => r' = r ∧ i_Rel (k + 3) u' v') v v1) u v1 := by
  obtain ⟨R, P, C, n, t, st, va, cu, ri, ir, g, rfl, rfl, K, hr⟩ := I
  have hn : n ≤ 16 := Nat.le_trans K.2.2.2.1 K.2.2.1.2
  have ha := K.2.2.2.2.2.2.2.1
  have hs := K.2.2.2.2.2.2.2.2
  have out : v1 < 0 ∨ nI n ≤ v1 → wpX_forgetCut (fun r u' => wpY_forgetCut (fun r' v' => r' = r ∧ i_Rel (k + 3) u' v') (nI R, nI P, nI C, t, nI n, st, va, ir, g) v1) (nI R, nI P, nI C, nI n, nI (cc_c (re_mk ir) R), t, st, va, cu, ri) v1 := fun ho => xw_forgetCut_out ho (yw_forgetCut_out hn ha hs ho ⟨rfl, R, P, C, n, t, st, va, cu, ri, ir, g, rfl, rfl, K, hr⟩)
  rcases pk_ix v1 (n := n) (by omega) with a | a | ⟨j, hj, rfl⟩
  · exact out (Or.inl a)
  · exact out (Or.inr a)
  · exact xw_forgetCut_in hn hj (yw_forgetCut_in hn ha hs hj (fun i hi e => ⟨rfl, R, P, C, n - 1, t, st, va, cu_rm cu j n, ri, ir, upd g i (g (n - 1)), rfl, rfl, re_fgt K hj hi e, hr⟩))
theorem i_vc_cutCount {k : Nat} {u : SX} {v : SY} (I : i_Rel k u v) (hk : k + 3 ≤ 1539) : wpX_cutCount (fun r => wpY_cutCount (fun r' => r' = r ∧ i_Rel (k + 3) u v) v) u := by
  have J := i_up I
  revert J
  obtain ⟨R, P, C, n, t, st, va, cu, ri, ir, g, rfl, rfl, K, hr⟩ := I
  intro J
  exact ⟨rfl, J⟩
theorem i_vc_cutValue {k : Nat} {u : SX} {v : SY} (I : i_Rel k u v) (hk : k + 3 ≤ 1539) (v1 : Int32) : wpX_cutValue (fun r => wpY_cutValue (fun r' => r' = r ∧ i_Rel (k + 3) u v) v v1) u v1 := by
  have J := i_up I
  revert J
  obtain ⟨R, P, C, n, t, st, va, cu, ri, ir, g, rfl, rfl, K, hr⟩ := I
  intro J
  have hR := K.1.2
  have hn : n ≤ 16 := Nat.le_trans K.2.2.2.1 K.2.2.1.2
  have hf := K.2.2.2.2.2.1
  have ha := K.2.2.2.2.2.2.2.1
  have hs := K.2.2.2.2.2.2.2.2
  have out : v1 < 0 ∨ nI n ≤ v1 → wpX_cutValue (fun r => wpY_cutValue (fun r' => r' = r ∧ i_Rel (k + 3) (nI R, nI P, nI C, nI n, nI (cc_c (re_mk ir) R), t, st, va, cu, ri) (nI R, nI P, nI C, t, nI n, st, va, ir, g)) (nI R, nI P, nI C, t, nI n, st, va, ir, g) v1) (nI R, nI P, nI C, nI n, nI (cc_c (re_mk ir) R), t, st, va, cu, ri) v1 := fun ho => xw_cutValue_out ho (yw_cutValue_out hn ha hs ho ⟨rfl, J⟩)
  rcases pk_ix v1 (n := n) (by omega) with a | a | ⟨j, hj, rfl⟩
  · exact out (Or.inl a)
  · exact out (Or.inr a)
  · exact xw_cutValue_in hn hj (yw_cutValue_in hn ha hs hj ⟨rfl, J⟩)
theorem i_vc_cutBelow {k : Nat} {u : SX} {v : SY} (I : i_Rel k u v) (hk : k + 3 ≤ 1539) (v1 : Int32) : wpX_cutBelow (fun r => wpY_cutBelow (fun r' => r' = r ∧ i_Rel (k + 3) u v) v v1) u v1 := by
  have J := i_up I
  revert J
  obtain ⟨R, P, C, n, t, st, va, cu, ri, ir, g, rfl, rfl, K, hr⟩ := I
  intro J
  have hR := K.1.2
  have hn : n ≤ 16 := Nat.le_trans K.2.2.2.1 K.2.2.1.2
  have hf := K.2.2.2.2.2.1
  have ha := K.2.2.2.2.2.2.2.1
  have hs := K.2.2.2.2.2.2.2.2
  have out : v1 < 0 ∨ nI n ≤ v1 → wpX_cutBelow (fun r => wpY_cutBelow (fun r' => r' = r ∧ i_Rel (k + 3) (nI R, nI P, nI C, nI n, nI (cc_c (re_mk ir) R), t, st, va, cu, ri) (nI R, nI P, nI C, t, nI n, st, va, ir, g)) (nI R, nI P, nI C, t, nI n, st, va, ir, g) v1) (nI R, nI P, nI C, nI n, nI (cc_c (re_mk ir) R), t, st, va, cu, ri) v1 := fun ho => xw_cutBelow_out ho (yw_cutBelow_out hn ha hs ho ⟨rfl, J⟩)
  rcases pk_ix v1 (n := n) (by omega) with a | a | ⟨j, hj, rfl⟩
  · exact out (Or.inl a)
  · exact out (Or.inr a)
  · exact xw_cutBelow_in (q := fun i => ro_two 2 3 (st i) && decide (va i < cu j)) hR hn hj (fun _ _ => rfl) (yw_cutBelow_in (q := fun i => ro_two 2 3 (st i) && decide (va i < cu j)) hR hn ha hs hj (fun _ _ => rfl) ⟨rfl, J⟩)
theorem i_vc_pieceOf {k : Nat} {u : SX} {v : SY} (I : i_Rel k u v) (hk : k + 3 ≤ 1539) (v1 : Int32) : wpX_pieceOf (fun r => wpY_pieceOf (fun r' => r' = r ∧ i_Rel (k + 3) u v) v v1) u v1 := by
  have J := i_up I
  revert J
  obtain ⟨R, P, C, n, t, st, va, cu, ri, ir, g, rfl, rfl, K, hr⟩ := I
  intro J
  have hR := K.1.2
  have hn : n ≤ 16 := Nat.le_trans K.2.2.2.1 K.2.2.1.2
  have hf := K.2.2.2.2.2.1
  have ha := K.2.2.2.2.2.2.2.1
  have hs := K.2.2.2.2.2.2.2.2
  have out : v1 < 0 ∨ nI R ≤ v1 → wpX_pieceOf (fun r => wpY_pieceOf (fun r' => r' = r ∧ i_Rel (k + 3) (nI R, nI P, nI C, nI n, nI (cc_c (re_mk ir) R), t, st, va, cu, ri) (nI R, nI P, nI C, t, nI n, st, va, ir, g)) (nI R, nI P, nI C, t, nI n, st, va, ir, g) v1) (nI R, nI P, nI C, nI n, nI (cc_c (re_mk ir) R), t, st, va, cu, ri) v1 := fun ho => xw_pieceOf_out ho (yw_pieceOf_out ho ⟨rfl, J⟩)
  rcases pk_ix v1 (n := R) (by omega) with a | a | ⟨j, hj, rfl⟩
  · exact out (Or.inl a)
  · exact out (Or.inr a)
  · exact xw_pieceOf_in hR hn hj (fun e => yw_pieceOf_in hR hn hj (fun _ => ⟨rfl, J⟩) (fun z => absurd (e.symm.trans z) (by decide))) (fun e => yw_pieceOf_in hR hn hj (fun z => absurd (e.symm.trans z) (by decide)) (fun _ => ⟨by rw [cu_same_to hs], J⟩))
theorem i_vc_rowState {k : Nat} {u : SX} {v : SY} (I : i_Rel k u v) (hk : k + 3 ≤ 1539) (v1 : Int32) : wpX_rowState (fun r => wpY_rowState (fun r' => r' = r ∧ i_Rel (k + 3) u v) v v1) u v1 := by
  have J := i_up I
  revert J
  obtain ⟨R, P, C, n, t, st, va, cu, ri, ir, g, rfl, rfl, K, hr⟩ := I
  intro J
  have hR := K.1.2
  have hn : n ≤ 16 := Nat.le_trans K.2.2.2.1 K.2.2.1.2
  have hf := K.2.2.2.2.2.1
  have ha := K.2.2.2.2.2.2.2.1
  have hs := K.2.2.2.2.2.2.2.2
  have out : v1 < 0 ∨ nI R ≤ v1 → wpX_rowState (fun r => wpY_rowState (fun r' => r' = r ∧ i_Rel (k + 3) (nI R, nI P, nI C, nI n, nI (cc_c (re_mk ir) R), t, st, va, cu, ri) (nI R, nI P, nI C, t, nI n, st, va, ir, g)) (nI R, nI P, nI C, t, nI n, st, va, ir, g) v1) (nI R, nI P, nI C, nI n, nI (cc_c (re_mk ir) R), t, st, va, cu, ri) v1 := fun ho => xw_rowState_out ho (yw_rowState_out ho ⟨rfl, J⟩)
  rcases pk_ix v1 (n := R) (by omega) with a | a | ⟨j, hj, rfl⟩
  · exact out (Or.inl a)
  · exact out (Or.inr a)
  · exact xw_rowState_in hR hj (yw_rowState_in hR hj ⟨rfl, J⟩)
theorem i_vc_rowValue {k : Nat} {u : SX} {v : SY} (I : i_Rel k u v) (hk : k + 3 ≤ 1539) (v1 : Int32) : wpX_rowValue (fun r => wpY_rowValue (fun r' => r' = r ∧ i_Rel (k + 3) u v) v v1) u v1 := by
  have J := i_up I
  revert J
  obtain ⟨R, P, C, n, t, st, va, cu, ri, ir, g, rfl, rfl, K, hr⟩ := I
  intro J
  have hR := K.1.2
  have hn : n ≤ 16 := Nat.le_trans K.2.2.2.1 K.2.2.1.2
  have hf := K.2.2.2.2.2.1
  have ha := K.2.2.2.2.2.2.2.1
  have hs := K.2.2.2.2.2.2.2.2
  have out : v1 < 0 ∨ nI R ≤ v1 → wpX_rowValue (fun r => wpY_rowValue (fun r' => r' = r ∧ i_Rel (k + 3) (nI R, nI P, nI C, nI n, nI (cc_c (re_mk ir) R), t, st, va, cu, ri) (nI R, nI P, nI C, t, nI n, st, va, ir, g)) (nI R, nI P, nI C, t, nI n, st, va, ir, g) v1) (nI R, nI P, nI C, nI n, nI (cc_c (re_mk ir) R), t, st, va, cu, ri) v1 := fun ho => xw_rowValue_out ho (yw_rowValue_out ho ⟨rfl, J⟩)
  rcases pk_ix v1 (n := R) (by omega) with a | a | ⟨j, hj, rfl⟩
  · exact out (Or.inl a)
  · exact out (Or.inr a)
  · exact xw_rowValue_in hR hj (yw_rowValue_in hR hj (hf j hj) ⟨rfl, J⟩)
theorem i_vc_storedCount {k : Nat} {u : SX} {v : SY} (I : i_Rel k u v) (hk : k + 3 ≤ 1539) : wpX_storedCount (fun r => wpY_storedCount (fun r' => r' = r ∧ i_Rel (k + 3) u v) v) u := by
  have J := i_up I
  revert J
  obtain ⟨R, P, C, n, t, st, va, cu, ri, ir, g, rfl, rfl, K, hr⟩ := I
  intro J
  have hR := K.1.2
  have hv := K.2.2.2.2.1
  exact xw_ns (q := fun i => ro_two 2 3 (st i)) hR (fun _ _ => rfl) (yw_ns (q := fun i => ro_two 2 3 (st i)) hR hv (fun _ _ => rfl) ⟨rfl, J⟩)
theorem i_vc_pendingCount {k : Nat} {u : SX} {v : SY} (I : i_Rel k u v) (hk : k + 3 ≤ 1539) : wpX_pendingCount (fun r => wpY_pendingCount (fun r' => r' = r ∧ i_Rel (k + 3) u v) v) u := by
  have J := i_up I
  revert J
  obtain ⟨R, P, C, n, t, st, va, cu, ri, ir, g, rfl, rfl, K, hr⟩ := I
  intro J
  have hR := K.1.2
  have hv := K.2.2.2.2.1
  exact xw_np hR (yw_np hR hv ⟨rfl, J⟩)
