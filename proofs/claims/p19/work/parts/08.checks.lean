/-! the law's checks of a state -/
section
variable {post : Int32 → Prop} {L : Nat} {xs : Nat → Int32} {J91 : Int32 → Int32 → Int32 → Int32 → Int32 → Int32 → Int32 → Int64 → (Nat → Int32) → (Nat → Int32) → (Nat → Int32) → (Nat → Int32) → Int32 → Int32 → Int32 → Int32 → Int32 → Int64 → (Nat → Int32) → (Nat → Int32) → (Nat → Int32) → (Nat → Int32) → Prop} {x9 x10 : Int32} {kc ks : Nat} {R P C n : Nat} {fs gs : Int32} {ft gt : Int64} {st va cu ri rj : Nat → Int32}
/-- a row against the cuts -/
theorem li_237 {J165 : Int32 → Int32 → Int32 → Prop} {x12 x13 v : Int32} {i : Nat} (K : mi_K R P C n st cu) (H : J165 x12 x13 (nI (i + 1))) : ∀ d k, k + d = n → wL_law_237 post L xs J91 J165 (nI R) (nI P) (nI C) x9 x10 (nI n) x12 x13 (nI i) (nI (cu_to cu n v)) v kc ks (nI R) (nI P) (nI C) (nI n) fs ft st va cu ri (nI R) (nI P) (nI C) (nI n) gs gt st va cu rj (d + 1) (nI k) := by
  have hn : n ≤ 16 := by have := K.2.2.1.2; have := K.2.2.2.1; omega
  have ha := K.2.2.2.2.2
  have hl := cu_to_le cu n v
  intro d
  induction d with
  | zero =>
    intro k hk
    obtain rfl : k = n := by omega
    exact pk_le k k (fun _ => nm_r (nI_1 i) H) (fun z => absurd z (by omega))
  | succ d ih =>
    intro k hk
    have t := ih (k + 1) (by omega)
    have sp := cu_split (v := v) n ha k (by omega)
    refine pk_le n k (fun z => absurd z (by omega)) (fun _ => xw_cutValue_in hn (by omega) (br_c (fun e => ?_) (fun e => ?_)))
    · exact pk_lt k (cu_to cu n v) (fun _ => br_t rfl (nm_r (nI_1 k) t)) (fun z => absurd (sp.mp e) (by omega))
    · exact pk_lt k (cu_to cu n v) (fun z => absurd (sp.mpr z) e) (fun _ => br_t rfl (nm_r (nI_1 k) t))
theorem li_213 {J165 : Int32 → Int32 → Int32 → Prop} {x12 x13 x16 : Int32} {i : Nat} (K : mi_K R P C n st cu) (hi : i < R) (hx : ro_two 2 3 (st i) = true → x16 = nI (cu_to cu n (va i))) (H : J165 x12 x13 (nI (i + 1))) : wL_law_213 post L xs J91 J165 (nI R) (nI P) (nI C) x9 x10 (nI n) x12 x13 (nI i) (st i) x16 kc ks (nI R) (nI P) (nI C) (nI n) fs ft st va cu ri (nI R) (nI P) (nI C) (nI n) gs gt st va cu rj := by
  have hR := K.1.2
  have join : ro_two 2 3 (st i) = true → wL_law_225 post L xs J91 J165 (nI R) (nI P) (nI C) x9 x10 (nI n) x12 x13 (nI i) x16 kc ks (nI R) (nI P) (nI C) (nI n) fs ft st va cu ri (nI R) (nI P) (nI C) (nI n) gs gt st va cu rj := by
    intro z
    rw [hx z]
    unfold wL_law_225
    exact xw_rowValue_in hR hi ⟨_, li_237 K H n 0 (by omega)⟩
  exact br_c (fun e => join (ro_two_a e)) (fun e => br_c (fun e2 => join (ro_two_b e2)) (fun e2 => nm_r (nI_1 i) H))
theorem li_165 {q s : Nat → Bool} (K : mi_K R P C n st cu) (hs : ∀ i, i < R → ro_two 2 3 (st i) = s i) (hq : ∀ i, i < R → ro_two 1 3 (st i) = q i) (H : ∃ m, wL_law_293 post L xs J91 (nI R) (nI P) (nI C) x9 x10 (nI n) (nI (cc_c s R)) (nI (cc_c q R)) kc ks (nI R) (nI P) (nI C) (nI n) fs ft st va cu ri (nI R) (nI P) (nI C) (nI n) gs gt st va cu rj m 0) : ∀ d i, i + d = R → wL_law_165 post L xs J91 (nI R) (nI P) (nI C) x9 x10 (nI n) kc ks (nI R) (nI P) (nI C) (nI n) fs ft st va cu ri (nI R) (nI P) (nI C) (nI n) gs gt st va cu rj (d + 1) (nI (cc_c s i)) (nI (cc_c q i)) (nI i) := by
  have hR := K.1.2
  have hn : n ≤ 16 := by have := K.2.2.1.2; have := K.2.2.2.1; omega
  intro d
  induction d with
  | zero =>
    intro i hi
    obtain rfl : i = R := by omega
    exact pk_le i i (fun _ => H) (fun z => absurd z (by omega))
  | succ d ih =>
    intro i hi
    have t := ih (i + 1) (by omega)
    have Qs := hs i (by omega)
    have Qq := hq i (by omega)
    have hl := cu_to_le cu n (va i)
    have j198 : ∀ x16 : Int32, (ro_two 2 3 (st i) = true → x16 = nI (cu_to cu n (va i))) → wL_law_198 post L xs J91 (wL_law_165 post L xs J91 (nI R) (nI P) (nI C) x9 x10 (nI n) kc ks (nI R) (nI P) (nI C) (nI n) fs ft st va cu ri (nI R) (nI P) (nI C) (nI n) gs gt st va cu rj (d + 1)) (nI R) (nI P) (nI C) x9 x10 (nI n) (nI (cc_c s (i + 1))) (nI (cc_c q i)) (nI i) (st i) x16 kc ks (nI R) (nI P) (nI C) (nI n) fs ft st va cu ri (nI R) (nI P) (nI C) (nI n) gs gt st va cu rj := by
      intro x16 hx
      have j210 : q i = true → wL_law_210 post L xs J91 (wL_law_165 post L xs J91 (nI R) (nI P) (nI C) x9 x10 (nI n) kc ks (nI R) (nI P) (nI C) (nI n) fs ft st va cu ri (nI R) (nI P) (nI C) (nI n) gs gt st va cu rj (d + 1)) (nI R) (nI P) (nI C) x9 x10 (nI n) (nI (cc_c s (i + 1))) (nI (cc_c q i)) (nI i) (st i) x16 kc ks (nI R) (nI P) (nI C) (nI n) fs ft st va cu ri (nI R) (nI P) (nI C) (nI n) gs gt st va cu rj :=
        fun z => nm_r (cc_nt z) (li_213 K (by omega) hx t)
      refine br_c (fun e => j210 ?_) (fun e => br_c (fun e2 => j210 ?_) (fun e2 => ?_))
      · rw [← Qq]; exact ro_two_a e
      · rw [← Qq]; exact ro_two_b e2
      · rw [ro_two_f e e2] at Qq
        rw [cc_nf (q := q) Qq.symm]
        exact li_213 K (by omega) hx t
    refine pk_le R i (fun z => absurd z (by omega)) (fun _ => xw_rowState_in hR (by omega) (xw_pieceOf_in hR hn (by omega) (fun e => ?_) (fun e => ?_)))
    · rw [e] at Qs
      refine br_t (by decide) ?_
      rw [cc_nf (q := s) Qs.symm]
      exact j198 _ (fun z => absurd (e.symm.trans z) (by decide))
    · rw [e] at Qs
      exact br_f (nI_pos (by omega)) (nm_r (cc_nt Qs.symm) (j198 _ (fun _ => rfl)))
theorem li_122 (K : mi_K R P C n st cu) (H : ∃ m, wL_law_165 post L xs J91 (nI R) (nI P) (nI C) x9 x10 (nI n) kc ks (nI R) (nI P) (nI C) (nI n) fs ft st va cu ri (nI R) (nI P) (nI C) (nI n) gs gt st va cu rj m 0 0 0) : ∀ d i, 1 ≤ i → i ≤ 17 → n ≤ i + d → wL_law_122 post L xs J91 (nI R) (nI P) (nI C) x9 x10 (nI n) kc ks (nI R) (nI P) (nI C) (nI n) fs ft st va cu ri (nI R) (nI P) (nI C) (nI n) gs gt st va cu rj (d + 1) (nI i) := by
  have hn : n ≤ 16 := by have := K.2.2.1.2; have := K.2.2.2.1; omega
  have ha := K.2.2.2.2.2
  intro d
  induction d with
  | zero =>
    intro i h1 h2 h3
    exact pk_le n i (fun _ => H) (fun z => absurd z (by omega))
  | succ d ih =>
    intro i h1 h2 h3
    refine pk_le n i (fun _ => H) (fun z => ?_)
    rw [nn_sub1 (show 0 < i by omega)]
    exact xw_cutValue_in hn (by omega) (xw_cutValue_in hn (by omega) (br_t (ha (i - 1) i (by omega) z) (nm_r (nI_1 i) (ih (i + 1) (by omega) (by omega) (by omega)))))
theorem li_306 {J293 : Int32 → Prop} {x12 x13 : Int32} {k : Nat} {q : Nat → Bool} (K : mi_K R P C n st cu) (hk : k < n) (hq : ∀ i, i < R → (ro_two 2 3 (st i) && decide (va i < cu k)) = q i) (H : J293 (nI (k + 1))) : ∀ d i, i + d = R → wL_law_306 post L xs J91 J293 (nI R) (nI P) (nI C) x9 x10 (nI n) x12 x13 (nI k) kc ks (nI R) (nI P) (nI C) (nI n) fs ft st va cu ri (nI R) (nI P) (nI C) (nI n) gs gt st va cu rj (d + 1) (nI (cc_c q i)) (nI i) := by
  have hR := K.1.2
  have hn : n ≤ 16 := by have := K.2.2.1.2; have := K.2.2.2.1; omega
  have ha := K.2.2.2.2.2
  intro d
  induction d with
  | zero =>
    intro i hi
    obtain rfl : i = R := by omega
    exact pk_le i i (fun _ => xw_cutBelow_in hR hn hk hq (br_t rfl (nm_r (nI_1 k) H))) (fun z => absurd z (by omega))
  | succ d ih =>
    intro i hi
    have t := ih (i + 1) (by omega)
    have Q := hq i (by omega)
    have hl := cu_to_le cu n (va i)
    have sp := cu_split (v := va i) n ha k hk
    refine pk_le R i (fun z => absurd z (by omega)) (fun _ => xw_pieceOf_in hR hn (by omega) (fun e => ?_) (fun e => ?_))
    · rw [e] at Q
      refine br_t (by decide) (nm_r (nI_1 i) ?_)
      rw [cc_nf (q := q) Q.symm]; exact t
    · rw [e] at Q
      refine br_f (nI_pos (by omega)) (pk_lt k (cu_to cu n (va i)) (fun z => nm_r (nI_1 i) ?_) (fun z => nm_r ?_ (nm_r (nI_1 i) t)))
      · rw [decide_eq_false (Int32.not_lt.mpr (sp.mpr z))] at Q
        rw [cc_nf (q := q) Q.symm]; exact t
      · rw [decide_eq_true (Int32.not_le.mp (fun y => absurd (sp.mp y) (by omega)))] at Q
        exact cc_nt Q.symm
end
