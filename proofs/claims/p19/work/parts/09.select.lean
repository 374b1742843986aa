/-! a select and its checks -/
section
variable {post : Int32 → Prop} {L : Nat} {xs : Nat → Int32} {J91 : Int32 → Int32 → Int32 → Int32 → Int32 → Int32 → Int32 → Int64 → (Nat → Int32) → (Nat → Int32) → (Nat → Int32) → (Nat → Int32) → Int32 → Int32 → Int32 → Int32 → Int32 → Int64 → (Nat → Int32) → (Nat → Int32) → (Nat → Int32) → (Nat → Int32) → Prop} {x9 x10 : Int32} {kc ks : Nat} {R P C n : Nat} {fs gs : Int32} {ft gt : Int64} {st va cu ri rj : Nat → Int32}
/-- what the law asks behind a turn -/
def li_J (J91 : Int32 → Int32 → Int32 → Int32 → Int32 → Int32 → Int32 → Int64 → (Nat → Int32) → (Nat → Int32) → (Nat → Int32) → (Nat → Int32) → Int32 → Int32 → Int32 → Int32 → Int32 → Int64 → (Nat → Int32) → (Nat → Int32) → (Nat → Int32) → (Nat → Int32) → Prop) (x10 : Int32) (R P C b : Nat) : Prop := ∀ (p n : Nat) (fs gs : Int32) (ft gt : Int64) (st va cu ri rj : Nat → Int32), p ≤ b → mi_K R P C n st cu → J91 (nI p) (x10 + 1) (nI R) (nI P) (nI C) (nI n) fs ft st va cu ri (nI R) (nI P) (nI C) (nI n) gs gt st va cu rj
theorem li_q {lo hi s x : Int32} : (ro_two 1 2 (ro_as lo hi s x) && ro_in lo hi (ro_av lo hi s x)) = (ro_two 1 2 s && ro_in lo hi x) := by
  by_cases h : ro_in lo hi x = true
  · by_cases e1 : s = 1
    · rw [ro_as_1 h e1, ro_av_e (by rw [e1]; decide), ro_two_a e1]; rfl
    · by_cases e3 : s = 3
      · rw [ro_as_3 h e3, ro_two_f e1 (by rw [e3]; decide), show ro_two 1 2 0 = false from by decide, Bool.false_and, Bool.false_and]
      · rw [ro_as_e e1 e3, ro_av_e e3]
  · rw [ro_as_out (ro_nt h), ro_av_out (ro_nt h)]
theorem li_822 {lo hi fn : Int32} {cv : Nat → Int32} {q : Nat → Bool} (hR : R ≤ 32) (hr : ro_R ri q R)
    (hq : ∀ i, i < R → (ro_two 1 2 (st i) && ro_in lo hi (va i)) = q i)
    (H : wL_law_1025 post L xs J91 (nI R) (nI P) (nI C) x9 x10 lo hi kc ks (nI R) (nI P) (nI C) fn (nI (cc_c q R)) (ro_T q (ro_V lo hi st va R) R) (ro_S lo hi st va R) (ro_V lo hi st va R) cv ri (nI R) (nI P) (nI C) (nI n) gs gt st va cu rj) :
    ∀ d i, i + d = R → wL_law_822 post L xs J91 (nI R) (nI P) (nI C) x9 x10 lo hi (nI (cc_c q R)) kc ks (nI R) (nI P) (nI C) fn (nI (cc_c q R)) (ro_T q (ro_V lo hi st va R) R) (ro_S lo hi st va R) (ro_V lo hi st va R) cv ri (nI R) (nI P) (nI C) (nI n) gs gt st va cu rj (d + 1) (nI (cc_c q i)) (ro_T q (ro_V lo hi st va R) i) (nI i) := by
  have hl := cc_le q R
  intro d
  induction d with
  | zero =>
    intro i hi
    obtain rfl : i = R := by omega
    exact pk_le i i (fun _ => br_t rfl (xw_resultRow_out (Or.inr (Int32.le_refl _)) (br_t rfl (br_t rfl H)))) (fun z => absurd z (by omega))
  | succ d ih =>
    intro i hd
    have t := ih (i + 1) (by omega)
    have Q := hq i (by omega)
    have eS : ro_S lo hi st va R i = ro_as lo hi (st i) (va i) := ro_S_lt (by omega)
    have eV : ro_V lo hi st va R i = ro_av lo hi (st i) (va i) := ro_V_lt (by omega)
    have skip : q i = false → ∀ x22 : Int32, x22 = nI i + 1 → wL_law_822 post L xs J91 (nI R) (nI P) (nI C) x9 x10 lo hi (nI (cc_c q R)) kc ks (nI R) (nI P) (nI C) fn (nI (cc_c q R)) (ro_T q (ro_V lo hi st va R) R) (ro_S lo hi st va R) (ro_V lo hi st va R) cv ri (nI R) (nI P) (nI C) (nI n) gs gt st va cu rj (d + 1) (nI (cc_c q i)) (ro_T q (ro_V lo hi st va R) i) x22 := by
      intro z x22 ex
      rw [ex, nI_1, cc_nf (q := q) z, ← ro_Tf (va := ro_V lo hi st va R) z]; exact t
    have j972 : q i = false → ro_as lo hi (st i) (va i) = st i → ro_av lo hi (st i) (va i) = va i → wL_law_972 post L xs J91 (wL_law_822 post L xs J91 (nI R) (nI P) (nI C) x9 x10 lo hi (nI (cc_c q R)) kc ks (nI R) (nI P) (nI C) fn (nI (cc_c q R)) (ro_T q (ro_V lo hi st va R) R) (ro_S lo hi st va R) (ro_V lo hi st va R) cv ri (nI R) (nI P) (nI C) (nI n) gs gt st va cu rj (d + 1)) (nI R) (nI P) (nI C) x9 x10 lo hi (nI (cc_c q R)) (nI (cc_c q i)) (ro_T q (ro_V lo hi st va R) i) (nI i) (st i) (va i) (ro_S lo hi st va R i) (ro_V lo hi st va R i) kc ks (nI R) (nI P) (nI C) fn (nI (cc_c q R)) (ro_T q (ro_V lo hi st va R) R) (ro_S lo hi st va R) (ro_V lo hi st va R) cv ri (nI R) (nI P) (nI C) (nI n) gs gt st va cu rj := by
      intro z e1 e2
      exact br_t (eS.trans e1) (br_t (eV.trans e2) (skip z))
    have out : ro_in lo hi (va i) = false → wL_law_883 post L xs J91 (wL_law_822 post L xs J91 (nI R) (nI P) (nI C) x9 x10 lo hi (nI (cc_c q R)) kc ks (nI R) (nI P) (nI C) fn (nI (cc_c q R)) (ro_T q (ro_V lo hi st va R) R) (ro_S lo hi st va R) (ro_V lo hi st va R) cv ri (nI R) (nI P) (nI C) (nI n) gs gt st va cu rj (d + 1)) (nI R) (nI P) (nI C) x9 x10 lo hi (nI (cc_c q R)) (nI (cc_c q i)) (ro_T q (ro_V lo hi st va R) i) (nI i) (st i) (va i) (ro_S lo hi st va R i) (ro_V lo hi st va R i) kc ks (nI R) (nI P) (nI C) fn (nI (cc_c q R)) (ro_T q (ro_V lo hi st va R) R) (ro_S lo hi st va R) (ro_V lo hi st va R) cv ri (nI R) (nI P) (nI C) (nI n) gs gt st va cu rj := by
      intro z
      have w := j972 (by rw [← Q, z, Bool.and_false]) (ro_as_out z) (ro_av_out z)
      exact br_t rfl (br_t rfl (br_c (fun _ => w) (fun _ => br_t rfl w)))
    have ins : ro_in lo hi (va i) = true → wL_law_884 post L xs J91 (wL_law_822 post L xs J91 (nI R) (nI P) (nI C) x9 x10 lo hi (nI (cc_c q R)) kc ks (nI R) (nI P) (nI C) fn (nI (cc_c q R)) (ro_T q (ro_V lo hi st va R) R) (ro_S lo hi st va R) (ro_V lo hi st va R) cv ri (nI R) (nI P) (nI C) (nI n) gs gt st va cu rj (d + 1)) (nI R) (nI P) (nI C) x9 x10 lo hi (nI (cc_c q R)) (nI (cc_c q i)) (ro_T q (ro_V lo hi st va R) i) (nI i) (st i) (va i) (ro_S lo hi st va R i) (ro_V lo hi st va R i) 1 kc ks (nI R) (nI P) (nI C) fn (nI (cc_c q R)) (ro_T q (ro_V lo hi st va R) R) (ro_S lo hi st va R) (ro_V lo hi st va R) cv ri (nI R) (nI P) (nI C) (nI n) gs gt st va cu rj := by
      intro z
      rw [z, Bool.and_true] at Q
      have live : ro_two 1 2 (st i) = true → ro_as lo hi (st i) (va i) = 2 → ¬ st i = 3 → wL_law_903 post L xs J91 (wL_law_822 post L xs J91 (nI R) (nI P) (nI C) x9 x10 lo hi (nI (cc_c q R)) kc ks (nI R) (nI P) (nI C) fn (nI (cc_c q R)) (ro_T q (ro_V lo hi st va R) R) (ro_S lo hi st va R) (ro_V lo hi st va R) cv ri (nI R) (nI P) (nI C) (nI n) gs gt st va cu rj (d + 1)) (nI R) (nI P) (nI C) x9 x10 lo hi (nI (cc_c q R)) (nI (cc_c q i)) (ro_T q (ro_V lo hi st va R) i) (nI i) (va i) (ro_S lo hi st va R i) (ro_V lo hi st va R i) kc ks (nI R) (nI P) (nI C) fn (nI (cc_c q R)) (ro_T q (ro_V lo hi st va R) R) (ro_S lo hi st va R) (ro_V lo hi st va R) cv ri (nI R) (nI P) (nI C) (nI n) gs gt st va cu rj := by
        intro y e2 e3
        rw [y] at Q
        have qt : q i = true := Q.symm
        have lt := cc_up (q := q) (a := i + 1) (b := R) (by omega)
        rw [cc_t qt] at lt
        have ev : ro_V lo hi st va R i = va i := eV.trans (ro_av_e e3)
        have et : ro_T q (ro_V lo hi st va R) i + (va i).toInt64 = ro_T q (ro_V lo hi st va R) (i + 1) := by rw [ro_Tt qt, ev]
        unfold wL_law_903
        exact xw_resultRow_in (by omega) lt (br_t (hr i (by omega) qt) (br_t (eS.trans e2) (br_t ev (nm_r (cc_nt qt) (nm_r et (nm_r (nI_1 i) t))))))
      refine br_f (by decide) (br_c (fun e => live (ro_two_a e) (ro_as_1 z e) (by rw [e]; decide)) (fun e1 => br_c (fun e => live (ro_two_b e) ((ro_as_e e1 (by rw [e]; decide)).trans e) (by rw [e]; decide)) (fun e2 => ?_)))
      have qf : q i = false := by rw [← Q]; exact ro_two_f e1 e2
      refine br_f (by decide) (br_c (fun e3 => br_t (eS.trans (ro_as_3 z e3)) (skip qf)) (fun e3 => ?_))
      exact br_c (fun _ => j972 qf (ro_as_e e1 e3) (ro_av_e e3)) (fun _ => br_f (by decide) (skip qf))
    refine pk_le R i (fun z => absurd z (by omega)) (fun _ => xw_rowState_in hR (by omega) (xw_rowValue_in hR (by omega) (xw_rowState_in hR (by omega) (xw_rowValue_in hR (by omega) (br_c (fun e => out (ro_in_f1 (Int32.not_le.mpr e))) (fun e => br_c (fun e2 => out (ro_in_f2 (Int32.not_lt.mpr e2))) (fun e2 => ins (ro_in_t (Int32.not_lt.mp e) (Int32.not_le.mp e2)))))))))
theorem li_795 {b p : Nat} {lo hi : Int32} (K : mi_K R P C n st cu) (hx : x9 = nI p) (hp : p ≤ b) (H : li_J J91 x10 R P C b) : wL_law_795 post L xs J91 (nI R) (nI P) (nI C) x9 x10 lo hi kc ks (nI R) (nI P) (nI C) (nI n) fs ft st va cu ri (nI R) (nI P) (nI C) (nI n) gs gt st va cu rj := by
  have hR := K.1.2
  have hC := K.2.2.1.2
  have hn := K.2.2.2.1
  have ha := K.2.2.2.2.2
  have hq : ∀ i, i < R → (ro_two 1 2 (ro_S lo hi st va R i) && ro_in lo hi (ro_V lo hi st va R i)) = (ro_two 1 2 (st i) && ro_in lo hi (va i)) := by
    intro i hd
    rw [ro_S_lt hd, ro_V_lt hd]
    exact li_q
  subst hx
  unfold wL_law_795
  refine xw_select (q := fun i => ro_two 1 2 (st i) && ro_in lo hi (va i)) hR hC hn ha hq (fun e => ?_) (fun e ri' hr => ?_)
  · dsimp only
    refine br_t (Int32.not_lt.mp e) ?_
    unfold wL_law_1025
    refine xw_select (q := fun i => ro_two 1 2 (st i) && ro_in lo hi (va i)) hR hC hn ha hq (fun _ => ?_) (fun z => absurd z e)
    exact nm_e (H p n fs gs ft gt st va cu ri rj hp K)
  · dsimp only
    refine br_f (Int32.not_le.mpr e) ⟨_, li_822 hR hr (fun _ _ => rfl) ?_ R 0 (by omega)⟩
    unfold wL_law_1025
    refine xw_select (q := fun i => ro_two 1 2 (st i) && ro_in lo hi (va i)) hR hC hn ha hq (fun z => absurd e z) (fun _ rj' _ => ?_)
    exact nm_e (H p _ _ _ _ _ _ _ _ ri' rj' hp (mi_sel lo hi va K))
theorem li_746 {b p : Nat} {lo hi : Int32} (K : mi_K R P C n st cu) (hx : x9 = nI p) (hp : p ≤ b) (H : li_J J91 x10 R P C b) : ∀ d i, i + d = R → wL_law_746 post L xs J91 (nI R) (nI P) (nI C) x9 x10 lo hi kc ks (nI R) (nI P) (nI C) (nI n) fs ft st va cu ri (nI R) (nI P) (nI C) (nI n) gs gt st va cu rj (d + 1) (nI i) := by
  have hR := K.1.2
  intro d
  induction d with
  | zero =>
    intro i hi
    obtain rfl : i = R := by omega
    exact pk_le i i (fun _ => li_795 K hx hp H) (fun z => absurd z (by omega))
  | succ d ih =>
    intro i hi
    exact pk_le R i (fun z => absurd z (by omega)) (fun _ => xw_rowState_in hR (by omega) (xw_rowState_in hR (by omega) (br_t rfl (xw_rowValue_in hR (by omega) (xw_rowValue_in hR (by omega) (br_t rfl (nm_r (nI_1 i) (ih (i + 1) (by omega)))))))))
theorem li_736 {b p : Nat} {lo hi : Int32} (K : mi_K R P C n st cu) (hx : x9 = nI p) (hp : p ≤ b) (H : li_J J91 x10 R P C b) : wL_law_736 post L xs J91 (nI R) (nI P) (nI C) x9 x10 lo hi kc ks (nI R) (nI P) (nI C) (nI n) fs ft st va cu ri (nI R) (nI P) (nI C) (nI n) gs gt st va cu rj :=
  br_c (fun _ => li_795 K hx hp H) (fun _ => ⟨_, li_746 K hx hp H R 0 (by omega)⟩)
end
