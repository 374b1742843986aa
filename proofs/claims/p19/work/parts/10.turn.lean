/-! the other calls, a turn, the law -/
section
variable {post : Int32 → Prop} {L : Nat} {xs : Nat → Int32} {J91 : Int32 → Int32 → Int32 → Int32 → Int32 → Int32 → Int32 → Int64 → (Nat → Int32) → (Nat → Int32) → (Nat → Int32) → (Nat → Int32) → Int32 → Int32 → Int32 → Int32 → Int32 → Int64 → (Nat → Int32) → (Nat → Int32) → (Nat → Int32) → (Nat → Int32) → Prop} {x9 x10 : Int32} {kc ks : Nat} {R P C n : Nat} {fs gs : Int32} {ft gt : Int64} {st va cu ri rj : Nat → Int32}
theorem li_536 {b p : Nat} {x14 x16 x17 : Int32} (K : mi_K R P C n st cu) (hx : x9 = nI p) (hp : p ≤ b) (H : li_J J91 x10 R P C b) : ∀ d (x18 x19 : Int32), d ≤ 32 → x19 = nI d + (-1) → wL_law_536 post L xs J91 (nI R) (nI P) (nI C) x9 x10 x14 x16 x17 kc ks (nI R) (nI P) (nI C) (nI n) fs ft st va cu ri (nI R) (nI P) (nI C) (nI n) gs gt st va cu rj (d + 1) x18 x19 := by
  have hR := K.1.2
  have h0 : ¬ nI R = 0 := nI_ne0 (by have := K.1.1; omega) (by omega)
  subst hx
  intro d
  induction d with
  | zero =>
    intro x18 x19 _ ex
    refine br_t (by rw [ex]; decide) (br_c (fun _ => ?_) (fun _ => ?_))
    · obtain ⟨r, st', K', w⟩ := mi_restore va K x18
      refine w _ _ _ _ ?_
      dsimp only
      refine w _ _ _ _ ?_
      exact nm_e (H p n fs gs ft gt st' va cu ri rj hp K')
    · obtain ⟨r, st', va', K', w⟩ := mi_delete va K x18
      refine w _ _ _ _ ?_
      dsimp only
      refine w _ _ _ _ ?_
      exact nm_e (H p n fs gs ft gt st' va' cu ri rj hp K')
  | succ d ih =>
    intro x18 x19 hd ex
    rw [pk_m1] at ex
    subst ex
    exact br_f (nI_pos (by omega)) ⟨h0, mi_state hR _ (fun r => br_c (fun _ => ⟨h0, fun x18' _ x19' e => ih x18' x19' (by omega) e⟩) (fun _ x19' e => ih x18 x19' (by omega) e))⟩
theorem li_515 {b p : Nat} {x14 x15 z0 : Int32} (K : mi_K R P C n st cu) (hx : x9 = nI p) (hp : p ≤ b) (H : li_J J91 x10 R P C b) : wL_law_515 post L xs J91 (nI R) (nI P) (nI C) x9 x10 x14 x15 z0 kc ks (nI R) (nI P) (nI C) (nI n) fs ft st va cu ri (nI R) (nI P) (nI C) (nI n) gs gt st va cu rj := by
  have hR := K.1.2
  have h4 := K.1.1
  have h0 : ¬ nI R = 0 := nI_ne0 (by omega) (by omega)
  have e : nI R - 1 = nI R + (-1) := by
    obtain ⟨m, rfl⟩ : ∃ m, R = m + 1 := ⟨R - 1, by omega⟩
    rw [nI_pred, pk_m1]
  exact mi_mod h0 (fun r x19 ex => ⟨_, li_536 K hx hp H R r x19 (by omega) (ex.trans e)⟩)
theorem li_293 {p : Nat} {q s : Nat → Bool} (K : mi_K R P C n st cu) (hL : L ≤ 260) (hx : x9 = nI p) (hp : p ≤ 2000) (h1 : post 1) (hs : ∀ i, i < R → ro_two 2 3 (st i) = s i) (hq : ∀ i, i < R → ro_two 1 3 (st i) = q i) (H : li_J J91 x10 R P C (p + 3)) : ∀ d k, k + d = n → wL_law_293 post L xs J91 (nI R) (nI P) (nI C) x9 x10 (nI n) (nI (cc_c s R)) (nI (cc_c q R)) kc ks (nI R) (nI P) (nI C) (nI n) fs ft st va cu ri (nI R) (nI P) (nI C) (nI n) gs gt st va cu rj (d + 1) (nI k) := by
  have hR := K.1.2
  have h4 := K.1.1
  have hP := K.2.1.2
  have hn : n ≤ 16 := by have := K.2.2.1.2; have := K.2.2.2.1; omega
  have hpd : cc_c q R ≤ P := by rw [← cc_congr R hq]; exact K.2.2.2.2.1
  intro d
  induction d with
  | zero =>
    intro k hk
    obtain rfl : k = n := by omega
    refine pk_le k k (fun _ => xw_ns hR hs (br_t rfl (xw_np hR ?_))) (fun z => absurd z (by omega))
    rw [show ro_np st R = cc_c q R from cc_congr R hq]
    refine br_t rfl (pk_le (cc_c q R) P (fun _ => ?_) (fun z => absurd z (by omega)))
    refine br_c (fun _ => ?_) (fun _ => h1)
    rw [hx, show nI p + 1 = nI (p + 1) from nI_1 p, show nI p + 2 = nI (p + 2) from nI_add p 2]
    refine mi_cell hL (by omega) (fun c0 op eop => mi_cell hL (by omega) (fun a => nm_e (br_c (fun _ => br_c (fun _ => ?_) (fun _ => br_c (fun _ => br_c (fun _ => ?_) (fun _ => ?_)) (fun _ => br_c (fun _ => ?_) (fun _ => ?_)))) (fun _ => ?_))))
    · -- delete
      refine mi_mod ?_ (fun r x16 _ => ?_)
      · rw [show nI R + 2 = nI (R + 2) from nI_add R 2]; exact nI_ne0 (by omega) (by omega)
      · obtain ⟨r, st', va', K', w⟩ := mi_delete va K x16
        refine w _ _ _ _ ?_
        dsimp only
        refine w _ _ _ _ ?_
        exact nm_e (H (p + 2) k fs gs ft gt st' va' cu ri rj (by omega) K')
    · -- forgetCut
      refine mi_mod ?_ (fun r x16 _ => ?_)
      · rw [show nI k + 2 = nI (k + 2) from nI_add k 2]; exact nI_ne0 (by omega) (by omega)
      · obtain ⟨r, n', cu', K', w⟩ := mi_forget va K x16
        refine w _ _ _ _ ?_
        dsimp only
        refine w _ _ _ _ ?_
        exact nm_e (H (p + 2) n' fs gs ft gt st va cu' ri rj (by omega) K')
    · -- count, select
      obtain ⟨lo, wlo⟩ := mi_val a
      refine wlo _ (mi_cell hL (by omega) (fun c1 => ?_))
      obtain ⟨hi, whi⟩ := mi_val c1
      refine whi _ (nm_r (show nI (p + 2) + 1 = nI (p + 3) from nI_1 _) (br_c (fun _ => mi_count hR (fun _ => mi_count hR (fun _ => nm_e (H (p + 3) k fs gs ft gt st va cu ri rj (by omega) K)))) (fun _ => br_c (fun _ => li_736 K rfl (by omega) H) (fun _ => br_c (fun _ => li_736 K rfl (by omega) H) (fun _ => li_736 K rfl (by omega) H)))))
    · exact li_515 K rfl (by omega) H
    · exact li_515 K rfl (by omega) H
    · -- insert
      obtain ⟨v, wv⟩ := mi_val a
      obtain ⟨r, st', va', K', w⟩ := mi_insert va K v
      refine wv _ (w _ _ _ _ ?_)
      dsimp only
      refine wv _ (w _ _ _ _ ?_)
      exact nm_e (H (p + 2) k fs gs ft gt st' va' cu ri rj (by omega) K')
  | succ d ih =>
    intro k hk
    refine pk_le n k (fun z => absurd z (by omega)) (fun _ => ⟨_, li_306 (q := fun i => ro_two 2 3 (st i) && decide (va i < cu k)) K (by omega) (fun _ _ => rfl) (ih (k + 1) (by omega)) R 0 (by omega)⟩)
theorem li_91 (hL : L ≤ 260) (h1 : post 1) : ∀ d T p n (fs gs : Int32) (ft gt : Int64) (st va cu ri rj : Nat → Int32), T + d = L + 1 → p ≤ 3 + 3 * T → mi_K R P C n st cu → wL_law_91 post L xs (nI R) (nI P) (nI C) kc ks (d + 1) (nI p) (nI T) (nI R) (nI P) (nI C) (nI n) fs ft st va cu ri (nI R) (nI P) (nI C) (nI n) gs gt st va cu rj := by
  intro d
  induction d with
  | zero =>
    intro T p n fs gs ft gt st va cu ri rj hT hp K
    exact pk_lt L T (fun _ => h1) (fun z => absurd z (by omega))
  | succ d ih =>
    intro T p n fs gs ft gt st va cu ri rj hT hp K
    have hn := K.2.2.2.1
    have hC := K.2.2.1.2
    refine pk_lt L T (fun _ => h1) (fun _ => br_f (nI_pos (by omega)) (pk_le n C (fun _ => ?_) (fun z => absurd z (by omega))))
    refine ⟨_, li_122 K ⟨_, li_165 (s := fun i => ro_two 2 3 (st i)) (q := fun i => ro_two 1 3 (st i)) K (fun _ _ => rfl) (fun _ _ => rfl) ⟨_, li_293 K hL rfl (by omega) h1 (fun _ _ => rfl) (fun _ _ => rfl) ?_ n 0 (by omega)⟩ R 0 (by omega)⟩ 16 1 (by omega) (by omega) (by omega)⟩
    intro p' n' fs' gs' ft' gt' st' va' cu' ri' rj' hp' K'
    rw [nI_1]
    exact ih (T + 1) p' n' fs' gs' ft' gt' st' va' cu' ri' rj' (by omega) (by omega) K'
end
