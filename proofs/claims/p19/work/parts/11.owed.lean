def mi_cl (k lo hi : Int32) : Int32 := if lo ≤ k then (if k ≤ hi then k else hi) else lo
theorem mi_cl_c {k lo hi : Int32} {Q : Int32 → Prop} (h : Q (mi_cl k lo hi)) : (lo ≤ k → ((k ≤ hi → Q k) ∧ (¬ k ≤ hi → Q hi))) ∧ (¬ lo ≤ k → Q lo) := by
  unfold mi_cl at h
  refine br_c (fun e => br_c (fun e2 => ?_) (fun e2 => ?_)) (fun e => ?_)
  · rw [if_pos e, if_pos e2] at h; exact h
  · rw [if_pos e, if_neg e2] at h; exact h
  · rw [if_neg e] at h; exact h
theorem mi_cl_n (k : Int32) {lo hi : Nat} (h1 : lo ≤ hi) (h2 : hi < 2 ^ 31) : ∃ j, (lo ≤ j ∧ j ≤ hi) ∧ mi_cl k (nI lo) (nI hi) = nI j := by
  unfold mi_cl
  by_cases e : nI lo ≤ k
  · by_cases e2 : k ≤ nI hi
    · have h0 : ¬ k < 0 := by
        have a := nI_toInt (show lo < 2 ^ 31 by omega)
        rw [Int32.le_iff_toInt_le, a] at e
        rw [Int32.lt_iff_toInt_lt, show (0 : Int32).toInt = 0 from by decide]
        omega
      obtain ⟨j, hj, rfl⟩ := nI_of h0
      rw [if_pos e, if_pos e2]
      exact ⟨j, ⟨(nI_leI (by omega) hj).mp e, (nI_leI hj h2).mp e2⟩, rfl⟩
    · rw [if_pos e, if_neg e2]
      exact ⟨hi, ⟨h1, Nat.le_refl _⟩, rfl⟩
  · rw [if_neg e]
    exact ⟨lo, ⟨Nat.le_refl _, h1⟩, rfl⟩
theorem mi_lclamp {post : Int32 → Prop} {k lo hi : Int32} (h : post (mi_cl k lo hi)) : wpL_clamp post () k lo hi := mi_cl_c h
theorem mi_xclamp {post : Int32 → Prop} {k lo hi : Int32} (h : post (mi_cl k lo hi)) : wpX_clamp post () k lo hi := mi_cl_c h
theorem mi_init {post : St2 → Prop} {a b c : Int32} (h : post (mi_cl a 4 32, mi_cl b 1 16, mi_cl c 1 16, 0, 0, 0, (fun _ => 0), (fun _ => 0), (fun _ => 0), (fun _ => 0))) : wpX_init post 4 112 (0, 0, 0, 0, 0, 0) a b c := by
  unfold wpX_init
  dsimp only
  exact ⟨by omega, by omega, by omega, by omega, by omega, by omega, by omega, by omega, mi_xclamp (mi_xclamp (mi_xclamp h))⟩
theorem i_vc (xs : Nat → Int32) (L : Nat) (hL : L ≤ 260) : wpL_law (fun r => r = 1) L xs := by
  unfold wpL_law
  refine mi_cell (p := 0) hL (by omega) (fun a x1 _ => mi_cell (p := 1) hL (by omega) (fun b x2 _ => mi_cell (p := 2) hL (by omega) (fun c x3 _ => mi_lclamp (mi_lclamp (mi_lclamp ⟨4, 112, by omega, by omega, mi_init ?_⟩)))))
  dsimp only
  refine ⟨by omega, by omega, 4, 112, by omega, by omega, mi_init ?_⟩
  dsimp only
  obtain ⟨R, hR, eR⟩ := mi_cl_n x1 (lo := 4) (hi := 32) (by omega) (by omega)
  obtain ⟨P, hP, eP⟩ := mi_cl_n x2 (lo := 1) (hi := 16) (by omega) (by omega)
  obtain ⟨C, hC, eC⟩ := mi_cl_n x3 (lo := 1) (hi := 16) (by omega) (by omega)
  have eR' : mi_cl x1 4 32 = nI R := eR
  have eP' : mi_cl x2 1 16 = nI P := eP
  have eC' : mi_cl x3 1 16 = nI C := eC
  rw [eR', eP', eC']
  have z2 : ro_np (fun _ => 0) R = 0 := cc_none R (fun i _ => rfl)
  exact ⟨_, li_91 (post := fun r => r = 1) (R := R) (P := P) (C := C) hL rfl (L + 1) 0 3 0 0 0 0 0 (fun _ => 0) (fun _ => 0) (fun _ => 0) (fun _ => 0) (fun _ => 0) (by omega) (by omega) ⟨hR, hP, hC, Nat.zero_le _, by rw [z2]; exact Nat.zero_le _, fun i j _ hj => absurd hj (Nat.not_lt_zero j)⟩⟩
