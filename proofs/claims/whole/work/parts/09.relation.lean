/-! the relation -/
/-- which ids are marked -/
def re_mk (ir : Nat → Int32) : Nat → Bool := fun i => !decide (ir i = 0)
def re_K (R P C n : Nat) (st va cu g : Nat → Int32) : Prop := (4 ≤ R ∧ R ≤ 32) ∧ (1 ≤ P ∧ P ≤ 16) ∧ (1 ≤ C ∧ C ≤ 16) ∧ n ≤ C ∧ (∀ i, i < R → ¬ va i = 2147483647) ∧ (∀ i, i < R → st i = 0 → va i = 0) ∧ ro_np st R ≤ P ∧ cu_asc cu n ∧ cu_same cu g n
/-- the same limits, rows, number of cuts and sum; X's cuts ascend and have Y's content; X's result lists what Y marks -/
def i_Rel (_ : Nat) (u : SX) (v : SY) : Prop := ∃ (R P C n : Nat) (t : Int64) (st va cu ri ir g : Nat → Int32), u = (nI R, nI P, nI C, nI n, nI (cc_c (re_mk ir) R), t, st, va, cu, ri) ∧ v = (nI R, nI P, nI C, t, nI n, st, va, ir, g) ∧ re_K R P C n st va cu g ∧ ro_R ri (re_mk ir) R
theorem i_up {k : Nat} {u : SX} {v : SY} (h : i_Rel k u v) : i_Rel (k + 3) u v := h
/-! the constructors -/
def re_cl (k lo hi : Int32) : Int32 := if lo ≤ k then (if k ≤ hi then k else hi) else lo
theorem re_cl_c {k lo hi : Int32} {Q : Int32 → Prop} (h : Q (re_cl k lo hi)) : (lo ≤ k → ((k ≤ hi → Q k) ∧ (¬ k ≤ hi → Q hi))) ∧ (¬ lo ≤ k → Q lo) := by
  unfold re_cl at h
  refine br_c (fun e => br_c (fun e2 => ?_) (fun e2 => ?_)) (fun e => ?_)
  · rw [if_pos e, if_pos e2] at h; exact h
  · rw [if_pos e, if_neg e2] at h; exact h
  · rw [if_neg e] at h; exact h
theorem re_cl_n (k : Int32) {lo hi : Nat} (h1 : lo ≤ hi) (h2 : hi < 2 ^ 31) : ∃ j, (lo ≤ j ∧ j ≤ hi) ∧ re_cl k (nI lo) (nI hi) = nI j := by
  unfold re_cl
  by_cases e : nI lo ≤ k
  · by_cases e2 : k ≤ nI hi
    · have h0 : ¬ k < 0 := by
        have a := nI_toInt (show lo < 2 ^ 31 by omega)
        rw [Int32.le_iff_toInt_le, a] at e
        rw [Int32.lt_iff_toInt_lt, show (0 : Int32).toInt = 0 from by decide]
        omega
      obtain ⟨j, hj, rfl⟩ := nI_of h0
      rw [if_pos e, if_pos e2]
      exact ⟨j, ⟨(nI_leI (by omega) hj).mp e, (nI_leI hj h2).mp e2⟩, rfl⟩
    · rw [if_pos e, if_neg e2]
      exact ⟨hi, ⟨h1, Nat.le_refl _⟩, rfl⟩
  · rw [if_neg e]
    exact ⟨lo, ⟨Nat.le_refl _, h1⟩, rfl⟩
theorem xw_init {post : SX → Prop} {a b c : Int32} (h : post (re_cl a 4 32, re_cl b 1 16, re_cl c 1 16, 0, 0, 0, (fun _ => 0), (fun _ => 0), (fun _ => 0), (fun _ => 0))) : wpX_init post a b c := by
  unfold wpX_init
  refine re_cl_c (Q := fun r_1 => wpX_clamp (fun r_2 => (wpX_clamp (fun r_3 => (post (r_1, r_2, r_3, 0, 0, 0, (fun _ => 0), (fun _ => 0), (fun _ => 0), (fun _ => 0)))) c 1 16)) b 1 16) ?_
  refine re_cl_c (Q := fun r_2 => wpX_clamp (fun r_3 => (post (re_cl a 4 32, r_2, r_3, 0, 0, 0, (fun _ => 0), (fun _ => 0), (fun _ => 0), (fun _ => 0)))) c 1 16) ?_
  exact re_cl_c (Q := fun r_3 => (post (re_cl a 4 32, re_cl b 1 16, r_3, 0, 0, 0, (fun _ => 0), (fun _ => 0), (fun _ => 0), (fun _ => 0)))) h
theorem yw_init {post : SY → Prop} {a b c : Int32} (h : post (re_cl a 4 32, re_cl b 1 16, re_cl c 1 16, 0, 0, (fun _ => 0), (fun _ => 0), (fun _ => 0), (fun _ => 0))) : wpY_init post a b c := by
  unfold wpY_init
  refine re_cl_c (Q := fun z => wY_init_58 post b c z 0 0 0 0 0 (fun _ => 0) (fun _ => 0) (fun _ => 0) (fun _ => 0)) ?_
  unfold wY_init_58
  refine re_cl_c (Q := fun z => wY_init_83 post c z (re_cl a 4 32) 0 0 0 0 (fun _ => 0) (fun _ => 0) (fun _ => 0) (fun _ => 0)) ?_
  unfold wY_init_83
  exact re_cl_c (Q := fun z => post (re_cl a 4 32, re_cl b 1 16, z, 0, 0, (fun _ => 0), (fun _ => 0), (fun _ => 0), (fun _ => 0))) h
theorem i_vc0 (k0 : Int32) (k1 : Int32) (k2 : Int32) : wpX_init (fun u => wpY_init (fun v => i_Rel 3 u v) k0 k1 k2) k0 k1 k2 := by
  refine xw_init (yw_init ?_)
  obtain ⟨R, hR, eR⟩ := re_cl_n k0 (lo := 4) (hi := 32) (by omega) (by omega)
  obtain ⟨P, hP, eP⟩ := re_cl_n k1 (lo := 1) (hi := 16) (by omega) (by omega)
  obtain ⟨C, hC, eC⟩ := re_cl_n k2 (lo := 1) (hi := 16) (by omega) (by omega)
  have z : cc_c (re_mk (fun _ => 0)) R = 0 := cc_none R (fun i _ => rfl)
  have z2 : ro_np (fun _ => 0) R = 0 := cc_none R (fun i _ => rfl)
  refine ⟨R, P, C, 0, 0, fun _ => 0, fun _ => 0, fun _ => 0, fun _ => 0, fun _ => 0, fun _ => 0, ?_, ?_, ⟨hR, hP, hC, Nat.zero_le _, fun i _ => by show ¬ (0 : Int32) = 2147483647; decide, fun i _ _ => rfl, ?_, fun i j _ hj => absurd hj (Nat.not_lt_zero j), fun p => rfl⟩, fun i _ h => absurd (show false = true from h) (by decide)⟩
  · rw [z, ← eR, ← eP, ← eC]; rfl
  · rw [← eR, ← eP, ← eC]; rfl
  · rw [z2]; exact Nat.zero_le _
/-! one row changed -/
section
variable {R P C n : Nat} {st va cu g : Nat → Int32}
theorem re_ins {j : Nat} {v : Int32} (K : re_K R P C n st va cu g) (hj : j < R) (e0 : st j = 0) (hv : ¬ v = 2147483647) (hp : ro_np st R < P) : re_K R P C n (upd st j 1) (upd va j v) cu g := by
  obtain ⟨hR, hP, hC, hn, h1, h2, h3, h4, h5⟩ := K
  refine ⟨hR, hP, hC, hn, fun i hi => ?_, fun i hi z => ?_, ?_, h4, h5⟩
  · by_cases a : i = j
    · rw [a, pk_us]; exact hv
    · rw [pk_un a]; exact h1 i hi
  · by_cases a : i = j
    · rw [a, pk_us] at z; exact absurd z (by decide)
    · rw [pk_un a] at z ⊢; exact h2 i hi z
  · have e := ro_np_upd (st := st) (j := j) (n := R) (s := 1) hj
    rw [e0, show ro_two 1 3 0 = false from by decide, show ro_two 1 3 1 = true from by decide, Bool.toNat_false, Bool.toNat_true] at e
    omega
theorem re_del1 {j : Nat} (K : re_K R P C n st va cu g) (hj : j < R) (e0 : st j = 1) : re_K R P C n (upd st j 0) (upd va j 0) cu g := by
  obtain ⟨hR, hP, hC, hn, h1, h2, h3, h4, h5⟩ := K
  refine ⟨hR, hP, hC, hn, fun i hi => ?_, fun i hi z => ?_, ?_, h4, h5⟩
  · by_cases a : i = j
    · rw [a, pk_us]; decide
    · rw [pk_un a]; exact h1 i hi
  · by_cases a : i = j
    · rw [a, pk_us]
    · rw [pk_un a] at z ⊢; exact h2 i hi z
  · have e := ro_np_upd (st := st) (j := j) (n := R) (s := 0) hj
    rw [e0, show ro_two 1 3 0 = false from by decide, show ro_two 1 3 1 = true from by decide, Bool.toNat_false, Bool.toNat_true] at e
    omega
theorem re_del2 {j : Nat} (K : re_K R P C n st va cu g) (hj : j < R) (e0 : st j = 2) (hp : ro_np st R < P) : re_K R P C n (upd st j 3) va cu g := by
  obtain ⟨hR, hP, hC, hn, h1, h2, h3, h4, h5⟩ := K
  refine ⟨hR, hP, hC, hn, h1, fun i hi z => ?_, ?_, h4, h5⟩
  · by_cases a : i = j
    · rw [a, pk_us] at z; exact absurd z (by decide)
    · rw [pk_un a] at z; exact h2 i hi z
  · have e := ro_np_upd (st := st) (j := j) (n := R) (s := 3) hj
    rw [e0, show ro_two 1 3 2 = false from by decide, show ro_two 1 3 3 = true from by decide, Bool.toNat_false, Bool.toNat_true] at e
    omega
theorem re_res {j : Nat} (K : re_K R P C n st va cu g) (hj : j < R) (e0 : st j = 3) : re_K R P C n (upd st j 2) va cu g := by
  obtain ⟨hR, hP, hC, hn, h1, h2, h3, h4, h5⟩ := K
  refine ⟨hR, hP, hC, hn, h1, fun i hi z => ?_, ?_, h4, h5⟩
  · by_cases a : i = j
    · rw [a, pk_us] at z; exact absurd z (by decide)
    · rw [pk_un a] at z; exact h2 i hi z
  · have e := ro_np_upd (st := st) (j := j) (n := R) (s := 2) hj
    rw [e0, show ro_two 1 3 2 = false from by decide, show ro_two 1 3 3 = true from by decide, Bool.toNat_false, Bool.toNat_true] at e
    omega
theorem re_sel {lo hi : Int32} (K : re_K R P C n st va cu g) : re_K R P C (cu_N C (cu_F C cu n lo) (cu_N C cu n lo) hi) (ro_S lo hi st va R) (ro_V lo hi st va R) (cu_F C (cu_F C cu n lo) (cu_N C cu n lo) hi) (cu_G C (cu_G C g n lo) (cu_N C cu n lo) hi) := by
  obtain ⟨hR, hP, hC, hn, h1, h2, h3, h4, h5⟩ := K
  refine ⟨hR, hP, hC, cu_N_le (cu_N_le hn), fun i hd => ?_, fun i hd z => ?_, ?_, cu_F_asc (cu_F_asc h4), cu_same_F (cu_same_F h5 lo) hi⟩
  · rw [ro_V_lt hd]
    cases ro_av_or lo hi (st i) (va i) with
    | inl e => rw [e]; decide
    | inr e => rw [e]; exact h1 i hd
  · rw [ro_S_lt hd] at z
    rw [ro_V_lt hd]
    exact ro_free (h2 i hd) z
  · exact Nat.le_trans ro_np_S h3
theorem re_fgt {j a : Nat} (K : re_K R P C n st va cu g) (hj : j < n) (ha : a < n) (e : g a = cu j) : re_K R P C (n - 1) st va (cu_rm cu j n) (upd g a (g (n - 1))) := by
  obtain ⟨hR, hP, hC, hn, h1, h2, h3, h4, h5⟩ := K
  obtain ⟨m, rfl⟩ : ∃ m, n = m + 1 := ⟨n - 1, by omega⟩
  exact ⟨hR, hP, hC, by omega, h1, h2, h3, cu_rm_asc h4, cu_rm_same h5 (by omega) (by omega) e⟩
end
theorem re_bo (b : Bool) : (!decide (bo_I b = 0)) = b := by
  cases b with
  | false => rfl
  | true => rfl
/-- behind a select LIVE and SETTLED are one in the range -/
theorem re_q2 {lo hi s x : Int32} : (decide (ro_as lo hi s x = 2) && ro_in lo hi (ro_av lo hi s x)) = (ro_two 1 2 (ro_as lo hi s x) && ro_in lo hi (ro_av lo hi s x)) := by
  by_cases h : ro_in lo hi (ro_av lo hi s x) = true
  · rw [h, Bool.and_true, Bool.and_true]
    unfold ro_two
    rw [decide_eq_false (ro_no1 h), Bool.false_or]
  · rw [ro_nt h, Bool.and_false, Bool.and_false]
