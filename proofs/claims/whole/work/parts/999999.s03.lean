/-! Where the law begins: what is known of the worlds built. -/
theorem s0_mk {E : List (Nat × Nat)} {w1 w2 : b2_W} {al : List hs_V} {mc1 ms1 mcq msq : Nat} (q1 : b2_call b2_ms 6 11 [hs_r 11 0] [b2_new 11] = some (w1, mc1, ms1)) (q2 : b2_runs (b2_call b2_ms 6) b2_p12 193 400 (0, hs_fill 2 [hs_r 12 w1.length], [], w1 ++ [b2_new 12], 0, 0) = some (193, al, [], w2, mcq, msq)) (t4 : (Nat.ble mc1 1000 && Nat.ble ms1 100000) = true) (t5 : (Nat.ble mcq 1000 && Nat.ble msq 100000) = true) (t6 : (b2_wf w1 && Nat.blt 0 w1.length) = true) (t7 : b2_wf (w1 ++ [b2_new 12]) = true) (t2 : al.getD 0 hs_u = hs_r 12 w1.length) (t3 : al.length = 2) (t8 : E[w1.length]? = some (12, 0)) (t9 : E[0]? = some (11, 0)) (u1 : b2_same E w2 = true) (u2 : E.all (fun q => Nat.blt q.1 64) = true) (u3 : hs_closed E = true) (u4 : E.Nodup) (P : s0_P (b2_hE E w2)) : ∃ h0 h1 h2, lf_Hyp E w1 w2 al mc1 ms1 mcq msq h0 h1 h2 ∧ st_all caV chV wyV 10 h2 ∧ stE h2 := by
  obtain ⟨h1, h2, e1, e2, e3, e4⟩ := s0_st P
  rw [Bool.and_eq_true] at t4 t5 t6
  exact ⟨b2_hE E w2, h1, h2, ⟨q1, q2, ⟨Nat.le_of_ble_eq_true t4.1, Nat.le_of_ble_eq_true t4.2, Nat.le_of_ble_eq_true t5.1, Nat.le_of_ble_eq_true t5.2⟩, ⟨t6.1, t7, Nat.le_of_ble_eq_true t6.2⟩, ⟨t2, t3⟩, ⟨t8, t9⟩, ⟨u1, u2, u3, u4⟩, rfl, e1, e2⟩, e3, e4⟩
theorem s0_g1 {o : Option (b2_W × Nat × Nat)} {d v : b2_W × Nat × Nat} {w : b2_W} (h : o.isSome = true) (hv : v = o.getD d) (hw : w = v.1) : o = some (w, v.2.1, v.2.2) := by
  rw [hw, hv]
  exact lf_getD1 h
theorem s0_g2 {o o' : Option b2_S} {d v : b2_S} {w : b2_W} (ho : o' = o) (h : o.isSome = true) (hv : v = o.getD d) (hw : w = v.2.2.2.1) (h1 : v.1 = 193) (h2 : v.2.2.1.isEmpty = true) : o' = some (193, v.2.1, [], w, v.2.2.2.2.1, v.2.2.2.2.2) := by
  rw [ho, hw]
  rw [hv] at h1 h2 ⊢
  exact lf_getD2 h h1 h2
theorem s0_v1 : lf_v1 = (b2_call b2_ms 6 11 [hs_r 11 0] [b2_new 11]).getD ([], 0, 0) := by unfold lf_v1; rfl
theorem s0_v2 : lf_v2 = b2_s2.getD (0, [], [], [], 0, 0) := by unfold lf_v2; rfl
theorem s0_m12 : b2_m12.2.2.1 = 2 := rfl
theorem s0_s2 : b2_runs (b2_call b2_ms 6) b2_p12 193 400 (0, hs_fill 2 [hs_r 12 b2_w1.length], [], b2_w1 ++ [b2_new 12], 0, 0) = b2_s2 := by
  unfold b2_s2
  rw [s0_m12]
theorem s0_q1 : b2_call b2_ms 6 11 [hs_r 11 0] [b2_new 11] = some (b2_w1, lf_v1.2.1, lf_v1.2.2) := s0_g1 b2_w1_some s0_v1 lf_w1_eq
theorem s0_q2 : b2_runs (b2_call b2_ms 6) b2_p12 193 400 (0, hs_fill 2 [hs_r 12 b2_w1.length], [], b2_w1 ++ [b2_new 12], 0, 0) = some (193, lf_v2.2.1, [], b2_w2, lf_v2.2.2.2.2.1, lf_v2.2.2.2.2.2) := s0_g2 s0_s2 b2_s2_some s0_v2 lf_w2_eq lf_t10 lf_t1
theorem s0_hyp : ∃ al mc1 ms1 mcq msq h0 h1 h2, lf_Hyp b2_E0 b2_w1 b2_w2 al mc1 ms1 mcq msq h0 h1 h2 ∧ st_all caV chV wyV 10 h2 ∧ stE h2 := ⟨_, _, _, _, _, s0_mk s0_q1 s0_q2 lf_t4 lf_t5 lf_t6 lf_t7 lf_t2 lf_t3 lf_t8 lf_t9 b2_w2_same b2_E0_all b2_E0_closed b2_E0_nodup (s0_of s0_ok)⟩
