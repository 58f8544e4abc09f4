/-! back. -/
section CB
variable {VC : Nat → (Nat → Nat) → Nat → Int32 → Int32 → hs_H → Prop} {VH : Nat → (Nat → Nat) → Nat → hs_H → Prop} {VW : st_VW}
def bk_c (h : hs_H) (o : Nat) : hs_H := cpS (cpF (cpN h 0 o) 0 o) 0 o
theorem back0 (V : st_V VC VH VW) {b : Nat} {h : hs_H} (hb : b ≤ 1000000) (p : st_all VC VH VW b h) : ∃ r h1 h2, hf_138 (nI 0) h = some (r, h1) ∧ hf_233 (nI 0) h1 = some (r, h2) ∧ st_all VC VH VW (b + 100) h2 := by
  have p0 := p
  obtain ⟨N, re, W, Ho, J, st, pl, mv, s, z, t, n, g, c, d, ⟨hc, hd⟩, ⟨⟨okN, okF, okS⟩, ⟨cN, cF, cS⟩, mJ, mF, mS⟩, mN, im, ca, rs⟩ := p
  obtain ⟨⟨hN1, hN2⟩, hre, hst, ⟨hW, hHo⟩, hJ, hJ0, hJs, hJa⟩ := id okN
  obtain ⟨cN1, cN2, cN3, cN4, cN5, cJ⟩ := id cN
  obtain ⟨mN1, mN2, mN3, mN4⟩ := id mN
  obtain ⟨mJ1, mJ2⟩ := st_mJ0 mJ
  obtain ⟨mF1, mF2, mF3⟩ := st_mF0 mF
  obtain ⟨mS1, mS2⟩ := st_mS0 mS
  obtain ⟨cF1, cF2, cF3⟩ := id cF
  obtain ⟨cS1, cS2⟩ := id cS
  have hp := p2_lt hN2
  have i0 := im.1
  unfold st_img at i0
  obtain ⟨ifl, iv⟩ := i0
  have hr : rg 0 1 (nI 0) = true := (rg_of (by omega)).mpr ⟨0, by omega, by omega, rfl⟩
  rcases iv with h0 | ⟨h1, J2, st2, pl2, mv2, s2, z2, t2, n2, g2, ⟨ok1, ok2, ok3⟩, ⟨r1, r2, r3⟩, r5, r6, r7⟩
  · refine ⟨nI 4294967294, h, h, ?_, ?_, p0.up VC VH VW (by omega)⟩
    · unfold hf_138
      simp (disch := omega) only [h0, nq_nf, nq_nt, nq_le_t, nq_le_f, nq_lt_t, nq_lt_f, nq_eq_t, nq_eq_f, nq_neg, nq_pos, nq_le0f, nq_le0t, nq_lt0t, nq_lt0f, nq_eq0f, nq_eq0t, nI_add, nI_clamp, nx_inb, nx_ck, Option.bind_some, nx_get, nx_get2, nx_dif, nx_or, bI_0, bI_01, bI_nt, bI_nf, if_true, if_false, ite_true, ite_false, not_true_eq_false, not_false_eq_true, and_true, true_and, and_false, false_and, Bool.false_eq_true, Bool.true_eq_false, reduceCtorEq]
    · unfold hf_233
      rw [sp_150r (lo := 0) (hi := 1) rfl (lN_t (by omega)), hr]
      have h45 : h.1 45 0 0 = 0 := by rw [← ifl]; exact h0
      simp (disch := omega) only [h45, nq_nf, nq_nt, nq_le_t, nq_le_f, nq_lt_t, nq_lt_f, nq_eq_t, nq_eq_f, nq_neg, nq_pos, nq_le0f, nq_le0t, nq_lt0t, nq_lt0f, nq_eq0f, nq_eq0t, nI_add, nI_clamp, nx_inb, nx_ck, Option.bind_some, nx_get, nx_get2, nx_dif, nx_or, bI_0, bI_01, bI_nt, bI_nf, if_true, if_false, ite_true, ite_false, not_true_eq_false, not_false_eq_true, and_true, true_and, and_false, false_and, Bool.false_eq_true, Bool.true_eq_false, reduceCtorEq]
  · obtain ⟨⟨ca1, ca2⟩, ca3, ca4, ca5⟩ := id ca
    have hz2 := ok3.1
    have fA := cpN_fr (h := h) (o := 0) (p := 2)
    have qN := cpN_N (o := 0) (p := 2) r1
    have q6 := cpN_6 (h := h) (o := 0) (p := 2)
    have qF0 := st_cF_dep.fr fA rfl r2
    have qS0 := st_cS_dep.fr fA rfl r3
    have e54A : (cpN h 0 2).1 5 0 = h.1 5 0 := (fA 5 0 (fun q hq hh => by rcases hh with rfl | rfl <;> simp at hq)).1
    generalize hA : cpN h 0 2 = HA at fA qN q6 qF0 qS0 e54A
    have fB := cpF_fr (h := HA) (o := 0) (p := 2)
    have qF := cpF_F (o := 0) (p := 2) qF0
    have qS1 := st_cS_dep.fr fB rfl qS0
    have qN := st_cN_dep.fr fB rfl qN
    have q6 : (cpF HA 0 2).1 4 0 6 = h.1 4 0 6 + nI 1 := by rw [(fB 4 0 (fun q hq hh => by rcases hh with rfl | rfl <;> simp at hq)).1]; exact q6
    have e54B : (cpF HA 0 2).1 5 0 = h.1 5 0 := by rw [(fB 5 0 (fun q hq hh => by rcases hh with rfl | rfl <;> simp at hq)).1]; exact e54A
    generalize hB : cpF HA 0 2 = HB at fB qF qS1 qN q6 e54B
    have fC := cpS_fr (h := HB) (o := 0) (p := 2)
    have qS := cpS_S (o := 0) (p := 2) hz2 qS1
    have qd := cpS_4 (h := HB) (o := 0) (p := 2)
    have qN := st_cN_dep.fr fC rfl qN
    have qF := st_cF_dep.fr fC rfl qF
    have q6 : (cpS HB 0 2).1 4 0 6 = h.1 4 0 6 + nI 1 := by rw [(fC 4 0 (fun q hq hh => by rcases hh with rfl | rfl <;> simp at hq)).1]; exact q6
    have fAll : hs_fr [(4, some 0), (27, some 0), (9, some 0), (33, some 0), (5, some 0), (28, some 0), (29, some 0), (30, some 0)] h (cpS HB 0 2) := ((fA.sub (fun q hq => Or.inl (by revert q hq; simp))).tr (fB.sub (fun q hq => Or.inl (by revert q hq; simp)))).tr (fC.sub (fun q hq => Or.inl (by revert q hq; simp)))
    have hC : bk_c h 2 = cpS HB 0 2 := by
      unfold bk_c
      rw [hA, hB]
    have e138 : hf_138 (nI 0) h = some ((cpS HB 0 2).1 9 0 1, cpS HB 0 2) := by
      have h1' : ¬ h.1 3 0 3 = 0 := by rw [h1]; decide
      unfold hf_138
      simp (disch := omega) only [h1', sp_28, sp_88, sp_48, nq_nf, nq_nt, nq_le_t, nq_le_f, nq_lt_t, nq_lt_f, nq_eq_t, nq_eq_f, nq_neg, nq_pos, nq_le0f, nq_le0t, nq_lt0t, nq_lt0f, nq_eq0f, nq_eq0t, nI_add, nI_clamp, nx_inb, nx_ck, Option.bind_some, nx_get, nx_get2, nx_dif, nx_or, bI_0, bI_01, bI_nt, bI_nf, if_true, if_false, ite_true, ite_false, not_true_eq_false, not_false_eq_true, and_true, true_and, and_false, false_and, Bool.false_eq_true, Bool.true_eq_false, reduceCtorEq]
      show some ((cpS (cpF (cpN h 0 2) 0 2) 0 2).1 9 0 1, cpS (cpF (cpN h 0 2) 0 2) 0 2) = _
      rw [hA, hB]
    generalize hCC : cpS HB 0 2 = HC at fC qS qd qN qF q6 fAll hC e138
    have e44C : ∀ p, HC.1 44 0 p = h.1 44 0 p := fun p => by rw [(fAll 44 0 (fun q hq hh => by rcases hh with rfl | rfl <;> simp at hq)).1]
    have fE := cpM_fr (h := HC) (B := 0) (A := 54)
    have eo : ∀ p, 54 ≤ p → (cpM HC 0 54).1 44 0 p = h.1 44 0 p := fun p hp => by rw [cpM_out (by omega), e44C]
    have mJ3 := cpM_J (B := 0) (st_mJ_kp (h' := HC) (fun p _ _ => e44C p) r5)
    have mF3' := cpM_F (B := 0) (st_mF_kp (h' := HC) (fun p _ _ => e44C p) r6)
    have mS3 := cpM_S (B := 0) hz2 (st_mS_kp (h' := HC) hz2 (fun p _ _ => e44C p) r7)
    have f : hs_fr [(4, some 0), (27, some 0), (9, some 0), (33, some 0), (5, some 0), (28, some 0), (29, some 0), (30, some 0), (44, some 0)] h (cpM HC 0 54) := (fAll.sub (fun q hq => Or.inl (by revert q hq; simp))).tr (fE.sub (fun q hq => Or.inl (by revert q hq; simp)))
    refine ⟨pl2, HC, cpM HC 0 54, by rw [e138, qF.1], ?_, ?_⟩
    · have h45 : HC.1 45 0 0 = 1 := by rw [(fAll 45 0 (fun q hq hh => by rcases hh with rfl | rfl <;> simp at hq)).1, ← ifl]; exact h1
      have h45' : ¬ HC.1 45 0 0 = 0 := by rw [h45]; decide
      have e231 := sp_231 (B := 0) (A := 54) (h := HC) (by omega) (by omega) (by omega)
      unfold hf_233
      rw [sp_150r (lo := 0) (hi := 1) rfl (lN_t (by omega)), hr]
      simp (disch := omega) only [h45', pk_mul, e231, nq_nf, nq_nt, nq_le_t, nq_le_f, nq_lt_t, nq_lt_f, nq_eq_t, nq_eq_f, nq_neg, nq_pos, nq_le0f, nq_le0t, nq_lt0t, nq_lt0f, nq_eq0f, nq_eq0t, nI_add, nI_clamp, nx_inb, nx_ck, Option.bind_some, nx_get, nx_get2, nx_dif, nx_or, bI_0, bI_01, bI_nt, bI_nf, if_true, if_false, ite_true, ite_false, not_true_eq_false, not_false_eq_true, and_true, true_and, and_false, false_and, Bool.false_eq_true, Bool.true_eq_false, reduceCtorEq]
      rw [(st_mF0 mF3').1]
    · refine ⟨N, re, W, Ho, J2, st2, pl2, mv2, s2, z2, t2, n2, g2, c + 1, d + 1, ⟨by omega, by omega⟩, ⟨⟨ok1, ok2, ok3⟩, ⟨st_cN_dep.fr fE rfl qN, st_cF_dep.fr fE rfl qF, st_cS_dep.fr fE rfl qS⟩, mJ3, mF3', mS3⟩, st_mN_dep.fr f rfl mN, st_imgs_fr f rfl eo im, ⟨⟨?_, ?_⟩, st_cas_new (by omega) ((st_cas_dep V).fr f rfl ca3), st_cha_new (by omega) ((st_cha_dep V).fr f rfl ca4), st_way_new (by omega) (by omega) (Or.inl (by omega)) ((st_way_dep V).fr f rfl ca5)⟩, st_rest_dep.fr f rfl rs⟩
      · rw [(fE 4 0 (fun q hq hh => by rcases hh with rfl | rfl <;> simp at hq)).1, q6, ca1, nI_add]
      · rw [(fE 5 0 (fun q hq hh => by rcases hh with rfl | rfl <;> simp at hq)).1, qd, e54B, ca2, nI_add]
theorem back1 (V : st_V VC VH VW) {b : Nat} {h : hs_H} (hb : b ≤ 1000000) (p : st_all VC VH VW b h) : ∃ r h1 h2, hf_138 (nI 1) h = some (r, h1) ∧ hf_233 (nI 1) h1 = some (r, h2) ∧ st_all VC VH VW (b + 100) h2 := by
  have p0 := p
  obtain ⟨N, re, W, Ho, J, st, pl, mv, s, z, t, n, g, c, d, ⟨hc, hd⟩, ⟨⟨okN, okF, okS⟩, ⟨cN, cF, cS⟩, mJ, mF, mS⟩, mN, im, ca, rs⟩ := p
  obtain ⟨⟨hN1, hN2⟩, hre, hst, ⟨hW, hHo⟩, hJ, hJ0, hJs, hJa⟩ := id okN
  obtain ⟨cN1, cN2, cN3, cN4, cN5, cJ⟩ := id cN
  obtain ⟨mN1, mN2, mN3, mN4⟩ := id mN
  obtain ⟨mJ1, mJ2⟩ := st_mJ0 mJ
  obtain ⟨mF1, mF2, mF3⟩ := st_mF0 mF
  obtain ⟨mS1, mS2⟩ := st_mS0 mS
  obtain ⟨cF1, cF2, cF3⟩ := id cF
  obtain ⟨cS1, cS2⟩ := id cS
  have hp := p2_lt hN2
  have i0 := im.2
  unfold st_img at i0
  obtain ⟨ifl, iv⟩ := i0
  have hr : rg 0 1 (nI 1) = true := (rg_of (by omega)).mpr ⟨1, by omega, by omega, rfl⟩
  rcases iv with h0 | ⟨h1, J2, st2, pl2, mv2, s2, z2, t2, n2, g2, ⟨ok1, ok2, ok3⟩, ⟨r1, r2, r3⟩, r5, r6, r7⟩
  · refine ⟨nI 4294967294, h, h, ?_, ?_, p0.up VC VH VW (by omega)⟩
    · unfold hf_138
      simp (disch := omega) only [h0, nq_nf, nq_nt, nq_le_t, nq_le_f, nq_lt_t, nq_lt_f, nq_eq_t, nq_eq_f, nq_neg, nq_pos, nq_le0f, nq_le0t, nq_lt0t, nq_lt0f, nq_eq0f, nq_eq0t, nI_add, nI_clamp, nx_inb, nx_ck, Option.bind_some, nx_get, nx_get2, nx_dif, nx_or, bI_0, bI_01, bI_nt, bI_nf, if_true, if_false, ite_true, ite_false, not_true_eq_false, not_false_eq_true, and_true, true_and, and_false, false_and, Bool.false_eq_true, Bool.true_eq_false, reduceCtorEq]
    · unfold hf_233
      rw [sp_150r (lo := 0) (hi := 1) rfl (lN_t (by omega)), hr]
      have h45 : h.1 45 0 1 = 0 := by rw [← ifl]; exact h0
      simp (disch := omega) only [h45, nq_nf, nq_nt, nq_le_t, nq_le_f, nq_lt_t, nq_lt_f, nq_eq_t, nq_eq_f, nq_neg, nq_pos, nq_le0f, nq_le0t, nq_lt0t, nq_lt0f, nq_eq0f, nq_eq0t, nI_add, nI_clamp, nx_inb, nx_ck, Option.bind_some, nx_get, nx_get2, nx_dif, nx_or, bI_0, bI_01, bI_nt, bI_nf, if_true, if_false, ite_true, ite_false, not_true_eq_false, not_false_eq_true, and_true, true_and, and_false, false_and, Bool.false_eq_true, Bool.true_eq_false, reduceCtorEq]
  · obtain ⟨⟨ca1, ca2⟩, ca3, ca4, ca5⟩ := id ca
    have hz2 := ok3.1
    have fA := cpN_fr (h := h) (o := 0) (p := 3)
    have qN := cpN_N (o := 0) (p := 3) r1
    have q6 := cpN_6 (h := h) (o := 0) (p := 3)
    have qF0 := st_cF_dep.fr fA rfl r2
    have qS0 := st_cS_dep.fr fA rfl r3
    have e54A : (cpN h 0 3).1 5 0 = h.1 5 0 := (fA 5 0 (fun q hq hh => by rcases hh with rfl | rfl <;> simp at hq)).1
    generalize hA : cpN h 0 3 = HA at fA qN q6 qF0 qS0 e54A
    have fB := cpF_fr (h := HA) (o := 0) (p := 3)
    have qF := cpF_F (o := 0) (p := 3) qF0
    have qS1 := st_cS_dep.fr fB rfl qS0
    have qN := st_cN_dep.fr fB rfl qN
    have q6 : (cpF HA 0 3).1 4 0 6 = h.1 4 0 6 + nI 1 := by rw [(fB 4 0 (fun q hq hh => by rcases hh with rfl | rfl <;> simp at hq)).1]; exact q6
    have e54B : (cpF HA 0 3).1 5 0 = h.1 5 0 := by rw [(fB 5 0 (fun q hq hh => by rcases hh with rfl | rfl <;> simp at hq)).1]; exact e54A
    generalize hB : cpF HA 0 3 = HB at fB qF qS1 qN q6 e54B
    have fC := cpS_fr (h := HB) (o := 0) (p := 3)
    have qS := cpS_S (o := 0) (p := 3) hz2 qS1
    have qd := cpS_4 (h := HB) (o := 0) (p := 3)
    have qN := st_cN_dep.fr fC rfl qN
    have qF := st_cF_dep.fr fC rfl qF
    have q6 : (cpS HB 0 3).1 4 0 6 = h.1 4 0 6 + nI 1 := by rw [(fC 4 0 (fun q hq hh => by rcases hh with rfl | rfl <;> simp at hq)).1]; exact q6
    have fAll : hs_fr [(4, some 0), (27, some 0), (9, some 0), (33, some 0), (5, some 0), (28, some 0), (29, some 0), (30, some 0)] h (cpS HB 0 3) := ((fA.sub (fun q hq => Or.inl (by revert q hq; simp))).tr (fB.sub (fun q hq => Or.inl (by revert q hq; simp)))).tr (fC.sub (fun q hq => Or.inl (by revert q hq; simp)))
    have hC : bk_c h 3 = cpS HB 0 3 := by
      unfold bk_c
      rw [hA, hB]
    have e138 : hf_138 (nI 1) h = some ((cpS HB 0 3).1 9 0 1, cpS HB 0 3) := by
      have h1' : ¬ h.1 3 1 3 = 0 := by rw [h1]; decide
      unfold hf_138
      simp (disch := omega) only [h1', sp_28, sp_88, sp_48, nq_nf, nq_nt, nq_le_t, nq_le_f, nq_lt_t, nq_lt_f, nq_eq_t, nq_eq_f, nq_neg, nq_pos, nq_le0f, nq_le0t, nq_lt0t, nq_lt0f, nq_eq0f, nq_eq0t, nI_add, nI_clamp, nx_inb, nx_ck, Option.bind_some, nx_get, nx_get2, nx_dif, nx_or, bI_0, bI_01, bI_nt, bI_nf, if_true, if_false, ite_true, ite_false, not_true_eq_false, not_false_eq_true, and_true, true_and, and_false, false_and, Bool.false_eq_true, Bool.true_eq_false, reduceCtorEq]
      show some ((cpS (cpF (cpN h 0 3) 0 3) 0 3).1 9 0 1, cpS (cpF (cpN h 0 3) 0 3) 0 3) = _
      rw [hA, hB]
    generalize hCC : cpS HB 0 3 = HC at fC qS qd qN qF q6 fAll hC e138
    have e44C : ∀ p, HC.1 44 0 p = h.1 44 0 p := fun p => by rw [(fAll 44 0 (fun q hq hh => by rcases hh with rfl | rfl <;> simp at hq)).1]
    have fE := cpM_fr (h := HC) (B := 0) (A := 108)
    have eo : ∀ p, 54 ≤ p → (cpM HC 0 108).1 44 0 p = h.1 44 0 p := fun p hp => by rw [cpM_out (by omega), e44C]
    have mJ3 := cpM_J (B := 0) (st_mJ_kp (h' := HC) (fun p _ _ => e44C p) r5)
    have mF3' := cpM_F (B := 0) (st_mF_kp (h' := HC) (fun p _ _ => e44C p) r6)
    have mS3 := cpM_S (B := 0) hz2 (st_mS_kp (h' := HC) hz2 (fun p _ _ => e44C p) r7)
    have f : hs_fr [(4, some 0), (27, some 0), (9, some 0), (33, some 0), (5, some 0), (28, some 0), (29, some 0), (30, some 0), (44, some 0)] h (cpM HC 0 108) := (fAll.sub (fun q hq => Or.inl (by revert q hq; simp))).tr (fE.sub (fun q hq => Or.inl (by revert q hq; simp)))
    refine ⟨pl2, HC, cpM HC 0 108, by rw [e138, qF.1], ?_, ?_⟩
    · have h45 : HC.1 45 0 1 = 1 := by rw [(fAll 45 0 (fun q hq hh => by rcases hh with rfl | rfl <;> simp at hq)).1, ← ifl]; exact h1
      have h45' : ¬ HC.1 45 0 1 = 0 := by rw [h45]; decide
      have e231 := sp_231 (B := 0) (A := 108) (h := HC) (by omega) (by omega) (by omega)
      unfold hf_233
      rw [sp_150r (lo := 0) (hi := 1) rfl (lN_t (by omega)), hr]
      simp (disch := omega) only [h45', pk_mul, e231, nq_nf, nq_nt, nq_le_t, nq_le_f, nq_lt_t, nq_lt_f, nq_eq_t, nq_eq_f, nq_neg, nq_pos, nq_le0f, nq_le0t, nq_lt0t, nq_lt0f, nq_eq0f, nq_eq0t, nI_add, nI_clamp, nx_inb, nx_ck, Option.bind_some, nx_get, nx_get2, nx_dif, nx_or, bI_0, bI_01, bI_nt, bI_nf, if_true, if_false, ite_true, ite_false, not_true_eq_false, not_false_eq_true, and_true, true_and, and_false, false_and, Bool.false_eq_true, Bool.true_eq_false, reduceCtorEq]
      rw [(st_mF0 mF3').1]
    · refine ⟨N, re, W, Ho, J2, st2, pl2, mv2, s2, z2, t2, n2, g2, c + 1, d + 1, ⟨by omega, by omega⟩, ⟨⟨ok1, ok2, ok3⟩, ⟨st_cN_dep.fr fE rfl qN, st_cF_dep.fr fE rfl qF, st_cS_dep.fr fE rfl qS⟩, mJ3, mF3', mS3⟩, st_mN_dep.fr f rfl mN, st_imgs_fr f rfl eo im, ⟨⟨?_, ?_⟩, st_cas_new (by omega) ((st_cas_dep V).fr f rfl ca3), st_cha_new (by omega) ((st_cha_dep V).fr f rfl ca4), st_way_new (by omega) (by omega) (Or.inl (by omega)) ((st_way_dep V).fr f rfl ca5)⟩, st_rest_dep.fr f rfl rs⟩
      · rw [(fE 4 0 (fun q hq hh => by rcases hh with rfl | rfl <;> simp at hq)).1, q6, ca1, nI_add]
      · rw [(fE 5 0 (fun q hq hh => by rcases hh with rfl | rfl <;> simp at hq)).1, qd, e54B, ca2, nI_add]
theorem cl_back (V : st_V VC VH VW) {a : Int32} : st_call VC VH VW (hf_138 a) (hf_233 a) := by
  intro b h hb p
  cases hr : rg 0 1 a with
  | false => exact ⟨nI 4294967295, h, h, sp_138b hr, sp_233b hr, p.up VC VH VW (by omega)⟩
  | true =>
    obtain ⟨k, -, hk, rfl⟩ := (rg_of (by omega)).mp hr
    have : k = 0 ∨ k = 1 := by omega
    rcases this with rfl | rfl
    · exact back0 V hb p
    · exact back1 V hb p
end CB
