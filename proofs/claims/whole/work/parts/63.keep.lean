/-! keep, back. -/
theorem rg01 {a : Int32} (h : rg 0 1 a = false) : a < 0 ∨ (¬ a < 0 ∧ ¬ a < nI 2) := by
  rcases rg_f (by omega) h with q | ⟨q1, q2⟩
  · exact Or.inl q
  · refine Or.inr ⟨q1, fun q => q2 ?_⟩
    have h3 := Int32.lt_iff_toInt_lt.mp q
    rw [nI_toInt (by omega)] at h3
    rw [Int32.le_iff_toInt_le, nI_toInt (by omega)]
    have h3 : a.toInt < 2 := h3
    show a.toInt ≤ 1
    omega
theorem sp_137b {a : Int32} {h : hs_H} (hr : rg 0 1 a = false) : hf_137 a h = some (nI 4294967295, h) := by
  unfold hf_137 hb_137_9
  rcases rg01 hr with q | ⟨q1, q2⟩
  · rw [if_pos q]
  · rw [if_neg q1, if_neg q2]
theorem sp_138b {a : Int32} {h : hs_H} (hr : rg 0 1 a = false) : hf_138 a h = some (nI 4294967295, h) := by
  unfold hf_138 hb_138_9
  rcases rg01 hr with q | ⟨q1, q2⟩
  · rw [if_pos q]
  · rw [if_neg q1, if_neg q2]
theorem sp_232b {a : Int32} {h : hs_H} (hr : rg 0 1 a = false) : hf_232 a h = some (nI 4294967295, h) := by
  unfold hf_232
  rw [sp_150r (lo := 0) (hi := 1) rfl (lN_t (by omega)), hr]
  simp (disch := omega) only [nq_nf, nq_nt, nq_le_t, nq_le_f, nq_lt_t, nq_lt_f, nq_eq_t, nq_eq_f, nq_neg, nq_pos, nq_le0f, nq_le0t, nq_lt0t, nq_lt0f, nq_eq0f, nq_eq0t, nI_add, nI_clamp, nx_inb, nx_ck, Option.bind_some, nx_get, nx_get2, nx_dif, nx_or, bI_0, bI_01, bI_nt, bI_nf, if_true, if_false, ite_true, ite_false, not_true_eq_false, not_false_eq_true, and_true, true_and, and_false, false_and, Bool.false_eq_true, Bool.true_eq_false, reduceCtorEq]
theorem sp_233b {a : Int32} {h : hs_H} (hr : rg 0 1 a = false) : hf_233 a h = some (nI 4294967295, h) := by
  unfold hf_233
  rw [sp_150r (lo := 0) (hi := 1) rfl (lN_t (by omega)), hr]
  simp (disch := omega) only [nq_nf, nq_nt, nq_le_t, nq_le_f, nq_lt_t, nq_lt_f, nq_eq_t, nq_eq_f, nq_neg, nq_pos, nq_le0f, nq_le0t, nq_lt0t, nq_lt0f, nq_eq0f, nq_eq0t, nI_add, nI_clamp, nx_inb, nx_ck, Option.bind_some, nx_get, nx_get2, nx_dif, nx_or, bI_0, bI_01, bI_nt, bI_nf, if_true, if_false, ite_true, ite_false, not_true_eq_false, not_false_eq_true, and_true, true_and, and_false, false_and, Bool.false_eq_true, Bool.true_eq_false, reduceCtorEq]
section CK
variable {VC : Nat → (Nat → Nat) → Nat → Int32 → Int32 → hs_H → Prop} {VH : Nat → (Nat → Nat) → Nat → hs_H → Prop} {VW : st_VW}
def kp_c (h : hs_H) (k o : Nat) : hs_H := cpS (cpF (cpN (hs_put h 3 k 3 (nI 1)) o 0) o 0) o 0
def kp_m (h : hs_H) (k B : Nat) : hs_H := cpM (hs_put h 45 0 k (nI 1)) B 0
theorem keep0 (V : st_V VC VH VW) {b : Nat} {h : hs_H} (hb : b ≤ 1000000) (p : st_all VC VH VW b h) : ∃ r h1 h2, hf_137 (nI 0) h = some (r, h1) ∧ hf_232 (nI 0) h1 = some (r, h2) ∧ st_all VC VH VW (b + 100) h2 := by
  obtain ⟨N, re, W, Ho, J, st, pl, mv, s, z, t, n, g, c, d, ⟨hc, hd⟩, ⟨⟨okN, okF, okS⟩, ⟨cN, cF, cS⟩, mJ, mF, mS⟩, mN, im, ca, rs⟩ := p
  obtain ⟨⟨hN1, hN2⟩, hre, hst, ⟨hW, hHo⟩, hJ, hJ0, hJs, hJa⟩ := id okN
  obtain ⟨cN1, cN2, cN3, cN4, cN5, cJ⟩ := id cN
  obtain ⟨mN1, mN2, mN3, mN4⟩ := id mN
  obtain ⟨mJ1, mJ2⟩ := st_mJ0 mJ
  obtain ⟨mF1, mF2, mF3⟩ := st_mF0 mF
  obtain ⟨mS1, mS2⟩ := st_mS0 mS
  obtain ⟨cF1, cF2, cF3⟩ := id cF
  obtain ⟨cS1, cS2⟩ := id cS
  have hp := p2_lt hN2
  have hz := okS.1
  have imk := im.1.1
  refine ⟨if h.1 3 0 3 = 0 then nI 0 else nI 1, kp_c h 0 2, kp_m (kp_c h 0 2) 0 54, ?_, ?_, ?_⟩
  · unfold hf_137 hb_137_30 kp_c
    by_cases h0 : h.1 3 0 3 = 0
    · rw [if_pos h0]
      simp (disch := omega) only [h0, sp_28, sp_88, sp_48, nq_nf, nq_nt, nq_le_t, nq_le_f, nq_lt_t, nq_lt_f, nq_eq_t, nq_eq_f, nq_neg, nq_pos, nq_le0f, nq_le0t, nq_lt0t, nq_lt0f, nq_eq0f, nq_eq0t, nI_add, nI_clamp, nx_inb, nx_ck, Option.bind_some, nx_get, nx_get2, nx_dif, nx_or, bI_0, bI_01, bI_nt, bI_nf, if_true, if_false, ite_true, ite_false, not_true_eq_false, not_false_eq_true, and_true, true_and, and_false, false_and, Bool.false_eq_true, Bool.true_eq_false, reduceCtorEq]
    · rw [if_neg h0]
      simp (disch := omega) only [h0, sp_28, sp_88, sp_48, nq_nf, nq_nt, nq_le_t, nq_le_f, nq_lt_t, nq_lt_f, nq_eq_t, nq_eq_f, nq_neg, nq_pos, nq_le0f, nq_le0t, nq_lt0t, nq_lt0f, nq_eq0f, nq_eq0t, nI_add, nI_clamp, nx_inb, nx_ck, Option.bind_some, nx_get, nx_get2, nx_dif, nx_or, bI_0, bI_01, bI_nt, bI_nf, if_true, if_false, ite_true, ite_false, not_true_eq_false, not_false_eq_true, and_true, true_and, and_false, false_and, Bool.false_eq_true, Bool.true_eq_false, reduceCtorEq]
  · have e45 : (kp_c h 0 2).1 45 0 = h.1 45 0 := by
      unfold kp_c
      rw [(cpS_fr 45 0 (fun q hq hh => by rcases hh with rfl | rfl <;> simp at hq)).1, (cpF_fr 45 0 (fun q hq hh => by rcases hh with rfl | rfl <;> simp at hq)).1, (cpN_fr 45 0 (fun q hq hh => by rcases hh with rfl | rfl <;> simp at hq)).1, hs_put_ne (by simp)]
    unfold hf_232 kp_m
    rw [sp_150r (lo := 0) (hi := 1) rfl (lN_t (by omega)), (rg_of (by omega)).mpr ⟨0, by omega, by omega, rfl⟩]
    have e231 := sp_231 (B := 54) (A := 0) (h := hs_put (kp_c h 0 2) 45 0 0 (nI 1)) (by omega) (by omega) (by omega)
    simp (disch := omega) only [fl_151, e45, pk_mul, e231, nq_nf, nq_nt, nq_le_t, nq_le_f, nq_lt_t, nq_lt_f, nq_eq_t, nq_eq_f, nq_neg, nq_pos, nq_le0f, nq_le0t, nq_lt0t, nq_lt0f, nq_eq0f, nq_eq0t, nI_add, nI_clamp, nx_inb, nx_ck, Option.bind_some, nx_get, nx_get2, nx_dif, nx_or, bI_0, bI_01, bI_nt, bI_nf, if_true, if_false, ite_true, ite_false, not_true_eq_false, not_false_eq_true, and_true, true_and, and_false, false_and, Bool.false_eq_true, Bool.true_eq_false, reduceCtorEq]
    rw [imk]
  · have f0 : hs_fr [(3, some 0)] h (hs_put h 3 0 3 (nI 1)) := hs_fr.rf.put (.inl (.head _))
    have fA := cpN_fr (h := hs_put h 3 0 3 (nI 1)) (o := 2) (p := 0)
    have qN := cpN_N (o := 2) (p := 0) (st_cN_dep.fr f0 rfl cN)
    have qF0 := st_cF_dep.fr fA rfl (st_cF_dep.fr f0 rfl cF)
    have qS0 := st_cS_dep.fr fA rfl (st_cS_dep.fr f0 rfl cS)
    generalize hA : cpN (hs_put h 3 0 3 (nI 1)) 2 0 = HA at fA qN qF0 qS0
    have fB := cpF_fr (h := HA) (o := 2) (p := 0)
    have qF := cpF_F (o := 2) (p := 0) qF0
    have qS1 := st_cS_dep.fr fB rfl qS0
    have qN := st_cN_dep.fr fB rfl qN
    generalize hB : cpF HA 2 0 = HB at fB qF qS1 qN
    have fC := cpS_fr (h := HB) (o := 2) (p := 0)
    have qS := cpS_S (o := 2) (p := 0) hz qS1
    have qN := st_cN_dep.fr fC rfl qN
    have qF := st_cF_dep.fr fC rfl qF
    generalize hC : cpS HB 2 0 = HC at fC qS qN qF
    have fD : hs_fr [(45, some 0)] HC (hs_put HC 45 0 0 (nI 1)) := hs_fr.rf.put (.inl (.head _))
    have e45 : (hs_put HC 45 0 0 (nI 1)).1 45 0 0 = nI 1 := by simp (disch := omega) only [nq_nf, nq_nt, nq_le_t, nq_le_f, nq_lt_t, nq_lt_f, nq_eq_t, nq_eq_f, nq_neg, nq_pos, nq_le0f, nq_le0t, nq_lt0t, nq_lt0f, nq_eq0f, nq_eq0t, nI_add, nI_clamp, nx_inb, nx_ck, Option.bind_some, nx_get, nx_get2, nx_dif, nx_or, bI_0, bI_01, bI_nt, bI_nf, if_true, if_false, ite_true, ite_false, not_true_eq_false, not_false_eq_true, and_true, true_and, and_false, false_and, Bool.false_eq_true, Bool.true_eq_false, reduceCtorEq]
    have e45b : (hs_put HC 45 0 0 (nI 1)).1 45 0 1 = HC.1 45 0 1 := by simp (disch := omega) only [nq_nf, nq_nt, nq_le_t, nq_le_f, nq_lt_t, nq_lt_f, nq_eq_t, nq_eq_f, nq_neg, nq_pos, nq_le0f, nq_le0t, nq_lt0t, nq_lt0f, nq_eq0f, nq_eq0t, nI_add, nI_clamp, nx_inb, nx_ck, Option.bind_some, nx_get, nx_get2, nx_dif, nx_or, bI_0, bI_01, bI_nt, bI_nf, if_true, if_false, ite_true, ite_false, not_true_eq_false, not_false_eq_true, and_true, true_and, and_false, false_and, Bool.false_eq_true, Bool.true_eq_false, reduceCtorEq]
    have fAll : hs_fr [(3, some 0), (4, some 2), (27, some 2), (9, some 2), (33, some 2), (5, some 2), (28, some 2), (29, some 2), (30, some 2)] h HC := (((f0.sub (fun q hq => Or.inl (by revert q hq; simp))).tr (fA.sub (fun q hq => Or.inl (by revert q hq; simp)))).tr (fB.sub (fun q hq => Or.inl (by revert q hq; simp)))).tr (fC.sub (fun q hq => Or.inl (by revert q hq; simp)))
    have e3 : HC.1 3 0 3 = nI 1 := by
      rw [(fC 3 0 (fun q hq hh => by rcases hh with rfl | rfl <;> simp at hq)).1, (fB 3 0 (fun q hq hh => by rcases hh with rfl | rfl <;> simp at hq)).1, (fA 3 0 (fun q hq hh => by rcases hh with rfl | rfl <;> simp at hq)).1]
      simp (disch := omega) only [nq_nf, nq_nt, nq_le_t, nq_le_f, nq_lt_t, nq_lt_f, nq_eq_t, nq_eq_f, nq_neg, nq_pos, nq_le0f, nq_le0t, nq_lt0t, nq_lt0f, nq_eq0f, nq_eq0t, nI_add, nI_clamp, nx_inb, nx_ck, Option.bind_some, nx_get, nx_get2, nx_dif, nx_or, bI_0, bI_01, bI_nt, bI_nf, if_true, if_false, ite_true, ite_false, not_true_eq_false, not_false_eq_true, and_true, true_and, and_false, false_and, Bool.false_eq_true, Bool.true_eq_false, reduceCtorEq]
    have e45C : HC.1 45 0 = h.1 45 0 := (fAll 45 0 (fun q hq hh => by rcases hh with rfl | rfl <;> simp at hq)).1
    have qN := st_cN_dep.fr fD rfl qN
    have qF := st_cF_dep.fr fD rfl qF
    have qS := st_cS_dep.fr fD rfl qS
    have e44D : ∀ p, (hs_put HC 45 0 0 (nI 1)).1 44 0 p = h.1 44 0 p := fun p => by rw [hs_put_ne (by simp), (fAll 44 0 (fun q hq hh => by rcases hh with rfl | rfl <;> simp at hq)).1]
    have e3D : (hs_put HC 45 0 0 (nI 1)).1 3 0 3 = nI 1 := by rw [hs_put_ne (by simp)]; exact e3
    have fAll2 : hs_fr [(3, some 0), (4, some 2), (27, some 2), (9, some 2), (33, some 2), (5, some 2), (28, some 2), (29, some 2), (30, some 2), (45, some 0)] h (hs_put HC 45 0 0 (nI 1)) := (fAll.sub (fun q hq => Or.inl (by revert q hq; simp))).tr (fD.sub (fun q hq => Or.inl (by revert q hq; simp)))
    have mJD : st_mJ 44 0 J st (hs_put HC 45 0 0 (nI 1)) := st_mJ_kp (fun p _ _ => e44D p) mJ
    have mFD : st_mF 44 0 pl mv s (hs_put HC 45 0 0 (nI 1)) := st_mF_kp (fun p _ _ => e44D p) mF
    have mSD : st_mS 44 0 z t n g (hs_put HC 45 0 0 (nI 1)) := st_mS_kp hz (fun p _ _ => e44D p) mS
    have e45c : (hs_put HC 45 0 0 (nI 1)).1 45 0 1 = h.1 45 0 1 := by rw [e45b, e45C]
    generalize hD : hs_put HC 45 0 0 (nI 1) = HD at fD e45 e45c qN qF qS e44D e3D fAll2 mJD mFD mSD
    have fE := cpM_fr (h := HD) (B := 54) (A := 0)
    have eo : ∀ p, p < 54 ∨ 54 + 54 ≤ p → (cpM HD 54 0).1 44 0 p = h.1 44 0 p := fun p hp => by rw [cpM_out hp, e44D]
    have f : hs_fr [(3, some 0), (4, some 2), (27, some 2), (9, some 2), (33, some 2), (5, some 2), (28, some 2), (29, some 2), (30, some 2), (45, some 0), (44, some 0)] h (cpM HD 54 0) := (fAll2.sub (fun q hq => Or.inl (by revert q hq; simp))).tr (fE.sub (fun q hq => Or.inl (by revert q hq; simp)))
    have e3E : (cpM HD 54 0).1 3 0 3 = nI 1 := by rw [(fE 3 0 (fun q hq hh => by rcases hh with rfl | rfl <;> simp at hq)).1]; exact e3D
    have e45E : (cpM HD 54 0).1 45 0 = HD.1 45 0 := (fE 45 0 (fun q hq hh => by rcases hh with rfl | rfl <;> simp at hq)).1
    have hE : kp_m (kp_c h 0 2) 0 54 = cpM HD 54 0 := by
      unfold kp_m kp_c
      rw [hA, hB, hC, hD]
    rw [hE]
    have im1 : st_img 0 N re W Ho (cpM HD 54 0) := ⟨by rw [e3E, e45E, e45], Or.inr ⟨e3E, J, st, pl, mv, s, z, t, n, g, ⟨okN, okF, okS⟩, ⟨st_cN_dep.fr fE rfl qN, st_cF_dep.fr fE rfl qF, st_cS_dep.fr fE rfl qS⟩, cpM_J mJD, cpM_F mFD, cpM_S hz mSD⟩⟩
    have im2 : st_img 1 N re W Ho (cpM HD 54 0) := by
      have i0 := im.2
      unfold st_img at i0 ⊢
      have e1 : (cpM HD 54 0).1 3 1 = h.1 3 1 := (f 3 1 (fun q hq hh => by rcases hh with rfl | rfl <;> simp at hq)).1
      rw [e1, e45E, e45c]
      refine ⟨i0.1, i0.2.imp id (fun ⟨q1, J2, st2, pl2, mv2, s2, z2, t2, n2, g2, r1, ⟨r2, r3, r4⟩, r5, r6, r7⟩ => ⟨q1, J2, st2, pl2, mv2, s2, z2, t2, n2, g2, r1, ⟨st_cN_dep.fr f rfl r2, st_cF_dep.fr f rfl r3, st_cS_dep.fr f rfl r4⟩, st_mJ_kp (fun p h1 h2 => eo p (by omega)) r5, st_mF_kp (fun p h1 h2 => eo p (by omega)) r6, st_mS_kp r1.2.2.1 (fun p h1 h2 => eo p (by omega)) r7⟩)⟩
    refine ⟨N, re, W, Ho, J, st, pl, mv, s, z, t, n, g, c, d, ⟨by omega, by omega⟩, ⟨⟨okN, okF, okS⟩, ⟨st_cN_dep.fr f rfl cN, st_cF_dep.fr f rfl cF, st_cS_dep.fr f rfl cS⟩, st_mJ_kp (fun p h1 h2 => eo p (by omega)) mJ, st_mF_kp (fun p h1 h2 => eo p (by omega)) mF, st_mS_kp hz (fun p h1 h2 => eo p (by omega)) mS⟩, st_mN_dep.fr f rfl mN, ⟨im1, im2⟩, (st_cache_dep V).fr f rfl ca, st_rest_dep.fr f rfl rs⟩
theorem keep1 (V : st_V VC VH VW) {b : Nat} {h : hs_H} (hb : b ≤ 1000000) (p : st_all VC VH VW b h) : ∃ r h1 h2, hf_137 (nI 1) h = some (r, h1) ∧ hf_232 (nI 1) h1 = some (r, h2) ∧ st_all VC VH VW (b + 100) h2 := by
  obtain ⟨N, re, W, Ho, J, st, pl, mv, s, z, t, n, g, c, d, ⟨hc, hd⟩, ⟨⟨okN, okF, okS⟩, ⟨cN, cF, cS⟩, mJ, mF, mS⟩, mN, im, ca, rs⟩ := p
  obtain ⟨⟨hN1, hN2⟩, hre, hst, ⟨hW, hHo⟩, hJ, hJ0, hJs, hJa⟩ := id okN
  obtain ⟨cN1, cN2, cN3, cN4, cN5, cJ⟩ := id cN
  obtain ⟨mN1, mN2, mN3, mN4⟩ := id mN
  obtain ⟨mJ1, mJ2⟩ := st_mJ0 mJ
  obtain ⟨mF1, mF2, mF3⟩ := st_mF0 mF
  obtain ⟨mS1, mS2⟩ := st_mS0 mS
  obtain ⟨cF1, cF2, cF3⟩ := id cF
  obtain ⟨cS1, cS2⟩ := id cS
  have hp := p2_lt hN2
  have hz := okS.1
  have imk := im.2.1
  refine ⟨if h.1 3 1 3 = 0 then nI 0 else nI 1, kp_c h 1 3, kp_m (kp_c h 1 3) 1 108, ?_, ?_, ?_⟩
  · unfold hf_137 hb_137_30 kp_c
    by_cases h0 : h.1 3 1 3 = 0
    · rw [if_pos h0]
      simp (disch := omega) only [h0, sp_28, sp_88, sp_48, nq_nf, nq_nt, nq_le_t, nq_le_f, nq_lt_t, nq_lt_f, nq_eq_t, nq_eq_f, nq_neg, nq_pos, nq_le0f, nq_le0t, nq_lt0t, nq_lt0f, nq_eq0f, nq_eq0t, nI_add, nI_clamp, nx_inb, nx_ck, Option.bind_some, nx_get, nx_get2, nx_dif, nx_or, bI_0, bI_01, bI_nt, bI_nf, if_true, if_false, ite_true, ite_false, not_true_eq_false, not_false_eq_true, and_true, true_and, and_false, false_and, Bool.false_eq_true, Bool.true_eq_false, reduceCtorEq]
    · rw [if_neg h0]
      simp (disch := omega) only [h0, sp_28, sp_88, sp_48, nq_nf, nq_nt, nq_le_t, nq_le_f, nq_lt_t, nq_lt_f, nq_eq_t, nq_eq_f, nq_neg, nq_pos, nq_le0f, nq_le0t, nq_lt0t, nq_lt0f, nq_eq0f, nq_eq0t, nI_add, nI_clamp, nx_inb, nx_ck, Option.bind_some, nx_get, nx_get2, nx_dif, nx_or, bI_0, bI_01, bI_nt, bI_nf, if_true, if_false, ite_true, ite_false, not_true_eq_false, not_false_eq_true, and_true, true_and, and_false, false_and, Bool.false_eq_true, Bool.true_eq_false, reduceCtorEq]
  · have e45 : (kp_c h 1 3).1 45 0 = h.1 45 0 := by
      unfold kp_c
      rw [(cpS_fr 45 0 (fun q hq hh => by rcases hh with rfl | rfl <;> simp at hq)).1, (cpF_fr 45 0 (fun q hq hh => by rcases hh with rfl | rfl <;> simp at hq)).1, (cpN_fr 45 0 (fun q hq hh => by rcases hh with rfl | rfl <;> simp at hq)).1, hs_put_ne (by simp)]
    unfold hf_232 kp_m
    rw [sp_150r (lo := 0) (hi := 1) rfl (lN_t (by omega)), (rg_of (by omega)).mpr ⟨1, by omega, by omega, rfl⟩]
    have e231 := sp_231 (B := 108) (A := 0) (h := hs_put (kp_c h 1 3) 45 0 1 (nI 1)) (by omega) (by omega) (by omega)
    simp (disch := omega) only [fl_151, e45, pk_mul, e231, nq_nf, nq_nt, nq_le_t, nq_le_f, nq_lt_t, nq_lt_f, nq_eq_t, nq_eq_f, nq_neg, nq_pos, nq_le0f, nq_le0t, nq_lt0t, nq_lt0f, nq_eq0f, nq_eq0t, nI_add, nI_clamp, nx_inb, nx_ck, Option.bind_some, nx_get, nx_get2, nx_dif, nx_or, bI_0, bI_01, bI_nt, bI_nf, if_true, if_false, ite_true, ite_false, not_true_eq_false, not_false_eq_true, and_true, true_and, and_false, false_and, Bool.false_eq_true, Bool.true_eq_false, reduceCtorEq]
    rw [imk]
  · have f0 : hs_fr [(3, some 1)] h (hs_put h 3 1 3 (nI 1)) := hs_fr.rf.put (.inl (.head _))
    have fA := cpN_fr (h := hs_put h 3 1 3 (nI 1)) (o := 3) (p := 0)
    have qN := cpN_N (o := 3) (p := 0) (st_cN_dep.fr f0 rfl cN)
    have qF0 := st_cF_dep.fr fA rfl (st_cF_dep.fr f0 rfl cF)
    have qS0 := st_cS_dep.fr fA rfl (st_cS_dep.fr f0 rfl cS)
    generalize hA : cpN (hs_put h 3 1 3 (nI 1)) 3 0 = HA at fA qN qF0 qS0
    have fB := cpF_fr (h := HA) (o := 3) (p := 0)
    have qF := cpF_F (o := 3) (p := 0) qF0
    have qS1 := st_cS_dep.fr fB rfl qS0
    have qN := st_cN_dep.fr fB rfl qN
    generalize hB : cpF HA 3 0 = HB at fB qF qS1 qN
    have fC := cpS_fr (h := HB) (o := 3) (p := 0)
    have qS := cpS_S (o := 3) (p := 0) hz qS1
    have qN := st_cN_dep.fr fC rfl qN
    have qF := st_cF_dep.fr fC rfl qF
    generalize hC : cpS HB 3 0 = HC at fC qS qN qF
    have fD : hs_fr [(45, some 0)] HC (hs_put HC 45 0 1 (nI 1)) := hs_fr.rf.put (.inl (.head _))
    have e45 : (hs_put HC 45 0 1 (nI 1)).1 45 0 1 = nI 1 := by simp (disch := omega) only [nq_nf, nq_nt, nq_le_t, nq_le_f, nq_lt_t, nq_lt_f, nq_eq_t, nq_eq_f, nq_neg, nq_pos, nq_le0f, nq_le0t, nq_lt0t, nq_lt0f, nq_eq0f, nq_eq0t, nI_add, nI_clamp, nx_inb, nx_ck, Option.bind_some, nx_get, nx_get2, nx_dif, nx_or, bI_0, bI_01, bI_nt, bI_nf, if_true, if_false, ite_true, ite_false, not_true_eq_false, not_false_eq_true, and_true, true_and, and_false, false_and, Bool.false_eq_true, Bool.true_eq_false, reduceCtorEq]
    have e45b : (hs_put HC 45 0 1 (nI 1)).1 45 0 0 = HC.1 45 0 0 := by simp (disch := omega) only [nq_nf, nq_nt, nq_le_t, nq_le_f, nq_lt_t, nq_lt_f, nq_eq_t, nq_eq_f, nq_neg, nq_pos, nq_le0f, nq_le0t, nq_lt0t, nq_lt0f, nq_eq0f, nq_eq0t, nI_add, nI_clamp, nx_inb, nx_ck, Option.bind_some, nx_get, nx_get2, nx_dif, nx_or, bI_0, bI_01, bI_nt, bI_nf, if_true, if_false, ite_true, ite_false, not_true_eq_false, not_false_eq_true, and_true, true_and, and_false, false_and, Bool.false_eq_true, Bool.true_eq_false, reduceCtorEq]
    have fAll : hs_fr [(3, some 1), (4, some 3), (27, some 3), (9, some 3), (33, some 3), (5, some 3), (28, some 3), (29, some 3), (30, some 3)] h HC := (((f0.sub (fun q hq => Or.inl (by revert q hq; simp))).tr (fA.sub (fun q hq => Or.inl (by revert q hq; simp)))).tr (fB.sub (fun q hq => Or.inl (by revert q hq; simp)))).tr (fC.sub (fun q hq => Or.inl (by revert q hq; simp)))
    have e3 : HC.1 3 1 3 = nI 1 := by
      rw [(fC 3 1 (fun q hq hh => by rcases hh with rfl | rfl <;> simp at hq)).1, (fB 3 1 (fun q hq hh => by rcases hh with rfl | rfl <;> simp at hq)).1, (fA 3 1 (fun q hq hh => by rcases hh with rfl | rfl <;> simp at hq)).1]
      simp (disch := omega) only [nq_nf, nq_nt, nq_le_t, nq_le_f, nq_lt_t, nq_lt_f, nq_eq_t, nq_eq_f, nq_neg, nq_pos, nq_le0f, nq_le0t, nq_lt0t, nq_lt0f, nq_eq0f, nq_eq0t, nI_add, nI_clamp, nx_inb, nx_ck, Option.bind_some, nx_get, nx_get2, nx_dif, nx_or, bI_0, bI_01, bI_nt, bI_nf, if_true, if_false, ite_true, ite_false, not_true_eq_false, not_false_eq_true, and_true, true_and, and_false, false_and, Bool.false_eq_true, Bool.true_eq_false, reduceCtorEq]
    have e45C : HC.1 45 0 = h.1 45 0 := (fAll 45 0 (fun q hq hh => by rcases hh with rfl | rfl <;> simp at hq)).1
    have qN := st_cN_dep.fr fD rfl qN
    have qF := st_cF_dep.fr fD rfl qF
    have qS := st_cS_dep.fr fD rfl qS
    have e44D : ∀ p, (hs_put HC 45 0 1 (nI 1)).1 44 0 p = h.1 44 0 p := fun p => by rw [hs_put_ne (by simp), (fAll 44 0 (fun q hq hh => by rcases hh with rfl | rfl <;> simp at hq)).1]
    have e3D : (hs_put HC 45 0 1 (nI 1)).1 3 1 3 = nI 1 := by rw [hs_put_ne (by simp)]; exact e3
    have fAll2 : hs_fr [(3, some 1), (4, some 3), (27, some 3), (9, some 3), (33, some 3), (5, some 3), (28, some 3), (29, some 3), (30, some 3), (45, some 0)] h (hs_put HC 45 0 1 (nI 1)) := (fAll.sub (fun q hq => Or.inl (by revert q hq; simp))).tr (fD.sub (fun q hq => Or.inl (by revert q hq; simp)))
    have mJD : st_mJ 44 0 J st (hs_put HC 45 0 1 (nI 1)) := st_mJ_kp (fun p _ _ => e44D p) mJ
    have mFD : st_mF 44 0 pl mv s (hs_put HC 45 0 1 (nI 1)) := st_mF_kp (fun p _ _ => e44D p) mF
    have mSD : st_mS 44 0 z t n g (hs_put HC 45 0 1 (nI 1)) := st_mS_kp hz (fun p _ _ => e44D p) mS
    have e45c : (hs_put HC 45 0 1 (nI 1)).1 45 0 0 = h.1 45 0 0 := by rw [e45b, e45C]
    generalize hD : hs_put HC 45 0 1 (nI 1) = HD at fD e45 e45c qN qF qS e44D e3D fAll2 mJD mFD mSD
    have fE := cpM_fr (h := HD) (B := 108) (A := 0)
    have eo : ∀ p, p < 108 ∨ 108 + 54 ≤ p → (cpM HD 108 0).1 44 0 p = h.1 44 0 p := fun p hp => by rw [cpM_out hp, e44D]
    have f : hs_fr [(3, some 1), (4, some 3), (27, some 3), (9, some 3), (33, some 3), (5, some 3), (28, some 3), (29, some 3), (30, some 3), (45, some 0), (44, some 0)] h (cpM HD 108 0) := (fAll2.sub (fun q hq => Or.inl (by revert q hq; simp))).tr (fE.sub (fun q hq => Or.inl (by revert q hq; simp)))
    have e3E : (cpM HD 108 0).1 3 1 3 = nI 1 := by rw [(fE 3 1 (fun q hq hh => by rcases hh with rfl | rfl <;> simp at hq)).1]; exact e3D
    have e45E : (cpM HD 108 0).1 45 0 = HD.1 45 0 := (fE 45 0 (fun q hq hh => by rcases hh with rfl | rfl <;> simp at hq)).1
    have hE : kp_m (kp_c h 1 3) 1 108 = cpM HD 108 0 := by
      unfold kp_m kp_c
      rw [hA, hB, hC, hD]
    rw [hE]
    have im1 : st_img 1 N re W Ho (cpM HD 108 0) := ⟨by rw [e3E, e45E, e45], Or.inr ⟨e3E, J, st, pl, mv, s, z, t, n, g, ⟨okN, okF, okS⟩, ⟨st_cN_dep.fr fE rfl qN, st_cF_dep.fr fE rfl qF, st_cS_dep.fr fE rfl qS⟩, cpM_J mJD, cpM_F mFD, cpM_S hz mSD⟩⟩
    have im2 : st_img 0 N re W Ho (cpM HD 108 0) := by
      have i0 := im.1
      unfold st_img at i0 ⊢
      have e1 : (cpM HD 108 0).1 3 0 = h.1 3 0 := (f 3 0 (fun q hq hh => by rcases hh with rfl | rfl <;> simp at hq)).1
      rw [e1, e45E, e45c]
      refine ⟨i0.1, i0.2.imp id (fun ⟨q1, J2, st2, pl2, mv2, s2, z2, t2, n2, g2, r1, ⟨r2, r3, r4⟩, r5, r6, r7⟩ => ⟨q1, J2, st2, pl2, mv2, s2, z2, t2, n2, g2, r1, ⟨st_cN_dep.fr f rfl r2, st_cF_dep.fr f rfl r3, st_cS_dep.fr f rfl r4⟩, st_mJ_kp (fun p h1 h2 => eo p (by omega)) r5, st_mF_kp (fun p h1 h2 => eo p (by omega)) r6, st_mS_kp r1.2.2.1 (fun p h1 h2 => eo p (by omega)) r7⟩)⟩
    refine ⟨N, re, W, Ho, J, st, pl, mv, s, z, t, n, g, c, d, ⟨by omega, by omega⟩, ⟨⟨okN, okF, okS⟩, ⟨st_cN_dep.fr f rfl cN, st_cF_dep.fr f rfl cF, st_cS_dep.fr f rfl cS⟩, st_mJ_kp (fun p h1 h2 => eo p (by omega)) mJ, st_mF_kp (fun p h1 h2 => eo p (by omega)) mF, st_mS_kp hz (fun p h1 h2 => eo p (by omega)) mS⟩, st_mN_dep.fr f rfl mN, ⟨im2, im1⟩, (st_cache_dep V).fr f rfl ca, st_rest_dep.fr f rfl rs⟩
theorem cl_keep (V : st_V VC VH VW) {a : Int32} : st_call VC VH VW (hf_137 a) (hf_232 a) := by
  intro b h hb p
  cases hr : rg 0 1 a with
  | false => exact ⟨nI 4294967295, h, h, sp_137b hr, sp_232b hr, p.up VC VH VW (by omega)⟩
  | true =>
    obtain ⟨k, -, hk, rfl⟩ := (rg_of (by omega)).mp hr
    have : k = 0 ∨ k = 1 := by omega
    rcases this with rfl | rfl
    · exact keep0 V hb p
    · exact keep1 V hb p
end CK
