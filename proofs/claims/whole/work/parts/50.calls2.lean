/-! Calls that change one number: end, forget, start. -/
theorem rg_f {T : Nat} {a : Int32} (hT : T < 2147483648) (h : rg 0 T a = false) : a < 0 ∨ (¬ a < 0 ∧ ¬ a ≤ nI T) := by
  unfold rg at h
  have h := of_decide_eq_false h
  by_cases h1 : a < 0
  · exact Or.inl h1
  · refine Or.inr ⟨h1, fun q => h ?_⟩
    have h2 : ¬ a.toInt < 0 := fun q => h1 (Int32.lt_iff_toInt_lt.mpr q)
    have h3 := Int32.le_iff_toInt_le.mp q
    rw [nI_toInt hT] at h3
    omega
def st_L1 : List (Nat × Nat) := [(4, 0), (27, 0), (9, 0), (33, 0), (5, 0), (28, 0), (29, 0), (30, 0), (44, 0)]
def st_L2 : List (Nat × Nat) := [(3, 0), (45, 0), (4, 2), (27, 2), (9, 2), (33, 2), (5, 2), (28, 2), (29, 2), (30, 2), (44, 0), (3, 1), (4, 3), (27, 3), (9, 3), (33, 3), (5, 3), (28, 3), (29, 3), (30, 3)]
def st_L3 : List (Nat × Nat) := [(4, 0), (5, 0), (0, 0), (20, 0), (21, 0), (22, 0), (23, 0), (1, 0), (24, 0), (10, 0), (40, 0), (41, 0)]
def st_L4 : List (Nat × Nat) := [(8, 0), (8, 1), (8, 2), (8, 3), (32, 0), (32, 1), (32, 2), (32, 3), (61, 0), (62, 0), (63, 0)]
theorem st_imgs_dep {N re W Ho : Nat} : st_dep st_L2 (st_imgs N re W Ho) := by
  intro h h' e p
  refine ⟨st_img_dep h h' (fun q hq => e q ?_) p.1, st_img_dep h h' (fun q hq => e q ?_) p.2⟩
  · revert q hq; unfold st_L2; simp
  · revert q hq; unfold st_L2; simp
section C2
variable {VC : Nat → (Nat → Nat) → Nat → Int32 → Int32 → hs_H → Prop} {VH : Nat → (Nat → Nat) → Nat → hs_H → Prop} {VW : st_VW} {c d N : Nat} {J : Nat → Nat} {re : Nat} {st : Int32} {W z : Nat} {t n g : Nat → Nat} {h h' : hs_H}
theorem st_cache_dep (V : st_V VC VH VW) : st_dep st_L3 (st_cache VC VH VW c d N J re st W z t n g) := by
  intro h h' e p
  have e1 : h'.1 4 0 = h.1 4 0 := e (4, 0) (by unfold st_L3; simp)
  have e2 : h'.1 5 0 = h.1 5 0 := e (5, 0) (by unfold st_L3; simp)
  obtain ⟨⟨p1, p2⟩, p3, p4, p5⟩ := p
  refine ⟨⟨by rw [e1]; exact p1, by rw [e2]; exact p2⟩, st_cas_dep V h h' (fun q hq => e q ?_) p3, st_cha_dep V h h' (fun q hq => e q ?_) p4, st_way_dep V h h' (fun q hq => e q ?_) p5⟩
  · revert q hq; unfold st_L3; simp
  · revert q hq; unfold st_L3; simp
  · revert q hq; unfold st_L3; simp
theorem st_sheets_dep : st_dep st_L4 (fun h => ∀ k, k < 4 → st_sheet k h) := by
  intro h h' e p k hk
  refine st_sheet_dep h h' (fun q hq => e q ?_) (p k hk)
  have : k = 0 ∨ k = 1 ∨ k = 2 ∨ k = 3 := by omega
  rcases this with rfl | rfl | rfl | rfl <;> (revert q hq; unfold st_L4; simp)
theorem cl_end (V : st_V VC VH VW) {a : Int32} : st_call VC VH VW (hf_106 a) (hf_156 a) := by
  intro b h hb p
  have p0 := p
  obtain ⟨N, re, W, Ho, J, st, pl, mv, s, z, t, n, g, c, d, ⟨hc, hd⟩, ⟨⟨okN, okF, okS⟩, ⟨cN, cF, cS⟩, mJ, mF, mS⟩, mN, im, ca, rs⟩ := p
  obtain ⟨⟨hN1, hN2⟩, hre, hst, ⟨hW, hHo⟩, hJ, hJ0, hJs, hJa⟩ := id okN
  obtain ⟨cN1, cN2, cN3, cN4, cN5, cJ⟩ := id cN
  obtain ⟨mN1, mN2, mN3, mN4⟩ := id mN
  obtain ⟨mJ1, mJ2⟩ := st_mJ0 mJ
  obtain ⟨mF1, mF2, mF3⟩ := st_mF0 mF
  obtain ⟨mS1, mS2⟩ := st_mS0 mS
  obtain ⟨cF1, cF2, cF3⟩ := id cF
  obtain ⟨cS1, cS2⟩ := id cS
  have hp := p2_lt hN2
  obtain ⟨rs1, ⟨T, hT, t1, t2, t3⟩, ms1, ms2⟩ := rs
  cases hr : rg 0 T a with
  | false =>
    refine ⟨nI 4294967295, h, h, ?_, ?_, p0.up VC VH VW (by omega)⟩
    · unfold hf_106 hf_52 hb_52_12
      rw [t1]
      rcases rg_f (by omega) hr with h1 | ⟨h1, h2⟩
      · simp (disch := omega) only [h1, nq_nf, nq_nt, nq_le_t, nq_le_f, nq_lt_t, nq_lt_f, nq_eq_t, nq_eq_f, nq_neg, nq_pos, nq_le0f, nq_le0t, nq_lt0t, nq_lt0f, nq_eq0f, nq_eq0t, nI_add, nI_clamp, nx_inb, nx_ck, Option.bind_some, nx_get, nx_get2, nx_dif, nx_or, bI_0, bI_01, bI_nt, bI_nf, if_true, if_false, ite_true, ite_false, not_true_eq_false, not_false_eq_true, and_true, true_and, and_false, false_and, Bool.false_eq_true, Bool.true_eq_false, reduceCtorEq]
      · simp (disch := omega) only [h1, h2, nq_nf, nq_nt, nq_le_t, nq_le_f, nq_lt_t, nq_lt_f, nq_eq_t, nq_eq_f, nq_neg, nq_pos, nq_le0f, nq_le0t, nq_lt0t, nq_lt0f, nq_eq0f, nq_eq0t, nI_add, nI_clamp, nx_inb, nx_ck, Option.bind_some, nx_get, nx_get2, nx_dif, nx_or, bI_0, bI_01, bI_nt, bI_nf, if_true, if_false, ite_true, ite_false, not_true_eq_false, not_false_eq_true, and_true, true_and, and_false, false_and, Bool.false_eq_true, Bool.true_eq_false, reduceCtorEq]
    · unfold hf_156
      rw [t2, sp_150r (lo := 0) (hi := T) rfl (nI_64 (by omega)), hr]
      simp (disch := omega) only [nq_nf, nq_nt, nq_le_t, nq_le_f, nq_lt_t, nq_lt_f, nq_eq_t, nq_eq_f, nq_neg, nq_pos, nq_le0f, nq_le0t, nq_lt0t, nq_lt0f, nq_eq0f, nq_eq0t, nI_add, nI_clamp, nx_inb, nx_ck, Option.bind_some, nx_get, nx_get2, nx_dif, nx_or, bI_0, bI_01, bI_nt, bI_nf, if_true, if_false, ite_true, ite_false, not_true_eq_false, not_false_eq_true, and_true, true_and, and_false, false_and, Bool.false_eq_true, Bool.true_eq_false, reduceCtorEq]
  | true =>
    obtain ⟨i, -, hi, rfl⟩ := (rg_of (by omega)).mp hr
    refine ⟨nI T, hs_put h 6 0 3 (nI i), hs_put (hs_put h 6 0 3 (nI i)) 12 0 14 (nI i), ?_, ?_, ?_⟩
    · unfold hf_106 hf_52 hb_52_12
      simp (disch := omega) only [t1, nq_nf, nq_nt, nq_le_t, nq_le_f, nq_lt_t, nq_lt_f, nq_eq_t, nq_eq_f, nq_neg, nq_pos, nq_le0f, nq_le0t, nq_lt0t, nq_lt0f, nq_eq0f, nq_eq0t, nI_add, nI_clamp, nx_inb, nx_ck, Option.bind_some, nx_get, nx_get2, nx_dif, nx_or, bI_0, bI_01, bI_nt, bI_nf, if_true, if_false, ite_true, ite_false, not_true_eq_false, not_false_eq_true, and_true, true_and, and_false, false_and, Bool.false_eq_true, Bool.true_eq_false, reduceCtorEq]
    · unfold hf_156
      rw [sp_150r (lo := 0) (hi := T) rfl (by simp (disch := omega) only [t2, nq_nf, nq_nt, nq_le_t, nq_le_f, nq_lt_t, nq_lt_f, nq_eq_t, nq_eq_f, nq_neg, nq_pos, nq_le0f, nq_le0t, nq_lt0t, nq_lt0f, nq_eq0f, nq_eq0t, nI_add, nI_clamp, nx_inb, nx_ck, Option.bind_some, nx_get, nx_get2, nx_dif, nx_or, bI_0, bI_01, bI_nt, bI_nf, if_true, if_false, ite_true, ite_false, not_true_eq_false, not_false_eq_true, and_true, true_and, and_false, false_and, Bool.false_eq_true, Bool.true_eq_false, reduceCtorEq]; exact nI_64 (by omega)), hr]
      simp (disch := omega) only [t2, nq_nf, nq_nt, nq_le_t, nq_le_f, nq_lt_t, nq_lt_f, nq_eq_t, nq_eq_f, nq_neg, nq_pos, nq_le0f, nq_le0t, nq_lt0t, nq_lt0f, nq_eq0f, nq_eq0t, nI_add, nI_clamp, nx_inb, nx_ck, Option.bind_some, nx_get, nx_get2, nx_dif, nx_or, bI_0, bI_01, bI_nt, bI_nf, if_true, if_false, ite_true, ite_false, not_true_eq_false, not_false_eq_true, and_true, true_and, and_false, false_and, Bool.false_eq_true, Bool.true_eq_false, reduceCtorEq]
    · have f : hs_fr [(6, some 0), (12, some 0)] h (hs_put (hs_put h 6 0 3 (nI i)) 12 0 14 (nI i)) := (hs_fr.rf.put (.inl (.head _))).put (.inl (.tail _ (.head _)))
      refine ⟨N, re, W, Ho, J, st, pl, mv, s, z, t, n, g, c, d, ⟨by omega, by omega⟩, st_core_dep.fr f rfl ⟨⟨okN, okF, okS⟩, ⟨cN, cF, cS⟩, mJ, mF, mS⟩, ?_, st_imgs_dep.fr f rfl im, (st_cache_dep V).fr f rfl ca, st_sheets_dep.fr f rfl rs1, ⟨i, by omega, ?_, ?_, fun k hk => ?_⟩, ?_, ?_⟩
      · unfold st_mN
        simp (disch := omega) only [mN1, mN2, mN3, mN4, nq_nf, nq_nt, nq_le_t, nq_le_f, nq_lt_t, nq_lt_f, nq_eq_t, nq_eq_f, nq_neg, nq_pos, nq_le0f, nq_le0t, nq_lt0t, nq_lt0f, nq_eq0f, nq_eq0t, nI_add, nI_clamp, nx_inb, nx_ck, Option.bind_some, nx_get, nx_get2, nx_dif, nx_or, bI_0, bI_01, bI_nt, bI_nf, if_true, if_false, ite_true, ite_false, not_true_eq_false, not_false_eq_true, and_true, true_and, and_false, false_and, Bool.false_eq_true, Bool.true_eq_false, reduceCtorEq]
      · simp (disch := omega) only [nq_nf, nq_nt, nq_le_t, nq_le_f, nq_lt_t, nq_lt_f, nq_eq_t, nq_eq_f, nq_neg, nq_pos, nq_le0f, nq_le0t, nq_lt0t, nq_lt0f, nq_eq0f, nq_eq0t, nI_add, nI_clamp, nx_inb, nx_ck, Option.bind_some, nx_get, nx_get2, nx_dif, nx_or, bI_0, bI_01, bI_nt, bI_nf, if_true, if_false, ite_true, ite_false, not_true_eq_false, not_false_eq_true, and_true, true_and, and_false, false_and, Bool.false_eq_true, Bool.true_eq_false, reduceCtorEq]
      · simp (disch := omega) only [nq_nf, nq_nt, nq_le_t, nq_le_f, nq_lt_t, nq_lt_f, nq_eq_t, nq_eq_f, nq_neg, nq_pos, nq_le0f, nq_le0t, nq_lt0t, nq_lt0f, nq_eq0f, nq_eq0t, nI_add, nI_clamp, nx_inb, nx_ck, Option.bind_some, nx_get, nx_get2, nx_dif, nx_or, bI_0, bI_01, bI_nt, bI_nf, if_true, if_false, ite_true, ite_false, not_true_eq_false, not_false_eq_true, and_true, true_and, and_false, false_and, Bool.false_eq_true, Bool.true_eq_false, reduceCtorEq]
      · simp (disch := omega) only [nq_nf, nq_nt, nq_le_t, nq_le_f, nq_lt_t, nq_lt_f, nq_eq_t, nq_eq_f, nq_neg, nq_pos, nq_le0f, nq_le0t, nq_lt0t, nq_lt0f, nq_eq0f, nq_eq0t, nI_add, nI_clamp, nx_inb, nx_ck, Option.bind_some, nx_get, nx_get2, nx_dif, nx_or, bI_0, bI_01, bI_nt, bI_nf, if_true, if_false, ite_true, ite_false, not_true_eq_false, not_false_eq_true, and_true, true_and, and_false, false_and, Bool.false_eq_true, Bool.true_eq_false, reduceCtorEq]
        exact t3 k (by omega)
      · simp (disch := omega) only [nq_nf, nq_nt, nq_le_t, nq_le_f, nq_lt_t, nq_lt_f, nq_eq_t, nq_eq_f, nq_neg, nq_pos, nq_le0f, nq_le0t, nq_lt0t, nq_lt0f, nq_eq0f, nq_eq0t, nI_add, nI_clamp, nx_inb, nx_ck, Option.bind_some, nx_get, nx_get2, nx_dif, nx_or, bI_0, bI_01, bI_nt, bI_nf, if_true, if_false, ite_true, ite_false, not_true_eq_false, not_false_eq_true, and_true, true_and, and_false, false_and, Bool.false_eq_true, Bool.true_eq_false, reduceCtorEq]
        exact ms1
      · simp (disch := omega) only [nq_nf, nq_nt, nq_le_t, nq_le_f, nq_lt_t, nq_lt_f, nq_eq_t, nq_eq_f, nq_neg, nq_pos, nq_le0f, nq_le0t, nq_lt0t, nq_lt0f, nq_eq0f, nq_eq0t, nI_add, nI_clamp, nx_inb, nx_ck, Option.bind_some, nx_get, nx_get2, nx_dif, nx_or, bI_0, bI_01, bI_nt, bI_nf, if_true, if_false, ite_true, ite_false, not_true_eq_false, not_false_eq_true, and_true, true_and, and_false, false_and, Bool.false_eq_true, Bool.true_eq_false, reduceCtorEq]
        exact ms2
end C2
