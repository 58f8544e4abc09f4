/-! go. -/
/-- moves from p, as bits -/
def mvs (J : Nat → Nat) (re p : Nat) : Nat := J p ||| re * 2 ^ p
theorem mvs_lt {N : Nat} {J : Nat → Nat} {re p : Nat} (hJ : ∀ k, J k < 2 ^ N) (hre : re = 0 ∨ re = 1) (hp : p < N) : mvs J re p < 2 ^ N := by
  unfold mvs
  have h1 : 2 ^ p < 2 ^ N := Nat.pow_lt_pow_right (by omega) hp
  rcases hre with rfl | rfl
  · exact or_lt (hJ p) (by rw [Nat.zero_mul]; exact Nat.two_pow_pos N)
  · exact or_lt (hJ p) (by omega)
theorem tb_mvs {J : Nat → Nat} {re p i : Nat} (hre : re = 0 ∨ re = 1) (hJa : ∀ a, (J a).testBit a = false) : (mvs J re p).testBit i = if p = i then decide (re = 1) else (J p).testBit i := by
  unfold mvs
  rw [Nat.testBit_or]
  rcases hre with rfl | rfl
  · rw [Nat.zero_mul, Nat.zero_testBit, Bool.or_false]
    by_cases h1 : p = i
    · subst h1
      rw [if_pos rfl, hJa]
      rfl
    · rw [if_neg h1]
  · rw [Nat.one_mul, tb_pow]
    by_cases h1 : p = i
    · subst h1
      rw [if_pos rfl, hJa]
      simp
    · rw [if_neg h1, decide_eq_false h1, Bool.or_false]
theorem sp_181 {J : Nat → Nat} {re p i : Nat} {h : hs_H} (hre : h.1 12 0 3 = nI re) (hr : re = 0 ∨ re = 1) (hJ : ∀ k, k < 10 → h.1 44 0 k = nI (J k)) (hJa : ∀ a, (J a).testBit a = false) (hJb : J p < 2147483648) (hp : p < 10) (hi : i < 10) : hf_181 (nI p) (nI i) h = some (bI ((mvs J re p).testBit i), h) := by
  rw [tb_mvs hr hJa]
  unfold hf_181 hb_181_27
  by_cases h1 : p = i
  · subst h1
    rcases hr with rfl | rfl
    · simp (disch := omega) only [hre, nq_nf, nq_nt, nq_le_t, nq_le_f, nq_lt_t, nq_lt_f, nq_eq_t, nq_eq_f, nq_neg, nq_pos, nq_le0f, nq_le0t, nq_lt0t, nq_lt0f, nq_eq0f, nq_eq0t, nI_add, nI_clamp, nx_inb, nx_ck, Option.bind_some, nx_get, nx_get2, nx_dif, nx_or, bI_0, bI_01, bI_nt, bI_nf, if_true, if_false, ite_true, ite_false, not_true_eq_false, not_false_eq_true, and_true, true_and, and_false, false_and, Bool.false_eq_true, Bool.true_eq_false, reduceCtorEq]
      rfl
    · simp (disch := omega) only [hre, nq_nf, nq_nt, nq_le_t, nq_le_f, nq_lt_t, nq_lt_f, nq_eq_t, nq_eq_f, nq_neg, nq_pos, nq_le0f, nq_le0t, nq_lt0t, nq_lt0f, nq_eq0f, nq_eq0t, nI_add, nI_clamp, nx_inb, nx_ck, Option.bind_some, nx_get, nx_get2, nx_dif, nx_or, bI_0, bI_01, bI_nt, bI_nf, if_true, if_false, ite_true, ite_false, not_true_eq_false, not_false_eq_true, and_true, true_and, and_false, false_and, Bool.false_eq_true, Bool.true_eq_false, reduceCtorEq]
      rfl
  · have e1 := sp_172 (J := J) (fun k hk => by rw [Nat.zero_add]; exact hJ k hk) hJb hp (show i < 32 by omega)
    simp (disch := omega) only [e1, nq_nf, nq_nt, nq_le_t, nq_le_f, nq_lt_t, nq_lt_f, nq_eq_t, nq_eq_f, nq_neg, nq_pos, nq_le0f, nq_le0t, nq_lt0t, nq_lt0f, nq_eq0f, nq_eq0t, nI_add, nI_clamp, nx_inb, nx_ck, Option.bind_some, nx_get, nx_get2, nx_dif, nx_or, bI_0, bI_01, bI_nt, bI_nf, if_true, if_false, ite_true, ite_false, not_true_eq_false, not_false_eq_true, and_true, true_and, and_false, false_and, Bool.false_eq_true, Bool.true_eq_false, reduceCtorEq]
section CG
variable {VC : Nat → (Nat → Nat) → Nat → Int32 → Int32 → hs_H → Prop} {VH : Nat → (Nat → Nat) → Nat → hs_H → Prop} {VW : st_VW}
/-- the class's heap behind a move -/
def go_c (h : hs_H) (W : Nat) (s : Nat → Nat) (i : Nat) (mv : Int32) : hs_H := hs_put (hs_put (pass_c h 0 W s i) 9 0 1 (nI i)) 9 0 2 (mv + nI 1)
theorem sp_90 {W i : Nat} {mv : Int32} {s : Nat → Nat} {h : hs_H} (hs : ∀ k, k < 10 → h.1 33 0 k = nI (s k)) (hmv : h.1 9 0 2 = mv) (hb : ∀ k, s k ≤ 18) (hW : W < 2147483648) (hi : i < 10) : hf_90 0 (nI i) (nI W) h = some (go_c h W s i mv) := by
  unfold hf_90 go_c
  rw [sp_84 hs (fun k => by have := hb k; omega) hW hi, Option.bind_some]
  simp (disch := omega) only [pass_c_ne (h := h) (o := 0) (W := W) (s := s) (i := i) (c' := 9) (i' := 0) (by simp), hmv, nq_nf, nq_nt, nq_le_t, nq_le_f, nq_lt_t, nq_lt_f, nq_eq_t, nq_eq_f, nq_neg, nq_pos, nq_le0f, nq_le0t, nq_lt0t, nq_lt0f, nq_eq0f, nq_eq0t, nI_add, nI_clamp, nx_inb, nx_ck, Option.bind_some, nx_get, nx_get2, nx_dif, nx_or, bI_0, bI_01, bI_nt, bI_nf, if_true, if_false, ite_true, ite_false, not_true_eq_false, not_false_eq_true, and_true, true_and, and_false, false_and, Bool.false_eq_true, Bool.true_eq_false, reduceCtorEq]
theorem go_c_fr {h : hs_H} {W i : Nat} {mv : Int32} {s : Nat → Nat} : hs_fr [(9, some 0), (33, some 0)] h (go_c h W s i mv) := by
  unfold go_c
  exact ((pass_c_fr (.inl (.tail _ (.head _)))).put (.inl (.head _))).put (.inl (.head _))
theorem go_c_F {h : hs_H} {W i : Nat} {mv : Int32} {s : Nat → Nat} : st_cF 0 (nI i) (mv + nI 1) (passS W s i) (go_c h W s i mv) := by
  unfold go_c
  refine ⟨by simp (disch := omega) only [nq_nf, nq_nt, nq_le_t, nq_le_f, nq_lt_t, nq_lt_f, nq_eq_t, nq_eq_f, nq_neg, nq_pos, nq_le0f, nq_le0t, nq_lt0t, nq_lt0f, nq_eq0f, nq_eq0t, nI_add, nI_clamp, nx_inb, nx_ck, Option.bind_some, nx_get, nx_get2, nx_dif, nx_or, bI_0, bI_01, bI_nt, bI_nf, if_true, if_false, ite_true, ite_false, not_true_eq_false, not_false_eq_true, and_true, true_and, and_false, false_and, Bool.false_eq_true, Bool.true_eq_false, reduceCtorEq], by simp (disch := omega) only [nq_nf, nq_nt, nq_le_t, nq_le_f, nq_lt_t, nq_lt_f, nq_eq_t, nq_eq_f, nq_neg, nq_pos, nq_le0f, nq_le0t, nq_lt0t, nq_lt0f, nq_eq0f, nq_eq0t, nI_add, nI_clamp, nx_inb, nx_ck, Option.bind_some, nx_get, nx_get2, nx_dif, nx_or, bI_0, bI_01, bI_nt, bI_nf, if_true, if_false, ite_true, ite_false, not_true_eq_false, not_false_eq_true, and_true, true_and, and_false, false_and, Bool.false_eq_true, Bool.true_eq_false, reduceCtorEq], fun k hk => ?_⟩
  simp (disch := omega) only [nq_nf, nq_nt, nq_le_t, nq_le_f, nq_lt_t, nq_lt_f, nq_eq_t, nq_eq_f, nq_neg, nq_pos, nq_le0f, nq_le0t, nq_lt0t, nq_lt0f, nq_eq0f, nq_eq0t, nI_add, nI_clamp, nx_inb, nx_ck, Option.bind_some, nx_get, nx_get2, nx_dif, nx_or, bI_0, bI_01, bI_nt, bI_nf, if_true, if_false, ite_true, ite_false, not_true_eq_false, not_false_eq_true, and_true, true_and, and_false, false_and, Bool.false_eq_true, Bool.true_eq_false, reduceCtorEq]
  exact pass_c_at k hk
theorem sp_184l {N W i : Nat} {mv : Int32} {s : Nat → Nat} {h : hs_H} (hN : h.1 12 0 2 = nI N) (hW : h.1 12 0 4 = nI W) (hs : ∀ k, k < 10 → h.1 44 0 (13 + k) = nI (s k)) (hmv : h.1 44 0 12 = mv) (hs18 : ∀ k, s k ≤ 18) (hsW : ∀ k, W.testBit k = true → s k = 0) (hN2 : N ≤ 10) (hWb : W < 2147483648) (hi : i < N) :
    hs_lp (fun k s => hb_184_45 k s.1 s.2.1 s.2.2) hs_big (nI i, nI 0, h) = some (nI (passS W s i i), fox_m h N (passS W s i) i (mv + nI 1)) := by
  have hl := lp_for (f := fun k s => hb_184_45 k s.1 s.2.1 s.2.2) (st := fun j => (nI i, nI j, hs_rowb h 44 0 13 j (fun k => nI (passS W s i k)))) (e := N) (X := some (nI (passS W s i i), fox_m h N (passS W s i) i (mv + nI 1))) (fun j hj k => by
    show hb_184_45 k (nI i) (nI j) (hs_rowb h 44 0 13 j (fun k => nI (passS W s i k))) = _
    unfold hb_184_45
    have e0 : (hs_rowb h 44 0 13 j (fun k => nI (passS W s i k))).1 12 0 2 = nI N := by rw [nx_rowbget, if_neg (by omega)]; exact hN
    have eW : (hs_rowb h 44 0 13 j (fun k => nI (passS W s i k))).1 12 0 4 = nI W := by rw [nx_rowbget, if_neg (by omega)]; exact hW
    have e1 : (hs_rowb h 44 0 13 j (fun k => nI (passS W s i k))).1 44 0 (13 + j) = nI (s j) := by rw [nx_rowbget, if_neg (by omega)]; exact hs j (by omega)
    have e2 := sp_183 (x := s j) (k := j) (i := i) eW hWb (by have := hs18 j; omega) (by omega) (by omega)
    rw [smell_eq hs18 hsW] at e2
    simp (disch := omega) only [e0, e1, e2, hs_rowbS h 44 0 13 j (fun k => nI (passS W s i k)), nq_nf, nq_nt, nq_le_t, nq_le_f, nq_lt_t, nq_lt_f, nq_eq_t, nq_eq_f, nq_neg, nq_pos, nq_le0f, nq_le0t, nq_lt0t, nq_lt0f, nq_eq0f, nq_eq0t, nI_add, nI_clamp, nx_inb, nx_ck, Option.bind_some, nx_get, nx_get2, nx_dif, nx_or, bI_0, bI_01, bI_nt, bI_nf, if_true, if_false, ite_true, ite_false, not_true_eq_false, not_false_eq_true, and_true, true_and, and_false, false_and, Bool.false_eq_true, Bool.true_eq_false, reduceCtorEq]) (fun k => by
    show hb_184_45 k (nI i) (nI N) (hs_rowb h 44 0 13 N (fun k => nI (passS W s i k))) = _
    unfold hb_184_45
    have e0 : (hs_rowb h 44 0 13 N (fun k => nI (passS W s i k))).1 12 0 2 = nI N := by rw [nx_rowbget, if_neg (by omega)]; exact hN
    have e1 : (hs_rowb h 44 0 13 N (fun k => nI (passS W s i k))).1 44 0 12 = mv := by rw [nx_rowbget, if_neg (by omega)]; exact hmv
    have e2 : (hs_rowb h 44 0 13 N (fun k => nI (passS W s i k))).1 44 0 (13 + i) = nI (passS W s i i) := by rw [nx_rowbget, if_pos (by omega), Nat.add_sub_cancel_left]
    simp (disch := omega) only [e0, e1, e2, nq_nf, nq_nt, nq_le_t, nq_le_f, nq_lt_t, nq_lt_f, nq_eq_t, nq_eq_f, nq_neg, nq_pos, nq_le0f, nq_le0t, nq_lt0t, nq_lt0f, nq_eq0f, nq_eq0t, nI_add, nI_clamp, nx_inb, nx_ck, Option.bind_some, nx_get, nx_get2, nx_dif, nx_or, bI_0, bI_01, bI_nt, bI_nf, if_true, if_false, ite_true, ite_false, not_true_eq_false, not_false_eq_true, and_true, true_and, and_false, false_and, Bool.false_eq_true, Bool.true_eq_false, reduceCtorEq]
    rfl) 0 hs_big (by omega) (lp_big (by omega))
  rw [hs_rowb0] at hl
  exact hl
theorem cl_go (V : st_V VC VH VW) {a : Int32} : st_call VC VH VW (hf_115 a) (hf_184 a) := by
  intro b h hb p
  have p0 := p
  obtain ⟨N, re, W, Ho, J, st, pl, mv, s, z, t, n, g, c, d, ⟨hc, hd⟩, ⟨⟨okN, okF, okS⟩, ⟨cN, cF, cS⟩, mJ, mF, mS⟩, mN, im, ca, rs⟩ := p
  obtain ⟨⟨hN1, hN2⟩, hre, hst, ⟨hW, hHo⟩, hJ, hJ0, hJs, hJa⟩ := id okN
  obtain ⟨cN1, cN2, cN3, cN4, cN5, cJ⟩ := id cN
  obtain ⟨mN1, mN2, mN3, mN4⟩ := id mN
  obtain ⟨mJ1, mJ2⟩ := st_mJ0 mJ
  obtain ⟨mF1, mF2, mF3⟩ := st_mF0 mF
  obtain ⟨mS1, mS2⟩ := st_mS0 mS
  obtain ⟨cF1, cF2, cF3⟩ := id cF
  obtain ⟨cS1, cS2⟩ := id cS
  have hp := p2_lt hN2
  cases hd2 : nd N a with
  | false =>
    refine ⟨nI 4294967295, h, h, ?_, ?_, p0.up VC VH VW (by omega)⟩
    · unfold hf_115
      rw [sp_29 cN1 (by omega), hd2]
      simp (disch := omega) only [nq_nf, nq_nt, nq_le_t, nq_le_f, nq_lt_t, nq_lt_f, nq_eq_t, nq_eq_f, nq_neg, nq_pos, nq_le0f, nq_le0t, nq_lt0t, nq_lt0f, nq_eq0f, nq_eq0t, nI_add, nI_clamp, nx_inb, nx_ck, Option.bind_some, nx_get, nx_get2, nx_dif, nx_or, bI_0, bI_01, bI_nt, bI_nf, if_true, if_false, ite_true, ite_false, not_true_eq_false, not_false_eq_true, and_true, true_and, and_false, false_and, Bool.false_eq_true, Bool.true_eq_false, reduceCtorEq]
    · unfold hf_184
      rw [sp_171 mN1 (by omega) (by omega), hd2]
      simp (disch := omega) only [nq_nf, nq_nt, nq_le_t, nq_le_f, nq_lt_t, nq_lt_f, nq_eq_t, nq_eq_f, nq_neg, nq_pos, nq_le0f, nq_le0t, nq_lt0t, nq_lt0f, nq_eq0f, nq_eq0t, nI_add, nI_clamp, nx_inb, nx_ck, Option.bind_some, nx_get, nx_get2, nx_dif, nx_or, bI_0, bI_01, bI_nt, bI_nf, if_true, if_false, ite_true, ite_false, not_true_eq_false, not_false_eq_true, and_true, true_and, and_false, false_and, Bool.false_eq_true, Bool.true_eq_false, reduceCtorEq]
  | true =>
    obtain ⟨i, hi, rfl⟩ := (nd_of (by omega)).mp hd2
    rcases okF.1 with hpl | ⟨q, hq, hpl⟩
    · subst hpl
      refine ⟨nI 4294967294, h, h, ?_, ?_, p0.up VC VH VW (by omega)⟩
      · unfold hf_115
        rw [sp_29 cN1 (by omega), hd2]
        simp (disch := omega) only [cF1, nq_nf, nq_nt, nq_le_t, nq_le_f, nq_lt_t, nq_lt_f, nq_eq_t, nq_eq_f, nq_neg, nq_pos, nq_le0f, nq_le0t, nq_lt0t, nq_lt0f, nq_eq0f, nq_eq0t, nI_add, nI_clamp, nx_inb, nx_ck, Option.bind_some, nx_get, nx_get2, nx_dif, nx_or, bI_0, bI_01, bI_nt, bI_nf, if_true, if_false, ite_true, ite_false, not_true_eq_false, not_false_eq_true, and_true, true_and, and_false, false_and, Bool.false_eq_true, Bool.true_eq_false, reduceCtorEq]
      · unfold hf_184
        rw [sp_171 mN1 (by omega) (by omega), hd2]
        simp (disch := omega) only [mF1, nq_nf, nq_nt, nq_le_t, nq_le_f, nq_lt_t, nq_lt_f, nq_eq_t, nq_eq_f, nq_neg, nq_pos, nq_le0f, nq_le0t, nq_lt0t, nq_lt0f, nq_eq0f, nq_eq0t, nI_add, nI_clamp, nx_inb, nx_ck, Option.bind_some, nx_get, nx_get2, nx_dif, nx_or, bI_0, bI_01, bI_nt, bI_nf, if_true, if_false, ite_true, ite_false, not_true_eq_false, not_false_eq_true, and_true, true_and, and_false, false_and, Bool.false_eq_true, Bool.true_eq_false, reduceCtorEq]
    · subst hpl
      have hq4 : (nI q = nI 4294967292) = False := eq_false (fun h9 => by have := nI_inj (by omega) (by omega) h9; omega)
      have hmb : mvs J re q < 2147483648 := by have := mvs_lt hJ hre hq; omega
      have hcm : hf_38 0 (nI q) h = some (nI (mvs J re q), h) := sp_38 cN1 cN2 cJ hq hN2
      have hJq : J q < 2147483648 := by have := hJ q; omega
      cases hmv : (mvs J re q).testBit i with
      | false =>
        refine ⟨nI 4294967292, h, h, ?_, ?_, p0.up VC VH VW (by omega)⟩
        · unfold hf_115
          rw [sp_29 cN1 (by omega), hd2]
          simp (disch := omega) only [cF1, hq4, hcm, nq_nf, nq_nt, nq_le_t, nq_le_f, nq_lt_t, nq_lt_f, nq_eq_t, nq_eq_f, nq_neg, nq_pos, nq_le0f, nq_le0t, nq_lt0t, nq_lt0f, nq_eq0f, nq_eq0t, nI_add, nI_clamp, nx_inb, nx_ck, Option.bind_some, nx_get, nx_get2, nx_dif, nx_or, bI_0, bI_01, bI_nt, bI_nf, if_true, if_false, ite_true, ite_false, not_true_eq_false, not_false_eq_true, and_true, true_and, and_false, false_and, Bool.false_eq_true, Bool.true_eq_false, reduceCtorEq]
          rw [sp_147 hmb (by omega), hmv]
          simp (disch := omega) only [nq_nf, nq_nt, nq_le_t, nq_le_f, nq_lt_t, nq_lt_f, nq_eq_t, nq_eq_f, nq_neg, nq_pos, nq_le0f, nq_le0t, nq_lt0t, nq_lt0f, nq_eq0f, nq_eq0t, nI_add, nI_clamp, nx_inb, nx_ck, Option.bind_some, nx_get, nx_get2, nx_dif, nx_or, bI_0, bI_01, bI_nt, bI_nf, if_true, if_false, ite_true, ite_false, not_true_eq_false, not_false_eq_true, and_true, true_and, and_false, false_and, Bool.false_eq_true, Bool.true_eq_false, reduceCtorEq]
        · unfold hf_184
          rw [sp_171 mN1 (by omega) (by omega), hd2]
          simp (disch := omega) only [mF1, hq4, nq_nf, nq_nt, nq_le_t, nq_le_f, nq_lt_t, nq_lt_f, nq_eq_t, nq_eq_f, nq_neg, nq_pos, nq_le0f, nq_le0t, nq_lt0t, nq_lt0f, nq_eq0f, nq_eq0t, nI_add, nI_clamp, nx_inb, nx_ck, Option.bind_some, nx_get, nx_get2, nx_dif, nx_or, bI_0, bI_01, bI_nt, bI_nf, if_true, if_false, ite_true, ite_false, not_true_eq_false, not_false_eq_true, and_true, true_and, and_false, false_and, Bool.false_eq_true, Bool.true_eq_false, reduceCtorEq]
          rw [sp_181 mN2 hre mJ1 hJa hJq (by omega) (by omega), hmv]
          simp (disch := omega) only [nq_nf, nq_nt, nq_le_t, nq_le_f, nq_lt_t, nq_lt_f, nq_eq_t, nq_eq_f, nq_neg, nq_pos, nq_le0f, nq_le0t, nq_lt0t, nq_lt0f, nq_eq0f, nq_eq0t, nI_add, nI_clamp, nx_inb, nx_ck, Option.bind_some, nx_get, nx_get2, nx_dif, nx_or, bI_0, bI_01, bI_nt, bI_nf, if_true, if_false, ite_true, ite_false, not_true_eq_false, not_false_eq_true, and_true, true_and, and_false, false_and, Bool.false_eq_true, Bool.true_eq_false, reduceCtorEq]
      | true =>
        have hFe : ∀ c' i' k', c' ≠ 9 → c' ≠ 33 → (go_c h W s i mv).1 c' i' k' = h.1 c' i' k' := fun c' i' k' h1 h2 => by rw [(go_c_fr c' i' (fun q hq hh => by rcases hh with rfl | rfl <;> simp at hq <;> omega)).1]
        refine ⟨nI (passS W s i i), go_c h W s i mv, fox_m (go_c h W s i mv) N (passS W s i) i (mv + nI 1), ?_, ?_, ?_⟩
        · unfold hf_115
          rw [sp_29 cN1 (by omega), hd2]
          simp (disch := omega) only [cF1, hq4, hcm, nq_nf, nq_nt, nq_le_t, nq_le_f, nq_lt_t, nq_lt_f, nq_eq_t, nq_eq_f, nq_neg, nq_pos, nq_le0f, nq_le0t, nq_lt0t, nq_lt0f, nq_eq0f, nq_eq0t, nI_add, nI_clamp, nx_inb, nx_ck, Option.bind_some, nx_get, nx_get2, nx_dif, nx_or, bI_0, bI_01, bI_nt, bI_nf, if_true, if_false, ite_true, ite_false, not_true_eq_false, not_false_eq_true, and_true, true_and, and_false, false_and, Bool.false_eq_true, Bool.true_eq_false, reduceCtorEq]
          rw [sp_147 hmb (by omega), hmv]
          simp (disch := omega) only [cN4, nq_nf, nq_nt, nq_le_t, nq_le_f, nq_lt_t, nq_lt_f, nq_eq_t, nq_eq_f, nq_neg, nq_pos, nq_le0f, nq_le0t, nq_lt0t, nq_lt0f, nq_eq0f, nq_eq0t, nI_add, nI_clamp, nx_inb, nx_ck, Option.bind_some, nx_get, nx_get2, nx_dif, nx_or, bI_0, bI_01, bI_nt, bI_nf, if_true, if_false, ite_true, ite_false, not_true_eq_false, not_false_eq_true, and_true, true_and, and_false, false_and, Bool.false_eq_true, Bool.true_eq_false, reduceCtorEq]
          rw [sp_90 cF3 cF2 okF.2.1 (by omega) (by omega), Option.bind_some, sp_91 (go_c_F).2.2 (by omega)]
          rfl
        · unfold hf_184
          rw [sp_171 (N := N) (by rw [hFe _ _ _ (by omega) (by omega)]; exact mN1) (by omega) (by omega), hd2]
          have e11 : (go_c h W s i mv).1 44 0 11 = nI q := by rw [hFe _ _ _ (by omega) (by omega)]; exact mF1
          simp (disch := omega) only [e11, hq4, nq_nf, nq_nt, nq_le_t, nq_le_f, nq_lt_t, nq_lt_f, nq_eq_t, nq_eq_f, nq_neg, nq_pos, nq_le0f, nq_le0t, nq_lt0t, nq_lt0f, nq_eq0f, nq_eq0t, nI_add, nI_clamp, nx_inb, nx_ck, Option.bind_some, nx_get, nx_get2, nx_dif, nx_or, bI_0, bI_01, bI_nt, bI_nf, if_true, if_false, ite_true, ite_false, not_true_eq_false, not_false_eq_true, and_true, true_and, and_false, false_and, Bool.false_eq_true, Bool.true_eq_false, reduceCtorEq]
          rw [sp_181 (J := J) (re := re) (by rw [hFe _ _ _ (by omega) (by omega)]; exact mN2) hre (fun k hk => by rw [hFe _ _ _ (by omega) (by omega)]; exact mJ1 k hk) hJa hJq (by omega) (by omega), hmv]
          simp (disch := omega) only [nq_nf, nq_nt, nq_le_t, nq_le_f, nq_lt_t, nq_lt_f, nq_eq_t, nq_eq_f, nq_neg, nq_pos, nq_le0f, nq_le0t, nq_lt0t, nq_lt0f, nq_eq0f, nq_eq0t, nI_add, nI_clamp, nx_inb, nx_ck, Option.bind_some, nx_get, nx_get2, nx_dif, nx_or, bI_0, bI_01, bI_nt, bI_nf, if_true, if_false, ite_true, ite_false, not_true_eq_false, not_false_eq_true, and_true, true_and, and_false, false_and, Bool.false_eq_true, Bool.true_eq_false, reduceCtorEq]
          exact sp_184l (by rw [hFe _ _ _ (by omega) (by omega)]; exact mN1) (by rw [hFe _ _ _ (by omega) (by omega)]; exact mN3) (fun k hk => by rw [hFe _ _ _ (by omega) (by omega)]; exact mF3 k hk) (by rw [hFe _ _ _ (by omega) (by omega)]; exact mF2) okF.2.1 okF.2.2.2 hN2 (by omega) hi
        · have fm := fox_m_fr (h := go_c h W s i mv) (n := N) (s := passS W s i) (i := i) (mv := mv + nI 1)
          have f : hs_fr [(9, some 0), (33, some 0), (44, some 0)] h (fox_m (go_c h W s i mv) N (passS W s i) i (mv + nI 1)) := (go_c_fr.sub (hs_sub_cons (.inl (.head _)) (hs_sub_cons (.inl (.tail _ (.head _))) hs_sub_nil))).tr (fm.sub (hs_sub_cons (.inl (.tail _ (.tail _ (.head _)))) hs_sub_nil))
          refine st_all_F V ⟨by omega, by omega⟩ ⟨⟨okN, okF, okS⟩, ⟨cN, cF, cS⟩, mJ, mF, mS⟩ mN im ca rs f (pl' := nI i) (mv' := mv + nI 1) (s' := passS W s i) (ok_F_pass okF hi) ?_ (fox_m_F (by omega) (fun k h1 h2 => by rw [hFe _ _ _ (by omega) (by omega), mF3 k h2, passS_hi okF.2.2.1 hi k h1, okF.2.2.1 k h1])) (fun p hp => by rw [fox_m_at p (by omega), hFe _ _ _ (by omega) (by omega)])
          exact st_cF_dep.fr fm rfl go_c_F
end CG
