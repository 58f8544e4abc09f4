/-! rule, count; bits counted. -/
def hs_h0 : hs_H := (fun _ _ _ => 0, fun _ _ _ => 0)
theorem sp_240a : ∀ x, x < 1024 → (hf_240 (nI x) hs_h0).map (fun q => q.1) = some (nI (pcn 10 x)) := by decide +kernel
theorem sp_240b (a : Int32) (h : hs_H) : hf_240 a h = ((hf_240 a hs_h0).map (fun q => q.1)).map (fun v => (v, h)) := rfl
theorem sp_240 {x : Nat} {h : hs_H} (hx : x < 1024) : hf_240 (nI x) h = some (nI (pcn 10 x), h) := by
  rw [sp_240b, sp_240a x hx]
  rfl
theorem sp_152 {x : Nat} {h : hs_H} (hx : x < 2147483648) : hf_152 (nI x) h = some (nI (pcn 10 x), h) := by
  unfold hf_152
  exact lp_for (f := fun k s => hb_152_4 k s.1 s.2.1 s.2.2.1 s.2.2.2) (st := fun j => (nI x, nI (pcn j x), nI j, h)) (e := 10) (X := some (nI (pcn 10 x), h)) (fun j hj k => by
    show hb_152_4 k (nI x) (nI (pcn j x)) (nI j) h = k (nI x, nI (pcn j x + (x.testBit j).toNat), nI (j + 1), h)
    unfold hb_152_4
    rw [nx_bit hx (by omega)]
    have e : bI (x.testBit j) = nI (x.testBit j).toNat := by cases x.testBit j <;> rfl
    rw [e]
    simp (disch := omega) only [nq_nf, nq_nt, nq_le_t, nq_le_f, nq_lt_t, nq_lt_f, nq_eq_t, nq_eq_f, nq_neg, nq_pos, nq_le0f, nq_le0t, nq_lt0t, nq_lt0f, nq_eq0f, nq_eq0t, nI_add, nI_clamp, nx_inb, nx_ck, Option.bind_some, nx_get, nx_get2, nx_dif, nx_or, bI_0, bI_01, bI_nt, bI_nf, if_true, if_false, ite_true, ite_false, not_true_eq_false, not_false_eq_true, and_true, true_and, and_false, false_and, Bool.false_eq_true, Bool.true_eq_false, reduceCtorEq]) (fun k => by
    show hb_152_4 k (nI x) (nI (pcn 10 x)) (nI 10) h = _
    unfold hb_152_4
    simp (disch := omega) only [nq_nf, nq_nt, nq_le_t, nq_le_f, nq_lt_t, nq_lt_f, nq_eq_t, nq_eq_f, nq_neg, nq_pos, nq_le0f, nq_le0t, nq_lt0t, nq_lt0f, nq_eq0f, nq_eq0t, nI_add, nI_clamp, nx_inb, nx_ck, Option.bind_some, nx_get, nx_get2, nx_dif, nx_or, bI_0, bI_01, bI_nt, bI_nf, if_true, if_false, ite_true, ite_false, not_true_eq_false, not_false_eq_true, and_true, true_and, and_false, false_and, Bool.false_eq_true, Bool.true_eq_false, reduceCtorEq]) 0 hs_big (by omega) (lp_big (by omega))
def ends (J : Nat → Nat) : Nat → Nat
  | 0 => 0
  | k + 1 => ends J k + pcn 10 (J k)
theorem ends_le {J : Nat → Nat} : ∀ n, ends J n ≤ 10 * n := by
  intro n
  induction n with
  | zero => exact Nat.zero_le _
  | succ n ih => have := pcn_le (J n) 10; show ends J n + pcn 10 (J n) ≤ _; omega
theorem pcn_0 : ∀ n, pcn n 0 = 0 := by
  intro n
  induction n with
  | zero => rfl
  | succ n ih => show pcn n 0 + (Nat.testBit 0 n).toNat = 0; rw [ih, Nat.zero_testBit]; rfl
theorem ends_hi {J : Nat → Nat} {N : Nat} (hJ : ∀ k, N ≤ k → J k = 0) : ∀ d, ends J (N + d) = ends J N := by
  intro d
  induction d with
  | zero => rfl
  | succ d ih =>
    show ends J (N + d) + pcn 10 (J (N + d)) = _
    rw [ih, hJ _ (by omega), pcn_0, Nat.add_zero]
theorem sp_36 {o : Nat} {J : Nat → Nat} {h : hs_H} (hJ : ∀ k, k < 10 → h.1 27 o k = nI (J k)) (hb : ∀ k, J k < 1024) : hf_36 o h = some (nI (ends J 10 / 2), h) := by
  unfold hf_36
  exact lp_for (f := fun k s => hb_36_4 o k s.1 s.2.1 s.2.2) (st := fun j => (nI (ends J j), nI j, h)) (e := 10) (X := some (nI (ends J 10 / 2), h)) (fun j hj k => by
    show hb_36_4 o k (nI (ends J j)) (nI j) h = k (nI (ends J j + pcn 10 (J j)), nI (j + 1), h)
    unfold hb_36_4
    have b1 := hb j
    simp (disch := omega) only [hJ, sp_240, nq_nf, nq_nt, nq_le_t, nq_le_f, nq_lt_t, nq_lt_f, nq_eq_t, nq_eq_f, nq_neg, nq_pos, nq_le0f, nq_le0t, nq_lt0t, nq_lt0f, nq_eq0f, nq_eq0t, nI_add, nI_clamp, nx_inb, nx_ck, Option.bind_some, nx_get, nx_get2, nx_dif, nx_or, bI_0, bI_01, bI_nt, bI_nf, if_true, if_false, ite_true, ite_false, not_true_eq_false, not_false_eq_true, and_true, true_and, and_false, false_and, Bool.false_eq_true, Bool.true_eq_false, reduceCtorEq]) (fun k => by
    show hb_36_4 o k (nI (ends J 10)) (nI 10) h = _
    unfold hb_36_4
    have b1 := ends_le (J := J) 10
    simp (disch := omega) only [pk_div, nq_nf, nq_nt, nq_le_t, nq_le_f, nq_lt_t, nq_lt_f, nq_eq_t, nq_eq_f, nq_neg, nq_pos, nq_le0f, nq_le0t, nq_lt0t, nq_lt0f, nq_eq0f, nq_eq0t, nI_add, nI_clamp, nx_inb, nx_ck, Option.bind_some, nx_get, nx_get2, nx_dif, nx_or, bI_0, bI_01, bI_nt, bI_nf, if_true, if_false, ite_true, ite_false, not_true_eq_false, not_false_eq_true, and_true, true_and, and_false, false_and, Bool.false_eq_true, Bool.true_eq_false, reduceCtorEq]) 0 hs_big (by omega) (lp_big (by omega))
def rule_a (a : Int32) (N la re : Nat) (st : Int32) (W Ho : Nat) : Int32 := if a = nI 0 then nI N else if a = nI 1 then nI la else if a = nI 2 then nI re else if a = nI 3 then st else if a = nI 4 then nI W else if a = nI 5 then nI Ho else nI 4294967295
section CR
variable {VC : Nat → (Nat → Nat) → Nat → Int32 → Int32 → hs_H → Prop} {VH : Nat → (Nat → Nat) → Nat → hs_H → Prop} {VW : st_VW}
theorem cl_rule {a : Int32} : st_call VC VH VW (hf_109 a) (hf_173 a) := st_read fun b h p => by
  obtain ⟨N, re, W, Ho, J, st, pl, mv, s, z, t, n, g, c, d, ⟨hc, hd⟩, ⟨⟨okN, okF, okS⟩, ⟨cN, cF, cS⟩, mJ, mF, mS⟩, mN, im, ca, rs⟩ := p
  obtain ⟨⟨hN1, hN2⟩, hre, hst, ⟨hW, hHo⟩, hJ, hJ0, hJs, hJa⟩ := id okN
  obtain ⟨cN1, cN2, cN3, cN4, cN5, cJ⟩ := id cN
  obtain ⟨mN1, mN2, mN3, mN4⟩ := id mN
  obtain ⟨mJ1, mJ2⟩ := st_mJ0 mJ
  obtain ⟨mF1, mF2, mF3⟩ := st_mF0 mF
  obtain ⟨mS1, mS2⟩ := st_mS0 mS
  obtain ⟨cF1, cF2, cF3⟩ := id cF
  obtain ⟨cS1, cS2⟩ := id cS
  have hp := p2_lt hN2
  have hJ1 : ∀ k, J k < 1024 := fun k => by have := hJ k; omega
  have ee : ends J 10 = ends J N := by
    have := ends_hi hJ0 (10 - N)
    rwa [show N + (10 - N) = 10 by omega] at this
  have hel := ends_le (J := J) N
  refine ⟨rule_a a N (ends J N / 2) re st W Ho, ?_, ?_⟩
  · unfold hf_109 rule_a
    by_cases h0 : a = nI 0
    · rw [if_pos h0, if_pos h0, cN1]
    rw [if_neg h0, if_neg h0]
    by_cases h1 : a = nI 1
    · rw [if_pos h1, if_pos h1, sp_36 cJ hJ1, Option.bind_some, ee]
    rw [if_neg h1, if_neg h1]
    by_cases h2 : a = nI 2
    · rw [if_pos h2, if_pos h2, cN2]
    rw [if_neg h2, if_neg h2]
    by_cases h3 : a = nI 3
    · rw [if_pos h3, if_pos h3, cN3]
    rw [if_neg h3, if_neg h3]
    by_cases h4 : a = nI 4
    · rw [if_pos h4, if_pos h4, cN4]
    rw [if_neg h4, if_neg h4]
    by_cases h5 : a = nI 5
    · rw [if_pos h5, if_pos h5, cN5]
    · rw [if_neg h5, if_neg h5]
  · unfold hf_173
    exact lp_for (f := fun k s => hb_173_4 k s.1 s.2.1 s.2.2.1 s.2.2.2) (st := fun j => (a, nI (ends J j), nI j, h)) (e := N) (X := some (rule_a a N (ends J N / 2) re st W Ho, h)) (fun j hj k => by
      show hb_173_4 k a (nI (ends J j)) (nI j) h = k (a, nI (ends J j + pcn 10 (J j)), nI (j + 1), h)
      unfold hb_173_4
      have b1 := hJ1 j
      simp (disch := omega) only [mN1, mJ1, sp_152, nq_nf, nq_nt, nq_le_t, nq_le_f, nq_lt_t, nq_lt_f, nq_eq_t, nq_eq_f, nq_neg, nq_pos, nq_le0f, nq_le0t, nq_lt0t, nq_lt0f, nq_eq0f, nq_eq0t, nI_add, nI_clamp, nx_inb, nx_ck, Option.bind_some, nx_get, nx_get2, nx_dif, nx_or, bI_0, bI_01, bI_nt, bI_nf, if_true, if_false, ite_true, ite_false, not_true_eq_false, not_false_eq_true, and_true, true_and, and_false, false_and, Bool.false_eq_true, Bool.true_eq_false, reduceCtorEq]) (fun k => by
      show hb_173_4 k a (nI (ends J N)) (nI N) h = _
      unfold hb_173_4 rule_a
      rw [mN1, if_pos (Int32.le_refl _)]
      by_cases h0 : a = nI 0
      · rw [if_pos h0, if_pos h0]
      rw [if_neg h0, if_neg h0]
      by_cases h1 : a = nI 1
      · rw [if_pos h1, if_pos h1, pk_div (by omega) (by omega) (by omega)]
      rw [if_neg h1, if_neg h1]
      by_cases h2 : a = nI 2
      · rw [if_pos h2, if_pos h2, mN2]
      rw [if_neg h2, if_neg h2]
      by_cases h3 : a = nI 3
      · rw [if_pos h3, if_pos h3]
        simp (disch := omega) only [mJ2, nq_nf, nq_nt, nq_le_t, nq_le_f, nq_lt_t, nq_lt_f, nq_eq_t, nq_eq_f, nq_neg, nq_pos, nq_le0f, nq_le0t, nq_lt0t, nq_lt0f, nq_eq0f, nq_eq0t, nI_add, nI_clamp, nx_inb, nx_ck, Option.bind_some, nx_get, nx_get2, nx_dif, nx_or, bI_0, bI_01, bI_nt, bI_nf, if_true, if_false, ite_true, ite_false, not_true_eq_false, not_false_eq_true, and_true, true_and, and_false, false_and, Bool.false_eq_true, Bool.true_eq_false, reduceCtorEq]
      rw [if_neg h3, if_neg h3]
      by_cases h4 : a = nI 4
      · rw [if_pos h4, if_pos h4, mN3]
      rw [if_neg h4, if_neg h4]
      by_cases h5 : a = nI 5
      · rw [if_pos h5, if_pos h5, mN4]
      · rw [if_neg h5, if_neg h5]) 0 hs_big (by omega) (lp_big (by omega))
def count_a (a : Int32) (z cn : Nat) (im : Int32) (T : Nat) (sh : Int32) : Int32 := if a = nI 0 then nI z else if a = nI 1 then nI cn else if a = nI 2 then im else if a = nI 3 then nI T else if a = nI 4 then sh else nI 4294967295
theorem fl_151 {x : Int32} {h : hs_H} : hf_151 x h = some (if x = 0 then nI 0 else nI 1, h) := by
  unfold hf_151 hb_151_9
  by_cases h0 : x = 0
  · rw [if_pos h0, if_pos h0]
  · rw [if_neg h0, if_neg h0]
theorem sp_144 {h : hs_H} : hf_144 h = some ((if h.1 3 0 3 = 0 then nI 0 else nI 1) + (if h.1 3 1 3 = 0 then nI 0 else nI 1), h) := by
  unfold hf_144
  exact lp_for (f := fun k s => hb_144_4 k s.1 s.2.1 s.2.2) (st := fun j => (if j = 0 then nI 0 else if j = 1 then (if h.1 3 0 3 = 0 then nI 0 else nI 1) else (if h.1 3 0 3 = 0 then nI 0 else nI 1) + (if h.1 3 1 3 = 0 then nI 0 else nI 1), nI j, h)) (e := 2) (X := some ((if h.1 3 0 3 = 0 then nI 0 else nI 1) + (if h.1 3 1 3 = 0 then nI 0 else nI 1), h)) (fun j hj k => by
    have : j = 0 ∨ j = 1 := by omega
    rcases this with rfl | rfl
    · show hb_144_4 k (nI 0) (nI 0) h = k (if h.1 3 0 3 = 0 then nI 0 else nI 1, nI 1, h)
      unfold hb_144_4 hb_144_27
      by_cases h0 : h.1 3 0 3 = 0
      · simp (disch := omega) only [h0, nq_nf, nq_nt, nq_le_t, nq_le_f, nq_lt_t, nq_lt_f, nq_eq_t, nq_eq_f, nq_neg, nq_pos, nq_le0f, nq_le0t, nq_lt0t, nq_lt0f, nq_eq0f, nq_eq0t, nI_add, nI_clamp, nx_inb, nx_ck, Option.bind_some, nx_get, nx_get2, nx_dif, nx_or, bI_0, bI_01, bI_nt, bI_nf, if_true, if_false, ite_true, ite_false, not_true_eq_false, not_false_eq_true, and_true, true_and, and_false, false_and, Bool.false_eq_true, Bool.true_eq_false, reduceCtorEq]
      · simp (disch := omega) only [h0, nq_nf, nq_nt, nq_le_t, nq_le_f, nq_lt_t, nq_lt_f, nq_eq_t, nq_eq_f, nq_neg, nq_pos, nq_le0f, nq_le0t, nq_lt0t, nq_lt0f, nq_eq0f, nq_eq0t, nI_add, nI_clamp, nx_inb, nx_ck, Option.bind_some, nx_get, nx_get2, nx_dif, nx_or, bI_0, bI_01, bI_nt, bI_nf, if_true, if_false, ite_true, ite_false, not_true_eq_false, not_false_eq_true, and_true, true_and, and_false, false_and, Bool.false_eq_true, Bool.true_eq_false, reduceCtorEq]
    · show hb_144_4 k (if h.1 3 0 3 = 0 then nI 0 else nI 1) (nI 1) h = k ((if h.1 3 0 3 = 0 then nI 0 else nI 1) + (if h.1 3 1 3 = 0 then nI 0 else nI 1), nI 2, h)
      unfold hb_144_4 hb_144_27
      by_cases h0 : h.1 3 1 3 = 0
      · simp (disch := omega) only [h0, nq_nf, nq_nt, nq_le_t, nq_le_f, nq_lt_t, nq_lt_f, nq_eq_t, nq_eq_f, nq_neg, nq_pos, nq_le0f, nq_le0t, nq_lt0t, nq_lt0f, nq_eq0f, nq_eq0t, nI_add, nI_clamp, nx_inb, nx_ck, Option.bind_some, nx_get, nx_get2, nx_dif, nx_or, bI_0, bI_01, bI_nt, bI_nf, if_true, if_false, ite_true, ite_false, not_true_eq_false, not_false_eq_true, and_true, true_and, and_false, false_and, Bool.false_eq_true, Bool.true_eq_false, reduceCtorEq]
      · simp (disch := omega) only [h0, nq_nf, nq_nt, nq_le_t, nq_le_f, nq_lt_t, nq_lt_f, nq_eq_t, nq_eq_f, nq_neg, nq_pos, nq_le0f, nq_le0t, nq_lt0t, nq_lt0f, nq_eq0f, nq_eq0t, nI_add, nI_clamp, nx_inb, nx_ck, Option.bind_some, nx_get, nx_get2, nx_dif, nx_or, bI_0, bI_01, bI_nt, bI_nf, if_true, if_false, ite_true, ite_false, not_true_eq_false, not_false_eq_true, and_true, true_and, and_false, false_and, Bool.false_eq_true, Bool.true_eq_false, reduceCtorEq]) (fun k => by
    show hb_144_4 k ((if h.1 3 0 3 = 0 then nI 0 else nI 1) + (if h.1 3 1 3 = 0 then nI 0 else nI 1)) (nI 2) h = _
    unfold hb_144_4
    simp (disch := omega) only [nq_nf, nq_nt, nq_le_t, nq_le_f, nq_lt_t, nq_lt_f, nq_eq_t, nq_eq_f, nq_neg, nq_pos, nq_le0f, nq_le0t, nq_lt0t, nq_lt0f, nq_eq0f, nq_eq0t, nI_add, nI_clamp, nx_inb, nx_ck, Option.bind_some, nx_get, nx_get2, nx_dif, nx_or, bI_0, bI_01, bI_nt, bI_nf, if_true, if_false, ite_true, ite_false, not_true_eq_false, not_false_eq_true, and_true, true_and, and_false, false_and, Bool.false_eq_true, Bool.true_eq_false, reduceCtorEq]) 0 hs_big (by omega) (lp_big (by omega))
theorem cl_count {a : Int32} : st_call VC VH VW (hf_143 a) (hf_239 a) := st_read fun b h p => by
  obtain ⟨N, re, W, Ho, J, st, pl, mv, s, z, t, n, g, c, d, ⟨hc, hd⟩, ⟨⟨okN, okF, okS⟩, ⟨cN, cF, cS⟩, mJ, mF, mS⟩, mN, im, ca, rs⟩ := p
  obtain ⟨⟨hN1, hN2⟩, hre, hst, ⟨hW, hHo⟩, hJ, hJ0, hJs, hJa⟩ := id okN
  obtain ⟨cN1, cN2, cN3, cN4, cN5, cJ⟩ := id cN
  obtain ⟨mN1, mN2, mN3, mN4⟩ := id mN
  obtain ⟨mJ1, mJ2⟩ := st_mJ0 mJ
  obtain ⟨mF1, mF2, mF3⟩ := st_mF0 mF
  obtain ⟨mS1, mS2⟩ := st_mS0 mS
  obtain ⟨cF1, cF2, cF3⟩ := id cF
  obtain ⟨cS1, cS2⟩ := id cS
  have hp := p2_lt hN2
  have hs18 := okF.2.1
  have ec : cntS s 10 = cntS s N := by
    have := cntS_hi okF.2.2.1 (10 - N)
    rwa [show N + (10 - N) = 10 by omega] at this
  have hcl := cntS_le (s := s) N
  obtain ⟨rs1, ⟨T, hT, t1, t2, t3⟩, ms1, ms2⟩ := rs
  have i0 := im.1.1
  have i1 := im.2.1
  refine ⟨count_a a z (cntS s N) ((if h.1 3 0 3 = 0 then nI 0 else nI 1) + (if h.1 3 1 3 = 0 then nI 0 else nI 1)) T (h.1 8 0 2), ?_, ?_⟩
  · unfold hf_143 count_a
    by_cases h0 : a = nI 0
    · rw [if_pos h0, if_pos h0, cS1]
    rw [if_neg h0, if_neg h0]
    by_cases h1 : a = nI 1
    · rw [if_pos h1, if_pos h1, sp_94 cF3 hs18, Option.bind_some, ec]
    rw [if_neg h1, if_neg h1]
    by_cases h2 : a = nI 2
    · rw [if_pos h2, if_pos h2, sp_144, Option.bind_some]
    rw [if_neg h2, if_neg h2]
    by_cases h3 : a = nI 3
    · rw [if_pos h3, if_pos h3, t1]
    rw [if_neg h3, if_neg h3]
    by_cases h4 : a = nI 4
    · rw [if_pos h4, if_pos h4]
      simp (disch := omega) only [nq_nf, nq_nt, nq_le_t, nq_le_f, nq_lt_t, nq_lt_f, nq_eq_t, nq_eq_f, nq_neg, nq_pos, nq_le0f, nq_le0t, nq_lt0t, nq_lt0f, nq_eq0f, nq_eq0t, nI_add, nI_clamp, nx_inb, nx_ck, Option.bind_some, nx_get, nx_get2, nx_dif, nx_or, bI_0, bI_01, bI_nt, bI_nf, if_true, if_false, ite_true, ite_false, not_true_eq_false, not_false_eq_true, and_true, true_and, and_false, false_and, Bool.false_eq_true, Bool.true_eq_false, reduceCtorEq]
    · rw [if_neg h4, if_neg h4]
  · unfold hf_239
    exact lp_for (f := fun k s => hb_239_4 k s.1 s.2.1 s.2.2.1 s.2.2.2) (st := fun j => (a, nI (cntS s j), nI j, h)) (e := N) (X := some (count_a a z (cntS s N) ((if h.1 3 0 3 = 0 then nI 0 else nI 1) + (if h.1 3 1 3 = 0 then nI 0 else nI 1)) T (h.1 8 0 2), h)) (fun j hj k => by
      show hb_239_4 k a (nI (cntS s j)) (nI j) h = k (a, nI (cntS s j + (if 0 < s j then 1 else 0)), nI (j + 1), h)
      unfold hb_239_4 hb_239_30
      have b2 := hs18 j
      by_cases h0 : 0 < s j
      · rw [if_pos h0]
        simp (disch := omega) only [mN1, mF3, fl_151, nI_0r, nq_nf, nq_nt, nq_le_t, nq_le_f, nq_lt_t, nq_lt_f, nq_eq_t, nq_eq_f, nq_neg, nq_pos, nq_le0f, nq_le0t, nq_lt0t, nq_lt0f, nq_eq0f, nq_eq0t, nI_add, nI_clamp, nx_inb, nx_ck, Option.bind_some, nx_get, nx_get2, nx_dif, nx_or, bI_0, bI_01, bI_nt, bI_nf, if_true, if_false, ite_true, ite_false, not_true_eq_false, not_false_eq_true, and_true, true_and, and_false, false_and, Bool.false_eq_true, Bool.true_eq_false, reduceCtorEq]
      · rw [if_neg h0]
        simp (disch := omega) only [mN1, mF3, fl_151, nI_0r, nq_nf, nq_nt, nq_le_t, nq_le_f, nq_lt_t, nq_lt_f, nq_eq_t, nq_eq_f, nq_neg, nq_pos, nq_le0f, nq_le0t, nq_lt0t, nq_lt0f, nq_eq0f, nq_eq0t, nI_add, nI_clamp, nx_inb, nx_ck, Option.bind_some, nx_get, nx_get2, nx_dif, nx_or, bI_0, bI_01, bI_nt, bI_nf, if_true, if_false, ite_true, ite_false, not_true_eq_false, not_false_eq_true, and_true, true_and, and_false, false_and, Bool.false_eq_true, Bool.true_eq_false, reduceCtorEq]) (fun k => by
      show hb_239_4 k a (nI (cntS s N)) (nI N) h = _
      unfold hb_239_4 hb_239_133 count_a
      rw [mN1, if_pos (Int32.le_refl _)]
      by_cases h0 : a = nI 0
      · rw [if_pos h0, if_pos h0]
        simp (disch := omega) only [mS1, nq_nf, nq_nt, nq_le_t, nq_le_f, nq_lt_t, nq_lt_f, nq_eq_t, nq_eq_f, nq_neg, nq_pos, nq_le0f, nq_le0t, nq_lt0t, nq_lt0f, nq_eq0f, nq_eq0t, nI_add, nI_clamp, nx_inb, nx_ck, Option.bind_some, nx_get, nx_get2, nx_dif, nx_or, bI_0, bI_01, bI_nt, bI_nf, if_true, if_false, ite_true, ite_false, not_true_eq_false, not_false_eq_true, and_true, true_and, and_false, false_and, Bool.false_eq_true, Bool.true_eq_false, reduceCtorEq]
      rw [if_neg h0, if_neg h0]
      by_cases h1 : a = nI 1
      · rw [if_pos h1, if_pos h1]
      rw [if_neg h1, if_neg h1]
      by_cases h2 : a = nI 2
      · rw [if_pos h2, if_pos h2]
        simp (disch := omega) only [fl_151, nq_nf, nq_nt, nq_le_t, nq_le_f, nq_lt_t, nq_lt_f, nq_eq_t, nq_eq_f, nq_neg, nq_pos, nq_le0f, nq_le0t, nq_lt0t, nq_lt0f, nq_eq0f, nq_eq0t, nI_add, nI_clamp, nx_inb, nx_ck, Option.bind_some, nx_get, nx_get2, nx_dif, nx_or, bI_0, bI_01, bI_nt, bI_nf, if_true, if_false, ite_true, ite_false, not_true_eq_false, not_false_eq_true, and_true, true_and, and_false, false_and, Bool.false_eq_true, Bool.true_eq_false, reduceCtorEq]
        rw [← i0, ← i1]
      rw [if_neg h2, if_neg h2]
      by_cases h3 : a = nI 3
      · rw [if_pos h3, if_pos h3, t2]
      rw [if_neg h3, if_neg h3]
      by_cases h4 : a = nI 4
      · rw [if_pos h4, if_pos h4]
        rcases rs1 0 (by omega) with ⟨q1, q2⟩ | ⟨ln, n, q1, q2, q3, q4, q5, q6, q7⟩
        · simp (disch := omega) only [q1, q2, nq_nf, nq_nt, nq_le_t, nq_le_f, nq_lt_t, nq_lt_f, nq_eq_t, nq_eq_f, nq_neg, nq_pos, nq_le0f, nq_le0t, nq_lt0t, nq_lt0f, nq_eq0f, nq_eq0t, nI_add, nI_clamp, nx_inb, nx_ck, Option.bind_some, nx_get, nx_get2, nx_dif, nx_or, bI_0, bI_01, bI_nt, bI_nf, if_true, if_false, ite_true, ite_false, not_true_eq_false, not_false_eq_true, and_true, true_and, and_false, false_and, Bool.false_eq_true, Bool.true_eq_false, reduceCtorEq]
        · have hq : (nI ln = nI 4294967292) = False := eq_false (fun h9 => by have := nI_inj (by omega) (by omega) h9; omega)
          simp (disch := omega) only [q4, q5, q6, hq, nq_nf, nq_nt, nq_le_t, nq_le_f, nq_lt_t, nq_lt_f, nq_eq_t, nq_eq_f, nq_neg, nq_pos, nq_le0f, nq_le0t, nq_lt0t, nq_lt0f, nq_eq0f, nq_eq0t, nI_add, nI_clamp, nx_inb, nx_ck, Option.bind_some, nx_get, nx_get2, nx_dif, nx_or, bI_0, bI_01, bI_nt, bI_nf, if_true, if_false, ite_true, ite_false, not_true_eq_false, not_false_eq_true, and_true, true_and, and_false, false_and, Bool.false_eq_true, Bool.true_eq_false, reduceCtorEq]
      · rw [if_neg h4, if_neg h4]) 0 hs_big (by omega) (lp_big (by omega))
end CR
