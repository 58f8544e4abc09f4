/-! now, rule, count. -/
theorem nI_0r : (0 : Int32) = nI 0 := rfl
/-- the strongest smell among nodes m, of the first k -/
def bst (s : Nat → Nat) (m : Nat) : Nat → Int32 × Nat
  | 0 => (nI 4294967292, 0)
  | k + 1 => if m.testBit k = true ∧ (bst s m k).2 < s k then (nI k, s k) else bst s m k
def sumS (s : Nat → Nat) : Nat → Nat
  | 0 => 0
  | k + 1 => sumS s k + s k
def cntS (s : Nat → Nat) : Nat → Nat
  | 0 => 0
  | k + 1 => cntS s k + (if 0 < s k then 1 else 0)
theorem bst_le {s : Nat → Nat} {m : Nat} (hs : ∀ k, s k ≤ 18) : ∀ n, (bst s m n).2 ≤ 18 := by
  intro n
  induction n with
  | zero => exact Nat.zero_le _
  | succ n ih =>
    unfold bst
    split
    · exact hs n
    · exact ih
theorem sumS_le {s : Nat → Nat} (hs : ∀ k, s k ≤ 18) : ∀ n, sumS s n ≤ 18 * n := by
  intro n
  induction n with
  | zero => exact Nat.zero_le _
  | succ n ih => have := hs n; show sumS s n + s n ≤ _; omega
theorem cntS_le {s : Nat → Nat} : ∀ n, cntS s n ≤ n := by
  intro n
  induction n with
  | zero => exact Nat.zero_le _
  | succ n ih => show cntS s n + (if 0 < s n then 1 else 0) ≤ _; split <;> omega
theorem bst_hi {s : Nat → Nat} {m N : Nat} (hm : m < 2 ^ N) : ∀ d, bst s m (N + d) = bst s m N := by
  intro d
  induction d with
  | zero => rfl
  | succ d ih =>
    show bst s m (N + d + 1) = _
    unfold bst
    rw [if_neg (fun q => by rw [tb_hi hm (by omega)] at q; exact absurd q.1 (by decide)), ih]
    cases N <;> rfl
theorem sumS_hi {s : Nat → Nat} {N : Nat} (hs : ∀ k, N ≤ k → s k = 0) : ∀ d, sumS s (N + d) = sumS s N := by
  intro d
  induction d with
  | zero => rfl
  | succ d ih =>
    show sumS s (N + d) + s (N + d) = _
    rw [ih, hs _ (by omega), Nat.add_zero]
theorem cntS_hi {s : Nat → Nat} {N : Nat} (hs : ∀ k, N ≤ k → s k = 0) : ∀ d, cntS s (N + d) = cntS s N := by
  intro d
  induction d with
  | zero => rfl
  | succ d ih =>
    show cntS s (N + d) + (if 0 < s (N + d) then 1 else 0) = _
    rw [ih, hs _ (by omega)]
    rfl
theorem sp_92 {o m : Nat} {s : Nat → Nat} {h : hs_H} (hs : ∀ k, k < 10 → h.1 33 o k = nI (s k)) (hb : ∀ k, s k ≤ 18) (hm : m < 2147483648) : hf_92 o (nI m) h = some ((bst s m 10).1, h) := by
  unfold hf_92
  exact lp_for (f := fun k s => hb_92_8 o k s.1 s.2.1 s.2.2.1 s.2.2.2.1 s.2.2.2.2) (st := fun j => (nI m, (bst s m j).1, nI (bst s m j).2, nI j, h)) (e := 10) (X := some ((bst s m 10).1, h)) (fun j hj k => by
    show hb_92_8 o k (nI m) (bst s m j).1 (nI (bst s m j).2) (nI j) h = _
    unfold hb_92_8 hb_92_46
    have b1 := bst_le (m := m) hb j
    have b2 := hb j
    conv => rhs; unfold bst
    cases ht : m.testBit j with
    | false => simp (disch := omega) only [sp_147 hm, ht, nq_nf, nq_nt, nq_le_t, nq_le_f, nq_lt_t, nq_lt_f, nq_eq_t, nq_eq_f, nq_neg, nq_pos, nq_le0f, nq_le0t, nq_lt0t, nq_lt0f, nq_eq0f, nq_eq0t, nI_add, nI_clamp, nx_inb, nx_ck, Option.bind_some, nx_get, nx_get2, nx_dif, nx_or, bI_0, bI_01, bI_nt, bI_nf, if_true, if_false, ite_true, ite_false, not_true_eq_false, not_false_eq_true, and_true, true_and, and_false, false_and, Bool.false_eq_true, Bool.true_eq_false, reduceCtorEq]
    | true =>
      by_cases hlt : (bst s m j).2 < s j
      · simp (disch := omega) only [sp_147 hm, ht, hs, hlt, nq_nf, nq_nt, nq_le_t, nq_le_f, nq_lt_t, nq_lt_f, nq_eq_t, nq_eq_f, nq_neg, nq_pos, nq_le0f, nq_le0t, nq_lt0t, nq_lt0f, nq_eq0f, nq_eq0t, nI_add, nI_clamp, nx_inb, nx_ck, Option.bind_some, nx_get, nx_get2, nx_dif, nx_or, bI_0, bI_01, bI_nt, bI_nf, if_true, if_false, ite_true, ite_false, not_true_eq_false, not_false_eq_true, and_true, true_and, and_false, false_and, Bool.false_eq_true, Bool.true_eq_false, reduceCtorEq]
      · simp (disch := omega) only [sp_147 hm, ht, hs, hlt, nq_nf, nq_nt, nq_le_t, nq_le_f, nq_lt_t, nq_lt_f, nq_eq_t, nq_eq_f, nq_neg, nq_pos, nq_le0f, nq_le0t, nq_lt0t, nq_lt0f, nq_eq0f, nq_eq0t, nI_add, nI_clamp, nx_inb, nx_ck, Option.bind_some, nx_get, nx_get2, nx_dif, nx_or, bI_0, bI_01, bI_nt, bI_nf, if_true, if_false, ite_true, ite_false, not_true_eq_false, not_false_eq_true, and_true, true_and, and_false, false_and, Bool.false_eq_true, Bool.true_eq_false, reduceCtorEq]) (fun k => by
    show hb_92_8 o k (nI m) (bst s m 10).1 (nI (bst s m 10).2) (nI 10) h = _
    unfold hb_92_8
    simp (disch := omega) only [nq_nf, nq_nt, nq_le_t, nq_le_f, nq_lt_t, nq_lt_f, nq_eq_t, nq_eq_f, nq_neg, nq_pos, nq_le0f, nq_le0t, nq_lt0t, nq_lt0f, nq_eq0f, nq_eq0t, nI_add, nI_clamp, nx_inb, nx_ck, Option.bind_some, nx_get, nx_get2, nx_dif, nx_or, bI_0, bI_01, bI_nt, bI_nf, if_true, if_false, ite_true, ite_false, not_true_eq_false, not_false_eq_true, and_true, true_and, and_false, false_and, Bool.false_eq_true, Bool.true_eq_false, reduceCtorEq]) 0 hs_big (by omega) (lp_big (by omega))
theorem sp_93 {o : Nat} {s : Nat → Nat} {h : hs_H} (hs : ∀ k, k < 10 → h.1 33 o k = nI (s k)) : hf_93 o h = some (nI (sumS s 10), h) := by
  unfold hf_93
  exact lp_for (f := fun k s => hb_93_4 o k s.1 s.2.1 s.2.2) (st := fun j => (nI (sumS s j), nI j, h)) (e := 10) (X := some (nI (sumS s 10), h)) (fun j hj k => by
    show hb_93_4 o k (nI (sumS s j)) (nI j) h = k (nI (sumS s j + s j), nI (j + 1), h)
    unfold hb_93_4
    simp (disch := omega) only [hs, nq_nf, nq_nt, nq_le_t, nq_le_f, nq_lt_t, nq_lt_f, nq_eq_t, nq_eq_f, nq_neg, nq_pos, nq_le0f, nq_le0t, nq_lt0t, nq_lt0f, nq_eq0f, nq_eq0t, nI_add, nI_clamp, nx_inb, nx_ck, Option.bind_some, nx_get, nx_get2, nx_dif, nx_or, bI_0, bI_01, bI_nt, bI_nf, if_true, if_false, ite_true, ite_false, not_true_eq_false, not_false_eq_true, and_true, true_and, and_false, false_and, Bool.false_eq_true, Bool.true_eq_false, reduceCtorEq]) (fun k => by
    show hb_93_4 o k (nI (sumS s 10)) (nI 10) h = _
    unfold hb_93_4
    simp (disch := omega) only [nq_nf, nq_nt, nq_le_t, nq_le_f, nq_lt_t, nq_lt_f, nq_eq_t, nq_eq_f, nq_neg, nq_pos, nq_le0f, nq_le0t, nq_lt0t, nq_lt0f, nq_eq0f, nq_eq0t, nI_add, nI_clamp, nx_inb, nx_ck, Option.bind_some, nx_get, nx_get2, nx_dif, nx_or, bI_0, bI_01, bI_nt, bI_nf, if_true, if_false, ite_true, ite_false, not_true_eq_false, not_false_eq_true, and_true, true_and, and_false, false_and, Bool.false_eq_true, Bool.true_eq_false, reduceCtorEq]) 0 hs_big (by omega) (lp_big (by omega))
theorem sp_94 {o : Nat} {s : Nat → Nat} {h : hs_H} (hs : ∀ k, k < 10 → h.1 33 o k = nI (s k)) (hb : ∀ k, s k ≤ 18) : hf_94 o h = some (nI (cntS s 10), h) := by
  unfold hf_94
  exact lp_for (f := fun k s => hb_94_4 o k s.1 s.2.1 s.2.2) (st := fun j => (nI (cntS s j), nI j, h)) (e := 10) (X := some (nI (cntS s 10), h)) (fun j hj k => by
    show hb_94_4 o k (nI (cntS s j)) (nI j) h = k (nI (cntS s j + (if 0 < s j then 1 else 0)), nI (j + 1), h)
    unfold hb_94_4 hb_94_25
    have b2 := hb j
    by_cases h0 : 0 < s j
    · rw [if_pos h0]
      simp (disch := omega) only [hs, nq_nf, nq_nt, nq_le_t, nq_le_f, nq_lt_t, nq_lt_f, nq_eq_t, nq_eq_f, nq_neg, nq_pos, nq_le0f, nq_le0t, nq_lt0t, nq_lt0f, nq_eq0f, nq_eq0t, nI_add, nI_clamp, nx_inb, nx_ck, Option.bind_some, nx_get, nx_get2, nx_dif, nx_or, bI_0, bI_01, bI_nt, bI_nf, if_true, if_false, ite_true, ite_false, not_true_eq_false, not_false_eq_true, and_true, true_and, and_false, false_and, Bool.false_eq_true, Bool.true_eq_false, reduceCtorEq]
    · rw [if_neg h0]
      simp (disch := omega) only [hs, nq_nf, nq_nt, nq_le_t, nq_le_f, nq_lt_t, nq_lt_f, nq_eq_t, nq_eq_f, nq_neg, nq_pos, nq_le0f, nq_le0t, nq_lt0t, nq_lt0f, nq_eq0f, nq_eq0t, nI_add, nI_clamp, nx_inb, nx_ck, Option.bind_some, nx_get, nx_get2, nx_dif, nx_or, bI_0, bI_01, bI_nt, bI_nf, if_true, if_false, ite_true, ite_false, not_true_eq_false, not_false_eq_true, and_true, true_and, and_false, false_and, Bool.false_eq_true, Bool.true_eq_false, reduceCtorEq]) (fun k => by
    show hb_94_4 o k (nI (cntS s 10)) (nI 10) h = _
    unfold hb_94_4
    simp (disch := omega) only [nq_nf, nq_nt, nq_le_t, nq_le_f, nq_lt_t, nq_lt_f, nq_eq_t, nq_eq_f, nq_neg, nq_pos, nq_le0f, nq_le0t, nq_lt0t, nq_lt0f, nq_eq0f, nq_eq0t, nI_add, nI_clamp, nx_inb, nx_ck, Option.bind_some, nx_get, nx_get2, nx_dif, nx_or, bI_0, bI_01, bI_nt, bI_nf, if_true, if_false, ite_true, ite_false, not_true_eq_false, not_false_eq_true, and_true, true_and, and_false, false_and, Bool.false_eq_true, Bool.true_eq_false, reduceCtorEq]) 0 hs_big (by omega) (lp_big (by omega))
/-- what now answers -/
def now_a (a pl mv : Int32) (be : Int32) (su : Nat) : Int32 := if a = nI 0 then pl else if a = nI 1 then mv else if a = nI 2 then be else if a = nI 3 then nI su else nI 4294967295
theorem sp_32n {o : Nat} {h : hs_H} : hf_32 o (nI 4294967292) h = some (nI 0, h) := by
  unfold hf_32 hb_32_19 hb_32_20
  rw [if_pos (by decide)]
section CN
variable {VC : Nat → (Nat → Nat) → Nat → Int32 → Int32 → hs_H → Prop} {VH : Nat → (Nat → Nat) → Nat → hs_H → Prop} {VW : st_VW}
theorem cl_now {a : Int32} : st_call VC VH VW (hf_117 a) (hf_186 a) := st_read fun b h p => by
  obtain ⟨N, re, W, Ho, J, st, pl, mv, s, z, t, n, g, c, d, ⟨hc, hd⟩, ⟨⟨okN, okF, okS⟩, ⟨cN, cF, cS⟩, mJ, mF, mS⟩, mN, im, ca, rs⟩ := p
  obtain ⟨⟨hN1, hN2⟩, hre, hst, ⟨hW, hHo⟩, hJ, hJ0, hJs, hJa⟩ := id okN
  obtain ⟨cN1, cN2, cN3, cN4, cN5, cJ⟩ := id cN
  obtain ⟨mN1, mN2, mN3, mN4⟩ := id mN
  obtain ⟨mJ1, mJ2⟩ := st_mJ0 mJ
  obtain ⟨mF1, mF2, mF3⟩ := st_mF0 mF
  obtain ⟨mS1, mS2⟩ := st_mS0 mS
  obtain ⟨cF1, cF2, cF3⟩ := id cF
  obtain ⟨cS1, cS2⟩ := id cS
  have hp := p2_lt hN2
  obtain ⟨m, hm, hpm, e32, hbit⟩ : ∃ m, m < 2 ^ N ∧ (∀ k, k < 10 → (pl = nI 4294967292 → m.testBit k = false)) ∧ hf_32 0 pl h = some (nI m, h) ∧ (∀ k, k < N → pl ≠ nI 4294967292 → hf_172 pl (nI k) h = some (bI (m.testBit k), h)) := by
    rcases okF.1 with hpl | ⟨q, hq, hpl⟩
    · subst hpl
      exact ⟨0, Nat.two_pow_pos N, fun k _ _ => Nat.zero_testBit k, sp_32n, fun k _ q => absurd rfl q⟩
    · subst hpl
      refine ⟨J q, hJ q, fun k _ h9 => by have := nI_inj (by omega) (by omega) h9; omega, sp_32 cJ (by omega), fun k hk _ => sp_172 (fun k hk => by rw [Nat.zero_add]; exact mJ1 k hk) (by have := hJ q; omega) (by omega) (by omega)⟩
  have hmb : m < 2147483648 := by omega
  have hs18 := okF.2.1
  have eb : bst s m 10 = bst s m N := by
    have := bst_hi (s := s) hm (10 - N)
    rwa [show N + (10 - N) = 10 by omega] at this
  have es : sumS s 10 = sumS s N := by
    have := sumS_hi okF.2.2.1 (10 - N)
    rwa [show N + (10 - N) = 10 by omega] at this
  refine ⟨now_a a pl mv (bst s m N).1 (sumS s N), ?_, ?_⟩
  · unfold hf_117 now_a
    by_cases h0 : a = nI 0
    · rw [if_pos h0, if_pos h0, cF1]
    rw [if_neg h0, if_neg h0]
    by_cases h1 : a = nI 1
    · rw [if_pos h1, if_pos h1, cF2]
    rw [if_neg h1, if_neg h1]
    by_cases h2 : a = nI 2
    · rw [if_pos h2, if_pos h2, cF1, e32, Option.bind_some, sp_92 cF3 hs18 hmb, Option.bind_some, eb]
    rw [if_neg h2, if_neg h2]
    by_cases h3 : a = nI 3
    · rw [if_pos h3, if_pos h3, sp_93 cF3, Option.bind_some, es]
    · rw [if_neg h3, if_neg h3]
  · unfold hf_186
    exact lp_for (f := fun k s => hb_186_11 k s.1 s.2.1 s.2.2.1 s.2.2.2.1 s.2.2.2.2.1 s.2.2.2.2.2) (st := fun j => (a, (bst s m j).1, nI (bst s m j).2, nI (sumS s j), nI j, h)) (e := N) (X := some (now_a a pl mv (bst s m N).1 (sumS s N), h)) (fun j hj k => by
      show hb_186_11 k a (bst s m j).1 (nI (bst s m j).2) (nI (sumS s j)) (nI j) h = k (a, (bst s m (j + 1)).1, nI (bst s m (j + 1)).2, nI (sumS s j + s j), nI (j + 1), h)
      unfold hb_186_11 hb_186_79
      have b1 := bst_le (m := m) hs18 j
      have b2 := hs18 j
      conv => rhs; unfold bst
      by_cases hn : pl = nI 4294967292
      · have ht := hpm j (by omega) hn
        simp (disch := omega) only [mN1, mF1, mF3, hn, ht, nq_nf, nq_nt, nq_le_t, nq_le_f, nq_lt_t, nq_lt_f, nq_eq_t, nq_eq_f, nq_neg, nq_pos, nq_le0f, nq_le0t, nq_lt0t, nq_lt0f, nq_eq0f, nq_eq0t, nI_add, nI_clamp, nx_inb, nx_ck, Option.bind_some, nx_get, nx_get2, nx_dif, nx_or, bI_0, bI_01, bI_nt, bI_nf, if_true, if_false, ite_true, ite_false, not_true_eq_false, not_false_eq_true, and_true, true_and, and_false, false_and, Bool.false_eq_true, Bool.true_eq_false, reduceCtorEq]
      · have ht := hbit j hj hn
        cases htb : m.testBit j with
        | false =>
          rw [htb] at ht
          simp (disch := omega) only [mN1, mF1, mF3, hn, ht, nq_nf, nq_nt, nq_le_t, nq_le_f, nq_lt_t, nq_lt_f, nq_eq_t, nq_eq_f, nq_neg, nq_pos, nq_le0f, nq_le0t, nq_lt0t, nq_lt0f, nq_eq0f, nq_eq0t, nI_add, nI_clamp, nx_inb, nx_ck, Option.bind_some, nx_get, nx_get2, nx_dif, nx_or, bI_0, bI_01, bI_nt, bI_nf, if_true, if_false, ite_true, ite_false, not_true_eq_false, not_false_eq_true, and_true, true_and, and_false, false_and, Bool.false_eq_true, Bool.true_eq_false, reduceCtorEq]
        | true =>
          rw [htb] at ht
          by_cases hlt : (bst s m j).2 < s j
          · simp (disch := omega) only [mN1, mF1, mF3, hn, ht, hlt, nq_nf, nq_nt, nq_le_t, nq_le_f, nq_lt_t, nq_lt_f, nq_eq_t, nq_eq_f, nq_neg, nq_pos, nq_le0f, nq_le0t, nq_lt0t, nq_lt0f, nq_eq0f, nq_eq0t, nI_add, nI_clamp, nx_inb, nx_ck, Option.bind_some, nx_get, nx_get2, nx_dif, nx_or, bI_0, bI_01, bI_nt, bI_nf, if_true, if_false, ite_true, ite_false, not_true_eq_false, not_false_eq_true, and_true, true_and, and_false, false_and, Bool.false_eq_true, Bool.true_eq_false, reduceCtorEq]
          · simp (disch := omega) only [mN1, mF1, mF3, hn, ht, hlt, nq_nf, nq_nt, nq_le_t, nq_le_f, nq_lt_t, nq_lt_f, nq_eq_t, nq_eq_f, nq_neg, nq_pos, nq_le0f, nq_le0t, nq_lt0t, nq_lt0f, nq_eq0f, nq_eq0t, nI_add, nI_clamp, nx_inb, nx_ck, Option.bind_some, nx_get, nx_get2, nx_dif, nx_or, bI_0, bI_01, bI_nt, bI_nf, if_true, if_false, ite_true, ite_false, not_true_eq_false, not_false_eq_true, and_true, true_and, and_false, false_and, Bool.false_eq_true, Bool.true_eq_false, reduceCtorEq]) (fun k => by
      show hb_186_11 k a (bst s m N).1 (nI (bst s m N).2) (nI (sumS s N)) (nI N) h = _
      unfold hb_186_11 hb_186_134 now_a
      rw [mN1, if_pos (Int32.le_refl _), nI_0r]
      by_cases h0 : a = nI 0
      · rw [if_neg (fun q => q h0), if_pos h0]
        simp (disch := omega) only [mF1, nq_nf, nq_nt, nq_le_t, nq_le_f, nq_lt_t, nq_lt_f, nq_eq_t, nq_eq_f, nq_neg, nq_pos, nq_le0f, nq_le0t, nq_lt0t, nq_lt0f, nq_eq0f, nq_eq0t, nI_add, nI_clamp, nx_inb, nx_ck, Option.bind_some, nx_get, nx_get2, nx_dif, nx_or, bI_0, bI_01, bI_nt, bI_nf, if_true, if_false, ite_true, ite_false, not_true_eq_false, not_false_eq_true, and_true, true_and, and_false, false_and, Bool.false_eq_true, Bool.true_eq_false, reduceCtorEq]
      rw [if_pos h0, if_neg h0]
      by_cases h1 : a = nI 1
      · rw [if_neg (fun q => q h1), if_pos h1]
        simp (disch := omega) only [mF2, nq_nf, nq_nt, nq_le_t, nq_le_f, nq_lt_t, nq_lt_f, nq_eq_t, nq_eq_f, nq_neg, nq_pos, nq_le0f, nq_le0t, nq_lt0t, nq_lt0f, nq_eq0f, nq_eq0t, nI_add, nI_clamp, nx_inb, nx_ck, Option.bind_some, nx_get, nx_get2, nx_dif, nx_or, bI_0, bI_01, bI_nt, bI_nf, if_true, if_false, ite_true, ite_false, not_true_eq_false, not_false_eq_true, and_true, true_and, and_false, false_and, Bool.false_eq_true, Bool.true_eq_false, reduceCtorEq]
      rw [if_pos h1, if_neg h1]
      by_cases h2 : a = nI 2
      · rw [if_neg (fun q => q h2), if_pos h2]
      rw [if_pos h2, if_neg h2]
      by_cases h3 : a = nI 3
      · rw [if_neg (fun q => q h3), if_pos h3]
      · rw [if_pos h3, if_neg h3]) 0 hs_big (by omega) (lp_big (by omega))
end CN
