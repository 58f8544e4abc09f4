/-! Lanes tied and untied; join. -/
def tieJ (J : Nat → Nat) (i j : Nat) (is : Bool) : Nat → Nat := fun k => if k = i then (bif is then J i ||| 2 ^ j else dif (J i) (2 ^ j)) else if k = j then (bif is then J j ||| 2 ^ i else dif (J j) (2 ^ i)) else J k
theorem tb_tie {J : Nat → Nat} {i j : Nat} {is : Bool} (hij : i ≠ j) (hJ : ∀ k, J k < 4294967296) (a b : Nat) : (tieJ J i j is a).testBit b = if (a = i ∧ b = j) ∨ (a = j ∧ b = i) then is else (J a).testBit b := by
  unfold tieJ
  by_cases h1 : a = i
  · subst h1
    rw [if_pos rfl]
    by_cases h2 : b = j
    · subst h2
      rw [if_pos (Or.inl ⟨rfl, rfl⟩)]
      cases is with
      | true => rw [cond_true, Nat.testBit_or, tb_pow, decide_eq_true rfl, Bool.or_true]
      | false => rw [cond_false, tb_dif (hJ a), tb_pow, decide_eq_true rfl, Bool.not_true, Bool.and_false]
    · rw [if_neg (by omega)]
      cases is with
      | true => rw [cond_true, Nat.testBit_or, tb_pow, decide_eq_false (by omega), Bool.or_false]
      | false => rw [cond_false, tb_dif (hJ a), tb_pow, decide_eq_false (by omega), Bool.not_false, Bool.and_true]
  · rw [if_neg h1]
    by_cases h3 : a = j
    · subst h3
      rw [if_pos rfl]
      by_cases h2 : b = i
      · subst h2
        rw [if_pos (Or.inr ⟨rfl, rfl⟩)]
        cases is with
        | true => rw [cond_true, Nat.testBit_or, tb_pow, decide_eq_true rfl, Bool.or_true]
        | false => rw [cond_false, tb_dif (hJ a), tb_pow, decide_eq_true rfl, Bool.not_true, Bool.and_false]
      · rw [if_neg (by omega)]
        cases is with
        | true => rw [cond_true, Nat.testBit_or, tb_pow, decide_eq_false (by omega), Bool.or_false]
        | false => rw [cond_false, tb_dif (hJ a), tb_pow, decide_eq_false (by omega), Bool.not_false, Bool.and_true]
    · rw [if_neg h3, if_neg (by omega)]
theorem tie_lt {J : Nat → Nat} {i j N : Nat} {is : Bool} (hi : i < N) (hj : j < N) (hJ : ∀ k, J k < 2 ^ N) (k : Nat) : tieJ J i j is k < 2 ^ N := by
  have h1 : ∀ a b, a < 2 ^ N → b < N → (bif is then a ||| 2 ^ b else dif a (2 ^ b)) < 2 ^ N := by
    intro a b ha hb
    cases is with
    | true => exact or_lt ha (Nat.pow_lt_pow_right (by omega) hb)
    | false => exact Nat.lt_of_le_of_lt (dif_le _ _) ha
  unfold tieJ
  by_cases h2 : k = i
  · rw [if_pos h2]; exact h1 _ _ (hJ i) hj
  · rw [if_neg h2]
    by_cases h3 : k = j
    · rw [if_pos h3]; exact h1 _ _ (hJ j) hi
    · rw [if_neg h3]; exact hJ k
theorem tie_ok {N : Nat} {J : Nat → Nat} {re : Nat} {st : Int32} {W Ho i j : Nat} {is : Bool} (hi : i < N) (hj : j < N) (hij : i ≠ j) (ok : ok_N N J re st W Ho) : ok_N N (tieJ J i j is) re st W Ho := by
  obtain ⟨⟨hN1, hN2⟩, hre, hst, hW, hJ, hJ0, hJs, hJa⟩ := ok
  have hp : 2 ^ N ≤ 2 ^ 10 := Nat.pow_le_pow_right (by omega) hN2
  have hJ3 : ∀ k, J k < 4294967296 := fun k => by have := hJ k; omega
  refine ⟨⟨hN1, hN2⟩, hre, hst, hW, fun k => tie_lt hi hj hJ k, fun k hk => ?_, fun a b => ?_, fun a => ?_⟩
  · unfold tieJ
    rw [if_neg (by omega), if_neg (by omega), hJ0 k hk]
  · rw [tb_tie hij hJ3, tb_tie hij hJ3]
    by_cases h1 : (a = i ∧ b = j) ∨ (a = j ∧ b = i)
    · rw [if_pos h1, if_pos (by omega)]
    · rw [if_neg h1, if_neg (by omega), hJs]
  · rw [tb_tie hij hJ3, if_neg (by omega), hJa]
def tie_c (h : hs_H) (o i j : Nat) (J : Nat → Nat) (is : Bool) : hs_H := hs_put (hs_put (hs_put h 27 o i (nI (tieJ J i j is i))) 27 o j (nI (tieJ J i j is j))) 4 o 6 (h.1 4 o 6 + nI 1)
theorem sp_34 {o i j : Nat} {J : Nat → Nat} {is : Bool} {h : hs_H} (hJ : ∀ k, k < 10 → h.1 27 o k = nI (J k)) (hi : i < 10) (hj : j < 10) (hij : i ≠ j) : hf_34 o (nI i) (nI j) (bI is) h = some (tie_c h o i j J is) := by
  unfold hf_34 hb_34_55 hb_34_90 tie_c tieJ
  cases is with
  | true => simp (disch := omega) only [hJ, nx_shl1, cond_true, nq_nf, nq_nt, nq_le_t, nq_le_f, nq_lt_t, nq_lt_f, nq_eq_t, nq_eq_f, nq_neg, nq_pos, nq_le0f, nq_le0t, nq_lt0t, nq_lt0f, nq_eq0f, nq_eq0t, nI_add, nI_clamp, nx_inb, nx_ck, Option.bind_some, nx_get, nx_get2, nx_dif, nx_or, bI_0, bI_01, bI_nt, bI_nf, if_true, if_false, ite_true, ite_false, not_true_eq_false, not_false_eq_true, and_true, true_and, and_false, false_and, Bool.false_eq_true, Bool.true_eq_false, reduceCtorEq]
  | false => simp (disch := omega) only [hJ, nx_shl1, cond_false, nq_nf, nq_nt, nq_le_t, nq_le_f, nq_lt_t, nq_lt_f, nq_eq_t, nq_eq_f, nq_neg, nq_pos, nq_le0f, nq_le0t, nq_lt0t, nq_lt0f, nq_eq0f, nq_eq0t, nI_add, nI_clamp, nx_inb, nx_ck, Option.bind_some, nx_get, nx_get2, nx_dif, nx_or, bI_0, bI_01, bI_nt, bI_nf, if_true, if_false, ite_true, ite_false, not_true_eq_false, not_false_eq_true, and_true, true_and, and_false, false_and, Bool.false_eq_true, Bool.true_eq_false, reduceCtorEq]
theorem tie_c_J {o i j : Nat} {J : Nat → Nat} {is : Bool} {h : hs_H} (hJ : ∀ k, k < 10 → h.1 27 o k = nI (J k)) (k : Nat) (hk : k < 10) : (tie_c h o i j J is).1 27 o k = nI (tieJ J i j is k) := by
  unfold tie_c
  by_cases h1 : k = j
  · subst h1
    simp (disch := omega) only [nq_nf, nq_nt, nq_le_t, nq_le_f, nq_lt_t, nq_lt_f, nq_eq_t, nq_eq_f, nq_neg, nq_pos, nq_le0f, nq_le0t, nq_lt0t, nq_lt0f, nq_eq0f, nq_eq0t, nI_add, nI_clamp, nx_inb, nx_ck, Option.bind_some, nx_get, nx_get2, nx_dif, nx_or, bI_0, bI_01, bI_nt, bI_nf, if_true, if_false, ite_true, ite_false, not_true_eq_false, not_false_eq_true, and_true, true_and, and_false, false_and, Bool.false_eq_true, Bool.true_eq_false, reduceCtorEq]
  · by_cases h2 : k = i
    · subst h2
      simp (disch := omega) only [nq_nf, nq_nt, nq_le_t, nq_le_f, nq_lt_t, nq_lt_f, nq_eq_t, nq_eq_f, nq_neg, nq_pos, nq_le0f, nq_le0t, nq_lt0t, nq_lt0f, nq_eq0f, nq_eq0t, nI_add, nI_clamp, nx_inb, nx_ck, Option.bind_some, nx_get, nx_get2, nx_dif, nx_or, bI_0, bI_01, bI_nt, bI_nf, if_true, if_false, ite_true, ite_false, not_true_eq_false, not_false_eq_true, and_true, true_and, and_false, false_and, Bool.false_eq_true, Bool.true_eq_false, reduceCtorEq]
    · simp (disch := omega) only [hJ, nq_nf, nq_nt, nq_le_t, nq_le_f, nq_lt_t, nq_lt_f, nq_eq_t, nq_eq_f, nq_neg, nq_pos, nq_le0f, nq_le0t, nq_lt0t, nq_lt0f, nq_eq0f, nq_eq0t, nI_add, nI_clamp, nx_inb, nx_ck, Option.bind_some, nx_get, nx_get2, nx_dif, nx_or, bI_0, bI_01, bI_nt, bI_nf, if_true, if_false, ite_true, ite_false, not_true_eq_false, not_false_eq_true, and_true, true_and, and_false, false_and, Bool.false_eq_true, Bool.true_eq_false, reduceCtorEq]
      unfold tieJ
      rw [if_neg h2, if_neg h1]
def tie_m (h : hs_H) (i j : Nat) (J : Nat → Nat) (is : Bool) : hs_H := hs_put (hs_put h 44 0 i (nI (tieJ J i j is i))) 44 0 j (nI (tieJ J i j is j))
theorem sp_175 {i j : Nat} {J : Nat → Nat} {is : Bool} {h : hs_H} (hJ : ∀ k, k < 10 → h.1 44 0 k = nI (J k)) (hi : i < 10) (hj : j < 10) (hij : i ≠ j) : hf_175 (nI i) (nI j) (bI is) h = some (tie_m h i j J is) := by
  unfold hf_175 hb_175_34 hb_175_69 tie_m tieJ
  cases is with
  | true => simp (disch := omega) only [hJ, nx_shl1, cond_true, nq_nf, nq_nt, nq_le_t, nq_le_f, nq_lt_t, nq_lt_f, nq_eq_t, nq_eq_f, nq_neg, nq_pos, nq_le0f, nq_le0t, nq_lt0t, nq_lt0f, nq_eq0f, nq_eq0t, nI_add, nI_clamp, nx_inb, nx_ck, Option.bind_some, nx_get, nx_get2, nx_dif, nx_or, bI_0, bI_01, bI_nt, bI_nf, if_true, if_false, ite_true, ite_false, not_true_eq_false, not_false_eq_true, and_true, true_and, and_false, false_and, Bool.false_eq_true, Bool.true_eq_false, reduceCtorEq]
  | false => simp (disch := omega) only [hJ, nx_shl1, cond_false, nq_nf, nq_nt, nq_le_t, nq_le_f, nq_lt_t, nq_lt_f, nq_eq_t, nq_eq_f, nq_neg, nq_pos, nq_le0f, nq_le0t, nq_lt0t, nq_lt0f, nq_eq0f, nq_eq0t, nI_add, nI_clamp, nx_inb, nx_ck, Option.bind_some, nx_get, nx_get2, nx_dif, nx_or, bI_0, bI_01, bI_nt, bI_nf, if_true, if_false, ite_true, ite_false, not_true_eq_false, not_false_eq_true, and_true, true_and, and_false, false_and, Bool.false_eq_true, Bool.true_eq_false, reduceCtorEq]
theorem tie_m_at {i j : Nat} {J : Nat → Nat} {is : Bool} {h : hs_H} (p : Nat) (h1 : p ≠ i) (h2 : p ≠ j) : (tie_m h i j J is).1 44 0 p = h.1 44 0 p := by
  unfold tie_m
  simp (disch := omega) only [nq_nf, nq_nt, nq_le_t, nq_le_f, nq_lt_t, nq_lt_f, nq_eq_t, nq_eq_f, nq_neg, nq_pos, nq_le0f, nq_le0t, nq_lt0t, nq_lt0f, nq_eq0f, nq_eq0t, nI_add, nI_clamp, nx_inb, nx_ck, Option.bind_some, nx_get, nx_get2, nx_dif, nx_or, bI_0, bI_01, bI_nt, bI_nf, if_true, if_false, ite_true, ite_false, not_true_eq_false, not_false_eq_true, and_true, true_and, and_false, false_and, Bool.false_eq_true, Bool.true_eq_false, reduceCtorEq]
theorem tie_m_J {i j : Nat} {J : Nat → Nat} {is : Bool} {h : hs_H} (hJ : ∀ k, k < 10 → h.1 44 0 k = nI (J k)) (k : Nat) (hk : k < 10) : (tie_m h i j J is).1 44 0 k = nI (tieJ J i j is k) := by
  unfold tie_m
  by_cases h1 : k = j
  · subst h1
    simp (disch := omega) only [nq_nf, nq_nt, nq_le_t, nq_le_f, nq_lt_t, nq_lt_f, nq_eq_t, nq_eq_f, nq_neg, nq_pos, nq_le0f, nq_le0t, nq_lt0t, nq_lt0f, nq_eq0f, nq_eq0t, nI_add, nI_clamp, nx_inb, nx_ck, Option.bind_some, nx_get, nx_get2, nx_dif, nx_or, bI_0, bI_01, bI_nt, bI_nf, if_true, if_false, ite_true, ite_false, not_true_eq_false, not_false_eq_true, and_true, true_and, and_false, false_and, Bool.false_eq_true, Bool.true_eq_false, reduceCtorEq]
  · by_cases h2 : k = i
    · subst h2
      simp (disch := omega) only [nq_nf, nq_nt, nq_le_t, nq_le_f, nq_lt_t, nq_lt_f, nq_eq_t, nq_eq_f, nq_neg, nq_pos, nq_le0f, nq_le0t, nq_lt0t, nq_lt0f, nq_eq0f, nq_eq0t, nI_add, nI_clamp, nx_inb, nx_ck, Option.bind_some, nx_get, nx_get2, nx_dif, nx_or, bI_0, bI_01, bI_nt, bI_nf, if_true, if_false, ite_true, ite_false, not_true_eq_false, not_false_eq_true, and_true, true_and, and_false, false_and, Bool.false_eq_true, Bool.true_eq_false, reduceCtorEq]
    · simp (disch := omega) only [hJ, nq_nf, nq_nt, nq_le_t, nq_le_f, nq_lt_t, nq_lt_f, nq_eq_t, nq_eq_f, nq_neg, nq_pos, nq_le0f, nq_le0t, nq_lt0t, nq_lt0f, nq_eq0f, nq_eq0t, nI_add, nI_clamp, nx_inb, nx_ck, Option.bind_some, nx_get, nx_get2, nx_dif, nx_or, bI_0, bI_01, bI_nt, bI_nf, if_true, if_false, ite_true, ite_false, not_true_eq_false, not_false_eq_true, and_true, true_and, and_false, false_and, Bool.false_eq_true, Bool.true_eq_false, reduceCtorEq]
      unfold tieJ
      rw [if_neg h2, if_neg h1]
theorem tie_c_fr {o i j : Nat} {J : Nat → Nat} {is : Bool} {h : hs_H} : hs_fr [(4, some o), (27, some o)] h (tie_c h o i j J is) := by
  unfold tie_c
  exact ((hs_fr.rf.put (.inl (.tail _ (.head _)))).put (.inl (.tail _ (.head _)))).put (.inl (.head _))
theorem tie_m_fr {i j : Nat} {J : Nat → Nat} {is : Bool} {h : hs_H} : hs_fr [(44, some 0)] h (tie_m h i j J is) := by
  unfold tie_m
  exact (hs_fr.rf.put (.inl (.head _))).put (.inl (.head _))
theorem sp_151 {x : Bool} {h : hs_H} : hf_151 (bI x) h = some (bI x, h) := by
  unfold hf_151 hb_151_9
  cases x <;> rfl
section CJ
variable {VC : Nat → (Nat → Nat) → Nat → Int32 → Int32 → hs_H → Prop} {VH : Nat → (Nat → Nat) → Nat → hs_H → Prop} {VW : st_VW}
theorem cl_join (V : st_V VC VH VW) {a e : Int32} {is : Bool} : st_call VC VH VW (hf_111 a e (bI is)) (hf_176 a e (bI is)) := by
  intro b h hb p
  have p0 := p
  obtain ⟨N, re, W, Ho, J, st, pl, mv, s, z, t, n, g, c, d, ⟨hc, hd⟩, ⟨⟨okN, okF, okS⟩, ⟨cN, cF, cS⟩, mJ, mF, mS⟩, mN, im, ca, rs⟩ := p
  obtain ⟨⟨hN1, hN2⟩, hre, hst, ⟨hW, hHo⟩, hJ, hJ0, hJs, hJa⟩ := id okN
  obtain ⟨cN1, cN2, cN3, cN4, cN5, cJ⟩ := id cN
  obtain ⟨mN1, mN2, mN3, mN4⟩ := id mN
  obtain ⟨mJ1, mJ2⟩ := st_mJ0 mJ
  obtain ⟨mF1, mF2, mF3⟩ := st_mF0 mF
  obtain ⟨mS1, mS2⟩ := st_mS0 mS
  obtain ⟨cF1, cF2, cF3⟩ := id cF
  obtain ⟨cS1, cS2⟩ := id cS
  have hp := p2_lt hN2
  obtain ⟨⟨ca1, ca2⟩, ca3, ca4, ca5⟩ := id ca
  by_cases hbad : nd N a = false ∨ nd N e = false ∨ a = e
  · refine ⟨nI 4294967295, h, h, ?_, ?_, p0.up VC VH VW (by omega)⟩
    · unfold hf_111 hb_111_27
      rw [sp_29 cN1 (by omega)]
      rcases hbad with h1 | h1 | h1
      · simp (disch := omega) only [h1, nq_nf, nq_nt, nq_le_t, nq_le_f, nq_lt_t, nq_lt_f, nq_eq_t, nq_eq_f, nq_neg, nq_pos, nq_le0f, nq_le0t, nq_lt0t, nq_lt0f, nq_eq0f, nq_eq0t, nI_add, nI_clamp, nx_inb, nx_ck, Option.bind_some, nx_get, nx_get2, nx_dif, nx_or, bI_0, bI_01, bI_nt, bI_nf, if_true, if_false, ite_true, ite_false, not_true_eq_false, not_false_eq_true, and_true, true_and, and_false, false_and, Bool.false_eq_true, Bool.true_eq_false, reduceCtorEq]
      · cases h2 : nd N a
        · simp (disch := omega) only [nq_nf, nq_nt, nq_le_t, nq_le_f, nq_lt_t, nq_lt_f, nq_eq_t, nq_eq_f, nq_neg, nq_pos, nq_le0f, nq_le0t, nq_lt0t, nq_lt0f, nq_eq0f, nq_eq0t, nI_add, nI_clamp, nx_inb, nx_ck, Option.bind_some, nx_get, nx_get2, nx_dif, nx_or, bI_0, bI_01, bI_nt, bI_nf, if_true, if_false, ite_true, ite_false, not_true_eq_false, not_false_eq_true, and_true, true_and, and_false, false_and, Bool.false_eq_true, Bool.true_eq_false, reduceCtorEq]
        · simp (disch := omega) only [sp_29 cN1, h1, nq_nf, nq_nt, nq_le_t, nq_le_f, nq_lt_t, nq_lt_f, nq_eq_t, nq_eq_f, nq_neg, nq_pos, nq_le0f, nq_le0t, nq_lt0t, nq_lt0f, nq_eq0f, nq_eq0t, nI_add, nI_clamp, nx_inb, nx_ck, Option.bind_some, nx_get, nx_get2, nx_dif, nx_or, bI_0, bI_01, bI_nt, bI_nf, if_true, if_false, ite_true, ite_false, not_true_eq_false, not_false_eq_true, and_true, true_and, and_false, false_and, Bool.false_eq_true, Bool.true_eq_false, reduceCtorEq]
      · subst h1
        cases h2 : nd N a
        · simp (disch := omega) only [nq_nf, nq_nt, nq_le_t, nq_le_f, nq_lt_t, nq_lt_f, nq_eq_t, nq_eq_f, nq_neg, nq_pos, nq_le0f, nq_le0t, nq_lt0t, nq_lt0f, nq_eq0f, nq_eq0t, nI_add, nI_clamp, nx_inb, nx_ck, Option.bind_some, nx_get, nx_get2, nx_dif, nx_or, bI_0, bI_01, bI_nt, bI_nf, if_true, if_false, ite_true, ite_false, not_true_eq_false, not_false_eq_true, and_true, true_and, and_false, false_and, Bool.false_eq_true, Bool.true_eq_false, reduceCtorEq]
        · simp (disch := omega) only [sp_29 cN1, h2, nq_nf, nq_nt, nq_le_t, nq_le_f, nq_lt_t, nq_lt_f, nq_eq_t, nq_eq_f, nq_neg, nq_pos, nq_le0f, nq_le0t, nq_lt0t, nq_lt0f, nq_eq0f, nq_eq0t, nI_add, nI_clamp, nx_inb, nx_ck, Option.bind_some, nx_get, nx_get2, nx_dif, nx_or, bI_0, bI_01, bI_nt, bI_nf, if_true, if_false, ite_true, ite_false, not_true_eq_false, not_false_eq_true, and_true, true_and, and_false, false_and, Bool.false_eq_true, Bool.true_eq_false, reduceCtorEq]
    · unfold hf_176 hb_176_21
      rw [sp_171 mN1 (by omega) (by omega)]
      rcases hbad with h1 | h1 | h1
      · simp (disch := omega) only [h1, nq_nf, nq_nt, nq_le_t, nq_le_f, nq_lt_t, nq_lt_f, nq_eq_t, nq_eq_f, nq_neg, nq_pos, nq_le0f, nq_le0t, nq_lt0t, nq_lt0f, nq_eq0f, nq_eq0t, nI_add, nI_clamp, nx_inb, nx_ck, Option.bind_some, nx_get, nx_get2, nx_dif, nx_or, bI_0, bI_01, bI_nt, bI_nf, if_true, if_false, ite_true, ite_false, not_true_eq_false, not_false_eq_true, and_true, true_and, and_false, false_and, Bool.false_eq_true, Bool.true_eq_false, reduceCtorEq]
      · cases h2 : nd N a
        · simp (disch := omega) only [nq_nf, nq_nt, nq_le_t, nq_le_f, nq_lt_t, nq_lt_f, nq_eq_t, nq_eq_f, nq_neg, nq_pos, nq_le0f, nq_le0t, nq_lt0t, nq_lt0f, nq_eq0f, nq_eq0t, nI_add, nI_clamp, nx_inb, nx_ck, Option.bind_some, nx_get, nx_get2, nx_dif, nx_or, bI_0, bI_01, bI_nt, bI_nf, if_true, if_false, ite_true, ite_false, not_true_eq_false, not_false_eq_true, and_true, true_and, and_false, false_and, Bool.false_eq_true, Bool.true_eq_false, reduceCtorEq]
        · simp (disch := omega) only [sp_171 mN1, h1, nq_nf, nq_nt, nq_le_t, nq_le_f, nq_lt_t, nq_lt_f, nq_eq_t, nq_eq_f, nq_neg, nq_pos, nq_le0f, nq_le0t, nq_lt0t, nq_lt0f, nq_eq0f, nq_eq0t, nI_add, nI_clamp, nx_inb, nx_ck, Option.bind_some, nx_get, nx_get2, nx_dif, nx_or, bI_0, bI_01, bI_nt, bI_nf, if_true, if_false, ite_true, ite_false, not_true_eq_false, not_false_eq_true, and_true, true_and, and_false, false_and, Bool.false_eq_true, Bool.true_eq_false, reduceCtorEq]
      · subst h1
        cases h2 : nd N a
        · simp (disch := omega) only [nq_nf, nq_nt, nq_le_t, nq_le_f, nq_lt_t, nq_lt_f, nq_eq_t, nq_eq_f, nq_neg, nq_pos, nq_le0f, nq_le0t, nq_lt0t, nq_lt0f, nq_eq0f, nq_eq0t, nI_add, nI_clamp, nx_inb, nx_ck, Option.bind_some, nx_get, nx_get2, nx_dif, nx_or, bI_0, bI_01, bI_nt, bI_nf, if_true, if_false, ite_true, ite_false, not_true_eq_false, not_false_eq_true, and_true, true_and, and_false, false_and, Bool.false_eq_true, Bool.true_eq_false, reduceCtorEq]
        · simp (disch := omega) only [sp_171 mN1, h2, nq_nf, nq_nt, nq_le_t, nq_le_f, nq_lt_t, nq_lt_f, nq_eq_t, nq_eq_f, nq_neg, nq_pos, nq_le0f, nq_le0t, nq_lt0t, nq_lt0f, nq_eq0f, nq_eq0t, nI_add, nI_clamp, nx_inb, nx_ck, Option.bind_some, nx_get, nx_get2, nx_dif, nx_or, bI_0, bI_01, bI_nt, bI_nf, if_true, if_false, ite_true, ite_false, not_true_eq_false, not_false_eq_true, and_true, true_and, and_false, false_and, Bool.false_eq_true, Bool.true_eq_false, reduceCtorEq]
  · have ha : nd N a = true := by
      cases h2 : nd N a with
      | true => rfl
      | false => exact (hbad (Or.inl h2)).elim
    have he : nd N e = true := by
      cases h2 : nd N e with
      | true => rfl
      | false => exact (hbad (Or.inr (Or.inl h2))).elim
    have hne : a ≠ e := fun q => hbad (Or.inr (Or.inr q))
    obtain ⟨i, hi, rfl⟩ := (nd_of (by omega)).mp ha
    obtain ⟨j, hj, rfl⟩ := (nd_of (by omega)).mp he
    have hij : i ≠ j := fun q => hne (by rw [q])
    have hJi : J i < 2147483648 := by have := hJ i; omega
    have fc := tie_c_fr (o := 0) (i := i) (j := j) (J := J) (is := is) (h := h)
    have mJ1' : ∀ k, k < 10 → (tie_c h 0 i j J is).1 44 0 k = nI (J k) := fun k hk => by unfold tie_c; simp (disch := omega) only [mJ1, nq_nf, nq_nt, nq_le_t, nq_le_f, nq_lt_t, nq_lt_f, nq_eq_t, nq_eq_f, nq_neg, nq_pos, nq_le0f, nq_le0t, nq_lt0t, nq_lt0f, nq_eq0f, nq_eq0t, nI_add, nI_clamp, nx_inb, nx_ck, Option.bind_some, nx_get, nx_get2, nx_dif, nx_or, bI_0, bI_01, bI_nt, bI_nf, if_true, if_false, ite_true, ite_false, not_true_eq_false, not_false_eq_true, and_true, true_and, and_false, false_and, Bool.false_eq_true, Bool.true_eq_false, reduceCtorEq]
    have e44c : ∀ p, (tie_c h 0 i j J is).1 44 0 p = h.1 44 0 p := fun p => by unfold tie_c; simp (disch := omega) only [nq_nf, nq_nt, nq_le_t, nq_le_f, nq_lt_t, nq_lt_f, nq_eq_t, nq_eq_f, nq_neg, nq_pos, nq_le0f, nq_le0t, nq_lt0t, nq_lt0f, nq_eq0f, nq_eq0t, nI_add, nI_clamp, nx_inb, nx_ck, Option.bind_some, nx_get, nx_get2, nx_dif, nx_or, bI_0, bI_01, bI_nt, bI_nf, if_true, if_false, ite_true, ite_false, not_true_eq_false, not_false_eq_true, and_true, true_and, and_false, false_and, Bool.false_eq_true, Bool.true_eq_false, reduceCtorEq]
    have fm := tie_m_fr (i := i) (j := j) (J := J) (is := is) (h := tie_c h 0 i j J is)
    have e44 : ∀ p, 10 ≤ p → (tie_m (tie_c h 0 i j J is) i j J is).1 44 0 p = h.1 44 0 p := fun p hp => by rw [tie_m_at p (by omega) (by omega), e44c]
    have f : hs_fr [(4, some 0), (27, some 0), (44, some 0)] h (tie_m (tie_c h 0 i j J is) i j J is) := (fc.sub (hs_sub_cons (.inl (.head _)) (hs_sub_cons (.inl (.tail _ (.head _))) hs_sub_nil))).tr (fm.sub (hs_sub_cons (.inl (.tail _ (.tail _ (.head _)))) hs_sub_nil))
    refine ⟨bI ((J i).testBit j), tie_c h 0 i j J is, tie_m (tie_c h 0 i j J is) i j J is, ?_, ?_, ?_⟩
    · unfold hf_111 hb_111_46
      rw [sp_29 cN1 (by omega), ha]
      simp (disch := omega) only [sp_29 cN1, he, nq_nf, nq_nt, nq_le_t, nq_le_f, nq_lt_t, nq_lt_f, nq_eq_t, nq_eq_f, nq_neg, nq_pos, nq_le0f, nq_le0t, nq_lt0t, nq_lt0f, nq_eq0f, nq_eq0t, nI_add, nI_clamp, nx_inb, nx_ck, Option.bind_some, nx_get, nx_get2, nx_dif, nx_or, bI_0, bI_01, bI_nt, bI_nf, if_true, if_false, ite_true, ite_false, not_true_eq_false, not_false_eq_true, and_true, true_and, and_false, false_and, Bool.false_eq_true, Bool.true_eq_false, reduceCtorEq]
      rw [sp_33 cJ hJi (by omega) (by omega)]
      cases (J i).testBit j <;> simp (disch := omega) only [sp_34 cJ, nq_nf, nq_nt, nq_le_t, nq_le_f, nq_lt_t, nq_lt_f, nq_eq_t, nq_eq_f, nq_neg, nq_pos, nq_le0f, nq_le0t, nq_lt0t, nq_lt0f, nq_eq0f, nq_eq0t, nI_add, nI_clamp, nx_inb, nx_ck, Option.bind_some, nx_get, nx_get2, nx_dif, nx_or, bI_0, bI_01, bI_nt, bI_nf, if_true, if_false, ite_true, ite_false, not_true_eq_false, not_false_eq_true, and_true, true_and, and_false, false_and, Bool.false_eq_true, Bool.true_eq_false, reduceCtorEq] <;> rfl
    · unfold hf_176
      rw [sp_171 (N := N) (by unfold tie_c; simp (disch := omega) only [mN1, nq_nf, nq_nt, nq_le_t, nq_le_f, nq_lt_t, nq_lt_f, nq_eq_t, nq_eq_f, nq_neg, nq_pos, nq_le0f, nq_le0t, nq_lt0t, nq_lt0f, nq_eq0f, nq_eq0t, nI_add, nI_clamp, nx_inb, nx_ck, Option.bind_some, nx_get, nx_get2, nx_dif, nx_or, bI_0, bI_01, bI_nt, bI_nf, if_true, if_false, ite_true, ite_false, not_true_eq_false, not_false_eq_true, and_true, true_and, and_false, false_and, Bool.false_eq_true, Bool.true_eq_false, reduceCtorEq]) (by omega) (by omega), ha]
      simp (disch := omega) only [nq_nf, nq_nt, nq_le_t, nq_le_f, nq_lt_t, nq_lt_f, nq_eq_t, nq_eq_f, nq_neg, nq_pos, nq_le0f, nq_le0t, nq_lt0t, nq_lt0f, nq_eq0f, nq_eq0t, nI_add, nI_clamp, nx_inb, nx_ck, Option.bind_some, nx_get, nx_get2, nx_dif, nx_or, bI_0, bI_01, bI_nt, bI_nf, if_true, if_false, ite_true, ite_false, not_true_eq_false, not_false_eq_true, and_true, true_and, and_false, false_and, Bool.false_eq_true, Bool.true_eq_false, reduceCtorEq]
      rw [sp_171 (N := N) (by unfold tie_c; simp (disch := omega) only [mN1, nq_nf, nq_nt, nq_le_t, nq_le_f, nq_lt_t, nq_lt_f, nq_eq_t, nq_eq_f, nq_neg, nq_pos, nq_le0f, nq_le0t, nq_lt0t, nq_lt0f, nq_eq0f, nq_eq0t, nI_add, nI_clamp, nx_inb, nx_ck, Option.bind_some, nx_get, nx_get2, nx_dif, nx_or, bI_0, bI_01, bI_nt, bI_nf, if_true, if_false, ite_true, ite_false, not_true_eq_false, not_false_eq_true, and_true, true_and, and_false, false_and, Bool.false_eq_true, Bool.true_eq_false, reduceCtorEq]) (by omega) (by omega), he]
      simp (disch := omega) only [nq_nf, nq_nt, nq_le_t, nq_le_f, nq_lt_t, nq_lt_f, nq_eq_t, nq_eq_f, nq_neg, nq_pos, nq_le0f, nq_le0t, nq_lt0t, nq_lt0f, nq_eq0f, nq_eq0t, nI_add, nI_clamp, nx_inb, nx_ck, Option.bind_some, nx_get, nx_get2, nx_dif, nx_or, bI_0, bI_01, bI_nt, bI_nf, if_true, if_false, ite_true, ite_false, not_true_eq_false, not_false_eq_true, and_true, true_and, and_false, false_and, Bool.false_eq_true, Bool.true_eq_false, reduceCtorEq]
      rw [sp_172 (J := J) (fun k hk => by rw [Nat.zero_add]; exact mJ1' k hk) hJi (by omega) (by omega)]
      simp (disch := omega) only [sp_151, sp_175 mJ1', nq_nf, nq_nt, nq_le_t, nq_le_f, nq_lt_t, nq_lt_f, nq_eq_t, nq_eq_f, nq_neg, nq_pos, nq_le0f, nq_le0t, nq_lt0t, nq_lt0f, nq_eq0f, nq_eq0t, nI_add, nI_clamp, nx_inb, nx_ck, Option.bind_some, nx_get, nx_get2, nx_dif, nx_or, bI_0, bI_01, bI_nt, bI_nf, if_true, if_false, ite_true, ite_false, not_true_eq_false, not_false_eq_true, and_true, true_and, and_false, false_and, Bool.false_eq_true, Bool.true_eq_false, reduceCtorEq]
    · refine ⟨N, re, W, Ho, tieJ J i j is, st, pl, mv, s, z, t, n, g, c + 1, d, ⟨by omega, by omega⟩, ⟨⟨tie_ok hi hj hij okN, okF, okS⟩, ⟨⟨?_, ?_, ?_, ?_, ?_, fun k hk => ?_⟩, st_cF_dep.fr f rfl cF, st_cS_dep.fr f rfl cS⟩, ⟨fun k hk => ?_, by rw [e44 _ (by omega)]; exact mJ.2⟩, ⟨by rw [e44 _ (by omega)]; exact mF.1, by rw [e44 _ (by omega)]; exact mF.2.1, fun k hk => by rw [e44 _ (by omega)]; exact mF.2.2 k hk⟩, ⟨by rw [e44 _ (by omega)]; exact mS.1, fun k hk => by rw [e44 _ (by omega), e44 _ (by omega), e44 _ (by omega)]; exact mS.2 k hk⟩⟩, st_mN_dep.fr f rfl mN, st_imgs_fr f rfl (fun p hp => e44 p (by omega)) im, ⟨⟨?_, ?_⟩, st_cas_new (by omega) ((st_cas_dep V).fr f rfl ca3), st_cha_new (by omega) ((st_cha_dep V).fr f rfl ca4), st_way_new (by omega) (Nat.le_refl _) (Or.inl (by omega)) ((st_way_dep V).fr f rfl ca5)⟩, st_rest_dep.fr f rfl rs⟩
      · unfold tie_m tie_c
        simp (disch := omega) only [cN1, nq_nf, nq_nt, nq_le_t, nq_le_f, nq_lt_t, nq_lt_f, nq_eq_t, nq_eq_f, nq_neg, nq_pos, nq_le0f, nq_le0t, nq_lt0t, nq_lt0f, nq_eq0f, nq_eq0t, nI_add, nI_clamp, nx_inb, nx_ck, Option.bind_some, nx_get, nx_get2, nx_dif, nx_or, bI_0, bI_01, bI_nt, bI_nf, if_true, if_false, ite_true, ite_false, not_true_eq_false, not_false_eq_true, and_true, true_and, and_false, false_and, Bool.false_eq_true, Bool.true_eq_false, reduceCtorEq]
      · unfold tie_m tie_c
        simp (disch := omega) only [cN2, nq_nf, nq_nt, nq_le_t, nq_le_f, nq_lt_t, nq_lt_f, nq_eq_t, nq_eq_f, nq_neg, nq_pos, nq_le0f, nq_le0t, nq_lt0t, nq_lt0f, nq_eq0f, nq_eq0t, nI_add, nI_clamp, nx_inb, nx_ck, Option.bind_some, nx_get, nx_get2, nx_dif, nx_or, bI_0, bI_01, bI_nt, bI_nf, if_true, if_false, ite_true, ite_false, not_true_eq_false, not_false_eq_true, and_true, true_and, and_false, false_and, Bool.false_eq_true, Bool.true_eq_false, reduceCtorEq]
      · unfold tie_m tie_c
        simp (disch := omega) only [cN3, nq_nf, nq_nt, nq_le_t, nq_le_f, nq_lt_t, nq_lt_f, nq_eq_t, nq_eq_f, nq_neg, nq_pos, nq_le0f, nq_le0t, nq_lt0t, nq_lt0f, nq_eq0f, nq_eq0t, nI_add, nI_clamp, nx_inb, nx_ck, Option.bind_some, nx_get, nx_get2, nx_dif, nx_or, bI_0, bI_01, bI_nt, bI_nf, if_true, if_false, ite_true, ite_false, not_true_eq_false, not_false_eq_true, and_true, true_and, and_false, false_and, Bool.false_eq_true, Bool.true_eq_false, reduceCtorEq]
      · unfold tie_m tie_c
        simp (disch := omega) only [cN4, nq_nf, nq_nt, nq_le_t, nq_le_f, nq_lt_t, nq_lt_f, nq_eq_t, nq_eq_f, nq_neg, nq_pos, nq_le0f, nq_le0t, nq_lt0t, nq_lt0f, nq_eq0f, nq_eq0t, nI_add, nI_clamp, nx_inb, nx_ck, Option.bind_some, nx_get, nx_get2, nx_dif, nx_or, bI_0, bI_01, bI_nt, bI_nf, if_true, if_false, ite_true, ite_false, not_true_eq_false, not_false_eq_true, and_true, true_and, and_false, false_and, Bool.false_eq_true, Bool.true_eq_false, reduceCtorEq]
      · unfold tie_m tie_c
        simp (disch := omega) only [cN5, nq_nf, nq_nt, nq_le_t, nq_le_f, nq_lt_t, nq_lt_f, nq_eq_t, nq_eq_f, nq_neg, nq_pos, nq_le0f, nq_le0t, nq_lt0t, nq_lt0f, nq_eq0f, nq_eq0t, nI_add, nI_clamp, nx_inb, nx_ck, Option.bind_some, nx_get, nx_get2, nx_dif, nx_or, bI_0, bI_01, bI_nt, bI_nf, if_true, if_false, ite_true, ite_false, not_true_eq_false, not_false_eq_true, and_true, true_and, and_false, false_and, Bool.false_eq_true, Bool.true_eq_false, reduceCtorEq]
      · have h5 := tie_c_J (i := i) (j := j) (is := is) cJ k hk
        rw [← h5]
        unfold tie_m
        simp (disch := omega) only [nq_nf, nq_nt, nq_le_t, nq_le_f, nq_lt_t, nq_lt_f, nq_eq_t, nq_eq_f, nq_neg, nq_pos, nq_le0f, nq_le0t, nq_lt0t, nq_lt0f, nq_eq0f, nq_eq0t, nI_add, nI_clamp, nx_inb, nx_ck, Option.bind_some, nx_get, nx_get2, nx_dif, nx_or, bI_0, bI_01, bI_nt, bI_nf, if_true, if_false, ite_true, ite_false, not_true_eq_false, not_false_eq_true, and_true, true_and, and_false, false_and, Bool.false_eq_true, Bool.true_eq_false, reduceCtorEq]
      · rw [Nat.zero_add]
        exact tie_m_J mJ1' k hk
      · unfold tie_m tie_c
        simp (disch := omega) only [ca1, nq_nf, nq_nt, nq_le_t, nq_le_f, nq_lt_t, nq_lt_f, nq_eq_t, nq_eq_f, nq_neg, nq_pos, nq_le0f, nq_le0t, nq_lt0t, nq_lt0f, nq_eq0f, nq_eq0t, nI_add, nI_clamp, nx_inb, nx_ck, Option.bind_some, nx_get, nx_get2, nx_dif, nx_or, bI_0, bI_01, bI_nt, bI_nf, if_true, if_false, ite_true, ite_false, not_true_eq_false, not_false_eq_true, and_true, true_and, and_false, false_and, Bool.false_eq_true, Bool.true_eq_false, reduceCtorEq]
      · unfold tie_m tie_c
        simp (disch := omega) only [ca2, nq_nf, nq_nt, nq_le_t, nq_le_f, nq_lt_t, nq_lt_f, nq_eq_t, nq_eq_f, nq_neg, nq_pos, nq_le0f, nq_le0t, nq_lt0t, nq_lt0f, nq_eq0f, nq_eq0t, nI_add, nI_clamp, nx_inb, nx_ck, Option.bind_some, nx_get, nx_get2, nx_dif, nx_or, bI_0, bI_01, bI_nt, bI_nf, if_true, if_false, ite_true, ite_false, not_true_eq_false, not_false_eq_true, and_true, true_and, and_false, false_and, Bool.false_eq_true, Bool.true_eq_false, reduceCtorEq]
end CJ
