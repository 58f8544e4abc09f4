/-! smelt. -/
def add_c (h : hs_H) (o z : Nat) (a b e : Int32) : hs_H := hs_put (hs_put (hs_put (hs_put (hs_put h 28 o z a) 29 o z b) 30 o z e) 5 o 3 (nI (z + 1))) 5 o 4 (h.1 5 o 4 + nI 1)
theorem sp_46 {o z : Nat} {a b e : Int32} {h : hs_H} (hz : h.1 5 o 3 = nI z) (hzb : z ≤ 10) : hf_46 o a b e h = if z < 10 then some (nI 1, add_c h o z a b e) else some (nI 0, h) := by
  by_cases h1 : z < 10
  · rw [if_pos h1]
    unfold hf_46 add_c
    simp (disch := omega) only [hz, nq_nf, nq_nt, nq_le_t, nq_le_f, nq_lt_t, nq_lt_f, nq_eq_t, nq_eq_f, nq_neg, nq_pos, nq_le0f, nq_le0t, nq_lt0t, nq_lt0f, nq_eq0f, nq_eq0t, nI_add, nI_clamp, nx_inb, nx_ck, Option.bind_some, nx_get, nx_get2, nx_dif, nx_or, bI_0, bI_01, bI_nt, bI_nf, if_true, if_false, ite_true, ite_false, not_true_eq_false, not_false_eq_true, and_true, true_and, and_false, false_and, Bool.false_eq_true, Bool.true_eq_false, reduceCtorEq]
  · rw [if_neg h1]
    unfold hf_46
    simp (disch := omega) only [hz, nq_nf, nq_nt, nq_le_t, nq_le_f, nq_lt_t, nq_lt_f, nq_eq_t, nq_eq_f, nq_neg, nq_pos, nq_le0f, nq_le0t, nq_lt0t, nq_lt0f, nq_eq0f, nq_eq0t, nI_add, nI_clamp, nx_inb, nx_ck, Option.bind_some, nx_get, nx_get2, nx_dif, nx_or, bI_0, bI_01, bI_nt, bI_nf, if_true, if_false, ite_true, ite_false, not_true_eq_false, not_false_eq_true, and_true, true_and, and_false, false_and, Bool.false_eq_true, Bool.true_eq_false, reduceCtorEq]
theorem add_c_fr {h : hs_H} {o z : Nat} {a b e : Int32} : hs_fr [(5, some o), (28, some o), (29, some o), (30, some o)] h (add_c h o z a b e) := by
  unfold add_c
  exact ((((hs_fr.rf.put (.inl (.tail _ (.head _)))).put (.inl (.tail _ (.tail _ (.head _))))).put (.inl (.tail _ (.tail _ (.tail _ (.head _)))))).put (.inl (.head _))).put (.inl (.head _))
def ext1 (f : Nat → Nat) (z v : Nat) : Nat → Nat := fun k => if k = z then v else f k
theorem add_c_S {h : hs_H} {o z a b e : Nat} {t n g : Nat → Nat} (cS : st_cS o z t n g h) : st_cS o (z + 1) (ext1 t z a) (ext1 n z b) (ext1 g z e) (add_c h o z (nI a) (nI b) (nI e)) := by
  unfold add_c ext1
  refine ⟨by simp (disch := omega) only [nq_nf, nq_nt, nq_le_t, nq_le_f, nq_lt_t, nq_lt_f, nq_eq_t, nq_eq_f, nq_neg, nq_pos, nq_le0f, nq_le0t, nq_lt0t, nq_lt0f, nq_eq0f, nq_eq0t, nI_add, nI_clamp, nx_inb, nx_ck, Option.bind_some, nx_get, nx_get2, nx_dif, nx_or, bI_0, bI_01, bI_nt, bI_nf, if_true, if_false, ite_true, ite_false, not_true_eq_false, not_false_eq_true, and_true, true_and, and_false, false_and, Bool.false_eq_true, Bool.true_eq_false, reduceCtorEq], fun k hk => ?_⟩
  by_cases h1 : k = z
  · subst h1
    refine ⟨?_, ?_, ?_⟩ <;> simp (disch := omega) only [nq_nf, nq_nt, nq_le_t, nq_le_f, nq_lt_t, nq_lt_f, nq_eq_t, nq_eq_f, nq_neg, nq_pos, nq_le0f, nq_le0t, nq_lt0t, nq_lt0f, nq_eq0f, nq_eq0t, nI_add, nI_clamp, nx_inb, nx_ck, Option.bind_some, nx_get, nx_get2, nx_dif, nx_or, bI_0, bI_01, bI_nt, bI_nf, if_true, if_false, ite_true, ite_false, not_true_eq_false, not_false_eq_true, and_true, true_and, and_false, false_and, Bool.false_eq_true, Bool.true_eq_false, reduceCtorEq]
  · obtain ⟨q1, q2, q3⟩ := cS.2 k (by omega)
    refine ⟨?_, ?_, ?_⟩
    · simp (disch := omega) only [q1, nq_nf, nq_nt, nq_le_t, nq_le_f, nq_lt_t, nq_lt_f, nq_eq_t, nq_eq_f, nq_neg, nq_pos, nq_le0f, nq_le0t, nq_lt0t, nq_lt0f, nq_eq0f, nq_eq0t, nI_add, nI_clamp, nx_inb, nx_ck, Option.bind_some, nx_get, nx_get2, nx_dif, nx_or, bI_0, bI_01, bI_nt, bI_nf, if_true, if_false, ite_true, ite_false, not_true_eq_false, not_false_eq_true, and_true, true_and, and_false, false_and, Bool.false_eq_true, Bool.true_eq_false, reduceCtorEq]
    · simp (disch := omega) only [q2, nq_nf, nq_nt, nq_le_t, nq_le_f, nq_lt_t, nq_lt_f, nq_eq_t, nq_eq_f, nq_neg, nq_pos, nq_le0f, nq_le0t, nq_lt0t, nq_lt0f, nq_eq0f, nq_eq0t, nI_add, nI_clamp, nx_inb, nx_ck, Option.bind_some, nx_get, nx_get2, nx_dif, nx_or, bI_0, bI_01, bI_nt, bI_nf, if_true, if_false, ite_true, ite_false, not_true_eq_false, not_false_eq_true, and_true, true_and, and_false, false_and, Bool.false_eq_true, Bool.true_eq_false, reduceCtorEq]
    · simp (disch := omega) only [q3, nq_nf, nq_nt, nq_le_t, nq_le_f, nq_lt_t, nq_lt_f, nq_eq_t, nq_eq_f, nq_neg, nq_pos, nq_le0f, nq_le0t, nq_lt0t, nq_lt0f, nq_eq0f, nq_eq0t, nI_add, nI_clamp, nx_inb, nx_ck, Option.bind_some, nx_get, nx_get2, nx_dif, nx_or, bI_0, bI_01, bI_nt, bI_nf, if_true, if_false, ite_true, ite_false, not_true_eq_false, not_false_eq_true, and_true, true_and, and_false, false_and, Bool.false_eq_true, Bool.true_eq_false, reduceCtorEq]
def add_m (h : hs_H) (z : Nat) (a b e : Int32) : hs_H := hs_put (hs_put (hs_put (hs_put h 44 0 (24 + 3 * z) a) 44 0 (24 + 3 * z + 1) b) 44 0 (24 + 3 * z + 2) e) 44 0 23 (nI (z + 1))
theorem add_m_at {h : hs_H} {z : Nat} {a b e : Int32} (p : Nat) (hp : p < 23 ∨ 54 ≤ p) (hz : z < 10) : (add_m h z a b e).1 44 0 p = h.1 44 0 p := by
  unfold add_m
  simp (disch := omega) only [nq_nf, nq_nt, nq_le_t, nq_le_f, nq_lt_t, nq_lt_f, nq_eq_t, nq_eq_f, nq_neg, nq_pos, nq_le0f, nq_le0t, nq_lt0t, nq_lt0f, nq_eq0f, nq_eq0t, nI_add, nI_clamp, nx_inb, nx_ck, Option.bind_some, nx_get, nx_get2, nx_dif, nx_or, bI_0, bI_01, bI_nt, bI_nf, if_true, if_false, ite_true, ite_false, not_true_eq_false, not_false_eq_true, and_true, true_and, and_false, false_and, Bool.false_eq_true, Bool.true_eq_false, reduceCtorEq]
theorem add_m_fr {h : hs_H} {z : Nat} {a b e : Int32} : hs_fr [(44, some 0)] h (add_m h z a b e) := by
  unfold add_m
  exact (((hs_fr.rf.put (.inl (.head _))).put (.inl (.head _))).put (.inl (.head _))).put (.inl (.head _))
theorem add_m_S {h : hs_H} {z a b e : Nat} {t n g : Nat → Nat} (mS : st_mS 44 0 z t n g h) : st_mS 44 0 (z + 1) (ext1 t z a) (ext1 n z b) (ext1 g z e) (add_m h z (nI a) (nI b) (nI e)) := by
  unfold add_m ext1
  refine ⟨by simp (disch := omega) only [nq_nf, nq_nt, nq_le_t, nq_le_f, nq_lt_t, nq_lt_f, nq_eq_t, nq_eq_f, nq_neg, nq_pos, nq_le0f, nq_le0t, nq_lt0t, nq_lt0f, nq_eq0f, nq_eq0t, nI_add, nI_clamp, nx_inb, nx_ck, Option.bind_some, nx_get, nx_get2, nx_dif, nx_or, bI_0, bI_01, bI_nt, bI_nf, if_true, if_false, ite_true, ite_false, not_true_eq_false, not_false_eq_true, and_true, true_and, and_false, false_and, Bool.false_eq_true, Bool.true_eq_false, reduceCtorEq], fun k hk => ?_⟩
  by_cases h1 : k = z
  · subst h1
    refine ⟨?_, ?_, ?_⟩ <;> simp (disch := omega) only [nq_nf, nq_nt, nq_le_t, nq_le_f, nq_lt_t, nq_lt_f, nq_eq_t, nq_eq_f, nq_neg, nq_pos, nq_le0f, nq_le0t, nq_lt0t, nq_lt0f, nq_eq0f, nq_eq0t, nI_add, nI_clamp, nx_inb, nx_ck, Option.bind_some, nx_get, nx_get2, nx_dif, nx_or, bI_0, bI_01, bI_nt, bI_nf, if_true, if_false, ite_true, ite_false, not_true_eq_false, not_false_eq_true, and_true, true_and, and_false, false_and, Bool.false_eq_true, Bool.true_eq_false, reduceCtorEq]
  · obtain ⟨q1, q2, q3⟩ := mS.2 k (by omega)
    refine ⟨?_, ?_, ?_⟩
    · simp (disch := omega) only [q1, nq_nf, nq_nt, nq_le_t, nq_le_f, nq_lt_t, nq_lt_f, nq_eq_t, nq_eq_f, nq_neg, nq_pos, nq_le0f, nq_le0t, nq_lt0t, nq_lt0f, nq_eq0f, nq_eq0t, nI_add, nI_clamp, nx_inb, nx_ck, Option.bind_some, nx_get, nx_get2, nx_dif, nx_or, bI_0, bI_01, bI_nt, bI_nf, if_true, if_false, ite_true, ite_false, not_true_eq_false, not_false_eq_true, and_true, true_and, and_false, false_and, Bool.false_eq_true, Bool.true_eq_false, reduceCtorEq]
    · simp (disch := omega) only [q2, nq_nf, nq_nt, nq_le_t, nq_le_f, nq_lt_t, nq_lt_f, nq_eq_t, nq_eq_f, nq_neg, nq_pos, nq_le0f, nq_le0t, nq_lt0t, nq_lt0f, nq_eq0f, nq_eq0t, nI_add, nI_clamp, nx_inb, nx_ck, Option.bind_some, nx_get, nx_get2, nx_dif, nx_or, bI_0, bI_01, bI_nt, bI_nf, if_true, if_false, ite_true, ite_false, not_true_eq_false, not_false_eq_true, and_true, true_and, and_false, false_and, Bool.false_eq_true, Bool.true_eq_false, reduceCtorEq]
    · simp (disch := omega) only [q3, nq_nf, nq_nt, nq_le_t, nq_le_f, nq_lt_t, nq_lt_f, nq_eq_t, nq_eq_f, nq_neg, nq_pos, nq_le0f, nq_le0t, nq_lt0t, nq_lt0f, nq_eq0f, nq_eq0t, nI_add, nI_clamp, nx_inb, nx_ck, Option.bind_some, nx_get, nx_get2, nx_dif, nx_or, bI_0, bI_01, bI_nt, bI_nf, if_true, if_false, ite_true, ite_false, not_true_eq_false, not_false_eq_true, and_true, true_and, and_false, false_and, Bool.false_eq_true, Bool.true_eq_false, reduceCtorEq]
theorem sp_187 {N z a b e : Nat} {h : hs_H} (hN : h.1 12 0 2 = nI N) (hN1 : 1 ≤ N) (hN2 : N ≤ 10) (hz : h.1 44 0 23 = nI z) (hzb : z ≤ 10) (ha : a ≤ 5) (hb : b < N) (he : e ≤ 18) : hf_187 (nI a) (nI b) (nI e) h = if z < 10 then some (nI (z + 1), add_m h z (nI a) (nI b) (nI e)) else some (nI 4294967293, h) := by
  have r1 : rg 0 5 (nI a) = true := (rg_of (by omega)).mpr ⟨a, by omega, ha, rfl⟩
  have r2 : rg 0 18 (nI e) = true := (rg_of (by omega)).mpr ⟨e, by omega, he, rfl⟩
  have r3 : nd N (nI b) = true := nd_nI hb (by omega)
  unfold hf_187
  rw [sp_150r (lo := 0) (hi := 5) rfl (lN_t (by omega)), r1]
  simp (disch := omega) only [nq_nf, nq_nt, nq_le_t, nq_le_f, nq_lt_t, nq_lt_f, nq_eq_t, nq_eq_f, nq_neg, nq_pos, nq_le0f, nq_le0t, nq_lt0t, nq_lt0f, nq_eq0f, nq_eq0t, nI_add, nI_clamp, nx_inb, nx_ck, Option.bind_some, nx_get, nx_get2, nx_dif, nx_or, bI_0, bI_01, bI_nt, bI_nf, if_true, if_false, ite_true, ite_false, not_true_eq_false, not_false_eq_true, and_true, true_and, and_false, false_and, Bool.false_eq_true, Bool.true_eq_false, reduceCtorEq]
  rw [sp_171 hN hN1 (by omega), r3]
  simp (disch := omega) only [nq_nf, nq_nt, nq_le_t, nq_le_f, nq_lt_t, nq_lt_f, nq_eq_t, nq_eq_f, nq_neg, nq_pos, nq_le0f, nq_le0t, nq_lt0t, nq_lt0f, nq_eq0f, nq_eq0t, nI_add, nI_clamp, nx_inb, nx_ck, Option.bind_some, nx_get, nx_get2, nx_dif, nx_or, bI_0, bI_01, bI_nt, bI_nf, if_true, if_false, ite_true, ite_false, not_true_eq_false, not_false_eq_true, and_true, true_and, and_false, false_and, Bool.false_eq_true, Bool.true_eq_false, reduceCtorEq]
  rw [sp_150r (lo := 0) (hi := 18) rfl (lN_t (by omega)), r2]
  by_cases h1 : z < 10
  · rw [if_pos h1]
    unfold add_m
    simp (disch := omega) only [hz, pk_mul, nq_nf, nq_nt, nq_le_t, nq_le_f, nq_lt_t, nq_lt_f, nq_eq_t, nq_eq_f, nq_neg, nq_pos, nq_le0f, nq_le0t, nq_lt0t, nq_lt0f, nq_eq0f, nq_eq0t, nI_add, nI_clamp, nx_inb, nx_ck, Option.bind_some, nx_get, nx_get2, nx_dif, nx_or, bI_0, bI_01, bI_nt, bI_nf, if_true, if_false, ite_true, ite_false, not_true_eq_false, not_false_eq_true, and_true, true_and, and_false, false_and, Bool.false_eq_true, Bool.true_eq_false, reduceCtorEq]
  · rw [if_neg h1]
    simp (disch := omega) only [hz, nq_nf, nq_nt, nq_le_t, nq_le_f, nq_lt_t, nq_lt_f, nq_eq_t, nq_eq_f, nq_neg, nq_pos, nq_le0f, nq_le0t, nq_lt0t, nq_lt0f, nq_eq0f, nq_eq0t, nI_add, nI_clamp, nx_inb, nx_ck, Option.bind_some, nx_get, nx_get2, nx_dif, nx_or, bI_0, bI_01, bI_nt, bI_nf, if_true, if_false, ite_true, ite_false, not_true_eq_false, not_false_eq_true, and_true, true_and, and_false, false_and, Bool.false_eq_true, Bool.true_eq_false, reduceCtorEq]
/-- what smelt() asks of its numbers -/
def sm_ok (N : Nat) (a b e : Int32) : Bool := rg 0 5 a && nd N b && rg 0 18 e
theorem sp_187b {N : Nat} {a b e : Int32} {h : hs_H} (hN : h.1 12 0 2 = nI N) (hN1 : 1 ≤ N) (hN2 : N ≤ 10) (hok : sm_ok N a b e = false) : hf_187 a b e h = some (nI 4294967295, h) := by
  unfold hf_187 hb_187_32
  unfold sm_ok at hok
  rw [sp_150r (lo := 0) (hi := 5) rfl (lN_t (by omega))]
  cases r1 : rg 0 5 a with
  | false => simp (disch := omega) only [nq_nf, nq_nt, nq_le_t, nq_le_f, nq_lt_t, nq_lt_f, nq_eq_t, nq_eq_f, nq_neg, nq_pos, nq_le0f, nq_le0t, nq_lt0t, nq_lt0f, nq_eq0f, nq_eq0t, nI_add, nI_clamp, nx_inb, nx_ck, Option.bind_some, nx_get, nx_get2, nx_dif, nx_or, bI_0, bI_01, bI_nt, bI_nf, if_true, if_false, ite_true, ite_false, not_true_eq_false, not_false_eq_true, and_true, true_and, and_false, false_and, Bool.false_eq_true, Bool.true_eq_false, reduceCtorEq]
  | true =>
    rw [r1] at hok
    simp (disch := omega) only [nq_nf, nq_nt, nq_le_t, nq_le_f, nq_lt_t, nq_lt_f, nq_eq_t, nq_eq_f, nq_neg, nq_pos, nq_le0f, nq_le0t, nq_lt0t, nq_lt0f, nq_eq0f, nq_eq0t, nI_add, nI_clamp, nx_inb, nx_ck, Option.bind_some, nx_get, nx_get2, nx_dif, nx_or, bI_0, bI_01, bI_nt, bI_nf, if_true, if_false, ite_true, ite_false, not_true_eq_false, not_false_eq_true, and_true, true_and, and_false, false_and, Bool.false_eq_true, Bool.true_eq_false, reduceCtorEq]
    rw [sp_171 hN hN1 (by omega)]
    cases r3 : nd N b with
    | false => simp (disch := omega) only [nq_nf, nq_nt, nq_le_t, nq_le_f, nq_lt_t, nq_lt_f, nq_eq_t, nq_eq_f, nq_neg, nq_pos, nq_le0f, nq_le0t, nq_lt0t, nq_lt0f, nq_eq0f, nq_eq0t, nI_add, nI_clamp, nx_inb, nx_ck, Option.bind_some, nx_get, nx_get2, nx_dif, nx_or, bI_0, bI_01, bI_nt, bI_nf, if_true, if_false, ite_true, ite_false, not_true_eq_false, not_false_eq_true, and_true, true_and, and_false, false_and, Bool.false_eq_true, Bool.true_eq_false, reduceCtorEq]
    | true =>
      rw [r3] at hok
      simp (disch := omega) only [nq_nf, nq_nt, nq_le_t, nq_le_f, nq_lt_t, nq_lt_f, nq_eq_t, nq_eq_f, nq_neg, nq_pos, nq_le0f, nq_le0t, nq_lt0t, nq_lt0f, nq_eq0f, nq_eq0t, nI_add, nI_clamp, nx_inb, nx_ck, Option.bind_some, nx_get, nx_get2, nx_dif, nx_or, bI_0, bI_01, bI_nt, bI_nf, if_true, if_false, ite_true, ite_false, not_true_eq_false, not_false_eq_true, and_true, true_and, and_false, false_and, Bool.false_eq_true, Bool.true_eq_false, reduceCtorEq]
      rw [sp_150r (lo := 0) (hi := 18) rfl (lN_t (by omega))]
      cases r2 : rg 0 18 e with
      | false => simp (disch := omega) only [nq_nf, nq_nt, nq_le_t, nq_le_f, nq_lt_t, nq_lt_f, nq_eq_t, nq_eq_f, nq_neg, nq_pos, nq_le0f, nq_le0t, nq_lt0t, nq_lt0f, nq_eq0f, nq_eq0t, nI_add, nI_clamp, nx_inb, nx_ck, Option.bind_some, nx_get, nx_get2, nx_dif, nx_or, bI_0, bI_01, bI_nt, bI_nf, if_true, if_false, ite_true, ite_false, not_true_eq_false, not_false_eq_true, and_true, true_and, and_false, false_and, Bool.false_eq_true, Bool.true_eq_false, reduceCtorEq]
      | true => rw [r2] at hok; cases hok
theorem sp_118 {N z a b e : Nat} {h : hs_H} (hN : h.1 4 0 1 = nI N) (hN2 : N ≤ 10) (hz : h.1 5 0 3 = nI z) (hzb : z ≤ 10) (ha : a ≤ 5) (hb : b < N) (he : e ≤ 18) : hf_118 (nI a) (nI b) (nI e) h = if z < 10 then some (nI (z + 1), add_c h 0 z (nI a) (nI b) (nI e)) else some (nI 4294967293, h) := by
  unfold hf_118
  have r3 : nd N (nI b) = true := nd_nI hb (by omega)
  simp (disch := omega) only [nq_nf, nq_nt, nq_le_t, nq_le_f, nq_lt_t, nq_lt_f, nq_eq_t, nq_eq_f, nq_neg, nq_pos, nq_le0f, nq_le0t, nq_lt0t, nq_lt0f, nq_eq0f, nq_eq0t, nI_add, nI_clamp, nx_inb, nx_ck, Option.bind_some, nx_get, nx_get2, nx_dif, nx_or, bI_0, bI_01, bI_nt, bI_nf, if_true, if_false, ite_true, ite_false, not_true_eq_false, not_false_eq_true, and_true, true_and, and_false, false_and, Bool.false_eq_true, Bool.true_eq_false, reduceCtorEq]
  rw [sp_29 hN (by omega), r3]
  simp (disch := omega) only [nq_nf, nq_nt, nq_le_t, nq_le_f, nq_lt_t, nq_lt_f, nq_eq_t, nq_eq_f, nq_neg, nq_pos, nq_le0f, nq_le0t, nq_lt0t, nq_lt0f, nq_eq0f, nq_eq0t, nI_add, nI_clamp, nx_inb, nx_ck, Option.bind_some, nx_get, nx_get2, nx_dif, nx_or, bI_0, bI_01, bI_nt, bI_nf, if_true, if_false, ite_true, ite_false, not_true_eq_false, not_false_eq_true, and_true, true_and, and_false, false_and, Bool.false_eq_true, Bool.true_eq_false, reduceCtorEq]
  rw [sp_46 hz hzb]
  unfold hb_118_57
  by_cases h1 : z < 10
  · rw [if_pos h1, if_pos h1]
    have e1 : (add_c h 0 z (nI a) (nI b) (nI e)).1 5 0 3 = nI (z + 1) := by unfold add_c; simp (disch := omega) only [nq_nf, nq_nt, nq_le_t, nq_le_f, nq_lt_t, nq_lt_f, nq_eq_t, nq_eq_f, nq_neg, nq_pos, nq_le0f, nq_le0t, nq_lt0t, nq_lt0f, nq_eq0f, nq_eq0t, nI_add, nI_clamp, nx_inb, nx_ck, Option.bind_some, nx_get, nx_get2, nx_dif, nx_or, bI_0, bI_01, bI_nt, bI_nf, if_true, if_false, ite_true, ite_false, not_true_eq_false, not_false_eq_true, and_true, true_and, and_false, false_and, Bool.false_eq_true, Bool.true_eq_false, reduceCtorEq]
    simp (disch := omega) only [e1, nq_nf, nq_nt, nq_le_t, nq_le_f, nq_lt_t, nq_lt_f, nq_eq_t, nq_eq_f, nq_neg, nq_pos, nq_le0f, nq_le0t, nq_lt0t, nq_lt0f, nq_eq0f, nq_eq0t, nI_add, nI_clamp, nx_inb, nx_ck, Option.bind_some, nx_get, nx_get2, nx_dif, nx_or, bI_0, bI_01, bI_nt, bI_nf, if_true, if_false, ite_true, ite_false, not_true_eq_false, not_false_eq_true, and_true, true_and, and_false, false_and, Bool.false_eq_true, Bool.true_eq_false, reduceCtorEq]
  · rw [if_neg h1, if_neg h1]
    simp (disch := omega) only [nq_nf, nq_nt, nq_le_t, nq_le_f, nq_lt_t, nq_lt_f, nq_eq_t, nq_eq_f, nq_neg, nq_pos, nq_le0f, nq_le0t, nq_lt0t, nq_lt0f, nq_eq0f, nq_eq0t, nI_add, nI_clamp, nx_inb, nx_ck, Option.bind_some, nx_get, nx_get2, nx_dif, nx_or, bI_0, bI_01, bI_nt, bI_nf, if_true, if_false, ite_true, ite_false, not_true_eq_false, not_false_eq_true, and_true, true_and, and_false, false_and, Bool.false_eq_true, Bool.true_eq_false, reduceCtorEq]
theorem sp_118b {N : Nat} {a b e : Int32} {h : hs_H} (hN : h.1 4 0 1 = nI N) (hN2 : N ≤ 10) (hok : sm_ok N a b e = false) : hf_118 a b e h = some (nI 4294967295, h) := by
  unfold hf_118 hb_118_30
  unfold sm_ok at hok
  cases r1 : rg 0 5 a with
  | false =>
    rcases rg_f (by omega) r1 with q | ⟨q1, q2⟩
    · rw [if_pos q]
    · rw [if_neg q1, if_pos (Int32.not_le.mp q2)]
  | true =>
    rw [r1] at hok
    obtain ⟨i, -, hi, rfl⟩ := (rg_of (by omega)).mp r1
    simp (disch := omega) only [nq_nf, nq_nt, nq_le_t, nq_le_f, nq_lt_t, nq_lt_f, nq_eq_t, nq_eq_f, nq_neg, nq_pos, nq_le0f, nq_le0t, nq_lt0t, nq_lt0f, nq_eq0f, nq_eq0t, nI_add, nI_clamp, nx_inb, nx_ck, Option.bind_some, nx_get, nx_get2, nx_dif, nx_or, bI_0, bI_01, bI_nt, bI_nf, if_true, if_false, ite_true, ite_false, not_true_eq_false, not_false_eq_true, and_true, true_and, and_false, false_and, Bool.false_eq_true, Bool.true_eq_false, reduceCtorEq]
    rw [sp_29 hN (by omega)]
    cases r3 : nd N b with
    | false => simp (disch := omega) only [nq_nf, nq_nt, nq_le_t, nq_le_f, nq_lt_t, nq_lt_f, nq_eq_t, nq_eq_f, nq_neg, nq_pos, nq_le0f, nq_le0t, nq_lt0t, nq_lt0f, nq_eq0f, nq_eq0t, nI_add, nI_clamp, nx_inb, nx_ck, Option.bind_some, nx_get, nx_get2, nx_dif, nx_or, bI_0, bI_01, bI_nt, bI_nf, if_true, if_false, ite_true, ite_false, not_true_eq_false, not_false_eq_true, and_true, true_and, and_false, false_and, Bool.false_eq_true, Bool.true_eq_false, reduceCtorEq]
    | true =>
      rw [r3] at hok
      simp (disch := omega) only [nq_nf, nq_nt, nq_le_t, nq_le_f, nq_lt_t, nq_lt_f, nq_eq_t, nq_eq_f, nq_neg, nq_pos, nq_le0f, nq_le0t, nq_lt0t, nq_lt0f, nq_eq0f, nq_eq0t, nI_add, nI_clamp, nx_inb, nx_ck, Option.bind_some, nx_get, nx_get2, nx_dif, nx_or, bI_0, bI_01, bI_nt, bI_nf, if_true, if_false, ite_true, ite_false, not_true_eq_false, not_false_eq_true, and_true, true_and, and_false, false_and, Bool.false_eq_true, Bool.true_eq_false, reduceCtorEq]
      cases r2 : rg 0 18 e with
      | false =>
        rcases rg_f (by omega) r2 with q | ⟨q1, q2⟩
        · rw [if_pos q]
        · rw [if_neg q1, if_neg q2]
      | true => rw [r2] at hok; cases hok
section CSm
variable {VC : Nat → (Nat → Nat) → Nat → Int32 → Int32 → hs_H → Prop} {VH : Nat → (Nat → Nat) → Nat → hs_H → Prop} {VW : st_VW}
/-- smelt of good numbers: what it answers, the invariant behind it -/
theorem smelt_all (V : st_V VC VH VW) {b N re W Ho : Nat} {J : Nat → Nat} {st pl mv : Int32} {s : Nat → Nat} {z : Nat} {t n g : Nat → Nat} {c d : Nat} {h : hs_H} {i j e : Nat} (hcd : c ≤ b ∧ d ≤ b) (co : st_core 0 0 N re W Ho J st pl mv s z t n g h) (mN : st_mN N re W Ho h) (im : st_imgs N re W Ho h) (ca : st_cache VC VH VW c d N J re st W z t n g h) (rs : st_rest h) (hz : z < 10) (hi : i ≤ 5) (hj : j < N) (he : e ≤ 18) :
    st_core 0 0 N re W Ho J st pl mv s (z + 1) (ext1 t z i) (ext1 n z j) (ext1 g z e) (add_m (add_c h 0 z (nI i) (nI j) (nI e)) z (nI i) (nI j) (nI e)) ∧ st_mN N re W Ho (add_m (add_c h 0 z (nI i) (nI j) (nI e)) z (nI i) (nI j) (nI e)) ∧ st_imgs N re W Ho (add_m (add_c h 0 z (nI i) (nI j) (nI e)) z (nI i) (nI j) (nI e)) ∧ st_cache VC VH VW c (d + 1) N J re st W (z + 1) (ext1 t z i) (ext1 n z j) (ext1 g z e) (add_m (add_c h 0 z (nI i) (nI j) (nI e)) z (nI i) (nI j) (nI e)) ∧ st_rest (add_m (add_c h 0 z (nI i) (nI j) (nI e)) z (nI i) (nI j) (nI e)) := by
  obtain ⟨⟨okN, okF, okS⟩, ⟨cN, cF, cS⟩, mJ, mF, mS⟩ := co
  obtain ⟨⟨ca1, ca2⟩, ca3, ca4, ca5⟩ := ca
  have fc := add_c_fr (h := h) (o := 0) (z := z) (a := nI i) (b := nI j) (e := nI e)
  have fm := add_m_fr (h := add_c h 0 z (nI i) (nI j) (nI e)) (z := z) (a := nI i) (b := nI j) (e := nI e)
  have e44c : ∀ p, (add_c h 0 z (nI i) (nI j) (nI e)).1 44 0 p = h.1 44 0 p := fun p => by unfold add_c; simp (disch := omega) only [nq_nf, nq_nt, nq_le_t, nq_le_f, nq_lt_t, nq_lt_f, nq_eq_t, nq_eq_f, nq_neg, nq_pos, nq_le0f, nq_le0t, nq_lt0t, nq_lt0f, nq_eq0f, nq_eq0t, nI_add, nI_clamp, nx_inb, nx_ck, Option.bind_some, nx_get, nx_get2, nx_dif, nx_or, bI_0, bI_01, bI_nt, bI_nf, if_true, if_false, ite_true, ite_false, not_true_eq_false, not_false_eq_true, and_true, true_and, and_false, false_and, Bool.false_eq_true, Bool.true_eq_false, reduceCtorEq]
  have e44 : ∀ p, p < 23 ∨ 54 ≤ p → (add_m (add_c h 0 z (nI i) (nI j) (nI e)) z (nI i) (nI j) (nI e)).1 44 0 p = h.1 44 0 p := fun p hp => by rw [add_m_at p hp hz, e44c]
  have f : hs_fr [(5, some 0), (28, some 0), (29, some 0), (30, some 0), (44, some 0)] h (add_m (add_c h 0 z (nI i) (nI j) (nI e)) z (nI i) (nI j) (nI e)) := (fc.sub (hs_sub_cons (.inl (.head _)) (hs_sub_cons (.inl (.tail _ (.head _))) (hs_sub_cons (.inl (.tail _ (.tail _ (.head _)))) (hs_sub_cons (.inl (.tail _ (.tail _ (.tail _ (.head _))))) hs_sub_nil))))).tr (fm.sub (hs_sub_cons (.inl (.tail _ (.tail _ (.tail _ (.tail _ (.head _)))))) hs_sub_nil))
  have mSc : st_mS 44 0 z t n g (add_c h 0 z (nI i) (nI j) (nI e)) := st_mS_kp okS.1 (fun p _ _ => e44c p) mS
  refine ⟨⟨⟨okN, okF, by omega, fun k hk => ?_⟩, ⟨st_cN_dep.fr f rfl cN, st_cF_dep.fr f rfl cF, st_cS_dep.fr fm rfl (add_c_S cS)⟩, ⟨fun k hk => by rw [e44 _ (by omega)]; exact mJ.1 k hk, by rw [e44 _ (by omega)]; exact mJ.2⟩, ⟨by rw [e44 _ (by omega)]; exact mF.1, by rw [e44 _ (by omega)]; exact mF.2.1, fun k hk => by rw [e44 _ (by omega)]; exact mF.2.2 k hk⟩, add_m_S mSc⟩, st_mN_dep.fr f rfl mN, st_imgs_fr f rfl (fun p hp => e44 p (by omega)) im, ⟨⟨?_, ?_⟩, (st_cas_dep V).fr f rfl ca3, (st_cha_dep V).fr f rfl ca4, st_way_new (Nat.le_refl _) (by omega) (Or.inr (by omega)) ((st_way_dep V).fr f rfl ca5)⟩, st_rest_dep.fr f rfl rs⟩
  · unfold ext1
    by_cases h1 : k = z
    · rw [if_pos h1, if_pos h1, if_pos h1]; exact ⟨hi, hj, he⟩
    · rw [if_neg h1, if_neg h1, if_neg h1]; exact okS.2 k (by omega)
  · unfold add_m add_c
    simp (disch := omega) only [ca1, nq_nf, nq_nt, nq_le_t, nq_le_f, nq_lt_t, nq_lt_f, nq_eq_t, nq_eq_f, nq_neg, nq_pos, nq_le0f, nq_le0t, nq_lt0t, nq_lt0f, nq_eq0f, nq_eq0t, nI_add, nI_clamp, nx_inb, nx_ck, Option.bind_some, nx_get, nx_get2, nx_dif, nx_or, bI_0, bI_01, bI_nt, bI_nf, if_true, if_false, ite_true, ite_false, not_true_eq_false, not_false_eq_true, and_true, true_and, and_false, false_and, Bool.false_eq_true, Bool.true_eq_false, reduceCtorEq]
  · unfold add_m add_c
    simp (disch := omega) only [ca2, nq_nf, nq_nt, nq_le_t, nq_le_f, nq_lt_t, nq_lt_f, nq_eq_t, nq_eq_f, nq_neg, nq_pos, nq_le0f, nq_le0t, nq_lt0t, nq_lt0f, nq_eq0f, nq_eq0t, nI_add, nI_clamp, nx_inb, nx_ck, Option.bind_some, nx_get, nx_get2, nx_dif, nx_or, bI_0, bI_01, bI_nt, bI_nf, if_true, if_false, ite_true, ite_false, not_true_eq_false, not_false_eq_true, and_true, true_and, and_false, false_and, Bool.false_eq_true, Bool.true_eq_false, reduceCtorEq]
theorem cl_smelt (V : st_V VC VH VW) {a e1 e2 : Int32} : st_call VC VH VW (hf_118 a e1 e2) (hf_187 a e1 e2) := by
  intro b h hb p
  have p0 := p
  obtain ⟨N, re, W, Ho, J, st, pl, mv, s, z, t, n, g, c, d, ⟨hc, hd⟩, ⟨⟨okN, okF, okS⟩, ⟨cN, cF, cS⟩, mJ, mF, mS⟩, mN, im, ca, rs⟩ := p
  obtain ⟨⟨hN1, hN2⟩, hre, hst, ⟨hW, hHo⟩, hJ, hJ0, hJs, hJa⟩ := id okN
  obtain ⟨cN1, cN2, cN3, cN4, cN5, cJ⟩ := id cN
  obtain ⟨mN1, mN2, mN3, mN4⟩ := id mN
  obtain ⟨mJ1, mJ2⟩ := st_mJ0 mJ
  obtain ⟨mF1, mF2, mF3⟩ := st_mF0 mF
  obtain ⟨mS1, mS2⟩ := st_mS0 mS
  obtain ⟨cF1, cF2, cF3⟩ := id cF
  obtain ⟨cS1, cS2⟩ := id cS
  have hp := p2_lt hN2
  have hz := okS.1
  cases hok : sm_ok N a e1 e2 with
  | false => exact ⟨nI 4294967295, h, h, sp_118b cN1 hN2 hok, sp_187b mN1 (by omega) hN2 hok, p0.up VC VH VW (by omega)⟩
  | true =>
    unfold sm_ok at hok
    rw [Bool.and_eq_true, Bool.and_eq_true] at hok
    obtain ⟨i, -, hi, rfl⟩ := (rg_of (by omega)).mp hok.1.1
    obtain ⟨j, hj, rfl⟩ := (nd_of (by omega)).mp hok.1.2
    obtain ⟨q, -, hq, rfl⟩ := (rg_of (by omega)).mp hok.2
    have s1 := sp_118 cN1 hN2 cS1 hz hi hj hq
    by_cases hz10 : z < 10
    · rw [if_pos hz10] at s1
      have s2 := sp_187 (N := N) (z := z) (a := i) (b := j) (e := q) (h := add_c h 0 z (nI i) (nI j) (nI q)) (by unfold add_c; simp (disch := omega) only [mN1, nq_nf, nq_nt, nq_le_t, nq_le_f, nq_lt_t, nq_lt_f, nq_eq_t, nq_eq_f, nq_neg, nq_pos, nq_le0f, nq_le0t, nq_lt0t, nq_lt0f, nq_eq0f, nq_eq0t, nI_add, nI_clamp, nx_inb, nx_ck, Option.bind_some, nx_get, nx_get2, nx_dif, nx_or, bI_0, bI_01, bI_nt, bI_nf, if_true, if_false, ite_true, ite_false, not_true_eq_false, not_false_eq_true, and_true, true_and, and_false, false_and, Bool.false_eq_true, Bool.true_eq_false, reduceCtorEq]) (by omega) hN2 (by unfold add_c; simp (disch := omega) only [mS1, nq_nf, nq_nt, nq_le_t, nq_le_f, nq_lt_t, nq_lt_f, nq_eq_t, nq_eq_f, nq_neg, nq_pos, nq_le0f, nq_le0t, nq_lt0t, nq_lt0f, nq_eq0f, nq_eq0t, nI_add, nI_clamp, nx_inb, nx_ck, Option.bind_some, nx_get, nx_get2, nx_dif, nx_or, bI_0, bI_01, bI_nt, bI_nf, if_true, if_false, ite_true, ite_false, not_true_eq_false, not_false_eq_true, and_true, true_and, and_false, false_and, Bool.false_eq_true, Bool.true_eq_false, reduceCtorEq]) hz hi hj hq
      rw [if_pos hz10] at s2
      obtain ⟨r1, r2, r3, r4, r5⟩ := smelt_all V ⟨hc, hd⟩ ⟨⟨okN, okF, okS⟩, ⟨cN, cF, cS⟩, mJ, mF, mS⟩ mN im ca rs hz10 hi hj hq
      exact ⟨nI (z + 1), _, _, s1, s2, N, re, W, Ho, J, st, pl, mv, s, z + 1, _, _, _, c, d + 1, ⟨by omega, by omega⟩, r1, r2, r3, r4, r5⟩
    · rw [if_neg hz10] at s1
      have s2 := sp_187 (N := N) (z := z) (a := i) (b := j) (e := q) (h := h) mN1 (by omega) hN2 mS1 hz hi hj hq
      rw [if_neg hz10] at s2
      exact ⟨nI 4294967293, h, h, s1, s2, p0.up VC VH VW (by omega)⟩
end CSm
