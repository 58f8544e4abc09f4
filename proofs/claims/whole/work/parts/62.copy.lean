/-! Nets, trails, notes copied; the model's row copied. -/
theorem nl_t {a b : Nat} (h : a < b) : (a < b) = True := eq_true h
theorem nl_f {a b : Nat} (h : ¬ a < b) : (a < b) = False := eq_false h
def cpN (h : hs_H) (o p : Nat) : hs_H := hs_put (hs_put (hs_put (hs_put (hs_put (hs_put (hs_row h 27 o 10 (fun k => h.1 27 p k)) 4 o 1 (h.1 4 p 1)) 4 o 2 (h.1 4 p 2)) 4 o 3 (h.1 4 p 3)) 4 o 4 (h.1 4 p 4)) 4 o 5 (h.1 4 p 5)) 4 o 6 (h.1 4 o 6 + nI 1)
theorem sp_28 {o p : Nat} {h : hs_H} (hop : o ≠ p) : hf_28_4 o p h = some (cpN h o p) := by
  unfold hf_28_4
  have hl := lp_for (f := fun k s => hb_28_4_2 o p k s.1 s.2) (st := fun j => (nI j, hs_row h 27 o j (fun k => h.1 27 p k))) (e := 10) (X := some (cpN h o p)) (fun j hj q => by
    show hb_28_4_2 o p q (nI j) (hs_row h 27 o j (fun k => h.1 27 p k)) = _
    unfold hb_28_4_2
    have e1 : (hs_row h 27 o j (fun k => h.1 27 p k)).1 27 p j = h.1 27 p j := by rw [nx_rowget, if_neg (by omega)]
    simp (disch := omega) only [e1, hs_rowS h 27 o j (fun k => h.1 27 p k), nq_nf, nq_nt, nq_le_t, nq_le_f, nq_lt_t, nq_lt_f, nq_eq_t, nq_eq_f, nq_neg, nq_pos, nq_le0f, nq_le0t, nq_lt0t, nq_lt0f, nq_eq0f, nq_eq0t, nI_add, nI_clamp, nx_inb, nx_ck, Option.bind_some, nx_get, nx_get2, nx_dif, nx_or, bI_0, bI_01, bI_nt, bI_nf, if_true, if_false, ite_true, ite_false, not_true_eq_false, not_false_eq_true, and_true, true_and, and_false, false_and, Bool.false_eq_true, Bool.true_eq_false, reduceCtorEq]) (fun q => by
    show hb_28_4_2 o p q (nI 10) (hs_row h 27 o 10 (fun k => h.1 27 p k)) = _
    unfold hb_28_4_2 cpN
    simp (disch := omega) only [nx_rowget, nq_nf, nq_nt, nq_le_t, nq_le_f, nq_lt_t, nq_lt_f, nq_eq_t, nq_eq_f, nq_neg, nq_pos, nq_le0f, nq_le0t, nq_lt0t, nq_lt0f, nq_eq0f, nq_eq0t, nI_add, nI_clamp, nx_inb, nx_ck, Option.bind_some, nx_get, nx_get2, nx_dif, nx_or, bI_0, bI_01, bI_nt, bI_nf, if_true, if_false, ite_true, ite_false, not_true_eq_false, not_false_eq_true, and_true, true_and, and_false, false_and, Bool.false_eq_true, Bool.true_eq_false, reduceCtorEq]) 0 hs_big (by omega) (lp_big (by omega))
  rw [hs_row0] at hl
  exact hl
theorem cpN_fr {h : hs_H} {o p : Nat} : hs_fr [(4, some o), (27, some o)] h (cpN h o p) := by
  unfold cpN
  exact ((((((hs_row_fr (.inl (.tail _ (.head _)))).put (.inl (.head _))).put (.inl (.head _))).put (.inl (.head _))).put (.inl (.head _))).put (.inl (.head _))).put (.inl (.head _))
theorem cpN_N {o p N : Nat} {J : Nat → Nat} {re : Nat} {st : Int32} {W Ho : Nat} {h : hs_H} (q : st_cN p N J re st W Ho h) : st_cN o N J re st W Ho (cpN h o p) := by
  obtain ⟨q1, q2, q3, q4, q5, q6⟩ := q
  unfold cpN
  refine ⟨?_, ?_, ?_, ?_, ?_, fun k hk => ?_⟩
  · simp (disch := omega) only [q1, nq_nf, nq_nt, nq_le_t, nq_le_f, nq_lt_t, nq_lt_f, nq_eq_t, nq_eq_f, nq_neg, nq_pos, nq_le0f, nq_le0t, nq_lt0t, nq_lt0f, nq_eq0f, nq_eq0t, nI_add, nI_clamp, nx_inb, nx_ck, Option.bind_some, nx_get, nx_get2, nx_dif, nx_or, bI_0, bI_01, bI_nt, bI_nf, if_true, if_false, ite_true, ite_false, not_true_eq_false, not_false_eq_true, and_true, true_and, and_false, false_and, Bool.false_eq_true, Bool.true_eq_false, reduceCtorEq]
  · simp (disch := omega) only [q2, nq_nf, nq_nt, nq_le_t, nq_le_f, nq_lt_t, nq_lt_f, nq_eq_t, nq_eq_f, nq_neg, nq_pos, nq_le0f, nq_le0t, nq_lt0t, nq_lt0f, nq_eq0f, nq_eq0t, nI_add, nI_clamp, nx_inb, nx_ck, Option.bind_some, nx_get, nx_get2, nx_dif, nx_or, bI_0, bI_01, bI_nt, bI_nf, if_true, if_false, ite_true, ite_false, not_true_eq_false, not_false_eq_true, and_true, true_and, and_false, false_and, Bool.false_eq_true, Bool.true_eq_false, reduceCtorEq]
  · simp (disch := omega) only [q3, nq_nf, nq_nt, nq_le_t, nq_le_f, nq_lt_t, nq_lt_f, nq_eq_t, nq_eq_f, nq_neg, nq_pos, nq_le0f, nq_le0t, nq_lt0t, nq_lt0f, nq_eq0f, nq_eq0t, nI_add, nI_clamp, nx_inb, nx_ck, Option.bind_some, nx_get, nx_get2, nx_dif, nx_or, bI_0, bI_01, bI_nt, bI_nf, if_true, if_false, ite_true, ite_false, not_true_eq_false, not_false_eq_true, and_true, true_and, and_false, false_and, Bool.false_eq_true, Bool.true_eq_false, reduceCtorEq]
  · simp (disch := omega) only [q4, nq_nf, nq_nt, nq_le_t, nq_le_f, nq_lt_t, nq_lt_f, nq_eq_t, nq_eq_f, nq_neg, nq_pos, nq_le0f, nq_le0t, nq_lt0t, nq_lt0f, nq_eq0f, nq_eq0t, nI_add, nI_clamp, nx_inb, nx_ck, Option.bind_some, nx_get, nx_get2, nx_dif, nx_or, bI_0, bI_01, bI_nt, bI_nf, if_true, if_false, ite_true, ite_false, not_true_eq_false, not_false_eq_true, and_true, true_and, and_false, false_and, Bool.false_eq_true, Bool.true_eq_false, reduceCtorEq]
  · simp (disch := omega) only [q5, nq_nf, nq_nt, nq_le_t, nq_le_f, nq_lt_t, nq_lt_f, nq_eq_t, nq_eq_f, nq_neg, nq_pos, nq_le0f, nq_le0t, nq_lt0t, nq_lt0f, nq_eq0f, nq_eq0t, nI_add, nI_clamp, nx_inb, nx_ck, Option.bind_some, nx_get, nx_get2, nx_dif, nx_or, bI_0, bI_01, bI_nt, bI_nf, if_true, if_false, ite_true, ite_false, not_true_eq_false, not_false_eq_true, and_true, true_and, and_false, false_and, Bool.false_eq_true, Bool.true_eq_false, reduceCtorEq]
  · simp (disch := omega) only [nq_nf, nq_nt, nq_le_t, nq_le_f, nq_lt_t, nq_lt_f, nq_eq_t, nq_eq_f, nq_neg, nq_pos, nq_le0f, nq_le0t, nq_lt0t, nq_lt0f, nq_eq0f, nq_eq0t, nI_add, nI_clamp, nx_inb, nx_ck, Option.bind_some, nx_get, nx_get2, nx_dif, nx_or, bI_0, bI_01, bI_nt, bI_nf, if_true, if_false, ite_true, ite_false, not_true_eq_false, not_false_eq_true, and_true, true_and, and_false, false_and, Bool.false_eq_true, Bool.true_eq_false, reduceCtorEq]
    rw [nx_rowget, if_pos ⟨rfl, rfl, hk⟩, q6 k hk]
theorem cpN_6 {h : hs_H} {o p : Nat} : (cpN h o p).1 4 o 6 = h.1 4 o 6 + nI 1 := by
  unfold cpN
  simp (disch := omega) only [nq_nf, nq_nt, nq_le_t, nq_le_f, nq_lt_t, nq_lt_f, nq_eq_t, nq_eq_f, nq_neg, nq_pos, nq_le0f, nq_le0t, nq_lt0t, nq_lt0f, nq_eq0f, nq_eq0t, nI_add, nI_clamp, nx_inb, nx_ck, Option.bind_some, nx_get, nx_get2, nx_dif, nx_or, bI_0, bI_01, bI_nt, bI_nf, if_true, if_false, ite_true, ite_false, not_true_eq_false, not_false_eq_true, and_true, true_and, and_false, false_and, Bool.false_eq_true, Bool.true_eq_false, reduceCtorEq]
def cpF (h : hs_H) (o p : Nat) : hs_H := hs_put (hs_put (hs_row h 33 o 10 (fun k => h.1 33 p k)) 9 o 1 (h.1 9 p 1)) 9 o 2 (h.1 9 p 2)
theorem sp_88 {o p : Nat} {h : hs_H} (hop : o ≠ p) : hf_88_9 o p h = some (cpF h o p) := by
  unfold hf_88_9
  have hl := lp_for (f := fun k s => hb_88_9_2 o p k s.1 s.2) (st := fun j => (nI j, hs_row h 33 o j (fun k => h.1 33 p k))) (e := 10) (X := some (cpF h o p)) (fun j hj q => by
    show hb_88_9_2 o p q (nI j) (hs_row h 33 o j (fun k => h.1 33 p k)) = _
    unfold hb_88_9_2
    have e1 : (hs_row h 33 o j (fun k => h.1 33 p k)).1 33 p j = h.1 33 p j := by rw [nx_rowget, if_neg (by omega)]
    simp (disch := omega) only [e1, hs_rowS h 33 o j (fun k => h.1 33 p k), nq_nf, nq_nt, nq_le_t, nq_le_f, nq_lt_t, nq_lt_f, nq_eq_t, nq_eq_f, nq_neg, nq_pos, nq_le0f, nq_le0t, nq_lt0t, nq_lt0f, nq_eq0f, nq_eq0t, nI_add, nI_clamp, nx_inb, nx_ck, Option.bind_some, nx_get, nx_get2, nx_dif, nx_or, bI_0, bI_01, bI_nt, bI_nf, if_true, if_false, ite_true, ite_false, not_true_eq_false, not_false_eq_true, and_true, true_and, and_false, false_and, Bool.false_eq_true, Bool.true_eq_false, reduceCtorEq]) (fun q => by
    show hb_88_9_2 o p q (nI 10) (hs_row h 33 o 10 (fun k => h.1 33 p k)) = _
    unfold hb_88_9_2 cpF
    simp (disch := omega) only [nx_rowget, nq_nf, nq_nt, nq_le_t, nq_le_f, nq_lt_t, nq_lt_f, nq_eq_t, nq_eq_f, nq_neg, nq_pos, nq_le0f, nq_le0t, nq_lt0t, nq_lt0f, nq_eq0f, nq_eq0t, nI_add, nI_clamp, nx_inb, nx_ck, Option.bind_some, nx_get, nx_get2, nx_dif, nx_or, bI_0, bI_01, bI_nt, bI_nf, if_true, if_false, ite_true, ite_false, not_true_eq_false, not_false_eq_true, and_true, true_and, and_false, false_and, Bool.false_eq_true, Bool.true_eq_false, reduceCtorEq]) 0 hs_big (by omega) (lp_big (by omega))
  rw [hs_row0] at hl
  exact hl
theorem cpF_fr {h : hs_H} {o p : Nat} : hs_fr [(9, some o), (33, some o)] h (cpF h o p) := by
  unfold cpF
  exact ((hs_row_fr (.inl (.tail _ (.head _)))).put (.inl (.head _))).put (.inl (.head _))
theorem cpF_F {o p : Nat} {pl mv : Int32} {s : Nat → Nat} {h : hs_H} (q : st_cF p pl mv s h) : st_cF o pl mv s (cpF h o p) := by
  obtain ⟨q1, q2, q3⟩ := q
  unfold cpF
  refine ⟨?_, ?_, fun k hk => ?_⟩
  · simp (disch := omega) only [q1, nq_nf, nq_nt, nq_le_t, nq_le_f, nq_lt_t, nq_lt_f, nq_eq_t, nq_eq_f, nq_neg, nq_pos, nq_le0f, nq_le0t, nq_lt0t, nq_lt0f, nq_eq0f, nq_eq0t, nI_add, nI_clamp, nx_inb, nx_ck, Option.bind_some, nx_get, nx_get2, nx_dif, nx_or, bI_0, bI_01, bI_nt, bI_nf, if_true, if_false, ite_true, ite_false, not_true_eq_false, not_false_eq_true, and_true, true_and, and_false, false_and, Bool.false_eq_true, Bool.true_eq_false, reduceCtorEq]
  · simp (disch := omega) only [q2, nq_nf, nq_nt, nq_le_t, nq_le_f, nq_lt_t, nq_lt_f, nq_eq_t, nq_eq_f, nq_neg, nq_pos, nq_le0f, nq_le0t, nq_lt0t, nq_lt0f, nq_eq0f, nq_eq0t, nI_add, nI_clamp, nx_inb, nx_ck, Option.bind_some, nx_get, nx_get2, nx_dif, nx_or, bI_0, bI_01, bI_nt, bI_nf, if_true, if_false, ite_true, ite_false, not_true_eq_false, not_false_eq_true, and_true, true_and, and_false, false_and, Bool.false_eq_true, Bool.true_eq_false, reduceCtorEq]
  · simp (disch := omega) only [nq_nf, nq_nt, nq_le_t, nq_le_f, nq_lt_t, nq_lt_f, nq_eq_t, nq_eq_f, nq_neg, nq_pos, nq_le0f, nq_le0t, nq_lt0t, nq_lt0f, nq_eq0f, nq_eq0t, nI_add, nI_clamp, nx_inb, nx_ck, Option.bind_some, nx_get, nx_get2, nx_dif, nx_or, bI_0, bI_01, bI_nt, bI_nf, if_true, if_false, ite_true, ite_false, not_true_eq_false, not_false_eq_true, and_true, true_and, and_false, false_and, Bool.false_eq_true, Bool.true_eq_false, reduceCtorEq]
    rw [nx_rowget, if_pos ⟨rfl, rfl, hk⟩, q3 k hk]
def cpR (h : hs_H) (o p n : Nat) : hs_H := hs_row (hs_row (hs_row h 28 o n (fun k => h.1 28 p k)) 29 o n (fun k => h.1 29 p k)) 30 o n (fun k => h.1 30 p k)
theorem cpR_S {h : hs_H} {o p n : Nat} : hs_put (hs_put (hs_put (cpR h o p n) 28 o n (h.1 28 p n)) 29 o n (h.1 29 p n)) 30 o n (h.1 30 p n) = cpR h o p (n + 1) := hs_ext (fun c i k => by
  unfold cpR
  rw [nx_get, nx_get, nx_get, nx_rowget, nx_rowget, nx_rowget, nx_rowget, nx_rowget, nx_rowget]
  by_cases h30 : c = 30 ∧ i = o
  · obtain ⟨rfl, rfl⟩ := h30
    by_cases hk : k = n
    · subst hk
      simp (disch := omega) only [nl_t, nl_f, nq_nf, nq_nt, nq_le_t, nq_le_f, nq_lt_t, nq_lt_f, nq_eq_t, nq_eq_f, nq_neg, nq_pos, nq_le0f, nq_le0t, nq_lt0t, nq_lt0f, nq_eq0f, nq_eq0t, nI_add, nI_clamp, nx_inb, nx_ck, Option.bind_some, nx_get, nx_get2, nx_dif, nx_or, bI_0, bI_01, bI_nt, bI_nf, if_true, if_false, ite_true, ite_false, not_true_eq_false, not_false_eq_true, and_true, true_and, and_false, false_and, Bool.false_eq_true, Bool.true_eq_false, reduceCtorEq]
    · by_cases hk2 : k < n
      · simp (disch := omega) only [nl_t, nl_f, nq_nf, nq_nt, nq_le_t, nq_le_f, nq_lt_t, nq_lt_f, nq_eq_t, nq_eq_f, nq_neg, nq_pos, nq_le0f, nq_le0t, nq_lt0t, nq_lt0f, nq_eq0f, nq_eq0t, nI_add, nI_clamp, nx_inb, nx_ck, Option.bind_some, nx_get, nx_get2, nx_dif, nx_or, bI_0, bI_01, bI_nt, bI_nf, if_true, if_false, ite_true, ite_false, not_true_eq_false, not_false_eq_true, and_true, true_and, and_false, false_and, Bool.false_eq_true, Bool.true_eq_false, reduceCtorEq]
      · simp (disch := omega) only [nl_t, nl_f, nq_nf, nq_nt, nq_le_t, nq_le_f, nq_lt_t, nq_lt_f, nq_eq_t, nq_eq_f, nq_neg, nq_pos, nq_le0f, nq_le0t, nq_lt0t, nq_lt0f, nq_eq0f, nq_eq0t, nI_add, nI_clamp, nx_inb, nx_ck, Option.bind_some, nx_get, nx_get2, nx_dif, nx_or, bI_0, bI_01, bI_nt, bI_nf, if_true, if_false, ite_true, ite_false, not_true_eq_false, not_false_eq_true, and_true, true_and, and_false, false_and, Bool.false_eq_true, Bool.true_eq_false, reduceCtorEq]
  · by_cases h29 : c = 29 ∧ i = o
    · obtain ⟨rfl, rfl⟩ := h29
      by_cases hk : k = n
      · subst hk
        simp (disch := omega) only [nl_t, nl_f, nq_nf, nq_nt, nq_le_t, nq_le_f, nq_lt_t, nq_lt_f, nq_eq_t, nq_eq_f, nq_neg, nq_pos, nq_le0f, nq_le0t, nq_lt0t, nq_lt0f, nq_eq0f, nq_eq0t, nI_add, nI_clamp, nx_inb, nx_ck, Option.bind_some, nx_get, nx_get2, nx_dif, nx_or, bI_0, bI_01, bI_nt, bI_nf, if_true, if_false, ite_true, ite_false, not_true_eq_false, not_false_eq_true, and_true, true_and, and_false, false_and, Bool.false_eq_true, Bool.true_eq_false, reduceCtorEq]
      · by_cases hk2 : k < n
        · simp (disch := omega) only [nl_t, nl_f, nq_nf, nq_nt, nq_le_t, nq_le_f, nq_lt_t, nq_lt_f, nq_eq_t, nq_eq_f, nq_neg, nq_pos, nq_le0f, nq_le0t, nq_lt0t, nq_lt0f, nq_eq0f, nq_eq0t, nI_add, nI_clamp, nx_inb, nx_ck, Option.bind_some, nx_get, nx_get2, nx_dif, nx_or, bI_0, bI_01, bI_nt, bI_nf, if_true, if_false, ite_true, ite_false, not_true_eq_false, not_false_eq_true, and_true, true_and, and_false, false_and, Bool.false_eq_true, Bool.true_eq_false, reduceCtorEq]
        · simp (disch := omega) only [nl_t, nl_f, nq_nf, nq_nt, nq_le_t, nq_le_f, nq_lt_t, nq_lt_f, nq_eq_t, nq_eq_f, nq_neg, nq_pos, nq_le0f, nq_le0t, nq_lt0t, nq_lt0f, nq_eq0f, nq_eq0t, nI_add, nI_clamp, nx_inb, nx_ck, Option.bind_some, nx_get, nx_get2, nx_dif, nx_or, bI_0, bI_01, bI_nt, bI_nf, if_true, if_false, ite_true, ite_false, not_true_eq_false, not_false_eq_true, and_true, true_and, and_false, false_and, Bool.false_eq_true, Bool.true_eq_false, reduceCtorEq]
    · by_cases h28 : c = 28 ∧ i = o
      · obtain ⟨rfl, rfl⟩ := h28
        by_cases hk : k = n
        · subst hk
          simp (disch := omega) only [nl_t, nl_f, nq_nf, nq_nt, nq_le_t, nq_le_f, nq_lt_t, nq_lt_f, nq_eq_t, nq_eq_f, nq_neg, nq_pos, nq_le0f, nq_le0t, nq_lt0t, nq_lt0f, nq_eq0f, nq_eq0t, nI_add, nI_clamp, nx_inb, nx_ck, Option.bind_some, nx_get, nx_get2, nx_dif, nx_or, bI_0, bI_01, bI_nt, bI_nf, if_true, if_false, ite_true, ite_false, not_true_eq_false, not_false_eq_true, and_true, true_and, and_false, false_and, Bool.false_eq_true, Bool.true_eq_false, reduceCtorEq]
        · by_cases hk2 : k < n
          · simp (disch := omega) only [nl_t, nl_f, nq_nf, nq_nt, nq_le_t, nq_le_f, nq_lt_t, nq_lt_f, nq_eq_t, nq_eq_f, nq_neg, nq_pos, nq_le0f, nq_le0t, nq_lt0t, nq_lt0f, nq_eq0f, nq_eq0t, nI_add, nI_clamp, nx_inb, nx_ck, Option.bind_some, nx_get, nx_get2, nx_dif, nx_or, bI_0, bI_01, bI_nt, bI_nf, if_true, if_false, ite_true, ite_false, not_true_eq_false, not_false_eq_true, and_true, true_and, and_false, false_and, Bool.false_eq_true, Bool.true_eq_false, reduceCtorEq]
          · simp (disch := omega) only [nl_t, nl_f, nq_nf, nq_nt, nq_le_t, nq_le_f, nq_lt_t, nq_lt_f, nq_eq_t, nq_eq_f, nq_neg, nq_pos, nq_le0f, nq_le0t, nq_lt0t, nq_lt0f, nq_eq0f, nq_eq0t, nI_add, nI_clamp, nx_inb, nx_ck, Option.bind_some, nx_get, nx_get2, nx_dif, nx_or, bI_0, bI_01, bI_nt, bI_nf, if_true, if_false, ite_true, ite_false, not_true_eq_false, not_false_eq_true, and_true, true_and, and_false, false_and, Bool.false_eq_true, Bool.true_eq_false, reduceCtorEq]
      · rw [if_neg (by omega), if_neg (by omega), if_neg (by omega), if_neg (by omega), if_neg (by omega), if_neg (by omega), if_neg (by omega), if_neg (by omega), if_neg (by omega)]) rfl
theorem cpR_0 {h : hs_H} {o p : Nat} : cpR h o p 0 = h := by
  unfold cpR
  rw [hs_row0, hs_row0, hs_row0]
def cpS (h : hs_H) (o p : Nat) : hs_H := hs_put (hs_put (cpR h o p 10) 5 o 3 (h.1 5 p 3)) 5 o 4 (h.1 5 o 4 + nI 1)
theorem cpR_at {h : hs_H} {o p n : Nat} {c i k : Nat} (hne : i ≠ o ∨ (c ≠ 28 ∧ c ≠ 29 ∧ c ≠ 30)) : (cpR h o p n).1 c i k = h.1 c i k := by
  unfold cpR
  rw [nx_rowget, if_neg (by omega), nx_rowget, if_neg (by omega), nx_rowget, if_neg (by omega)]
theorem sp_48 {o p : Nat} {h : hs_H} (hop : o ≠ p) : hf_48_5 o p h = some (cpS h o p) := by
  unfold hf_48_5
  have hl := lp_for (f := fun k s => hb_48_5_2 o p k s.1 s.2) (st := fun j => (nI j, cpR h o p j)) (e := 10) (X := some (cpS h o p)) (fun j hj q => by
    show hb_48_5_2 o p q (nI j) (cpR h o p j) = _
    unfold hb_48_5_2
    have e1 : ∀ c k, (cpR h o p j).1 c p k = h.1 c p k := fun c k => cpR_at (Or.inl (by omega))
    simp (disch := omega) only [e1, cpR_S, nq_nf, nq_nt, nq_le_t, nq_le_f, nq_lt_t, nq_lt_f, nq_eq_t, nq_eq_f, nq_neg, nq_pos, nq_le0f, nq_le0t, nq_lt0t, nq_lt0f, nq_eq0f, nq_eq0t, nI_add, nI_clamp, nx_inb, nx_ck, Option.bind_some, nx_get, nx_get2, nx_dif, nx_or, bI_0, bI_01, bI_nt, bI_nf, if_true, if_false, ite_true, ite_false, not_true_eq_false, not_false_eq_true, and_true, true_and, and_false, false_and, Bool.false_eq_true, Bool.true_eq_false, reduceCtorEq]) (fun q => by
    show hb_48_5_2 o p q (nI 10) (cpR h o p 10) = _
    unfold hb_48_5_2 cpS
    have e1 : ∀ i k, (cpR h o p 10).1 5 i k = h.1 5 i k := fun i k => cpR_at (Or.inr (by omega))
    simp (disch := omega) only [e1, nq_nf, nq_nt, nq_le_t, nq_le_f, nq_lt_t, nq_lt_f, nq_eq_t, nq_eq_f, nq_neg, nq_pos, nq_le0f, nq_le0t, nq_lt0t, nq_lt0f, nq_eq0f, nq_eq0t, nI_add, nI_clamp, nx_inb, nx_ck, Option.bind_some, nx_get, nx_get2, nx_dif, nx_or, bI_0, bI_01, bI_nt, bI_nf, if_true, if_false, ite_true, ite_false, not_true_eq_false, not_false_eq_true, and_true, true_and, and_false, false_and, Bool.false_eq_true, Bool.true_eq_false, reduceCtorEq]) 0 hs_big (by omega) (lp_big (by omega))
  rw [cpR_0] at hl
  exact hl
theorem cpS_fr {h : hs_H} {o p : Nat} : hs_fr [(5, some o), (28, some o), (29, some o), (30, some o)] h (cpS h o p) := by
  unfold cpS cpR
  exact ((((hs_row_fr (.inl (.tail _ (.head _)))).tr (hs_row_fr (.inl (.tail _ (.tail _ (.head _)))))).tr (hs_row_fr (.inl (.tail _ (.tail _ (.tail _ (.head _))))))).put (.inl (.head _))).put (.inl (.head _))
theorem cpS_S {o p z : Nat} {t n g : Nat → Nat} {h : hs_H} (hz : z ≤ 10) (q : st_cS p z t n g h) : st_cS o z t n g (cpS h o p) := by
  obtain ⟨q1, q2⟩ := q
  unfold cpS cpR
  refine ⟨?_, fun k hk => ?_⟩
  · simp (disch := omega) only [q1, nq_nf, nq_nt, nq_le_t, nq_le_f, nq_lt_t, nq_lt_f, nq_eq_t, nq_eq_f, nq_neg, nq_pos, nq_le0f, nq_le0t, nq_lt0t, nq_lt0f, nq_eq0f, nq_eq0t, nI_add, nI_clamp, nx_inb, nx_ck, Option.bind_some, nx_get, nx_get2, nx_dif, nx_or, bI_0, bI_01, bI_nt, bI_nf, if_true, if_false, ite_true, ite_false, not_true_eq_false, not_false_eq_true, and_true, true_and, and_false, false_and, Bool.false_eq_true, Bool.true_eq_false, reduceCtorEq]
  · obtain ⟨r1, r2, r3⟩ := q2 k hk
    refine ⟨?_, ?_, ?_⟩
    · simp (disch := omega) only [nx_rowget, nl_t, r1, nq_nf, nq_nt, nq_le_t, nq_le_f, nq_lt_t, nq_lt_f, nq_eq_t, nq_eq_f, nq_neg, nq_pos, nq_le0f, nq_le0t, nq_lt0t, nq_lt0f, nq_eq0f, nq_eq0t, nI_add, nI_clamp, nx_inb, nx_ck, Option.bind_some, nx_get, nx_get2, nx_dif, nx_or, bI_0, bI_01, bI_nt, bI_nf, if_true, if_false, ite_true, ite_false, not_true_eq_false, not_false_eq_true, and_true, true_and, and_false, false_and, Bool.false_eq_true, Bool.true_eq_false, reduceCtorEq]
    · simp (disch := omega) only [nx_rowget, nl_t, r2, nq_nf, nq_nt, nq_le_t, nq_le_f, nq_lt_t, nq_lt_f, nq_eq_t, nq_eq_f, nq_neg, nq_pos, nq_le0f, nq_le0t, nq_lt0t, nq_lt0f, nq_eq0f, nq_eq0t, nI_add, nI_clamp, nx_inb, nx_ck, Option.bind_some, nx_get, nx_get2, nx_dif, nx_or, bI_0, bI_01, bI_nt, bI_nf, if_true, if_false, ite_true, ite_false, not_true_eq_false, not_false_eq_true, and_true, true_and, and_false, false_and, Bool.false_eq_true, Bool.true_eq_false, reduceCtorEq]
    · simp (disch := omega) only [nx_rowget, nl_t, r3, nq_nf, nq_nt, nq_le_t, nq_le_f, nq_lt_t, nq_lt_f, nq_eq_t, nq_eq_f, nq_neg, nq_pos, nq_le0f, nq_le0t, nq_lt0t, nq_lt0f, nq_eq0f, nq_eq0t, nI_add, nI_clamp, nx_inb, nx_ck, Option.bind_some, nx_get, nx_get2, nx_dif, nx_or, bI_0, bI_01, bI_nt, bI_nf, if_true, if_false, ite_true, ite_false, not_true_eq_false, not_false_eq_true, and_true, true_and, and_false, false_and, Bool.false_eq_true, Bool.true_eq_false, reduceCtorEq]
theorem cpS_4 {h : hs_H} {o p : Nat} : (cpS h o p).1 5 o 4 = h.1 5 o 4 + nI 1 := by
  unfold cpS
  simp (disch := omega) only [nq_nf, nq_nt, nq_le_t, nq_le_f, nq_lt_t, nq_lt_f, nq_eq_t, nq_eq_f, nq_neg, nq_pos, nq_le0f, nq_le0t, nq_lt0t, nq_lt0f, nq_eq0f, nq_eq0t, nI_add, nI_clamp, nx_inb, nx_ck, Option.bind_some, nx_get, nx_get2, nx_dif, nx_or, bI_0, bI_01, bI_nt, bI_nf, if_true, if_false, ite_true, ite_false, not_true_eq_false, not_false_eq_true, and_true, true_and, and_false, false_and, Bool.false_eq_true, Bool.true_eq_false, reduceCtorEq]
/-- the model's row from B on taken of A on -/
def cpM (h : hs_H) (B A : Nat) : hs_H := hs_rowb h 44 0 B 54 (fun k => h.1 44 0 (A + k))
theorem sp_231 {B A : Nat} {h : hs_H} (hB : B + 54 ≤ 162) (hA : A + 54 ≤ 162) (hd : A + 54 ≤ B ∨ B + 54 ≤ A) : hf_231 (nI B) (nI A) h = some (cpM h B A) := by
  unfold hf_231
  have hl := lp_for (f := fun k s => hb_231_2 k s.1 s.2.1 s.2.2.1 s.2.2.2) (st := fun j => (nI B, nI A, nI j, hs_rowb h 44 0 B j (fun k => h.1 44 0 (A + k)))) (e := 54) (X := some (cpM h B A)) (fun j hj q => by
    show hb_231_2 q (nI B) (nI A) (nI j) (hs_rowb h 44 0 B j (fun k => h.1 44 0 (A + k))) = _
    unfold hb_231_2
    have e1 : (hs_rowb h 44 0 B j (fun k => h.1 44 0 (A + k))).1 44 0 (A + j) = h.1 44 0 (A + j) := by rw [nx_rowbget, if_neg (by omega)]
    simp (disch := omega) only [e1, hs_rowbS h 44 0 B j (fun k => h.1 44 0 (A + k)), nq_nf, nq_nt, nq_le_t, nq_le_f, nq_lt_t, nq_lt_f, nq_eq_t, nq_eq_f, nq_neg, nq_pos, nq_le0f, nq_le0t, nq_lt0t, nq_lt0f, nq_eq0f, nq_eq0t, nI_add, nI_clamp, nx_inb, nx_ck, Option.bind_some, nx_get, nx_get2, nx_dif, nx_or, bI_0, bI_01, bI_nt, bI_nf, if_true, if_false, ite_true, ite_false, not_true_eq_false, not_false_eq_true, and_true, true_and, and_false, false_and, Bool.false_eq_true, Bool.true_eq_false, reduceCtorEq]) (fun q => by
    show hb_231_2 q (nI B) (nI A) (nI 54) (hs_rowb h 44 0 B 54 (fun k => h.1 44 0 (A + k))) = _
    unfold hb_231_2 cpM
    simp (disch := omega) only [nq_nf, nq_nt, nq_le_t, nq_le_f, nq_lt_t, nq_lt_f, nq_eq_t, nq_eq_f, nq_neg, nq_pos, nq_le0f, nq_le0t, nq_lt0t, nq_lt0f, nq_eq0f, nq_eq0t, nI_add, nI_clamp, nx_inb, nx_ck, Option.bind_some, nx_get, nx_get2, nx_dif, nx_or, bI_0, bI_01, bI_nt, bI_nf, if_true, if_false, ite_true, ite_false, not_true_eq_false, not_false_eq_true, and_true, true_and, and_false, false_and, Bool.false_eq_true, Bool.true_eq_false, reduceCtorEq]) 0 hs_big (by omega) (lp_big (by omega))
  rw [hs_rowb0] at hl
  exact hl
theorem cpM_in {h : hs_H} {B A k : Nat} (hk : k < 54) : (cpM h B A).1 44 0 (B + k) = h.1 44 0 (A + k) := by
  unfold cpM
  rw [nx_rowbget, if_pos (by omega), Nat.add_sub_cancel_left]
theorem cpM_out {h : hs_H} {B A p : Nat} (hp : p < B ∨ B + 54 ≤ p) : (cpM h B A).1 44 0 p = h.1 44 0 p := by
  unfold cpM
  rw [nx_rowbget, if_neg (by omega)]
theorem cpM_fr {h : hs_H} {B A : Nat} : hs_fr [(44, some 0)] h (cpM h B A) := by
  unfold cpM
  exact hs_rowb_fr (.inl (.head _))
theorem cpM_J {B A : Nat} {J : Nat → Nat} {st : Int32} {h : hs_H} (q : st_mJ 44 A J st h) : st_mJ 44 B J st (cpM h B A) := ⟨fun k hk => by rw [cpM_in (by omega)]; exact q.1 k hk, by rw [cpM_in (by omega)]; exact q.2⟩
theorem cpM_F {B A : Nat} {pl mv : Int32} {s : Nat → Nat} {h : hs_H} (q : st_mF 44 A pl mv s h) : st_mF 44 B pl mv s (cpM h B A) := ⟨by rw [cpM_in (by omega)]; exact q.1, by rw [cpM_in (by omega)]; exact q.2.1, fun k hk => by rw [Nat.add_assoc, cpM_in (by omega), ← Nat.add_assoc]; exact q.2.2 k hk⟩
theorem cpM_S {B A z : Nat} {t n g : Nat → Nat} {h : hs_H} (hz : z ≤ 10) (q : st_mS 44 A z t n g h) : st_mS 44 B z t n g (cpM h B A) := ⟨by rw [cpM_in (by omega)]; exact q.1, fun k hk => by
  obtain ⟨r1, r2, r3⟩ := q.2 k hk
  refine ⟨?_, ?_, ?_⟩
  · rw [Nat.add_assoc, cpM_in (by omega), ← Nat.add_assoc]; exact r1
  · rw [Nat.add_assoc, cpM_in (by omega), ← Nat.add_assoc]; exact r2
  · rw [Nat.add_assoc, cpM_in (by omega), ← Nat.add_assoc]; exact r3⟩
