/-! forget, start; what is kept where the model's row changes in part. -/
theorem st_mJ_kp {c B : Nat} {J : Nat → Nat} {st : Int32} {h h' : hs_H} (e : ∀ p, B ≤ p → p < B + 54 → h'.1 c 0 p = h.1 c 0 p) (p : st_mJ c B J st h) : st_mJ c B J st h' :=
  ⟨fun k hk => by rw [e _ (by omega) (by omega)]; exact p.1 k hk, by rw [e _ (by omega) (by omega)]; exact p.2⟩
theorem st_mF_kp {c B : Nat} {pl mv : Int32} {s : Nat → Nat} {h h' : hs_H} (e : ∀ p, B ≤ p → p < B + 54 → h'.1 c 0 p = h.1 c 0 p) (p : st_mF c B pl mv s h) : st_mF c B pl mv s h' :=
  ⟨by rw [e _ (by omega) (by omega)]; exact p.1, by rw [e _ (by omega) (by omega)]; exact p.2.1, fun k hk => by rw [e _ (by omega) (by omega)]; exact p.2.2 k hk⟩
theorem st_mS_kp {c B z : Nat} {t n g : Nat → Nat} {h h' : hs_H} (hz : z ≤ 10) (e : ∀ p, B ≤ p → p < B + 54 → h'.1 c 0 p = h.1 c 0 p) (p : st_mS c B z t n g h) : st_mS c B z t n g h' :=
  ⟨by rw [e _ (by omega) (by omega)]; exact p.1, fun k hk => by rw [e _ (by omega) (by omega), e _ (by omega) (by omega), e _ (by omega) (by omega)]; exact p.2 k hk⟩
def st_L2b (k : Nat) : List (Nat × Nat) := [(3, k), (45, 0), (4, 2 + k), (27, 2 + k), (9, 2 + k), (33, 2 + k), (5, 2 + k), (28, 2 + k), (29, 2 + k), (30, 2 + k)]
theorem st_img_kp {k N re W Ho : Nat} {h h' : hs_H} (e : ∀ q ∈ st_L2b k, h'.1 q.1 q.2 = h.1 q.1 q.2) (e44 : ∀ p, 54 * (k + 1) ≤ p → p < 54 * (k + 1) + 54 → h'.1 44 0 p = h.1 44 0 p) (p : st_img k N re W Ho h) : st_img k N re W Ho h' := by
  have e1 : h'.1 3 k = h.1 3 k := e (3, k) (by unfold st_L2b; simp)
  have e2 : h'.1 45 0 = h.1 45 0 := e (45, 0) (by unfold st_L2b; simp)
  unfold st_img at p ⊢
  rw [e1, e2]
  refine ⟨p.1, p.2.imp id (fun ⟨q1, J, st, pl, mv, s, z, t, n, g, q2, ⟨q3, q4, q5⟩, q6, q7, q8⟩ => ⟨q1, J, st, pl, mv, s, z, t, n, g, q2, ⟨?_, ?_, ?_⟩, st_mJ_kp e44 q6, st_mF_kp e44 q7, st_mS_kp q2.2.2.1 e44 q8⟩)⟩
  · exact st_cN_dep h h' (fun q hq => e q (by revert q hq; unfold st_L2b; simp)) q3
  · exact st_cF_dep h h' (fun q hq => e q (by revert q hq; unfold st_L2b; simp)) q4
  · exact st_cS_dep h h' (fun q hq => e q (by revert q hq; unfold st_L2b; simp)) q5
def st_L2c : List (Nat × Nat) := st_L2b 0 ++ st_L2b 1
theorem st_out_at {K : List (Nat × Option Nat)} {L : List (Nat × Nat)} {h h' : hs_H} (f : hs_fr K h h') (o : st_outb K L = true) : ∀ q ∈ L, h'.1 q.1 q.2 = h.1 q.1 q.2 := by
  intro q hq
  refine (f q.1 q.2 (fun r hr hh => ?_)).1
  have h1 := List.all_eq_true.mp (List.all_eq_true.mp o q hq) r hr
  rw [Bool.and_eq_true] at h1
  rcases hh with rfl | rfl
  · simp at h1
  · simp at h1
theorem st_imgs_fr {K : List (Nat × Option Nat)} {N re W Ho : Nat} {h h' : hs_H} (f : hs_fr K h h') (o : st_outb K st_L2c = true) (e44 : ∀ p, 54 ≤ p → h'.1 44 0 p = h.1 44 0 p) (p : st_imgs N re W Ho h) : st_imgs N re W Ho h' := by
  have e := st_out_at f o
  exact ⟨st_img_kp (fun q hq => e q (List.mem_append_left _ hq)) (fun p h1 _ => e44 p (by omega)) p.1, st_img_kp (fun q hq => e q (List.mem_append_right _ hq)) (fun p h1 _ => e44 p (by omega)) p.2⟩
section C3
variable {VC : Nat → (Nat → Nat) → Nat → Int32 → Int32 → hs_H → Prop} {VH : Nat → (Nat → Nat) → Nat → hs_H → Prop} {VW : st_VW}
/-- all but the core, where neither texts nor sheets change -/
def st_L5 : List (Nat × Nat) := st_L4 ++ [(6, 0), (12, 0), (31, 0), (47, 0), (11, 0)]
theorem st_rest_dep : st_dep st_L5 st_rest := by
  intro h h' e p
  have e1 : h'.1 6 0 = h.1 6 0 := e (6, 0) (by unfold st_L5; simp)
  have e2 : h'.1 12 0 = h.1 12 0 := e (12, 0) (by unfold st_L5; simp)
  have e3 : h'.1 11 0 = h.1 11 0 := e (11, 0) (by unfold st_L5; simp)
  refine ⟨st_sheets_dep h h' (fun q hq => e q (List.mem_append_left _ hq)) p.1, st_tape_dep h h' (fun q hq => e q ?_) p.2.1, ?_⟩
  · revert q hq; unfold st_L5; simp
  · have p2 := p.2.2
    unfold st_misc at p2 ⊢
    rw [e1, e2, e3]
    exact p2
theorem cl_forget (V : st_V VC VH VW) {a : Int32} : st_call VC VH VW (hf_119 a) (hf_188 a) := by
  intro b h hb p
  have p0 := p
  obtain ⟨N, re, W, Ho, J, st, pl, mv, s, z, t, n, g, c, d, ⟨hc, hd⟩, ⟨⟨okN, okF, okS⟩, ⟨cN, cF, cS⟩, mJ, mF, mS⟩, mN, im, ca, rs⟩ := p
  obtain ⟨⟨hN1, hN2⟩, hre, hst, ⟨hW, hHo⟩, hJ, hJ0, hJs, hJa⟩ := id okN
  obtain ⟨cN1, cN2, cN3, cN4, cN5, cJ⟩ := id cN
  obtain ⟨mN1, mN2, mN3, mN4⟩ := id mN
  obtain ⟨mJ1, mJ2⟩ := st_mJ0 mJ
  obtain ⟨mF1, mF2, mF3⟩ := st_mF0 mF
  obtain ⟨mS1, mS2⟩ := st_mS0 mS
  obtain ⟨cF1, cF2, cF3⟩ := id cF
  obtain ⟨cS1, cS2⟩ := id cS
  have hp := p2_lt hN2
  have hz := okS.1
  obtain ⟨⟨ca1, ca2⟩, ca3, ca4, ca5⟩ := id ca
  cases hr : rg 0 z a with
  | false =>
    refine ⟨nI 4294967295, h, h, ?_, ?_, p0.up VC VH VW (by omega)⟩
    · unfold hf_119 hb_119_15
      rw [cS1]
      rcases rg_f (by omega) hr with h1 | ⟨h1, h2⟩
      · simp (disch := omega) only [h1, nq_nf, nq_nt, nq_le_t, nq_le_f, nq_lt_t, nq_lt_f, nq_eq_t, nq_eq_f, nq_neg, nq_pos, nq_le0f, nq_le0t, nq_lt0t, nq_lt0f, nq_eq0f, nq_eq0t, nI_add, nI_clamp, nx_inb, nx_ck, Option.bind_some, nx_get, nx_get2, nx_dif, nx_or, bI_0, bI_01, bI_nt, bI_nf, if_true, if_false, ite_true, ite_false, not_true_eq_false, not_false_eq_true, and_true, true_and, and_false, false_and, Bool.false_eq_true, Bool.true_eq_false, reduceCtorEq]
      · simp (disch := omega) only [h1, h2, nq_nf, nq_nt, nq_le_t, nq_le_f, nq_lt_t, nq_lt_f, nq_eq_t, nq_eq_f, nq_neg, nq_pos, nq_le0f, nq_le0t, nq_lt0t, nq_lt0f, nq_eq0f, nq_eq0t, nI_add, nI_clamp, nx_inb, nx_ck, Option.bind_some, nx_get, nx_get2, nx_dif, nx_or, bI_0, bI_01, bI_nt, bI_nf, if_true, if_false, ite_true, ite_false, not_true_eq_false, not_false_eq_true, and_true, true_and, and_false, false_and, Bool.false_eq_true, Bool.true_eq_false, reduceCtorEq]
    · unfold hf_188
      rw [sp_150r (lo := 0) (hi := z) rfl (by simp (disch := omega) only [mS1, nq_nf, nq_nt, nq_le_t, nq_le_f, nq_lt_t, nq_lt_f, nq_eq_t, nq_eq_f, nq_neg, nq_pos, nq_le0f, nq_le0t, nq_lt0t, nq_lt0f, nq_eq0f, nq_eq0t, nI_add, nI_clamp, nx_inb, nx_ck, Option.bind_some, nx_get, nx_get2, nx_dif, nx_or, bI_0, bI_01, bI_nt, bI_nf, if_true, if_false, ite_true, ite_false, not_true_eq_false, not_false_eq_true, and_true, true_and, and_false, false_and, Bool.false_eq_true, Bool.true_eq_false, reduceCtorEq]; exact nI_64 (by omega)), hr]
      simp (disch := omega) only [nq_nf, nq_nt, nq_le_t, nq_le_f, nq_lt_t, nq_lt_f, nq_eq_t, nq_eq_f, nq_neg, nq_pos, nq_le0f, nq_le0t, nq_lt0t, nq_lt0f, nq_eq0f, nq_eq0t, nI_add, nI_clamp, nx_inb, nx_ck, Option.bind_some, nx_get, nx_get2, nx_dif, nx_or, bI_0, bI_01, bI_nt, bI_nf, if_true, if_false, ite_true, ite_false, not_true_eq_false, not_false_eq_true, and_true, true_and, and_false, false_and, Bool.false_eq_true, Bool.true_eq_false, reduceCtorEq]
  | true =>
    obtain ⟨i, -, hi, rfl⟩ := (rg_of (by omega)).mp hr
    have hm : ∀ h1 : hs_H, h1.1 44 0 23 = nI z → hf_188 (nI i) h1 = some (nI z, hs_put h1 44 0 23 (nI i)) := by
      intro h1 e1
      unfold hf_188
      rw [sp_150r (lo := 0) (hi := z) rfl (by simp (disch := omega) only [e1, nq_nf, nq_nt, nq_le_t, nq_le_f, nq_lt_t, nq_lt_f, nq_eq_t, nq_eq_f, nq_neg, nq_pos, nq_le0f, nq_le0t, nq_lt0t, nq_lt0f, nq_eq0f, nq_eq0t, nI_add, nI_clamp, nx_inb, nx_ck, Option.bind_some, nx_get, nx_get2, nx_dif, nx_or, bI_0, bI_01, bI_nt, bI_nf, if_true, if_false, ite_true, ite_false, not_true_eq_false, not_false_eq_true, and_true, true_and, and_false, false_and, Bool.false_eq_true, Bool.true_eq_false, reduceCtorEq]; exact nI_64 (by omega)), hr]
      simp (disch := omega) only [e1, nq_nf, nq_nt, nq_le_t, nq_le_f, nq_lt_t, nq_lt_f, nq_eq_t, nq_eq_f, nq_neg, nq_pos, nq_le0f, nq_le0t, nq_lt0t, nq_lt0f, nq_eq0f, nq_eq0t, nI_add, nI_clamp, nx_inb, nx_ck, Option.bind_some, nx_get, nx_get2, nx_dif, nx_or, bI_0, bI_01, bI_nt, bI_nf, if_true, if_false, ite_true, ite_false, not_true_eq_false, not_false_eq_true, and_true, true_and, and_false, false_and, Bool.false_eq_true, Bool.true_eq_false, reduceCtorEq]
    by_cases hiz : i = z
    · subst hiz
      refine ⟨nI i, h, hs_put h 44 0 23 (nI i), ?_, hm h mS1, ?_⟩
      · unfold hf_119 hf_47 hb_47_27
        simp (disch := omega) only [cS1, nq_nf, nq_nt, nq_le_t, nq_le_f, nq_lt_t, nq_lt_f, nq_eq_t, nq_eq_f, nq_neg, nq_pos, nq_le0f, nq_le0t, nq_lt0t, nq_lt0f, nq_eq0f, nq_eq0t, nI_add, nI_clamp, nx_inb, nx_ck, Option.bind_some, nx_get, nx_get2, nx_dif, nx_or, bI_0, bI_01, bI_nt, bI_nf, if_true, if_false, ite_true, ite_false, not_true_eq_false, not_false_eq_true, and_true, true_and, and_false, false_and, Bool.false_eq_true, Bool.true_eq_false, reduceCtorEq]
      · have e : hs_put h 44 0 23 (nI i) = h := hs_ext (fun c' i' k' => by
          rw [nx_get]
          by_cases q : c' = 44 ∧ i' = 0 ∧ k' = 23
          · rw [if_pos q, q.1, q.2.1, q.2.2, mS1]
          · rw [if_neg q]) rfl
        rw [e]
        exact p0.up VC VH VW (by omega)
    · refine ⟨nI z, hs_put (hs_put h 5 0 3 (nI i)) 5 0 4 (nI (d + 1)), hs_put (hs_put (hs_put h 5 0 3 (nI i)) 5 0 4 (nI (d + 1))) 44 0 23 (nI i), ?_, hm _ (by simp (disch := omega) only [mS1, nq_nf, nq_nt, nq_le_t, nq_le_f, nq_lt_t, nq_lt_f, nq_eq_t, nq_eq_f, nq_neg, nq_pos, nq_le0f, nq_le0t, nq_lt0t, nq_lt0f, nq_eq0f, nq_eq0t, nI_add, nI_clamp, nx_inb, nx_ck, Option.bind_some, nx_get, nx_get2, nx_dif, nx_or, bI_0, bI_01, bI_nt, bI_nf, if_true, if_false, ite_true, ite_false, not_true_eq_false, not_false_eq_true, and_true, true_and, and_false, false_and, Bool.false_eq_true, Bool.true_eq_false, reduceCtorEq]), ?_⟩
      · unfold hf_119 hf_47 hb_47_27
        simp (disch := omega) only [cS1, ca2, nq_nf, nq_nt, nq_le_t, nq_le_f, nq_lt_t, nq_lt_f, nq_eq_t, nq_eq_f, nq_neg, nq_pos, nq_le0f, nq_le0t, nq_lt0t, nq_lt0f, nq_eq0f, nq_eq0t, nI_add, nI_clamp, nx_inb, nx_ck, Option.bind_some, nx_get, nx_get2, nx_dif, nx_or, bI_0, bI_01, bI_nt, bI_nf, if_true, if_false, ite_true, ite_false, not_true_eq_false, not_false_eq_true, and_true, true_and, and_false, false_and, Bool.false_eq_true, Bool.true_eq_false, reduceCtorEq]
      · have f : hs_fr [(5, some 0), (44, some 0)] h (hs_put (hs_put (hs_put h 5 0 3 (nI i)) 5 0 4 (nI (d + 1))) 44 0 23 (nI i)) := ((hs_fr.rf.put (.inl (.head _))).put (.inl (.head _))).put (.inl (.tail _ (.head _)))
        have e44 : ∀ p, p ≠ 23 → (hs_put (hs_put (hs_put h 5 0 3 (nI i)) 5 0 4 (nI (d + 1))) 44 0 23 (nI i)).1 44 0 p = h.1 44 0 p := fun p hp => by simp (disch := omega) only [nq_nf, nq_nt, nq_le_t, nq_le_f, nq_lt_t, nq_lt_f, nq_eq_t, nq_eq_f, nq_neg, nq_pos, nq_le0f, nq_le0t, nq_lt0t, nq_lt0f, nq_eq0f, nq_eq0t, nI_add, nI_clamp, nx_inb, nx_ck, Option.bind_some, nx_get, nx_get2, nx_dif, nx_or, bI_0, bI_01, bI_nt, bI_nf, if_true, if_false, ite_true, ite_false, not_true_eq_false, not_false_eq_true, and_true, true_and, and_false, false_and, Bool.false_eq_true, Bool.true_eq_false, reduceCtorEq]
        refine ⟨N, re, W, Ho, J, st, pl, mv, s, i, t, n, g, c, d + 1, ⟨by omega, by omega⟩, ⟨⟨okN, okF, by omega, fun k hk => okS.2 k (by omega)⟩, ⟨st_cN_dep.fr f rfl cN, st_cF_dep.fr f rfl cF, ?_, fun k hk => ?_⟩, ⟨fun k hk => by rw [e44 _ (by omega)]; exact mJ.1 k hk, by rw [e44 _ (by omega)]; exact mJ.2⟩, ⟨by rw [e44 _ (by omega)]; exact mF.1, by rw [e44 _ (by omega)]; exact mF.2.1, fun k hk => by rw [e44 _ (by omega)]; exact mF.2.2 k hk⟩, ?_, fun k hk => ?_⟩, st_mN_dep.fr f rfl mN, st_imgs_fr f rfl (fun p hp => e44 p (by omega)) im, ⟨⟨?_, ?_⟩, (st_cas_dep V).fr f rfl ca3, (st_cha_dep V).fr f rfl ca4, ?_⟩, st_rest_dep.fr f rfl rs⟩
        · simp (disch := omega) only [nq_nf, nq_nt, nq_le_t, nq_le_f, nq_lt_t, nq_lt_f, nq_eq_t, nq_eq_f, nq_neg, nq_pos, nq_le0f, nq_le0t, nq_lt0t, nq_lt0f, nq_eq0f, nq_eq0t, nI_add, nI_clamp, nx_inb, nx_ck, Option.bind_some, nx_get, nx_get2, nx_dif, nx_or, bI_0, bI_01, bI_nt, bI_nf, if_true, if_false, ite_true, ite_false, not_true_eq_false, not_false_eq_true, and_true, true_and, and_false, false_and, Bool.false_eq_true, Bool.true_eq_false, reduceCtorEq]
        · simp (disch := omega) only [nq_nf, nq_nt, nq_le_t, nq_le_f, nq_lt_t, nq_lt_f, nq_eq_t, nq_eq_f, nq_neg, nq_pos, nq_le0f, nq_le0t, nq_lt0t, nq_lt0f, nq_eq0f, nq_eq0t, nI_add, nI_clamp, nx_inb, nx_ck, Option.bind_some, nx_get, nx_get2, nx_dif, nx_or, bI_0, bI_01, bI_nt, bI_nf, if_true, if_false, ite_true, ite_false, not_true_eq_false, not_false_eq_true, and_true, true_and, and_false, false_and, Bool.false_eq_true, Bool.true_eq_false, reduceCtorEq]
          exact cS2 k (by omega)
        · simp (disch := omega) only [nq_nf, nq_nt, nq_le_t, nq_le_f, nq_lt_t, nq_lt_f, nq_eq_t, nq_eq_f, nq_neg, nq_pos, nq_le0f, nq_le0t, nq_lt0t, nq_lt0f, nq_eq0f, nq_eq0t, nI_add, nI_clamp, nx_inb, nx_ck, Option.bind_some, nx_get, nx_get2, nx_dif, nx_or, bI_0, bI_01, bI_nt, bI_nf, if_true, if_false, ite_true, ite_false, not_true_eq_false, not_false_eq_true, and_true, true_and, and_false, false_and, Bool.false_eq_true, Bool.true_eq_false, reduceCtorEq]
        · rw [e44 _ (by omega), e44 _ (by omega), e44 _ (by omega)]
          exact mS.2 k (by omega)
        · simp (disch := omega) only [nq_nf, nq_nt, nq_le_t, nq_le_f, nq_lt_t, nq_lt_f, nq_eq_t, nq_eq_f, nq_neg, nq_pos, nq_le0f, nq_le0t, nq_lt0t, nq_lt0f, nq_eq0f, nq_eq0t, nI_add, nI_clamp, nx_inb, nx_ck, Option.bind_some, nx_get, nx_get2, nx_dif, nx_or, bI_0, bI_01, bI_nt, bI_nf, if_true, if_false, ite_true, ite_false, not_true_eq_false, not_false_eq_true, and_true, true_and, and_false, false_and, Bool.false_eq_true, Bool.true_eq_false, reduceCtorEq]
          exact ca1
        · simp (disch := omega) only [nq_nf, nq_nt, nq_le_t, nq_le_f, nq_lt_t, nq_lt_f, nq_eq_t, nq_eq_f, nq_neg, nq_pos, nq_le0f, nq_le0t, nq_lt0t, nq_lt0f, nq_eq0f, nq_eq0t, nI_add, nI_clamp, nx_inb, nx_ck, Option.bind_some, nx_get, nx_get2, nx_dif, nx_or, bI_0, bI_01, bI_nt, bI_nf, if_true, if_false, ite_true, ite_false, not_true_eq_false, not_false_eq_true, and_true, true_and, and_false, false_and, Bool.false_eq_true, Bool.true_eq_false, reduceCtorEq]
        · exact st_way_new (Nat.le_refl _) (by omega) (Or.inr (by omega)) ((st_way_dep V).fr f rfl ca5)
theorem cl_start (V : st_V VC VH VW) {a : Int32} : st_call VC VH VW (hf_112 a) (hf_177 a) := by
  intro b h hb p
  have p0 := p
  obtain ⟨N, re, W, Ho, J, st, pl, mv, s, z, t, n, g, c, d, ⟨hc, hd⟩, ⟨⟨okN, okF, okS⟩, ⟨cN, cF, cS⟩, mJ, mF, mS⟩, mN, im, ca, rs⟩ := p
  obtain ⟨⟨hN1, hN2⟩, hre, hst, ⟨hW, hHo⟩, hJ, hJ0, hJs, hJa⟩ := id okN
  obtain ⟨cN1, cN2, cN3, cN4, cN5, cJ⟩ := id cN
  obtain ⟨mN1, mN2, mN3, mN4⟩ := id mN
  obtain ⟨mJ1, mJ2⟩ := st_mJ0 mJ
  obtain ⟨mF1, mF2, mF3⟩ := st_mF0 mF
  obtain ⟨mS1, mS2⟩ := st_mS0 mS
  obtain ⟨cF1, cF2, cF3⟩ := id cF
  obtain ⟨cS1, cS2⟩ := id cS
  have hp := p2_lt hN2
  obtain ⟨⟨ca1, ca2⟩, ca3, ca4, ca5⟩ := id ca
  by_cases hs : a = nI 4294967292 ∨ nd N a = true
  · have hst2 : a = nI 4294967292 ∨ ∃ i, i < N ∧ a = nI i := hs.imp id (fun q => (nd_of (by omega)).mp q)
    refine ⟨st, hs_put (hs_put h 4 0 3 a) 4 0 6 (nI (c + 1)), hs_put (hs_put (hs_put h 4 0 3 a) 4 0 6 (nI (c + 1))) 44 0 10 a, ?_, ?_, ?_⟩
    · unfold hf_112 hb_112_19 hf_35
      by_cases ha : a = nI 4294967292
      · rw [if_pos ha]
        simp (disch := omega) only [cN3, ca1, nq_nf, nq_nt, nq_le_t, nq_le_f, nq_lt_t, nq_lt_f, nq_eq_t, nq_eq_f, nq_neg, nq_pos, nq_le0f, nq_le0t, nq_lt0t, nq_lt0f, nq_eq0f, nq_eq0t, nI_add, nI_clamp, nx_inb, nx_ck, Option.bind_some, nx_get, nx_get2, nx_dif, nx_or, bI_0, bI_01, bI_nt, bI_nf, if_true, if_false, ite_true, ite_false, not_true_eq_false, not_false_eq_true, and_true, true_and, and_false, false_and, Bool.false_eq_true, Bool.true_eq_false, reduceCtorEq]
      · rw [if_neg ha, sp_29 cN1 (by omega), hs.resolve_left ha]
        simp (disch := omega) only [cN3, ca1, nq_nf, nq_nt, nq_le_t, nq_le_f, nq_lt_t, nq_lt_f, nq_eq_t, nq_eq_f, nq_neg, nq_pos, nq_le0f, nq_le0t, nq_lt0t, nq_lt0f, nq_eq0f, nq_eq0t, nI_add, nI_clamp, nx_inb, nx_ck, Option.bind_some, nx_get, nx_get2, nx_dif, nx_or, bI_0, bI_01, bI_nt, bI_nf, if_true, if_false, ite_true, ite_false, not_true_eq_false, not_false_eq_true, and_true, true_and, and_false, false_and, Bool.false_eq_true, Bool.true_eq_false, reduceCtorEq]
    · unfold hf_177 hb_177_16
      by_cases ha : a = nI 4294967292
      · rw [if_pos ha]
        simp (disch := omega) only [mJ2, nq_nf, nq_nt, nq_le_t, nq_le_f, nq_lt_t, nq_lt_f, nq_eq_t, nq_eq_f, nq_neg, nq_pos, nq_le0f, nq_le0t, nq_lt0t, nq_lt0f, nq_eq0f, nq_eq0t, nI_add, nI_clamp, nx_inb, nx_ck, Option.bind_some, nx_get, nx_get2, nx_dif, nx_or, bI_0, bI_01, bI_nt, bI_nf, if_true, if_false, ite_true, ite_false, not_true_eq_false, not_false_eq_true, and_true, true_and, and_false, false_and, Bool.false_eq_true, Bool.true_eq_false, reduceCtorEq]
      · rw [if_neg ha, sp_171 (N := N) (by simp (disch := omega) only [mN1, nq_nf, nq_nt, nq_le_t, nq_le_f, nq_lt_t, nq_lt_f, nq_eq_t, nq_eq_f, nq_neg, nq_pos, nq_le0f, nq_le0t, nq_lt0t, nq_lt0f, nq_eq0f, nq_eq0t, nI_add, nI_clamp, nx_inb, nx_ck, Option.bind_some, nx_get, nx_get2, nx_dif, nx_or, bI_0, bI_01, bI_nt, bI_nf, if_true, if_false, ite_true, ite_false, not_true_eq_false, not_false_eq_true, and_true, true_and, and_false, false_and, Bool.false_eq_true, Bool.true_eq_false, reduceCtorEq]) (by omega) (by omega), hs.resolve_left ha]
        simp (disch := omega) only [mJ2, nq_nf, nq_nt, nq_le_t, nq_le_f, nq_lt_t, nq_lt_f, nq_eq_t, nq_eq_f, nq_neg, nq_pos, nq_le0f, nq_le0t, nq_lt0t, nq_lt0f, nq_eq0f, nq_eq0t, nI_add, nI_clamp, nx_inb, nx_ck, Option.bind_some, nx_get, nx_get2, nx_dif, nx_or, bI_0, bI_01, bI_nt, bI_nf, if_true, if_false, ite_true, ite_false, not_true_eq_false, not_false_eq_true, and_true, true_and, and_false, false_and, Bool.false_eq_true, Bool.true_eq_false, reduceCtorEq]
    · have f : hs_fr [(4, some 0), (44, some 0)] h (hs_put (hs_put (hs_put h 4 0 3 a) 4 0 6 (nI (c + 1))) 44 0 10 a) := ((hs_fr.rf.put (.inl (.head _))).put (.inl (.head _))).put (.inl (.tail _ (.head _)))
      have e44 : ∀ p, p ≠ 10 → (hs_put (hs_put (hs_put h 4 0 3 a) 4 0 6 (nI (c + 1))) 44 0 10 a).1 44 0 p = h.1 44 0 p := fun p hp => by simp (disch := omega) only [nq_nf, nq_nt, nq_le_t, nq_le_f, nq_lt_t, nq_lt_f, nq_eq_t, nq_eq_f, nq_neg, nq_pos, nq_le0f, nq_le0t, nq_lt0t, nq_lt0f, nq_eq0f, nq_eq0t, nI_add, nI_clamp, nx_inb, nx_ck, Option.bind_some, nx_get, nx_get2, nx_dif, nx_or, bI_0, bI_01, bI_nt, bI_nf, if_true, if_false, ite_true, ite_false, not_true_eq_false, not_false_eq_true, and_true, true_and, and_false, false_and, Bool.false_eq_true, Bool.true_eq_false, reduceCtorEq]
      refine ⟨N, re, W, Ho, J, a, pl, mv, s, z, t, n, g, c + 1, d, ⟨by omega, by omega⟩, ⟨⟨⟨⟨hN1, hN2⟩, hre, hst2, ⟨hW, hHo⟩, hJ, hJ0, hJs, hJa⟩, okF, okS⟩, ⟨⟨?_, ?_, ?_, ?_, ?_, fun k hk => ?_⟩, st_cF_dep.fr f rfl cF, st_cS_dep.fr f rfl cS⟩, ⟨fun k hk => by rw [e44 _ (by omega)]; exact mJ.1 k hk, ?_⟩, ⟨by rw [e44 _ (by omega)]; exact mF.1, by rw [e44 _ (by omega)]; exact mF.2.1, fun k hk => by rw [e44 _ (by omega)]; exact mF.2.2 k hk⟩, ⟨by rw [e44 _ (by omega)]; exact mS.1, fun k hk => by rw [e44 _ (by omega), e44 _ (by omega), e44 _ (by omega)]; exact mS.2 k hk⟩⟩, st_mN_dep.fr f rfl mN, st_imgs_fr f rfl (fun p hp => e44 p (by omega)) im, ⟨⟨?_, ?_⟩, st_cas_new (by omega) ((st_cas_dep V).fr f rfl ca3), st_cha_new (by omega) ((st_cha_dep V).fr f rfl ca4), st_way_new (by omega) (Nat.le_refl _) (Or.inl (by omega)) ((st_way_dep V).fr f rfl ca5)⟩, st_rest_dep.fr f rfl rs⟩
      · simp (disch := omega) only [cN1, nq_nf, nq_nt, nq_le_t, nq_le_f, nq_lt_t, nq_lt_f, nq_eq_t, nq_eq_f, nq_neg, nq_pos, nq_le0f, nq_le0t, nq_lt0t, nq_lt0f, nq_eq0f, nq_eq0t, nI_add, nI_clamp, nx_inb, nx_ck, Option.bind_some, nx_get, nx_get2, nx_dif, nx_or, bI_0, bI_01, bI_nt, bI_nf, if_true, if_false, ite_true, ite_false, not_true_eq_false, not_false_eq_true, and_true, true_and, and_false, false_and, Bool.false_eq_true, Bool.true_eq_false, reduceCtorEq]
      · simp (disch := omega) only [cN2, nq_nf, nq_nt, nq_le_t, nq_le_f, nq_lt_t, nq_lt_f, nq_eq_t, nq_eq_f, nq_neg, nq_pos, nq_le0f, nq_le0t, nq_lt0t, nq_lt0f, nq_eq0f, nq_eq0t, nI_add, nI_clamp, nx_inb, nx_ck, Option.bind_some, nx_get, nx_get2, nx_dif, nx_or, bI_0, bI_01, bI_nt, bI_nf, if_true, if_false, ite_true, ite_false, not_true_eq_false, not_false_eq_true, and_true, true_and, and_false, false_and, Bool.false_eq_true, Bool.true_eq_false, reduceCtorEq]
      · simp (disch := omega) only [nq_nf, nq_nt, nq_le_t, nq_le_f, nq_lt_t, nq_lt_f, nq_eq_t, nq_eq_f, nq_neg, nq_pos, nq_le0f, nq_le0t, nq_lt0t, nq_lt0f, nq_eq0f, nq_eq0t, nI_add, nI_clamp, nx_inb, nx_ck, Option.bind_some, nx_get, nx_get2, nx_dif, nx_or, bI_0, bI_01, bI_nt, bI_nf, if_true, if_false, ite_true, ite_false, not_true_eq_false, not_false_eq_true, and_true, true_and, and_false, false_and, Bool.false_eq_true, Bool.true_eq_false, reduceCtorEq]
      · simp (disch := omega) only [cN4, nq_nf, nq_nt, nq_le_t, nq_le_f, nq_lt_t, nq_lt_f, nq_eq_t, nq_eq_f, nq_neg, nq_pos, nq_le0f, nq_le0t, nq_lt0t, nq_lt0f, nq_eq0f, nq_eq0t, nI_add, nI_clamp, nx_inb, nx_ck, Option.bind_some, nx_get, nx_get2, nx_dif, nx_or, bI_0, bI_01, bI_nt, bI_nf, if_true, if_false, ite_true, ite_false, not_true_eq_false, not_false_eq_true, and_true, true_and, and_false, false_and, Bool.false_eq_true, Bool.true_eq_false, reduceCtorEq]
      · simp (disch := omega) only [cN5, nq_nf, nq_nt, nq_le_t, nq_le_f, nq_lt_t, nq_lt_f, nq_eq_t, nq_eq_f, nq_neg, nq_pos, nq_le0f, nq_le0t, nq_lt0t, nq_lt0f, nq_eq0f, nq_eq0t, nI_add, nI_clamp, nx_inb, nx_ck, Option.bind_some, nx_get, nx_get2, nx_dif, nx_or, bI_0, bI_01, bI_nt, bI_nf, if_true, if_false, ite_true, ite_false, not_true_eq_false, not_false_eq_true, and_true, true_and, and_false, false_and, Bool.false_eq_true, Bool.true_eq_false, reduceCtorEq]
      · simp (disch := omega) only [cJ, nq_nf, nq_nt, nq_le_t, nq_le_f, nq_lt_t, nq_lt_f, nq_eq_t, nq_eq_f, nq_neg, nq_pos, nq_le0f, nq_le0t, nq_lt0t, nq_lt0f, nq_eq0f, nq_eq0t, nI_add, nI_clamp, nx_inb, nx_ck, Option.bind_some, nx_get, nx_get2, nx_dif, nx_or, bI_0, bI_01, bI_nt, bI_nf, if_true, if_false, ite_true, ite_false, not_true_eq_false, not_false_eq_true, and_true, true_and, and_false, false_and, Bool.false_eq_true, Bool.true_eq_false, reduceCtorEq]
      · simp (disch := omega) only [nq_nf, nq_nt, nq_le_t, nq_le_f, nq_lt_t, nq_lt_f, nq_eq_t, nq_eq_f, nq_neg, nq_pos, nq_le0f, nq_le0t, nq_lt0t, nq_lt0f, nq_eq0f, nq_eq0t, nI_add, nI_clamp, nx_inb, nx_ck, Option.bind_some, nx_get, nx_get2, nx_dif, nx_or, bI_0, bI_01, bI_nt, bI_nf, if_true, if_false, ite_true, ite_false, not_true_eq_false, not_false_eq_true, and_true, true_and, and_false, false_and, Bool.false_eq_true, Bool.true_eq_false, reduceCtorEq]
      · simp (disch := omega) only [nq_nf, nq_nt, nq_le_t, nq_le_f, nq_lt_t, nq_lt_f, nq_eq_t, nq_eq_f, nq_neg, nq_pos, nq_le0f, nq_le0t, nq_lt0t, nq_lt0f, nq_eq0f, nq_eq0t, nI_add, nI_clamp, nx_inb, nx_ck, Option.bind_some, nx_get, nx_get2, nx_dif, nx_or, bI_0, bI_01, bI_nt, bI_nf, if_true, if_false, ite_true, ite_false, not_true_eq_false, not_false_eq_true, and_true, true_and, and_false, false_and, Bool.false_eq_true, Bool.true_eq_false, reduceCtorEq]
      · simp (disch := omega) only [ca2, nq_nf, nq_nt, nq_le_t, nq_le_f, nq_lt_t, nq_lt_f, nq_eq_t, nq_eq_f, nq_neg, nq_pos, nq_le0f, nq_le0t, nq_lt0t, nq_lt0f, nq_eq0f, nq_eq0t, nI_add, nI_clamp, nx_inb, nx_ck, Option.bind_some, nx_get, nx_get2, nx_dif, nx_or, bI_0, bI_01, bI_nt, bI_nf, if_true, if_false, ite_true, ite_false, not_true_eq_false, not_false_eq_true, and_true, true_and, and_false, false_and, Bool.false_eq_true, Bool.true_eq_false, reduceCtorEq]
  · have h1 : ¬ a = nI 4294967292 := fun q => hs (Or.inl q)
    have h2 : nd N a = false := by
      cases hd2 : nd N a with
      | false => rfl
      | true => exact (hs (Or.inr hd2)).elim
    refine ⟨nI 4294967295, h, h, ?_, ?_, p0.up VC VH VW (by omega)⟩
    · unfold hf_112
      rw [if_neg h1, sp_29 cN1 (by omega), h2]
      simp (disch := omega) only [nq_nf, nq_nt, nq_le_t, nq_le_f, nq_lt_t, nq_lt_f, nq_eq_t, nq_eq_f, nq_neg, nq_pos, nq_le0f, nq_le0t, nq_lt0t, nq_lt0f, nq_eq0f, nq_eq0t, nI_add, nI_clamp, nx_inb, nx_ck, Option.bind_some, nx_get, nx_get2, nx_dif, nx_or, bI_0, bI_01, bI_nt, bI_nf, if_true, if_false, ite_true, ite_false, not_true_eq_false, not_false_eq_true, and_true, true_and, and_false, false_and, Bool.false_eq_true, Bool.true_eq_false, reduceCtorEq]
    · unfold hf_177
      rw [if_neg h1, sp_171 mN1 (by omega) (by omega), h2]
      simp (disch := omega) only [nq_nf, nq_nt, nq_le_t, nq_le_f, nq_lt_t, nq_lt_f, nq_eq_t, nq_eq_f, nq_neg, nq_pos, nq_le0f, nq_le0t, nq_lt0t, nq_lt0f, nq_eq0f, nq_eq0t, nI_add, nI_clamp, nx_inb, nx_ck, Option.bind_some, nx_get, nx_get2, nx_dif, nx_or, bI_0, bI_01, bI_nt, bI_nf, if_true, if_false, ite_true, ite_false, not_true_eq_false, not_false_eq_true, and_true, true_and, and_false, false_and, Bool.false_eq_true, Bool.true_eq_false, reduceCtorEq]
end C3
