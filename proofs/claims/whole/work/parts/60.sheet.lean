/-! sheet, lay. -/
theorem rg_cases2 {a : Int32} : rg 0 2 a = true ↔ (a = nI 0 ∨ a = nI 1 ∨ a = nI 2) := by
  rw [rg_of (by omega)]
  constructor
  · rintro ⟨i, -, hi, rfl⟩
    have : i = 0 ∨ i = 1 ∨ i = 2 := by omega
    rcases this with rfl | rfl | rfl
    · exact Or.inl rfl
    · exact Or.inr (Or.inl rfl)
    · exact Or.inr (Or.inr rfl)
  · rintro (rfl | rfl | rfl)
    · exact ⟨0, by omega, by omega, rfl⟩
    · exact ⟨1, by omega, by omega, rfl⟩
    · exact ⟨2, by omega, by omega, rfl⟩
theorem sp_145 {a : Int32} {h : hs_H} : hf_145 a h = some (bI (rg 0 2 a), h) := by
  unfold hf_145 hb_145_14 hb_145_19
  cases hr : rg 0 2 a with
  | true =>
    rcases rg_cases2.mp hr with rfl | rfl | rfl <;> rfl
  | false =>
    have h1 : ¬ (a = nI 0 ∨ a = nI 1 ∨ a = nI 2) := fun q => by rw [rg_cases2.mpr q] at hr; cases hr
    rw [nI_0r, if_neg (fun q => h1 (Or.inl q)), if_neg (fun q => h1 (Or.inr (Or.inl q))), if_pos (fun q => h1 (Or.inr (Or.inr q)))]
    rfl
theorem sp_234 {a e : Int32} {h : hs_H} : hf_234 a e h = some (bI (rg 0 3 a && rg 0 2 e), h) := by
  unfold hf_234 hb_234_28 hb_234_29
  rw [sp_150r (lo := 0) (hi := 3) rfl (lN_t (by omega))]
  cases rg 0 3 a with
  | false => rfl
  | true =>
    simp (disch := omega) only [nq_nf, nq_nt, nq_le_t, nq_le_f, nq_lt_t, nq_lt_f, nq_eq_t, nq_eq_f, nq_neg, nq_pos, nq_le0f, nq_le0t, nq_lt0t, nq_lt0f, nq_eq0f, nq_eq0t, nI_add, nI_clamp, nx_inb, nx_ck, Option.bind_some, nx_get, nx_get2, nx_dif, nx_or, bI_0, bI_01, bI_nt, bI_nf, if_true, if_false, ite_true, ite_false, not_true_eq_false, not_false_eq_true, and_true, true_and, and_false, false_and, Bool.false_eq_true, Bool.true_eq_false, reduceCtorEq]
    rw [sp_150r (lo := 0) (hi := 2) rfl (lN_t (by omega))]
    cases rg 0 2 e <;> rfl
theorem rg_f3 {a : Int32} (h : rg 0 3 a = false) : a < 0 ∨ (¬ a < 0 ∧ nI 4 ≤ a) := by
  rcases rg_f (by omega) h with q | ⟨q1, q2⟩
  · exact Or.inl q
  · refine Or.inr ⟨q1, ?_⟩
    rw [Int32.le_iff_toInt_le, nI_toInt (by omega)]
    have h3 : ¬ a.toInt ≤ 3 := fun q => q2 (by rw [Int32.le_iff_toInt_le, nI_toInt (by omega)]; exact q)
    show (4 : Int) ≤ a.toInt
    omega
theorem st_sheet_pt {k : Nat} {h h' : hs_H} (e8 : h'.1 8 k = h.1 8 k) (e32 : h'.1 32 k = h.1 32 k) (e61 : h'.1 61 0 k = h.1 61 0 k) (e62 : h'.1 62 0 k = h.1 62 0 k) (e63 : ∀ i, i < 40 → h'.1 63 0 (40 * k + i) = h.1 63 0 (40 * k + i)) (p : st_sheet k h) : st_sheet k h' := by
  unfold st_sheet at p ⊢
  rw [e8, e32, e61, e62]
  exact p.imp id (fun ⟨ln, n, q1, q2, q3, q4, q5, q6, q7⟩ => ⟨ln, n, q1, q2, q3, q4, q5, q6, fun i hi => by rw [e63 i hi]; exact q7 i hi⟩)
section CSh
variable {VC : Nat → (Nat → Nat) → Nat → Int32 → Int32 → hs_H → Prop} {VH : Nat → (Nat → Nat) → Nat → hs_H → Prop} {VW : st_VW}
/-- sheets alone have changed -/
theorem st_all_sh (V : st_V VC VH VW) {b : Nat} {h h' : hs_H} {K : List (Nat × Option Nat)} (f : hs_fr K h h') (o : st_outb K (st_L1 ++ st_L2 ++ st_L3 ++ [(6, 0), (12, 0), (31, 0), (47, 0), (11, 0)]) = true) (p : st_all VC VH VW b h) (hs : ∀ k, k < 4 → st_sheet k h') : st_all VC VH VW b h' := by
  rw [st_outb_app, st_outb_app, st_outb_app, Bool.and_eq_true, Bool.and_eq_true, Bool.and_eq_true] at o
  obtain ⟨⟨⟨o1, o2⟩, o3⟩, o5⟩ := o
  obtain ⟨N, re, W, Ho, J, st, pl, mv, s, z, t, n, g, c, d, hcd, co, mN, im, ca, rs⟩ := p
  have e := st_out_at f o5
  have e1 : h'.1 6 0 = h.1 6 0 := e (6, 0) (by simp)
  have e2 : h'.1 12 0 = h.1 12 0 := e (12, 0) (by simp)
  have e3 : h'.1 11 0 = h.1 11 0 := e (11, 0) (by simp)
  refine ⟨N, re, W, Ho, J, st, pl, mv, s, z, t, n, g, c, d, hcd, st_core_dep.fr f o1 co, st_mN_dep h h' (fun q hq => e q (by simp at hq; subst hq; simp)) mN, st_imgs_dep.fr f o2 im, (st_cache_dep V).fr f o3 ca, hs, st_tape_dep h h' (fun q hq => e q (by revert q hq; simp)) rs.2.1, ?_⟩
  have p2 := rs.2.2
  unfold st_misc at p2 ⊢
  rw [e1, e2, e3]
  exact p2
def mk_c (h : hs_H) (k : Nat) (ln n : Int32) : hs_H := hs_put (hs_put (hs_row h 32 k 40 (fun _ => nI 0)) 8 k 1 ln) 8 k 2 n
theorem sp_78 {k : Nat} {ln n : Int32} {h : hs_H} : hf_78 k ln n h = some (mk_c h k ln n) := by
  unfold hf_78
  have hl := lp_for (f := fun q s => hb_78_2 k q s.1 s.2.1 s.2.2.1 s.2.2.2) (st := fun j => (ln, n, nI j, hs_row h 32 k j (fun _ => nI 0))) (e := 40) (X := some (mk_c h k ln n)) (fun j hj q => by
    show hb_78_2 k q ln n (nI j) (hs_row h 32 k j (fun _ => nI 0)) = _
    unfold hb_78_2
    simp (disch := omega) only [hs_rowS h 32 k j (fun _ => nI 0), nq_nf, nq_nt, nq_le_t, nq_le_f, nq_lt_t, nq_lt_f, nq_eq_t, nq_eq_f, nq_neg, nq_pos, nq_le0f, nq_le0t, nq_lt0t, nq_lt0f, nq_eq0f, nq_eq0t, nI_add, nI_clamp, nx_inb, nx_ck, Option.bind_some, nx_get, nx_get2, nx_dif, nx_or, bI_0, bI_01, bI_nt, bI_nf, if_true, if_false, ite_true, ite_false, not_true_eq_false, not_false_eq_true, and_true, true_and, and_false, false_and, Bool.false_eq_true, Bool.true_eq_false, reduceCtorEq]) (fun q => by
    show hb_78_2 k q ln n (nI 40) (hs_row h 32 k 40 (fun _ => nI 0)) = _
    unfold hb_78_2 mk_c
    simp (disch := omega) only [nq_nf, nq_nt, nq_le_t, nq_le_f, nq_lt_t, nq_lt_f, nq_eq_t, nq_eq_f, nq_neg, nq_pos, nq_le0f, nq_le0t, nq_lt0t, nq_lt0f, nq_eq0f, nq_eq0t, nI_add, nI_clamp, nx_inb, nx_ck, Option.bind_some, nx_get, nx_get2, nx_dif, nx_or, bI_0, bI_01, bI_nt, bI_nf, if_true, if_false, ite_true, ite_false, not_true_eq_false, not_false_eq_true, and_true, true_and, and_false, false_and, Bool.false_eq_true, Bool.true_eq_false, reduceCtorEq]) 0 hs_big (by omega) (lp_big (by omega))
  rw [hs_row0] at hl
  exact hl
def mk_m (h : hs_H) (k : Nat) (ln n : Int32) : hs_H := hs_rowb (hs_put (hs_put h 61 0 k ln) 62 0 k n) 63 0 (40 * k) 40 (fun _ => nI 0)
theorem sp_235l {k : Nat} {h : hs_H} (hk : k < 4) : hs_lp (fun q s => hb_235_40 q s.1 s.2.1 s.2.2) hs_big (nI k, nI 0, h) = some (nI 1, hs_rowb h 63 0 (40 * k) 40 (fun _ => nI 0)) := by
  have hl := lp_for (f := fun q s => hb_235_40 q s.1 s.2.1 s.2.2) (st := fun j => (nI k, nI j, hs_rowb h 63 0 (40 * k) j (fun _ => nI 0))) (e := 40) (X := some (nI 1, hs_rowb h 63 0 (40 * k) 40 (fun _ => nI 0))) (fun j hj q => by
    show hb_235_40 q (nI k) (nI j) (hs_rowb h 63 0 (40 * k) j (fun _ => nI 0)) = _
    unfold hb_235_40
    simp (disch := omega) only [pk_mul, hs_rowbS h 63 0 (40 * k) j (fun _ => nI 0), nq_nf, nq_nt, nq_le_t, nq_le_f, nq_lt_t, nq_lt_f, nq_eq_t, nq_eq_f, nq_neg, nq_pos, nq_le0f, nq_le0t, nq_lt0t, nq_lt0f, nq_eq0f, nq_eq0t, nI_add, nI_clamp, nx_inb, nx_ck, Option.bind_some, nx_get, nx_get2, nx_dif, nx_or, bI_0, bI_01, bI_nt, bI_nf, if_true, if_false, ite_true, ite_false, not_true_eq_false, not_false_eq_true, and_true, true_and, and_false, false_and, Bool.false_eq_true, Bool.true_eq_false, reduceCtorEq]) (fun q => by
    show hb_235_40 q (nI k) (nI 40) (hs_rowb h 63 0 (40 * k) 40 (fun _ => nI 0)) = _
    unfold hb_235_40
    simp (disch := omega) only [nq_nf, nq_nt, nq_le_t, nq_le_f, nq_lt_t, nq_lt_f, nq_eq_t, nq_eq_f, nq_neg, nq_pos, nq_le0f, nq_le0t, nq_lt0t, nq_lt0f, nq_eq0f, nq_eq0t, nI_add, nI_clamp, nx_inb, nx_ck, Option.bind_some, nx_get, nx_get2, nx_dif, nx_or, bI_0, bI_01, bI_nt, bI_nf, if_true, if_false, ite_true, ite_false, not_true_eq_false, not_false_eq_true, and_true, true_and, and_false, false_and, Bool.false_eq_true, Bool.true_eq_false, reduceCtorEq]) 0 hs_big (by omega) (lp_big (by omega))
  rw [hs_rowb0] at hl
  exact hl
theorem mk_c_fr {h : hs_H} {k : Nat} {ln n : Int32} : hs_fr [(8, some k), (32, some k)] h (mk_c h k ln n) := by
  unfold mk_c
  exact ((hs_row_fr (.inl (.tail _ (.head _)))).put (.inl (.head _))).put (.inl (.head _))
theorem mk_m_fr {h : hs_H} {k : Nat} {ln n : Int32} : hs_fr [(61, some 0), (62, some 0), (63, some 0)] h (mk_m h k ln n) := by
  unfold mk_m
  exact ((hs_fr.rf.put (.inl (.head _))).put (.inl (.tail _ (.head _)))).tr (hs_rowb_fr (.inl (.tail _ (.tail _ (.head _)))))
theorem sheet_c1 {a e n : Int32} {h : hs_H} (h3 : rg 0 3 a = false) : hf_139 a e n h = some (nI 4294967295, h) := by
  unfold hf_139 hb_139_22
  rcases rg_f3 h3 with q | ⟨q1, q2⟩
  · rw [if_pos q]
  · rw [if_neg q1, if_pos q2]
theorem sheet_m1 {a e n : Int32} {h : hs_H} (h3 : rg 0 3 a = false) : hf_235 a e n h = some (nI 4294967295, h) := by
  unfold hf_235 hb_235_14
  rw [sp_234, h3]
  simp (disch := omega) only [Bool.false_and, nq_nf, nq_nt, nq_le_t, nq_le_f, nq_lt_t, nq_lt_f, nq_eq_t, nq_eq_f, nq_neg, nq_pos, nq_le0f, nq_le0t, nq_lt0t, nq_lt0f, nq_eq0f, nq_eq0t, nI_add, nI_clamp, nx_inb, nx_ck, Option.bind_some, nx_get, nx_get2, nx_dif, nx_or, bI_0, bI_01, bI_nt, bI_nf, if_true, if_false, ite_true, ite_false, not_true_eq_false, not_false_eq_true, and_true, true_and, and_false, false_and, Bool.false_eq_true, Bool.true_eq_false, reduceCtorEq]
theorem sheet_c2 {k : Nat} {e n : Int32} {h : hs_H} (hk : k < 4) (h2 : rg 0 2 e = false) : hf_139 (nI k) e n h = some (nI 4294967295, h) := by
  unfold hf_139 hb_139_22
  simp (disch := omega) only [nq_nf, nq_nt, nq_le_t, nq_le_f, nq_lt_t, nq_lt_f, nq_eq_t, nq_eq_f, nq_neg, nq_pos, nq_le0f, nq_le0t, nq_lt0t, nq_lt0f, nq_eq0f, nq_eq0t, nI_add, nI_clamp, nx_inb, nx_ck, Option.bind_some, nx_get, nx_get2, nx_dif, nx_or, bI_0, bI_01, bI_nt, bI_nf, if_true, if_false, ite_true, ite_false, not_true_eq_false, not_false_eq_true, and_true, true_and, and_false, false_and, Bool.false_eq_true, Bool.true_eq_false, reduceCtorEq]
  rw [sp_145, h2]
  simp (disch := omega) only [nq_nf, nq_nt, nq_le_t, nq_le_f, nq_lt_t, nq_lt_f, nq_eq_t, nq_eq_f, nq_neg, nq_pos, nq_le0f, nq_le0t, nq_lt0t, nq_lt0f, nq_eq0f, nq_eq0t, nI_add, nI_clamp, nx_inb, nx_ck, Option.bind_some, nx_get, nx_get2, nx_dif, nx_or, bI_0, bI_01, bI_nt, bI_nf, if_true, if_false, ite_true, ite_false, not_true_eq_false, not_false_eq_true, and_true, true_and, and_false, false_and, Bool.false_eq_true, Bool.true_eq_false, reduceCtorEq]
theorem sheet_m2 {k : Nat} {e n : Int32} {h : hs_H} (h3 : rg 0 3 (nI k) = true) (h2 : rg 0 2 e = false) : hf_235 (nI k) e n h = some (nI 4294967295, h) := by
  unfold hf_235 hb_235_14
  rw [sp_234, h3, h2]
  simp (disch := omega) only [Bool.and_false, nq_nf, nq_nt, nq_le_t, nq_le_f, nq_lt_t, nq_lt_f, nq_eq_t, nq_eq_f, nq_neg, nq_pos, nq_le0f, nq_le0t, nq_lt0t, nq_lt0f, nq_eq0f, nq_eq0t, nI_add, nI_clamp, nx_inb, nx_ck, Option.bind_some, nx_get, nx_get2, nx_dif, nx_or, bI_0, bI_01, bI_nt, bI_nf, if_true, if_false, ite_true, ite_false, not_true_eq_false, not_false_eq_true, and_true, true_and, and_false, false_and, Bool.false_eq_true, Bool.true_eq_false, reduceCtorEq]
theorem sheet_c3 {k : Nat} {e n : Int32} {h : hs_H} (hk : k < 4) (h2 : rg 0 2 e = true) (hn : ¬ n ≤ nI 40) : hf_139 (nI k) e n h = some (nI 4294967295, h) := by
  unfold hf_139 hb_139_22
  simp (disch := omega) only [nq_nf, nq_nt, nq_le_t, nq_le_f, nq_lt_t, nq_lt_f, nq_eq_t, nq_eq_f, nq_neg, nq_pos, nq_le0f, nq_le0t, nq_lt0t, nq_lt0f, nq_eq0f, nq_eq0t, nI_add, nI_clamp, nx_inb, nx_ck, Option.bind_some, nx_get, nx_get2, nx_dif, nx_or, bI_0, bI_01, bI_nt, bI_nf, if_true, if_false, ite_true, ite_false, not_true_eq_false, not_false_eq_true, and_true, true_and, and_false, false_and, Bool.false_eq_true, Bool.true_eq_false, reduceCtorEq]
  rw [sp_145, h2]
  simp (disch := omega) only [hn, nq_nf, nq_nt, nq_le_t, nq_le_f, nq_lt_t, nq_lt_f, nq_eq_t, nq_eq_f, nq_neg, nq_pos, nq_le0f, nq_le0t, nq_lt0t, nq_lt0f, nq_eq0f, nq_eq0t, nI_add, nI_clamp, nx_inb, nx_ck, Option.bind_some, nx_get, nx_get2, nx_dif, nx_or, bI_0, bI_01, bI_nt, bI_nf, if_true, if_false, ite_true, ite_false, not_true_eq_false, not_false_eq_true, and_true, true_and, and_false, false_and, Bool.false_eq_true, Bool.true_eq_false, reduceCtorEq]
theorem sheet_m3 {k : Nat} {e n : Int32} {h : hs_H} (h3 : rg 0 3 (nI k) = true) (h2 : rg 0 2 e = true) (hn : ¬ n ≤ nI 40) : hf_235 (nI k) e n h = some (nI 4294967295, h) := by
  unfold hf_235 hb_235_14
  rw [sp_234, h3, h2]
  simp (disch := omega) only [Bool.and_self, hn, nq_nf, nq_nt, nq_le_t, nq_le_f, nq_lt_t, nq_lt_f, nq_eq_t, nq_eq_f, nq_neg, nq_pos, nq_le0f, nq_le0t, nq_lt0t, nq_lt0f, nq_eq0f, nq_eq0t, nI_add, nI_clamp, nx_inb, nx_ck, Option.bind_some, nx_get, nx_get2, nx_dif, nx_or, bI_0, bI_01, bI_nt, bI_nf, if_true, if_false, ite_true, ite_false, not_true_eq_false, not_false_eq_true, and_true, true_and, and_false, false_and, Bool.false_eq_true, Bool.true_eq_false, reduceCtorEq]
theorem sheet_c4 {k : Nat} {e n : Int32} {h : hs_H} (hk : k < 4) (h2 : rg 0 2 e = true) (hn : n ≤ nI 40) (h0 : ¬ 0 ≤ n) : hf_139 (nI k) e n h = some (nI 4294967282, h) := by
  unfold hf_139
  simp (disch := omega) only [nq_nf, nq_nt, nq_le_t, nq_le_f, nq_lt_t, nq_lt_f, nq_eq_t, nq_eq_f, nq_neg, nq_pos, nq_le0f, nq_le0t, nq_lt0t, nq_lt0f, nq_eq0f, nq_eq0t, nI_add, nI_clamp, nx_inb, nx_ck, Option.bind_some, nx_get, nx_get2, nx_dif, nx_or, bI_0, bI_01, bI_nt, bI_nf, if_true, if_false, ite_true, ite_false, not_true_eq_false, not_false_eq_true, and_true, true_and, and_false, false_and, Bool.false_eq_true, Bool.true_eq_false, reduceCtorEq]
  rw [sp_145, h2]
  simp (disch := omega) only [hn, h0, nq_nf, nq_nt, nq_le_t, nq_le_f, nq_lt_t, nq_lt_f, nq_eq_t, nq_eq_f, nq_neg, nq_pos, nq_le0f, nq_le0t, nq_lt0t, nq_lt0f, nq_eq0f, nq_eq0t, nI_add, nI_clamp, nx_inb, nx_ck, Option.bind_some, nx_get, nx_get2, nx_dif, nx_or, bI_0, bI_01, bI_nt, bI_nf, if_true, if_false, ite_true, ite_false, not_true_eq_false, not_false_eq_true, and_true, true_and, and_false, false_and, Bool.false_eq_true, Bool.true_eq_false, reduceCtorEq]
theorem sheet_m4 {k : Nat} {e n : Int32} {h : hs_H} (h3 : rg 0 3 (nI k) = true) (h2 : rg 0 2 e = true) (hn : n ≤ nI 40) (h0 : ¬ 0 ≤ n) : hf_235 (nI k) e n h = some (nI 4294967282, h) := by
  unfold hf_235
  rw [sp_234, h3, h2]
  simp (disch := omega) only [Bool.and_self, hn, h0, nq_nf, nq_nt, nq_le_t, nq_le_f, nq_lt_t, nq_lt_f, nq_eq_t, nq_eq_f, nq_neg, nq_pos, nq_le0f, nq_le0t, nq_lt0t, nq_lt0f, nq_eq0f, nq_eq0t, nI_add, nI_clamp, nx_inb, nx_ck, Option.bind_some, nx_get, nx_get2, nx_dif, nx_or, bI_0, bI_01, bI_nt, bI_nf, if_true, if_false, ite_true, ite_false, not_true_eq_false, not_false_eq_true, and_true, true_and, and_false, false_and, Bool.false_eq_true, Bool.true_eq_false, reduceCtorEq]
theorem sheet_c5 {k ln m : Nat} {h : hs_H} (hk : k < 4) (h2 : rg 0 2 (nI ln) = true) (hm : m ≤ 40) : hf_139 (nI k) (nI ln) (nI m) h = some (nI 1, mk_c h k (nI ln) (nI m)) := by
  unfold hf_139
  simp (disch := omega) only [nq_nf, nq_nt, nq_le_t, nq_le_f, nq_lt_t, nq_lt_f, nq_eq_t, nq_eq_f, nq_neg, nq_pos, nq_le0f, nq_le0t, nq_lt0t, nq_lt0f, nq_eq0f, nq_eq0t, nI_add, nI_clamp, nx_inb, nx_ck, Option.bind_some, nx_get, nx_get2, nx_dif, nx_or, bI_0, bI_01, bI_nt, bI_nf, if_true, if_false, ite_true, ite_false, not_true_eq_false, not_false_eq_true, and_true, true_and, and_false, false_and, Bool.false_eq_true, Bool.true_eq_false, reduceCtorEq]
  rw [sp_145, h2]
  simp (disch := omega) only [sp_78, nq_nf, nq_nt, nq_le_t, nq_le_f, nq_lt_t, nq_lt_f, nq_eq_t, nq_eq_f, nq_neg, nq_pos, nq_le0f, nq_le0t, nq_lt0t, nq_lt0f, nq_eq0f, nq_eq0t, nI_add, nI_clamp, nx_inb, nx_ck, Option.bind_some, nx_get, nx_get2, nx_dif, nx_or, bI_0, bI_01, bI_nt, bI_nf, if_true, if_false, ite_true, ite_false, not_true_eq_false, not_false_eq_true, and_true, true_and, and_false, false_and, Bool.false_eq_true, Bool.true_eq_false, reduceCtorEq]
theorem sheet_m5 {k ln m : Nat} {h : hs_H} (hk : k < 4) (h3 : rg 0 3 (nI k) = true) (h2 : rg 0 2 (nI ln) = true) (hm : m ≤ 40) : hf_235 (nI k) (nI ln) (nI m) h = some (nI 1, mk_m h k (nI ln) (nI m)) := by
  unfold hf_235
  rw [sp_234, h3, h2, Bool.and_self, Option.bind_some]
  show (if bI true = 0 then hb_235_14 h else if nI m ≤ nI 40 then if 0 ≤ nI m then hs_ck (hs_inb (nI k) 4) (hs_ck (hs_inb (nI k) 4) (hs_lp (fun k s => hb_235_40 k s.1 s.2.1 s.2.2) hs_big (nI k, nI 0, hs_put (hs_put h 61 0 (nI k).toNatClampNeg (nI ln)) 62 0 (nI k).toNatClampNeg (nI m)))) else some (nI 4294967282, h) else hb_235_14 h) = _
  rw [if_neg (by decide), if_pos (nI_le hm (by omega)), if_pos (nI_pos' (by omega)), nx_inb hk (by omega), nx_ck, nx_ck, nI_clamp (by omega), sp_235l hk]
  rfl
theorem sheet_ok {k ln m : Nat} {h : hs_H} (hk : k < 4) (hln : ln ≤ 2) (hm : m ≤ 40) (p : ∀ k, k < 4 → st_sheet k h) (k' : Nat) (hk' : k' < 4) : st_sheet k' (mk_m (mk_c h k (nI ln) (nI m)) k (nI ln) (nI m)) := by
  by_cases hkk : k' = k
  · subst hkk
    refine Or.inr ⟨ln, m, hln, hm, ?_, ?_, ?_, ?_, fun i hi => ?_⟩
    · unfold mk_m mk_c
      rw [nx_rowbget, if_neg (by omega)]
      simp (disch := omega) only [nq_nf, nq_nt, nq_le_t, nq_le_f, nq_lt_t, nq_lt_f, nq_eq_t, nq_eq_f, nq_neg, nq_pos, nq_le0f, nq_le0t, nq_lt0t, nq_lt0f, nq_eq0f, nq_eq0t, nI_add, nI_clamp, nx_inb, nx_ck, Option.bind_some, nx_get, nx_get2, nx_dif, nx_or, bI_0, bI_01, bI_nt, bI_nf, if_true, if_false, ite_true, ite_false, not_true_eq_false, not_false_eq_true, and_true, true_and, and_false, false_and, Bool.false_eq_true, Bool.true_eq_false, reduceCtorEq]
    · unfold mk_m mk_c
      rw [nx_rowbget, if_neg (by omega)]
      simp (disch := omega) only [nq_nf, nq_nt, nq_le_t, nq_le_f, nq_lt_t, nq_lt_f, nq_eq_t, nq_eq_f, nq_neg, nq_pos, nq_le0f, nq_le0t, nq_lt0t, nq_lt0f, nq_eq0f, nq_eq0t, nI_add, nI_clamp, nx_inb, nx_ck, Option.bind_some, nx_get, nx_get2, nx_dif, nx_or, bI_0, bI_01, bI_nt, bI_nf, if_true, if_false, ite_true, ite_false, not_true_eq_false, not_false_eq_true, and_true, true_and, and_false, false_and, Bool.false_eq_true, Bool.true_eq_false, reduceCtorEq]
    · unfold mk_m mk_c
      rw [nx_rowbget, if_neg (by omega)]
      simp (disch := omega) only [nq_nf, nq_nt, nq_le_t, nq_le_f, nq_lt_t, nq_lt_f, nq_eq_t, nq_eq_f, nq_neg, nq_pos, nq_le0f, nq_le0t, nq_lt0t, nq_lt0f, nq_eq0f, nq_eq0t, nI_add, nI_clamp, nx_inb, nx_ck, Option.bind_some, nx_get, nx_get2, nx_dif, nx_or, bI_0, bI_01, bI_nt, bI_nf, if_true, if_false, ite_true, ite_false, not_true_eq_false, not_false_eq_true, and_true, true_and, and_false, false_and, Bool.false_eq_true, Bool.true_eq_false, reduceCtorEq]
    · unfold mk_m mk_c
      rw [nx_rowbget, if_neg (by omega)]
      simp (disch := omega) only [nq_nf, nq_nt, nq_le_t, nq_le_f, nq_lt_t, nq_lt_f, nq_eq_t, nq_eq_f, nq_neg, nq_pos, nq_le0f, nq_le0t, nq_lt0t, nq_lt0f, nq_eq0f, nq_eq0t, nI_add, nI_clamp, nx_inb, nx_ck, Option.bind_some, nx_get, nx_get2, nx_dif, nx_or, bI_0, bI_01, bI_nt, bI_nf, if_true, if_false, ite_true, ite_false, not_true_eq_false, not_false_eq_true, and_true, true_and, and_false, false_and, Bool.false_eq_true, Bool.true_eq_false, reduceCtorEq]
    · unfold mk_m mk_c
      rw [nx_rowbget, if_neg (by omega), nx_rowbget, if_pos (by omega)]
      simp (disch := omega) only [nq_nf, nq_nt, nq_le_t, nq_le_f, nq_lt_t, nq_lt_f, nq_eq_t, nq_eq_f, nq_neg, nq_pos, nq_le0f, nq_le0t, nq_lt0t, nq_lt0f, nq_eq0f, nq_eq0t, nI_add, nI_clamp, nx_inb, nx_ck, Option.bind_some, nx_get, nx_get2, nx_dif, nx_or, bI_0, bI_01, bI_nt, bI_nf, if_true, if_false, ite_true, ite_false, not_true_eq_false, not_false_eq_true, and_true, true_and, and_false, false_and, Bool.false_eq_true, Bool.true_eq_false, reduceCtorEq]
      rw [nx_rowget, if_pos ⟨rfl, rfl, hi⟩]
  · refine st_sheet_pt ?_ ?_ ?_ ?_ (fun i hi => ?_) (p k' hk')
    · funext i
      unfold mk_m mk_c
      rw [nx_rowbget, if_neg (by omega)]
      simp (disch := omega) only [nx_rowget, nq_nf, nq_nt, nq_le_t, nq_le_f, nq_lt_t, nq_lt_f, nq_eq_t, nq_eq_f, nq_neg, nq_pos, nq_le0f, nq_le0t, nq_lt0t, nq_lt0f, nq_eq0f, nq_eq0t, nI_add, nI_clamp, nx_inb, nx_ck, Option.bind_some, nx_get, nx_get2, nx_dif, nx_or, bI_0, bI_01, bI_nt, bI_nf, if_true, if_false, ite_true, ite_false, not_true_eq_false, not_false_eq_true, and_true, true_and, and_false, false_and, Bool.false_eq_true, Bool.true_eq_false, reduceCtorEq]
    · funext i
      unfold mk_m mk_c
      rw [nx_rowbget, if_neg (by omega)]
      simp (disch := omega) only [nx_rowget, nq_nf, nq_nt, nq_le_t, nq_le_f, nq_lt_t, nq_lt_f, nq_eq_t, nq_eq_f, nq_neg, nq_pos, nq_le0f, nq_le0t, nq_lt0t, nq_lt0f, nq_eq0f, nq_eq0t, nI_add, nI_clamp, nx_inb, nx_ck, Option.bind_some, nx_get, nx_get2, nx_dif, nx_or, bI_0, bI_01, bI_nt, bI_nf, if_true, if_false, ite_true, ite_false, not_true_eq_false, not_false_eq_true, and_true, true_and, and_false, false_and, Bool.false_eq_true, Bool.true_eq_false, reduceCtorEq]
    · unfold mk_m mk_c
      rw [nx_rowbget, if_neg (by omega)]
      simp (disch := omega) only [nx_rowget, nq_nf, nq_nt, nq_le_t, nq_le_f, nq_lt_t, nq_lt_f, nq_eq_t, nq_eq_f, nq_neg, nq_pos, nq_le0f, nq_le0t, nq_lt0t, nq_lt0f, nq_eq0f, nq_eq0t, nI_add, nI_clamp, nx_inb, nx_ck, Option.bind_some, nx_get, nx_get2, nx_dif, nx_or, bI_0, bI_01, bI_nt, bI_nf, if_true, if_false, ite_true, ite_false, not_true_eq_false, not_false_eq_true, and_true, true_and, and_false, false_and, Bool.false_eq_true, Bool.true_eq_false, reduceCtorEq]
    · unfold mk_m mk_c
      rw [nx_rowbget, if_neg (by omega)]
      simp (disch := omega) only [nx_rowget, nq_nf, nq_nt, nq_le_t, nq_le_f, nq_lt_t, nq_lt_f, nq_eq_t, nq_eq_f, nq_neg, nq_pos, nq_le0f, nq_le0t, nq_lt0t, nq_lt0f, nq_eq0f, nq_eq0t, nI_add, nI_clamp, nx_inb, nx_ck, Option.bind_some, nx_get, nx_get2, nx_dif, nx_or, bI_0, bI_01, bI_nt, bI_nf, if_true, if_false, ite_true, ite_false, not_true_eq_false, not_false_eq_true, and_true, true_and, and_false, false_and, Bool.false_eq_true, Bool.true_eq_false, reduceCtorEq]
    · unfold mk_m mk_c
      rw [nx_rowbget, if_neg (by omega)]
      simp (disch := omega) only [nx_rowget, nq_nf, nq_nt, nq_le_t, nq_le_f, nq_lt_t, nq_lt_f, nq_eq_t, nq_eq_f, nq_neg, nq_pos, nq_le0f, nq_le0t, nq_lt0t, nq_lt0f, nq_eq0f, nq_eq0t, nI_add, nI_clamp, nx_inb, nx_ck, Option.bind_some, nx_get, nx_get2, nx_dif, nx_or, bI_0, bI_01, bI_nt, bI_nf, if_true, if_false, ite_true, ite_false, not_true_eq_false, not_false_eq_true, and_true, true_and, and_false, false_and, Bool.false_eq_true, Bool.true_eq_false, reduceCtorEq]
theorem i32_0le {n : Int32} (h : 0 ≤ n) (h2 : n ≤ nI 40) : ∃ m, m ≤ 40 ∧ n = nI m := by
  obtain ⟨j, hj, rfl⟩ := nI_of (x := n) (Int32.not_lt.mpr h)
  exact ⟨j, (nI_leI hj (by omega)).mp h2, rfl⟩
theorem cl_sheet (V : st_V VC VH VW) {a e n : Int32} : st_call VC VH VW (hf_139 a e n) (hf_235 a e n) := by
  intro b h hb p
  have pu : st_all VC VH VW (b + 100) h := p.up VC VH VW (by omega)
  cases h3 : rg 0 3 a with
  | false => exact ⟨nI 4294967295, h, h, sheet_c1 h3, sheet_m1 h3, pu⟩
  | true =>
    obtain ⟨k, -, hk, rfl⟩ := (rg_of (by omega)).mp h3
    cases h2 : rg 0 2 e with
    | false => exact ⟨nI 4294967295, h, h, sheet_c2 (by omega) h2, sheet_m2 h3 h2, pu⟩
    | true =>
      obtain ⟨ln, -, hln, rfl⟩ := (rg_of (by omega)).mp h2
      by_cases hn40 : n ≤ nI 40
      · by_cases hn0 : 0 ≤ n
        · obtain ⟨m, hm, rfl⟩ := i32_0le hn0 hn40
          have fc := mk_c_fr (h := h) (k := k) (ln := nI ln) (n := nI m)
          have fm := mk_m_fr (h := mk_c h k (nI ln) (nI m)) (k := k) (ln := nI ln) (n := nI m)
          have fn : hs_fr [(8, none), (32, none), (61, some 0), (62, some 0), (63, some 0)] h (mk_m (mk_c h k (nI ln) (nI m)) k (nI ln) (nI m)) := (fc.sub (hs_sub_cons (.inr (.head _)) (hs_sub_cons (.inr (.tail _ (.head _))) hs_sub_nil))).tr (fm.sub (hs_sub_cons (.inl (.tail _ (.tail _ (.head _)))) (hs_sub_cons (.inl (.tail _ (.tail _ (.tail _ (.head _))))) (hs_sub_cons (.inl (.tail _ (.tail _ (.tail _ (.tail _ (.head _)))))) hs_sub_nil))))
          have pp := p
          obtain ⟨_, _, _, _, _, _, _, _, _, _, _, _, _, _, _, _, _, _, _, _, rs⟩ := p
          exact ⟨nI 1, _, _, sheet_c5 (by omega) h2 hm, sheet_m5 (by omega) h3 h2 hm, (st_all_sh V fn rfl pp (sheet_ok (by omega) hln hm rs.1)).up VC VH VW (by omega)⟩
        · exact ⟨nI 4294967282, h, h, sheet_c4 (by omega) h2 hn40 hn0, sheet_m4 h3 h2 hn40 hn0, pu⟩
      · exact ⟨nI 4294967295, h, h, sheet_c3 (by omega) h2 hn40, sheet_m3 h3 h2 hn40, pu⟩
end CSh
