/-! lay. -/
def nar (ln : Nat) (v : Int32) : Int32 := if ln = 0 then v.toInt8.toInt32 else if ln = 1 then v.toInt16.toInt32 else v
theorem sub1_toInt {n : Nat} (hn : n ≤ 40) : (nI n - nI 1).toInt = (n : Int) - 1 := pk_sub_toInt (by omega) (by omega)
theorem nd_sub {n : Nat} {a : Int32} (hn : n ≤ 40) (h0 : ¬ a < 0) : (a ≤ nI n - nI 1) ↔ nd n a = true := by
  rw [Int32.le_iff_toInt_le, sub1_toInt hn]
  unfold nd
  rw [decide_eq_true_eq]
  have h1 : ¬ a.toInt < 0 := fun q => h0 (Int32.lt_iff_toInt_lt.mpr q)
  omega
theorem nd_neg {n : Nat} {a : Int32} (h0 : a < 0) : nd n a = false := by
  unfold nd
  have h1 : a.toInt < 0 := Int32.lt_iff_toInt_lt.mp h0
  exact decide_eq_false (by omega)
theorem sp_79 {o n : Nat} {a : Int32} {h : hs_H} (hn : h.1 8 o 2 = nI n) (hb : n ≤ 40) : hf_79 o a (nI 1) h = some (if nd n a = true then nI 0 else nI 2, h) := by
  have hq : ¬ nI n = nI 4294967292 := fun h9 => by have := nI_inj (by omega) (by omega) h9; omega
  unfold hf_79 hb_79_25 hb_79_30
  rw [hn, if_pos hq]
  by_cases h0 : a < 0
  · rw [if_pos h0, nd_neg h0, if_neg (by decide)]
  · rw [if_neg h0]
    by_cases h1 : a ≤ nI n - nI 1
    · rw [if_pos h1, if_pos ((nd_sub hb h0).mp h1)]
    · rw [if_neg h1, if_neg (fun q => h1 ((nd_sub hb h0).mpr q))]
theorem sp_79n {o : Nat} {a e : Int32} {h : hs_H} (hn : h.1 8 o 2 = nI 4294967292) : hf_79 o a e h = some (nI 1, h) := by
  unfold hf_79
  rw [hn, if_neg (fun q => q rfl)]
theorem sp_82 {o ln : Nat} {v : Int32} {h : hs_H} (hl : h.1 8 o 1 = nI ln) (hb : ln ≤ 2) : hf_82 o v h = some (nar ln v, h) := by
  unfold hf_82 nar
  have : ln = 0 ∨ ln = 1 ∨ ln = 2 := by omega
  rcases this with rfl | rfl | rfl
  · simp (disch := omega) only [hl, nq_nf, nq_nt, nq_le_t, nq_le_f, nq_lt_t, nq_lt_f, nq_eq_t, nq_eq_f, nq_neg, nq_pos, nq_le0f, nq_le0t, nq_lt0t, nq_lt0f, nq_eq0f, nq_eq0t, nI_add, nI_clamp, nx_inb, nx_ck, Option.bind_some, nx_get, nx_get2, nx_dif, nx_or, bI_0, bI_01, bI_nt, bI_nf, if_true, if_false, ite_true, ite_false, not_true_eq_false, not_false_eq_true, and_true, true_and, and_false, false_and, Bool.false_eq_true, Bool.true_eq_false, reduceCtorEq]
  · simp (disch := omega) only [hl, nq_nf, nq_nt, nq_le_t, nq_le_f, nq_lt_t, nq_lt_f, nq_eq_t, nq_eq_f, nq_neg, nq_pos, nq_le0f, nq_le0t, nq_lt0t, nq_lt0f, nq_eq0f, nq_eq0t, nI_add, nI_clamp, nx_inb, nx_ck, Option.bind_some, nx_get, nx_get2, nx_dif, nx_or, bI_0, bI_01, bI_nt, bI_nf, if_true, if_false, ite_true, ite_false, not_true_eq_false, not_false_eq_true, and_true, true_and, and_false, false_and, Bool.false_eq_true, Bool.true_eq_false, reduceCtorEq]
  · simp (disch := omega) only [hl, nq_nf, nq_nt, nq_le_t, nq_le_f, nq_lt_t, nq_lt_f, nq_eq_t, nq_eq_f, nq_neg, nq_pos, nq_le0f, nq_le0t, nq_lt0t, nq_lt0f, nq_eq0f, nq_eq0t, nI_add, nI_clamp, nx_inb, nx_ck, Option.bind_some, nx_get, nx_get2, nx_dif, nx_or, bI_0, bI_01, bI_nt, bI_nf, if_true, if_false, ite_true, ite_false, not_true_eq_false, not_false_eq_true, and_true, true_and, and_false, false_and, Bool.false_eq_true, Bool.true_eq_false, reduceCtorEq]
theorem sp_81 {o ln i : Nat} {v : Int32} {h : hs_H} (hl : h.1 8 o 1 = nI ln) (hb : ln ≤ 2) (hi : i < 40) : hf_81 o (nI i) v h = some (hs_put h 32 o i (nar ln v)) := by
  unfold hf_81 hb_81_21
  simp (disch := omega) only [sp_82 hl hb, nq_nf, nq_nt, nq_le_t, nq_le_f, nq_lt_t, nq_lt_f, nq_eq_t, nq_eq_f, nq_neg, nq_pos, nq_le0f, nq_le0t, nq_lt0t, nq_lt0f, nq_eq0f, nq_eq0t, nI_add, nI_clamp, nx_inb, nx_ck, Option.bind_some, nx_get, nx_get2, nx_dif, nx_or, bI_0, bI_01, bI_nt, bI_nf, if_true, if_false, ite_true, ite_false, not_true_eq_false, not_false_eq_true, and_true, true_and, and_false, false_and, Bool.false_eq_true, Bool.true_eq_false, reduceCtorEq]
theorem sp_140n {k : Nat} {a v : Int32} {h : hs_H} (hk : k < 4) (hn : h.1 8 k 2 = nI 4294967292) : hf_140 (nI k) a v h = some (nI 4294967285, h) := by
  unfold hf_140
  simp (disch := omega) only [nq_nf, nq_nt, nq_le_t, nq_le_f, nq_lt_t, nq_lt_f, nq_eq_t, nq_eq_f, nq_neg, nq_pos, nq_le0f, nq_le0t, nq_lt0t, nq_lt0f, nq_eq0f, nq_eq0t, nI_add, nI_clamp, nx_inb, nx_ck, Option.bind_some, nx_get, nx_get2, nx_dif, nx_or, bI_0, bI_01, bI_nt, bI_nf, if_true, if_false, ite_true, ite_false, not_true_eq_false, not_false_eq_true, and_true, true_and, and_false, false_and, Bool.false_eq_true, Bool.true_eq_false, reduceCtorEq]
  rw [sp_79n hn]
  simp (disch := omega) only [pk_sub (show 1 ≤ 4294967286 by omega), nq_nf, nq_nt, nq_le_t, nq_le_f, nq_lt_t, nq_lt_f, nq_eq_t, nq_eq_f, nq_neg, nq_pos, nq_le0f, nq_le0t, nq_lt0t, nq_lt0f, nq_eq0f, nq_eq0t, nI_add, nI_clamp, nx_inb, nx_ck, Option.bind_some, nx_get, nx_get2, nx_dif, nx_or, bI_0, bI_01, bI_nt, bI_nf, if_true, if_false, ite_true, ite_false, not_true_eq_false, not_false_eq_true, and_true, true_and, and_false, false_and, Bool.false_eq_true, Bool.true_eq_false, reduceCtorEq]
theorem sp_140b {k n : Nat} {a v : Int32} {h : hs_H} (hk : k < 4) (hn : h.1 8 k 2 = nI n) (hb : n ≤ 40) (hd : nd n a = false) : hf_140 (nI k) a v h = some (nI 4294967284, h) := by
  unfold hf_140
  simp (disch := omega) only [nq_nf, nq_nt, nq_le_t, nq_le_f, nq_lt_t, nq_lt_f, nq_eq_t, nq_eq_f, nq_neg, nq_pos, nq_le0f, nq_le0t, nq_lt0t, nq_lt0f, nq_eq0f, nq_eq0t, nI_add, nI_clamp, nx_inb, nx_ck, Option.bind_some, nx_get, nx_get2, nx_dif, nx_or, bI_0, bI_01, bI_nt, bI_nf, if_true, if_false, ite_true, ite_false, not_true_eq_false, not_false_eq_true, and_true, true_and, and_false, false_and, Bool.false_eq_true, Bool.true_eq_false, reduceCtorEq]
  rw [sp_79 hn hb, hd]
  simp (disch := omega) only [pk_sub (show 2 ≤ 4294967286 by omega), nq_nf, nq_nt, nq_le_t, nq_le_f, nq_lt_t, nq_lt_f, nq_eq_t, nq_eq_f, nq_neg, nq_pos, nq_le0f, nq_le0t, nq_lt0t, nq_lt0f, nq_eq0f, nq_eq0t, nI_add, nI_clamp, nx_inb, nx_ck, Option.bind_some, nx_get, nx_get2, nx_dif, nx_or, bI_0, bI_01, bI_nt, bI_nf, if_true, if_false, ite_true, ite_false, not_true_eq_false, not_false_eq_true, and_true, true_and, and_false, false_and, Bool.false_eq_true, Bool.true_eq_false, reduceCtorEq]
theorem sp_140 {k n ln i : Nat} {v : Int32} {h : hs_H} (hk : k < 4) (hn : h.1 8 k 2 = nI n) (hb : n ≤ 40) (hl : h.1 8 k 1 = nI ln) (hlb : ln ≤ 2) (hi : i < n) : hf_140 (nI k) (nI i) v h = some (nI 1, hs_put h 32 k i (nar ln v)) := by
  unfold hf_140
  simp (disch := omega) only [nq_nf, nq_nt, nq_le_t, nq_le_f, nq_lt_t, nq_lt_f, nq_eq_t, nq_eq_f, nq_neg, nq_pos, nq_le0f, nq_le0t, nq_lt0t, nq_lt0f, nq_eq0f, nq_eq0t, nI_add, nI_clamp, nx_inb, nx_ck, Option.bind_some, nx_get, nx_get2, nx_dif, nx_or, bI_0, bI_01, bI_nt, bI_nf, if_true, if_false, ite_true, ite_false, not_true_eq_false, not_false_eq_true, and_true, true_and, and_false, false_and, Bool.false_eq_true, Bool.true_eq_false, reduceCtorEq]
  have hi4 : i < 40 := by omega
  rw [sp_79 hn hb, nd_nI hi (by omega)]
  simp (disch := omega) only [sp_81 hl hlb hi4, nq_nf, nq_nt, nq_le_t, nq_le_f, nq_lt_t, nq_lt_f, nq_eq_t, nq_eq_f, nq_neg, nq_pos, nq_le0f, nq_le0t, nq_lt0t, nq_lt0f, nq_eq0f, nq_eq0t, nI_add, nI_clamp, nx_inb, nx_ck, Option.bind_some, nx_get, nx_get2, nx_dif, nx_or, bI_0, bI_01, bI_nt, bI_nf, if_true, if_false, ite_true, ite_false, not_true_eq_false, not_false_eq_true, and_true, true_and, and_false, false_and, Bool.false_eq_true, Bool.true_eq_false, reduceCtorEq]
theorem nd_150 {n : Nat} {a : Int32} {h : hs_H} (hb : n ≤ 40) : hf_150 a.toInt64 (lN 0) ((nI n - nI 1).toInt64) h = some (bI (nd n a), h) := by
  rw [sp_150, i64_of, i64_of, sub1_toInt hb, lN_t (by omega)]
  unfold nd
  congr 2
  congr 1
  exact decide_eq_decide.mpr (by omega)
theorem rg3 {k : Nat} (hk : k < 4) : (rg 0 3 (nI k) && rg 0 2 (nI 0)) = true := by
  rw [(rg_of (by omega)).mpr ⟨k, by omega, by omega, rfl⟩, (rg_of (by omega)).mpr ⟨0, by omega, by omega, rfl⟩]
  rfl
theorem sp_236n {k : Nat} {a v : Int32} {h : hs_H} (hk : k < 4) (hn : h.1 61 0 k = nI 4294967292) : hf_236 (nI k) a v h = some (nI 4294967285, h) := by
  unfold hf_236
  rw [sp_234, rg3 hk]
  simp (disch := omega) only [hn, nq_nf, nq_nt, nq_le_t, nq_le_f, nq_lt_t, nq_lt_f, nq_eq_t, nq_eq_f, nq_neg, nq_pos, nq_le0f, nq_le0t, nq_lt0t, nq_lt0f, nq_eq0f, nq_eq0t, nI_add, nI_clamp, nx_inb, nx_ck, Option.bind_some, nx_get, nx_get2, nx_dif, nx_or, bI_0, bI_01, bI_nt, bI_nf, if_true, if_false, ite_true, ite_false, not_true_eq_false, not_false_eq_true, and_true, true_and, and_false, false_and, Bool.false_eq_true, Bool.true_eq_false, reduceCtorEq]
theorem sp_236b {k n ln : Nat} {a v : Int32} {h : hs_H} (hk : k < 4) (hl : h.1 61 0 k = nI ln) (hlb : ln ≤ 2) (hn : h.1 62 0 k = nI n) (hb : n ≤ 40) (hd : nd n a = false) : hf_236 (nI k) a v h = some (nI 4294967284, h) := by
  have hq : (nI ln = nI 4294967292) = False := eq_false (fun h9 => by have := nI_inj (by omega) (by omega) h9; omega)
  unfold hf_236
  rw [sp_234, rg3 hk]
  simp (disch := omega) only [hl, hn, hq, nq_nf, nq_nt, nq_le_t, nq_le_f, nq_lt_t, nq_lt_f, nq_eq_t, nq_eq_f, nq_neg, nq_pos, nq_le0f, nq_le0t, nq_lt0t, nq_lt0f, nq_eq0f, nq_eq0t, nI_add, nI_clamp, nx_inb, nx_ck, Option.bind_some, nx_get, nx_get2, nx_dif, nx_or, bI_0, bI_01, bI_nt, bI_nf, if_true, if_false, ite_true, ite_false, not_true_eq_false, not_false_eq_true, and_true, true_and, and_false, false_and, Bool.false_eq_true, Bool.true_eq_false, reduceCtorEq]
  rw [nd_150 hb, hd]
  simp (disch := omega) only [nq_nf, nq_nt, nq_le_t, nq_le_f, nq_lt_t, nq_lt_f, nq_eq_t, nq_eq_f, nq_neg, nq_pos, nq_le0f, nq_le0t, nq_lt0t, nq_lt0f, nq_eq0f, nq_eq0t, nI_add, nI_clamp, nx_inb, nx_ck, Option.bind_some, nx_get, nx_get2, nx_dif, nx_or, bI_0, bI_01, bI_nt, bI_nf, if_true, if_false, ite_true, ite_false, not_true_eq_false, not_false_eq_true, and_true, true_and, and_false, false_and, Bool.false_eq_true, Bool.true_eq_false, reduceCtorEq]
theorem sp_236 {k n ln i : Nat} {v : Int32} {h : hs_H} (hk : k < 4) (hl : h.1 61 0 k = nI ln) (hlb : ln ≤ 2) (hn : h.1 62 0 k = nI n) (hb : n ≤ 40) (hi : i < n) : hf_236 (nI k) (nI i) v h = some (nI 1, hs_put h 63 0 (40 * k + i) (nar ln v)) := by
  have hq : (nI ln = nI 4294967292) = False := eq_false (fun h9 => by have := nI_inj (by omega) (by omega) h9; omega)
  unfold hf_236 hb_236_85
  rw [sp_234, rg3 hk]
  simp (disch := omega) only [hl, hn, hq, nq_nf, nq_nt, nq_le_t, nq_le_f, nq_lt_t, nq_lt_f, nq_eq_t, nq_eq_f, nq_neg, nq_pos, nq_le0f, nq_le0t, nq_lt0t, nq_lt0f, nq_eq0f, nq_eq0t, nI_add, nI_clamp, nx_inb, nx_ck, Option.bind_some, nx_get, nx_get2, nx_dif, nx_or, bI_0, bI_01, bI_nt, bI_nf, if_true, if_false, ite_true, ite_false, not_true_eq_false, not_false_eq_true, and_true, true_and, and_false, false_and, Bool.false_eq_true, Bool.true_eq_false, reduceCtorEq]
  rw [nd_150 hb, nd_nI hi (by omega)]
  unfold nar
  have : ln = 0 ∨ ln = 1 ∨ ln = 2 := by omega
  rcases this with rfl | rfl | rfl
  · simp (disch := omega) only [hl, pk_mul, nq_nf, nq_nt, nq_le_t, nq_le_f, nq_lt_t, nq_lt_f, nq_eq_t, nq_eq_f, nq_neg, nq_pos, nq_le0f, nq_le0t, nq_lt0t, nq_lt0f, nq_eq0f, nq_eq0t, nI_add, nI_clamp, nx_inb, nx_ck, Option.bind_some, nx_get, nx_get2, nx_dif, nx_or, bI_0, bI_01, bI_nt, bI_nf, if_true, if_false, ite_true, ite_false, not_true_eq_false, not_false_eq_true, and_true, true_and, and_false, false_and, Bool.false_eq_true, Bool.true_eq_false, reduceCtorEq]
  · simp (disch := omega) only [hl, pk_mul, nq_nf, nq_nt, nq_le_t, nq_le_f, nq_lt_t, nq_lt_f, nq_eq_t, nq_eq_f, nq_neg, nq_pos, nq_le0f, nq_le0t, nq_lt0t, nq_lt0f, nq_eq0f, nq_eq0t, nI_add, nI_clamp, nx_inb, nx_ck, Option.bind_some, nx_get, nx_get2, nx_dif, nx_or, bI_0, bI_01, bI_nt, bI_nf, if_true, if_false, ite_true, ite_false, not_true_eq_false, not_false_eq_true, and_true, true_and, and_false, false_and, Bool.false_eq_true, Bool.true_eq_false, reduceCtorEq]
  · simp (disch := omega) only [hl, pk_mul, nq_nf, nq_nt, nq_le_t, nq_le_f, nq_lt_t, nq_lt_f, nq_eq_t, nq_eq_f, nq_neg, nq_pos, nq_le0f, nq_le0t, nq_lt0t, nq_lt0f, nq_eq0f, nq_eq0t, nI_add, nI_clamp, nx_inb, nx_ck, Option.bind_some, nx_get, nx_get2, nx_dif, nx_or, bI_0, bI_01, bI_nt, bI_nf, if_true, if_false, ite_true, ite_false, not_true_eq_false, not_false_eq_true, and_true, true_and, and_false, false_and, Bool.false_eq_true, Bool.true_eq_false, reduceCtorEq]
theorem sp_140x {a e v : Int32} {h : hs_H} (h3 : rg 0 3 a = false) : hf_140 a e v h = some (nI 4294967295, h) := by
  unfold hf_140 hb_140_9
  rcases rg_f3 h3 with q | ⟨q1, q2⟩
  · rw [if_pos q]
  · rw [if_neg q1, if_neg (Int32.not_lt.mpr q2)]
theorem sp_236x {a e v : Int32} {h : hs_H} (h3 : rg 0 3 a = false) : hf_236 a e v h = some (nI 4294967295, h) := by
  unfold hf_236
  rw [sp_234, h3]
  simp (disch := omega) only [Bool.false_and, nq_nf, nq_nt, nq_le_t, nq_le_f, nq_lt_t, nq_lt_f, nq_eq_t, nq_eq_f, nq_neg, nq_pos, nq_le0f, nq_le0t, nq_lt0t, nq_lt0f, nq_eq0f, nq_eq0t, nI_add, nI_clamp, nx_inb, nx_ck, Option.bind_some, nx_get, nx_get2, nx_dif, nx_or, bI_0, bI_01, bI_nt, bI_nf, if_true, if_false, ite_true, ite_false, not_true_eq_false, not_false_eq_true, and_true, true_and, and_false, false_and, Bool.false_eq_true, Bool.true_eq_false, reduceCtorEq]
section CLy
variable {VC : Nat → (Nat → Nat) → Nat → Int32 → Int32 → hs_H → Prop} {VH : Nat → (Nat → Nat) → Nat → hs_H → Prop} {VW : st_VW}
theorem cl_lay (V : st_V VC VH VW) {a e v : Int32} : st_call VC VH VW (hf_140 a e v) (hf_236 a e v) := by
  intro b h hb p
  have pu : st_all VC VH VW (b + 100) h := p.up VC VH VW (by omega)
  cases h3 : rg 0 3 a with
  | false => exact ⟨nI 4294967295, h, h, sp_140x h3, sp_236x h3, pu⟩
  | true =>
    obtain ⟨k, -, hk, rfl⟩ := (rg_of (by omega)).mp h3
    have hk4 : k < 4 := by omega
    have pp := p
    obtain ⟨_, _, _, _, _, _, _, _, _, _, _, _, _, _, _, _, _, _, _, _, rs⟩ := p
    have rs1 := rs.1
    rcases rs1 k hk4 with ⟨q1, q2⟩ | ⟨ln, n, q1, q2, q3, q4, q5, q6, q7⟩
    · exact ⟨nI 4294967285, h, h, sp_140n hk4 q1, sp_236n hk4 q2, pu⟩
    · cases hd : nd n e with
      | false => exact ⟨nI 4294967284, h, h, sp_140b hk4 q5 q2 hd, sp_236b hk4 q4 q1 q6 q2 hd, pu⟩
      | true =>
        obtain ⟨i, hi, rfl⟩ := (nd_of (by omega)).mp hd
        have f : hs_fr [(32, none), (63, some 0)] h (hs_put (hs_put h 32 k i (nar ln v)) 63 0 (40 * k + i) (nar ln v)) := (hs_fr.rf.put (.inr (.head _))).put (.inl (.tail _ (.head _)))
        have s2 := sp_236 (k := k) (n := n) (ln := ln) (i := i) (v := v) (h := hs_put h 32 k i (nar ln v)) hk4 (by simp (disch := omega) only [q4, nq_nf, nq_nt, nq_le_t, nq_le_f, nq_lt_t, nq_lt_f, nq_eq_t, nq_eq_f, nq_neg, nq_pos, nq_le0f, nq_le0t, nq_lt0t, nq_lt0f, nq_eq0f, nq_eq0t, nI_add, nI_clamp, nx_inb, nx_ck, Option.bind_some, nx_get, nx_get2, nx_dif, nx_or, bI_0, bI_01, bI_nt, bI_nf, if_true, if_false, ite_true, ite_false, not_true_eq_false, not_false_eq_true, and_true, true_and, and_false, false_and, Bool.false_eq_true, Bool.true_eq_false, reduceCtorEq]) q1 (by simp (disch := omega) only [q6, nq_nf, nq_nt, nq_le_t, nq_le_f, nq_lt_t, nq_lt_f, nq_eq_t, nq_eq_f, nq_neg, nq_pos, nq_le0f, nq_le0t, nq_lt0t, nq_lt0f, nq_eq0f, nq_eq0t, nI_add, nI_clamp, nx_inb, nx_ck, Option.bind_some, nx_get, nx_get2, nx_dif, nx_or, bI_0, bI_01, bI_nt, bI_nf, if_true, if_false, ite_true, ite_false, not_true_eq_false, not_false_eq_true, and_true, true_and, and_false, false_and, Bool.false_eq_true, Bool.true_eq_false, reduceCtorEq]) q2 hi
        refine ⟨nI 1, _, _, sp_140 hk4 q5 q2 q3 q1 hi, s2, (st_all_sh V f rfl pp (fun k' hk' => ?_)).up VC VH VW (by omega)⟩
        by_cases hkk : k' = k
        · subst hkk
          refine Or.inr ⟨ln, n, q1, q2, ?_, ?_, ?_, ?_, fun j hj => ?_⟩
          · simp (disch := omega) only [q3, nq_nf, nq_nt, nq_le_t, nq_le_f, nq_lt_t, nq_lt_f, nq_eq_t, nq_eq_f, nq_neg, nq_pos, nq_le0f, nq_le0t, nq_lt0t, nq_lt0f, nq_eq0f, nq_eq0t, nI_add, nI_clamp, nx_inb, nx_ck, Option.bind_some, nx_get, nx_get2, nx_dif, nx_or, bI_0, bI_01, bI_nt, bI_nf, if_true, if_false, ite_true, ite_false, not_true_eq_false, not_false_eq_true, and_true, true_and, and_false, false_and, Bool.false_eq_true, Bool.true_eq_false, reduceCtorEq]
          · simp (disch := omega) only [q4, nq_nf, nq_nt, nq_le_t, nq_le_f, nq_lt_t, nq_lt_f, nq_eq_t, nq_eq_f, nq_neg, nq_pos, nq_le0f, nq_le0t, nq_lt0t, nq_lt0f, nq_eq0f, nq_eq0t, nI_add, nI_clamp, nx_inb, nx_ck, Option.bind_some, nx_get, nx_get2, nx_dif, nx_or, bI_0, bI_01, bI_nt, bI_nf, if_true, if_false, ite_true, ite_false, not_true_eq_false, not_false_eq_true, and_true, true_and, and_false, false_and, Bool.false_eq_true, Bool.true_eq_false, reduceCtorEq]
          · simp (disch := omega) only [q5, nq_nf, nq_nt, nq_le_t, nq_le_f, nq_lt_t, nq_lt_f, nq_eq_t, nq_eq_f, nq_neg, nq_pos, nq_le0f, nq_le0t, nq_lt0t, nq_lt0f, nq_eq0f, nq_eq0t, nI_add, nI_clamp, nx_inb, nx_ck, Option.bind_some, nx_get, nx_get2, nx_dif, nx_or, bI_0, bI_01, bI_nt, bI_nf, if_true, if_false, ite_true, ite_false, not_true_eq_false, not_false_eq_true, and_true, true_and, and_false, false_and, Bool.false_eq_true, Bool.true_eq_false, reduceCtorEq]
          · simp (disch := omega) only [q6, nq_nf, nq_nt, nq_le_t, nq_le_f, nq_lt_t, nq_lt_f, nq_eq_t, nq_eq_f, nq_neg, nq_pos, nq_le0f, nq_le0t, nq_lt0t, nq_lt0f, nq_eq0f, nq_eq0t, nI_add, nI_clamp, nx_inb, nx_ck, Option.bind_some, nx_get, nx_get2, nx_dif, nx_or, bI_0, bI_01, bI_nt, bI_nf, if_true, if_false, ite_true, ite_false, not_true_eq_false, not_false_eq_true, and_true, true_and, and_false, false_and, Bool.false_eq_true, Bool.true_eq_false, reduceCtorEq]
          · by_cases hji : j = i
            · subst hji
              simp (disch := omega) only [nq_nf, nq_nt, nq_le_t, nq_le_f, nq_lt_t, nq_lt_f, nq_eq_t, nq_eq_f, nq_neg, nq_pos, nq_le0f, nq_le0t, nq_lt0t, nq_lt0f, nq_eq0f, nq_eq0t, nI_add, nI_clamp, nx_inb, nx_ck, Option.bind_some, nx_get, nx_get2, nx_dif, nx_or, bI_0, bI_01, bI_nt, bI_nf, if_true, if_false, ite_true, ite_false, not_true_eq_false, not_false_eq_true, and_true, true_and, and_false, false_and, Bool.false_eq_true, Bool.true_eq_false, reduceCtorEq]
            · simp (disch := omega) only [nq_nf, nq_nt, nq_le_t, nq_le_f, nq_lt_t, nq_lt_f, nq_eq_t, nq_eq_f, nq_neg, nq_pos, nq_le0f, nq_le0t, nq_lt0t, nq_lt0f, nq_eq0f, nq_eq0t, nI_add, nI_clamp, nx_inb, nx_ck, Option.bind_some, nx_get, nx_get2, nx_dif, nx_or, bI_0, bI_01, bI_nt, bI_nf, if_true, if_false, ite_true, ite_false, not_true_eq_false, not_false_eq_true, and_true, true_and, and_false, false_and, Bool.false_eq_true, Bool.true_eq_false, reduceCtorEq]
              exact q7 j hj
        · refine st_sheet_pt ?_ ?_ ?_ ?_ (fun j hj => ?_) (rs1 k' hk')
          · funext x
            simp (disch := omega) only [nq_nf, nq_nt, nq_le_t, nq_le_f, nq_lt_t, nq_lt_f, nq_eq_t, nq_eq_f, nq_neg, nq_pos, nq_le0f, nq_le0t, nq_lt0t, nq_lt0f, nq_eq0f, nq_eq0t, nI_add, nI_clamp, nx_inb, nx_ck, Option.bind_some, nx_get, nx_get2, nx_dif, nx_or, bI_0, bI_01, bI_nt, bI_nf, if_true, if_false, ite_true, ite_false, not_true_eq_false, not_false_eq_true, and_true, true_and, and_false, false_and, Bool.false_eq_true, Bool.true_eq_false, reduceCtorEq]
          · funext x
            simp (disch := omega) only [nq_nf, nq_nt, nq_le_t, nq_le_f, nq_lt_t, nq_lt_f, nq_eq_t, nq_eq_f, nq_neg, nq_pos, nq_le0f, nq_le0t, nq_lt0t, nq_lt0f, nq_eq0f, nq_eq0t, nI_add, nI_clamp, nx_inb, nx_ck, Option.bind_some, nx_get, nx_get2, nx_dif, nx_or, bI_0, bI_01, bI_nt, bI_nf, if_true, if_false, ite_true, ite_false, not_true_eq_false, not_false_eq_true, and_true, true_and, and_false, false_and, Bool.false_eq_true, Bool.true_eq_false, reduceCtorEq]
          · simp (disch := omega) only [nq_nf, nq_nt, nq_le_t, nq_le_f, nq_lt_t, nq_lt_f, nq_eq_t, nq_eq_f, nq_neg, nq_pos, nq_le0f, nq_le0t, nq_lt0t, nq_lt0f, nq_eq0f, nq_eq0t, nI_add, nI_clamp, nx_inb, nx_ck, Option.bind_some, nx_get, nx_get2, nx_dif, nx_or, bI_0, bI_01, bI_nt, bI_nf, if_true, if_false, ite_true, ite_false, not_true_eq_false, not_false_eq_true, and_true, true_and, and_false, false_and, Bool.false_eq_true, Bool.true_eq_false, reduceCtorEq]
          · simp (disch := omega) only [nq_nf, nq_nt, nq_le_t, nq_le_f, nq_lt_t, nq_lt_f, nq_eq_t, nq_eq_f, nq_neg, nq_pos, nq_le0f, nq_le0t, nq_lt0t, nq_lt0f, nq_eq0f, nq_eq0t, nI_add, nI_clamp, nx_inb, nx_ck, Option.bind_some, nx_get, nx_get2, nx_dif, nx_or, bI_0, bI_01, bI_nt, bI_nf, if_true, if_false, ite_true, ite_false, not_true_eq_false, not_false_eq_true, and_true, true_and, and_false, false_and, Bool.false_eq_true, Bool.true_eq_false, reduceCtorEq]
          · simp (disch := omega) only [nq_nf, nq_nt, nq_le_t, nq_le_f, nq_lt_t, nq_lt_f, nq_eq_t, nq_eq_f, nq_neg, nq_pos, nq_le0f, nq_le0t, nq_lt0t, nq_lt0f, nq_eq0f, nq_eq0t, nI_add, nI_clamp, nx_inb, nx_ck, Option.bind_some, nx_get, nx_get2, nx_dif, nx_or, bI_0, bI_01, bI_nt, bI_nf, if_true, if_false, ite_true, ite_false, not_true_eq_false, not_false_eq_true, and_true, true_and, and_false, false_and, Bool.false_eq_true, Bool.true_eq_false, reduceCtorEq]
end CLy
