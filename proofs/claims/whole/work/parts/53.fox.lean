/-! The fox: begins, moves; smells. -/
/-- smells behind a move to i -/
def passS (W : Nat) (s : Nat → Nat) (i : Nat) : Nat → Nat := fun k => if k = i then (if W.testBit i = true then 0 else min 18 (s i - 1 + 9)) else s k - 1
theorem sp_87 {o : Nat} {h : hs_H} : hf_87 o h = some (hs_put (hs_put (hs_row h 33 o 10 (fun _ => nI 0)) 9 o 1 (nI 4294967292)) 9 o 2 (nI 0)) := by
  unfold hf_87
  have hl := lp_for (f := fun k s => hb_87_2 o k s.1 s.2) (st := fun i => (nI i, hs_row h 33 o i (fun _ => nI 0))) (e := 10) (X := some (hs_put (hs_put (hs_row h 33 o 10 (fun _ => nI 0)) 9 o 1 (nI 4294967292)) 9 o 2 (nI 0))) (fun i hi k => by
    show hb_87_2 o k (nI i) (hs_row h 33 o i (fun _ => nI 0)) = _
    unfold hb_87_2
    simp (disch := omega) only [hs_rowS h 33 o i (fun _ => nI 0), nq_nf, nq_nt, nq_le_t, nq_le_f, nq_lt_t, nq_lt_f, nq_eq_t, nq_eq_f, nq_neg, nq_pos, nq_le0f, nq_le0t, nq_lt0t, nq_lt0f, nq_eq0f, nq_eq0t, nI_add, nI_clamp, nx_inb, nx_ck, Option.bind_some, nx_get, nx_get2, nx_dif, nx_or, bI_0, bI_01, bI_nt, bI_nf, if_true, if_false, ite_true, ite_false, not_true_eq_false, not_false_eq_true, and_true, true_and, and_false, false_and, Bool.false_eq_true, Bool.true_eq_false, reduceCtorEq]) (fun k => by
    show hb_87_2 o k (nI 10) (hs_row h 33 o 10 (fun _ => nI 0)) = _
    unfold hb_87_2
    simp (disch := omega) only [nq_nf, nq_nt, nq_le_t, nq_le_f, nq_lt_t, nq_lt_f, nq_eq_t, nq_eq_f, nq_neg, nq_pos, nq_le0f, nq_le0t, nq_lt0t, nq_lt0f, nq_eq0f, nq_eq0t, nI_add, nI_clamp, nx_inb, nx_ck, Option.bind_some, nx_get, nx_get2, nx_dif, nx_or, bI_0, bI_01, bI_nt, bI_nf, if_true, if_false, ite_true, ite_false, not_true_eq_false, not_false_eq_true, and_true, true_and, and_false, false_and, Bool.false_eq_true, Bool.true_eq_false, reduceCtorEq]) 0 hs_big (by omega) (lp_big (by omega))
  rw [hs_row0] at hl
  exact hl
theorem sp_85 {a : Nat} {h : hs_H} (ha : a < 2147483648) : hf_85 (nI a) h = some (nI (a - 1), h) := by
  unfold hf_85 hb_85_11
  by_cases h0 : a = 0
  · subst h0
    simp (disch := omega) only [nq_nf, nq_nt, nq_le_t, nq_le_f, nq_lt_t, nq_lt_f, nq_eq_t, nq_eq_f, nq_neg, nq_pos, nq_le0f, nq_le0t, nq_lt0t, nq_lt0f, nq_eq0f, nq_eq0t, nI_add, nI_clamp, nx_inb, nx_ck, Option.bind_some, nx_get, nx_get2, nx_dif, nx_or, bI_0, bI_01, bI_nt, bI_nf, if_true, if_false, ite_true, ite_false, not_true_eq_false, not_false_eq_true, and_true, true_and, and_false, false_and, Bool.false_eq_true, Bool.true_eq_false, reduceCtorEq]
  · simp (disch := omega) only [pk_sub (show 1 ≤ a by omega), nq_nf, nq_nt, nq_le_t, nq_le_f, nq_lt_t, nq_lt_f, nq_eq_t, nq_eq_f, nq_neg, nq_pos, nq_le0f, nq_le0t, nq_lt0t, nq_lt0f, nq_eq0f, nq_eq0t, nI_add, nI_clamp, nx_inb, nx_ck, Option.bind_some, nx_get, nx_get2, nx_dif, nx_or, bI_0, bI_01, bI_nt, bI_nf, if_true, if_false, ite_true, ite_false, not_true_eq_false, not_false_eq_true, and_true, true_and, and_false, false_and, Bool.false_eq_true, Bool.true_eq_false, reduceCtorEq]
theorem sp_243 {a b : Nat} {h : hs_H} (ha : a < 2147483648) (hb : b < 2147483648) : hf_243 (nI a) (nI b) h = some (nI (min a b), h) := by
  unfold hf_243 hb_243_10
  by_cases h1 : b < a
  · simp (disch := omega) only [nq_nf, nq_nt, nq_le_t, nq_le_f, nq_lt_t, nq_lt_f, nq_eq_t, nq_eq_f, nq_neg, nq_pos, nq_le0f, nq_le0t, nq_lt0t, nq_lt0f, nq_eq0f, nq_eq0t, nI_add, nI_clamp, nx_inb, nx_ck, Option.bind_some, nx_get, nx_get2, nx_dif, nx_or, bI_0, bI_01, bI_nt, bI_nf, if_true, if_false, ite_true, ite_false, not_true_eq_false, not_false_eq_true, and_true, true_and, and_false, false_and, Bool.false_eq_true, Bool.true_eq_false, reduceCtorEq]
    rw [Nat.min_eq_right (by omega)]
  · simp (disch := omega) only [nq_nf, nq_nt, nq_le_t, nq_le_f, nq_lt_t, nq_lt_f, nq_eq_t, nq_eq_f, nq_neg, nq_pos, nq_le0f, nq_le0t, nq_lt0t, nq_lt0f, nq_eq0f, nq_eq0t, nI_add, nI_clamp, nx_inb, nx_ck, Option.bind_some, nx_get, nx_get2, nx_dif, nx_or, bI_0, bI_01, bI_nt, bI_nf, if_true, if_false, ite_true, ite_false, not_true_eq_false, not_false_eq_true, and_true, true_and, and_false, false_and, Bool.false_eq_true, Bool.true_eq_false, reduceCtorEq]
    rw [Nat.min_eq_left (by omega)]
theorem sp_86 {a : Nat} {w : Bool} {h : hs_H} (ha : a < 1000000) : hf_86 (nI a) (bI w) h = some (nI (if w = true then 0 else min 18 (a + 9)), h) := by
  unfold hf_86 hb_86_17
  cases w with
  | true => simp (disch := omega) only [nq_nf, nq_nt, nq_le_t, nq_le_f, nq_lt_t, nq_lt_f, nq_eq_t, nq_eq_f, nq_neg, nq_pos, nq_le0f, nq_le0t, nq_lt0t, nq_lt0f, nq_eq0f, nq_eq0t, nI_add, nI_clamp, nx_inb, nx_ck, Option.bind_some, nx_get, nx_get2, nx_dif, nx_or, bI_0, bI_01, bI_nt, bI_nf, if_true, if_false, ite_true, ite_false, not_true_eq_false, not_false_eq_true, and_true, true_and, and_false, false_and, Bool.false_eq_true, Bool.true_eq_false, reduceCtorEq]
  | false => simp (disch := omega) only [sp_243, nq_nf, nq_nt, nq_le_t, nq_le_f, nq_lt_t, nq_lt_f, nq_eq_t, nq_eq_f, nq_neg, nq_pos, nq_le0f, nq_le0t, nq_lt0t, nq_lt0f, nq_eq0f, nq_eq0t, nI_add, nI_clamp, nx_inb, nx_ck, Option.bind_some, nx_get, nx_get2, nx_dif, nx_or, bI_0, bI_01, bI_nt, bI_nf, if_true, if_false, ite_true, ite_false, not_true_eq_false, not_false_eq_true, and_true, true_and, and_false, false_and, Bool.false_eq_true, Bool.true_eq_false, reduceCtorEq]
/-- the row behind a move, put as the class puts it -/
def pass_c (h : hs_H) (o W : Nat) (s : Nat → Nat) (i : Nat) : hs_H := hs_put (hs_row h 33 o 10 (fun k => nI (s k - 1))) 33 o i (nI (if W.testBit i = true then 0 else min 18 (s i - 1 + 9)))
theorem sp_84 {o W i : Nat} {s : Nat → Nat} {h : hs_H} (hs : ∀ k, k < 10 → h.1 33 o k = nI (s k)) (hb : ∀ k, s k ≤ 1000) (hW : W < 2147483648) (hi : i < 10) : hf_84_33_33 o o (nI i) (nI W) h = some (pass_c h o W s i) := by
  unfold hf_84_33_33
  have hl := lp_for (f := fun k s => hb_84_33_33_3 o o k s.1 s.2.1 s.2.2.1 s.2.2.2) (st := fun j => (nI i, nI W, nI j, hs_row h 33 o j (fun k => nI (s k - 1)))) (e := 10) (X := some (pass_c h o W s i)) (fun j hj k => by
    show hb_84_33_33_3 o o k (nI i) (nI W) (nI j) (hs_row h 33 o j (fun k => nI (s k - 1))) = _
    unfold hb_84_33_33_3
    have e1 : (hs_row h 33 o j (fun k => nI (s k - 1))).1 33 o j = nI (s j) := by
      rw [nx_rowget, if_neg (by omega), hs j hj]
    have hsj : s j < 2147483648 := by have := hb j; omega
    simp (disch := omega) only [e1, sp_85 hsj, hs_rowS h 33 o j (fun k => nI (s k - 1)), nq_nf, nq_nt, nq_le_t, nq_le_f, nq_lt_t, nq_lt_f, nq_eq_t, nq_eq_f, nq_neg, nq_pos, nq_le0f, nq_le0t, nq_lt0t, nq_lt0f, nq_eq0f, nq_eq0t, nI_add, nI_clamp, nx_inb, nx_ck, Option.bind_some, nx_get, nx_get2, nx_dif, nx_or, bI_0, bI_01, bI_nt, bI_nf, if_true, if_false, ite_true, ite_false, not_true_eq_false, not_false_eq_true, and_true, true_and, and_false, false_and, Bool.false_eq_true, Bool.true_eq_false, reduceCtorEq]) (fun k => by
    show hb_84_33_33_3 o o k (nI i) (nI W) (nI 10) (hs_row h 33 o 10 (fun k => nI (s k - 1))) = _
    unfold hb_84_33_33_3 hb_84_33_33_41 hb_84_33_33_65
    have e1 : (hs_row h 33 o 10 (fun k => nI (s k - 1))).1 33 o i = nI (s i - 1) := by
      rw [nx_rowget, if_pos ⟨rfl, rfl, hi⟩]
    have hsi : s i - 1 < 1000000 := by have := hb i; omega
    simp (disch := omega) only [sp_147 hW, e1, sp_86 hsi, nq_nf, nq_nt, nq_le_t, nq_le_f, nq_lt_t, nq_lt_f, nq_eq_t, nq_eq_f, nq_neg, nq_pos, nq_le0f, nq_le0t, nq_lt0t, nq_lt0f, nq_eq0f, nq_eq0t, nI_add, nI_clamp, nx_inb, nx_ck, Option.bind_some, nx_get, nx_get2, nx_dif, nx_or, bI_0, bI_01, bI_nt, bI_nf, if_true, if_false, ite_true, ite_false, not_true_eq_false, not_false_eq_true, and_true, true_and, and_false, false_and, Bool.false_eq_true, Bool.true_eq_false, reduceCtorEq]
    rfl) 0 hs_big (by omega) (lp_big (by omega))
  rw [hs_row0] at hl
  exact hl
theorem pass_c_at {o W i : Nat} {s : Nat → Nat} {h : hs_H} (k : Nat) (hk : k < 10) : (pass_c h o W s i).1 33 o k = nI (passS W s i k) := by
  unfold pass_c passS
  by_cases h1 : k = i
  · subst h1
    rw [nx_get, if_pos ⟨rfl, rfl, rfl⟩, if_pos rfl]
  · rw [nx_get, if_neg (fun q => h1 q.2.2), if_neg h1, nx_rowget, if_pos ⟨rfl, rfl, hk⟩]
theorem pass_c_ne {o W i : Nat} {s : Nat → Nat} {h : hs_H} {c' i' : Nat} (hne : (c', i') ≠ (33, o)) : (pass_c h o W s i).1 c' i' = h.1 c' i' := by
  unfold pass_c
  rw [hs_put_ne hne]
  funext k
  rw [nx_rowget, if_neg (fun q => hne (by rw [q.1, q.2.1]))]
theorem passS_le {W i : Nat} {s : Nat → Nat} (hs : ∀ k, s k ≤ 18) (k : Nat) : passS W s i k ≤ 18 := by
  unfold passS
  have := hs k
  split
  · split
    · omega
    · exact Nat.min_le_left _ _
  · omega
theorem passS_hi {W i N : Nat} {s : Nat → Nat} (hs : ∀ k, N ≤ k → s k = 0) (hi : i < N) (k : Nat) (hk : N ≤ k) : passS W s i k = 0 := by
  unfold passS
  rw [if_neg (by omega), hs k hk]
theorem passS_W {W i : Nat} {s : Nat → Nat} (hs : ∀ k, W.testBit k = true → s k = 0) (k : Nat) (hk : W.testBit k = true) : passS W s i k = 0 := by
  unfold passS
  by_cases h1 : k = i
  · subst h1
    rw [if_pos rfl, if_pos hk]
  · rw [if_neg h1, hs k hk]
theorem ok_F_pass {N W i : Nat} {pl : Int32} {s : Nat → Nat} (ok : ok_F N W pl s) (hi : i < N) : ok_F N W (nI i) (passS W s i) :=
  ⟨Or.inr ⟨i, hi, rfl⟩, passS_le ok.2.1, passS_hi ok.2.2.1 hi, passS_W ok.2.2.2⟩
/-- the model's smell of a node -/
theorem sp_180 {W i : Nat} {h : hs_H} (hW : h.1 12 0 4 = nI W) (hb : W < 2147483648) (hi : i < 32) : hf_180 (nI i) h = some (bI (W.testBit i), h) := by
  unfold hf_180 hb_180_17
  rw [hW, nx_bit hb hi]
  cases W.testBit i <;> rfl
theorem sp_183 {W x k i : Nat} {h : hs_H} (hW : h.1 12 0 4 = nI W) (hb : W < 2147483648) (hx : x ≤ 1000) (hk : k < 32) (hi : i < 32) : hf_183 (nI x) (nI k) (nI i) h = some (nI (if W.testBit k = true then 0 else min 18 (if k = i then x - 1 + 9 else x - 1)), h) := by
  have e0 : ∀ y, y ≤ 2000 → hb_183_28 (nI k) (nI y) h = some (nI (if W.testBit k = true then 0 else min 18 y), h) := by
    intro y hy
    unfold hb_183_28 hb_183_56
    rw [sp_180 hW hb hk]
    cases W.testBit k with
    | true => simp (disch := omega) only [nq_nf, nq_nt, nq_le_t, nq_le_f, nq_lt_t, nq_lt_f, nq_eq_t, nq_eq_f, nq_neg, nq_pos, nq_le0f, nq_le0t, nq_lt0t, nq_lt0f, nq_eq0f, nq_eq0t, nI_add, nI_clamp, nx_inb, nx_ck, Option.bind_some, nx_get, nx_get2, nx_dif, nx_or, bI_0, bI_01, bI_nt, bI_nf, if_true, if_false, ite_true, ite_false, not_true_eq_false, not_false_eq_true, and_true, true_and, and_false, false_and, Bool.false_eq_true, Bool.true_eq_false, reduceCtorEq]
    | false =>
      by_cases h1 : y ≤ 18
      · simp (disch := omega) only [nq_nf, nq_nt, nq_le_t, nq_le_f, nq_lt_t, nq_lt_f, nq_eq_t, nq_eq_f, nq_neg, nq_pos, nq_le0f, nq_le0t, nq_lt0t, nq_lt0f, nq_eq0f, nq_eq0t, nI_add, nI_clamp, nx_inb, nx_ck, Option.bind_some, nx_get, nx_get2, nx_dif, nx_or, bI_0, bI_01, bI_nt, bI_nf, if_true, if_false, ite_true, ite_false, not_true_eq_false, not_false_eq_true, and_true, true_and, and_false, false_and, Bool.false_eq_true, Bool.true_eq_false, reduceCtorEq]
        rw [Nat.min_eq_right h1]
      · simp (disch := omega) only [nq_nf, nq_nt, nq_le_t, nq_le_f, nq_lt_t, nq_lt_f, nq_eq_t, nq_eq_f, nq_neg, nq_pos, nq_le0f, nq_le0t, nq_lt0t, nq_lt0f, nq_eq0f, nq_eq0t, nI_add, nI_clamp, nx_inb, nx_ck, Option.bind_some, nx_get, nx_get2, nx_dif, nx_or, bI_0, bI_01, bI_nt, bI_nf, if_true, if_false, ite_true, ite_false, not_true_eq_false, not_false_eq_true, and_true, true_and, and_false, false_and, Bool.false_eq_true, Bool.true_eq_false, reduceCtorEq]
        rw [Nat.min_eq_left (by omega)]
  unfold hf_183 hb_183_11
  by_cases h0 : x = 0
  · subst h0
    by_cases h1 : k = i
    · subst h1
      simp (disch := omega) only [e0, nq_nf, nq_nt, nq_le_t, nq_le_f, nq_lt_t, nq_lt_f, nq_eq_t, nq_eq_f, nq_neg, nq_pos, nq_le0f, nq_le0t, nq_lt0t, nq_lt0f, nq_eq0f, nq_eq0t, nI_add, nI_clamp, nx_inb, nx_ck, Option.bind_some, nx_get, nx_get2, nx_dif, nx_or, bI_0, bI_01, bI_nt, bI_nf, if_true, if_false, ite_true, ite_false, not_true_eq_false, not_false_eq_true, and_true, true_and, and_false, false_and, Bool.false_eq_true, Bool.true_eq_false, reduceCtorEq]
    · simp (disch := omega) only [e0, nq_nf, nq_nt, nq_le_t, nq_le_f, nq_lt_t, nq_lt_f, nq_eq_t, nq_eq_f, nq_neg, nq_pos, nq_le0f, nq_le0t, nq_lt0t, nq_lt0f, nq_eq0f, nq_eq0t, nI_add, nI_clamp, nx_inb, nx_ck, Option.bind_some, nx_get, nx_get2, nx_dif, nx_or, bI_0, bI_01, bI_nt, bI_nf, if_true, if_false, ite_true, ite_false, not_true_eq_false, not_false_eq_true, and_true, true_and, and_false, false_and, Bool.false_eq_true, Bool.true_eq_false, reduceCtorEq]
  · by_cases h1 : k = i
    · subst h1
      simp (disch := omega) only [pk_sub (show 1 ≤ x by omega), e0, nq_nf, nq_nt, nq_le_t, nq_le_f, nq_lt_t, nq_lt_f, nq_eq_t, nq_eq_f, nq_neg, nq_pos, nq_le0f, nq_le0t, nq_lt0t, nq_lt0f, nq_eq0f, nq_eq0t, nI_add, nI_clamp, nx_inb, nx_ck, Option.bind_some, nx_get, nx_get2, nx_dif, nx_or, bI_0, bI_01, bI_nt, bI_nf, if_true, if_false, ite_true, ite_false, not_true_eq_false, not_false_eq_true, and_true, true_and, and_false, false_and, Bool.false_eq_true, Bool.true_eq_false, reduceCtorEq]
    · simp (disch := omega) only [pk_sub (show 1 ≤ x by omega), e0, nq_nf, nq_nt, nq_le_t, nq_le_f, nq_lt_t, nq_lt_f, nq_eq_t, nq_eq_f, nq_neg, nq_pos, nq_le0f, nq_le0t, nq_lt0t, nq_lt0f, nq_eq0f, nq_eq0t, nI_add, nI_clamp, nx_inb, nx_ck, Option.bind_some, nx_get, nx_get2, nx_dif, nx_or, bI_0, bI_01, bI_nt, bI_nf, if_true, if_false, ite_true, ite_false, not_true_eq_false, not_false_eq_true, and_true, true_and, and_false, false_and, Bool.false_eq_true, Bool.true_eq_false, reduceCtorEq]
theorem smell_eq {W i k : Nat} {s : Nat → Nat} (hs : ∀ k, s k ≤ 18) (hW : ∀ k, W.testBit k = true → s k = 0) : (if W.testBit k = true then 0 else min 18 (if k = i then s k - 1 + 9 else s k - 1)) = passS W s i k := by
  unfold passS
  by_cases h1 : k = i
  · subst h1
    rw [if_pos rfl, if_pos rfl]
  · rw [if_neg h1, if_neg h1]
    have := hs k
    by_cases h2 : W.testBit k = true
    · rw [if_pos h2, hW k h2]
    · rw [if_neg h2, Nat.min_eq_right (by omega)]
