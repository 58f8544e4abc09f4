/-! season: a turn, a hunt. -/
theorem sp_89g {o W i : Nat} {h : hs_H} (hW : W < 2147483648) (hi : i < 10) : hf_89 o (nI i) (nI W) h = some (hs_put (pass_c (hs_put (hs_put (hs_row h 33 o 10 (fun _ => nI 0)) 9 o 1 (nI 4294967292)) 9 o 2 (nI 0)) o W (fun _ => 0) i) 9 o 1 (nI i)) := by
  unfold hf_89
  rw [sp_87, Option.bind_some, sp_84 (s := fun _ => 0) (fun k hk => by simp (disch := omega) only [nx_rowget, nq_nf, nq_nt, nq_le_t, nq_le_f, nq_lt_t, nq_lt_f, nq_eq_t, nq_eq_f, nq_neg, nq_pos, nq_le0f, nq_le0t, nq_lt0t, nq_lt0f, nq_eq0f, nq_eq0t, nI_add, nI_clamp, nx_inb, nx_ck, Option.bind_some, nx_get, nx_get2, nx_dif, nx_or, bI_0, bI_01, bI_nt, bI_nf, if_true, if_false, ite_true, ite_false, not_true_eq_false, not_false_eq_true, and_true, true_and, and_false, false_and, Bool.false_eq_true, Bool.true_eq_false, reduceCtorEq]; rw [if_pos hk]) (fun _ => Nat.zero_le _) hW hi, Option.bind_some]
theorem sp_90g {o W i : Nat} {s : Nat → Nat} {h : hs_H} (hs : ∀ k, k < 10 → h.1 33 o k = nI (s k)) (hb : ∀ k, s k ≤ 18) (hW : W < 2147483648) (hi : i < 10) : ∃ v, hf_90 o (nI i) (nI W) h = some (hs_put (hs_put (pass_c h o W s i) 9 o 1 (nI i)) 9 o 2 v) := by
  unfold hf_90
  rw [sp_84 hs (fun k => by have := hb k; omega) hW hi, Option.bind_some]
  exact ⟨_, rfl⟩
/-- the strongest, in numbers -/
def bso (s : Nat → Nat) (m : Nat) : Nat → Nat × Nat
  | 0 => (4294967292, 0)
  | k + 1 => if m.testBit k = true ∧ (bso s m k).2 < s k then (k, s k) else bso s m k
theorem bst_o {s : Nat → Nat} {m : Nat} : ∀ n, bst s m n = (nI (bso s m n).1, (bso s m n).2) := by
  intro n
  induction n with
  | zero => rfl
  | succ n ih =>
    show (if m.testBit n = true ∧ (bst s m n).2 < s n then (nI n, s n) else bst s m n) = (nI (if m.testBit n = true ∧ (bso s m n).2 < s n then (n, s n) else bso s m n).1, (if m.testBit n = true ∧ (bso s m n).2 < s n then (n, s n) else bso s m n).2)
    rw [ih]
    by_cases c : m.testBit n = true ∧ (bso s m n).2 < s n
    · rw [if_pos c, if_pos c]
    · rw [if_neg c, if_neg c]
theorem bso_in {s : Nat → Nat} {m : Nat} : ∀ n, (bso s m n).1 = 4294967292 ∨ m.testBit (bso s m n).1 = true := by
  intro n
  induction n with
  | zero => exact Or.inl rfl
  | succ n ih =>
    show (if m.testBit n = true ∧ (bso s m n).2 < s n then (n, s n) else bso s m n).1 = 4294967292 ∨ m.testBit (if m.testBit n = true ∧ (bso s m n).2 < s n then (n, s n) else bso s m n).1 = true
    by_cases c : m.testBit n = true ∧ (bso s m n).2 < s n
    · rw [if_pos c]; exact Or.inr c.1
    · rw [if_neg c]; exact ih
theorem bso_0 {s : Nat → Nat} : ∀ n, bso s 0 n = (4294967292, 0) := by
  intro n
  induction n with
  | zero => rfl
  | succ n ih =>
    show (if (0 : Nat).testBit n = true ∧ (bso s 0 n).2 < s n then (n, s n) else bso s 0 n) = _
    rw [if_neg (fun q => by rw [Nat.zero_testBit] at q; exact absurd q.1 (by decide)), ih]
theorem bso_hi {s : Nat → Nat} {m N : Nat} (hm : m < 2 ^ N) : ∀ d, bso s m (N + d) = bso s m N := by
  intro d
  induction d with
  | zero => rfl
  | succ d ih =>
    show (if m.testBit (N + d) = true ∧ (bso s m (N + d)).2 < s (N + d) then (N + d, s (N + d)) else bso s m (N + d)) = _
    rw [if_neg (fun q => by rw [tb_hi hm (by omega)] at q; exact absurd q.1 (by decide)), ih]
theorem bso_le {s : Nat → Nat} {m : Nat} (hs : ∀ k, s k ≤ 18) : ∀ n, (bso s m n).2 ≤ 18 := by
  intro n
  induction n with
  | zero => exact Nat.zero_le _
  | succ n ih =>
    show (if m.testBit n = true ∧ (bso s m n).2 < s n then (n, s n) else bso s m n).2 ≤ 18
    by_cases c : m.testBit n = true ∧ (bso s m n).2 < s n
    · rw [if_pos c]; exact hs n
    · rw [if_neg c]; exact ih
/-- caught, turns so far, the seed, fox, hound, smells -/
abbrev sT : Type := Bool × Nat × Int32 × Nat × Nat × (Nat → Nat)
section TR
variable (J : Nat → Nat) (re W : Nat)
def tF (x : Int32) (f : Nat) : Nat := if mvs J re f = 0 then f else pkn (mvs J re f) (drw (nxt x) % pcn 10 (mvs J re f)) 10
def tX (x : Int32) (f : Nat) : Int32 := if mvs J re f = 0 then x else nxt x
def hM (s : Nat → Nat) (x : Int32) (hd : Nat) : Nat := if J hd = 0 then hd else if (bso s (J hd) 10).1 = 4294967292 then pkn (J hd) (drw (nxt x) % pcn 10 (J hd)) 10 else (bso s (J hd) 10).1
def hX (s : Nat → Nat) (x : Int32) (hd : Nat) : Int32 := if J hd = 0 then x else if (bso s (J hd) 10).1 = 4294967292 then nxt x else x
def trn (c : Nat) (x : Int32) (f hd : Nat) (s : Nat → Nat) : sT :=
  if tF J re x f = hd then (true, c + 1, tX J re x f, tF J re x f, hd, passS W s (tF J re x f)) else (decide (tF J re x f = hM J (passS W s (tF J re x f)) (tX J re x f) hd), c + 1, hX J (passS W s (tF J re x f)) (tX J re x f) hd, tF J re x f, hM J (passS W s (tF J re x f)) (tX J re x f) hd, passS W s (tF J re x f))
def hT (S : sT) : Nat → sT
  | 0 => S
  | t + 1 => if (hT S t).1 = true then hT S t else trn J re W (hT S t).2.1 (hT S t).2.2.1 (hT S t).2.2.2.1 (hT S t).2.2.2.2.1 (hT S t).2.2.2.2.2
def sOK (N : Nat) (f hd : Nat) (s : Nat → Nat) : Prop := f < N ∧ hd < N ∧ (∀ k, s k ≤ 18) ∧ (∀ k, N ≤ k → s k = 0) ∧ ∀ k, W.testBit k = true → s k = 0
end TR
section TS
variable {J : Nat → Nat} {re W N : Nat}
theorem tF_lt {x : Int32} {f : Nat} (hN : N ≤ 10) (hJ : ∀ k, J k < 2 ^ N) (hre : re = 0 ∨ re = 1) (hf : f < N) : tF J re x f < N := by
  have hp := p2_lt hN
  have hm := mvs_lt (re := re) hJ hre hf
  unfold tF
  by_cases h : mvs J re f = 0
  · rw [if_pos h]; exact hf
  · rw [if_neg h]
    exact (pkn_lt hN hm (Nat.mod_lt _ (pcn_pos (n := 10) (by omega) h))).1
theorem hM_lt {x : Int32} {hd : Nat} {s : Nat → Nat} (hN : N ≤ 10) (hJ : ∀ k, J k < 2 ^ N) (hd1 : hd < N) : hM J s x hd < N := by
  have hp := p2_lt hN
  have hm := hJ hd
  unfold hM
  by_cases h : J hd = 0
  · rw [if_pos h]; exact hd1
  · rw [if_neg h]
    by_cases h2 : (bso s (J hd) 10).1 = 4294967292
    · rw [if_pos h2]
      exact (pkn_lt hN hm (Nat.mod_lt _ (pcn_pos (n := 10) (by omega) h))).1
    · rw [if_neg h2]
      exact tb_in hm ((bso_in 10).resolve_left h2)
theorem trn_ok {x : Int32} {c f hd : Nat} {s : Nat → Nat} (hN : N ≤ 10) (hJ : ∀ k, J k < 2 ^ N) (hre : re = 0 ∨ re = 1) (ok : sOK W N f hd s) : sOK W N (trn J re W c x f hd s).2.2.2.1 (trn J re W c x f hd s).2.2.2.2.1 (trn J re W c x f hd s).2.2.2.2.2 := by
  obtain ⟨o1, o2, o3, o4, o5⟩ := ok
  have h1 := tF_lt (x := x) hN hJ hre o1
  unfold trn
  by_cases h : tF J re x f = hd
  · rw [if_pos h]
    exact ⟨h1, o2, passS_le o3, passS_hi o4 h1, passS_W o5⟩
  · rw [if_neg h]
    exact ⟨h1, hM_lt hN hJ o2, passS_le o3, passS_hi o4 h1, passS_W o5⟩
theorem hT_ok {S : sT} (hN : N ≤ 10) (hJ : ∀ k, J k < 2 ^ N) (hre : re = 0 ∨ re = 1) (ok : sOK W N S.2.2.2.1 S.2.2.2.2.1 S.2.2.2.2.2) : ∀ t, sOK W N (hT J re W S t).2.2.2.1 (hT J re W S t).2.2.2.2.1 (hT J re W S t).2.2.2.2.2 := by
  intro t
  induction t with
  | zero => exact ok
  | succ t ih =>
    unfold hT
    by_cases h : (hT J re W S t).1 = true
    · rw [if_pos h]; exact ih
    · rw [if_neg h]; exact trn_ok hN hJ hre ih
theorem hT_stay {S : sT} {t : Nat} (h : (hT J re W S t).1 = true) : ∀ d, hT J re W S (t + d) = hT J re W S t := by
  intro d
  induction d with
  | zero => rfl
  | succ d ih =>
    show (if (hT J re W S (t + d)).1 = true then hT J re W S (t + d) else _) = _
    rw [ih, if_pos h]
theorem hT_S {S : sT} {t : Nat} (h : (hT J re W S t).1 = false) : hT J re W S (t + 1) = trn J re W (hT J re W S t).2.1 (hT J re W S t).2.2.1 (hT J re W S t).2.2.2.1 (hT J re W S t).2.2.2.2.1 (hT J re W S t).2.2.2.2.2 := by
  show (if (hT J re W S t).1 = true then hT J re W S t else _) = _
  rw [h, if_neg Bool.false_ne_true]
/-- the class's heap in a season -/
def sea_c (h0 H : hs_H) (x : Int32) (ct tn f : Nat) (s : Nat → Nat) : Prop := hs_fr [(7, some 0), (9, some 1), (33, some 1)] h0 H ∧ H.1 7 0 2 = x ∧ H.1 7 0 3 = nI ct ∧ H.1 7 0 4 = nI tn ∧ H.1 9 1 1 = nI f ∧ ∀ k, k < 10 → H.1 33 1 k = nI (s k)
/-- what of the net is read -/
def sea_n (h : hs_H) (N re W : Nat) (J : Nat → Nat) : Prop := h.1 4 0 1 = nI N ∧ h.1 4 0 2 = nI re ∧ h.1 4 0 4 = nI W ∧ ∀ k, k < 10 → h.1 27 0 k = nI (J k)
theorem sea_n_fr {h H : hs_H} (f : hs_fr [(7, some 0), (9, some 1), (33, some 1)] h H) (p : sea_n h N re W J) : sea_n H N re W J := by
  have e1 : H.1 4 0 = h.1 4 0 := (f 4 0 (by intro q hq; revert q; simp)).1
  have e2 : H.1 27 0 = h.1 27 0 := (f 27 0 (by intro q hq; revert q; simp)).1
  unfold sea_n
  rw [e1, e2]
  exact p
theorem sea_put {h0 H : hs_H} {x : Int32} {ct tn f : Nat} {s : Nat → Nat} (y : Int32) (p : sea_c h0 H x ct tn f s) : sea_c h0 (hs_put H 7 0 2 y) y ct tn f s := by
  obtain ⟨p1, p2, p3, p4, p5, p6⟩ := p
  refine ⟨p1.put (.inl (.head _)), ?_, ?_, ?_, ?_, fun k hk => ?_⟩
  · simp (disch := omega) only [nq_nf, nq_nt, nq_le_t, nq_le_f, nq_lt_t, nq_lt_f, nq_eq_t, nq_eq_f, nq_neg, nq_pos, nq_le0f, nq_le0t, nq_lt0t, nq_lt0f, nq_eq0f, nq_eq0t, nI_add, nI_clamp, nx_inb, nx_ck, Option.bind_some, nx_get, nx_get2, nx_dif, nx_or, bI_0, bI_01, bI_nt, bI_nf, if_true, if_false, ite_true, ite_false, not_true_eq_false, not_false_eq_true, and_true, true_and, and_false, false_and, Bool.false_eq_true, Bool.true_eq_false, reduceCtorEq]
  · simp (disch := omega) only [p3, nq_nf, nq_nt, nq_le_t, nq_le_f, nq_lt_t, nq_lt_f, nq_eq_t, nq_eq_f, nq_neg, nq_pos, nq_le0f, nq_le0t, nq_lt0t, nq_lt0f, nq_eq0f, nq_eq0t, nI_add, nI_clamp, nx_inb, nx_ck, Option.bind_some, nx_get, nx_get2, nx_dif, nx_or, bI_0, bI_01, bI_nt, bI_nf, if_true, if_false, ite_true, ite_false, not_true_eq_false, not_false_eq_true, and_true, true_and, and_false, false_and, Bool.false_eq_true, Bool.true_eq_false, reduceCtorEq]
  · simp (disch := omega) only [p4, nq_nf, nq_nt, nq_le_t, nq_le_f, nq_lt_t, nq_lt_f, nq_eq_t, nq_eq_f, nq_neg, nq_pos, nq_le0f, nq_le0t, nq_lt0t, nq_lt0f, nq_eq0f, nq_eq0t, nI_add, nI_clamp, nx_inb, nx_ck, Option.bind_some, nx_get, nx_get2, nx_dif, nx_or, bI_0, bI_01, bI_nt, bI_nf, if_true, if_false, ite_true, ite_false, not_true_eq_false, not_false_eq_true, and_true, true_and, and_false, false_and, Bool.false_eq_true, Bool.true_eq_false, reduceCtorEq]
  · simp (disch := omega) only [p5, nq_nf, nq_nt, nq_le_t, nq_le_f, nq_lt_t, nq_lt_f, nq_eq_t, nq_eq_f, nq_neg, nq_pos, nq_le0f, nq_le0t, nq_lt0t, nq_lt0f, nq_eq0f, nq_eq0t, nI_add, nI_clamp, nx_inb, nx_ck, Option.bind_some, nx_get, nx_get2, nx_dif, nx_or, bI_0, bI_01, bI_nt, bI_nf, if_true, if_false, ite_true, ite_false, not_true_eq_false, not_false_eq_true, and_true, true_and, and_false, false_and, Bool.false_eq_true, Bool.true_eq_false, reduceCtorEq]
  · simp (disch := omega) only [p6, nq_nf, nq_nt, nq_le_t, nq_le_f, nq_lt_t, nq_lt_f, nq_eq_t, nq_eq_f, nq_neg, nq_pos, nq_le0f, nq_le0t, nq_lt0t, nq_lt0f, nq_eq0f, nq_eq0t, nI_add, nI_clamp, nx_inb, nx_ck, Option.bind_some, nx_get, nx_get2, nx_dif, nx_or, bI_0, bI_01, bI_nt, bI_nf, if_true, if_false, ite_true, ite_false, not_true_eq_false, not_false_eq_true, and_true, true_and, and_false, false_and, Bool.false_eq_true, Bool.true_eq_false, reduceCtorEq]
theorem sea_move {h0 H : hs_H} {x : Int32} {ct tn f i : Nat} {s : Nat → Nat} (hi : i < 10) (hs : ∀ k, s k ≤ 18) (hW : W < 2147483648) (p : sea_c h0 H x ct tn f s) : ∃ H', hf_90 1 (nI i) (nI W) H = some H' ∧ sea_c h0 H' x ct tn i (passS W s i) := by
  obtain ⟨p1, p2, p3, p4, p5, p6⟩ := p
  obtain ⟨v, hv⟩ := sp_90g (o := 1) (W := W) (i := i) p6 hs hW hi
  refine ⟨_, hv, ((p1.tr (pass_c_fr (.inl (.tail _ (.tail _ (.head _)))))).put (.inl (.tail _ (.head _)))).put (.inl (.tail _ (.head _))), ?_, ?_, ?_, ?_, fun k hk => ?_⟩
  · simp (disch := omega) only [nq_nf, nq_nt, nq_le_t, nq_le_f, nq_lt_t, nq_lt_f, nq_eq_t, nq_eq_f, nq_neg, nq_pos, nq_le0f, nq_le0t, nq_lt0t, nq_lt0f, nq_eq0f, nq_eq0t, nI_add, nI_clamp, nx_inb, nx_ck, Option.bind_some, nx_get, nx_get2, nx_dif, nx_or, bI_0, bI_01, bI_nt, bI_nf, if_true, if_false, ite_true, ite_false, not_true_eq_false, not_false_eq_true, and_true, true_and, and_false, false_and, Bool.false_eq_true, Bool.true_eq_false, reduceCtorEq]; rw [pass_c_ne (by simp)]; exact p2
  · simp (disch := omega) only [nq_nf, nq_nt, nq_le_t, nq_le_f, nq_lt_t, nq_lt_f, nq_eq_t, nq_eq_f, nq_neg, nq_pos, nq_le0f, nq_le0t, nq_lt0t, nq_lt0f, nq_eq0f, nq_eq0t, nI_add, nI_clamp, nx_inb, nx_ck, Option.bind_some, nx_get, nx_get2, nx_dif, nx_or, bI_0, bI_01, bI_nt, bI_nf, if_true, if_false, ite_true, ite_false, not_true_eq_false, not_false_eq_true, and_true, true_and, and_false, false_and, Bool.false_eq_true, Bool.true_eq_false, reduceCtorEq]; rw [pass_c_ne (by simp)]; exact p3
  · simp (disch := omega) only [nq_nf, nq_nt, nq_le_t, nq_le_f, nq_lt_t, nq_lt_f, nq_eq_t, nq_eq_f, nq_neg, nq_pos, nq_le0f, nq_le0t, nq_lt0t, nq_lt0f, nq_eq0f, nq_eq0t, nI_add, nI_clamp, nx_inb, nx_ck, Option.bind_some, nx_get, nx_get2, nx_dif, nx_or, bI_0, bI_01, bI_nt, bI_nf, if_true, if_false, ite_true, ite_false, not_true_eq_false, not_false_eq_true, and_true, true_and, and_false, false_and, Bool.false_eq_true, Bool.true_eq_false, reduceCtorEq]; rw [pass_c_ne (by simp)]; exact p4
  · simp (disch := omega) only [nq_nf, nq_nt, nq_le_t, nq_le_f, nq_lt_t, nq_lt_f, nq_eq_t, nq_eq_f, nq_neg, nq_pos, nq_le0f, nq_le0t, nq_lt0t, nq_lt0f, nq_eq0f, nq_eq0t, nI_add, nI_clamp, nx_inb, nx_ck, Option.bind_some, nx_get, nx_get2, nx_dif, nx_or, bI_0, bI_01, bI_nt, bI_nf, if_true, if_false, ite_true, ite_false, not_true_eq_false, not_false_eq_true, and_true, true_and, and_false, false_and, Bool.false_eq_true, Bool.true_eq_false, reduceCtorEq]
  · simp (disch := omega) only [nq_nf, nq_nt, nq_le_t, nq_le_f, nq_lt_t, nq_lt_f, nq_eq_t, nq_eq_f, nq_neg, nq_pos, nq_le0f, nq_le0t, nq_lt0t, nq_lt0f, nq_eq0f, nq_eq0t, nI_add, nI_clamp, nx_inb, nx_ck, Option.bind_some, nx_get, nx_get2, nx_dif, nx_or, bI_0, bI_01, bI_nt, bI_nf, if_true, if_false, ite_true, ite_false, not_true_eq_false, not_false_eq_true, and_true, true_and, and_false, false_and, Bool.false_eq_true, Bool.true_eq_false, reduceCtorEq]; exact pass_c_at k hk
/-- the class's follow -/
theorem sp_75 {h0 H : hs_H} {x : Int32} {ct tn f hd : Nat} {s : Nat → Nat} (hN : N ≤ 10) (hJ : ∀ k, J k < 2 ^ N) (hd1 : hd < N) (hs : ∀ k, s k ≤ 18) (n : sea_n h0 N re W J) (p : sea_c h0 H x ct tn f s) : ∃ H', hf_75 (nI hd) H = some (nI (hM J s x hd), H') ∧ sea_c h0 H' (hX J s x hd) ct tn f s := by
  have hp := p2_lt hN
  have hJd := hJ hd
  obtain ⟨n1, n2, n3, n4⟩ := sea_n_fr p.1 n
  have p6 := p.2.2.2.2.2
  have px := p.2.1
  unfold hf_75 hb_75_39
  rw [sp_32 n4 (by omega), Option.bind_some]
  dsimp only
  rw [sp_92 p6 hs (by omega), Option.bind_some, bst_o]
  dsimp only
  have hbl := bso_in (s := s) (m := J hd) 10
  unfold hM hX
  by_cases h1 : J hd = 0
  · rw [h1, bso_0, if_pos rfl, if_pos rfl, if_pos rfl, if_neg (fun q => q rfl)]
    exact ⟨H, rfl, p⟩
  · rw [if_neg h1, if_neg h1]
    by_cases h2 : (bso s (J hd) 10).1 = 4294967292
    · rw [h2, if_pos rfl, if_pos rfl, if_pos rfl, if_pos (nI_ne0 (by omega) (by omega)), sp_76 (by omega) h1, Option.bind_some, px]
      exact ⟨_, rfl, sea_put _ p⟩
    · have h3 := tb_in hJd (hbl.resolve_left h2)
      rw [if_neg h2, if_neg h2, if_neg (fun q => h2 (nI_inj (by omega) (by omega) q))]
      exact ⟨H, rfl, p⟩
theorem sp_74t {h0 H : hs_H} {x : Int32} {ct tn f hd t : Nat} {s : Nat → Nat} (hN : N ≤ 10) (hJ : ∀ k, J k < 2 ^ N) (hre : re = 0 ∨ re = 1) (hW : W < 2 ^ N) (ok : sOK W N f hd s) (n : sea_n h0 N re W J) (p : sea_c h0 H x ct tn f s) (ht : t < 20) : ∃ H', (sea_c h0 H' (trn J re W tn x f hd s).2.2.1 (ct + (trn J re W tn x f hd s).1.toNat) (tn + 1) (trn J re W tn x f hd s).2.2.2.1 (trn J re W tn x f hd s).2.2.2.2.2) ∧ ∀ k, hb_74_39 k (nI hd) (nI (t + 1)) H = if (trn J re W tn x f hd s).1 = true then some H' else k (nI (trn J re W tn x f hd s).2.2.2.2.1, nI (t + 1 + 1), H') := by
  have hp := p2_lt hN
  obtain ⟨o1, o2, o3, o4, o5⟩ := ok
  have hm := mvs_lt (re := re) hJ hre o1
  have p1 : sea_c h0 (hs_put H 7 0 4 (nI (tn + 1))) x ct (tn + 1) f s := by
    obtain ⟨p1, p2, p3, p4, p5, p6⟩ := p
    refine ⟨p1.put (.inl (.head _)), ?_, ?_, ?_, ?_, fun k hk => ?_⟩
    · simp (disch := omega) only [p2, nq_nf, nq_nt, nq_le_t, nq_le_f, nq_lt_t, nq_lt_f, nq_eq_t, nq_eq_f, nq_neg, nq_pos, nq_le0f, nq_le0t, nq_lt0t, nq_lt0f, nq_eq0f, nq_eq0t, nI_add, nI_clamp, nx_inb, nx_ck, Option.bind_some, nx_get, nx_get2, nx_dif, nx_or, bI_0, bI_01, bI_nt, bI_nf, if_true, if_false, ite_true, ite_false, not_true_eq_false, not_false_eq_true, and_true, true_and, and_false, false_and, Bool.false_eq_true, Bool.true_eq_false, reduceCtorEq]
    · simp (disch := omega) only [p3, nq_nf, nq_nt, nq_le_t, nq_le_f, nq_lt_t, nq_lt_f, nq_eq_t, nq_eq_f, nq_neg, nq_pos, nq_le0f, nq_le0t, nq_lt0t, nq_lt0f, nq_eq0f, nq_eq0t, nI_add, nI_clamp, nx_inb, nx_ck, Option.bind_some, nx_get, nx_get2, nx_dif, nx_or, bI_0, bI_01, bI_nt, bI_nf, if_true, if_false, ite_true, ite_false, not_true_eq_false, not_false_eq_true, and_true, true_and, and_false, false_and, Bool.false_eq_true, Bool.true_eq_false, reduceCtorEq]
    · simp (disch := omega) only [nq_nf, nq_nt, nq_le_t, nq_le_f, nq_lt_t, nq_lt_f, nq_eq_t, nq_eq_f, nq_neg, nq_pos, nq_le0f, nq_le0t, nq_lt0t, nq_lt0f, nq_eq0f, nq_eq0t, nI_add, nI_clamp, nx_inb, nx_ck, Option.bind_some, nx_get, nx_get2, nx_dif, nx_or, bI_0, bI_01, bI_nt, bI_nf, if_true, if_false, ite_true, ite_false, not_true_eq_false, not_false_eq_true, and_true, true_and, and_false, false_and, Bool.false_eq_true, Bool.true_eq_false, reduceCtorEq]
    · simp (disch := omega) only [p5, nq_nf, nq_nt, nq_le_t, nq_le_f, nq_lt_t, nq_lt_f, nq_eq_t, nq_eq_f, nq_neg, nq_pos, nq_le0f, nq_le0t, nq_lt0t, nq_lt0f, nq_eq0f, nq_eq0t, nI_add, nI_clamp, nx_inb, nx_ck, Option.bind_some, nx_get, nx_get2, nx_dif, nx_or, bI_0, bI_01, bI_nt, bI_nf, if_true, if_false, ite_true, ite_false, not_true_eq_false, not_false_eq_true, and_true, true_and, and_false, false_and, Bool.false_eq_true, Bool.true_eq_false, reduceCtorEq]
    · simp (disch := omega) only [p6, nq_nf, nq_nt, nq_le_t, nq_le_f, nq_lt_t, nq_lt_f, nq_eq_t, nq_eq_f, nq_neg, nq_pos, nq_le0f, nq_le0t, nq_lt0t, nq_lt0f, nq_eq0f, nq_eq0t, nI_add, nI_clamp, nx_inb, nx_ck, Option.bind_some, nx_get, nx_get2, nx_dif, nx_or, bI_0, bI_01, bI_nt, bI_nf, if_true, if_false, ite_true, ite_false, not_true_eq_false, not_false_eq_true, and_true, true_and, and_false, false_and, Bool.false_eq_true, Bool.true_eq_false, reduceCtorEq]
  have e4 : H.1 7 0 4 + nI 1 = nI (tn + 1) := by rw [p.2.2.2.1, nI_add]
  have hfl := tF_lt (x := x) hN hJ hre o1
  -- the fox's node
  have s1 : ∃ H1, sea_c h0 H1 (tX J re x f) ct (tn + 1) f s ∧ ∀ k, hb_74_39 k (nI hd) (nI (t + 1)) H = hb_74_93 k (nI hd) (nI (t + 1)) (nI (tF J re x f)) 1 H1 := by
    unfold hb_74_39
    rw [e4]
    obtain ⟨n1, n2, n3, n4⟩ := sea_n_fr p1.1 n
    have pf := p1.2.2.2.2.1
    have px := p1.2.1
    generalize hs_put H 7 0 4 (nI (tn + 1)) = G at p1 n1 n2 n3 n4 pf px
    have e38 := sp_38 (o := 0) (i := f) n1 n2 n4 o1 hN
    have em : J f ||| re * 2 ^ f = mvs J re f := rfl
    rw [em] at e38
    unfold tF tX
    by_cases h1 : mvs J re f = 0
    · rw [if_pos h1, if_pos h1]
      refine ⟨G, p1, fun k => ?_⟩
      rw [if_neg (nI_nlt (by omega) (by omega)), pf, e38, Option.bind_some, h1]
      dsimp only
      rw [if_neg (fun q => q rfl), pf]
    · rw [if_neg h1, if_neg h1]
      refine ⟨hs_put G 7 0 2 (nxt x), sea_put _ p1, fun k => ?_⟩
      rw [if_neg (nI_nlt (by omega) (by omega)), pf, e38, Option.bind_some]
      dsimp only
      rw [if_pos (nI_ne0 (by omega) (by omega)), sp_76 (by omega) h1, Option.bind_some, px]
  obtain ⟨H1, q1, e1⟩ := s1
  have nW : H1.1 4 0 4 = nI W := (sea_n_fr q1.1 n).2.2.1
  obtain ⟨H2, e2, q2⟩ := sea_move (W := W) (i := tF J re x f) (by omega) o3 (by omega) q1
  have q25 := q2.2.2.2.2.1
  have s2' := passS_le (W := W) (i := tF J re x f) o3
  unfold trn
  by_cases h2 : tF J re x f = hd
  · rw [if_pos h2]
    refine ⟨hs_put H2 7 0 3 (nI (ct + 1)), ?_, fun k => ?_⟩
    · obtain ⟨r1, r2, r3, r4, r5, r6⟩ := q2
      refine ⟨r1.put (.inl (.head _)), ?_, ?_, ?_, ?_, fun k hk => ?_⟩
      · simp (disch := omega) only [r2, nq_nf, nq_nt, nq_le_t, nq_le_f, nq_lt_t, nq_lt_f, nq_eq_t, nq_eq_f, nq_neg, nq_pos, nq_le0f, nq_le0t, nq_lt0t, nq_lt0f, nq_eq0f, nq_eq0t, nI_add, nI_clamp, nx_inb, nx_ck, Option.bind_some, nx_get, nx_get2, nx_dif, nx_or, bI_0, bI_01, bI_nt, bI_nf, if_true, if_false, ite_true, ite_false, not_true_eq_false, not_false_eq_true, and_true, true_and, and_false, false_and, Bool.false_eq_true, Bool.true_eq_false, reduceCtorEq]
      · simp (disch := omega) only [nq_nf, nq_nt, nq_le_t, nq_le_f, nq_lt_t, nq_lt_f, nq_eq_t, nq_eq_f, nq_neg, nq_pos, nq_le0f, nq_le0t, nq_lt0t, nq_lt0f, nq_eq0f, nq_eq0t, nI_add, nI_clamp, nx_inb, nx_ck, Option.bind_some, nx_get, nx_get2, nx_dif, nx_or, bI_0, bI_01, bI_nt, bI_nf, if_true, if_false, ite_true, ite_false, not_true_eq_false, not_false_eq_true, and_true, true_and, and_false, false_and, Bool.false_eq_true, Bool.true_eq_false, reduceCtorEq]; rfl
      · simp (disch := omega) only [r4, nq_nf, nq_nt, nq_le_t, nq_le_f, nq_lt_t, nq_lt_f, nq_eq_t, nq_eq_f, nq_neg, nq_pos, nq_le0f, nq_le0t, nq_lt0t, nq_lt0f, nq_eq0f, nq_eq0t, nI_add, nI_clamp, nx_inb, nx_ck, Option.bind_some, nx_get, nx_get2, nx_dif, nx_or, bI_0, bI_01, bI_nt, bI_nf, if_true, if_false, ite_true, ite_false, not_true_eq_false, not_false_eq_true, and_true, true_and, and_false, false_and, Bool.false_eq_true, Bool.true_eq_false, reduceCtorEq]
      · simp (disch := omega) only [r5, nq_nf, nq_nt, nq_le_t, nq_le_f, nq_lt_t, nq_lt_f, nq_eq_t, nq_eq_f, nq_neg, nq_pos, nq_le0f, nq_le0t, nq_lt0t, nq_lt0f, nq_eq0f, nq_eq0t, nI_add, nI_clamp, nx_inb, nx_ck, Option.bind_some, nx_get, nx_get2, nx_dif, nx_or, bI_0, bI_01, bI_nt, bI_nf, if_true, if_false, ite_true, ite_false, not_true_eq_false, not_false_eq_true, and_true, true_and, and_false, false_and, Bool.false_eq_true, Bool.true_eq_false, reduceCtorEq]
      · simp (disch := omega) only [r6, nq_nf, nq_nt, nq_le_t, nq_le_f, nq_lt_t, nq_lt_f, nq_eq_t, nq_eq_f, nq_neg, nq_pos, nq_le0f, nq_le0t, nq_lt0t, nq_lt0f, nq_eq0f, nq_eq0t, nI_add, nI_clamp, nx_inb, nx_ck, Option.bind_some, nx_get, nx_get2, nx_dif, nx_or, bI_0, bI_01, bI_nt, bI_nf, if_true, if_false, ite_true, ite_false, not_true_eq_false, not_false_eq_true, and_true, true_and, and_false, false_and, Bool.false_eq_true, Bool.true_eq_false, reduceCtorEq]
    · rw [if_pos rfl, e1 k]
      unfold hb_74_93
      rw [nW, e2, Option.bind_some, q25, h2, if_pos rfl]
      unfold hb_74_120
      rw [q25, h2, if_neg (fun q => q rfl), q2.2.2.1, nI_add]
  · rw [if_neg h2]
    obtain ⟨H3, e3, q3⟩ := sp_75 (hd := hd) hN hJ o2 s2' n q2
    have hml := hM_lt (x := tX J re x f) (s := passS W s (tF J re x f)) hN hJ o2
    have q35 := q3.2.2.2.2.1
    have h2' : ¬ nI (tF J re x f) = nI hd := fun q => h2 (nI_inj (by omega) (by omega) q)
    by_cases h3 : tF J re x f = hM J (passS W s (tF J re x f)) (tX J re x f) hd
    · refine ⟨hs_put H3 7 0 3 (nI (ct + 1)), ?_, fun k => ?_⟩
      · obtain ⟨r1, r2, r3, r4, r5, r6⟩ := q3
        refine ⟨r1.put (.inl (.head _)), ?_, ?_, ?_, ?_, fun k hk => ?_⟩
        · simp (disch := omega) only [r2, nq_nf, nq_nt, nq_le_t, nq_le_f, nq_lt_t, nq_lt_f, nq_eq_t, nq_eq_f, nq_neg, nq_pos, nq_le0f, nq_le0t, nq_lt0t, nq_lt0f, nq_eq0f, nq_eq0t, nI_add, nI_clamp, nx_inb, nx_ck, Option.bind_some, nx_get, nx_get2, nx_dif, nx_or, bI_0, bI_01, bI_nt, bI_nf, if_true, if_false, ite_true, ite_false, not_true_eq_false, not_false_eq_true, and_true, true_and, and_false, false_and, Bool.false_eq_true, Bool.true_eq_false, reduceCtorEq]
        · rw [nx_get, if_pos ⟨rfl, rfl, rfl⟩]
          dsimp only
          rw [decide_eq_true h3]
          rfl
        · simp (disch := omega) only [r4, nq_nf, nq_nt, nq_le_t, nq_le_f, nq_lt_t, nq_lt_f, nq_eq_t, nq_eq_f, nq_neg, nq_pos, nq_le0f, nq_le0t, nq_lt0t, nq_lt0f, nq_eq0f, nq_eq0t, nI_add, nI_clamp, nx_inb, nx_ck, Option.bind_some, nx_get, nx_get2, nx_dif, nx_or, bI_0, bI_01, bI_nt, bI_nf, if_true, if_false, ite_true, ite_false, not_true_eq_false, not_false_eq_true, and_true, true_and, and_false, false_and, Bool.false_eq_true, Bool.true_eq_false, reduceCtorEq]
        · simp (disch := omega) only [r5, nq_nf, nq_nt, nq_le_t, nq_le_f, nq_lt_t, nq_lt_f, nq_eq_t, nq_eq_f, nq_neg, nq_pos, nq_le0f, nq_le0t, nq_lt0t, nq_lt0f, nq_eq0f, nq_eq0t, nI_add, nI_clamp, nx_inb, nx_ck, Option.bind_some, nx_get, nx_get2, nx_dif, nx_or, bI_0, bI_01, bI_nt, bI_nf, if_true, if_false, ite_true, ite_false, not_true_eq_false, not_false_eq_true, and_true, true_and, and_false, false_and, Bool.false_eq_true, Bool.true_eq_false, reduceCtorEq]
        · simp (disch := omega) only [r6, nq_nf, nq_nt, nq_le_t, nq_le_f, nq_lt_t, nq_lt_f, nq_eq_t, nq_eq_f, nq_neg, nq_pos, nq_le0f, nq_le0t, nq_lt0t, nq_lt0f, nq_eq0f, nq_eq0t, nI_add, nI_clamp, nx_inb, nx_ck, Option.bind_some, nx_get, nx_get2, nx_dif, nx_or, bI_0, bI_01, bI_nt, bI_nf, if_true, if_false, ite_true, ite_false, not_true_eq_false, not_false_eq_true, and_true, true_and, and_false, false_and, Bool.false_eq_true, Bool.true_eq_false, reduceCtorEq]
      · dsimp only
        rw [decide_eq_true h3, if_pos rfl, e1 k]
        unfold hb_74_93
        rw [nW, e2, Option.bind_some, q25, if_neg h2', e3, Option.bind_some]
        unfold hb_74_120
        dsimp only
        rw [q35, ← h3, if_neg (fun q => q rfl), q3.2.2.1, nI_add]
    · refine ⟨H3, ?_, fun k => ?_⟩
      · dsimp only
        rw [decide_eq_false h3]
        exact q3
      · dsimp only
        rw [decide_eq_false h3, if_neg Bool.false_ne_true, e1 k]
        unfold hb_74_93
        rw [nW, e2, Option.bind_some, q25, if_neg h2', e3, Option.bind_some]
        unfold hb_74_120
        dsimp only
        rw [q35, if_pos (fun q => h3 (nI_inj (by omega) (by omega) q)), nI_add]
/-- as a hunt begins -/
def hS (W N : Nat) (x : Int32) (tn : Nat) : sT := (false, tn, nxt (nxt x), drw (nxt x) % N, drw (nxt (nxt x)) % N, passS W (fun _ => 0) (drw (nxt x) % N))
theorem hS_ok {x : Int32} {tn : Nat} (hN1 : 1 ≤ N) : sOK W N (hS W N x tn).2.2.2.1 (hS W N x tn).2.2.2.2.1 (hS W N x tn).2.2.2.2.2 :=
  ⟨Nat.mod_lt _ hN1, Nat.mod_lt _ hN1, passS_le (fun _ => Nat.zero_le _), passS_hi (fun _ _ => rfl) (Nat.mod_lt _ hN1), passS_W (fun _ _ => rfl)⟩
theorem trn_cnt {c : Nat} {x : Int32} {f hd : Nat} {s : Nat → Nat} : (trn J re W c x f hd s).2.1 = c + 1 := by
  unfold trn
  by_cases h : tF J re x f = hd
  · rw [if_pos h]
  · rw [if_neg h]
theorem sp_74 {h0 H : hs_H} {x : Int32} {ct tn f : Nat} {s : Nat → Nat} (hN : N ≤ 10) (hN1 : 1 ≤ N) (hJ : ∀ k, J k < 2 ^ N) (hre : re = 0 ∨ re = 1) (hW : W < 2 ^ N) (n : sea_n h0 N re W J) (p : sea_c h0 H x ct tn f s) : ∃ H', hf_74 H = some H' ∧ sea_c h0 H' (hT J re W (hS W N x tn) 20).2.2.1 (ct + (hT J re W (hS W N x tn) 20).1.toNat) (hT J re W (hS W N x tn) 20).2.1 (hT J re W (hS W N x tn) 20).2.2.2.1 (hT J re W (hS W N x tn) 20).2.2.2.2.2 := by
  have hp := p2_lt hN
  have hs0 := hS_ok (W := W) (x := x) (tn := tn) hN1
  obtain ⟨n1, n2, n3, n4⟩ := sea_n_fr p.1 n
  have px := p.2.1
  have p1 := sea_put (nxt x) p
  obtain ⟨m1, m2, m3, m4⟩ := sea_n_fr p1.1 n
  have e1 := sp_77 (k := N) (h := H) (by omega) (by omega)
  rw [px] at e1
  generalize hs_put H 7 0 2 (nxt x) = H1 at p1 m1 m2 m3 m4 e1
  have hfN : drw (nxt x) % N < N := Nat.mod_lt _ hN1
  have e2 := sp_89g (o := 1) (W := W) (i := drw (nxt x) % N) (h := H1) (by omega) (by omega)
  have p2 : sea_c h0 (hs_put (pass_c (hs_put (hs_put (hs_row H1 33 1 10 (fun _ => nI 0)) 9 1 1 (nI 4294967292)) 9 1 2 (nI 0)) 1 W (fun _ => 0) (drw (nxt x) % N)) 9 1 1 (nI (drw (nxt x) % N))) (nxt x) ct tn (drw (nxt x) % N) (passS W (fun _ => 0) (drw (nxt x) % N)) := by
    obtain ⟨r1, r2, r3, r4, r5, r6⟩ := p1
    refine ⟨((((r1.tr (hs_row_fr (.inl (.tail _ (.tail _ (.head _)))))).put (.inl (.tail _ (.head _)))).put (.inl (.tail _ (.head _)))).tr (pass_c_fr (.inl (.tail _ (.tail _ (.head _)))))).put (.inl (.tail _ (.head _))), ?_, ?_, ?_, ?_, fun k hk => ?_⟩
    · simp (disch := omega) only [nq_nf, nq_nt, nq_le_t, nq_le_f, nq_lt_t, nq_lt_f, nq_eq_t, nq_eq_f, nq_neg, nq_pos, nq_le0f, nq_le0t, nq_lt0t, nq_lt0f, nq_eq0f, nq_eq0t, nI_add, nI_clamp, nx_inb, nx_ck, Option.bind_some, nx_get, nx_get2, nx_dif, nx_or, bI_0, bI_01, bI_nt, bI_nf, if_true, if_false, ite_true, ite_false, not_true_eq_false, not_false_eq_true, and_true, true_and, and_false, false_and, Bool.false_eq_true, Bool.true_eq_false, reduceCtorEq]; rw [pass_c_ne (by simp)]; simp (disch := omega) only [nx_rowget, nq_nf, nq_nt, nq_le_t, nq_le_f, nq_lt_t, nq_lt_f, nq_eq_t, nq_eq_f, nq_neg, nq_pos, nq_le0f, nq_le0t, nq_lt0t, nq_lt0f, nq_eq0f, nq_eq0t, nI_add, nI_clamp, nx_inb, nx_ck, Option.bind_some, nx_get, nx_get2, nx_dif, nx_or, bI_0, bI_01, bI_nt, bI_nf, if_true, if_false, ite_true, ite_false, not_true_eq_false, not_false_eq_true, and_true, true_and, and_false, false_and, Bool.false_eq_true, Bool.true_eq_false, reduceCtorEq]; exact r2
    · simp (disch := omega) only [nq_nf, nq_nt, nq_le_t, nq_le_f, nq_lt_t, nq_lt_f, nq_eq_t, nq_eq_f, nq_neg, nq_pos, nq_le0f, nq_le0t, nq_lt0t, nq_lt0f, nq_eq0f, nq_eq0t, nI_add, nI_clamp, nx_inb, nx_ck, Option.bind_some, nx_get, nx_get2, nx_dif, nx_or, bI_0, bI_01, bI_nt, bI_nf, if_true, if_false, ite_true, ite_false, not_true_eq_false, not_false_eq_true, and_true, true_and, and_false, false_and, Bool.false_eq_true, Bool.true_eq_false, reduceCtorEq]; rw [pass_c_ne (by simp)]; simp (disch := omega) only [nx_rowget, nq_nf, nq_nt, nq_le_t, nq_le_f, nq_lt_t, nq_lt_f, nq_eq_t, nq_eq_f, nq_neg, nq_pos, nq_le0f, nq_le0t, nq_lt0t, nq_lt0f, nq_eq0f, nq_eq0t, nI_add, nI_clamp, nx_inb, nx_ck, Option.bind_some, nx_get, nx_get2, nx_dif, nx_or, bI_0, bI_01, bI_nt, bI_nf, if_true, if_false, ite_true, ite_false, not_true_eq_false, not_false_eq_true, and_true, true_and, and_false, false_and, Bool.false_eq_true, Bool.true_eq_false, reduceCtorEq]; exact r3
    · simp (disch := omega) only [nq_nf, nq_nt, nq_le_t, nq_le_f, nq_lt_t, nq_lt_f, nq_eq_t, nq_eq_f, nq_neg, nq_pos, nq_le0f, nq_le0t, nq_lt0t, nq_lt0f, nq_eq0f, nq_eq0t, nI_add, nI_clamp, nx_inb, nx_ck, Option.bind_some, nx_get, nx_get2, nx_dif, nx_or, bI_0, bI_01, bI_nt, bI_nf, if_true, if_false, ite_true, ite_false, not_true_eq_false, not_false_eq_true, and_true, true_and, and_false, false_and, Bool.false_eq_true, Bool.true_eq_false, reduceCtorEq]; rw [pass_c_ne (by simp)]; simp (disch := omega) only [nx_rowget, nq_nf, nq_nt, nq_le_t, nq_le_f, nq_lt_t, nq_lt_f, nq_eq_t, nq_eq_f, nq_neg, nq_pos, nq_le0f, nq_le0t, nq_lt0t, nq_lt0f, nq_eq0f, nq_eq0t, nI_add, nI_clamp, nx_inb, nx_ck, Option.bind_some, nx_get, nx_get2, nx_dif, nx_or, bI_0, bI_01, bI_nt, bI_nf, if_true, if_false, ite_true, ite_false, not_true_eq_false, not_false_eq_true, and_true, true_and, and_false, false_and, Bool.false_eq_true, Bool.true_eq_false, reduceCtorEq]; exact r4
    · simp (disch := omega) only [nq_nf, nq_nt, nq_le_t, nq_le_f, nq_lt_t, nq_lt_f, nq_eq_t, nq_eq_f, nq_neg, nq_pos, nq_le0f, nq_le0t, nq_lt0t, nq_lt0f, nq_eq0f, nq_eq0t, nI_add, nI_clamp, nx_inb, nx_ck, Option.bind_some, nx_get, nx_get2, nx_dif, nx_or, bI_0, bI_01, bI_nt, bI_nf, if_true, if_false, ite_true, ite_false, not_true_eq_false, not_false_eq_true, and_true, true_and, and_false, false_and, Bool.false_eq_true, Bool.true_eq_false, reduceCtorEq]
    · simp (disch := omega) only [nq_nf, nq_nt, nq_le_t, nq_le_f, nq_lt_t, nq_lt_f, nq_eq_t, nq_eq_f, nq_neg, nq_pos, nq_le0f, nq_le0t, nq_lt0t, nq_lt0f, nq_eq0f, nq_eq0t, nI_add, nI_clamp, nx_inb, nx_ck, Option.bind_some, nx_get, nx_get2, nx_dif, nx_or, bI_0, bI_01, bI_nt, bI_nf, if_true, if_false, ite_true, ite_false, not_true_eq_false, not_false_eq_true, and_true, true_and, and_false, false_and, Bool.false_eq_true, Bool.true_eq_false, reduceCtorEq]; exact pass_c_at k hk
  generalize hs_put (pass_c (hs_put (hs_put (hs_row H1 33 1 10 (fun _ => nI 0)) 9 1 1 (nI 4294967292)) 9 1 2 (nI 0)) 1 W (fun _ => 0) (drw (nxt x) % N)) 9 1 1 (nI (drw (nxt x) % N)) = H2 at e2 p2
  have k1 : H2.1 4 0 1 = nI N := (sea_n_fr p2.1 n).1
  have px2 := p2.2.1
  have e3 := sp_77 (k := N) (h := H2) (by omega) (by omega)
  rw [px2] at e3
  have p3 := sea_put (nxt (nxt x)) p2
  generalize hs_put H2 7 0 2 (nxt (nxt x)) = H3 at e3 p3
  unfold hf_74
  rw [n1, e1, Option.bind_some]
  dsimp only
  rw [m3, e2, Option.bind_some, k1, e3, Option.bind_some]
  dsimp only
  refine lp_q (I := fun d q => ∃ t G, t ≤ 20 ∧ d = 20 - t ∧ (hT J re W (hS W N x tn) t).1 = false ∧ sea_c h0 G (hT J re W (hS W N x tn) t).2.2.1 ct (hT J re W (hS W N x tn) t).2.1 (hT J re W (hS W N x tn) t).2.2.2.1 (hT J re W (hS W N x tn) t).2.2.2.2.2 ∧ q = (nI (hT J re W (hS W N x tn) t).2.2.2.2.1, nI (t + 1), G)) (Q := fun r => ∃ H', r = some H' ∧ sea_c h0 H' (hT J re W (hS W N x tn) 20).2.2.1 (ct + (hT J re W (hS W N x tn) 20).1.toNat) (hT J re W (hS W N x tn) 20).2.1 (hT J re W (hS W N x tn) 20).2.2.2.1 (hT J re W (hS W N x tn) 20).2.2.2.2.2) (fun d q hI => ?_) 20 _ hs_big ⟨0, H3, by omega, rfl, rfl, p3, rfl⟩ (lp_big (by omega))
  obtain ⟨t, G, ht, rfl, hc, hG, rfl⟩ := hI
  by_cases h20 : t = 20
  · subst h20
    refine Or.inl (fun k => ⟨G, ?_, ?_⟩)
    · show hb_74_39 k (nI (hT J re W (hS W N x tn) 20).2.2.2.2.1) (nI 21) G = some G
      unfold hb_74_39
      rw [if_pos (nI_lt (by omega) (by omega))]
    · rw [hc]
      exact hG
  · obtain ⟨G', g1, g2⟩ := sp_74t (t := t) hN hJ hre hW (hT_ok hN hJ hre hs0 t) n hG (by omega)
    rw [← hT_S hc] at g1 g2
    have hcnt : (hT J re W (hS W N x tn) (t + 1)).2.1 = (hT J re W (hS W N x tn) t).2.1 + 1 := by rw [hT_S hc]; exact trn_cnt
    rw [← hcnt] at g1
    cases hd2 : (hT J re W (hS W N x tn) (t + 1)).1 with
    | true =>
      refine Or.inl (fun k => ⟨G', ?_, ?_⟩)
      · show hb_74_39 k (nI (hT J re W (hS W N x tn) t).2.2.2.2.1) (nI (t + 1)) G = some G'
        rw [g2 k, if_pos hd2]
      · have e20 := hT_stay hd2 (20 - (t + 1))
        rw [show t + 1 + (20 - (t + 1)) = 20 by omega] at e20
        rw [e20]
        exact g1
    | false =>
      refine Or.inr ⟨20 - (t + 1), _, by omega, ⟨t + 1, G', by omega, rfl, hd2, ?_, rfl⟩, fun k => ?_⟩
      · rw [hd2] at g1
        exact g1
      · show hb_74_39 k (nI (hT J re W (hS W N x tn) t).2.2.2.2.1) (nI (t + 1)) G = _
        rw [g2 k, hd2, if_neg Bool.false_ne_true]
end TS
