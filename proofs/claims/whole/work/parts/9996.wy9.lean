/-! Ways that fit: which nodes the class lets be next. -/
theorem sp_37 {N : Nat} {st : Int32} {h : hs_H} (hN : N ≤ 10) (h1 : h.1 4 0 1 = nI N) (h3 : h.1 4 0 3 = st) (hst : st = nI 4294967292 ∨ ∃ i, i < N ∧ st = nI i) : hf_37 0 h = some (nI (sel (bgn st) N), h) := by
  unfold hf_37 hb_37_24
  rw [h3, sp_29 h1 (by omega), Option.bind_some]
  dsimp only
  rw [h3]
  rcases hst with q | ⟨i, hi, q⟩
  · have e : nd N st = false := by
      rw [q]
      refine eq_false_of_ne_true (fun w => ?_)
      obtain ⟨j, h1, h2⟩ := (nd_of (by omega)).mp w
      have := nI_inj (by omega) (by omega) h2
      omega
    have e2 : sel (bgn st) N = 2 ^ N - 1 := tb_ext fun j => by
      rw [tb_sel, tb_mask, show bgn st j = true by unfold bgn; exact decide_eq_true (Or.inl q), Bool.and_true]
    rw [e, if_pos (by decide), sp_31 h1 (by omega), Option.bind_some, e2]
  · have e : nd N st = true := by rw [q]; exact nd_nI hi (by omega)
    have e2 : sel (bgn st) N = 2 ^ i := tb_iff fun j => by
      rw [tb_sel, tb_pow, Bool.and_eq_true, decide_eq_true_eq, decide_eq_true_eq]
      unfold bgn
      rw [decide_eq_true_eq, q]
      constructor
      · rintro ⟨w1, w2 | w2⟩
        · have := nI_inj (by omega) (by omega) w2; omega
        · exact nI_inj (by omega) (by omega) w2
      · rintro rfl
        exact ⟨hi, Or.inr rfl⟩
    rw [e, if_neg (by decide), q, nx_shl1 (by omega), ← q, e2]
/-- the nodes that what was smelt of turn t lets be -/
def alw (tn nn gn : Nat → Nat) (W t : Nat) (s : Nat → Nat) (m : Nat) : Nat := sel (fun i => fitB tn nn gn t (passS W s i) m) 10
section AL
variable {tn nn gn : Nat → Nat} {W t : Nat} {s : Nat → Nat}
theorem sel_1023 : sel (fun _ => true) 10 = 1023 := by decide
theorem alw_0 : alw tn nn gn W t s 0 = 1023 := by
  show sel (fun i => fitB tn nn gn t (passS W s i) 0) 10 = 1023
  exact sel_1023
theorem alw_n {j : Nat} (h : tn j ≠ t) : alw tn nn gn W t s (j + 1) = alw tn nn gn W t s j := tb_iff fun i => by
  unfold alw
  rw [tb_sel, tb_sel, Bool.and_eq_true, Bool.and_eq_true]
  show decide (i < 10) = true ∧ (fitB tn nn gn t (passS W s i) j && (!decide (tn j = t) || decide (passS W s i (nn j) = gn j))) = true ↔ _
  rw [decide_eq_false h, Bool.not_false, Bool.true_or, Bool.and_true]
theorem alw_S {j : Nat} (h : tn j = t) : alw tn nn gn W t s (j + 1) = alw tn nn gn W t s j &&& ((if gn j = (if W.testBit (nn j) = true then 0 else min 18 (s (nn j) - 1 + 9)) then 2 ^ nn j else 0) ||| (if gn j = s (nn j) - 1 then 2 ^ nn j ^^^ 4294967295 else 0)) := tb_iff fun i => by
  have eA : (if gn j = (if W.testBit (nn j) = true then 0 else min 18 (s (nn j) - 1 + 9)) then 2 ^ nn j else 0).testBit i = true ↔ gn j = (if W.testBit (nn j) = true then 0 else min 18 (s (nn j) - 1 + 9)) ∧ nn j = i := by
    by_cases c : gn j = (if W.testBit (nn j) = true then 0 else min 18 (s (nn j) - 1 + 9))
    · rw [if_pos c, tb_pow, decide_eq_true_eq]
      exact ⟨fun q => ⟨c, q⟩, fun q => q.2⟩
    · rw [if_neg c, Nat.zero_testBit]
      exact ⟨fun q => (by cases q), fun q => absurd q.1 c⟩
  have eB : i < 10 → ((if gn j = s (nn j) - 1 then 2 ^ nn j ^^^ 4294967295 else 0).testBit i = true ↔ gn j = s (nn j) - 1 ∧ nn j ≠ i) := fun hi => by
    by_cases c : gn j = s (nn j) - 1
    · rw [if_pos c, Nat.testBit_xor, tb_pow, tb_full i (by omega), Bool.xor_true, Bool.not_eq_true', decide_eq_false_iff_not]
      exact ⟨fun q => ⟨c, q⟩, fun q => q.2⟩
    · rw [if_neg c, Nat.zero_testBit]
      exact ⟨fun q => (by cases q), fun q => absurd q.1 c⟩
  have key : i < 10 → (passS W s i (nn j) = gn j ↔ ((gn j = (if W.testBit (nn j) = true then 0 else min 18 (s (nn j) - 1 + 9)) ∧ nn j = i) ∨ (gn j = s (nn j) - 1 ∧ nn j ≠ i))) := fun hi => by
    unfold passS
    by_cases e : nn j = i
    · rw [if_pos e, ← e]
      exact ⟨fun q => Or.inl ⟨q.symm, rfl⟩, fun q => q.elim (fun w => w.1.symm) (fun w => absurd rfl w.2)⟩
    · rw [if_neg e]
      exact ⟨fun q => Or.inr ⟨q.symm, e⟩, fun q => q.elim (fun w => absurd w.2 e) (fun w => w.1.symm)⟩
  rw [Nat.testBit_and, Nat.testBit_or, Bool.and_eq_true, Bool.or_eq_true]
  unfold alw
  rw [tb_sel, tb_sel, Bool.and_eq_true, Bool.and_eq_true, decide_eq_true_eq]
  show i < 10 ∧ (fitB tn nn gn t (passS W s i) j && (!decide (tn j = t) || decide (passS W s i (nn j) = gn j))) = true ↔ _
  rw [Bool.and_eq_true, decide_eq_true h, Bool.not_true, Bool.false_or, decide_eq_true_eq]
  constructor
  · rintro ⟨h1, h2, h3⟩
    exact ⟨⟨h1, h2⟩, ((key h1).mp h3).imp eA.mpr (eB h1).mpr⟩
  · rintro ⟨⟨h1, h2⟩, h3⟩
    exact ⟨h1, h2, (key h1).mpr (h3.imp eA.mp (eB h1).mp)⟩
theorem sp_50 {N m z : Nat} {h : hs_H} (hN : N ≤ 10) (hz : z ≤ 10) (hm : m ≤ z) (ht : t ≤ 5) (ok : ∀ k, k < z → tn k ≤ 5 ∧ nn k < N ∧ gn k ≤ 18) (h3 : h.1 5 0 3 = nI z) (hS : ∀ k, k < z → h.1 28 0 k = nI (tn k) ∧ h.1 29 0 k = nI (nn k) ∧ h.1 30 0 k = nI (gn k)) (hs : ∀ k, s k ≤ 18) (hw : ∀ k, k < 10 → h.1 35 t k = nI (s k)) (hW : W < 2147483648) : hf_50_35 0 (nI t) (nI m) t (nI W) h = some (nI (alw tn nn gn W t s m), h) := by
  have e0 : nI 1023 = nI (alw tn nn gn W t s 0) := by rw [alw_0]
  unfold hf_50_35
  rw [e0]
  refine lp_for (f := fun k s => hb_50_35_8 0 t k s.1 s.2.1 s.2.2.1 s.2.2.2.1 s.2.2.2.2.1 s.2.2.2.2.2) (st := fun j => (nI t, nI m, nI W, nI (alw tn nn gn W t s j), nI j, h)) (e := m) (fun j hj k => ?_) (fun k => ?_) 0 hs_big (by omega) (lp_big (by omega))
  · show hb_50_35_8 0 t k (nI t) (nI m) (nI W) (nI (alw tn nn gn W t s j)) (nI j) h = k (nI t, nI m, nI W, nI (alw tn nn gn W t s (j + 1)), nI (j + 1), h)
    obtain ⟨q1, q2, q3⟩ := hS j (by omega)
    obtain ⟨o1, o2, o3⟩ := ok j (by omega)
    have hsn := hs (nn j)
    unfold hb_50_35_8
    rw [if_neg (nI_ge hj (by omega)), h3, if_neg (nI_ge (by omega) (by omega)), nx_inb (show j < 10 by omega) (by omega), nx_ck, nx_ck, nI_clamp (show j < 2147483648 by omega), q1, q2]
    by_cases c : tn j = t
    · rw [if_neg (fun q => q (by rw [c])), if_neg (nI_pos (by omega)), if_neg (nI_ge (by omega) (by omega)), nx_inb (show nn j < 10 by omega) (by omega), nx_ck, nI_clamp (show nn j < 2147483648 by omega), hw (nn j) (by omega), sp_85 (by omega), Option.bind_some]
      dsimp only
      rw [sp_147 hW (by omega), Option.bind_some]
      dsimp only
      rw [sp_86 (by omega), Option.bind_some, alw_S c]
      dsimp only
      have hrb : (if W.testBit (nn j) = true then 0 else min 18 (s (nn j) - 1 + 9)) < 1000 := by
        by_cases w : W.testBit (nn j) = true
        · rw [if_pos w]; omega
        · rw [if_neg w]
          have := Nat.min_le_left 18 (s (nn j) - 1 + 9)
          omega
      generalize (if W.testBit (nn j) = true then 0 else min 18 (s (nn j) - 1 + 9)) = rs at hrb ⊢
      have e98 : ∀ s0, hb_50_35_98 0 t k (nI t) (nI m) (nI W) (nI (alw tn nn gn W t s j)) (nI j) (nI (nn j)) (nI (s (nn j) - 1)) (nI s0) h = k (nI t, nI m, nI W, nI (alw tn nn gn W t s j &&& (s0 ||| (if gn j = s (nn j) - 1 then 2 ^ nn j ^^^ 4294967295 else 0))), nI (j + 1), h) := fun s0 => by
        unfold hb_50_35_98 hb_50_35_122 hb_50_35_134
        rw [nx_inb (show j < 10 by omega) (by omega), nx_ck, nI_clamp (show j < 2147483648 by omega), q3, nI_add]
        by_cases c2 : gn j = s (nn j) - 1
        · rw [if_neg (fun q => q (by rw [c2])), if_pos c2, nx_shl1 (by omega), nx_xor, nx_or, nx_and]
        · rw [if_pos (fun q => c2 (nI_inj (by omega) (by omega) q)), if_neg c2, nx_or, nx_and]
      rw [nx_ck, q3]
      by_cases c1 : gn j = rs
      · rw [if_neg (fun q => q (by rw [c1])), if_pos c1, nx_shl1 (by omega), e98]
      · rw [if_pos (fun q => c1 (nI_inj (by omega) (by omega) q)), if_neg c1, e98]
    · rw [if_pos (fun q => c (nI_inj (by omega) (by omega) q)), alw_n c]
      unfold hb_50_35_134
      rw [nI_add]
  · show hb_50_35_8 0 t k (nI t) (nI m) (nI W) (nI (alw tn nn gn W t s m)) (nI m) h = _
    unfold hb_50_35_8 hb_50_35_140
    rw [if_pos (nI_le (Nat.le_refl _) (by omega))]
end AL
/-- the class lets its smells go on a turn -/
theorem sp_84w {p0 p1 W i : Nat} {s : Nat → Nat} {h : hs_H} (hp : p0 ≠ p1) (hs : ∀ k, k < 10 → h.1 35 p0 k = nI (s k)) (hb : ∀ k, s k ≤ 1000) (hW : W < 2147483648) (hi : i < 10) : ∃ H, hf_84_35_35 p0 p1 (nI i) (nI W) h = some H ∧ hs_fr [(35, some p1)] h H ∧ ∀ k, k < 10 → H.1 35 p1 k = nI (passS W s i k) := by
  refine ⟨hs_put (hs_row h 35 p1 10 (fun k => nI (s k - 1))) 35 p1 i (nI (if W.testBit i = true then 0 else min 18 (s i - 1 + 9))), ?_, (hs_row_fr (.inl (.head _))).put (.inl (.head _)), fun k hk => ?_⟩
  · unfold hf_84_35_35
    have hl := lp_for (f := fun k s => hb_84_35_35_3 p0 p1 k s.1 s.2.1 s.2.2.1 s.2.2.2) (st := fun j => (nI i, nI W, nI j, hs_row h 35 p1 j (fun k => nI (s k - 1)))) (e := 10) (X := some (hs_put (hs_row h 35 p1 10 (fun k => nI (s k - 1))) 35 p1 i (nI (if W.testBit i = true then 0 else min 18 (s i - 1 + 9))))) (fun j hj k => ?_) (fun k => ?_) 0 hs_big (by omega) (lp_big (by omega))
    · rw [hs_row0] at hl
      exact hl
    · show hb_84_35_35_3 p0 p1 k (nI i) (nI W) (nI j) (hs_row h 35 p1 j (fun k => nI (s k - 1))) = k (nI i, nI W, nI (j + 1), hs_row h 35 p1 (j + 1) (fun k => nI (s k - 1)))
      have e1 : (hs_row h 35 p1 j (fun k => nI (s k - 1))).1 35 p0 j = nI (s j) := by
        rw [nx_rowget, if_neg (fun q => hp q.2.1), hs j hj]
      have hsj := hb j
      unfold hb_84_35_35_3
      rw [if_neg (nI_ge hj (by omega)), if_neg (nI_ge hj (by omega)), if_neg (nI_ge hj (by omega)), nx_inb (show j < 10 by omega) (by omega), nx_ck, nI_clamp (show j < 2147483648 by omega), e1, sp_85 (by omega), Option.bind_some, nx_ck, nI_add, ← hs_rowS h 35 p1 j (fun k => nI (s k - 1))]
    · show hb_84_35_35_3 p0 p1 k (nI i) (nI W) (nI 10) (hs_row h 35 p1 10 (fun k => nI (s k - 1))) = _
      have e1 : (hs_row h 35 p1 10 (fun k => nI (s k - 1))).1 35 p1 i = nI (s i - 1) := by
        rw [nx_rowget, if_pos ⟨rfl, rfl, hi⟩]
      have hsi := hb i
      unfold hb_84_35_35_3 hb_84_35_35_41 hb_84_35_35_65
      rw [if_pos (nI_le (Nat.le_refl _) (by omega)), if_neg (nI_pos (by omega)), if_neg (nI_ge hi (by omega)), nx_inb hi (by omega), nx_ck, sp_147 hW (by omega), Option.bind_some, nI_clamp (show i < 2147483648 by omega), e1]
      dsimp only
      rw [sp_86 (by omega), Option.bind_some, nx_ck]
  · unfold passS
    rw [nx_get]
    by_cases c : k = i
    · rw [if_pos ⟨rfl, rfl, c⟩, if_pos c]
    · rw [if_neg (fun q => c q.2.2), if_neg c, nx_rowget, if_pos ⟨rfl, rfl, hk⟩]
