/-! season: the model's hunts; the call. -/
/-- the model's heap in a season -/
def sea_m (h0 H : hs_H) (N : Nat) (x : Int32) (tn : Nat) (s : Nat → Nat) : Prop := hs_fr [(12, some 0), (50, some 0)] h0 H ∧ (∀ p, p ≠ 36 → p ≠ 37 → H.1 12 0 p = h0.1 12 0 p) ∧ H.1 12 0 36 = x ∧ H.1 12 0 37 = nI tn ∧ ∀ k, k < N → H.1 50 0 k = nI (s k)
def sea_k (h : hs_H) (N re W : Nat) (J : Nat → Nat) : Prop := h.1 12 0 2 = nI N ∧ h.1 12 0 3 = nI re ∧ h.1 12 0 4 = nI W ∧ ∀ k, k < 10 → h.1 44 0 k = nI (J k)
section MS
variable {J : Nat → Nat} {re W N : Nat}
theorem sea_k_of {h H : hs_H} (e : ∀ p, p ≠ 36 → p ≠ 37 → H.1 12 0 p = h.1 12 0 p) (f : hs_fr [(12, some 0), (50, some 0)] h H) (p : sea_k h N re W J) : sea_k H N re W J := by
  have e2 : H.1 44 0 = h.1 44 0 := (f 44 0 (by intro q hq; revert q; simp)).1
  unfold sea_k
  rw [e 2 (by omega) (by omega), e 3 (by omega) (by omega), e 4 (by omega) (by omega), e2]
  exact p
theorem sea_m_put {h0 H : hs_H} {x : Int32} {tn : Nat} {s : Nat → Nat} (y : Int32) (p : sea_m h0 H N x tn s) : sea_m h0 (hs_put H 12 0 36 y) N y tn s := by
  obtain ⟨p1, p2, p3, p4, p5⟩ := p
  refine ⟨p1.put (.inl (.head _)), fun p h1 h2 => ?_, ?_, ?_, fun k hk => ?_⟩
  · rw [nx_get, if_neg (by omega)]; exact p2 p h1 h2
  · simp (disch := omega) only [nq_nf, nq_nt, nq_le_t, nq_le_f, nq_lt_t, nq_lt_f, nq_eq_t, nq_eq_f, nq_neg, nq_pos, nq_le0f, nq_le0t, nq_lt0t, nq_lt0f, nq_eq0f, nq_eq0t, nI_add, nI_clamp, nx_inb, nx_ck, Option.bind_some, nx_get, nx_get2, nx_dif, nx_or, bI_0, bI_01, bI_nt, bI_nf, if_true, if_false, ite_true, ite_false, not_true_eq_false, not_false_eq_true, and_true, true_and, and_false, false_and, Bool.false_eq_true, Bool.true_eq_false, reduceCtorEq]
  · simp (disch := omega) only [p4, nq_nf, nq_nt, nq_le_t, nq_le_f, nq_lt_t, nq_lt_f, nq_eq_t, nq_eq_f, nq_neg, nq_pos, nq_le0f, nq_le0t, nq_lt0t, nq_lt0f, nq_eq0f, nq_eq0t, nI_add, nI_clamp, nx_inb, nx_ck, Option.bind_some, nx_get, nx_get2, nx_dif, nx_or, bI_0, bI_01, bI_nt, bI_nf, if_true, if_false, ite_true, ite_false, not_true_eq_false, not_false_eq_true, and_true, true_and, and_false, false_and, Bool.false_eq_true, Bool.true_eq_false, reduceCtorEq]
  · simp (disch := omega) only [p5, nq_nf, nq_nt, nq_le_t, nq_le_f, nq_lt_t, nq_lt_f, nq_eq_t, nq_eq_f, nq_neg, nq_pos, nq_le0f, nq_le0t, nq_lt0t, nq_lt0f, nq_eq0f, nq_eq0t, nI_add, nI_clamp, nx_inb, nx_ck, Option.bind_some, nx_get, nx_get2, nx_dif, nx_or, bI_0, bI_01, bI_nt, bI_nf, if_true, if_false, ite_true, ite_false, not_true_eq_false, not_false_eq_true, and_true, true_and, and_false, false_and, Bool.false_eq_true, Bool.true_eq_false, reduceCtorEq]
theorem sea_m_cnt {h0 H : hs_H} {x : Int32} {tn : Nat} {s : Nat → Nat} (p : sea_m h0 H N x tn s) : sea_m h0 (hs_put H 12 0 37 (H.1 12 0 37 + nI 1)) N x (tn + 1) s := by
  obtain ⟨p1, p2, p3, p4, p5⟩ := p
  refine ⟨p1.put (.inl (.head _)), fun p h1 h2 => ?_, ?_, ?_, fun k hk => ?_⟩
  · rw [nx_get, if_neg (by omega)]; exact p2 p h1 h2
  · simp (disch := omega) only [p3, nq_nf, nq_nt, nq_le_t, nq_le_f, nq_lt_t, nq_lt_f, nq_eq_t, nq_eq_f, nq_neg, nq_pos, nq_le0f, nq_le0t, nq_lt0t, nq_lt0f, nq_eq0f, nq_eq0t, nI_add, nI_clamp, nx_inb, nx_ck, Option.bind_some, nx_get, nx_get2, nx_dif, nx_or, bI_0, bI_01, bI_nt, bI_nf, if_true, if_false, ite_true, ite_false, not_true_eq_false, not_false_eq_true, and_true, true_and, and_false, false_and, Bool.false_eq_true, Bool.true_eq_false, reduceCtorEq]
  · simp (disch := omega) only [p4, nq_nf, nq_nt, nq_le_t, nq_le_f, nq_lt_t, nq_lt_f, nq_eq_t, nq_eq_f, nq_neg, nq_pos, nq_le0f, nq_le0t, nq_lt0t, nq_lt0f, nq_eq0f, nq_eq0t, nI_add, nI_clamp, nx_inb, nx_ck, Option.bind_some, nx_get, nx_get2, nx_dif, nx_or, bI_0, bI_01, bI_nt, bI_nf, if_true, if_false, ite_true, ite_false, not_true_eq_false, not_false_eq_true, and_true, true_and, and_false, false_and, Bool.false_eq_true, Bool.true_eq_false, reduceCtorEq]
  · simp (disch := omega) only [p5, nq_nf, nq_nt, nq_le_t, nq_le_f, nq_lt_t, nq_lt_f, nq_eq_t, nq_eq_f, nq_neg, nq_pos, nq_le0f, nq_le0t, nq_lt0t, nq_lt0f, nq_eq0f, nq_eq0t, nI_add, nI_clamp, nx_inb, nx_ck, Option.bind_some, nx_get, nx_get2, nx_dif, nx_or, bI_0, bI_01, bI_nt, bI_nf, if_true, if_false, ite_true, ite_false, not_true_eq_false, not_false_eq_true, and_true, true_and, and_false, false_and, Bool.false_eq_true, Bool.true_eq_false, reduceCtorEq]
theorem sea_m_row {h0 H : hs_H} {x : Int32} {tn : Nat} {s s' : Nat → Nat} (p : sea_m h0 H N x tn s) : sea_m h0 (hs_row H 50 0 N (fun k => nI (s' k))) N x tn s' := by
  obtain ⟨p1, p2, p3, p4, p5⟩ := p
  refine ⟨p1.tr (hs_row_fr (.inl (.tail _ (.head _)))), fun p h1 h2 => ?_, ?_, ?_, fun k hk => ?_⟩
  · rw [nx_rowget, if_neg (by omega)]; exact p2 p h1 h2
  · rw [nx_rowget, if_neg (by omega)]; exact p3
  · rw [nx_rowget, if_neg (by omega)]; exact p4
  · rw [nx_rowget, if_pos ⟨rfl, rfl, hk⟩]
theorem sp_228 {m : Nat} {s : Nat → Nat} {h : hs_H} (hN : h.1 12 0 2 = nI N) (hN2 : N ≤ 10) (hm : m < 2 ^ N) (hs : ∀ k, s k ≤ 18) (hw : ∀ k, k < N → h.1 50 0 k = nI (s k)) : hf_228 (nI m) h = some (nI (bso s m 10).1, h) := by
  have hp := p2_lt hN2
  have e10 : bso s m 10 = bso s m N := by
    have := bso_hi (s := s) hm (10 - N)
    rwa [show N + (10 - N) = 10 by omega] at this
  rw [e10]
  unfold hf_228
  refine lp_for (st := fun i => (nI m, nI (bso s m i).1, nI (bso s m i).2, nI i, h)) (e := N) (fun i hi q => ?_) (fun q => ?_) 0 hs_big (by omega) (lp_big (by omega))
  · show hb_228_8 q (nI m) (nI (bso s m i).1) (nI (bso s m i).2) (nI i) h = q (nI m, nI (if m.testBit i = true ∧ (bso s m i).2 < s i then (i, s i) else bso s m i).1, nI (if m.testBit i = true ∧ (bso s m i).2 < s i then (i, s i) else bso s m i).2, nI (i + 1), h)
    have hb := bso_le (m := m) hs i
    have hsi := hs i
    generalize bso s m i = B at hb
    unfold hb_228_8 hb_228_42 hb_228_43 hb_228_56 hb_228_73
    rw [hN, if_neg (nI_ge hi (by omega)), nx_bit (by omega) (by omega), nx_inb (by omega) (by omega), nx_ck, nx_ck, nI_clamp (by omega), hw i hi, nI_add]
    cases hb2 : m.testBit i with
    | false =>
      rw [if_pos (by decide), if_pos (by decide), if_pos (by decide), if_neg (c := false = true ∧ B.2 < s i) (fun q => absurd q.1 (by decide))]
    | true =>
      rw [if_neg (by decide)]
      by_cases h3 : B.2 < s i
      · rw [if_neg (nI_ge h3 (by omega)), if_neg (by decide), if_neg (by decide), if_pos (c := true = true ∧ B.2 < s i) ⟨rfl, h3⟩]
        rfl
      · rw [if_pos (nI_le (by omega) (by omega)), if_pos (by decide), if_pos (by decide), if_neg (c := true = true ∧ B.2 < s i) (fun q => h3 q.2)]
        rfl
  · show hb_228_8 q (nI m) (nI (bso s m N).1) (nI (bso s m N).2) (nI N) h = _
    unfold hb_228_8
    rw [hN, if_pos (nI_le (Nat.le_refl _) (by omega))]
/-- the smells behind the fox's move -/
theorem sp_229s {i hd t : Nat} {s : Nat → Nat} {h : hs_H} (k69 : Int32 × Int32 × Int32 × Int32 × hs_H → Option (Int32 × hs_H)) (n : sea_k h N re W J) (hN2 : N ≤ 10) (hW : W < 2 ^ N) (hs : ∀ k, s k ≤ 18) (hsW : ∀ k, W.testBit k = true → s k = 0) (hw : ∀ k, k < N → h.1 50 0 k = nI (s k)) (hi : i < N) : hb_229_110 k69 (nI hd) (nI t) (nI i) h = if ¬ nI i = nI hd then hb_229_160 k69 (nI i) (nI hd) (nI t) (nI 0) (hs_row h 50 0 N (fun k => nI (passS W s i k))) else hb_229_160 k69 (nI i) (nI hd) (nI t) (nI 1) (hs_row h 50 0 N (fun k => nI (passS W s i k))) := by
  have hp := p2_lt hN2
  obtain ⟨n1, n2, n3, n4⟩ := n
  unfold hb_229_110
  have s0 := lp_for (f := fun k s => hb_229_114 k69 k s.1 s.2.1 s.2.2.1 s.2.2.2.1 s.2.2.2.2) (st := fun j => (nI i, nI hd, nI t, nI j, hs_row h 50 0 j (fun k => nI (passS W s i k)))) (e := N) (X := if ¬ nI i = nI hd then hb_229_160 k69 (nI i) (nI hd) (nI t) (nI 0) (hs_row h 50 0 N (fun k => nI (passS W s i k))) else hb_229_160 k69 (nI i) (nI hd) (nI t) (nI 1) (hs_row h 50 0 N (fun k => nI (passS W s i k)))) (fun j hj q => by
    show hb_229_114 k69 q (nI i) (nI hd) (nI t) (nI j) (hs_row h 50 0 j (fun k => nI (passS W s i k))) = q (nI i, nI hd, nI t, nI (j + 1), hs_row h 50 0 (j + 1) (fun k => nI (passS W s i k)))
    have e1 : (hs_row h 50 0 j (fun k => nI (passS W s i k))).1 12 0 2 = nI N := by rw [nx_rowget, if_neg (by omega)]; exact n1
    have e2 : (hs_row h 50 0 j (fun k => nI (passS W s i k))).1 12 0 4 = nI W := by rw [nx_rowget, if_neg (by omega)]; exact n3
    have e3 : (hs_row h 50 0 j (fun k => nI (passS W s i k))).1 50 0 j = nI (s j) := by rw [nx_rowget, if_neg (by omega)]; exact hw j hj
    have eS := hs_rowS h 50 0 j (fun k => nI (passS W s i k))
    rw [← eS]
    generalize hs_row h 50 0 j (fun k => nI (passS W s i k)) = H at e1 e2 e3
    have hsj := hs j
    unfold hb_229_114
    rw [e1, if_neg (nI_ge hj (by omega)), nx_inb (by omega) (by omega), nx_ck, nI_clamp (by omega), e3, sp_183 e2 (by omega) (by omega) (by omega) (by omega), Option.bind_some]
    dsimp only
    rw [smell_eq hs hsW, nx_ck, nI_add]) (fun q => by
    show hb_229_114 k69 q (nI i) (nI hd) (nI t) (nI N) (hs_row h 50 0 N (fun k => nI (passS W s i k))) = _
    unfold hb_229_114
    rw [nx_rowget, if_neg (c := 12 = 50 ∧ 0 = 0 ∧ 2 < N) (by omega), n1, if_pos (nI_le (Nat.le_refl _) (by omega))]) 0 hs_big (by omega) (lp_big (by omega))
  rw [hs_row0] at s0
  exact s0
theorem sp_229t {h0 H : hs_H} {x : Int32} {tn f hd t : Nat} {s : Nat → Nat} (hN : N ≤ 10) (hJ : ∀ k, J k < 2 ^ N) (hre : re = 0 ∨ re = 1) (hW : W < 2 ^ N) (ok : sOK W N f hd s) (n : sea_k h0 N re W J) (p : sea_m h0 H N x tn s) (ht : t < 20) : ∃ H', (sea_m h0 H' N (trn J re W tn x f hd s).2.2.1 (tn + 1) (trn J re W tn x f hd s).2.2.2.2.2) ∧ ∀ k, hb_229_69 k (nI f) (nI hd) (bI false) (nI t) H = k (nI (trn J re W tn x f hd s).2.2.2.1, nI (trn J re W tn x f hd s).2.2.2.2.1, bI (trn J re W tn x f hd s).1, nI (t + 1), H') := by
  have hp := p2_lt hN
  obtain ⟨o1, o2, o3, o4, o5⟩ := ok
  have hm := mvs_lt (re := re) hJ hre o1
  have hfl := tF_lt (x := x) hN hJ hre o1
  have s1 : ∃ H1, sea_m h0 H1 N (tX J re x f) tn s ∧ ∀ k, hb_229_69 k (nI f) (nI hd) (bI false) (nI t) H = hb_229_110 k (nI hd) (nI t) (nI (tF J re x f)) H1 := by
    obtain ⟨n1, n2, n3, n4⟩ := sea_k_of p.2.1 p.1 n
    have px := p.2.2.1
    have em : J f ||| re * 2 ^ f = mvs J re f := rfl
    unfold hb_229_69 tF tX
    by_cases h1 : mvs J re f = 0
    · rw [if_pos h1, if_pos h1]
      refine ⟨H, p, fun k => ?_⟩
      rw [if_neg (nI_ge ht (by omega)), if_neg (by decide), nx_inb (by omega) (by omega), nx_ck, nI_clamp (by omega), n4 f (by omega), n2, nx_shl _ (by omega), nx_or, em, h1, if_neg (fun q => q rfl)]
    · rw [if_neg h1, if_neg h1]
      refine ⟨hs_put H 12 0 36 (nxt x), sea_m_put _ p, fun k => ?_⟩
      rw [if_neg (nI_ge ht (by omega)), if_neg (by decide), nx_inb (by omega) (by omega), nx_ck, nI_clamp (by omega), n4 f (by omega), n2, nx_shl _ (by omega), nx_or, em, if_pos (nI_ne0 (by omega) (by omega)), sp_227 n1 hN hm h1, Option.bind_some, px]
  obtain ⟨H1, q1, e1⟩ := s1
  have n' := sea_k_of q1.2.1 q1.1 n
  have e2 := fun k => sp_229s (i := tF J re x f) (hd := hd) (t := t) (s := s) k n' hN hW o3 o5 q1.2.2.2.2 hfl
  have q2 := sea_m_row (s' := passS W s (tF J re x f)) q1
  generalize hs_row H1 50 0 N (fun k => nI (passS W s (tF J re x f) k)) = H2 at e2 q2
  obtain ⟨m1, m2, m3, m4⟩ := sea_k_of q2.2.1 q2.1 n
  have s2' := passS_le (W := W) (i := tF J re x f) o3
  have hJd := hJ hd
  unfold trn
  by_cases h2 : tF J re x f = hd
  · rw [if_pos h2]
    refine ⟨_, sea_m_cnt q2, fun k => ?_⟩
    rw [e1 k, e2 k, h2, if_neg (fun q => q rfl)]
    unfold hb_229_160 hb_229_220
    rw [if_pos (by decide), nI_add]
    rfl
  · have h2' : ¬ nI (tF J re x f) = nI hd := fun q => h2 (nI_inj (by omega) (by omega) q)
    have hml := hM_lt (x := tX J re x f) (s := passS W s (tF J re x f)) hN hJ o2
    rw [if_neg h2]
    have s3 : ∃ H3, sea_m h0 H3 N (hX J (passS W s (tF J re x f)) (tX J re x f) hd) tn (passS W s (tF J re x f)) ∧ ∀ k, hb_229_160 k (nI (tF J re x f)) (nI hd) (nI t) (nI 0) H2 = hb_229_208 k (nI (tF J re x f)) (nI t) (nI (hM J (passS W s (tF J re x f)) (tX J re x f) hd)) H3 := by
      have px := q2.2.2.1
      unfold hb_229_160 hM hX
      by_cases h4 : J hd = 0
      · rw [if_pos h4, if_pos h4]
        refine ⟨H2, q2, fun k => ?_⟩
        unfold hb_229_208 hb_229_219
        rw [if_neg (by decide), nx_inb (by omega) (by omega), nx_ck, nI_clamp (by omega), m4 hd (by omega), h4, if_pos (show nI 0 = 0 by decide), if_pos h2']
      · rw [if_neg h4, if_neg h4]
        have hbl := bso_in (s := passS W s (tF J re x f)) (m := J hd) 10
        by_cases h5 : (bso (passS W s (tF J re x f)) (J hd) 10).1 = 4294967292
        · rw [if_pos h5, if_pos h5]
          refine ⟨_, sea_m_put _ q2, fun k => ?_⟩
          rw [if_neg (by decide), nx_inb (by omega) (by omega), nx_ck, nx_ck, nI_clamp (by omega), m4 hd (by omega), if_neg (nI_ne0 (by omega) (by omega)), sp_228 m1 hN hJd s2' q2.2.2.2.2, Option.bind_some]
          dsimp only
          rw [h5, if_neg (fun q => q rfl), nx_ck, m4 hd (by omega), sp_227 m1 hN hJd h4, Option.bind_some, px]
        · rw [if_neg h5, if_neg h5]
          have h6 := tb_in hJd (hbl.resolve_left h5)
          refine ⟨H2, q2, fun k => ?_⟩
          rw [if_neg (by decide), nx_inb (by omega) (by omega), nx_ck, nx_ck, nI_clamp (by omega), m4 hd (by omega), if_neg (nI_ne0 (by omega) (by omega)), sp_228 m1 hN hJd s2' q2.2.2.2.2, Option.bind_some]
          dsimp only
          rw [if_pos (fun q => h5 (nI_inj (by omega) (by omega) q))]
    obtain ⟨H3, q3, e3⟩ := s3
    refine ⟨_, sea_m_cnt q3, fun k => ?_⟩
    rw [e1 k, e2 k, if_pos h2', e3 k]
    unfold hb_229_208 hb_229_219 hb_229_220
    dsimp only
    by_cases h3 : tF J re x f = hM J (passS W s (tF J re x f)) (tX J re x f) hd
    · rw [decide_eq_true h3, ← h3, if_neg (fun q => q rfl), nI_add]
      rfl
    · rw [decide_eq_false h3, if_pos (fun q => h3 (nI_inj (by omega) (by omega) q)), nI_add]
      rfl
theorem sp_229 {h0 H : hs_H} {x : Int32} {tn : Nat} {s : Nat → Nat} (hN : N ≤ 10) (hN1 : 1 ≤ N) (hJ : ∀ k, J k < 2 ^ N) (hre : re = 0 ∨ re = 1) (hW : W < 2 ^ N) (n : sea_k h0 N re W J) (p : sea_m h0 H N x tn s) : ∃ H', hf_229 H = some (bI (hT J re W (hS W N x tn) 20).1, H') ∧ sea_m h0 H' N (hT J re W (hS W N x tn) 20).2.2.1 (hT J re W (hS W N x tn) 20).2.1 (hT J re W (hS W N x tn) 20).2.2.2.2.2 := by
  have hp := p2_lt hN
  have hs0 := hS_ok (W := W) (x := x) (tn := tn) hN1
  obtain ⟨n1, n2, n3, n4⟩ := sea_k_of p.2.1 p.1 n
  have px := p.2.2.1
  have e1 := sp_226 (k := N) (h := H) (by omega) (by omega)
  rw [px] at e1
  have p1 := sea_m_put (nxt x) p
  generalize hs_put H 12 0 36 (nxt x) = H1 at p1 e1
  have px1 := p1.2.2.1
  have k1 : H1.1 12 0 2 = nI N := (sea_k_of p1.2.1 p1.1 n).1
  have e2 := sp_226 (k := N) (h := H1) (by omega) (by omega)
  rw [px1] at e2
  have p2 := sea_m_put (nxt (nxt x)) p1
  generalize hs_put H1 12 0 36 (nxt (nxt x)) = H2 at p2 e2
  have hfN : drw (nxt x) % N < N := Nat.mod_lt _ hN1
  have p3 := sea_m_row (s' := passS W (fun _ => 0) (drw (nxt x) % N)) p2
  obtain ⟨m1, m2, m3, m4⟩ := sea_k_of p2.2.1 p2.1 n
  unfold hf_229
  rw [n1, e1, Option.bind_some]
  dsimp only
  rw [k1, e2, Option.bind_some]
  dsimp only
  have main : hs_lp (fun k s => hb_229_69 k s.1 s.2.1 s.2.2.1 s.2.2.2.1 s.2.2.2.2) hs_big (nI (drw (nxt x) % N), nI (drw (nxt (nxt x)) % N), nI 0, nI 0, hs_row H2 50 0 N (fun k => nI (passS W (fun _ => 0) (drw (nxt x) % N) k))) = hs_lp (fun k s => hb_229_23 k s.1 s.2.1 s.2.2.1 s.2.2.2.1 s.2.2.2.2) hs_big (nI (drw (nxt x) % N), nI (drw (nxt (nxt x)) % N), nI 0, nI 0, H2) := by
    symm
    have s0 := lp_for (f := fun k s => hb_229_23 k s.1 s.2.1 s.2.2.1 s.2.2.2.1 s.2.2.2.2) (st := fun j => (nI (drw (nxt x) % N), nI (drw (nxt (nxt x)) % N), nI 0, nI j, hs_row H2 50 0 j (fun k => nI (passS W (fun _ => 0) (drw (nxt x) % N) k)))) (e := N) (X := hs_lp (fun k s => hb_229_69 k s.1 s.2.1 s.2.2.1 s.2.2.2.1 s.2.2.2.2) hs_big (nI (drw (nxt x) % N), nI (drw (nxt (nxt x)) % N), nI 0, nI 0, hs_row H2 50 0 N (fun k => nI (passS W (fun _ => 0) (drw (nxt x) % N) k)))) (fun j hj q => by
      show hb_229_23 q (nI (drw (nxt x) % N)) (nI (drw (nxt (nxt x)) % N)) (nI 0) (nI j) (hs_row H2 50 0 j (fun k => nI (passS W (fun _ => 0) (drw (nxt x) % N) k))) = q (nI (drw (nxt x) % N), nI (drw (nxt (nxt x)) % N), nI 0, nI (j + 1), hs_row H2 50 0 (j + 1) (fun k => nI (passS W (fun _ => 0) (drw (nxt x) % N) k)))
      generalize drw (nxt x) % N = f at hfN
      have eS := hs_rowS H2 50 0 j (fun k => nI (passS W (fun _ => 0) f k))
      have w1 : (hs_row H2 50 0 j (fun k => nI (passS W (fun _ => 0) f k))).1 12 0 2 = nI N := by rw [nx_rowget, if_neg (by omega)]; exact m1
      have w3 : (hs_row H2 50 0 j (fun k => nI (passS W (fun _ => 0) f k))).1 12 0 4 = nI W := by rw [nx_rowget, if_neg (by omega)]; exact m3
      rw [← eS]
      generalize hs_row H2 50 0 j (fun k => nI (passS W (fun _ => 0) f k)) = G at w1 w3
      unfold hb_229_23 hb_229_58 hb_229_59
      rw [w1, if_neg (nI_ge hj (by omega)), nx_inb (by omega) (by omega), nx_ck, nI_clamp (by omega), nI_add]
      by_cases hjf : j = f
      · subst hjf
        have hv : passS W (fun _ => 0) j j = if W.testBit j = true then 0 else 9 := by unfold passS; rw [if_pos rfl]; rfl
        rw [if_neg (fun q => q rfl), sp_180 w3 (by omega) (by omega), Option.bind_some, hv]
        dsimp only
        cases hb : W.testBit j with
        | true =>
          rw [if_pos (by decide), if_pos rfl]
          rfl
        | false =>
          rw [if_neg (by decide), if_neg Bool.false_ne_true]
          rfl
      · have hv : passS W (fun _ => 0) f j = 0 := by
          unfold passS
          rw [if_neg hjf]
          rfl
        rw [if_pos (fun q => hjf (nI_inj (by omega) (by omega) q)), hv]) (fun q => by
      show hb_229_23 q (nI (drw (nxt x) % N)) (nI (drw (nxt (nxt x)) % N)) (nI 0) (nI N) (hs_row H2 50 0 N (fun k => nI (passS W (fun _ => 0) (drw (nxt x) % N) k))) = _
      unfold hb_229_23
      rw [nx_rowget, if_neg (c := 12 = 50 ∧ 0 = 0 ∧ 2 < N) (by omega), m1, if_pos (nI_le (Nat.le_refl _) (by omega))]) 0 hs_big (by omega) (lp_big (by omega))
    rw [hs_row0] at s0
    exact s0
  rw [← main]
  generalize hs_row H2 50 0 N (fun k => nI (passS W (fun _ => 0) (drw (nxt x) % N) k)) = H3 at p3
  refine lp_q (I := fun d q => ∃ t G, t ≤ 20 ∧ d = 20 - t ∧ sea_m h0 G N (hT J re W (hS W N x tn) t).2.2.1 (hT J re W (hS W N x tn) t).2.1 (hT J re W (hS W N x tn) t).2.2.2.2.2 ∧ q = (nI (hT J re W (hS W N x tn) t).2.2.2.1, nI (hT J re W (hS W N x tn) t).2.2.2.2.1, bI (hT J re W (hS W N x tn) t).1, nI t, G)) (Q := fun r => ∃ H', r = some (bI (hT J re W (hS W N x tn) 20).1, H') ∧ sea_m h0 H' N (hT J re W (hS W N x tn) 20).2.2.1 (hT J re W (hS W N x tn) 20).2.1 (hT J re W (hS W N x tn) 20).2.2.2.2.2) (fun d q hI => ?_) 20 _ hs_big ⟨0, H3, by omega, rfl, p3, rfl⟩ (lp_big (by omega))
  obtain ⟨t, G, ht, rfl, hG, rfl⟩ := hI
  by_cases h20 : t = 20
  · subst h20
    refine Or.inl (fun k => ⟨G, ?_, hG⟩)
    show hb_229_69 k (nI (hT J re W (hS W N x tn) 20).2.2.2.1) (nI (hT J re W (hS W N x tn) 20).2.2.2.2.1) (bI (hT J re W (hS W N x tn) 20).1) (nI 20) G = _
    unfold hb_229_69 hb_229_236
    rw [if_pos (by decide), bI_01, nx_ck]
  · cases hc : (hT J re W (hS W N x tn) t).1 with
    | true =>
      have e20 := hT_stay hc (20 - t)
      rw [show t + (20 - t) = 20 by omega] at e20
      refine Or.inl (fun k => ⟨G, ?_, by rw [e20]; exact hG⟩)
      show hb_229_69 k (nI (hT J re W (hS W N x tn) t).2.2.2.1) (nI (hT J re W (hS W N x tn) t).2.2.2.2.1) (bI true) (nI t) G = _
      unfold hb_229_69 hb_229_236
      rw [if_neg (nI_ge (by omega) (by omega)), if_pos (by decide), bI_01, nx_ck, e20, hc]
    | false =>
      obtain ⟨G', g1, g2⟩ := sp_229t (t := t) hN hJ hre hW (hT_ok hN hJ hre hs0 t) n hG (by omega)
      rw [← hT_S hc] at g1 g2
      have hcnt : (hT J re W (hS W N x tn) (t + 1)).2.1 = (hT J re W (hS W N x tn) t).2.1 + 1 := by rw [hT_S hc]; exact trn_cnt
      rw [← hcnt] at g1
      refine Or.inr ⟨20 - (t + 1), _, by omega, ⟨t + 1, G', by omega, rfl, g1, rfl⟩, fun k => ?_⟩
      show hb_229_69 k (nI (hT J re W (hS W N x tn) t).2.2.2.1) (nI (hT J re W (hS W N x tn) t).2.2.2.2.1) (bI false) (nI t) G = _
      rw [g2 k]
/-- the seed, foxes caught, turns behind i hunts -/
def hr (J : Nat → Nat) (re W N : Nat) (x0 : Int32) : Nat → Int32 × Nat × Nat
  | 0 => (x0, 0, 0)
  | i + 1 => ((hT J re W (hS W N (hr J re W N x0 i).1 (hr J re W N x0 i).2.2) 20).2.2.1, (hr J re W N x0 i).2.1 + (hT J re W (hS W N (hr J re W N x0 i).1 (hr J re W N x0 i).2.2) 20).1.toNat, (hT J re W (hS W N (hr J re W N x0 i).1 (hr J re W N x0 i).2.2) 20).2.1)
theorem sp_73 {x0 : Int32} {m : Nat} {h : hs_H} (hN : N ≤ 10) (hN1 : 1 ≤ N) (hJ : ∀ k, J k < 2 ^ N) (hre : re = 0 ∨ re = 1) (hW : W < 2 ^ N) (n : sea_n h N re W J) (hm : m ≤ 20) : ∃ H f s, hf_73 x0 (nI m) h = some H ∧ sea_c h H (hr J re W N x0 m).1 (hr J re W N x0 m).2.1 (hr J re W N x0 m).2.2 f s := by
  unfold hf_73
  have p0 : sea_c h (hs_put (hs_put (hs_put h 7 0 2 x0) 7 0 3 (nI 0)) 7 0 4 (nI 0)) x0 0 0 (h.1 9 1 1).toBitVec.toNat (fun k => (h.1 33 1 k).toBitVec.toNat) := by
    refine ⟨((hs_fr.rf.put (.inl (.head _))).put (.inl (.head _))).put (.inl (.head _)), ?_, ?_, ?_, ?_, fun k hk => ?_⟩
    · simp (disch := omega) only [nq_nf, nq_nt, nq_le_t, nq_le_f, nq_lt_t, nq_lt_f, nq_eq_t, nq_eq_f, nq_neg, nq_pos, nq_le0f, nq_le0t, nq_lt0t, nq_lt0f, nq_eq0f, nq_eq0t, nI_add, nI_clamp, nx_inb, nx_ck, Option.bind_some, nx_get, nx_get2, nx_dif, nx_or, bI_0, bI_01, bI_nt, bI_nf, if_true, if_false, ite_true, ite_false, not_true_eq_false, not_false_eq_true, and_true, true_and, and_false, false_and, Bool.false_eq_true, Bool.true_eq_false, reduceCtorEq]
    · simp (disch := omega) only [nq_nf, nq_nt, nq_le_t, nq_le_f, nq_lt_t, nq_lt_f, nq_eq_t, nq_eq_f, nq_neg, nq_pos, nq_le0f, nq_le0t, nq_lt0t, nq_lt0f, nq_eq0f, nq_eq0t, nI_add, nI_clamp, nx_inb, nx_ck, Option.bind_some, nx_get, nx_get2, nx_dif, nx_or, bI_0, bI_01, bI_nt, bI_nf, if_true, if_false, ite_true, ite_false, not_true_eq_false, not_false_eq_true, and_true, true_and, and_false, false_and, Bool.false_eq_true, Bool.true_eq_false, reduceCtorEq]
    · simp (disch := omega) only [nq_nf, nq_nt, nq_le_t, nq_le_f, nq_lt_t, nq_lt_f, nq_eq_t, nq_eq_f, nq_neg, nq_pos, nq_le0f, nq_le0t, nq_lt0t, nq_lt0f, nq_eq0f, nq_eq0t, nI_add, nI_clamp, nx_inb, nx_ck, Option.bind_some, nx_get, nx_get2, nx_dif, nx_or, bI_0, bI_01, bI_nt, bI_nf, if_true, if_false, ite_true, ite_false, not_true_eq_false, not_false_eq_true, and_true, true_and, and_false, false_and, Bool.false_eq_true, Bool.true_eq_false, reduceCtorEq]
    · simp (disch := omega) only [nq_nf, nq_nt, nq_le_t, nq_le_f, nq_lt_t, nq_lt_f, nq_eq_t, nq_eq_f, nq_neg, nq_pos, nq_le0f, nq_le0t, nq_lt0t, nq_lt0f, nq_eq0f, nq_eq0t, nI_add, nI_clamp, nx_inb, nx_ck, Option.bind_some, nx_get, nx_get2, nx_dif, nx_or, bI_0, bI_01, bI_nt, bI_nf, if_true, if_false, ite_true, ite_false, not_true_eq_false, not_false_eq_true, and_true, true_and, and_false, false_and, Bool.false_eq_true, Bool.true_eq_false, reduceCtorEq]; exact nI_bv _
    · simp (disch := omega) only [nq_nf, nq_nt, nq_le_t, nq_le_f, nq_lt_t, nq_lt_f, nq_eq_t, nq_eq_f, nq_neg, nq_pos, nq_le0f, nq_le0t, nq_lt0t, nq_lt0f, nq_eq0f, nq_eq0t, nI_add, nI_clamp, nx_inb, nx_ck, Option.bind_some, nx_get, nx_get2, nx_dif, nx_or, bI_0, bI_01, bI_nt, bI_nf, if_true, if_false, ite_true, ite_false, not_true_eq_false, not_false_eq_true, and_true, true_and, and_false, false_and, Bool.false_eq_true, Bool.true_eq_false, reduceCtorEq]; exact nI_bv _
  generalize hs_put (hs_put (hs_put h 7 0 2 x0) 7 0 3 (nI 0)) 7 0 4 (nI 0) = H0 at p0
  refine lp_q (I := fun d q => ∃ i G f s, i ≤ m ∧ d = m - i ∧ sea_c h G (hr J re W N x0 i).1 (hr J re W N x0 i).2.1 (hr J re W N x0 i).2.2 f s ∧ q = (nI m, nI i, G)) (Q := fun r => ∃ H f s, r = some H ∧ sea_c h H (hr J re W N x0 m).1 (hr J re W N x0 m).2.1 (hr J re W N x0 m).2.2 f s) (fun d q hI => ?_) m _ hs_big ⟨0, H0, _, _, by omega, rfl, p0, rfl⟩ (lp_big (by omega))
  obtain ⟨i, G, f, s, hi, rfl, hG, rfl⟩ := hI
  by_cases him : i = m
  · subst him
    refine Or.inl (fun k => ⟨G, f, s, ?_, hG⟩)
    show hb_73_17 k (nI i) (nI i) G = some G
    unfold hb_73_17
    rw [if_pos (nI_le (Nat.le_refl _) (by omega))]
  · obtain ⟨G', g1, g2⟩ := sp_74 hN hN1 hJ hre hW n hG
    refine Or.inr ⟨m - (i + 1), _, by omega, ⟨i + 1, G', _, _, by omega, rfl, g2, rfl⟩, fun k => ?_⟩
    show hb_73_17 k (nI m) (nI i) G = _
    unfold hb_73_17
    rw [if_neg (nI_ge (by omega) (by omega)), g1, Option.bind_some, nI_add]
theorem sp_230 {x0 x3 : Int32} {m : Nat} {h : hs_H} (hN : N ≤ 10) (hN1 : 1 ≤ N) (hJ : ∀ k, J k < 2 ^ N) (hre : re = 0 ∨ re = 1) (hW : W < 2 ^ N) (n : sea_k h N re W J) (hm : m ≤ 20) : ∃ H s, hs_lp (fun k s => hb_230_40 k s.1 s.2.1 s.2.2.1 s.2.2.2.1 s.2.2.2.2) hs_big (nI m, x3, nI 0, nI 0, hs_put (hs_put h 12 0 36 x0) 12 0 37 (nI 0)) = some (if ¬ x3 = 0 then nI (hr J re W N x0 m).2.2 else nI (hr J re W N x0 m).2.1, H) ∧ sea_m h H N (hr J re W N x0 m).1 (hr J re W N x0 m).2.2 s := by
  have p0 : sea_m h (hs_put (hs_put h 12 0 36 x0) 12 0 37 (nI 0)) N x0 0 (fun k => (h.1 50 0 k).toBitVec.toNat) := by
    refine ⟨(hs_fr.rf.put (.inl (.head _))).put (.inl (.head _)), fun p h1 h2 => ?_, ?_, ?_, fun k hk => ?_⟩
    · rw [nx_get, if_neg (by omega), nx_get, if_neg (by omega)]
    · simp (disch := omega) only [nq_nf, nq_nt, nq_le_t, nq_le_f, nq_lt_t, nq_lt_f, nq_eq_t, nq_eq_f, nq_neg, nq_pos, nq_le0f, nq_le0t, nq_lt0t, nq_lt0f, nq_eq0f, nq_eq0t, nI_add, nI_clamp, nx_inb, nx_ck, Option.bind_some, nx_get, nx_get2, nx_dif, nx_or, bI_0, bI_01, bI_nt, bI_nf, if_true, if_false, ite_true, ite_false, not_true_eq_false, not_false_eq_true, and_true, true_and, and_false, false_and, Bool.false_eq_true, Bool.true_eq_false, reduceCtorEq]
    · simp (disch := omega) only [nq_nf, nq_nt, nq_le_t, nq_le_f, nq_lt_t, nq_lt_f, nq_eq_t, nq_eq_f, nq_neg, nq_pos, nq_le0f, nq_le0t, nq_lt0t, nq_lt0f, nq_eq0f, nq_eq0t, nI_add, nI_clamp, nx_inb, nx_ck, Option.bind_some, nx_get, nx_get2, nx_dif, nx_or, bI_0, bI_01, bI_nt, bI_nf, if_true, if_false, ite_true, ite_false, not_true_eq_false, not_false_eq_true, and_true, true_and, and_false, false_and, Bool.false_eq_true, Bool.true_eq_false, reduceCtorEq]
    · simp (disch := omega) only [nq_nf, nq_nt, nq_le_t, nq_le_f, nq_lt_t, nq_lt_f, nq_eq_t, nq_eq_f, nq_neg, nq_pos, nq_le0f, nq_le0t, nq_lt0t, nq_lt0f, nq_eq0f, nq_eq0t, nI_add, nI_clamp, nx_inb, nx_ck, Option.bind_some, nx_get, nx_get2, nx_dif, nx_or, bI_0, bI_01, bI_nt, bI_nf, if_true, if_false, ite_true, ite_false, not_true_eq_false, not_false_eq_true, and_true, true_and, and_false, false_and, Bool.false_eq_true, Bool.true_eq_false, reduceCtorEq]; exact nI_bv _
  generalize hs_put (hs_put h 12 0 36 x0) 12 0 37 (nI 0) = H0 at p0
  refine lp_q (I := fun d q => ∃ i G s, i ≤ m ∧ d = m - i ∧ sea_m h G N (hr J re W N x0 i).1 (hr J re W N x0 i).2.2 s ∧ q = (nI m, x3, nI (hr J re W N x0 i).2.1, nI i, G)) (Q := fun r => ∃ H s, r = some (if ¬ x3 = 0 then nI (hr J re W N x0 m).2.2 else nI (hr J re W N x0 m).2.1, H) ∧ sea_m h H N (hr J re W N x0 m).1 (hr J re W N x0 m).2.2 s) (fun d q hI => ?_) m _ hs_big ⟨0, H0, _, by omega, rfl, p0, rfl⟩ (lp_big (by omega))
  obtain ⟨i, G, s, hi, rfl, hG, rfl⟩ := hI
  by_cases him : i = m
  · subst him
    refine Or.inl (fun k => ⟨G, s, ?_, hG⟩)
    show hb_230_40 k (nI i) x3 (nI (hr J re W N x0 i).2.1) (nI i) G = _
    unfold hb_230_40 hb_230_77
    rw [if_pos (nI_le (Nat.le_refl _) (by omega)), hG.2.2.2.1]
    by_cases h3 : x3 = 0
    · rw [if_neg (fun q => q h3), if_neg (fun q => q h3)]
    · rw [if_pos h3, if_pos h3]
  · obtain ⟨G', g1, g2⟩ := sp_229 hN hN1 hJ hre hW n hG
    refine Or.inr ⟨m - (i + 1), _, by omega, ⟨i + 1, G', _, by omega, rfl, g2, rfl⟩, fun k => ?_⟩
    show hb_230_40 k (nI m) x3 (nI (hr J re W N x0 i).2.1) (nI i) G = k (nI m, x3, nI ((hr J re W N x0 i).2.1 + (hT J re W (hS W N (hr J re W N x0 i).1 (hr J re W N x0 i).2.2) 20).1.toNat), nI (i + 1), G')
    unfold hb_230_40
    rw [if_neg (nI_ge (by omega) (by omega)), g1, Option.bind_some]
    dsimp only
    rw [sp_151, Option.bind_some]
    dsimp only
    have e : ∀ b : Bool, bI b = nI b.toNat := by intro b; cases b <;> rfl
    rw [e, nI_add, nI_add]
end MS
theorem rg_f2 {lo hi : Nat} {a : Int32} (hT : hi < 2147483648) (hlo : lo ≤ hi) (h : rg lo hi a = false) : a < nI lo ∨ (¬ a < nI lo ∧ nI hi < a) := by
  unfold rg at h
  rw [decide_eq_false_iff_not] at h
  rw [Int32.lt_iff_toInt_lt, Int32.lt_iff_toInt_lt, nI_toInt (by omega), nI_toInt hT]
  omega
section CS
variable {VC : Nat → (Nat → Nat) → Nat → Int32 → Int32 → hs_H → Prop} {VH : Nat → (Nat → Nat) → Nat → hs_H → Prop} {VW : st_VW}
theorem cl_season (V : st_V VC VH VW) {a e w : Int32} : st_call VC VH VW (hf_136 a e w) (hf_230 a e w) := by
  intro b h hb p
  have p0 := p
  obtain ⟨N, re, W, Ho, J, st, pl, mv, s, z, t, n, g, c, d, ⟨hc, hd⟩, ⟨⟨okN, okF, okS⟩, ⟨cN, cF, cS⟩, mJ, mF, mS⟩, mN, im, ca, rs⟩ := p
  obtain ⟨⟨hN1, hN2⟩, hre, hst, ⟨hW, hHo⟩, hJ, hJ0, hJs, hJa⟩ := id okN
  obtain ⟨cN1, cN2, cN3, cN4, cN5, cJ⟩ := id cN
  obtain ⟨mN1, mN2, mN3, mN4⟩ := id mN
  obtain ⟨mJ1, mJ2⟩ := st_mJ0 mJ
  obtain ⟨mF1, mF2, mF3⟩ := st_mF0 mF
  obtain ⟨mS1, mS2⟩ := st_mS0 mS
  obtain ⟨cF1, cF2, cF3⟩ := id cF
  obtain ⟨cS1, cS2⟩ := id cS
  have hp := p2_lt hN2
  by_cases hok : rg 1 20 e = true ∧ rg 0 1 w = true
  · obtain ⟨i, hi1, hi, rfl⟩ := (rg_of (by omega)).mp hok.1
    obtain ⟨x, -, hx, rfl⟩ := (rg_of (by omega)).mp hok.2
    obtain ⟨H, f, s1, c1, c2⟩ := sp_73 (x0 := a) (m := i) (h := h) hN2 (by omega) hJ hre hW ⟨cN1, cN2, cN4, cJ⟩ hi
    have fr := c2.1
    have pH := st_all_fr V fr rfl p0
    have e12 : H.1 12 0 = h.1 12 0 := (fr 12 0 (by intro q hq; revert q; simp)).1
    have e44 : H.1 44 0 = h.1 44 0 := (fr 44 0 (by intro q hq; revert q; simp)).1
    obtain ⟨G, s2, g1, g2⟩ := sp_230 (x0 := a) (x3 := nI x) (m := i) (h := H) (W := W) (N := N) (re := re) (J := J) hN2 (by omega) hJ hre hW ⟨by rw [e12]; exact mN1, by rw [e12]; exact mN2, by rw [e12]; exact mN3, fun k hk => by rw [e44]; exact mJ1 k hk⟩ hi
    refine ⟨if ¬ nI x = 0 then nI (hr J re W N a i).2.2 else nI (hr J re W N a i).2.1, H, G, ?_, ?_, ?_⟩
    · unfold hf_136 hb_136_52
      rw [if_neg (nI_nlt (by omega) (by omega)), if_neg (nI_nlt (by omega) (by omega)), if_neg (nI_pos (by omega)), if_pos (nI_le hx (by omega)), c1, Option.bind_some, c2.2.2.1, c2.2.2.2.1]
      by_cases h3 : nI x = 0
      · rw [if_neg (fun q => q h3), if_neg (fun q => q h3)]
      · rw [if_pos h3, if_pos h3]
    · unfold hf_230
      rw [sp_150r (lo := 1) (hi := 20) rfl rfl, hok.1, Option.bind_some]
      dsimp only
      rw [if_neg (by decide), sp_150r (lo := 0) (hi := 1) rfl rfl, hok.2, Option.bind_some]
      dsimp only
      rw [if_pos (by decide)]
      exact g1
    · exact (st_all_fp V g2.1 rfl (fun p hp => g2.2.1 p (by omega) (by omega)) pH).up VC VH VW (by omega)
  · refine ⟨nI 4294967295, h, h, ?_, ?_, p0.up VC VH VW (by omega)⟩
    · unfold hf_136 hb_136_20
      cases h1 : rg 1 20 e with
      | false =>
        rcases rg_f2 (by omega) (by omega) h1 with h4 | ⟨h4, h5⟩
        · rw [if_pos h4]
        · rw [if_neg h4, if_pos h5]
      | true =>
        obtain ⟨i, hi1, hi, rfl⟩ := (rg_of (by omega)).mp h1
        rw [if_neg (nI_nlt (by omega) (by omega)), if_neg (nI_nlt (by omega) (by omega))]
        have h3 : rg 0 1 w = false := eq_false_of_ne_true (fun q => hok ⟨h1, q⟩)
        rcases rg_f (by omega) h3 with h4 | ⟨h4, h5⟩
        · rw [if_pos h4]
        · rw [if_neg h4, if_neg h5]
    · unfold hf_230 hb_230_22
      rw [sp_150r (lo := 1) (hi := 20) rfl rfl, Option.bind_some]
      dsimp only
      cases h1 : rg 1 20 e with
      | false => rw [if_pos (by decide)]
      | true =>
        have h3 : rg 0 1 w = false := eq_false_of_ne_true (fun q => hok ⟨h1, q⟩)
        rw [if_neg (by decide), sp_150r (lo := 0) (hi := 1) rfl rfl, h3, Option.bind_some]
        dsimp only
        rw [if_neg (by decide)]
end CS
