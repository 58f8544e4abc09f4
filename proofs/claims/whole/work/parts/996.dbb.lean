/-! post. -/
section DP
variable {J : Nat → Nat} {N re W n P a0 : Nat}
theorem dbA_b (hN : N ≤ 10) (hJ : ∀ k, J k < 2 ^ N) (hre : re = 0 ∨ re = 1) (hn : n ≤ 3) (ha : a0 < N) : dbA J N re W n P a0 ≤ 10 := by
  unfold dbA
  by_cases m0 : (wyl J N re n a0).length = 0
  · rw [if_pos m0]; omega
  · rw [if_neg m0]
    exact (dvw_b hN hJ hre ha ((dbb_lt hN hn).resolve_left (fun z => m0 z.1))).2
/-- the best post of the first i nodes -/
def psS (J : Nat → Nat) (N re W n P a0 : Nat) : Nat → Nat × Nat
  | 0 => (4294967292, 0)
  | i + 1 => if P.testBit i = true then psS J N re W n P a0 i else if (psS J N re W n P a0 i).1 = 4294967292 ∨ dbA J N re W n (P ||| 2 ^ i) a0 < (psS J N re W n P a0 i).2 then (i, dbA J N re W n (P ||| 2 ^ i) a0) else psS J N re W n P a0 i
theorem psS_b (hN : N ≤ 10) (hJ : ∀ k, J k < 2 ^ N) (hre : re = 0 ∨ re = 1) (hn : n ≤ 3) (ha : a0 < N) : ∀ i, i ≤ N → ((psS J N re W n P a0 i).1 = 4294967292 ∨ (psS J N re W n P a0 i).1 < N) ∧ (psS J N re W n P a0 i).2 ≤ 10 := by
  intro i
  induction i with
  | zero => intro _; exact ⟨Or.inl rfl, Nat.zero_le _⟩
  | succ i ih =>
    intro hi
    have ih := ih (by omega)
    show ((if P.testBit i = true then psS J N re W n P a0 i else if (psS J N re W n P a0 i).1 = 4294967292 ∨ dbA J N re W n (P ||| 2 ^ i) a0 < (psS J N re W n P a0 i).2 then (i, dbA J N re W n (P ||| 2 ^ i) a0) else psS J N re W n P a0 i).1 = 4294967292 ∨ (if P.testBit i = true then psS J N re W n P a0 i else if (psS J N re W n P a0 i).1 = 4294967292 ∨ dbA J N re W n (P ||| 2 ^ i) a0 < (psS J N re W n P a0 i).2 then (i, dbA J N re W n (P ||| 2 ^ i) a0) else psS J N re W n P a0 i).1 < N) ∧ (if P.testBit i = true then psS J N re W n P a0 i else if (psS J N re W n P a0 i).1 = 4294967292 ∨ dbA J N re W n (P ||| 2 ^ i) a0 < (psS J N re W n P a0 i).2 then (i, dbA J N re W n (P ||| 2 ^ i) a0) else psS J N re W n P a0 i).2 ≤ 10
    by_cases c : P.testBit i = true
    · rw [if_pos c]; exact ih
    · rw [if_neg c]
      by_cases c2 : (psS J N re W n P a0 i).1 = 4294967292 ∨ dbA J N re W n (P ||| 2 ^ i) a0 < (psS J N re W n P a0 i).2
      · rw [if_pos c2]
        exact ⟨Or.inr (by show i < N; omega), dbA_b hN hJ hre hn ha⟩
      · rw [if_neg c2]; exact ih
def lsP (s : Nat × Nat) : Int32 := if s.1 = 4294967292 then nI 4294967292 else nI s.2
theorem sp_126 {x4 : Int32} {h : hs_H} (hN : N ≤ 10) (hJ : ∀ k, J k < 2 ^ N) (hre : re = 0 ∨ re = 1) (hn : n ≤ 3) (ha : a0 < N) (hP : P < 2 ^ N) (c : ch_n N re J h) (hW : h.1 4 0 4 = nI W) : ∃ H, hs_lp (fun k s => hb_126_34 k s.1 s.2.1 s.2.2.1 s.2.2.2.1 s.2.2.2.2.1 s.2.2.2.2.2.1 s.2.2.2.2.2.2.1 s.2.2.2.2.2.2.2) hs_big (nI a0, nI n, nI P, x4, nI 4294967292, nI 4294967292, nI 0, h) = some (if ¬ x4 = 0 then lsP (psS J N re W n P a0 N) else nI (psS J N re W n P a0 N).1, H) ∧ hs_fr [(2, some 0)] h H := by
  have hp := p2_lt hN
  refine lp_q2 (f := fun k s => hb_126_34 k s.1 s.2.1 s.2.2.1 s.2.2.2.1 s.2.2.2.2.1 s.2.2.2.2.2.1 s.2.2.2.2.2.2.1 s.2.2.2.2.2.2.2) (I := fun d q => ∃ i H, i ≤ N ∧ d = N - i ∧ hs_fr [(2, some 0)] h H ∧ q = (nI a0, nI n, nI P, x4, nI (psS J N re W n P a0 i).1, lsP (psS J N re W n P a0 i), nI i, H)) (Q := fun o => ∃ H, o = some (if ¬ x4 = 0 then lsP (psS J N re W n P a0 N) else nI (psS J N re W n P a0 N).1, H) ∧ hs_fr [(2, some 0)] h H) (fun d q hI k => ?_) N _ hs_big ⟨0, h, by omega, rfl, hs_fr.rf, rfl⟩ (lp_big (by omega))
  obtain ⟨i, H, hi, rfl, fr, rfl⟩ := hI
  have c' := ch_n_fr fr rfl c
  have hW' : H.1 4 0 4 = nI W := by rw [(fr 4 0 (by intro q hq; revert q; simp)).1]; exact hW
  by_cases hin : i = N
  · subst hin
    refine Or.inl ⟨H, ?_, fr⟩
    show hb_126_34 k (nI a0) (nI n) (nI P) x4 (nI (psS J i re W n P a0 i).1) (lsP (psS J i re W n P a0 i)) (nI i) H = _
    unfold hb_126_34 hb_126_120
    rw [c'.1, if_pos (nI_le (Nat.le_refl _) (by omega))]
    by_cases q : x4 = 0
    · rw [if_neg (fun z => z q), if_neg (fun z => z q)]
    · rw [if_pos q, if_pos q]
  · refine Or.inr ?_
    have hb := psS_b (W := W) (P := P) hN hJ hre hn ha i hi
    have eS : psS J N re W n P a0 (i + 1) = if P.testBit i = true then psS J N re W n P a0 i else if (psS J N re W n P a0 i).1 = 4294967292 ∨ dbA J N re W n (P ||| 2 ^ i) a0 < (psS J N re W n P a0 i).2 then (i, dbA J N re W n (P ||| 2 ^ i) a0) else psS J N re W n P a0 i := rfl
    cases hbt : P.testBit i with
    | true =>
      rw [hbt, if_pos rfl] at eS
      refine ⟨N - (i + 1), _, by omega, ⟨i + 1, H, by omega, rfl, fr, rfl⟩, ?_⟩
      show hb_126_34 k (nI a0) (nI n) (nI P) x4 (nI (psS J N re W n P a0 i).1) (lsP (psS J N re W n P a0 i)) (nI i) H = _
      unfold hb_126_34 hb_126_102
      rw [c'.1, if_neg (nI_ge (by omega) (by omega)), sp_147 (by omega) (by omega), hbt, Option.bind_some]
      dsimp only
      rw [if_pos (by decide), nI_add, eS]
    | false =>
      rw [hbt, if_neg Bool.false_ne_true] at eS
      have hP2 : P ||| 2 ^ i < 2 ^ N := or_lt hP (Nat.pow_lt_pow_right (by omega) (by omega))
      obtain ⟨H2, s1, s2, s3, -⟩ := sp_23 (h := H) (P := P ||| 2 ^ i) hN hJ hre hP2 hn ha c' hW'
      have hv : (dbS J N re (dif (P ||| 2 ^ i) W) n a0).1 = dbA J N re W n (P ||| 2 ^ i) a0 := by
        rw [dbS_eq hN hJ hre hn ha]
        unfold dbA
        by_cases m0 : (wyl J N re n a0).length = 0
        · rw [if_pos m0, if_pos m0]
        · rw [if_neg m0, if_neg m0]
      rw [hv] at s3
      have hvb := dbA_b (W := W) (P := P ||| 2 ^ i) hN hJ hre hn ha
      refine ⟨N - (i + 1), _, by omega, ⟨i + 1, H2, by omega, rfl, fr.tr s2, rfl⟩, ?_⟩
      show hb_126_34 k (nI a0) (nI n) (nI P) x4 (nI (psS J N re W n P a0 i).1) (lsP (psS J N re W n P a0 i)) (nI i) H = _
      rw [eS]
      generalize psS J N re W n P a0 i = s at hb
      unfold hb_126_34 hb_126_89 hb_126_102
      rw [c'.1, if_neg (nI_ge (by omega) (by omega)), sp_147 (by omega) (by omega), hbt, Option.bind_some]
      dsimp only
      rw [if_neg (by decide), nx_shl1 (by omega), nx_or, s1, Option.bind_some, s3, nI_add]
      have ls1 : lsP (i, dbA J N re W n (P ||| 2 ^ i) a0) = nI (dbA J N re W n (P ||| 2 ^ i) a0) := if_neg (show ¬ i = 4294967292 by omega)
      by_cases c1 : s.1 = 4294967292
      · rw [if_pos (by rw [c1]), if_pos (Or.inl c1), ls1]
      · have ls2 : lsP s = nI s.2 := if_neg c1
        rw [if_neg (fun z => c1 (nI_inj (by omega) (by omega) z)), ls2]
        by_cases c2 : dbA J N re W n (P ||| 2 ^ i) a0 < s.2
        · rw [if_neg (nI_ge c2 (by omega)), if_pos (Or.inr c2), ls1]
        · rw [if_pos (nI_le (by omega) (by omega)), if_neg (fun z => z.elim c1 c2), ls2]
theorem sp_206 {x4 : Int32} {h : hs_H} (c : df_n N re W J h) (hN : N ≤ 10) (hre : re = 0 ∨ re = 1) (hJ : ∀ k, J k < 2 ^ N) (hJa : ∀ a, (J a).testBit a = false) (hW : W < 2 ^ N) (hP : P < 2 ^ N) (hn : n ≤ 3) (ha : a0 < N) : ∃ G, hs_lp (fun k s => hb_206_51 k s.1 s.2.1 s.2.2.1 s.2.2.2.1 s.2.2.2.2.1 s.2.2.2.2.2.1 s.2.2.2.2.2.2.1 s.2.2.2.2.2.2.2) hs_big (nI a0, nI n, nI P, x4, nI 4294967292, nI 0, nI 0, h) = some (if ¬ x4 = 0 then lsP (psS J N re W n P a0 N) else nI (psS J N re W n P a0 N).1, G) ∧ hs_fr [(12, some 0), (49, some 0), (50, some 0), (53, some 0), (54, some 0), (55, some 0), (56, some 0)] h G ∧ ∀ x, x ≠ 31 → G.1 12 0 x = h.1 12 0 x := by
  have hp := p2_lt hN
  have hlen : (wyl J N re n a0).length ≤ 1000 := by
    have h1 := wyl_len (J := J) (re := re) hN n a0
    have h2 : 10 ^ n ≤ 10 ^ 3 := Nat.pow_le_pow_right (by omega) hn
    omega
  refine lp_q2 (f := fun k s => hb_206_51 k s.1 s.2.1 s.2.2.1 s.2.2.2.1 s.2.2.2.2.1 s.2.2.2.2.2.1 s.2.2.2.2.2.2.1 s.2.2.2.2.2.2.2) (I := fun d q => ∃ i H, i ≤ N ∧ d = N - i ∧ (hs_fr [(12, some 0), (49, some 0), (50, some 0), (53, some 0), (54, some 0), (55, some 0), (56, some 0)] h H ∧ ∀ x, x ≠ 31 → H.1 12 0 x = h.1 12 0 x) ∧ q = (nI a0, nI n, nI P, x4, nI (psS J N re W n P a0 i).1, nI (psS J N re W n P a0 i).2, nI i, H)) (Q := fun o => ∃ G, o = some (if ¬ x4 = 0 then lsP (psS J N re W n P a0 N) else nI (psS J N re W n P a0 N).1, G) ∧ hs_fr [(12, some 0), (49, some 0), (50, some 0), (53, some 0), (54, some 0), (55, some 0), (56, some 0)] h G ∧ ∀ x, x ≠ 31 → G.1 12 0 x = h.1 12 0 x) (fun d q hI k => ?_) N _ hs_big ⟨0, h, by omega, rfl, ⟨hs_fr.rf, fun _ _ => rfl⟩, rfl⟩ (lp_big (by omega))
  obtain ⟨i, H, hi, rfl, ⟨fr, e12⟩, rfl⟩ := hI
  have e44 : H.1 44 0 = h.1 44 0 := (fr 44 0 (by intro q hq; revert q; simp)).1
  have c' : df_n N re W J H := by
    unfold df_n
    rw [e12 2 (by omega), e12 3 (by omega), e12 4 (by omega), e44]
    exact c
  have hb := psS_b (W := W) (P := P) hN hJ hre hn ha i hi
  by_cases hin : i = N
  · subst hin
    refine Or.inl ⟨H, ?_, fr, e12⟩
    show hb_206_51 k (nI a0) (nI n) (nI P) x4 (nI (psS J i re W n P a0 i).1) (nI (psS J i re W n P a0 i).2) (nI i) H = _
    generalize psS J i re W n P a0 i = s at hb
    unfold hb_206_51 hb_206_190 lsP
    rw [c'.1, if_pos (nI_le (Nat.le_refl _) (by omega))]
    by_cases c1 : s.1 = 4294967292
    · rw [if_pos c1, c1, if_neg (fun z => z rfl)]
      by_cases q : x4 = 0
      · rw [if_neg (fun z => z q)]
      · rw [if_pos q]
    · rw [if_pos (fun z => c1 (nI_inj (by omega) (by omega) z)), if_neg c1]
      by_cases q : x4 = 0
      · rw [if_neg (fun z => z q), if_neg (fun z => z q)]
      · rw [if_pos q, if_pos q]
  · refine Or.inr ?_
    have eS : psS J N re W n P a0 (i + 1) = if P.testBit i = true then psS J N re W n P a0 i else if (psS J N re W n P a0 i).1 = 4294967292 ∨ dbA J N re W n (P ||| 2 ^ i) a0 < (psS J N re W n P a0 i).2 then (i, dbA J N re W n (P ||| 2 ^ i) a0) else psS J N re W n P a0 i := rfl
    cases hbt : P.testBit i with
    | true =>
      rw [hbt, if_pos rfl] at eS
      refine ⟨N - (i + 1), _, by omega, ⟨i + 1, H, by omega, rfl, ⟨fr, e12⟩, rfl⟩, ?_⟩
      show hb_206_51 k (nI a0) (nI n) (nI P) x4 (nI (psS J N re W n P a0 i).1) (nI (psS J N re W n P a0 i).2) (nI i) H = _
      unfold hb_206_51 hb_206_160
      rw [c'.1, if_neg (nI_ge (by omega) (by omega)), nx_bit (by omega) (by omega), hbt, if_pos (by decide), nI_add, eS]
    | false =>
      rw [hbt, if_neg Bool.false_ne_true] at eS
      have hP2 : P ||| 2 ^ i < 2 ^ N := or_lt hP (Nat.pow_lt_pow_right (by omega) (by omega))
      obtain ⟨G, g1, g2⟩ := sp_203 (P := P ||| 2 ^ i) c' hN hre hJ hJa hW (by omega) hn ha
      have g1' : hf_203 (nI a0) (nI n) (nI (P ||| 2 ^ i)) H = some (nI (dbb J N re W n (P ||| 2 ^ i) a0), G) := g1
      have hbb := dbb_lt (J := J) (re := re) (W := W) (P := P ||| 2 ^ i) (a0 := a0) hN hn
      have mk := df_mask hN hJ hre (show P ||| 2 ^ i < 2147483648 by omega) hn ha g2
      have hvb := dbA_b (W := W) (P := P ||| 2 ^ i) hN hJ hre hn ha
      refine ⟨N - (i + 1), _, by omega, ⟨i + 1, G, by omega, rfl, ⟨fr.tr g2.1.1, fun x hx => by rw [g2.1.2 x hx]; exact e12 x hx⟩, rfl⟩, ?_⟩
      show hb_206_51 k (nI a0) (nI n) (nI P) x4 (nI (psS J N re W n P a0 i).1) (nI (psS J N re W n P a0 i).2) (nI i) H = _
      rw [eS]
      generalize psS J N re W n P a0 i = s at hb
      have e109 : hb_206_109 k (nI a0) (nI n) (nI P) x4 (nI s.1) (nI s.2) (nI i) (nI (dbA J N re W n (P ||| 2 ^ i) a0)) G = k (nI a0, nI n, nI P, x4, nI (if s.1 = 4294967292 ∨ dbA J N re W n (P ||| 2 ^ i) a0 < s.2 then (i, dbA J N re W n (P ||| 2 ^ i) a0) else s).1, nI (if s.1 = 4294967292 ∨ dbA J N re W n (P ||| 2 ^ i) a0 < s.2 then (i, dbA J N re W n (P ||| 2 ^ i) a0) else s).2, nI (i + 1), G) := by
        unfold hb_206_109 hb_206_125 hb_206_130 hb_206_144 hb_206_158 hb_206_160
        rw [nI_add]
        by_cases c1 : s.1 = 4294967292
        · rw [if_pos (by rw [c1]), if_neg (show ¬ nI 1 = 0 by decide), if_neg (show ¬ nI 1 = 0 by decide), if_pos (Or.inl c1)]
        · rw [if_neg (fun z => c1 (nI_inj (by omega) (by omega) z))]
          by_cases c2 : dbA J N re W n (P ||| 2 ^ i) a0 < s.2
          · rw [if_neg (nI_ge c2 (by omega)), if_neg (show ¬ nI 1 = 0 by decide), if_neg (show ¬ nI 1 = 0 by decide), if_pos (Or.inr c2)]
          · rw [if_pos (nI_le (by omega) (by omega)), if_pos (show nI 0 = 0 by decide), if_pos (show nI 0 = 0 by decide), if_neg (fun z => z.elim c1 c2)]
      unfold hb_206_51
      rw [c'.1, if_neg (nI_ge (by omega) (by omega)), nx_bit (by omega) (by omega), hbt, if_neg (by decide), nx_shl1 (by omega), nx_or, g1', Option.bind_some]
      dsimp only
      by_cases m0 : (wyl J N re n a0).length = 0
      · have hbN : dbb J N re W n (P ||| 2 ^ i) a0 = 4294967292 := by
          rcases hbb with z | z
          · exact z.2
          · omega
        have e0 : dbA J N re W n (P ||| 2 ^ i) a0 = 0 := if_pos m0
        rw [hbN, if_neg (fun z => z rfl)]
        rw [e0] at e109 ⊢
        exact e109
      · have hbl := hbb.resolve_left (fun z => m0 z.1)
        obtain ⟨s', t1, t2, M, u1, u2, u3⟩ := mk _ hbl
        have e0 : dbA J N re W n (P ||| 2 ^ i) a0 = dvw J N re W n (P ||| 2 ^ i) a0 (dbb J N re W n (P ||| 2 ^ i) a0) := if_neg m0
        rw [if_pos (fun z => by have := nI_inj (by omega) (by omega) z; omega), nx_inb (show dbb J N re W n (P ||| 2 ^ i) a0 < 1000 by omega) (by omega), nx_ck, nI_clamp (show dbb J N re W n (P ||| 2 ^ i) a0 < 2147483648 by omega), t2, nx_inb t1 (by omega), nx_ck, nI_clamp (show s' < 2147483648 by omega), u2, sp_152 (by omega), Option.bind_some, u3, ← e0]
        exact e109
end DP
section CP
variable {VC : Nat → (Nat → Nat) → Nat → Int32 → Int32 → hs_H → Prop} {VH : Nat → (Nat → Nat) → Nat → hs_H → Prop} {VW : st_VW}
theorem cl_post (V : st_V VC VH VW) {a e f w : Int32} : st_call VC VH VW (hf_126 a e f w) (hf_206 a e f w) := by
  intro b h hb p
  have p0 := p
  obtain ⟨N, re, W, Ho, J, st, pl, mv, s, z, t, n, g, c, d, ⟨hc, hd⟩, ⟨⟨okN, okF, okS⟩, ⟨cN, cF, cS⟩, mJ, mF, mS⟩, mN, im, ca, rs⟩ := p
  obtain ⟨⟨hN1, hN2⟩, hre, hst, ⟨hW, hHo⟩, hJ, hJ0, hJs, hJa⟩ := id okN
  obtain ⟨cN1, cN2, cN3, cN4, cN5, cJ⟩ := id cN
  obtain ⟨mN1, mN2, mN3, mN4⟩ := id mN
  obtain ⟨mJ1, mJ2⟩ := st_mJ0 mJ
  obtain ⟨mF1, mF2, mF3⟩ := st_mF0 mF
  obtain ⟨mS1, mS2⟩ := st_mS0 mS
  obtain ⟨cF1, cF2, cF3⟩ := id cF
  obtain ⟨cS1, cS2⟩ := id cS
  have hp := p2_lt hN2
  by_cases hok : (nd N a = true ∧ rg 0 3 e = true ∧ nm N f = true) ∧ rg 0 1 w = true
  · obtain ⟨⟨h1, h2, h3⟩, h4⟩ := hok
    obtain ⟨i, hi, rfl⟩ := (nd_of (by omega)).mp h1
    obtain ⟨x, -, hx, rfl⟩ := (rg_of (by omega)).mp h2
    obtain ⟨P, hP, rfl⟩ := (nm_of (by omega)).mp h3
    obtain ⟨y, -, hy, rfl⟩ := (rg_of (by omega)).mp h4
    obtain ⟨H, s1, s2⟩ := sp_126 (x4 := nI y) (h := h) (n := x) (a0 := i) (P := P) hN2 hJ hre hx hi hP ⟨cN1, cN2, cJ⟩ cN4
    have pH := st_all_fr V s2 rfl p0
    have e12 : H.1 12 0 = h.1 12 0 := (s2 12 0 (by intro q hq; revert q; simp)).1
    have e44 : H.1 44 0 = h.1 44 0 := (s2 44 0 (by intro q hq; revert q; simp)).1
    have cH : df_n N re W J H := ⟨by rw [e12]; exact mN1, by rw [e12]; exact mN2, by rw [e12]; exact mN3, fun k hk => by rw [e44]; exact mJ1 k hk⟩
    obtain ⟨G, g1, g2, g3⟩ := sp_206 (x4 := nI y) (n := x) (P := P) (a0 := i) cH hN2 hre hJ hJa hW hP hx hi
    refine ⟨if ¬ nI y = 0 then lsP (psS J N re W x P i N) else nI (psS J N re W x P i N).1, H, G, ?_, ?_, (st_all_fp V g2 rfl (fun p hp => g3 p (by omega)) pH).up VC VH VW (by omega)⟩
    · unfold hf_126
      rw [sp_127 cN1 hN2, h1, h2, h3, Option.bind_some]
      dsimp only
      rw [if_neg (by decide), if_neg (nI_pos (by omega)), if_pos (nI_le hy (by omega))]
      exact s1
    · unfold hf_206
      rw [sp_171 cH.1 (by omega) (by omega), h1, Option.bind_some]
      dsimp only
      rw [if_neg (by decide), sp_150r (lo := 0) (hi := 3) rfl rfl, h2, Option.bind_some]
      dsimp only
      rw [if_neg (by decide), sp_204 cH.1 (by omega), h3, Option.bind_some]
      dsimp only
      rw [if_neg (by decide), sp_150r (lo := 0) (hi := 1) rfl rfl, h4, Option.bind_some]
      dsimp only
      rw [if_pos (by decide)]
      exact g1
  · refine ⟨nI 4294967295, h, h, ?_, ?_, p0.up VC VH VW (by omega)⟩
    · unfold hf_126 hb_126_21
      rw [sp_127 cN1 hN2, Option.bind_some]
      dsimp only
      cases h1 : nd N a with
      | false => rw [if_pos (by rw [Bool.false_and]; decide)]
      | true =>
        cases h2 : rg 0 3 e with
        | false => rw [if_pos (by rw [Bool.true_and, Bool.false_and]; decide)]
        | true =>
          cases h3 : nm N f with
          | false => rw [if_pos (by decide)]
          | true =>
            have h4 : rg 0 1 w = false := eq_false_of_ne_true (fun q => hok ⟨⟨h1, h2, h3⟩, q⟩)
            rw [if_neg (by decide)]
            rcases rg_f (by omega) h4 with h5 | ⟨h5, h6⟩
            · rw [if_pos h5]
            · rw [if_neg h5, if_neg h6]
    · unfold hf_206 hb_206_39
      rw [sp_171 mN1 (by omega) (by omega), Option.bind_some]
      dsimp only
      cases h1 : nd N a with
      | false => rw [if_pos (by decide)]
      | true =>
        rw [if_neg (by decide), sp_150r (lo := 0) (hi := 3) rfl rfl, Option.bind_some]
        dsimp only
        cases h2 : rg 0 3 e with
        | false => rw [if_pos (by decide)]
        | true =>
          rw [if_neg (by decide), sp_204 mN1 (by omega), Option.bind_some]
          dsimp only
          cases h3 : nm N f with
          | false => rw [if_pos (by decide)]
          | true =>
            have h4 : rg 0 1 w = false := eq_false_of_ne_true (fun q => hok ⟨⟨h1, h2, h3⟩, q⟩)
            rw [if_neg (by decide), sp_150r (lo := 0) (hi := 1) rfl rfl, h4, Option.bind_some]
            dsimp only
            rw [if_neg (by decide)]
end CP
