/-! far. -/
theorem pcn_mono {a b : Nat} (hs : ∀ i, a.testBit i = true → b.testBit i = true) : ∀ n, pcn n a ≤ pcn n b := by
  intro n
  induction n with
  | zero => exact Nat.le_refl _
  | succ n ih =>
    show pcn n a + (a.testBit n).toNat ≤ pcn n b + (b.testBit n).toNat
    have h1 := hs n
    cases ha : a.testBit n with
    | false => exact Nat.le_trans ih (Nat.le_add_right _ _)
    | true => rw [h1 ha]; exact Nat.add_le_add_right ih _
theorem pcn_lt {a b : Nat} (hs : ∀ i, a.testBit i = true → b.testBit i = true) {j : Nat} (h1 : a.testBit j = false) (h2 : b.testBit j = true) : ∀ n, j < n → pcn n a < pcn n b := by
  intro n
  induction n with
  | zero => intro h; omega
  | succ n ih =>
    intro h
    show pcn n a + (a.testBit n).toNat < pcn n b + (b.testBit n).toNat
    by_cases hj : j = n
    · subst hj
      rw [h1, h2]
      have := pcn_mono hs j
      show pcn j a + 0 < pcn j b + 1
      omega
    · have h3 := ih (by omega)
      have h4 := hs n
      cases ha : a.testBit n with
      | false => exact Nat.lt_of_lt_of_le h3 (Nat.le_add_right _ _)
      | true => rw [h4 ha]; exact Nat.add_lt_add_right h3 _
theorem least_of {p : Nat → Prop} {n : Nat} (h : p n) : ∃ v, v ≤ n ∧ p v ∧ ∀ u, u < v → ¬ p u := by
  revert h
  induction n using Nat.strongRecOn with
  | ind n ih =>
    intro h
    by_cases h1 : ∃ u, u < n ∧ p u
    · obtain ⟨u, hu, hp⟩ := h1
      obtain ⟨v, hv, h2, h3⟩ := ih u hu hp
      exact ⟨v, by omega, h2, h3⟩
    · exact ⟨n, Nat.le_refl _, h, fun u hu hp => h1 ⟨u, hu, hp⟩⟩
theorem tb_in {a N j : Nat} (ha : a < 2 ^ N) (h : a.testBit j = true) : j < N := by
  by_cases q : j < N
  · exact q
  · have := tb_hi ha (Nat.le_of_not_lt q)
    rw [this] at h
    cases h
theorem tb_new {a b : Nat} (hs : ∀ i, a.testBit i = true → b.testBit i = true) (hne : b ≠ a) : ∃ j, a.testBit j = false ∧ b.testBit j = true := by
  by_cases h : ∃ j, a.testBit j = false ∧ b.testBit j = true
  · exact h
  · refine absurd (tb_ext fun i => ?_) hne
    cases ha : a.testBit i with
    | true => exact hs i ha
    | false =>
      cases hb : b.testBit i with
      | false => rfl
      | true => exact (h ⟨i, ha, hb⟩).elim
theorem bl_stay {J : Nat → Nat} {N M u : Nat} (e : bl J N M (u + 1) = bl J N M u) : ∀ d, bl J N M (u + d) = bl J N M u := by
  intro d
  induction d with
  | zero => rfl
  | succ d ih =>
    show bl J N M (u + d) ||| uni J (bl J N M (u + d)) N = _
    rw [ih]
    exact e
theorem bl_mono {J : Nat → Nat} {N M r j : Nat} (h : (bl J N M r).testBit j = true) : ∀ d, (bl J N M (r + d)).testBit j = true := by
  intro d
  induction d with
  | zero => exact h
  | succ d ih => exact bl_S.mpr (Or.inl ih)
theorem bl_mono' {J : Nat → Nat} {N M r r' j : Nat} (h : (bl J N M r).testBit j = true) (hr : r ≤ r') : (bl J N M r').testBit j = true := by
  have := bl_mono h (r' - r)
  rwa [show r + (r' - r) = r' by omega] at this
theorem bl_first {N M v j : Nat} {J : Nat → Nat} (hM : M < 2 ^ N) (hM0 : ∃ i, M.testBit i = true) (hJ : ∀ k, J k < 2 ^ N) (h1 : (bl J N M v).testBit j = true) (h2 : ∀ u, u < v → ¬ (bl J N M u).testBit j = true) : v < N := by
  have H : ∀ u, u ≤ v → u + 1 ≤ pcn N (bl J N M u) := by
    intro u
    induction u with
    | zero =>
      intro _
      obtain ⟨i, hi⟩ := hM0
      have := pcn_lt (a := 0) (b := M) (fun i q => by rw [Nat.zero_testBit] at q; cases q) (Nat.zero_testBit i) hi N (tb_in hM hi)
      show 0 + 1 ≤ pcn N M
      omega
    | succ u ih =>
      intro hu
      have h3 := ih (by omega)
      have hs : ∀ i, (bl J N M u).testBit i = true → (bl J N M (u + 1)).testBit i = true := fun i q => bl_S.mpr (Or.inl q)
      have hne : bl J N M (u + 1) ≠ bl J N M u := fun q => by
        have e := bl_stay q (v - u)
        rw [show u + (v - u) = v by omega] at e
        exact h2 u (by omega) (by rw [← e]; exact h1)
      obtain ⟨i, hi1, hi2⟩ := tb_new hs hne
      have := pcn_lt hs hi1 hi2 N (tb_in (bl_lt hM hJ (u + 1)) hi2)
      omega
  have h3 := H v (Nat.le_refl _)
  have h4 := pcn_le (bl J N M v) N
  omega
theorem lab_at {N M v j : Nat} {J : Nat → Nat} (hM : M < 2 ^ N) (hJ : ∀ k, J k < 2 ^ N) (h1 : (bl J N M v).testBit j = true) (h2 : ∀ u, u < v → ¬ (bl J N M u).testBit j = true) : ∀ d, v + d < 99998 → lab N M J (v + d) j = v := by
  intro d
  induction d with
  | zero =>
    intro hv
    have h3 := (lab_bl hM hJ v hv j).mp h1
    match v, h1, h2, hv, h3 with
    | 0, h1, _, _, _ =>
      show (if M.testBit j = true then 0 else 99999) = 0
      exact if_pos h1
    | w + 1, h1, h2, hv, h3 =>
      have h4 : lab N M J w j = 99999 := by
        by_cases q : lab N M J w j = 99999
        · exact q
        · exact ((h2 w (by omega)) ((lab_bl hM hJ w (by omega) j).mpr q)).elim
      have h5 : (if (lab N M J w j = 99999 ∧ j < N) ∧ (List.range N).any (fun i => decide (lab N M J w i = w) && (J i).testBit j) = true then w + 1 else lab N M J w j) ≠ 99999 := h3
      show (if (lab N M J w j = 99999 ∧ j < N) ∧ (List.range N).any (fun i => decide (lab N M J w i = w) && (J i).testBit j) = true then w + 1 else lab N M J w j) = w + 1
      by_cases c : (lab N M J w j = 99999 ∧ j < N) ∧ (List.range N).any (fun i => decide (lab N M J w i = w) && (J i).testBit j) = true
      · exact if_pos c
      · rw [if_neg c] at h5
        exact absurd h4 h5
  | succ d ih =>
    intro hd
    have h3 := ih (by omega)
    show lab N M J (v + d + 1) j = v
    rw [lab_keep (by omega)]
    exact h3
/-- the label is the first ball -/
theorem lab_le {N M j s : Nat} {J : Nat → Nat} (hM : M < 2 ^ N) (hJ : ∀ k, J k < 2 ^ N) (hs : s ≤ 10) : lab N M J 10 j ≤ s ↔ (bl J N M s).testBit j = true := by
  constructor
  · intro h
    have h3 := (lab_bl hM hJ 10 (by omega) j).mpr (by omega)
    obtain ⟨v, hv, h1, h2⟩ := least_of (p := fun v => (bl J N M v).testBit j = true) h3
    have h4 := lab_at hM hJ h1 h2 (10 - v) (by omega)
    rw [show v + (10 - v) = 10 by omega] at h4
    exact bl_mono' h1 (by omega)
  · intro h
    obtain ⟨v, hv, h1, h2⟩ := least_of (p := fun v => (bl J N M v).testBit j = true) h
    have h4 := lab_at hM hJ h1 h2 (10 - v) (by omega)
    rw [show v + (10 - v) = 10 by omega] at h4
    omega
section CF
variable {VC : Nat → (Nat → Nat) → Nat → Int32 → Int32 → hs_H → Prop} {VH : Nat → (Nat → Nat) → Nat → hs_H → Prop} {VW : st_VW}
theorem cl_far (V : st_V VC VH VW) {a e : Int32} : st_call VC VH VW (hf_113 a e) (hf_179 a e) := by
  intro b h hb p
  have p0 := p
  obtain ⟨N, re, W, Ho, J, st, pl, mv, s, z, t, n, g, c, d, ⟨hc, hd⟩, ⟨⟨okN, okF, okS⟩, ⟨cN, cF, cS⟩, mJ, mF, mS⟩, mN, im, ca, rs⟩ := p
  obtain ⟨⟨hN1, hN2⟩, hre, hst, ⟨hW, hHo⟩, hJ, hJ0, hJs, hJa⟩ := id okN
  obtain ⟨cN1, cN2, cN3, cN4, cN5, cJ⟩ := id cN
  obtain ⟨mN1, mN2, mN3, mN4⟩ := id mN
  obtain ⟨mJ1, mJ2⟩ := st_mJ0 mJ
  obtain ⟨mF1, mF2, mF3⟩ := st_mF0 mF
  obtain ⟨mS1, mS2⟩ := st_mS0 mS
  obtain ⟨cF1, cF2, cF3⟩ := id cF
  obtain ⟨cS1, cS2⟩ := id cS
  have hp := p2_lt hN2
  by_cases hok : nd N a = true ∧ nd N e = true
  · obtain ⟨i, hi, rfl⟩ := (nd_of (by omega)).mp hok.1
    obtain ⟨j, hj, rfl⟩ := (nd_of (by omega)).mp hok.2
    have hJ1 : ∀ k, J k < 1024 := fun k => by have := hJ k; omega
    have hM : 2 ^ i < 2 ^ N := Nat.pow_lt_pow_right (by omega) hi
    have e178 := sp_178 (M := 2 ^ i) mN1 hN2 mJ.1 hJ1 (by omega)
    have fr : st_all VC VH VW (b + 100) (rw48 h (lab N (2 ^ i) J 10)) := (st_all_fr V (K := [(48, some 0)]) (hs_row_fr (.inl (.head _))) rfl p0).up VC VH VW (by omega)
    have hm : hf_179 (nI i) (nI j) h = if ¬ nI (lab N (2 ^ i) J 10 j) = nI 99999 then some (nI (lab N (2 ^ i) J 10 j), rw48 h (lab N (2 ^ i) J 10)) else some (nI 4294967292, rw48 h (lab N (2 ^ i) J 10)) := by
      unfold hf_179 hb_179_47
      rw [sp_171 mN1 (by omega) (by omega), hok.1]
      simp (disch := omega) only [nq_nf, nq_nt, nq_le_t, nq_le_f, nq_lt_t, nq_lt_f, nq_eq_t, nq_eq_f, nq_neg, nq_pos, nq_le0f, nq_le0t, nq_lt0t, nq_lt0f, nq_eq0f, nq_eq0t, nI_add, nI_clamp, nx_inb, nx_ck, Option.bind_some, nx_get, nx_get2, nx_dif, nx_or, bI_0, bI_01, bI_nt, bI_nf, if_true, if_false, ite_true, ite_false, not_true_eq_false, not_false_eq_true, and_true, true_and, and_false, false_and, Bool.false_eq_true, Bool.true_eq_false, reduceCtorEq]
      rw [sp_171 mN1 (by omega) (by omega), hok.2]
      simp (disch := omega) only [nx_shl1, nq_nf, nq_nt, nq_le_t, nq_le_f, nq_lt_t, nq_lt_f, nq_eq_t, nq_eq_f, nq_neg, nq_pos, nq_le0f, nq_le0t, nq_lt0t, nq_lt0f, nq_eq0f, nq_eq0t, nI_add, nI_clamp, nx_inb, nx_ck, Option.bind_some, nx_get, nx_get2, nx_dif, nx_or, bI_0, bI_01, bI_nt, bI_nf, if_true, if_false, ite_true, ite_false, not_true_eq_false, not_false_eq_true, and_true, true_and, and_false, false_and, Bool.false_eq_true, Bool.true_eq_false, reduceCtorEq]
      rw [e178, Option.bind_some]
      have e48 := rw48_at (h := h) (f := lab N (2 ^ i) J 10) (y := j) (by omega)
      rw [e48]
    have hc : ∀ x, hf_43 0 (nI i) (nI j) h = some (x, h) → hf_113 (nI i) (nI j) h = some (x, h) := by
      intro x hx
      unfold hf_113 hb_113_35
      rw [sp_29 cN1 (by omega), hok.1]
      simp (disch := omega) only [nq_nf, nq_nt, nq_le_t, nq_le_f, nq_lt_t, nq_lt_f, nq_eq_t, nq_eq_f, nq_neg, nq_pos, nq_le0f, nq_le0t, nq_lt0t, nq_lt0f, nq_eq0f, nq_eq0t, nI_add, nI_clamp, nx_inb, nx_ck, Option.bind_some, nx_get, nx_get2, nx_dif, nx_or, bI_0, bI_01, bI_nt, bI_nf, if_true, if_false, ite_true, ite_false, not_true_eq_false, not_false_eq_true, and_true, true_and, and_false, false_and, Bool.false_eq_true, Bool.true_eq_false, reduceCtorEq]
      rw [sp_29 cN1 (by omega), hok.2]
      simp (disch := omega) only [nq_nf, nq_nt, nq_le_t, nq_le_f, nq_lt_t, nq_lt_f, nq_eq_t, nq_eq_f, nq_neg, nq_pos, nq_le0f, nq_le0t, nq_lt0t, nq_lt0f, nq_eq0f, nq_eq0t, nI_add, nI_clamp, nx_inb, nx_ck, Option.bind_some, nx_get, nx_get2, nx_dif, nx_or, bI_0, bI_01, bI_nt, bI_nf, if_true, if_false, ite_true, ite_false, not_true_eq_false, not_false_eq_true, and_true, true_and, and_false, false_and, Bool.false_eq_true, Bool.true_eq_false, reduceCtorEq]
      rw [hx]
      rfl
    have hbl := lab_bl (J := J) hM hJ 10 (by omega) j
    by_cases hx : lab N (2 ^ i) J 10 j = 99999
    · refine ⟨nI 4294967292, h, _, hc _ (sp_43n cN1 hN2 cJ hJ hi hj (fun u hu => eq_false_of_ne_true (fun q => hbl.mp (bl_mono' q (by omega)) hx))), ?_, fr⟩
      rw [hm, hx, if_neg (fun q => q rfl)]
    · obtain ⟨v, hv, h1, h2⟩ := least_of (p := fun v => (bl J N (2 ^ i) v).testBit j = true) (hbl.mpr hx)
      have h4 := lab_at hM hJ h1 h2 (10 - v) (by omega)
      rw [show v + (10 - v) = 10 by omega] at h4
      have hvN := bl_first hM ⟨i, by rw [tb_pow]; exact decide_eq_true rfl⟩ hJ h1 h2
      refine ⟨nI v, h, _, hc _ (sp_43 cN1 hN2 cJ hJ hi hj hvN h1 (fun u hu => eq_false_of_ne_true (h2 u hu))), ?_, fr⟩
      rw [hm, h4, if_pos (fun q => by have := nI_inj (by omega) (by omega) q; omega)]
  · have hbad : nd N a = false ∨ nd N e = false := by
      cases h1 : nd N a with
      | false => exact Or.inl rfl
      | true =>
        cases h2 : nd N e with
        | false => exact Or.inr rfl
        | true => exact (hok ⟨h1, h2⟩).elim
    refine ⟨nI 4294967295, h, h, ?_, ?_, p0.up VC VH VW (by omega)⟩
    · unfold hf_113 hb_113_34 hb_113_35
      rw [sp_29 cN1 (by omega)]
      rcases hbad with h1 | h1
      · simp (disch := omega) only [h1, nq_nf, nq_nt, nq_le_t, nq_le_f, nq_lt_t, nq_lt_f, nq_eq_t, nq_eq_f, nq_neg, nq_pos, nq_le0f, nq_le0t, nq_lt0t, nq_lt0f, nq_eq0f, nq_eq0t, nI_add, nI_clamp, nx_inb, nx_ck, Option.bind_some, nx_get, nx_get2, nx_dif, nx_or, bI_0, bI_01, bI_nt, bI_nf, if_true, if_false, ite_true, ite_false, not_true_eq_false, not_false_eq_true, and_true, true_and, and_false, false_and, Bool.false_eq_true, Bool.true_eq_false, reduceCtorEq]
      · cases h2 : nd N a
        · simp (disch := omega) only [nq_nf, nq_nt, nq_le_t, nq_le_f, nq_lt_t, nq_lt_f, nq_eq_t, nq_eq_f, nq_neg, nq_pos, nq_le0f, nq_le0t, nq_lt0t, nq_lt0f, nq_eq0f, nq_eq0t, nI_add, nI_clamp, nx_inb, nx_ck, Option.bind_some, nx_get, nx_get2, nx_dif, nx_or, bI_0, bI_01, bI_nt, bI_nf, if_true, if_false, ite_true, ite_false, not_true_eq_false, not_false_eq_true, and_true, true_and, and_false, false_and, Bool.false_eq_true, Bool.true_eq_false, reduceCtorEq]
        · simp (disch := omega) only [sp_29 cN1, h1, nq_nf, nq_nt, nq_le_t, nq_le_f, nq_lt_t, nq_lt_f, nq_eq_t, nq_eq_f, nq_neg, nq_pos, nq_le0f, nq_le0t, nq_lt0t, nq_lt0f, nq_eq0f, nq_eq0t, nI_add, nI_clamp, nx_inb, nx_ck, Option.bind_some, nx_get, nx_get2, nx_dif, nx_or, bI_0, bI_01, bI_nt, bI_nf, if_true, if_false, ite_true, ite_false, not_true_eq_false, not_false_eq_true, and_true, true_and, and_false, false_and, Bool.false_eq_true, Bool.true_eq_false, reduceCtorEq]
    · unfold hf_179 hb_179_16
      rw [sp_171 mN1 (by omega) (by omega)]
      rcases hbad with h1 | h1
      · simp (disch := omega) only [h1, nq_nf, nq_nt, nq_le_t, nq_le_f, nq_lt_t, nq_lt_f, nq_eq_t, nq_eq_f, nq_neg, nq_pos, nq_le0f, nq_le0t, nq_lt0t, nq_lt0f, nq_eq0f, nq_eq0t, nI_add, nI_clamp, nx_inb, nx_ck, Option.bind_some, nx_get, nx_get2, nx_dif, nx_or, bI_0, bI_01, bI_nt, bI_nf, if_true, if_false, ite_true, ite_false, not_true_eq_false, not_false_eq_true, and_true, true_and, and_false, false_and, Bool.false_eq_true, Bool.true_eq_false, reduceCtorEq]
      · cases h2 : nd N a
        · simp (disch := omega) only [nq_nf, nq_nt, nq_le_t, nq_le_f, nq_lt_t, nq_lt_f, nq_eq_t, nq_eq_f, nq_neg, nq_pos, nq_le0f, nq_le0t, nq_lt0t, nq_lt0f, nq_eq0f, nq_eq0t, nI_add, nI_clamp, nx_inb, nx_ck, Option.bind_some, nx_get, nx_get2, nx_dif, nx_or, bI_0, bI_01, bI_nt, bI_nf, if_true, if_false, ite_true, ite_false, not_true_eq_false, not_false_eq_true, and_true, true_and, and_false, false_and, Bool.false_eq_true, Bool.true_eq_false, reduceCtorEq]
        · simp (disch := omega) only [sp_171 mN1, h1, nq_nf, nq_nt, nq_le_t, nq_le_f, nq_lt_t, nq_lt_f, nq_eq_t, nq_eq_f, nq_neg, nq_pos, nq_le0f, nq_le0t, nq_lt0t, nq_lt0f, nq_eq0f, nq_eq0t, nI_add, nI_clamp, nx_inb, nx_ck, Option.bind_some, nx_get, nx_get2, nx_dif, nx_or, bI_0, bI_01, bI_nt, bI_nf, if_true, if_false, ite_true, ite_false, not_true_eq_false, not_false_eq_true, and_true, true_and, and_false, false_and, Bool.false_eq_true, Bool.true_eq_false, reduceCtorEq]
end CF
