/-! The neighbours of a set, as the class gathers them. -/
def uni (J : Nat → Nat) (M : Nat) : Nat → Nat
  | 0 => 0
  | i + 1 => uni J M i ||| (if M.testBit i = true then J i else 0)
theorem uni_bit {J : Nat → Nat} {M : Nat} (j : Nat) : ∀ n, (uni J M n).testBit j = true ↔ ∃ i, i < n ∧ M.testBit i = true ∧ (J i).testBit j = true := by
  intro n
  induction n with
  | zero =>
    refine ⟨fun q => ?_, fun ⟨i, h, _⟩ => absurd h (Nat.not_lt_zero _)⟩
    have : (0 : Nat).testBit j = true := q
    rw [Nat.zero_testBit] at this
    cases this
  | succ n ih =>
    show (uni J M n ||| (if M.testBit n = true then J n else 0)).testBit j = true ↔ _
    rw [Nat.testBit_or, Bool.or_eq_true, ih]
    constructor
    · rintro (⟨i, h1, h2⟩ | h)
      · exact ⟨i, by omega, h2⟩
      · by_cases hb : M.testBit n = true
        · rw [if_pos hb] at h
          exact ⟨n, by omega, hb, h⟩
        · rw [if_neg hb, Nat.zero_testBit] at h
          cases h
    · rintro ⟨i, h1, h2, h3⟩
      by_cases hin : i = n
      · subst hin
        refine Or.inr ?_
        rw [if_pos h2]
        exact h3
      · exact Or.inl ⟨i, by omega, h2, h3⟩
theorem uni_lt {J : Nat → Nat} {M N : Nat} (hJ : ∀ k, J k < 2 ^ N) : ∀ n, uni J M n < 2 ^ N := by
  intro n
  induction n with
  | zero => exact Nat.two_pow_pos N
  | succ n ih =>
    show uni J M n ||| (if M.testBit n = true then J n else 0) < 2 ^ N
    refine or_lt ih ?_
    by_cases hb : M.testBit n = true
    · rw [if_pos hb]; exact hJ n
    · rw [if_neg hb]; exact Nat.two_pow_pos N
theorem sp_42 {o N M : Nat} {J : Nat → Nat} {h : hs_H} (hN : h.1 4 o 1 = nI N) (hN2 : N ≤ 10) (hJ : ∀ k, k < 10 → h.1 27 o k = nI (J k)) (hM : M < 2147483648) : hf_42 o (nI M) h = some (nI (uni J M N), h) := by
  unfold hf_42
  refine lp_for (st := fun i => (nI M, nI (uni J M i), nI i, h)) (e := N) (fun i hi k => ?_) (fun k => ?_) 0 hs_big (by omega) (lp_big (by omega))
  · show hb_42_4 o k (nI M) (nI (uni J M i)) (nI i) h = k (nI M, nI (uni J M i ||| (if M.testBit i = true then J i else 0)), nI (i + 1), h)
    unfold hb_42_4 hb_42_30
    rw [hN, if_neg (nI_ge hi (by omega)), sp_147 (by omega) (by omega), Option.bind_some]
    dsimp only
    cases hb : M.testBit i with
    | false =>
      rw [if_pos (by decide), nI_add, nx_or, if_neg Bool.false_ne_true]
    | true =>
      rw [if_neg (by decide), sp_32 hJ (by omega), Option.bind_some]
      dsimp only
      rw [nI_add, nx_or, if_pos rfl]
  · show hb_42_4 o k (nI M) (nI (uni J M N)) (nI N) h = _
    unfold hb_42_4
    rw [hN, if_pos (nI_le (Nat.le_refl _) (by omega))]
