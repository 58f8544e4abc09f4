/-! The law: all rounds. -/
theorem lw_neg : ∀ s, s < 5 → ∀ i, i < 5 → nI s - nI 5 < nI i := by decide
theorem lw_owed {h2 : hs_H} (p : st_all caV chV wyV 10 h2) (pE : stE h2) : lf_owed h2 := by
  intro S hS
  unfold hf_law
  have hl : ∃ h', hs_lp (fun k s => hb_999_18 S k s.1 s.2) hs_big (nI 0, h2) = some (1, h') := by
    refine lp_q2 (f := fun k s => hb_999_18 S k s.1 s.2) (I := fun d q => ∃ i b h, i ≤ S.1 ∧ d = S.1 - i ∧ b ≤ 10 + 100 * i ∧ st_all caV chV wyV b h ∧ stE h ∧ q = (nI i, h)) (Q := fun o => ∃ h', o = some (1, h')) (fun d q hI k => ?_) S.1 _ hs_big ⟨0, 10, h2, Nat.zero_le _, rfl, by omega, p, pE, rfl⟩ (lp_big (by omega))
    obtain ⟨i, b, h, hi, rfl, hb, q, qE, rfl⟩ := hI
    by_cases c : i + 5 ≤ S.1
    · obtain ⟨h', w1, w2, w3⟩ := lw_round k hS c (by omega) q qE
      exact Or.inr ⟨S.1 - (i + 5), (nI (i + 5), h'), by omega, ⟨i + 5, b + 100, h', c, rfl, by omega, w1, w2, rfl⟩, w3⟩
    · refine Or.inl ⟨h, ?_⟩
      show hb_999_18 S k (nI i) h = _
      unfold hb_999_18
      have e : nI S.1 - nI 5 < nI i := by
        by_cases c5 : S.1 < 5
        · exact lw_neg S.1 c5 i (by omega)
        · rw [pk_sub (by omega)]
          exact nI_lt (by omega) (by omega)
      rw [if_pos e]
      rfl
  exact hl
