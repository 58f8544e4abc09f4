/-! The class's balls and the model's rounds. -/
def bl (J : Nat → Nat) (N M : Nat) : Nat → Nat
  | 0 => M
  | r + 1 => bl J N M r ||| uni J (bl J N M r) N
theorem bl_S {J : Nat → Nat} {N M r j : Nat} : (bl J N M (r + 1)).testBit j = true ↔ (bl J N M r).testBit j = true ∨ ∃ i, i < N ∧ (bl J N M r).testBit i = true ∧ (J i).testBit j = true := by
  show (bl J N M r ||| uni J (bl J N M r) N).testBit j = true ↔ _
  rw [Nat.testBit_or, Bool.or_eq_true, uni_bit]
theorem lab_any {N M : Nat} {J : Nat → Nat} {r j : Nat} : (List.range N).any (fun i => decide (lab N M J r i = r) && (J i).testBit j) = true ↔ ∃ i, i < N ∧ lab N M J r i = r ∧ (J i).testBit j = true := by
  rw [List.any_eq_true]
  constructor
  · rintro ⟨i, hi, h⟩
    rw [Bool.and_eq_true, decide_eq_true_eq] at h
    exact ⟨i, List.mem_range.mp hi, h.1, h.2⟩
  · rintro ⟨i, hi, h1, h2⟩
    exact ⟨i, List.mem_range.mpr hi, by rw [Bool.and_eq_true, decide_eq_true_eq]; exact ⟨h1, h2⟩⟩
/-- once a node has its number it keeps it -/
theorem lab_keep {N M : Nat} {J : Nat → Nat} {r j : Nat} (h : lab N M J r j ≠ 99999) : lab N M J (r + 1) j = lab N M J r j := by
  show (if (lab N M J r j = 99999 ∧ j < N) ∧ (List.range N).any (fun i => decide (lab N M J r i = r) && (J i).testBit j) = true then r + 1 else lab N M J r j) = _
  rw [if_neg (fun q => h q.1.1)]
theorem lab_bl {N M : Nat} {J : Nat → Nat} (hM : M < 2 ^ N) (hJ : ∀ k, J k < 2 ^ N) : ∀ r, r < 99998 → ∀ j, (bl J N M r).testBit j = true ↔ lab N M J r j ≠ 99999 := by
  intro r
  induction r using Nat.strongRecOn with
  | ind r ih0 =>
  match r, ih0 with
  | 0, _ =>
    intro _ j
    show M.testBit j = true ↔ (if M.testBit j = true then 0 else 99999) ≠ 99999
    by_cases h1 : M.testBit j = true
    · rw [if_pos h1]; exact ⟨fun _ => by decide, fun _ => h1⟩
    · rw [if_neg h1]; exact ⟨fun q => absurd q h1, fun q => absurd rfl q⟩
  | r + 1, ih0 =>
    intro hr j
    have ihr := ih0 r (by omega) (by omega)
    rw [bl_S]
    constructor
    · rintro (h | ⟨i, hi, h1, h2⟩)
      · rw [lab_keep ((ihr j).mp h)]
        exact (ihr j).mp h
      · by_cases hj : lab N M J r j = 99999
        · have hjN : j < N := by
            by_cases q : j < N
            · exact q
            · have := tb_hi (hJ i) (Nat.le_of_not_lt q)
              rw [this] at h2
              cases h2
          have hil := (ihr i).mp h1
          have hir : lab N M J r i = r := by
            rcases labp_le (N := N) (M := M) (J := J) r i with q | q
            · by_cases e : lab N M J r i = r
              · exact e
              · exfalso
                match r, q, e, hil, hj, ihr, ih0 with
                | 0, q, e, _, _, _, _ => omega
                | r + 1, q, e, hil, hj, ihr, ih0 =>
                  have k1 : lab N M J r i ≠ 99999 := fun w => by
                    have z : lab N M J (r + 1) i = r + 1 ∨ lab N M J (r + 1) i = 99999 := by
                      show (if (lab N M J r i = 99999 ∧ i < N) ∧ (List.range N).any (fun k => decide (lab N M J r k = r) && (J k).testBit i) = true then r + 1 else lab N M J r i) = r + 1 ∨ (if (lab N M J r i = 99999 ∧ i < N) ∧ (List.range N).any (fun k => decide (lab N M J r k = r) && (J k).testBit i) = true then r + 1 else lab N M J r i) = 99999
                      split
                      · exact Or.inl rfl
                      · exact Or.inr w
                    rcases z with z | z
                    · exact e z
                    · exact hil z
                  have k2 := (ih0 r (by omega) (by omega) i).mpr k1
                  exact (ihr j).mp (bl_S.mpr (Or.inr ⟨i, hi, k2, h2⟩)) hj
            · exact absurd q hil
          show (if (lab N M J r j = 99999 ∧ j < N) ∧ (List.range N).any (fun i => decide (lab N M J r i = r) && (J i).testBit j) = true then r + 1 else lab N M J r j) ≠ 99999
          rw [if_pos ⟨⟨hj, hjN⟩, lab_any.mpr ⟨i, hi, hir, h2⟩⟩]
          omega
        · rw [lab_keep hj]
          exact hj
    · intro h
      by_cases hj : lab N M J r j = 99999
      · have h' : (if (lab N M J r j = 99999 ∧ j < N) ∧ (List.range N).any (fun i => decide (lab N M J r i = r) && (J i).testBit j) = true then r + 1 else lab N M J r j) ≠ 99999 := h
        by_cases c : (lab N M J r j = 99999 ∧ j < N) ∧ (List.range N).any (fun i => decide (lab N M J r i = r) && (J i).testBit j) = true
        · obtain ⟨i, hi, h1, h2⟩ := lab_any.mp c.2
          exact Or.inr ⟨i, hi, (ihr i).mpr (by omega), h2⟩
        · rw [if_neg c] at h'
          exact absurd hj h'
      · exact Or.inl ((ihr j).mpr hj)
