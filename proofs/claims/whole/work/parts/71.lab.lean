/-! The model's steps from a set: a labelling by rounds. -/
def lab (N M : Nat) (J : Nat → Nat) : Nat → Nat → Nat
  | 0, j => if M.testBit j = true then 0 else 99999
  | r + 1, j => if (lab N M J r j = 99999 ∧ j < N) ∧ (List.range N).any (fun i => decide (lab N M J r i = r) && (J i).testBit j) = true then r + 1 else lab N M J r j
/-- round r, the first i of the nodes looked at -/
def labp (N M : Nat) (J : Nat → Nat) (r i j : Nat) : Nat := if (lab N M J r j = 99999 ∧ j < N) ∧ (List.range i).any (fun i => decide (lab N M J r i = r) && (J i).testBit j) = true then r + 1 else lab N M J r j
theorem labp0 {N M : Nat} {J : Nat → Nat} {r j : Nat} : labp N M J r 0 j = lab N M J r j := by
  unfold labp
  rw [if_neg (fun q => by have := q.2; simp at this)]
theorem labpN {N M : Nat} {J : Nat → Nat} {r j : Nat} : labp N M J r N j = lab N M J (r + 1) j := rfl
theorem labp_r {N M : Nat} {J : Nat → Nat} {r i j : Nat} (hr : r < 99999) : labp N M J r i j = r ↔ lab N M J r j = r := by
  unfold labp
  by_cases h1 : (lab N M J r j = 99999 ∧ j < N) ∧ (List.range i).any (fun i => decide (lab N M J r i = r) && (J i).testBit j) = true
  · rw [if_pos h1]
    have := h1.1.1
    omega
  · rw [if_neg h1]
theorem labp_le {N M : Nat} {J : Nat → Nat} : ∀ r j, lab N M J r j ≤ r ∨ lab N M J r j = 99999 := by
  intro r
  induction r with
  | zero =>
    intro j
    unfold lab
    by_cases h1 : M.testBit j = true
    · rw [if_pos h1]; exact Or.inl (Nat.le_refl _)
    · rw [if_neg h1]; exact Or.inr rfl
  | succ r ih =>
    intro j
    unfold lab
    by_cases h1 : (lab N M J r j = 99999 ∧ j < N) ∧ (List.range N).any (fun i => decide (lab N M J r i = r) && (J i).testBit j) = true
    · rw [if_pos h1]; exact Or.inl (Nat.le_refl _)
    · rw [if_neg h1]
      rcases ih j with q | q
      · exact Or.inl (by omega)
      · exact Or.inr q
/-- one node more: only where it is of this round, joined, and nobody was there -/
theorem labpS {N M : Nat} {J : Nat → Nat} {r i j : Nat} (hr : r < 99998) (hj : j < N) : labp N M J r (i + 1) j = if lab N M J r i = r ∧ (J i).testBit j = true ∧ labp N M J r i j = 99999 then r + 1 else labp N M J r i j := by
  unfold labp
  rw [List.range_succ, List.any_append]
  simp only [List.any_cons, List.any_nil, Bool.or_false, Bool.or_eq_true, Bool.and_eq_true, decide_eq_true_eq]
  generalize (List.range i).any (fun i => decide (lab N M J r i = r) && (J i).testBit j) = B
  by_cases h1 : lab N M J r j = 99999
  · cases B with
    | true =>
      rw [if_pos ⟨⟨h1, hj⟩, Or.inl rfl⟩, if_pos (c := (lab N M J r j = 99999 ∧ j < N) ∧ true = true) ⟨⟨h1, hj⟩, rfl⟩, if_neg (fun q => by have := q.2.2; omega)]
    | false =>
      rw [if_neg (c := (lab N M J r j = 99999 ∧ j < N) ∧ false = true) (fun q => Bool.false_ne_true q.2)]
      by_cases h2 : lab N M J r i = r ∧ (J i).testBit j = true
      · rw [if_pos ⟨⟨h1, hj⟩, Or.inr h2⟩, if_pos ⟨h2.1, h2.2, h1⟩]
      · rw [if_neg (fun q => by
          rcases q.2 with w | w
          · exact Bool.false_ne_true w
          · exact h2 w), if_neg (fun q => h2 ⟨q.1, q.2.1⟩)]
  · rw [if_neg (fun q => h1 q.1.1), if_neg (c := (lab N M J r j = 99999 ∧ j < N) ∧ B = true) (fun q => h1 q.1.1), if_neg (fun q => h1 q.2.2)]
/-- the row of steps as a whole -/
def rw48 (h : hs_H) (f : Nat → Nat) : hs_H := hs_row h 48 0 10 (fun y => nI (f y))
theorem rw48_at {h : hs_H} {f : Nat → Nat} {y : Nat} (hy : y < 10) : (rw48 h f).1 48 0 y = nI (f y) := by
  unfold rw48
  rw [nx_rowget, if_pos ⟨rfl, rfl, hy⟩]
theorem rw48_ne {h : hs_H} {f : Nat → Nat} {c i y : Nat} (hc : c ≠ 48) : (rw48 h f).1 c i y = h.1 c i y := by
  unfold rw48
  rw [nx_rowget, if_neg (fun q => hc q.1)]
theorem rw48_put {h : hs_H} {f : Nat → Nat} {j v : Nat} (hj : j < 10) : hs_put (rw48 h f) 48 0 j (nI v) = rw48 h (fun y => if y = j then v else f y) := hs_ext (fun c' i' k' => by
  unfold rw48
  rw [nx_get, nx_rowget, nx_rowget]
  by_cases h1 : c' = 48 ∧ i' = 0 ∧ k' = j
  · obtain ⟨rfl, rfl, rfl⟩ := h1
    rw [if_pos ⟨rfl, rfl, rfl⟩, if_pos ⟨rfl, rfl, hj⟩]
    dsimp only
    rw [if_pos rfl]
  · rw [if_neg h1]
    by_cases h2 : c' = 48 ∧ i' = 0 ∧ k' < 10
    · rw [if_pos h2, if_pos h2]
      dsimp only
      rw [if_neg (fun q => h1 ⟨h2.1, h2.2.1, q⟩)]
    · rw [if_neg h2, if_neg h2]) rfl
theorem rw48_same {h : hs_H} {f g : Nat → Nat} (e : ∀ y, y < 10 → f y = g y) : rw48 h f = rw48 h g := hs_ext (fun c' i' k' => by
  unfold rw48
  rw [nx_rowget, nx_rowget]
  by_cases h2 : c' = 48 ∧ i' = 0 ∧ k' < 10
  · rw [if_pos h2, if_pos h2, e k' h2.2.2]
  · rw [if_neg h2, if_neg h2]) rfl
/-- in round r at nodes i, j -/
def labq (N M : Nat) (J : Nat → Nat) (r i j y : Nat) : Nat := if y < j then labp N M J r (i + 1) y else labp N M J r i y
theorem labq_r {N M : Nat} {J : Nat → Nat} {r i j y : Nat} (hr : r < 99999) : labq N M J r i j y = r ↔ lab N M J r y = r := by
  unfold labq
  by_cases h1 : y < j
  · rw [if_pos h1]; exact labp_r hr
  · rw [if_neg h1]; exact labp_r hr
theorem labq_S {N M : Nat} {J : Nat → Nat} {r i j y : Nat} (hr : r < 99998) (hj : j < N) : labq N M J r i (j + 1) y = if y = j then (if lab N M J r i = r ∧ (J i).testBit j = true ∧ labq N M J r i j j = 99999 then r + 1 else labq N M J r i j j) else labq N M J r i j y := by
  unfold labq
  by_cases h1 : y = j
  · subst h1
    rw [if_pos (by omega), if_pos rfl, if_neg (Nat.lt_irrefl _)]
    exact labpS hr hj
  · rw [if_neg h1]
    by_cases h2 : y < j
    · rw [if_pos h2, if_pos (by omega)]
    · rw [if_neg h2, if_neg (by omega)]
theorem labp_out {N M : Nat} {J : Nat → Nat} {r i j : Nat} (hj : ¬ j < N) : labp N M J r i j = lab N M J r j := by
  unfold labp
  rw [if_neg (fun q => hj q.1.2)]
theorem labq_N {N M : Nat} {J : Nat → Nat} {r i y : Nat} : labq N M J r i N y = labq N M J r (i + 1) 0 y := by
  unfold labq
  rw [if_neg (Nat.not_lt_zero _)]
  by_cases h1 : y < N
  · rw [if_pos h1]
  · rw [if_neg h1, labp_out h1, labp_out h1]
theorem labq_0 {N M : Nat} {J : Nat → Nat} {r y : Nat} : labq N M J r 0 0 y = lab N M J r y := by
  unfold labq
  rw [if_neg (Nat.not_lt_zero _), labp0]
theorem labq_e {N M : Nat} {J : Nat → Nat} {r y : Nat} : labq N M J r N 0 y = lab N M J (r + 1) y := by
  unfold labq
  rw [if_neg (Nat.not_lt_zero _), labpN]
