/-! Where the law begins: all is as it is between two calls. -/
def s0_P (h : hs_H) : Prop := (∀ q ∈ s0_rows, h.1 q.1 q.2.1 q.2.2.1 = nI q.2.2.2) ∧ (∀ q ∈ s0_zero, ∀ k, k < 10 → h.1 q.1 q.2 k = nI 0) ∧ (∃ c, c ≤ 10 ∧ h.1 4 0 6 = nI c) ∧ ∃ d, d ≤ 10 ∧ h.1 5 0 4 = nI d
theorem s0_of {E : List (Nat × Nat)} {w : b2_W} (e : s0_chk E w = true) : s0_P (b2_hE E w) := by
  unfold s0_chk at e
  rw [Bool.and_eq_true, Bool.and_eq_true, Bool.and_eq_true] at e
  obtain ⟨⟨⟨e1, e2⟩, e3⟩, e4⟩ := e
  refine ⟨fun q hq => of_decide_eq_true (List.all_eq_true.mp e1 q hq), fun q hq k hk => of_decide_eq_true (List.all_eq_true.mp (List.all_eq_true.mp e2 q hq) k (List.mem_range.mpr hk)), ?_, ?_⟩
  · obtain ⟨c, c1, c2⟩ := List.any_eq_true.mp e3
    exact ⟨c, by have := List.mem_range.mp c1; omega, of_decide_eq_true c2⟩
  · obtain ⟨c, c1, c2⟩ := List.any_eq_true.mp e4
    exact ⟨c, by have := List.mem_range.mp c1; omega, of_decide_eq_true c2⟩
theorem s0_st {h : hs_H} (p : s0_P h) : ∃ h1 h2, hf_153 h = some h1 ∧ hf_154 h1 = some h2 ∧ st_all caV chV wyV 10 h2 ∧ stE h2 := by
  obtain ⟨p1, p2, ⟨c, c1, c2⟩, d, d1, d2⟩ := p
  obtain ⟨A, a1, ⟨a2, a3⟩, a4, a5⟩ := sp_153 (h := h)
  obtain ⟨B, b1, b2, b3, ⟨b4, b5, b6, b7⟩, b8, b9, b10⟩ := sp_154 (h := A)
  obtain ⟨m1, m2, m3⟩ := a4
  have r : ∀ x i k v, (x, i, k, v) ∈ s0_rows → h.1 x i k = nI v := fun x i k v hm => p1 _ hm
  have z : ∀ x i, (x, i) ∈ s0_zero → ∀ k, k < 10 → h.1 x i k = nI 0 := fun x i hm k hk => p2 _ hm k hk
  have o : ∀ x i, x ≠ 12 → x ≠ 44 → x ≠ 45 → x ≠ 46 → B.1 x i = h.1 x i := fun x i h1 h2 h3 h4 => by
    rw [(b2 x i (by intro q hq hh; rcases hh with rfl | rfl <;> simp at hq <;> omega)).1, (a2 x i (by intro q hq hh; rcases hh with rfl | rfl <;> simp at hq <;> omega)).1]
  have o12 : ∀ k, 13 ≤ k → B.1 12 0 k = h.1 12 0 k := fun k hk => by rw [b8 k (by omega), a5 k hk]
  have s0z : ∀ k, k ≠ 0 → k ≠ 7 → tx_s0 k = 0 := fun k h1 h2 => by unfold tx_s0; rw [if_neg h1, if_neg h2]
  have s4 : tx_s0 4 = 0 := s0z 4 (by omega) (by omega)
  have neg : ∀ n : Nat, 1 < 2 ^ (n + 2) := fun n => Nat.one_lt_two_pow (by omega)
  refine ⟨A, B, a1, b1, ⟨5, 0, 0, 0, fun _ => 0, nI 4294967292, nI 4294967292, nI 0, fun _ => 0, 0, fun _ => 0, fun _ => 0, fun _ => 0, c, d, ⟨by omega, by omega⟩, ⟨⟨⟨⟨by omega, by omega⟩, Or.inl rfl, Or.inl rfl, ⟨by decide, by decide⟩, fun _ => Nat.two_pow_pos 5, fun _ _ => rfl, fun a b => (Nat.zero_testBit b).trans (Nat.zero_testBit a).symm, fun _ => Nat.zero_testBit _⟩, ⟨Or.inl rfl, fun _ => Nat.zero_le _, fun _ _ => rfl, fun _ _ => rfl⟩, ⟨by omega, fun k hk => absurd hk (Nat.not_lt_zero _)⟩⟩, ⟨⟨?_, ?_, ?_, ?_, ?_, fun k hk => ?_⟩, ⟨?_, ?_, fun k hk => ?_⟩, ⟨?_, fun k hk => absurd hk (Nat.not_lt_zero _)⟩⟩, ⟨fun k hk => ?_, ?_⟩, ⟨?_, ?_, fun k hk => ?_⟩, ⟨?_, fun k hk => absurd hk (Nat.not_lt_zero _)⟩⟩, ⟨?_, ?_, ?_, ?_⟩, ⟨⟨?_, Or.inl ?_⟩, ⟨?_, Or.inl ?_⟩⟩, ⟨⟨?_, ?_⟩, Or.inl ?_, Or.inl ?_, Or.inl ?_⟩, fun k hk => ?_, ⟨0, by omega, ?_, ?_, fun k hk => absurd hk (Nat.not_lt_zero _)⟩, ?_, ?_⟩, fun k hk => ?_, 0, by omega, ?_⟩
  · rw [o 4 0 (by omega) (by omega) (by omega) (by omega)]; exact r 4 0 1 5 (by decide)
  · rw [o 4 0 (by omega) (by omega) (by omega) (by omega)]; exact r 4 0 2 0 (by decide)
  · rw [o 4 0 (by omega) (by omega) (by omega) (by omega)]; exact r 4 0 3 4294967292 (by decide)
  · rw [o 4 0 (by omega) (by omega) (by omega) (by omega)]; exact r 4 0 4 0 (by decide)
  · rw [o 4 0 (by omega) (by omega) (by omega) (by omega)]; exact r 4 0 5 0 (by decide)
  · rw [o 27 0 (by omega) (by omega) (by omega) (by omega)]; exact z 27 0 (by decide) k hk
  · rw [o 9 0 (by omega) (by omega) (by omega) (by omega)]; exact r 9 0 1 4294967292 (by decide)
  · rw [o 9 0 (by omega) (by omega) (by omega) (by omega)]; exact r 9 0 2 0 (by decide)
  · rw [o 33 0 (by omega) (by omega) (by omega) (by omega)]; exact z 33 0 (by decide) k hk
  · rw [o 5 0 (by omega) (by omega) (by omega) (by omega)]; exact r 5 0 3 0 (by decide)
  · rw [Nat.zero_add, b3 k (by omega), tx_mZ_g m1 (k := 10 + k) ⟨by omega, Or.inr (Or.inl (by omega))⟩ (by omega) (tx_lm_j k hk), s0z (10 + k) (by omega) (by omega)]
  · rw [b3 (0 + 10) (by omega)]
    exact tx_mZ_g m1 (k := 7) ⟨by omega, Or.inl (by omega)⟩ (by omega) rfl
  · rw [b3 (0 + 11) (by omega)]; exact m3.1
  · rw [b3 (0 + 12) (by omega)]; exact m3.2 12 (by omega) (by omega)
  · rw [b3 (0 + 13 + k) (by omega)]; exact m3.2 (0 + 13 + k) (by omega) (by omega)
  · rw [b3 (0 + 23) (by omega)]
    exact (tx_mZ_g m1 (k := 4) ⟨by omega, Or.inl (by omega)⟩ (by omega) rfl).trans (by rw [s4])
  · rw [b4]; exact tx_mZ_g m1 (k := 0) ⟨by omega, Or.inl (by omega)⟩ (by omega) rfl
  · rw [b5]; exact (tx_mZ_g m1 (k := 1) ⟨by omega, Or.inl (by omega)⟩ (by omega) rfl).trans (by rw [s0z 1 (by omega) (by omega)])
  · rw [b6]; exact (tx_mZ_g m1 (k := 2) ⟨by omega, Or.inl (by omega)⟩ (by omega) rfl).trans (by rw [s0z 2 (by omega) (by omega)])
  · rw [b7]; exact (tx_mZ_g m1 (k := 3) ⟨by omega, Or.inl (by omega)⟩ (by omega) rfl).trans (by rw [s0z 3 (by omega) (by omega)])
  · rw [o 3 0 (by omega) (by omega) (by omega) (by omega), b9]; exact r 3 0 3 0 (by decide)
  · rw [o 3 0 (by omega) (by omega) (by omega) (by omega)]; exact r 3 0 3 0 (by decide)
  · rw [o 3 1 (by omega) (by omega) (by omega) (by omega), b10]; exact r 3 1 3 0 (by decide)
  · rw [o 3 1 (by omega) (by omega) (by omega) (by omega)]; exact r 3 1 3 0 (by decide)
  · rw [o 4 0 (by omega) (by omega) (by omega) (by omega)]; exact c2
  · rw [o 5 0 (by omega) (by omega) (by omega) (by omega)]; exact d2
  · rw [o 0 0 (by omega) (by omega) (by omega) (by omega)]; exact r 0 0 9 0 (by decide)
  · rw [o 1 0 (by omega) (by omega) (by omega) (by omega)]; exact r 1 0 4 0 (by decide)
  · rw [o 10 0 (by omega) (by omega) (by omega) (by omega)]; exact r 10 0 14 4294967292 (by decide)
  · have h61 : B.1 61 0 = h.1 61 0 := o 61 0 (by omega) (by omega) (by omega) (by omega)
    have h8 : B.1 8 k = h.1 8 k := o 8 k (by omega) (by omega) (by omega) (by omega)
    refine Or.inl ?_
    rw [h61, h8]
    match k, hk with
    | 0, _ => exact ⟨r 8 0 2 4294967292 (by decide), r 61 0 0 4294967292 (by decide)⟩
    | 1, _ => exact ⟨r 8 1 2 4294967292 (by decide), r 61 0 1 4294967292 (by decide)⟩
    | 2, _ => exact ⟨r 8 2 2 4294967292 (by decide), r 61 0 2 4294967292 (by decide)⟩
    | 3, _ => exact ⟨r 8 3 2 4294967292 (by decide), r 61 0 3 4294967292 (by decide)⟩
  · rw [o 6 0 (by omega) (by omega) (by omega) (by omega)]; exact r 6 0 3 0 (by decide)
  · rw [o12 14 (by omega)]; exact r 12 0 14 0 (by decide)
  · rw [o 6 0 (by omega) (by omega) (by omega) (by omega), o12 19 (by omega), r 6 0 10 0 (by decide), r 12 0 19 0 (by decide)]
  · rw [o 11 0 (by omega) (by omega) (by omega) (by omega), o12 41 (by omega), r 11 0 11 0 (by decide), r 12 0 41 0 (by decide)]
  · rw [o 35 0 (by omega) (by omega) (by omega) (by omega)]; exact z 35 0 (by decide) k hk
  · rw [o 5 1 (by omega) (by omega) (by omega) (by omega)]; exact r 5 1 3 0 (by decide)
