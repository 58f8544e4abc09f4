/-! Ways that fit: how many, the first one, where they lead. -/
section WL
variable {J : Nat → Nat} {N re W : Nat} {fit : Nat → (Nat → Nat) → Bool}
theorem wsm_mono {v : Nat → Nat} {m j : Nat} : ∀ d, wsm v m j ≤ wsm v m (j + d) := by
  intro d
  induction d with
  | zero => exact Nat.le_refl _
  | succ d ih =>
    show wsm v m j ≤ wsm v m (j + d) + (if m.testBit (j + d) = true then v (j + d) else 0)
    omega
theorem wsm_N {v : Nat → Nat} {m : Nat} (hm : m < 2 ^ N) : ∀ d, wsm v m (N + d) = wsm v m N := by
  intro d
  induction d with
  | zero => rfl
  | succ d ih =>
    show wsm v m (N + d) + (if m.testBit (N + d) = true then v (N + d) else 0) = _
    rw [tb_hi hm (by omega), if_neg Bool.false_ne_true, ih, Nat.add_zero]
theorem wsm_10 {v : Nat → Nat} {m : Nat} (hN : N ≤ 10) (hm : m < 2 ^ N) : wsm v m 10 = wsm v m N := by
  have := wsm_N (v := v) hm (10 - N)
  rw [show N + (10 - N) = 10 by omega] at this
  exact this
theorem wy1_len {mv : Nat → Nat} {r t c : Nat} {s : Nat → Nat} {i : Nat} : (wy1 mv N W fit r t c s i).length = if (c.testBit i && fit t (passS W s i)) = true then (wyG mv N W fit r (t + 1) (mv i) (passS W s i)).length else 0 := by
  unfold wy1
  by_cases q : (c.testBit i && fit t (passS W s i)) = true
  · rw [if_pos q, if_pos q, List.length_map]
  · rw [if_neg q, if_neg q]; rfl
/-- no more ways fit than there are -/
theorem wyG_wk (hN : N ≤ 10) : ∀ (r t i : Nat) (s : Nat → Nat), (wyG (mvs J re) N W fit r t (mvs J re i) s).length ≤ wk J re r i := by
  intro r
  induction r with
  | zero => intro t i s; exact Nat.le_refl _
  | succ r ih =>
    intro t i s
    have h : ∀ j, (wyP (mvs J re) N W fit r t (mvs J re i) s j).length ≤ wsm (wk J re r) (mvs J re i) j := by
      intro j
      induction j with
      | zero => exact Nat.le_refl _
      | succ j ihj =>
        show (wyP (mvs J re) N W fit r t (mvs J re i) s j ++ wy1 (mvs J re) N W fit r t (mvs J re i) s j).length ≤ wsm (wk J re r) (mvs J re i) j + (if (mvs J re i).testBit j = true then wk J re r j else 0)
        rw [List.length_append, wy1_len]
        have hj := ih (t + 1) j (passS W s j)
        by_cases q : (mvs J re i).testBit j = true
        · rw [if_pos q]
          by_cases q2 : ((mvs J re i).testBit j && fit t (passS W s j)) = true
          · rw [if_pos q2]; omega
          · rw [if_neg q2]; omega
        · rw [if_neg q, if_neg (fun w => q (by rw [Bool.and_eq_true] at w; exact w.1))]
          omega
    rw [wyG_S]
    have h1 := h N
    have h2 := wsm_mono (v := wk J re r) (m := mvs J re i) (j := N) (10 - N)
    rw [show N + (10 - N) = 10 by omega] at h2
    show _ ≤ wsm (wk J re r) (mvs J re i) 10
    omega
/-- where nothing was smelt, all of them fit -/
theorem wyG_all (hN : N ≤ 10) (hJ : ∀ k, J k < 2 ^ N) (hre : re = 0 ∨ re = 1) : ∀ (r t i : Nat) (s : Nat → Nat), i < N → (∀ u, t ≤ u → u < t + r → ∀ s, fit u s = true) → (wyG (mvs J re) N W fit r t (mvs J re i) s).length = wk J re r i := by
  intro r
  induction r with
  | zero => intro t i s _ _; rfl
  | succ r ih =>
    intro t i s hi hf
    have h : ∀ j, j ≤ N → (wyP (mvs J re) N W fit r t (mvs J re i) s j).length = wsm (wk J re r) (mvs J re i) j := by
      intro j
      induction j with
      | zero => intro _; rfl
      | succ j ihj =>
        intro hj
        show (wyP (mvs J re) N W fit r t (mvs J re i) s j ++ wy1 (mvs J re) N W fit r t (mvs J re i) s j).length = wsm (wk J re r) (mvs J re i) j + (if (mvs J re i).testBit j = true then wk J re r j else 0)
        rw [List.length_append, wy1_len, hf t (Nat.le_refl _) (by omega), Bool.and_true, ihj (by omega), ih (t + 1) j (passS W s j) (by omega) (fun u h1 h2 => hf u (by omega) (by omega))]
    rw [wyG_S, h N (Nat.le_refl _)]
    exact (wsm_10 hN (mvs_lt hJ hre hi)).symm
/-- at the last turn of which something was smelt -/
theorem wyP_len (hN : N ≤ 10) (hJ : ∀ k, J k < 2 ^ N) (hre : re = 0 ∨ re = 1) {r t c m : Nat} {s : Nat → Nat} (hf : ∀ u, t < u → u ≤ t + r → ∀ s, fit u s = true) (hm : ∀ i, i < N → (m.testBit i = true ↔ (c.testBit i && fit t (passS W s i)) = true ∧ 0 < wk J re r i)) : ∀ j, j ≤ N → (wyP (mvs J re) N W fit r t c s j).length = wsm (wk J re r) m j := by
  intro j
  induction j with
  | zero => intro _; rfl
  | succ j ihj =>
    intro hj
    show (wyP (mvs J re) N W fit r t c s j ++ wy1 (mvs J re) N W fit r t c s j).length = wsm (wk J re r) m j + (if m.testBit j = true then wk J re r j else 0)
    rw [List.length_append, wy1_len, ihj (by omega), wyG_all hN hJ hre r (t + 1) j (passS W s j) (by omega) (fun u h1 h2 => hf u (by omega) (by omega))]
    by_cases q : (c.testBit j && fit t (passS W s j)) = true
    · rw [if_pos q]
      by_cases w : 0 < wk J re r j
      · rw [if_pos ((hm j (by omega)).mpr ⟨q, w⟩)]
      · rw [if_neg (fun x => w ((hm j (by omega)).mp x).2)]
        omega
    · rw [if_neg q, if_neg (fun x => q ((hm j (by omega)).mp x).1)]
/-- i is the least of m -/
def lsb (i m : Nat) : Prop := m.testBit i = true ∧ ∀ j, j < i → m.testBit j = false
theorem wyP_hd {mv : Nat → Nat} {r t c : Nat} {s : Nat → Nat} {x : List Nat} : ∀ j X, wyP mv N W fit r t c s j = x :: X → ∃ i y Y, i < j ∧ (c.testBit i && fit t (passS W s i)) = true ∧ (∀ k, k < i → wy1 mv N W fit r t c s k = []) ∧ wyG mv N W fit r (t + 1) (mv i) (passS W s i) = y :: Y ∧ x = i :: y := by
  have none : ∀ j, wyP mv N W fit r t c s j = [] → ∀ k, k < j → wy1 mv N W fit r t c s k = [] := by
    intro j
    induction j with
    | zero => intro _ k hk; exact absurd hk (Nat.not_lt_zero _)
    | succ j ih =>
      intro h k hk
      have h' : wyP mv N W fit r t c s j ++ wy1 mv N W fit r t c s j = [] := h
      obtain ⟨h1, h2⟩ := List.append_eq_nil_iff.mp h'
      by_cases e : k = j
      · rw [e]; exact h2
      · exact ih h1 k (by omega)
  intro j
  induction j with
  | zero => intro X h; cases h
  | succ j ih =>
    intro X h
    have h' : wyP mv N W fit r t c s j ++ wy1 mv N W fit r t c s j = x :: X := h
    cases hp : wyP mv N W fit r t c s j with
    | cons y Y =>
      rw [hp] at h'
      have e : y = x := by
        have : y :: (Y ++ wy1 mv N W fit r t c s j) = x :: X := h'
        injection this
      rw [e] at hp
      obtain ⟨i, y, Y, h1, h2⟩ := ih Y hp
      exact ⟨i, y, Y, by omega, h2⟩
    | nil =>
      rw [hp, List.nil_append] at h'
      have q : (c.testBit j && fit t (passS W s j)) = true := by
        apply Classical.byContradiction
        intro q
        unfold wy1 at h'
        rw [if_neg q] at h'
        cases h'
      have h2 := h'
      unfold wy1 at h2
      rw [if_pos q] at h2
      cases hg : wyG mv N W fit r (t + 1) (mv j) (passS W s j) with
      | nil =>
        rw [hg] at h2
        cases h2
      | cons y Y =>
        rw [hg] at h2
        have e : j :: y = x := by
          have : (j :: y) :: Y.map (fun l => j :: l) = x :: X := h2
          injection this
        exact ⟨j, y, Y, by omega, q, none j hp, hg, e.symm⟩
theorem tb_onw {r i : Nat} : (onw J N re r).testBit i = true ↔ i < N ∧ 0 < wk J re r i := by
  unfold onw
  rw [tb_sel, Bool.and_eq_true, decide_eq_true_eq, decide_eq_true_eq]
/-- the first way, as the class goes it -/
theorem wyG_hd (hN : N ≤ 10) (hJ : ∀ k, J k < 2 ^ N) (hre : re = 0 ∨ re = 1) : ∀ (r t i : Nat) (s : Nat → Nat) (x : List Nat) (X : List (List Nat)), (∀ u, t ≤ u → u < t + r → ∀ s, fit u s = true) → wyG (mvs J re) N W fit r t (mvs J re i) s = x :: X → ∀ u, u < r → lsb (nz x u) (mvs J re (nz (i :: x) u) &&& onw J N re (r - 1 - u)) := by
  intro r
  induction r with
  | zero => intro t i s x X _ _ u hu; exact absurd hu (Nat.not_lt_zero _)
  | succ r ih =>
    intro t i s x X hf h
    rw [wyG_S] at h
    obtain ⟨i1, y, Y, h1, h2, h3, h4, rfl⟩ := wyP_hd N X h
    intro u hu
    match u, hu with
    | 0, _ =>
      rw [Nat.add_sub_cancel, Nat.sub_zero]
      show lsb i1 (mvs J re i &&& onw J N re r)
      rw [Bool.and_eq_true] at h2
      have hw := wyG_wk (J := J) (re := re) (W := W) (fit := fit) hN r (t + 1) i1 (passS W s i1)
      rw [h4, List.length_cons] at hw
      refine ⟨by rw [Nat.testBit_and, Bool.and_eq_true]; exact ⟨h2.1, tb_onw.mpr ⟨h1, by omega⟩⟩, fun j hj => eq_false_of_ne_true (fun w => ?_)⟩
      rw [Nat.testBit_and, Bool.and_eq_true, tb_onw] at w
      have hl := wy1_len (mv := mvs J re) (N := N) (W := W) (fit := fit) (r := r) (t := t) (c := mvs J re i) (s := s) (i := j)
      rw [h3 j hj, w.1, hf t (Nat.le_refl _) (by omega), Bool.true_and, if_pos rfl, wyG_all hN hJ hre r (t + 1) j _ w.2.1 (fun u h1 h2 => hf u (by omega) (by omega))] at hl
      have : ([] : List (List Nat)).length = 0 := rfl
      omega
    | u + 1, hu =>
      have := ih (t + 1) i1 (passS W s i1) y Y (fun u h1 h2 => hf u (by omega) (by omega)) h4 u (by omega)
      rw [show r + 1 - 1 - (u + 1) = r - 1 - u by omega]
      exact this
theorem wyG_hdT (hN : N ≤ 10) (hJ : ∀ k, J k < 2 ^ N) (hre : re = 0 ∨ re = 1) {r t c m : Nat} {s : Nat → Nat} (hf : ∀ u, t < u → u ≤ t + r → ∀ s, fit u s = true) (hm : ∀ i, i < N → (m.testBit i = true ↔ (c.testBit i && fit t (passS W s i)) = true ∧ 0 < wk J re r i)) {x : List Nat} {X : List (List Nat)} (h : wyG (mvs J re) N W fit (r + 1) t c s = x :: X) : lsb (nz x 0) m ∧ ∀ u, u < r → lsb (nz x (u + 1)) (mvs J re (nz x u) &&& onw J N re (r - 1 - u)) := by
  rw [wyG_S] at h
  obtain ⟨i1, y, Y, h1, h2, h3, h4, rfl⟩ := wyP_hd N X h
  have hw := wyG_wk (J := J) (re := re) (W := W) (fit := fit) hN r (t + 1) i1 (passS W s i1)
  rw [h4, List.length_cons] at hw
  refine ⟨⟨(hm i1 h1).mpr ⟨h2, by omega⟩, fun j hj => eq_false_of_ne_true (fun w => ?_)⟩, fun u hu => wyG_hd hN hJ hre r (t + 1) i1 _ y Y (fun u h1 h2 => hf u (by omega) (by omega)) h4 u hu⟩
  have hj : j < N := Nat.lt_trans hj h1
  obtain ⟨w1, w2⟩ := (hm j hj).mp w
  have hl := wy1_len (mv := mvs J re) (N := N) (W := W) (fit := fit) (r := r) (t := t) (c := c) (s := s) (i := j)
  rw [h3 j (by assumption), w1, if_pos rfl, wyG_all hN hJ hre r (t + 1) j _ hj (fun u h1 h2 => hf u (by omega) (by omega))] at hl
  have : ([] : List (List Nat)).length = 0 := rfl
  omega
/-- a fitting way -/
def isG (mv : Nat → Nat) (N W : Nat) (fit : Nat → (Nat → Nat) → Bool) : Nat → Nat → Nat → (Nat → Nat) → List Nat → Prop
  | 0, _, _, _, l => l = []
  | r + 1, t, c, s, l => ∃ i l', l = i :: l' ∧ i < N ∧ (c.testBit i && fit t (passS W s i)) = true ∧ isG mv N W fit r (t + 1) (mv i) (passS W s i) l'
theorem mem_wyG {mv : Nat → Nat} : ∀ (r t c : Nat) (s : Nat → Nat) (l : List Nat), l ∈ wyG mv N W fit r t c s ↔ isG mv N W fit r t c s l := by
  intro r
  induction r with
  | zero => intro t c s l; exact List.mem_singleton
  | succ r ih =>
    intro t c s l
    show l ∈ (List.range N).flatMap (fun i => if (c.testBit i && fit t (passS W s i)) = true then (wyG mv N W fit r (t + 1) (mv i) (passS W s i)).map (fun l => i :: l) else []) ↔ _
    rw [List.mem_flatMap]
    constructor
    · rintro ⟨i, hi, h⟩
      by_cases hb : (c.testBit i && fit t (passS W s i)) = true
      · rw [if_pos hb, List.mem_map] at h
        obtain ⟨m, hm, rfl⟩ := h
        exact ⟨i, m, rfl, List.mem_range.mp hi, hb, (ih _ _ _ m).mp hm⟩
      · rw [if_neg hb] at h
        exact absurd h List.not_mem_nil
    · rintro ⟨i, m, rfl, h1, h2, h3⟩
      refine ⟨i, List.mem_range.mpr h1, ?_⟩
      rw [if_pos h2, List.mem_map]
      exact ⟨m, (ih _ _ _ m).mpr h3, rfl⟩
/-- on from a fitting way as one likes, where nothing was smelt -/
theorem isG_swap (hN : N ≤ 10) (hJ : ∀ k, J k < 2 ^ N) (hre : re = 0 ∨ re = 1) {x : Nat} (hx : x < N) : ∀ (p r t c : Nat) (s : Nat → Nat) (l : List Nat), p + 1 < r → (∀ u, t + p < u → u < t + r → ∀ s, fit u s = true) → isG (mvs J re) N W fit r t c s l → (mvs J re (nz l p)).testBit x = true → 0 < wk J re (r - p - 2) x → ∃ l', isG (mvs J re) N W fit r t c s l' ∧ nz l' (p + 1) = x := by
  intro p
  induction p with
  | zero =>
    intro r t c s l hr hf h hm hw
    obtain ⟨r, rfl⟩ : ∃ r2, r = r2 + 2 := ⟨r - 2, by omega⟩
    obtain ⟨i, l1, rfl, h1, h2, h3⟩ := h
    rw [Nat.sub_zero, Nat.add_sub_cancel] at hw
    have hl := wyG_all (W := W) (fit := fit) hN hJ hre r (t + 2) x (passS W (passS W s i) x) hx (fun u h1 h2 => hf u (by omega) (by omega))
    cases hg : wyG (mvs J re) N W fit r (t + 2) (mvs J re x) (passS W (passS W s i) x) with
    | nil =>
      rw [hg] at hl
      have : ([] : List (List Nat)).length = 0 := rfl
      omega
    | cons y Y =>
      have hy := (mem_wyG r (t + 2) (mvs J re x) (passS W (passS W s i) x) y).mp (by rw [hg]; exact List.mem_cons_self)
      refine ⟨i :: x :: y, ⟨i, x :: y, rfl, h1, h2, x, y, rfl, hx, ?_, hy⟩, rfl⟩
      rw [show (mvs J re i).testBit x = true from hm, hf (t + 1) (by omega) (by omega)]
      rfl
  | succ p ih =>
    intro r t c s l hr hf h hm hw
    obtain ⟨r, rfl⟩ : ∃ r2, r = r2 + 1 := ⟨r - 1, by omega⟩
    obtain ⟨i, l1, rfl, h1, h2, h3⟩ := h
    obtain ⟨l2, q1, q2⟩ := ih r (t + 1) (mvs J re i) (passS W s i) l1 (by omega) (fun u h1 h2 => hf u (by omega) (by omega)) h3 hm (by rw [show r - p - 2 = r + 1 - (p + 1) - 2 by omega]; exact hw)
    exact ⟨i :: l2, ⟨i, l2, rfl, h1, h2, q1⟩, q2⟩
/-- a fitting way's nodes: one a move of the one ahead of it, with ways on from it -/
theorem isG_at (hN : N ≤ 10) : ∀ (p r t c : Nat) (s : Nat → Nat) (l : List Nat), p < r → isG (mvs J re) N W fit r t c s l → nz l p < N ∧ 0 < wk J re (r - p - 1) (nz l p) ∧ (p + 1 < r → (mvs J re (nz l p)).testBit (nz l (p + 1)) = true) ∧ l.length = r := by
  intro p
  induction p with
  | zero =>
    intro r t c s l hr h
    obtain ⟨r, rfl⟩ : ∃ r2, r = r2 + 1 := ⟨r - 1, by omega⟩
    obtain ⟨i, l1, rfl, h1, h2, h3⟩ := h
    have hw := wyG_wk (J := J) (re := re) (W := W) (fit := fit) hN r (t + 1) i (passS W s i)
    have hm := (mem_wyG r (t + 1) (mvs J re i) (passS W s i) l1).mpr h3
    have hpos : 0 < (wyG (mvs J re) N W fit r (t + 1) (mvs J re i) (passS W s i)).length := List.length_pos_of_mem hm
    have hlen : ∀ (r t c : Nat) (s : Nat → Nat) (l : List Nat), isG (mvs J re) N W fit r t c s l → l.length = r := by
      intro r
      induction r with
      | zero => intro t c s l h; rw [show l = [] from h]; rfl
      | succ r ih =>
        intro t c s l h
        obtain ⟨i, l1, rfl, -, -, h3⟩ := h
        rw [List.length_cons, ih _ _ _ _ h3]
    refine ⟨h1, ?_, fun hr2 => ?_, ?_⟩
    · rw [Nat.sub_zero, Nat.add_sub_cancel]
      show 0 < wk J re r i
      omega
    · obtain ⟨r, rfl⟩ : ∃ r2, r = r2 + 1 := ⟨r - 1, by omega⟩
      obtain ⟨j, l2, rfl, g1, g2, g3⟩ := h3
      rw [Bool.and_eq_true] at g2
      exact g2.1
    · rw [List.length_cons, hlen _ _ _ _ _ h3]
  | succ p ih =>
    intro r t c s l hr h
    obtain ⟨r, rfl⟩ : ∃ r2, r = r2 + 1 := ⟨r - 1, by omega⟩
    obtain ⟨i, l1, rfl, h1, h2, h3⟩ := h
    obtain ⟨q1, q2, q3, q4⟩ := ih r (t + 1) (mvs J re i) (passS W s i) l1 (by omega) h3
    refine ⟨q1, ?_, fun hr2 => q3 (by omega), by rw [List.length_cons, q4]⟩
    rw [show r + 1 - (p + 1) - 1 = r - p - 1 by omega]
    exact q2
end WL
