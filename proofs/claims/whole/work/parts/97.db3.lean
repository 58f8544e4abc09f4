/-! Doubt: the model's keys. -/
/-- what is smelt at posts, in base 19 -/
def svP (P : Nat) (s : Nat → Nat) : Nat → Nat
  | 0 => 0
  | j + 1 => if P.testBit j = true then 19 * svP P s j + s j else svP P s j
theorem svP_lt {P : Nat} {s : Nat → Nat} (hs : ∀ k, s k ≤ 18) : ∀ n, n ≤ 10 → svP P s n < 19 ^ n := by
  intro n
  induction n with
  | zero => intro _; exact Nat.zero_lt_one
  | succ n ih =>
    intro hn
    have h1 := ih (by omega)
    have h2 := hs n
    have e : 19 ^ (n + 1) = 19 ^ n * 19 := Nat.pow_succ ..
    show (if P.testBit n = true then 19 * svP P s n + s n else svP P s n) < _
    split <;> omega
theorem svP_lt10 {P : Nat} {s : Nat → Nat} (hs : ∀ k, s k ≤ 18) {n : Nat} (hn : n ≤ 10) : svP P s n < 6131066257802 := by
  have h1 := svP_lt (P := P) hs n hn
  have h2 : 19 ^ n ≤ 19 ^ 10 := Nat.pow_le_pow_right (by omega) hn
  have h3 : 19 ^ 10 = 6131066257801 := by decide
  omega
theorem svP_inj {P : Nat} {s s' : Nat → Nat} (hs : ∀ k, s k ≤ 18) (hs' : ∀ k, s' k ≤ 18) : ∀ n, svP P s n = svP P s' n ↔ ∀ j, j < n → P.testBit j = true → s j = s' j := by
  intro n
  induction n with
  | zero => exact ⟨fun _ j h => absurd h (Nat.not_lt_zero _), fun _ => rfl⟩
  | succ n ih =>
    show (if P.testBit n = true then 19 * svP P s n + s n else svP P s n) = (if P.testBit n = true then 19 * svP P s' n + s' n else svP P s' n) ↔ _
    have h1 := hs n
    have h2 := hs' n
    by_cases c : P.testBit n = true
    · rw [if_pos c, if_pos c]
      constructor
      · intro q j hj hb
        by_cases e : j = n
        · subst e; omega
        · exact ih.mp (by omega) j (by omega) hb
      · intro q
        have q1 := ih.mpr (fun j hj hb => q j (by omega) hb)
        have q2 := q n (by omega) c
        omega
    · rw [if_neg c, if_neg c, ih]
      constructor
      · intro q j hj hb
        by_cases e : j = n
        · subst e; exact absurd hb c
        · exact q j (by omega) hb
      · intro q j hj hb
        exact q j (by omega) hb
/-- the smells along a way -/
def smW (W : Nat) : (Nat → Nat) → List Nat → List (Nat → Nat)
  | _, [] => []
  | s, i :: l => passS W s i :: smW W (passS W s i) l
/-- as posts tell them -/
def svW (W P N : Nat) (s : Nat → Nat) (l : List Nat) : List Nat := (smW W s l).map (fun s => svP P s N)
theorem pass_tell {W P N i i' : Nat} {s s' : Nat → Nat} (hP : P < 4294967296) (hs : ∀ k, s k ≤ 18) (hs' : ∀ k, s' k ≤ 18) (hw : ∀ k, W.testBit k = true → s k = 0) (hw' : ∀ k, W.testBit k = true → s' k = 0) (he : ∀ j, j < N → P.testBit j = true → s j = s' j) (hi : i < N) (hi' : i' < N) : (∀ j, j < N → P.testBit j = true → passS W s i j = passS W s' i' j) ↔ (((dif P W).testBit i = true ∨ (dif P W).testBit i' = true) → i = i') := by
  have tb : ∀ j, (dif P W).testBit j = true ↔ P.testBit j = true ∧ W.testBit j = false := fun j => by
    rw [tb_dif hP, Bool.and_eq_true, Bool.not_eq_true']
  have grow : ∀ (s : Nat → Nat) j, s j ≤ 18 → W.testBit j = false → (if W.testBit j = true then 0 else min 18 (s j - 1 + 9)) ≠ s j - 1 := fun s j h1 h2 => by
    rw [h2, if_neg Bool.false_ne_true]
    rcases Nat.le_total 18 (s j - 1 + 9) with q | q
    · rw [Nat.min_eq_left q]; omega
    · rw [Nat.min_eq_right q]; omega
  constructor
  · intro h q
    apply Classical.byContradiction
    intro hne
    rcases q with q | q
    · obtain ⟨q1, q2⟩ := (tb i).mp q
      have h1 := h i hi q1
      unfold passS at h1
      rw [if_pos rfl, if_neg hne, ← he i hi q1] at h1
      exact grow s i (hs i) q2 h1
    · obtain ⟨q1, q2⟩ := (tb i').mp q
      have h1 := h i' hi' q1
      unfold passS at h1
      rw [if_pos rfl, if_neg (fun w => hne w.symm), he i' hi' q1] at h1
      exact grow s' i' (hs' i') q2 h1.symm
  · intro h j hj hb
    cases hwj : W.testBit j with
    | true => rw [passS_W hw j hwj, passS_W hw' j hwj]
    | false =>
      unfold passS
      by_cases c1 : j = i
      · have e := h (Or.inl ((tb i).mpr ⟨by rw [← c1]; exact hb, by rw [← c1]; exact hwj⟩))
        rw [if_pos c1, if_pos (show j = i' by omega), ← e, ← c1, he j hj hb]
      · by_cases c2 : j = i'
        · have e := h (Or.inr ((tb i').mpr ⟨by rw [← c2]; exact hb, by rw [← c2]; exact hwj⟩))
          exact absurd (show j = i by omega) c1
        · rw [if_neg c1, if_neg c2, he j hj hb]
/-- keys are alike as ways are told alike -/
theorem svW_alk {W P N : Nat} (hP : P < 4294967296) : ∀ (l l' : List Nat) (s s' : Nat → Nat), l.length = l'.length → (∀ i, i ∈ l → i < N) → (∀ i, i ∈ l' → i < N) → (∀ k, s k ≤ 18) → (∀ k, s' k ≤ 18) → (∀ k, W.testBit k = true → s k = 0) → (∀ k, W.testBit k = true → s' k = 0) → (∀ j, j < N → P.testBit j = true → s j = s' j) → (svW W P N s l = svW W P N s' l' ↔ alk (dif P W) l l') := by
  intro l
  induction l with
  | nil =>
    intro l' s s' hl _ _ _ _ _ _ _
    match l', hl with
    | [], _ => exact ⟨fun _ => trivial, fun _ => rfl⟩
  | cons i l ih =>
    intro l' s s' hl h1 h2 h3 h4 h5 h6 h7
    match l', hl, h2 with
    | j :: m, hl, h2 =>
      have hi := h1 i List.mem_cons_self
      have hj := h2 j List.mem_cons_self
      have pt := pass_tell hP h3 h4 h5 h6 h7 hi hj
      have q3 := passS_le (W := W) (i := i) h3
      have q4 := passS_le (W := W) (i := j) h4
      have q5 := passS_W (W := W) (i := i) h5
      have q6 := passS_W (W := W) (i := j) h6
      show (svP P (passS W s i) N :: svW W P N (passS W s i) l = svP P (passS W s' j) N :: svW W P N (passS W s' j) m) ↔ (((dif P W).testBit i = true ∨ (dif P W).testBit j = true) → i = j) ∧ alk (dif P W) l m
      rw [List.cons.injEq, svP_inj q3 q4, ← pt]
      constructor
      · rintro ⟨w1, w2⟩
        exact ⟨w1, (ih m _ _ (by simpa using hl) (fun x hx => h1 x (List.mem_cons_of_mem _ hx)) (fun x hx => h2 x (List.mem_cons_of_mem _ hx)) q3 q4 q5 q6 w1).mp w2⟩
      · rintro ⟨w1, w2⟩
        exact ⟨w1, (ih m _ _ (by simpa using hl) (fun x hx => h1 x (List.mem_cons_of_mem _ hx)) (fun x hx => h2 x (List.mem_cons_of_mem _ hx)) q3 q4 q5 q6 w1).mpr w2⟩
/-- the model's smells told at posts -/
theorem sp_200 {N P t : Nat} {s : Nat → Nat} {h : hs_H} (hN : h.1 12 0 2 = nI N) (hN2 : N ≤ 10) (hP : P < 2147483648) (ht : t < 6) (hs : ∀ k, s k ≤ 18) (hw : ∀ k, k < N → h.1 50 0 (10 * t + k) = nI (s k)) : hf_200 (nI t) (nI P) h = some (lN (svP P s N), h) := by
  unfold hf_200
  refine lp_for (f := fun k s => hb_200_5 k s.1 s.2.1 s.2.2.1 s.2.2.2.1 s.2.2.2.2) (st := fun j => (nI t, nI P, lN (svP P s j), nI j, h)) (e := N) (fun j hj k => ?_) (fun k => ?_) 0 hs_big (by omega) (lp_big (by omega))
  · show hb_200_5 k (nI t) (nI P) (lN (svP P s j)) (nI j) h = k (nI t, nI P, lN (if P.testBit j = true then 19 * svP P s j + s j else svP P s j), nI (j + 1), h)
    have hsj := hs j
    unfold hb_200_5 hb_200_47
    rw [hN, if_neg (nI_ge hj (by omega)), nx_bit hP (by omega), pk_mul, nI_add, nI_add, nx_inb (by omega) (by omega), nx_ck, nI_clamp (by omega), hw j hj, nI_l (by omega), lN_mul, lN_add]
    cases hb : P.testBit j with
    | false => rw [if_pos (by decide), if_neg Bool.false_ne_true]
    | true => rw [if_neg (by decide), if_pos rfl]
  · show hb_200_5 k (nI t) (nI P) (lN (svP P s N)) (nI N) h = _
    unfold hb_200_5
    rw [hN, if_pos (nI_le (Nat.le_refl _) (by omega))]
/-- a step of the model's way -/
def stH (h : hs_H) (t to N : Nat) (s : Nat → Nat) : hs_H := hs_rowb (hs_put h 49 0 t (nI to)) 50 0 (10 * t) N (fun k => nI (s k))
theorem sp_189z {N W to : Nat} {h : hs_H} (hN : h.1 12 0 2 = nI N) (hW : h.1 12 0 4 = nI W) (hN2 : N ≤ 10) (hWb : W < 2147483648) (hto : to < N) : hf_189 (nI 0) (nI to) h = some (stH h 0 to N (passS W (fun _ => 0) to)) := by
  unfold hf_189 stH
  rw [nx_inb (by omega) (by omega), nx_ck, nI_clamp (by omega)]
  have e2 : (hs_put h 49 0 0 (nI to)).1 12 0 2 = nI N := by rw [nx_get, if_neg (by omega)]; exact hN
  have e4 : (hs_put h 49 0 0 (nI to)).1 12 0 4 = nI W := by rw [nx_get, if_neg (by omega)]; exact hW
  generalize hs_put h 49 0 0 (nI to) = H at e2 e4
  have s0 := lp_for (f := fun k s => hb_189_9 k s.1 s.2.1 s.2.2.1 s.2.2.2) (st := fun j => (nI 0, nI to, nI j, hs_rowb H 50 0 (10 * 0) j (fun k => nI (passS W (fun _ => 0) to k)))) (e := N) (X := some (hs_rowb H 50 0 (10 * 0) N (fun k => nI (passS W (fun _ => 0) to k)))) (fun j hj q => by
    show hb_189_9 q (nI 0) (nI to) (nI j) (hs_rowb H 50 0 (10 * 0) j (fun k => nI (passS W (fun _ => 0) to k))) = q (nI 0, nI to, nI (j + 1), hs_rowb H 50 0 (10 * 0) (j + 1) (fun k => nI (passS W (fun _ => 0) to k)))
    have eS := hs_rowbS H 50 0 (10 * 0) j (fun k => nI (passS W (fun _ => 0) to k))
    have w2 : (hs_rowb H 50 0 (10 * 0) j (fun k => nI (passS W (fun _ => 0) to k))).1 12 0 2 = nI N := by rw [nx_rowbget, if_neg (by omega)]; exact e2
    have w4 : (hs_rowb H 50 0 (10 * 0) j (fun k => nI (passS W (fun _ => 0) to k))).1 12 0 4 = nI W := by rw [nx_rowbget, if_neg (by omega)]; exact e4
    rw [← eS]
    generalize hs_rowb H 50 0 (10 * 0) j (fun k => nI (passS W (fun _ => 0) to k)) = G at w2 w4
    unfold hb_189_9 hb_189_72 hb_189_73
    rw [w2, if_neg (nI_ge hj (by omega)), if_pos (by decide), pk_mul, nI_add, nx_inb (by omega) (by omega), nx_ck, nI_clamp (by omega), nI_add]
    by_cases c : j = to
    · subst c
      have hv : passS W (fun _ => 0) j j = if W.testBit j = true then 0 else 9 := by unfold passS; rw [if_pos rfl]; rfl
      rw [if_neg (fun q => q rfl), sp_180 w4 (by omega) (by omega), Option.bind_some, hv]
      dsimp only
      cases hb : W.testBit j with
      | true =>
        rw [if_pos (by decide), if_pos rfl]
        rfl
      | false =>
        rw [if_neg (by decide), if_neg Bool.false_ne_true]
        rfl
    · have hv : passS W (fun _ => 0) to j = 0 := by
        unfold passS
        rw [if_neg c]
        rfl
      rw [if_pos (fun q => c (nI_inj (by omega) (by omega) q)), hv]) (fun q => by
    show hb_189_9 q (nI 0) (nI to) (nI N) (hs_rowb H 50 0 (10 * 0) N (fun k => nI (passS W (fun _ => 0) to k))) = _
    unfold hb_189_9
    rw [nx_rowbget, if_neg (c := 12 = 50 ∧ 0 = 0 ∧ 10 * 0 ≤ 2 ∧ 2 < 10 * 0 + N) (by omega), e2, if_pos (nI_le (Nat.le_refl _) (by omega))]) 0 hs_big (by omega) (lp_big (by omega))
  rw [hs_rowb0] at s0
  exact s0
theorem sp_189s {N W t to : Nat} {s : Nat → Nat} {h : hs_H} (hN : h.1 12 0 2 = nI N) (hW : h.1 12 0 4 = nI W) (hN2 : N ≤ 10) (hWb : W < 2147483648) (hto : to < N) (ht : t < 5) (hs : ∀ k, s k ≤ 18) (hsW : ∀ k, W.testBit k = true → s k = 0) (hw : ∀ k, k < N → h.1 50 0 (10 * t + k) = nI (s k)) : hf_189 (nI (t + 1)) (nI to) h = some (stH h (t + 1) to N (passS W s to)) := by
  unfold hf_189 stH
  rw [nx_inb (by omega) (by omega), nx_ck, nI_clamp (by omega)]
  have e2 : (hs_put h 49 0 (t + 1) (nI to)).1 12 0 2 = nI N := by rw [nx_get, if_neg (by omega)]; exact hN
  have e4 : (hs_put h 49 0 (t + 1) (nI to)).1 12 0 4 = nI W := by rw [nx_get, if_neg (by omega)]; exact hW
  have ew : ∀ k, k < N → (hs_put h 49 0 (t + 1) (nI to)).1 50 0 (10 * t + k) = nI (s k) := fun k hk => by rw [nx_get, if_neg (by omega)]; exact hw k hk
  generalize hs_put h 49 0 (t + 1) (nI to) = H at e2 e4 ew
  have s0 := lp_for (f := fun k s => hb_189_9 k s.1 s.2.1 s.2.2.1 s.2.2.2) (st := fun j => (nI (t + 1), nI to, nI j, hs_rowb H 50 0 (10 * (t + 1)) j (fun k => nI (passS W s to k)))) (e := N) (X := some (hs_rowb H 50 0 (10 * (t + 1)) N (fun k => nI (passS W s to k)))) (fun j hj q => by
    show hb_189_9 q (nI (t + 1)) (nI to) (nI j) (hs_rowb H 50 0 (10 * (t + 1)) j (fun k => nI (passS W s to k))) = q (nI (t + 1), nI to, nI (j + 1), hs_rowb H 50 0 (10 * (t + 1)) (j + 1) (fun k => nI (passS W s to k)))
    have eS := hs_rowbS H 50 0 (10 * (t + 1)) j (fun k => nI (passS W s to k))
    have w2 : (hs_rowb H 50 0 (10 * (t + 1)) j (fun k => nI (passS W s to k))).1 12 0 2 = nI N := by rw [nx_rowbget, if_neg (by omega)]; exact e2
    have w4 : (hs_rowb H 50 0 (10 * (t + 1)) j (fun k => nI (passS W s to k))).1 12 0 4 = nI W := by rw [nx_rowbget, if_neg (by omega)]; exact e4
    have w5 : (hs_rowb H 50 0 (10 * (t + 1)) j (fun k => nI (passS W s to k))).1 50 0 (10 * t + j) = nI (s j) := by rw [nx_rowbget, if_neg (by omega)]; exact ew j hj
    have hsj := hs j
    rw [← eS]
    generalize hs_rowb H 50 0 (10 * (t + 1)) j (fun k => nI (passS W s to k)) = G at w2 w4 w5
    unfold hb_189_9 hb_189_73
    rw [w2, if_neg (nI_ge hj (by omega)), if_neg (nI_nle (by omega) (by omega)), pk_mul, pk_sub (by omega), nI_add, nI_add, show 10 * (t + 1) - 10 + j = 10 * t + j by omega, nx_inb (show 10 * t + j < 60 by omega) (by omega), nx_ck, nI_clamp (show 10 * t + j < 2147483648 by omega), w5, sp_183 w4 (by omega) (by omega) (by omega) (by omega), Option.bind_some]
    dsimp only
    rw [smell_eq hs hsW, nx_inb (by omega) (by omega), nx_ck, nI_clamp (by omega), nI_add]) (fun q => by
    show hb_189_9 q (nI (t + 1)) (nI to) (nI N) (hs_rowb H 50 0 (10 * (t + 1)) N (fun k => nI (passS W s to k))) = _
    unfold hb_189_9
    rw [nx_rowbget, if_neg (c := 12 = 50 ∧ 0 = 0 ∧ 10 * (t + 1) ≤ 2 ∧ 2 < 10 * (t + 1) + N) (by omega), e2, if_pos (nI_le (Nat.le_refl _) (by omega))]) 0 hs_big (by omega) (lp_big (by omega))
  rw [hs_rowb0] at s0
  exact s0
