/-! read: the check of three cells. -/
theorem add_i {x : Int32} {i : Nat} (hi : i < 1000) : (x.toInt + i < 2147483648 ∧ (x + nI i).toInt = x.toInt + i) ∨ (2147483648 ≤ x.toInt + i ∧ (x + nI i).toInt = x.toInt + i - 4294967296) := by
  have h1 := Int32.toInt_lt x
  have h2 := Int32.le_toInt x
  have e : (x + nI i).toInt = (x.toInt + i).bmod 4294967296 := by rw [Int32.toInt_add, nI_toInt (by omega)]
  rw [e, Int.bmod_def]
  have h1' : x.toInt < 2147483648 := h1
  have h2' : -2147483648 ≤ x.toInt := h2
  by_cases h3 : x.toInt + i < 2147483648
  · refine Or.inl ⟨h3, ?_⟩
    omega
  · refine Or.inr ⟨by omega, ?_⟩
    omega
/-- three cells from x + 3 i on lie in a sheet of n -/
def in3 (n : Nat) (x : Int32) (i : Nat) : Bool := decide (0 ≤ x.toInt + (3 * i : Nat) ∧ x.toInt + (3 * i : Nat) + 3 ≤ (n : Int))
theorem in3_at {n : Nat} {x : Int32} {i : Nat} (hn : n ≤ 40) (hi : i ≤ 10) (hx : in3 n x i = true) : ∃ p, p + 3 ≤ n ∧ x + nI (3 * i) = nI p ∧ x.toInt + (3 * i : Nat) = (p : Int) := by
  have h1 := of_decide_eq_true hx
  refine ⟨(x.toInt + (3 * i : Nat)).toNat, by omega, ?_, by omega⟩
  apply Int32.toInt_inj.mp
  rw [nI_toInt (by omega)]
  rcases add_i (x := x) (i := 3 * i) (by omega) with ⟨_, e⟩ | ⟨q, _⟩
  · omega
  · omega
theorem sub3_toInt {n : Nat} (hn : n ≤ 40) : (nI n - nI 3).toInt = (n : Int) - 3 := pk_sub_toInt (by omega) (by omega)
theorem sp_79t {o n i : Nat} {x : Int32} {h : hs_H} (hn : h.1 8 o 2 = nI n) (hb : n ≤ 40) (hi : i ≤ 10) : hf_79 o (x + nI (3 * i)) (nI 3) h = some (if in3 n x i = true then nI 0 else nI 2, h) := by
  have hq : ¬ nI n = nI 4294967292 := fun h9 => by have := nI_inj (by omega) (by omega) h9; omega
  have a := add_i (x := x) (i := 3 * i) (by omega)
  have s3 := sub3_toInt hb
  have xl : x.toInt < 2147483648 := Int32.toInt_lt x
  unfold hf_79 hb_79_25 hb_79_30
  rw [hn, if_pos hq]
  by_cases h0 : (x + nI (3 * i)) < 0
  · have h0' := Int32.lt_iff_toInt_lt.mp h0
    have h0'' : (x + nI (3 * i)).toInt < 0 := h0'
    rw [if_pos h0, if_neg]
    unfold in3
    rw [decide_eq_true_eq]
    omega
  · have h0'' : ¬ (x + nI (3 * i)).toInt < 0 := fun q => h0 (Int32.lt_iff_toInt_lt.mpr q)
    rw [if_neg h0]
    by_cases h1 : (x + nI (3 * i)) ≤ nI n - nI 3
    · have h1' := Int32.le_iff_toInt_le.mp h1
      rw [if_pos h1, if_pos]
      unfold in3
      rw [decide_eq_true_eq]
      omega
    · have h1' : ¬ (x + nI (3 * i)).toInt ≤ (nI n - nI 3).toInt := fun q => h1 (Int32.le_iff_toInt_le.mpr q)
      rw [if_neg h1, if_neg]
      unfold in3
      rw [decide_eq_true_eq]
      omega
/-- what the check of step i says of a sheet: none, or lane and size -/
def kd3 (u : Option (Nat × Nat)) (l x : Int32) (i : Nat) : Nat := match u with
  | none => 1
  | some (ln, n) => if nI ln = l then (if in3 n x i = true then 0 else 2) else 3
theorem kd3_lt (u : Option (Nat × Nat)) (l x : Int32) (i : Nat) : kd3 u l x i < 4 := by
  unfold kd3
  match u with
  | none => exact (by decide : 1 < 4)
  | some (ln, n) =>
    show (if nI ln = l then (if in3 n x i = true then 0 else 2) else 3) < 4
    by_cases h1 : nI ln = l
    · rw [if_pos h1]
      cases in3 n x i
      · exact (by decide : 2 < 4)
      · exact (by decide : 0 < 4)
    · rw [if_neg h1]
      decide
/-- a sheet, as the class holds it and as the model does -/
def st_u (k : Nat) (u : Option (Nat × Nat)) (h : hs_H) : Prop := match u with
  | none => h.1 8 k 2 = nI 4294967292 ∧ h.1 61 0 k = nI 4294967292
  | some (ln, n) => ln ≤ 2 ∧ n ≤ 40 ∧ h.1 8 k 1 = nI ln ∧ h.1 61 0 k = nI ln ∧ h.1 8 k 2 = nI n ∧ h.1 62 0 k = nI n ∧ ∀ i, i < 40 → h.1 32 k i = h.1 63 0 (40 * k + i)
theorem st_u_of {k : Nat} {h : hs_H} (p : st_sheet k h) : ∃ u, st_u k u h := by
  rcases p with p | ⟨ln, n, p⟩
  · exact ⟨none, p⟩
  · exact ⟨some (ln, n), p⟩
theorem st_u_dep {k : Nat} {u : Option (Nat × Nat)} : st_dep [(8, k), (32, k), (61, 0), (62, 0), (63, 0)] (st_u k u) := by
  intro h h' e p
  have e1 : h'.1 8 k = h.1 8 k := e (8, k) (by simp)
  have e2 : h'.1 32 k = h.1 32 k := e (32, k) (by simp)
  have e3 : h'.1 61 0 = h.1 61 0 := e (61, 0) (by simp)
  have e4 : h'.1 62 0 = h.1 62 0 := e (62, 0) (by simp)
  have e5 : h'.1 63 0 = h.1 63 0 := e (63, 0) (by simp)
  unfold st_u at p ⊢
  rw [e1, e2, e3, e4, e5]
  exact p
theorem sp_80 {k : Nat} {u : Option (Nat × Nat)} {l x : Int32} {i : Nat} {h : hs_H} (hu : st_u k u h) (hi : i ≤ 10) : hf_80 k l (x + nI (3 * i)) (nI 3) h = some (nI (kd3 u l x i), h) := by
  unfold hf_80 hb_80_21 hb_80_27
  match u, hu with
  | none, hu =>
    rw [if_pos hu.1, sp_79n hu.1]
    rfl
  | some (ln, n), hu =>
    obtain ⟨h1, h2, h3, h4, h5, h6, h7⟩ := hu
    have hq : ¬ nI n = nI 4294967292 := fun h9 => by have := nI_inj (by omega) (by omega) h9; omega
    rw [h5, if_neg hq, h3]
    unfold kd3
    show _ = some (nI (if nI ln = l then (if in3 n x i = true then 0 else 2) else 3), h)
    by_cases hl : nI ln = l
    · rw [if_pos hl, if_pos hl, sp_79t h5 h2 hi]
      cases in3 n x i <;> rfl
    · rw [if_neg hl, if_neg hl]
theorem kd3_0 {u : Option (Nat × Nat)} {l x : Int32} {i : Nat} {k : Nat} {h : hs_H} (hu : st_u k u h) (hi : i ≤ 10) (h0 : kd3 u l x i = 0) : ∃ p, p + 3 ≤ 40 ∧ x + nI (3 * i) = nI p ∧ x.toInt + (3 * i : Nat) = (p : Int) ∧ ∀ j, j < 3 → h.1 32 k (p + j) = h.1 63 0 (40 * k + p + j) := by
  match u, hu with
  | none, hu => cases h0
  | some (ln, n), hu =>
    obtain ⟨h1, h2, h3, h4, h5, h6, h7⟩ := hu
    have h0' : (if nI ln = l then (if in3 n x i = true then 0 else 2) else 3) = 0 := h0
    by_cases hl : nI ln = l
    · rw [if_pos hl] at h0'
      cases hx : in3 n x i with
      | false => rw [hx] at h0'; cases h0'
      | true =>
        obtain ⟨p, hp, e1, e2⟩ := in3_at h2 hi hx
        refine ⟨p, by omega, e1, e2, fun j hj => ?_⟩
        rw [h7 (p + j) (by omega), Nat.add_assoc]
    · rw [if_neg hl] at h0'
      cases h0'
theorem sp_83 {k p : Nat} {h : hs_H} (hp : p < 40) : hf_83 k (nI p) h = some (h.1 32 k p, h) := by
  unfold hf_83 hb_83_20
  simp (disch := omega) only [nq_nf, nq_nt, nq_le_t, nq_le_f, nq_lt_t, nq_lt_f, nq_eq_t, nq_eq_f, nq_neg, nq_pos, nq_le0f, nq_le0t, nq_lt0t, nq_lt0f, nq_eq0f, nq_eq0t, nI_add, nI_clamp, nx_inb, nx_ck, Option.bind_some, nx_get, nx_get2, nx_dif, nx_or, bI_0, bI_01, bI_nt, bI_nf, if_true, if_false, ite_true, ite_false, not_true_eq_false, not_false_eq_true, and_true, true_and, and_false, false_and, Bool.false_eq_true, Bool.true_eq_false, reduceCtorEq]
