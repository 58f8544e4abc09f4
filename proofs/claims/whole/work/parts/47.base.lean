/-! The small functions, class and model. -/
theorem nq_nf {a b : Nat} (h : a ≠ b) : (a = b) = False := eq_false h
theorem nq_nt {a b : Nat} (h : a = b) : (a = b) = True := eq_true h
theorem nq_le_t {a b : Nat} (h : a ≤ b) (hb : b < 2147483648) : (nI a ≤ nI b) = True := eq_true (nI_le h hb)
theorem nq_le_f {a b : Nat} (h : b < a) (ha : a < 2147483648) : (nI a ≤ nI b) = False := eq_false (nI_ge h ha)
theorem nq_lt_t {a b : Nat} (h : a < b) (hb : b < 2147483648) : (nI a < nI b) = True := eq_true (nI_lt h hb)
theorem nq_lt_f {a b : Nat} (h : b ≤ a) (ha : a < 2147483648) : (nI a < nI b) = False := eq_false (nI_nlt h ha)
theorem nq_eq_t {a b : Nat} (h : a = b) : (nI a = nI b) = True := eq_true (by rw [h])
theorem nq_eq_f {a b : Nat} (h : a ≠ b) (ha : a < 2147483648) (hb : b < 2147483648) : (nI a = nI b) = False := eq_false (fun q => h ((nI_eq ha hb).mp q))
theorem nq_neg {a : Nat} (h : a < 2147483648) : (nI a < 0) = False := eq_false (nI_pos h)
theorem nq_pos {a : Nat} (h : a < 2147483648) : (0 ≤ nI a) = True := eq_true (nI_pos' h)
theorem nq_le0f {a : Nat} (h0 : 0 < a) (h : a < 2147483648) : (nI a ≤ 0) = False := eq_false (nI_nle h0 h)
theorem nq_le0t {a : Nat} (h0 : a = 0) : (nI a ≤ 0) = True := eq_true (by rw [h0]; decide)
theorem nq_lt0t {a : Nat} (h0 : 0 < a) (h : a < 2147483648) : (0 < nI a) = True := eq_true (by rw [← nI_0]; exact nI_lt h0 h)
theorem nq_lt0f {a : Nat} (h0 : a = 0) : (0 < nI a) = False := eq_false (by rw [h0]; decide)
theorem nq_eq0f {a : Nat} (h0 : 0 < a) (h : a < 2147483648) : (nI a = 0) = False := eq_false (nI_ne0 h0 h)
theorem nq_eq0t {a : Nat} (h0 : a = 0) : (nI a = 0) = True := eq_true (by rw [h0]; rfl)
theorem bI_nt : (bI true = 0) = False := eq_false (by decide)
theorem bI_nf : (bI false = 0) = True := eq_true (by decide)
def nd (N : Nat) (a : Int32) : Bool := decide (0 ≤ a.toInt ∧ a.toInt < (N : Int))
def rg (lo hi : Nat) (a : Int32) : Bool := decide ((lo : Int) ≤ a.toInt ∧ a.toInt ≤ (hi : Int))
theorem rg_of {lo hi : Nat} {a : Int32} (hh : hi < 2147483648) : rg lo hi a = true ↔ ∃ i, lo ≤ i ∧ i ≤ hi ∧ a = nI i := by
  unfold rg
  rw [decide_eq_true_eq]
  constructor
  · rintro ⟨h1, h2⟩
    refine ⟨a.toInt.toNat, by omega, by omega, ?_⟩
    apply Int32.toInt_inj.mp
    rw [nI_toInt (by omega)]
    omega
  · rintro ⟨i, h1, h2, rfl⟩
    rw [nI_toInt (by omega)]
    omega
theorem nd_of {N : Nat} {a : Int32} (hh : N < 2147483648) : nd N a = true ↔ ∃ i, i < N ∧ a = nI i := by
  unfold nd
  rw [decide_eq_true_eq]
  constructor
  · rintro ⟨h1, h2⟩
    refine ⟨a.toInt.toNat, by omega, ?_⟩
    apply Int32.toInt_inj.mp
    rw [nI_toInt (by omega)]
    omega
  · rintro ⟨i, h1, rfl⟩
    rw [nI_toInt (by omega)]
    omega
theorem nd_nI {N i : Nat} (h : i < N) (hh : N < 2147483648) : nd N (nI i) = true := (nd_of hh).mpr ⟨i, h, rfl⟩
theorem i32_toInt_nI {a : Nat} (h : a < 2147483648) : (nI a).toInt = (a : Int) := nI_toInt h
theorem i64_of (x : Int32) : x.toInt64.toInt = x.toInt := Int32.toInt_toInt64 x
theorem sp_150 {a b c : Int64} {h : hs_H} : hf_150 a b c h = some (bI (decide (b.toInt ≤ a.toInt ∧ a.toInt ≤ c.toInt)), h) := by
  unfold hf_150 hb_150_17 hb_150_18
  simp only [lg_cmp_lt, lg_cmp_gt, Int64.lt_iff_toInt_lt]
  by_cases h1 : a.toInt < b.toInt
  · rw [if_pos h1, decide_eq_false (by omega)]
    rfl
  · rw [if_neg h1]
    by_cases h2 : c.toInt < a.toInt
    · rw [if_pos h2, decide_eq_false (by omega)]
      rfl
    · rw [if_neg h2, decide_eq_true (by omega)]
      rfl
theorem sp_150r {a : Int32} {lo hi : Nat} {b c : Int64} {h : hs_H} (hb : b.toInt = (lo : Int)) (hc : c.toInt = (hi : Int)) : hf_150 a.toInt64 b c h = some (bI (rg lo hi a), h) := by
  rw [sp_150, i64_of, hb, hc]
  rfl
theorem nI_64 {n : Nat} (hn : n < 2147483648) : (nI n).toInt64.toInt = (n : Int) := by rw [i64_of, nI_toInt hn]
theorem lN_t {n : Nat} (hn : n < 2147483648) : (lN n).toInt = (n : Int) := lN_toInt hn
theorem sp_29 {o N : Nat} {a : Int32} {h : hs_H} (hN : h.1 4 o 1 = nI N) (hh : N < 2147483648) : hf_29 o a h = some (bI (nd N a), h) := by
  unfold hf_29 hb_29_16 hb_29_17
  rw [hN]
  unfold nd
  have hz : (a < 0) ↔ a.toInt < 0 := Int32.lt_iff_toInt_lt
  have hl : (nI N ≤ a) ↔ (N : Int) ≤ a.toInt := by rw [Int32.le_iff_toInt_le, nI_toInt hh]
  by_cases h1 : a < 0
  · rw [if_pos h1, decide_eq_false (by have := hz.mp h1; omega)]
    rfl
  · rw [if_neg h1]
    by_cases h2 : nI N ≤ a
    · rw [if_pos h2, decide_eq_false (by have := hl.mp h2; omega)]
      rfl
    · rw [if_neg h2, decide_eq_true (by
        have h3 : ¬ a.toInt < 0 := fun q => h1 (hz.mpr q)
        have h4 : ¬ (N : Int) ≤ a.toInt := fun q => h2 (hl.mpr q)
        omega)]
      rfl
theorem rg_nd {N : Nat} {a : Int32} (h1 : 1 ≤ N) : rg 0 (N - 1) a = nd N a := by
  unfold rg nd
  exact decide_eq_decide.mpr (by omega)
theorem sp_171 {N : Nat} {a : Int32} {h : hs_H} (hN : h.1 12 0 2 = nI N) (h1 : 1 ≤ N) (hh : N < 2147483648) : hf_171 a h = some (bI (nd N a), h) := by
  unfold hf_171
  rw [hN, pk_sub h1, sp_150r (lo := 0) (hi := N - 1) rfl (nI_64 (by omega)), rg_nd h1, Option.bind_some, bI_01]
  rfl
theorem sp_147 {a i : Nat} {h : hs_H} (ha : a < 2147483648) (hi : i < 32) : hf_147 (nI a) (nI i) h = some (bI (a.testBit i), h) := by
  unfold hf_147 hb_147_13
  rw [nx_bit ha hi]
  cases a.testBit i <;> rfl
theorem sp_31 {o N : Nat} {h : hs_H} (hN : h.1 4 o 1 = nI N) (hh : N < 32) : hf_31 o h = some (nI (2 ^ N - 1), h) := by
  unfold hf_31
  rw [hN, nx_shl1 hh, pk_sub (Nat.one_le_two_pow)]
theorem bv_lt (a : Int32) : a.toBitVec.toNat < 4294967296 := a.toBitVec.isLt
theorem nI_bv (a : Int32) : a = nI a.toBitVec.toNat := by
  apply Int32.toBitVec_inj.mp
  rw [nx_bv]
  apply BitVec.eq_of_toNat_eq
  rw [BitVec.toNat_ofNat]
  exact (Nat.mod_eq_of_lt (bv_lt a)).symm
/-- masks of N nodes -/
def nm (N : Nat) (a : Int32) : Bool := decide (a.toBitVec.toNat < 2 ^ N)
theorem nm_of {N : Nat} {a : Int32} (hh : N < 32) : nm N a = true ↔ ∃ i, i < 2 ^ N ∧ a = nI i := by
  unfold nm
  rw [decide_eq_true_eq]
  constructor
  · intro h
    exact ⟨_, h, nI_bv a⟩
  · rintro ⟨i, h1, rfl⟩
    have h2 : 2 ^ N ≤ 2 ^ 31 := Nat.pow_le_pow_right (by omega) (by omega)
    rw [nx_tn, Nat.mod_eq_of_lt (by omega)]
    exact h1
theorem nI_inj {a b : Nat} (ha : a < 4294967296) (hb : b < 4294967296) (h : nI a = nI b) : a = b := by
  have h1 := congrArg (fun x : Int32 => x.toBitVec.toNat) h
  have h1 : a % 4294967296 = b % 4294967296 := h1
  rw [Nat.mod_eq_of_lt ha, Nat.mod_eq_of_lt hb] at h1
  exact h1
theorem dif_mask {n N : Nat} (hn : n < 4294967296) (hN : N < 32) : dif n (2 ^ N - 1) = 0 ↔ n < 2 ^ N := by
  constructor
  · intro h
    apply Nat.lt_pow_two_of_testBit
    intro i hi
    have h1 : (dif n (2 ^ N - 1)).testBit i = false := by rw [h]; exact Nat.zero_testBit i
    rw [tb_dif hn, tb_mask, decide_eq_false (by omega)] at h1
    simpa using h1
  · intro h
    apply tb_ext
    intro i
    rw [tb_dif hn, tb_mask, Nat.zero_testBit]
    by_cases hi : i < N
    · simp [hi]
    · rw [tb_hi h (by omega)]
      rfl
theorem sp_30 {o N : Nat} {a : Int32} {h : hs_H} (hN : h.1 4 o 1 = nI N) (hh : N < 32) : hf_30 o a h = some (bI (nm N a), h) := by
  unfold hf_30 hb_30_16
  rw [sp_31 hN hh]
  show (if ¬ a &&& (nI (2 ^ N - 1) ^^^ nI 4294967295) = 0 then hs_ck (hs_b01 (nI 0)) (some (nI 0, h)) else hs_ck (hs_b01 (nI 1)) (some (nI 1, h))) = _
  have h1 : (a &&& (nI (2 ^ N - 1) ^^^ nI 4294967295) = 0) ↔ a.toBitVec.toNat < 2 ^ N := by
    conv => lhs; rw [nI_bv a]
    rw [nx_dif, ← nI_0, ← dif_mask (bv_lt a) hh]
    constructor
    · intro q
      exact nI_inj (Nat.lt_of_le_of_lt (dif_le _ _) (bv_lt a)) (by omega) q
    · intro q
      rw [q]
  unfold nm
  by_cases h2 : a.toBitVec.toNat < 2 ^ N
  · rw [if_neg (fun q => q (h1.mpr h2)), decide_eq_true h2]
    rfl
  · rw [if_pos (fun q => h2 (h1.mp q)), decide_eq_false h2]
    rfl
theorem rg_nm {N : Nat} {a : Int32} (hh : N < 31) : rg 0 (2 ^ N - 1) a = nm N a := by
  have h2 : 2 ^ N ≤ 2 ^ 30 := Nat.pow_le_pow_right (by omega) (by omega)
  have h3 : 1 ≤ 2 ^ N := Nat.one_le_two_pow
  apply Bool.eq_iff_iff.mpr
  rw [nm_of (by omega), rg_of (by omega)]
  constructor
  · rintro ⟨i, -, h, rfl⟩; exact ⟨i, by omega, rfl⟩
  · rintro ⟨i, h, rfl⟩; exact ⟨i, by omega, by omega, rfl⟩
theorem sp_204 {N : Nat} {a : Int32} {h : hs_H} (hN : h.1 12 0 2 = nI N) (hh : N < 31) : hf_204 a h = some (bI (nm N a), h) := by
  have h2 : 2 ^ N ≤ 2 ^ 30 := Nat.pow_le_pow_right (by omega) (by omega)
  have h3 : 1 ≤ 2 ^ N := Nat.one_le_two_pow
  unfold hf_204
  rw [hN, nx_shl1 (by omega), pk_sub h3, sp_150r (lo := 0) (hi := 2 ^ N - 1) rfl (nI_64 (by omega)), rg_nm hh, Option.bind_some, bI_01]
  rfl
theorem sp_32 {o : Nat} {J : Nat → Nat} {i : Nat} {h : hs_H} (hJ : ∀ k, k < 10 → h.1 27 o k = nI (J k)) (hi : i < 10) : hf_32 o (nI i) h = some (nI (J i), h) := by
  unfold hf_32 hb_32_20
  simp (disch := omega) only [hJ, nq_nf, nq_nt, nq_le_t, nq_le_f, nq_lt_t, nq_lt_f, nq_eq_t, nq_eq_f, nq_neg, nq_pos, nq_le0f, nq_le0t, nq_lt0t, nq_lt0f, nq_eq0f, nq_eq0t, nI_add, nI_clamp, nx_inb, nx_ck, Option.bind_some, nx_get, nx_get2, nx_dif, nx_or, bI_0, bI_01, bI_nt, bI_nf, if_true, if_false, ite_true, ite_false, not_true_eq_false, not_false_eq_true, and_true, true_and, and_false, false_and, Bool.false_eq_true, Bool.true_eq_false, reduceCtorEq]
theorem sp_33 {o : Nat} {J : Nat → Nat} {i j : Nat} {h : hs_H} (hJ : ∀ k, k < 10 → h.1 27 o k = nI (J k)) (hJb : J i < 2147483648) (hi : i < 10) (hj : j < 32) : hf_33 o (nI i) (nI j) h = some (bI ((J i).testBit j), h) := by
  unfold hf_33
  rw [sp_32 hJ hi, Option.bind_some, sp_147 hJb hj, Option.bind_some, bI_01]
  rfl
theorem sp_38 {o N re : Nat} {J : Nat → Nat} {i : Nat} {h : hs_H} (hN : h.1 4 o 1 = nI N) (hre : h.1 4 o 2 = nI re) (hJ : ∀ k, k < 10 → h.1 27 o k = nI (J k)) (hi : i < N) (hh : N ≤ 10) : hf_38 o (nI i) h = some (nI (J i ||| re * 2 ^ i), h) := by
  have hn : nd N (nI i) = true := by
    unfold nd
    rw [nI_toInt (by omega)]
    exact decide_eq_true (by omega)
  unfold hf_38 hb_38_24
  rw [sp_29 hN (by omega), Option.bind_some, hn]
  dsimp only
  rw [if_neg (by decide), sp_32 hJ (by omega), Option.bind_some]
  simp (disch := omega) only [hre, nx_shl, nq_nf, nq_nt, nq_le_t, nq_le_f, nq_lt_t, nq_lt_f, nq_eq_t, nq_eq_f, nq_neg, nq_pos, nq_le0f, nq_le0t, nq_lt0t, nq_lt0f, nq_eq0f, nq_eq0t, nI_add, nI_clamp, nx_inb, nx_ck, Option.bind_some, nx_get, nx_get2, nx_dif, nx_or, bI_0, bI_01, bI_nt, bI_nf, if_true, if_false, ite_true, ite_false, not_true_eq_false, not_false_eq_true, and_true, true_and, and_false, false_and, Bool.false_eq_true, Bool.true_eq_false, reduceCtorEq]
theorem sp_172 {J : Nat → Nat} {i j : Nat} {h : hs_H} (hJ : ∀ k, k < 10 → h.1 44 0 (0 + k) = nI (J k)) (hJb : J i < 2147483648) (hi : i < 10) (hj : j < 32) : hf_172 (nI i) (nI j) h = some (bI ((J i).testBit j), h) := by
  have hJ0 := hJ i hi
  rw [Nat.zero_add] at hJ0
  unfold hf_172 hb_172_19
  simp (disch := omega) only [hJ0, nx_bit, nq_nf, nq_nt, nq_le_t, nq_le_f, nq_lt_t, nq_lt_f, nq_eq_t, nq_eq_f, nq_neg, nq_pos, nq_le0f, nq_le0t, nq_lt0t, nq_lt0f, nq_eq0f, nq_eq0t, nI_add, nI_clamp, nx_inb, nx_ck, Option.bind_some, nx_get, nx_get2, nx_dif, nx_or, bI_0, bI_01, bI_nt, bI_nf, if_true, if_false, ite_true, ite_false, not_true_eq_false, not_false_eq_true, and_true, true_and, and_false, false_and, Bool.false_eq_true, Bool.true_eq_false, reduceCtorEq]
  cases (J i).testBit j <;> rfl
