/-! Numbers, bits, loops. -/
theorem nx_inb {a n : Nat} (h : a < n) (hn : n < 2147483648) : hs_inb (nI a) n = true := hs_inb_iff.mpr (vp_in_nI h hn)
theorem nx_ck {α : Type} {x : Option α} : hs_ck true x = x := rfl
theorem nx_b01 {b : Bool} : hs_b01 (bif b then nI 1 else nI 0) = true := by cases b <;> decide
def bI (b : Bool) : Int32 := bif b then nI 1 else nI 0
theorem bI_0 {b : Bool} : (bI b = 0) ↔ b = false := by cases b <;> decide
theorem bI_01 {b : Bool} : hs_b01 (bI b) = true := by cases b <;> decide
theorem bI_t : nI 1 = bI true := rfl
theorem bI_f : nI 0 = bI false := rfl
theorem nx_get (h : hs_H) (c i k : Nat) (x : Int32) (c' i' k' : Nat) : (hs_put h c i k x).1 c' i' k' = if c' = c ∧ i' = i ∧ k' = k then x else h.1 c' i' k' := by
  by_cases h1 : (c', i') = (c, i)
  · cases h1
    rw [hs_put_eq]
    unfold upd
    by_cases h2 : k' = k
    · rw [if_pos h2, if_pos ⟨rfl, rfl, h2⟩]
    · rw [if_neg h2, if_neg (fun q => h2 q.2.2)]
  · rw [hs_put_ne h1, if_neg (fun q => h1 (by rw [q.1, q.2.1]))]
theorem nx_get2 (h : hs_H) (c i k : Nat) (x : Int32) : (hs_put h c i k x).2 = h.2 := rfl
theorem nx_bv (a : Nat) : (nI a).toBitVec = BitVec.ofNat 32 a := rfl
theorem nx_and (a b : Nat) : nI a &&& nI b = nI (a &&& b) := by
  apply Int32.toBitVec_inj.mp
  rw [Int32.toBitVec_and, nx_bv, nx_bv, nx_bv]
  apply BitVec.eq_of_getLsbD_eq
  intro i hi
  simp [BitVec.getLsbD_and, BitVec.getLsbD_ofNat, Nat.testBit_and, hi]
theorem nx_or (a b : Nat) : nI a ||| nI b = nI (a ||| b) := by
  apply Int32.toBitVec_inj.mp
  rw [Int32.toBitVec_or, nx_bv, nx_bv, nx_bv]
  apply BitVec.eq_of_getLsbD_eq
  intro i hi
  simp [BitVec.getLsbD_or, BitVec.getLsbD_ofNat, Nat.testBit_or, hi]
theorem nx_xor (a b : Nat) : nI a ^^^ nI b = nI (a ^^^ b) := by
  apply Int32.toBitVec_inj.mp
  rw [Int32.toBitVec_xor, nx_bv, nx_bv, nx_bv]
  apply BitVec.eq_of_getLsbD_eq
  intro i hi
  simp [BitVec.getLsbD_xor, BitVec.getLsbD_ofNat, Nat.testBit_xor, hi]
theorem nx_sh : ∀ b, b < 32 → ((nI b &&& 31).toBitVec.smod 32).toNat = b := by decide +kernel
theorem nx_tn (a : Nat) : (nI a).toBitVec.toNat = a % 4294967296 := rfl
theorem nx_shl (a : Nat) {b : Nat} (hb : b < 32) : nI a <<< (nI b &&& 31) = nI (a * 2 ^ b) := by
  apply Int32.toBitVec_inj.mp
  apply BitVec.eq_of_toNat_eq
  rw [pk_shl _ _ b (nx_sh b hb), nx_tn, nx_tn]
  exact Nat.mod_mul_mod a (2 ^ b) 4294967296
theorem nx_shl1 {b : Nat} (hb : b < 32) : nI 1 <<< (nI b &&& 31) = nI (2 ^ b) := by rw [nx_shl 1 hb, Nat.one_mul]
theorem nx_shr {a b : Nat} (ha : a < 2147483648) (hb : b < 32) : nI a >>> (nI b &&& 31) = nI (a / 2 ^ b) := pk_shrN ha _ b (nx_sh b hb)
theorem nx_bit {a b : Nat} (ha : a < 2147483648) (hb : b < 32) : (nI a >>> (nI b &&& 31)) &&& nI 1 = bI (a.testBit b) := by
  rw [nx_shr ha hb, nx_and, Nat.and_one_is_mod]
  have h : a.testBit b = decide (a / 2 ^ b % 2 = 1) := Nat.testBit_eq_decide_div_mod_eq
  rw [h]
  rcases Nat.mod_two_eq_zero_or_one (a / 2 ^ b) with h2 | h2 <;> rw [h2] <;> rfl
/-- without the bits of b -/
def dif (a b : Nat) : Nat := a &&& (b ^^^ 4294967295)
theorem nx_dif (a b : Nat) : nI a &&& (nI b ^^^ nI 4294967295) = nI (dif a b) := by rw [nx_xor, nx_and]; rfl
theorem tb_full : ∀ i, i < 32 → (4294967295 : Nat).testBit i = true := by decide +kernel
theorem tb_hi {a i n : Nat} (ha : a < 2 ^ n) (hi : n ≤ i) : a.testBit i = false := Nat.testBit_lt_two_pow (Nat.lt_of_lt_of_le ha (Nat.pow_le_pow_right (by omega) hi))
theorem tb_dif {a b : Nat} (ha : a < 4294967296) (i : Nat) : (dif a b).testBit i = (a.testBit i && !b.testBit i) := by
  unfold dif
  rw [Nat.testBit_and, Nat.testBit_xor]
  by_cases hi : i < 32
  · rw [tb_full i hi, Bool.xor_true]
  · rw [tb_hi (n := 32) ha (by omega)]
    rfl
theorem dif_le (a b : Nat) : dif a b ≤ a := Nat.and_le_left
theorem tb_pow (n i : Nat) : (2 ^ n).testBit i = decide (n = i) := Nat.testBit_two_pow
theorem tb_mask (n i : Nat) : (2 ^ n - 1).testBit i = decide (i < n) := Nat.testBit_two_pow_sub_one n i
theorem or_lt {a b n : Nat} (ha : a < 2 ^ n) (hb : b < 2 ^ n) : a ||| b < 2 ^ n := Nat.or_lt_two_pow ha hb
theorem and_lt {a n : Nat} (b : Nat) (ha : a < 2 ^ n) : a &&& b < 2 ^ n := Nat.lt_of_le_of_lt Nat.and_le_left ha
theorem tb_ext {a b : Nat} (h : ∀ i, a.testBit i = b.testBit i) : a = b := Nat.eq_of_testBit_eq h
/-- how many bits, of the first n -/
def pcn : Nat → Nat → Nat
  | 0, _ => 0
  | n + 1, x => pcn n x + (x.testBit n).toNat
theorem pcn_le (x : Nat) : ∀ n, pcn n x ≤ n := by
  intro n
  induction n with
  | zero => exact Nat.le_refl _
  | succ n ih =>
    show pcn n x + (x.testBit n).toNat ≤ n + 1
    have := Bool.toNat_le (x.testBit n)
    omega
/-- a loop -/
theorem lp_q {α β : Type} {f : (α → Option β) → α → Option β} {I : Nat → α → Prop} {Q : Option β → Prop} (step : ∀ d s, I d s → (∀ k, Q (f k s)) ∨ ∃ d' s', d' < d ∧ I d' s' ∧ ∀ k, f k s = k s') : ∀ (d : Nat) (s : α) (n : Nat), I d s → d < n → Q (hs_lp f n s) := by
  intro d
  induction d using Nat.strongRecOn with
  | ind d ih =>
    intro s n hI hn
    match n, hn with
    | n + 1, hn =>
      show Q (f (hs_lp f n) s)
      rcases step d s hI with h | ⟨d', s', hd, hI', he⟩
      · exact h _
      · rw [he]
        exact ih d' hd s' n hI' (by omega)
theorem lp_for {α β : Type} {f : (α → Option β) → α → Option β} (st : Nat → α) {e : Nat} {X : Option β} (hs : ∀ i, i < e → ∀ k, f k (st i) = k (st (i + 1))) (hx : ∀ k, f k (st e) = X) : ∀ (i n : Nat), i ≤ e → e - i < n → hs_lp f n (st i) = X := by
  intro i n hi hn
  refine lp_q (I := fun d s => ∃ i, i ≤ e ∧ d = e - i ∧ s = st i) (Q := fun o => o = X) (fun d s hI => ?_) (e - i) (st i) n ⟨i, hi, rfl, rfl⟩ hn
  obtain ⟨j, hj, rfl, rfl⟩ := hI
  by_cases hje : j = e
  · subst hje
    exact Or.inl hx
  · exact Or.inr ⟨e - (j + 1), st (j + 1), by omega, ⟨j + 1, by omega, rfl, rfl⟩, hs j (by omega)⟩
theorem lp_big {d : Nat} (h : d < 1000000) : d < hs_big := by unfold hs_big; omega
/-- a row written as far as n -/
def hs_row (h : hs_H) (c i n : Nat) (f : Nat → Int32) : hs_H := (fun a => if a = c then (fun b => if b = i then (fun k => if k < n then f k else h.1 c i k) else h.1 c b) else h.1 a, h.2)
theorem nx_rowget (h : hs_H) (c i n : Nat) (f : Nat → Int32) (c' i' k' : Nat) : (hs_row h c i n f).1 c' i' k' = if c' = c ∧ i' = i ∧ k' < n then f k' else h.1 c' i' k' := by
  show (if c' = c then (fun b => if b = i then (fun k => if k < n then f k else h.1 c i k) else h.1 c b) else h.1 c') i' k' = _
  by_cases h1 : c' = c
  · subst h1
    rw [if_pos rfl]
    show (if i' = i then (fun k => if k < n then f k else h.1 c' i k) else h.1 c' i') k' = _
    by_cases h2 : i' = i
    · subst h2
      rw [if_pos rfl]
      show (if k' < n then f k' else h.1 c' i' k') = _
      by_cases h3 : k' < n
      · rw [if_pos h3, if_pos ⟨rfl, rfl, h3⟩]
      · rw [if_neg h3, if_neg (fun q => h3 q.2.2)]
    · rw [if_neg h2, if_neg (fun q => h2 q.2.1)]
  · rw [if_neg h1, if_neg (fun q => h1 q.1)]
theorem hs_ext {h h' : hs_H} (h1 : ∀ c i k, h.1 c i k = h'.1 c i k) (h2 : h.2 = h'.2) : h = h' := Prod.ext (funext fun c => funext fun i => funext fun k => h1 c i k) h2
theorem hs_row0 (h : hs_H) (c i : Nat) (f : Nat → Int32) : hs_row h c i 0 f = h := hs_ext (fun c' i' k' => by rw [nx_rowget, if_neg (fun q => Nat.not_lt_zero _ q.2.2)]) rfl
theorem hs_rowS (h : hs_H) (c i n : Nat) (f : Nat → Int32) : hs_put (hs_row h c i n f) c i n (f n) = hs_row h c i (n + 1) f := hs_ext (fun c' i' k' => by
  rw [nx_get, nx_rowget, nx_rowget]
  by_cases h1 : c' = c ∧ i' = i ∧ k' = n
  · rw [if_pos h1, if_pos ⟨h1.1, h1.2.1, by omega⟩, h1.2.2]
  · rw [if_neg h1]
    by_cases h2 : c' = c ∧ i' = i ∧ k' < n
    · rw [if_pos h2, if_pos ⟨h2.1, h2.2.1, by omega⟩]
    · rw [if_neg h2, if_neg (fun q => ?_)]
      by_cases h3 : k' = n
      · exact h1 ⟨q.1, q.2.1, h3⟩
      · exact h2 ⟨q.1, q.2.1, by omega⟩) rfl
