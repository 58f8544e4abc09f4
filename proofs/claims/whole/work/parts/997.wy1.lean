/-! Ways that fit: the model's small functions. -/
/-- the first m of what was smelt say so of turn t -/
def fitB (tn nn gn : Nat → Nat) (t : Nat) (s : Nat → Nat) : Nat → Bool
  | 0 => true
  | m + 1 => fitB tn nn gn t s m && (!decide (tn m = t) || decide (s (nn m) = gn m))
theorem fitB_iff {tn nn gn : Nat → Nat} {t : Nat} {s : Nat → Nat} : ∀ m, fitB tn nn gn t s m = true ↔ ∀ k, k < m → tn k = t → s (nn k) = gn k := by
  intro m
  induction m with
  | zero => exact ⟨fun _ k hk => absurd hk (Nat.not_lt_zero _), fun _ => rfl⟩
  | succ m ih =>
    show (fitB tn nn gn t s m && (!decide (tn m = t) || decide (s (nn m) = gn m))) = true ↔ _
    rw [Bool.and_eq_true, ih, Bool.or_eq_true, Bool.not_eq_true', decide_eq_false_iff_not, decide_eq_true_eq]
    constructor
    · rintro ⟨h1, h2⟩ k hk ht
      by_cases e : k = m
      · rw [e] at ht ⊢
        rcases h2 with w | w
        · exact absurd ht w
        · exact w
      · exact h1 k (by omega) ht
    · intro h
      refine ⟨fun k hk => h k (by omega), ?_⟩
      by_cases e : tn m = t
      · exact Or.inr (h m (by omega) e)
      · exact Or.inl e
section WY
variable (J : Nat → Nat) (N re W m : Nat) (tn nn gn : Nat → Nat)
/-- the fitting ways of r more turns, behind turn t at node a with smells s -/
def wyF : Nat → Nat → Nat → (Nat → Nat) → List (List Nat)
  | 0, _, _, _ => [[]]
  | r + 1, t, a, s => (List.range N).flatMap (fun i => if ((mvs J re a).testBit i && fitB tn nn gn (t + 1) (passS W s i) m) = true then (wyF r (t + 1) i (passS W s i)).map (fun l => i :: l) else [])
/-- where he may begin -/
def bgn (st : Int32) (i : Nat) : Bool := decide (st = nI 4294967292 ∨ st = nI i)
/-- the fitting ways of n turns: n + 1 nodes each -/
def wyA (st : Int32) (n : Nat) : List (List Nat) := (List.range N).flatMap (fun i => if (bgn st i && fitB tn nn gn 0 (passS W (fun _ => 0) i) m) = true then (wyF J N re W m tn nn gn n 0 i (passS W (fun _ => 0) i)).map (fun l => i :: l) else [])
end WY
theorem sp_190 {N t m z : Nat} {tn nn gn : Nat → Nat} {s : Nat → Nat} {h : hs_H} (hN2 : N ≤ 10) (ht : t ≤ 5) (hz : z ≤ 10) (hm : m ≤ z) (ok : ∀ k, k < z → tn k ≤ 5 ∧ nn k < N ∧ gn k ≤ 18) (hS : ∀ k, k < z → h.1 44 0 (24 + 3 * k) = nI (tn k) ∧ h.1 44 0 (25 + 3 * k) = nI (nn k) ∧ h.1 44 0 (26 + 3 * k) = nI (gn k)) (hs : ∀ k, s k ≤ 18) (hw : ∀ k, k < N → h.1 50 0 (10 * t + k) = nI (s k)) : hf_190 (nI t) (nI m) h = some (bI (fitB tn nn gn t s m), h) := by
  unfold hf_190
  refine lp_for (f := fun k s => hb_190_5 k s.1 s.2.1 s.2.2.1 s.2.2.2.1 s.2.2.2.2) (st := fun j => (nI t, nI m, bI (fitB tn nn gn t s j), nI j, h)) (e := m) (fun j hj k => ?_) (fun k => ?_) 0 hs_big (by omega) (lp_big (by omega))
  · show hb_190_5 k (nI t) (nI m) (bI (fitB tn nn gn t s j)) (nI j) h = k (nI t, nI m, bI (fitB tn nn gn t s j && (!decide (tn j = t) || decide (s (nn j) = gn j))), nI (j + 1), h)
    obtain ⟨o1, o2, o3⟩ := ok j (by omega)
    obtain ⟨q1, q2, q3⟩ := hS j (by omega)
    have hsn := hs (nn j)
    unfold hb_190_5 hb_190_70 hb_190_66 hb_190_71
    rw [if_neg (nI_ge hj (by omega)), pk_mul, nI_add, nI_add, nI_add, nI_add, show 24 + 3 * j + 1 = 25 + 3 * j by omega, show 24 + 3 * j + 2 = 26 + 3 * j by omega, nx_inb (show 24 + 3 * j < 162 by omega) (by omega), nx_ck, nI_clamp (show 24 + 3 * j < 2147483648 by omega), q1, nx_inb (show 25 + 3 * j < 162 by omega) (by omega), nx_ck, nI_clamp (show 25 + 3 * j < 2147483648 by omega), q2, pk_mul, nI_add, nx_inb (show 10 * t + nn j < 60 by omega) (by omega), nx_ck, nI_clamp (show 10 * t + nn j < 2147483648 by omega), hw (nn j) o2, nx_inb (show 26 + 3 * j < 162 by omega) (by omega), nx_ck, nI_clamp (show 26 + 3 * j < 2147483648 by omega), q3]
    cases fitB tn nn gn t s j with
    | false => rw [if_pos (show bI false = 0 by decide)]; rfl
    | true =>
      rw [if_neg (show ¬ bI true = 0 by decide), Bool.true_and]
      by_cases c1 : tn j = t
      · rw [if_neg (fun w => w (by rw [c1])), decide_eq_true c1, Bool.not_true, Bool.false_or]
        by_cases c2 : s (nn j) = gn j
        · rw [if_neg (fun w => w (by rw [c2])), decide_eq_true c2]; rfl
        · rw [if_pos (fun w => c2 (nI_inj (by omega) (by omega) w)), decide_eq_false c2]; rfl
      · rw [if_pos (fun w => c1 (nI_inj (by omega) (by omega) w)), decide_eq_false c1]; rfl
  · show hb_190_5 k (nI t) (nI m) (bI (fitB tn nn gn t s m)) (nI m) h = _
    unfold hb_190_5
    rw [if_pos (nI_le (Nat.le_refl _) (by omega)), bI_01, nx_ck]
theorem sp_191 {i : Nat} {st : Int32} {h : hs_H} (hst : h.1 44 0 10 = st) : hf_191 (nI i) h = some (bI (bgn st i), h) := by
  unfold hf_191 hb_191_23 hb_191_28 bgn
  rw [nx_inb (show 10 < 162 by omega) (by omega), nx_ck, nx_ck, nI_clamp (show 10 < 2147483648 by omega), hst]
  by_cases c1 : st = nI 4294967292
  · rw [if_pos c1, decide_eq_true (Or.inl c1)]; rfl
  · rw [if_neg c1]
    by_cases c2 : st = nI i
    · rw [if_neg (fun w => w c2), decide_eq_true (Or.inr c2)]; rfl
    · rw [if_pos c2, decide_eq_false (fun w => w.elim c1 c2)]; rfl
theorem sp_194 {a : Int32} {h : hs_H} : hf_194 a h = some (bI (rg 0 5 a), h) := by
  unfold hf_194
  rw [sp_150r (lo := 0) (hi := 5) rfl rfl, Option.bind_some, bI_01]
  rfl
