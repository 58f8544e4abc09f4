/-! Casts: the model's row of casts. -/
section GR
variable (J : Nat → Nat) (N re k : Nat)
def hitc (S c : Nat) : Bool := decide (pcn 10 c = k ∧ fwe J N re k (nxs J N re (dif S c)) + 1 = fwe J N re k S)
/-- the least cast that gains a turn, of the last j -/
def lca (S : Nat) : Nat → Nat
  | 0 => 4294967292
  | j + 1 => if hitc J N re k S (2 ^ N - 1 - j) = true then 2 ^ N - 1 - j else lca S j
def lcc (S : Nat) : Nat := lca J N re k S (2 ^ N - 1)
def gsq (S : Nat) : Nat → Nat
  | 0 => S
  | t + 1 => nxs J N re (dif (gsq S t) (lcc J N re k (gsq S t)))
end GR
section CM
variable {J : Nat → Nat} {N re k : Nat}
theorem lca_spec {S : Nat} : ∀ j, j ≤ 2 ^ N - 1 → (lca J N re k S j = 4294967292 ∧ ∀ c, 2 ^ N - 1 - j < c → c < 2 ^ N → ¬ hitc J N re k S c = true) ∨ (hitc J N re k S (lca J N re k S j) = true ∧ 2 ^ N - 1 - j < lca J N re k S j ∧ lca J N re k S j < 2 ^ N ∧ ∀ c, 2 ^ N - 1 - j < c → c < lca J N re k S j → ¬ hitc J N re k S c = true) := by
  have h2 : 1 ≤ 2 ^ N := Nat.one_le_two_pow
  intro j
  induction j with
  | zero => intro _; exact Or.inl ⟨rfl, fun c h1 h3 => by omega⟩
  | succ j ih =>
    intro hj
    have ih := ih (by omega)
    by_cases c0 : hitc J N re k S (2 ^ N - 1 - j) = true
    · have e : lca J N re k S (j + 1) = 2 ^ N - 1 - j := if_pos c0
      rw [e]
      exact Or.inr ⟨c0, by omega, by omega, fun c q1 q2 => by omega⟩
    · have e : lca J N re k S (j + 1) = lca J N re k S j := if_neg c0
      rw [e]
      have low : ∀ c, 2 ^ N - 1 - (j + 1) < c → ¬ 2 ^ N - 1 - j < c → ¬ hitc J N re k S c = true := fun c q1 q2 => by
        rw [show c = 2 ^ N - 1 - j by omega]; exact c0
      rcases ih with ⟨q1, q2⟩ | ⟨q1, q2, q3, q4⟩
      · exact Or.inl ⟨q1, fun c w1 w2 => by
          by_cases w : 2 ^ N - 1 - j < c
          · exact q2 c w w2
          · exact low c w1 w⟩
      · exact Or.inr ⟨q1, by omega, q3, fun c w1 w2 => by
          by_cases w : 2 ^ N - 1 - j < c
          · exact q4 c w w2
          · exact low c w1 w⟩
theorem lcc_spec {S : Nat} (hN : N ≤ 10) (hJ : ∀ k, J k < 2 ^ N) (hre : re = 0 ∨ re = 1) (hk1 : 1 ≤ k) (hS : S < 2 ^ N) (h0 : S ≠ 0) (hD : fwe J N re k S ≠ 99999) : (pcn 10 (lcc J N re k S) = k ∧ fwe J N re k (nxs J N re (dif S (lcc J N re k S))) + 1 = fwe J N re k S) ∧ 0 < lcc J N re k S ∧ lcc J N re k S < 2 ^ N ∧ ∀ c, c < lcc J N re k S → ¬ (pcn 10 c = k ∧ fwe J N re k (nxs J N re (dif S c)) + 1 = fwe J N re k S) := by
  have h2 : 1 ≤ 2 ^ N := Nat.one_le_two_pow
  obtain ⟨c, hc, h3, h4⟩ := fwe_dn (k := k) hN hJ hre hS hD h0
  have hc0 : 0 < c := Nat.pos_of_ne_zero (fun w => by rw [w, pcn_z] at h3; omega)
  rcases lca_spec (J := J) (N := N) (re := re) (k := k) (S := S) (2 ^ N - 1) (Nat.le_refl _) with ⟨q1, q2⟩ | ⟨q1, q2, q3, q4⟩
  · exact absurd (decide_eq_true ⟨h3, h4⟩) (q2 c (by omega) hc)
  · refine ⟨of_decide_eq_true q1, by unfold lcc; omega, q3, fun x hx w => ?_⟩
    by_cases hx0 : x = 0
    · rw [hx0, pcn_z] at w; omega
    · exact q4 x (by omega) hx (decide_eq_true w)
theorem gsq_spec {S : Nat} (hN : N ≤ 10) (hJ : ∀ k, J k < 2 ^ N) (hre : re = 0 ∨ re = 1) (hk1 : 1 ≤ k) (hS : S < 2 ^ N) (hD : fwe J N re k S ≠ 99999) : ∀ t, t ≤ fwe J N re k S → gsq J N re k S t < 2 ^ N ∧ fwe J N re k (gsq J N re k S t) + t = fwe J N re k S := by
  intro t
  induction t with
  | zero => intro _; exact ⟨hS, Nat.add_zero _⟩
  | succ t ih =>
    intro ht
    obtain ⟨i1, i2⟩ := ih (by omega)
    have hb := (fwe_b (k := k) hN hJ hre hS).resolve_left hD
    have h0 : gsq J N re k S t ≠ 0 := fun q => by
      have := (fwe_0 (J := J) (N := N) (re := re) (k := k)).mpr q
      omega
    have sp := lcc_spec hN hJ hre hk1 i1 h0 (by omega)
    refine ⟨nxs_lt hJ hre _, ?_⟩
    show fwe J N re k (nxs J N re (dif (gsq J N re k S t) (lcc J N re k (gsq J N re k S t)))) + (t + 1) = _
    have := sp.1.2
    omega
theorem sp_210i {S j τ : Nat} {x3 : Int32} {H : hs_H} (k102 : Int32 × Int32 × Int32 × Int32 × Int32 × hs_H → Option (Int32 × hs_H)) (q : Int32 × Int32 × Int32 × Int32 × Int32 × Int32 × hs_H → Option (Int32 × hs_H)) (hN : N ≤ 10) (hJ : ∀ k, J k < 2 ^ N) (hre : re = 0 ∨ re = 1) (hS : S < 2 ^ N) (h0 : S ≠ 0) (hk : k ≤ 10) (cm : cmT J N re k H) (hj : j < 2 ^ N - 1) : hb_210_133 k102 q x3 (nI k) (nI S) (nI (lca J N re k S j)) (nI τ) (nI (2 ^ N - 1 - j)) H = q (x3, nI k, nI S, nI (lca J N re k S (j + 1)), nI τ, nI (2 ^ N - 1 - (j + 1)), H) := by
  have hp := p2_lt hN
  have hb := fwe_b (k := k) hN hJ hre hS
  have h00 : fwe J N re k S ≠ 0 := fun w => h0 (fwe_0.mp w)
  have hdl := dif_le S (2 ^ N - 1 - j)
  have hnl := nxs_lt hJ hre (dif S (2 ^ N - 1 - j))
  have hb2 := fwe_b (k := k) hN hJ hre hnl
  have eD : nI (2 ^ N - 1 - j) + dM = nI (2 ^ N - 1 - (j + 1)) := by rw [dM_1 (by omega) (by omega), Nat.sub_sub]
  have hpl := pcn_le (2 ^ N - 1 - j) 10
  have eL : lca J N re k S (j + 1) = if hitc J N re k S (2 ^ N - 1 - j) = true then 2 ^ N - 1 - j else lca J N re k S j := rfl
  rw [eL]
  have e168 : hb_210_168 k102 q x3 (nI k) (nI S) (nI (lca J N re k S j)) (nI τ) (nI (2 ^ N - 1 - j)) (nI (fwe J N re k (nxs J N re (dif S (2 ^ N - 1 - j))))) H = q (x3, nI k, nI S, nI (if hitc J N re k S (2 ^ N - 1 - j) = true then 2 ^ N - 1 - j else lca J N re k S j), nI τ, nI (2 ^ N - 1 - (j + 1)), H) := by
    unfold hb_210_168 hb_210_199 hb_210_201 hitc
    rw [sp_152 (by omega), Option.bind_some, dM_eq, eD]
    dsimp only
    by_cases c1 : pcn 10 (2 ^ N - 1 - j) = k
    · rw [if_neg (fun w => w (by rw [c1])), nx_inb (by omega) (by omega), nx_ck, nI_clamp (by omega), cm.2 S hS, pk_sub (by omega)]
      by_cases c2 : fwe J N re k (nxs J N re (dif S (2 ^ N - 1 - j))) + 1 = fwe J N re k S
      · rw [if_neg (fun w => w (by rw [← c2, Nat.add_sub_cancel])), decide_eq_true ⟨c1, c2⟩, if_pos rfl]
      · rw [if_pos (fun w => c2 (by have := nI_inj (by omega) (by omega) w; omega)), decide_eq_false (fun w => c2 w.2), if_neg Bool.false_ne_true]
    · rw [if_pos (fun w => c1 (nI_inj (by omega) (by omega) w)), decide_eq_false (fun w => c1 w.1), if_neg Bool.false_ne_true]
  unfold hb_210_133
  rw [if_neg (nI_nle (by omega) (by omega)), nx_dif]
  by_cases c : dif S (2 ^ N - 1 - j) = 0
  · rw [if_neg (fun w => w (by rw [c]; rfl))]
    rw [c, nxs_0, (fwe_0 (J := J) (N := N) (re := re) (k := k) (S := 0)).mpr rfl] at e168
    exact e168
  · rw [if_pos (nI_ne0 (by omega) (by omega)), nx_inb (by omega) (by omega), nx_ck, nI_clamp (by omega), cm.1 _ (by omega), nx_inb (by omega) (by omega), nx_ck, nI_clamp (by omega), cm.2 _ hnl]
    exact e168
theorem sp_210t {S τ : Nat} {x3 : Int32} {H : hs_H} (k102 : Int32 × Int32 × Int32 × Int32 × Int32 × hs_H → Option (Int32 × hs_H)) (hN : N ≤ 10) (hJ : ∀ k, J k < 2 ^ N) (hre : re = 0 ∨ re = 1) (hS : S < 2 ^ N) (h0 : S ≠ 0) (hk : k ≤ 10) (cm : cmT J N re k H) : hs_lp (fun k s => hb_210_133 k102 k s.1 s.2.1 s.2.2.1 s.2.2.2.1 s.2.2.2.2.1 s.2.2.2.2.2.1 s.2.2.2.2.2.2) hs_big (x3, nI k, nI S, nI 4294967292, nI τ, nI (2 ^ N - 1), H) = k102 (x3, nI k, nI (nxs J N re (dif S (lcc J N re k S))), nI (lcc J N re k S), nI (τ + 1), H) := by
  have hp := p2_lt hN
  have h2 : 1 ≤ 2 ^ N := Nat.one_le_two_pow
  refine lp_for (f := fun k s => hb_210_133 k102 k s.1 s.2.1 s.2.2.1 s.2.2.2.1 s.2.2.2.2.1 s.2.2.2.2.2.1 s.2.2.2.2.2.2) (st := fun j => (x3, nI k, nI S, nI (lca J N re k S j), nI τ, nI (2 ^ N - 1 - j), H)) (e := 2 ^ N - 1) (fun j hj q => sp_210i k102 q hN hJ hre hS h0 hk cm hj) (fun q => ?_) 0 hs_big (Nat.zero_le _) (lp_big (by omega))
  show hb_210_133 k102 q x3 (nI k) (nI S) (nI (lcc J N re k S)) (nI τ) (nI (2 ^ N - 1 - (2 ^ N - 1))) H = _
  have hdl := dif_le S (lcc J N re k S)
  unfold hb_210_133 hb_210_235
  rw [Nat.sub_self, if_pos (by decide), nx_dif, nI_add]
  by_cases c : dif S (lcc J N re k S) = 0
  · rw [if_neg (fun w => w (by rw [c]; rfl)), c, nxs_0]
  · rw [if_pos (nI_ne0 (by omega) (by omega)), nx_inb (by omega) (by omega), nx_ck, nI_clamp (by omega), cm.1 _ (by omega)]
/-- the answer for turn t -/
def cst (J : Nat → Nat) (N re k S t : Nat) : Nat := if t < fwe J N re k S then lcc J N re k (gsq J N re k S t) else 4294967292
theorem sp_210g {S t : Nat} {H : hs_H} (hN : N ≤ 10) (hJ : ∀ k, J k < 2 ^ N) (hre : re = 0 ∨ re = 1) (hk1 : 1 ≤ k) (hk : k ≤ 10) (hS : S < 2 ^ N) (hD : fwe J N re k S ≠ 99999) (ht : t < 1024) (cm : cmT J N re k H) (hN1 : H.1 12 0 2 = nI N) : hb_210_90 (nI S) (nI (10 + t)) (nI k) H = some (nI (cst J N re k S t), H) := by
  have hp := p2_lt hN
  have h2 : 1 ≤ 2 ^ N := Nat.one_le_two_pow
  have hb := (fwe_b (k := k) hN hJ hre hS).resolve_left hD
  have e10 : nI (10 + t) - nI 10 = nI t := by rw [pk_sub (by omega), Nat.add_sub_cancel_left]
  unfold hb_210_90
  refine lp_q2 (f := fun k s => hb_210_102 k s.1 s.2.1 s.2.2.1 s.2.2.2.1 s.2.2.2.2.1 s.2.2.2.2.2) (I := fun d q => ∃ τ fo, τ ≤ fwe J N re k S ∧ τ ≤ t + 1 ∧ d = t + 1 - τ ∧ (0 < τ → fo = cst J N re k S (τ - 1)) ∧ q = (nI (10 + t), nI k, nI (gsq J N re k S τ), nI fo, nI τ, H)) (Q := fun o => o = some (nI (cst J N re k S t), H)) (fun d q hI k102 => ?_) (t + 1) _ hs_big ⟨0, 4294967292, Nat.zero_le _, by omega, rfl, fun w => absurd w (Nat.lt_irrefl _), rfl⟩ (lp_big (by omega))
  obtain ⟨τ, fo, h3, h4, rfl, h5, rfl⟩ := hI
  obtain ⟨g1, g2⟩ := gsq_spec hN hJ hre hk1 hS hD τ h3
  by_cases c1 : τ = t + 1
  · refine Or.inl ?_
    show hb_210_102 k102 (nI (10 + t)) (nI k) (nI (gsq J N re k S τ)) (nI fo) (nI τ) H = _
    unfold hb_210_102
    rw [e10, if_pos (nI_lt (by omega) (by omega)), h5 (by omega), show τ - 1 = t by omega]
  · by_cases c2 : gsq J N re k S τ = 0
    · refine Or.inl ?_
      show hb_210_102 k102 (nI (10 + t)) (nI k) (nI (gsq J N re k S τ)) (nI fo) (nI τ) H = _
      have := (fwe_0 (J := J) (N := N) (re := re) (k := k)).mpr c2
      unfold hb_210_102 cst
      rw [e10, if_neg (nI_nlt (by omega) (by omega)), c2, if_neg (fun w => w rfl), if_neg (by omega)]
    · have h00 : fwe J N re k (gsq J N re k S τ) ≠ 0 := fun w => c2 (fwe_0.mp w)
      refine Or.inr ⟨t + 1 - (τ + 1), (nI (10 + t), nI k, nI (gsq J N re k S (τ + 1)), nI (lcc J N re k (gsq J N re k S τ)), nI (τ + 1), H), by omega, ⟨τ + 1, _, by omega, by omega, rfl, fun _ => ?_, rfl⟩, ?_⟩
      · unfold cst
        rw [Nat.add_sub_cancel, if_pos (by omega)]
      · show hb_210_102 k102 (nI (10 + t)) (nI k) (nI (gsq J N re k S τ)) (nI fo) (nI τ) H = _
        unfold hb_210_102
        rw [e10, if_neg (nI_nlt (by omega) (by omega)), if_pos (nI_ne0 (by omega) (by omega)), hN1, nx_shl1 (by omega), pk_sub h2]
        exact sp_210t k102 hN hJ hre g1 c2 hk cm
end CM
theorem bmod64 {x : Int} (h1 : -9223372036854775808 ≤ x) (h2 : x < 9223372036854775808) : x.bmod (2 ^ 64) = x := by
  unfold Int.bmod
  have e : ((2 ^ 64 : Nat) : Int) = 18446744073709551616 := by decide
  simp only [e]
  split <;> omega
theorem l_sub10 (a : Int32) : (a.toInt64 - lN 10).toInt = a.toInt - 10 := by
  have h1 := Int32.toInt_lt a
  have h2 := Int32.le_toInt a
  rw [Int64.toInt_sub, i64_of, lN_t (by omega)]
  exact bmod64 (by omega) (by omega)
theorem sp_146 {m : Nat} {x : Int64} {h : hs_H} (hm : m < 2147483648) : hf_146 (nI m) x h = some (bI (decide (0 ≤ x.toInt ∧ x.toInt ≤ (m : Int))), h) := by
  unfold hf_146 hb_146_17 hb_146_18
  simp only [lg_cmp_lt, lg_cmp_gt, Int64.lt_iff_toInt_lt]
  rw [i64_of, nI_toInt hm, lN_t (by omega)]
  by_cases h1 : x.toInt < (0 : Nat)
  · rw [if_pos h1, decide_eq_false (by omega)]
    rfl
  · rw [if_neg h1]
    by_cases h2 : (m : Int) < x.toInt
    · rw [if_pos h2, decide_eq_false (by omega)]
      rfl
    · rw [if_neg h2, decide_eq_true (by omega)]
      rfl
theorem sp_146m {m : Nat} {a : Int32} {h : hs_H} (hm : m < 2147483000) : hf_146 (nI m) (a.toInt64 - lN 10) h = some (bI (rg 10 (10 + m) a), h) := by
  rw [sp_146 (by omega), l_sub10]
  have e : decide (0 ≤ a.toInt - 10 ∧ a.toInt - 10 ≤ (m : Int)) = rg 10 (10 + m) a := by
    unfold rg
    exact decide_eq_decide.mpr (by omega)
  rw [e]
