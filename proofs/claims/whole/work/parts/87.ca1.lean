/-! Casts: what can be won, in how many turns. -/
theorem tb_stpA {J : Nat → Nat} {re m t : Nat} : ∀ n, (stpA J re m n).testBit t = true ↔ ∃ i, i < n ∧ m.testBit i = true ∧ (stp J re i).testBit t = true := by
  intro n
  induction n with
  | zero =>
    refine ⟨fun q => ?_, fun ⟨j, h, _⟩ => absurd h (Nat.not_lt_zero _)⟩
    have : (0 : Nat).testBit t = true := q
    rw [Nat.zero_testBit] at this
    cases this
  | succ n ih =>
    by_cases hb : m.testBit n = true
    · have e : stpA J re m (n + 1) = stpA J re m n ||| stp J re n := if_pos hb
      rw [e, Nat.testBit_or, Bool.or_eq_true, ih]
      constructor
      · rintro (⟨i, h1, h2⟩ | h)
        · exact ⟨i, by omega, h2⟩
        · exact ⟨n, by omega, hb, h⟩
      · rintro ⟨i, h1, h2, h3⟩
        by_cases hi : i = n
        · subst hi
          exact Or.inr h3
        · exact Or.inl ⟨i, by omega, h2, h3⟩
    · have e : stpA J re m (n + 1) = stpA J re m n := if_neg hb
      rw [e, ih]
      constructor
      · rintro ⟨i, h1, h2⟩
        exact ⟨i, by omega, h2⟩
      · rintro ⟨i, h1, h2, h3⟩
        by_cases hi : i = n
        · subst hi
          exact absurd h2 hb
        · exact ⟨i, by omega, h2, h3⟩
/-- a is within b -/
def wi (a b : Nat) : Prop := ∀ i, a.testBit i = true → b.testBit i = true
theorem wi_le {a b : Nat} (h : wi a b) : a ≤ b := by
  have e : a &&& b = a := tb_ext fun i => by
    rw [Nat.testBit_and]
    cases ha : a.testBit i with
    | false => rfl
    | true => rw [h i ha]; rfl
  rw [← e]
  exact Nat.and_le_right
theorem pcn_add {a j : Nat} (h : a.testBit j = false) : ∀ n, pcn n (a ||| 2 ^ j) = pcn n a + (if j < n then 1 else 0) := by
  intro n
  induction n with
  | zero => rfl
  | succ n ih =>
    show pcn n (a ||| 2 ^ j) + ((a ||| 2 ^ j).testBit n).toNat = pcn n a + (a.testBit n).toNat + _
    rw [ih, Nat.testBit_or, tb_pow]
    by_cases e : j = n
    · subst e
      rw [h, decide_eq_true rfl, if_neg (Nat.lt_irrefl _), if_pos (by omega)]
      rfl
    · rw [decide_eq_false e, Bool.or_false]
      by_cases c : j < n
      · rw [if_pos c, if_pos (by omega)]; omega
      · rw [if_neg c, if_neg (by omega)]; omega
theorem pcn_wi_eq {a b : Nat} (hb : b < 2 ^ 10) (h : wi a b) (e : pcn 10 b ≤ pcn 10 a) : a = b := by
  apply Classical.byContradiction
  intro hne
  obtain ⟨j, h1, h2⟩ := tb_new h (fun q => hne q.symm)
  have := pcn_lt h h1 h2 10 (tb_in hb h2)
  omega
/-- a set of k between two -/
theorem between {a b k : Nat} (hb : b < 2 ^ 10) (h : wi a b) (h1 : pcn 10 a ≤ k) (h2 : k ≤ pcn 10 b) : ∃ c, wi a c ∧ wi c b ∧ pcn 10 c = k := by
  have key : ∀ d a, wi a b → pcn 10 a + d = k → ∃ c, wi a c ∧ wi c b ∧ pcn 10 c = k := by
    intro d
    induction d with
    | zero => intro a ha e; exact ⟨a, fun _ q => q, ha, e⟩
    | succ d ih =>
      intro a ha e
      have hne : b ≠ a := fun q => by rw [q] at h2; omega
      obtain ⟨j, hj1, hj2⟩ := tb_new ha hne
      have hj3 := tb_in hb hj2
      have hp := pcn_add hj1 10
      rw [if_pos hj3] at hp
      have hor : ∀ i, (a ||| 2 ^ j).testBit i = true ↔ a.testBit i = true ∨ i = j := fun i => by
        rw [Nat.testBit_or, Bool.or_eq_true, tb_pow, decide_eq_true_eq]
        exact ⟨fun q => q.imp id (fun w => w.symm), fun q => q.imp id (fun w => w.symm)⟩
      obtain ⟨c, q1, q2, q3⟩ := ih (a ||| 2 ^ j) (fun i q => by
        rcases (hor i).mp q with w | w
        · exact ha i w
        · rw [w]; exact hj2) (by omega)
      exact ⟨c, fun i q => q1 i ((hor i).mpr (Or.inl q)), q2, q3⟩
  exact key (k - pcn 10 a) a h (by omega)
section CA
variable {J : Nat → Nat} {N re k : Nat}
def nxs (J : Nat → Nat) (N re S : Nat) : Nat := stpA J re S N
theorem nxs_mono {a b : Nat} (h : wi a b) : wi (nxs J N re a) (nxs J N re b) := fun t q => by
  obtain ⟨i, hi, h1, h2⟩ := (tb_stpA N).mp q
  exact (tb_stpA N).mpr ⟨i, hi, h i h1, h2⟩
theorem nxs_lt (hJ : ∀ k, J k < 2 ^ N) (hre : re = 0 ∨ re = 1) (S : Nat) : nxs J N re S < 2 ^ N := stpA_lt hJ hre N (Nat.le_refl _)
theorem nxs_0 : nxs J N re 0 = 0 := tb_ext fun t => by
  rw [Nat.zero_testBit]
  apply eq_false_of_ne_true
  intro q
  obtain ⟨i, hi, h1, h2⟩ := (tb_stpA N).mp q
  rw [Nat.zero_testBit] at h1
  cases h1
theorem nxs_ne {S : Nat} (hJ : ∀ k, J k < 2 ^ N) (hre : re = 0 ∨ re = 1) (hS : S < 2 ^ N) (h : S ≠ 0) : nxs J N re S ≠ 0 := by
  obtain ⟨i, hi⟩ := tb_ne0 h
  have hiN := tb_in hS hi
  obtain ⟨t, ht, ht2⟩ := stp_ne0 hJ hre hiN
  intro q
  have : (nxs J N re S).testBit t = true := (tb_stpA N).mpr ⟨i, hiN, hi, ht2⟩
  rw [q, Nat.zero_testBit] at this
  cases this
/-- won in n casts of k -/
def win (J : Nat → Nat) (N re k : Nat) : Nat → Nat → Bool
  | 0, S => decide (S = 0)
  | n + 1, S => win J N re k n S || (List.range (2 ^ N)).any (fun c => decide (pcn 10 c = k) && win J N re k n (nxs J N re (dif S c)))
theorem win_S {n S : Nat} : win J N re k (n + 1) S = true ↔ win J N re k n S = true ∨ ∃ c, c < 2 ^ N ∧ pcn 10 c = k ∧ win J N re k n (nxs J N re (dif S c)) = true := by
  show (win J N re k n S || (List.range (2 ^ N)).any (fun c => decide (pcn 10 c = k) && win J N re k n (nxs J N re (dif S c)))) = true ↔ _
  rw [Bool.or_eq_true, List.any_eq_true]
  constructor
  · rintro (h | ⟨c, hc, h⟩)
    · exact Or.inl h
    · rw [Bool.and_eq_true, decide_eq_true_eq] at h
      exact Or.inr ⟨c, List.mem_range.mp hc, h⟩
  · rintro (h | ⟨c, hc, h⟩)
    · exact Or.inl h
    · exact Or.inr ⟨c, List.mem_range.mpr hc, by rw [Bool.and_eq_true, decide_eq_true_eq]; exact h⟩
theorem win_mono {n S : Nat} (h : win J N re k n S = true) : ∀ d, win J N re k (n + d) S = true := by
  intro d
  induction d with
  | zero => exact h
  | succ d ih => exact win_S.mpr (Or.inl ih)
theorem win_mono' {n n' S : Nat} (h : win J N re k n S = true) (hn : n ≤ n') : win J N re k n' S = true := by
  have := win_mono h (n' - n)
  rwa [show n + (n' - n) = n' by omega] at this
theorem dif_wi {a b c : Nat} (hb : b < 4294967296) (h : wi a b) : wi (dif a c) (dif b c) := fun i q => by
  have ha : a < 4294967296 := Nat.lt_of_le_of_lt (wi_le h) hb
  rw [tb_dif ha, Bool.and_eq_true] at q
  rw [tb_dif hb, Bool.and_eq_true]
  exact ⟨h i q.1, q.2⟩
theorem win_wi (hN : N ≤ 10) (hJ : ∀ k, J k < 2 ^ N) (hre : re = 0 ∨ re = 1) : ∀ n S S', S < 2 ^ N → wi S' S → win J N re k n S = true → win J N re k n S' = true := by
  have hp := p2_lt hN
  intro n
  induction n with
  | zero =>
    intro S S' hS h q
    have q' : S = 0 := of_decide_eq_true q
    have := wi_le h
    exact decide_eq_true (by omega)
  | succ n ih =>
    intro S S' hS h q
    rcases win_S.mp q with w | ⟨c, hc, h1, h2⟩
    · exact win_S.mpr (Or.inl (ih S S' hS h w))
    · exact win_S.mpr (Or.inr ⟨c, hc, h1, ih _ _ (nxs_lt hJ hre _) (nxs_mono (dif_wi (by omega) h)) h2⟩)
/-- the fewest, as far as n casts tell -/
def fw (J : Nat → Nat) (N re k : Nat) : Nat → Nat → Nat
  | 0, S => if win J N re k 0 S = true then 0 else 99999
  | n + 1, S => if fw J N re k n S = 99999 ∧ win J N re k (n + 1) S = true then n + 1 else fw J N re k n S
theorem fw_L : ∀ n S, fw J N re k n S = 99999 ∨ (fw J N re k n S ≤ n ∧ win J N re k (fw J N re k n S) S = true) := by
  intro n
  induction n with
  | zero =>
    intro S
    by_cases h : win J N re k 0 S = true
    · have e : fw J N re k 0 S = 0 := if_pos h
      rw [e]
      exact Or.inr ⟨Nat.le_refl _, h⟩
    · exact Or.inl (if_neg h)
  | succ n ih =>
    intro S
    by_cases h : fw J N re k n S = 99999 ∧ win J N re k (n + 1) S = true
    · have e : fw J N re k (n + 1) S = n + 1 := if_pos h
      rw [e]
      exact Or.inr ⟨Nat.le_refl _, h.2⟩
    · have e : fw J N re k (n + 1) S = fw J N re k n S := if_neg h
      rw [e]
      exact (ih S).imp id (fun q => ⟨by omega, q.2⟩)
theorem fw_in {n S : Nat} (hn : n < 99999) : win J N re k n S = true ↔ fw J N re k n S ≠ 99999 := by
  constructor
  · intro h
    match n, h, hn with
    | 0, h, _ =>
      have e : fw J N re k 0 S = 0 := if_pos h
      omega
    | n + 1, h, hn =>
      by_cases c : fw J N re k n S = 99999 ∧ win J N re k (n + 1) S = true
      · have e : fw J N re k (n + 1) S = n + 1 := if_pos c
        omega
      · have e : fw J N re k (n + 1) S = fw J N re k n S := if_neg c
        rw [e]
        exact fun q => c ⟨q, h⟩
  · intro h
    rcases fw_L (J := J) (N := N) (re := re) (k := k) n S with q | q
    · exact absurd q h
    · exact win_mono' q.2 q.1
theorem fw_keep {n S : Nat} (h : fw J N re k n S ≠ 99999) : ∀ d, fw J N re k (n + d) S = fw J N re k n S := by
  intro d
  induction d with
  | zero => rfl
  | succ d ih =>
    show (if fw J N re k (n + d) S = 99999 ∧ win J N re k (n + d + 1) S = true then n + d + 1 else fw J N re k (n + d) S) = _
    rw [if_neg (fun q => h (by rw [← ih]; exact q.1)), ih]
/-- an extra cast wins something more -/
def chw (J : Nat → Nat) (N re k n : Nat) : Prop := ∃ S, S < 2 ^ N ∧ win J N re k (n + 1) S ≠ win J N re k n S
theorem win_stay {n : Nat} (hJ : ∀ k, J k < 2 ^ N) (hre : re = 0 ∨ re = 1) (h : ¬ chw J N re k n) : ∀ d S, S < 2 ^ N → win J N re k (n + d) S = win J N re k n S := by
  have h0 : ∀ S, S < 2 ^ N → win J N re k (n + 1) S = win J N re k n S := fun S hS => by
    apply Classical.byContradiction
    intro q
    exact h ⟨S, hS, q⟩
  intro d
  induction d with
  | zero => intro S _; rfl
  | succ d ih =>
    intro S hS
    rw [← h0 S hS]
    apply Bool.eq_iff_iff.mpr
    show win J N re k (n + d + 1) S = true ↔ win J N re k (n + 1) S = true
    rw [win_S, win_S, ih S hS]
    constructor
    · rintro (q | ⟨c, hc, h1, h2⟩)
      · exact Or.inl q
      · exact Or.inr ⟨c, hc, h1, by rw [← ih _ (nxs_lt hJ hre _)]; exact h2⟩
    · rintro (q | ⟨c, hc, h1, h2⟩)
      · exact Or.inl q
      · exact Or.inr ⟨c, hc, h1, by rw [ih _ (nxs_lt hJ hre _)]; exact h2⟩
theorem fw_stay {n S : Nat} (hJ : ∀ k, J k < 2 ^ N) (hre : re = 0 ∨ re = 1) (h : ¬ chw J N re k n) (hS : S < 2 ^ N) (hn : n < 99999) : ∀ d, fw J N re k (n + d) S = fw J N re k n S := by
  intro d
  induction d with
  | zero => rfl
  | succ d ih =>
    show (if fw J N re k (n + d) S = 99999 ∧ win J N re k (n + (d + 1)) S = true then n + d + 1 else fw J N re k (n + d) S) = _
    rw [ih, win_stay hJ hre h (d + 1) S hS]
    by_cases c : fw J N re k n S = 99999
    · rw [if_neg (fun q => (fw_in hn).mp q.2 c)]
    · rw [if_neg (fun q => c q.1)]
theorem chw_end (hN : N ≤ 10) : ∃ R, R < 1024 ∧ ¬ chw J N re k R ∧ ∀ r, r < R → chw J N re k r := by
  have hp := p2_lt hN
  have key : ∃ R, R < 1024 ∧ ¬ chw J N re k R := by
    apply Classical.byContradiction
    intro h
    have hall : ∀ r, r < 1024 → chw J N re k r := fun r hr => by
      apply Classical.byContradiction
      intro q
      exact h ⟨r, hr, q⟩
    have hm : ∀ r, r ≤ 1024 → r + 1 ≤ smN (fun S => (win J N re k r S).toNat) (2 ^ N) := by
      intro r
      induction r with
      | zero =>
        intro _
        have h1 := smN_lt (v := fun _ => 0) (w := fun S => (win J N re k 0 S).toNat) (i := 0) (2 ^ N) (fun _ _ => Nat.zero_le _) (Nat.two_pow_pos N) (by
          show 0 < (decide ((0 : Nat) = 0)).toNat
          decide)
        omega
      | succ r ih =>
        intro hr
        have h1 := ih (by omega)
        obtain ⟨S, hS, hne⟩ := hall r (by omega)
        have hle : ∀ S, (win J N re k r S).toNat ≤ (win J N re k (r + 1) S).toNat := fun S => by
          cases hw : win J N re k r S with
          | false => exact Nat.zero_le _
          | true => rw [win_S.mpr (Or.inl hw)]; exact Nat.le_refl _
        have h2 := smN_lt (v := fun S => (win J N re k r S).toNat) (w := fun S => (win J N re k (r + 1) S).toNat) (i := S) (2 ^ N) (fun S _ => hle S) hS (by
          have := hle S
          show (win J N re k r S).toNat < (win J N re k (r + 1) S).toNat
          cases hw : win J N re k r S with
          | true => rw [hw, win_S.mpr (Or.inl hw)] at hne; exact absurd rfl hne
          | false =>
            cases hw2 : win J N re k (r + 1) S with
            | true => decide
            | false => rw [hw, hw2] at hne; exact absurd rfl hne)
        omega
    have h1 := hm 1024 (Nat.le_refl _)
    have h2 := smN_b (v := fun S => (win J N re k 1024 S).toNat) (c := 1) (2 ^ N) (fun S _ => Bool.toNat_le _)
    omega
  obtain ⟨R, hR, h1⟩ := key
  obtain ⟨v, hv, h2, h3⟩ := least_of (p := fun r => ¬ chw J N re k r) h1
  exact ⟨v, by omega, h2, fun r hr => Classical.byContradiction (fun q => h3 r hr q)⟩
/-- in the end -/
def fwe (J : Nat → Nat) (N re k S : Nat) : Nat := fw J N re k 2000 S
theorem fwe_of {n S : Nat} (h : fw J N re k n S ≠ 99999) (hn : n ≤ 2000) : fwe J N re k S = fw J N re k n S := by
  have := fw_keep h (2000 - n)
  rwa [show n + (2000 - n) = 2000 by omega] at this
theorem fwe_b {S : Nat} (hN : N ≤ 10) (hJ : ∀ k, J k < 2 ^ N) (hre : re = 0 ∨ re = 1) (hS : S < 2 ^ N) : fwe J N re k S = 99999 ∨ fwe J N re k S ≤ 1023 := by
  obtain ⟨R, hR, h1, -⟩ := chw_end (J := J) (re := re) (k := k) hN
  have h2 := fw_stay hJ hre h1 hS (by omega) (2000 - R)
  rw [show R + (2000 - R) = 2000 by omega] at h2
  unfold fwe
  rw [h2]
  exact (fw_L R S).imp id (fun q => by omega)
theorem fwe_le {n S : Nat} (hn : n ≤ 2000) : win J N re k n S = true ↔ fwe J N re k S ≤ n := by
  constructor
  · intro h
    have h1 := (fw_in (by omega)).mp h
    rw [fwe_of h1 hn]
    rcases fw_L (J := J) (N := N) (re := re) (k := k) n S with q | q
    · exact absurd q h1
    · exact q.1
  · intro h
    rcases fw_L (J := J) (N := N) (re := re) (k := k) 2000 S with q | q
    · unfold fwe at h; omega
    · exact win_mono' q.2 h
theorem fwe_0 {S : Nat} : fwe J N re k S = 0 ↔ S = 0 := by
  have h := fwe_le (J := J) (N := N) (re := re) (k := k) (n := 0) (S := S) (by omega)
  have h2 : win J N re k 0 S = true ↔ S = 0 := decide_eq_true_iff
  rw [← h2, h]
  omega
/-- a cast is worth a turn at most -/
theorem fwe_up {S c : Nat} (hN : N ≤ 10) (hJ : ∀ k, J k < 2 ^ N) (hre : re = 0 ∨ re = 1) (hc : c < 2 ^ N) (hk : pcn 10 c = k) (h : fwe J N re k (nxs J N re (dif S c)) ≠ 99999) : fwe J N re k S ≤ fwe J N re k (nxs J N re (dif S c)) + 1 := by
  have hb := (fwe_b (k := k) hN hJ hre (nxs_lt hJ hre (dif S c))).resolve_left h
  exact (fwe_le (by omega)).mp (win_S.mpr (Or.inr ⟨c, hc, hk, (fwe_le (by omega)).mpr (Nat.le_refl _)⟩))
theorem fwe_dn {S : Nat} (hN : N ≤ 10) (hJ : ∀ k, J k < 2 ^ N) (hre : re = 0 ∨ re = 1) (hS : S < 2 ^ N) (h : fwe J N re k S ≠ 99999) (h0 : S ≠ 0) : ∃ c, c < 2 ^ N ∧ pcn 10 c = k ∧ fwe J N re k (nxs J N re (dif S c)) + 1 = fwe J N re k S := by
  have hb := (fwe_b (k := k) hN hJ hre hS).resolve_left h
  have h0' : fwe J N re k S ≠ 0 := fun q => h0 (fwe_0.mp q)
  obtain ⟨m, hm⟩ : ∃ m, fwe J N re k S = m + 1 := ⟨fwe J N re k S - 1, by omega⟩
  have hw : win J N re k (m + 1) S = true := (fwe_le (by omega)).mpr (by omega)
  rcases win_S.mp hw with q | ⟨c, hc, h1, h2⟩
  · have := (fwe_le (by omega)).mp q
    omega
  · have h3 := (fwe_le (by omega)).mp h2
    have h4 := fwe_up hN hJ hre hc h1 (S := S) (by omega)
    exact ⟨c, hc, h1, by omega⟩
/-- one cast does it -/
theorem fwe_1 {S : Nat} (hN : N ≤ 10) (hJ : ∀ k, J k < 2 ^ N) (hre : re = 0 ∨ re = 1) (hk : k ≤ N) (hS : S < 2 ^ N) : fwe J N re k S ≤ 1 ↔ pcn 10 S ≤ k := by
  have hp := p2_lt hN
  rw [← fwe_le (by omega), show (1 : Nat) = 0 + 1 from rfl, win_S]
  constructor
  · rintro (q | ⟨c, hc, h1, h2⟩)
    · have q' : S = 0 := of_decide_eq_true q
      rw [q', pcn_0]
      exact Nat.zero_le _
    · have h3 : nxs J N re (dif S c) = 0 := of_decide_eq_true h2
      have hdl := dif_le S c
      have h4 : dif S c = 0 := Classical.byContradiction (fun q => nxs_ne hJ hre (by omega) q h3)
      rw [← h1]
      exact pcn_mono ((dif_sub (by omega)).mp h4) 10
  · intro h
    have hfull : pcn 10 (2 ^ N - 1) = N := by
      have : ∀ N, N < 11 → pcn 10 (2 ^ N - 1) = N := by decide
      exact this N (by omega)
    obtain ⟨c, h1, h2, h3⟩ := between (a := S) (b := 2 ^ N - 1) (k := k) (by omega) (fun i q => by rw [tb_mask]; exact decide_eq_true (tb_in hS q)) h (by omega)
    have hc := wi_le h2
    refine Or.inr ⟨c, by have := Nat.two_pow_pos N; omega, h3, decide_eq_true ?_⟩
    rw [(dif_sub (by omega)).mpr h1, nxs_0]
/-- casts within the set are enough -/
theorem win_sub {n S : Nat} (hN : N ≤ 10) (hJ : ∀ k, J k < 2 ^ N) (hre : re = 0 ∨ re = 1) (hS : S < 2 ^ N) (hk : k ≤ pcn 10 S) (h : ∃ c, c < 2 ^ N ∧ pcn 10 c = k ∧ win J N re k n (nxs J N re (dif S c)) = true) : ∃ c, wi c S ∧ pcn 10 c = k ∧ win J N re k n (nxs J N re (dif S c)) = true := by
  have hp := p2_lt hN
  obtain ⟨c, hc, h1, h2⟩ := h
  have hle : pcn 10 (S &&& c) ≤ k := by
    rw [← h1]
    exact pcn_mono (fun i q => by rw [Nat.testBit_and, Bool.and_eq_true] at q; exact q.2) 10
  obtain ⟨c', q1, q2, q3⟩ := between (a := S &&& c) (b := S) (k := k) (by omega) (fun i q => by rw [Nat.testBit_and, Bool.and_eq_true] at q; exact q.1) hle hk
  refine ⟨c', q2, q3, win_wi hN hJ hre n _ _ (nxs_lt hJ hre _) (nxs_mono (fun i q => ?_)) h2⟩
  rw [tb_dif (by omega), Bool.and_eq_true, Bool.not_eq_true'] at q ⊢
  refine ⟨q.1, eq_false_of_ne_true (fun w => ?_)⟩
  have : c'.testBit i = true := q1 i (by rw [Nat.testBit_and, q.1, w]; rfl)
  rw [this] at q
  cases q.2
/-- the model's round: who is won in n + 1, n casts before -/
theorem fw_round {n S : Nat} (hN : N ≤ 10) (hJ : ∀ k, J k < 2 ^ N) (hre : re = 0 ∨ re = 1) (hS : S < 2 ^ N) (hk : k ≤ N) (hn : 1 ≤ n) (hn2 : n ≤ 1999) (h : fw J N re k n S = 99999) : fw J N re k (n + 1) S = n + 1 ↔ ∃ c, wi c S ∧ pcn 10 c = k ∧ fw J N re k n (nxs J N re (dif S c)) = n := by
  have hw : win J N re k n S = false := eq_false_of_ne_true (fun q => (fw_in (by omega)).mp q h)
  have hpk : k ≤ pcn 10 S := by
    apply Classical.byContradiction
    intro q
    have h1 := (fwe_1 hN hJ hre hk hS).mpr (by omega)
    have h2 := (fwe_le (J := J) (N := N) (re := re) (k := k) (n := 1) (S := S) (by omega)).mpr h1
    rw [win_mono' h2 hn] at hw
    cases hw
  constructor
  · intro e
    have hc : win J N re k (n + 1) S = true := by
      apply Classical.byContradiction
      intro q
      have e2 : fw J N re k (n + 1) S = fw J N re k n S := if_neg (fun w => q w.2)
      omega
    rcases win_S.mp hc with q | q
    · rw [hw] at q; cases q
    · obtain ⟨c, h1, h2, h3⟩ := win_sub hN hJ hre hS hpk q
      refine ⟨c, h1, h2, ?_⟩
      rcases fw_L (J := J) (N := N) (re := re) (k := k) n (nxs J N re (dif S c)) with w | w
      · exact absurd w ((fw_in (by omega)).mp h3)
      · apply Classical.byContradiction
        intro hne
        have hlt : fw J N re k n (nxs J N re (dif S c)) + 1 ≤ n := by omega
        have hcl := wi_le h1
        have := win_mono' (win_S.mpr (Or.inr ⟨c, by omega, h2, w.2⟩)) hlt
        rw [this] at hw
        cases hw
  · rintro ⟨c, h1, h2, h3⟩
    have hcl := wi_le h1
    have h4 : win J N re k n (nxs J N re (dif S c)) = true := (fw_in (by omega)).mpr (by omega)
    exact if_pos ⟨h, win_S.mpr (Or.inr ⟨c, by omega, h2, h4⟩)⟩
end CA
/-- the next lower part of a set -/
theorem sub_next : ∀ (n s m c : Nat), s < 2 ^ n → wi m s → wi c s → c < m → c ≤ (m - 1) &&& s := by
  intro n
  induction n with
  | zero =>
    intro s m c hs h1 h2 h
    have := wi_le h1
    omega
  | succ n ih =>
    intro s m c hs h1 h2 h
    have d : ∀ x y, wi x y → wi (x / 2) (y / 2) := fun x y w i q => by
      rw [Nat.testBit_div_two] at q ⊢
      exact w _ q
    have b0 : ∀ x, x.testBit 0 = decide (x % 2 = 1) := fun x => Nat.testBit_zero x
    have p0 : ∀ x y, wi x y → x % 2 ≤ y % 2 := fun x y w => by
      have := w 0
      rw [b0, b0, decide_eq_true_eq, decide_eq_true_eq] at this
      omega
    have e1 : ((m - 1) &&& s) / 2 = (m - 1) / 2 &&& s / 2 := Nat.and_div_two
    have e2 : ((m - 1) &&& s) % 2 = if (m - 1) % 2 = 1 ∧ s % 2 = 1 then 1 else 0 := by
      have q := Nat.testBit_and (m - 1) s 0
      rw [b0, b0, b0] at q
      by_cases w : (m - 1) % 2 = 1 ∧ s % 2 = 1
      · rw [if_pos w]
        rw [decide_eq_true w.1, decide_eq_true w.2] at q
        exact of_decide_eq_true q
      · rw [if_neg w]
        have : ¬ ((m - 1) &&& s) % 2 = 1 := by
          intro w2
          rw [decide_eq_true w2] at q
          have q2 : (decide ((m - 1) % 2 = 1) && decide (s % 2 = 1)) = true := q.symm
          rw [Bool.and_eq_true, decide_eq_true_eq, decide_eq_true_eq] at q2
          exact w q2
        omega
    have hms := p0 m s h1
    have hcs := p0 c s h2
    by_cases hm : m % 2 = 1
    · have q1 : (m - 1) / 2 = m / 2 := by omega
      have q2 : m / 2 &&& s / 2 = m / 2 := tb_ext fun i => by
        rw [Nat.testBit_and]
        cases hb : (m / 2).testBit i with
        | false => rfl
        | true => rw [d m s h1 i hb]; rfl
      rw [q1, q2] at e1
      omega
    · have q1 : (m - 1) / 2 = m / 2 - 1 := by omega
      rw [q1] at e1
      have hs2 : s / 2 < 2 ^ n := by
        have : 2 ^ (n + 1) = 2 * 2 ^ n := by rw [Nat.pow_succ, Nat.mul_comm]
        omega
      have := ih (s / 2) (m / 2) (c / 2) hs2 (d m s h1) (d c s h2) (by omega)
      rw [← e1] at this
      have q3 : (m - 1) % 2 = 1 := by omega
      by_cases w : s % 2 = 1
      · rw [if_pos ⟨q3, w⟩] at e2
        omega
      · rw [if_neg (fun z => w z.2)] at e2
        omega
