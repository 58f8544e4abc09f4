/-! Chases: the foxes lost by rounds. -/
def rch (J : Nat → Nat) (a : Nat) : Nat := J a ||| 2 ^ a
def dRow (l : Nat → Nat → Nat) (i Rb : Nat) : Nat → Nat
  | 0 => 0
  | j + 1 => dRow l i Rb j ||| (if Rb.testBit j = true then l i j else 0)
def dAll (l : Nat → Nat → Nat) (N Ra Rb : Nat) : Nat → Nat
  | 0 => 0
  | i + 1 => if Ra.testBit i = true then dAll l N Ra Rb i ||| dRow l i Rb N else dAll l N Ra Rb i
def dead (J : Nat → Nat) (N : Nat) (l : Nat → Nat → Nat) (a b : Nat) : Nat := dAll l N (rch J a) (rch J b) N
theorem tb_dRow {l : Nat → Nat → Nat} {i Rb t : Nat} : ∀ n, (dRow l i Rb n).testBit t = true ↔ ∃ j, j < n ∧ Rb.testBit j = true ∧ (l i j).testBit t = true := by
  intro n
  induction n with
  | zero =>
    refine ⟨fun q => ?_, fun ⟨j, h, _⟩ => absurd h (Nat.not_lt_zero _)⟩
    have : (0 : Nat).testBit t = true := q
    rw [Nat.zero_testBit] at this
    cases this
  | succ n ih =>
    show (dRow l i Rb n ||| (if Rb.testBit n = true then l i n else 0)).testBit t = true ↔ _
    rw [Nat.testBit_or, Bool.or_eq_true, ih]
    constructor
    · rintro (⟨j, h1, h2⟩ | h)
      · exact ⟨j, by omega, h2⟩
      · by_cases hb : Rb.testBit n = true
        · rw [if_pos hb] at h
          exact ⟨n, by omega, hb, h⟩
        · rw [if_neg hb, Nat.zero_testBit] at h
          cases h
    · rintro ⟨j, h1, h2, h3⟩
      by_cases hj : j = n
      · subst hj
        refine Or.inr ?_
        rw [if_pos h2]
        exact h3
      · exact Or.inl ⟨j, by omega, h2, h3⟩
theorem tb_dAll {l : Nat → Nat → Nat} {N Ra Rb t : Nat} : ∀ n, (dAll l N Ra Rb n).testBit t = true ↔ ∃ i, i < n ∧ Ra.testBit i = true ∧ ∃ j, j < N ∧ Rb.testBit j = true ∧ (l i j).testBit t = true := by
  intro n
  induction n with
  | zero =>
    refine ⟨fun q => ?_, fun ⟨j, h, _⟩ => absurd h (Nat.not_lt_zero _)⟩
    have : (0 : Nat).testBit t = true := q
    rw [Nat.zero_testBit] at this
    cases this
  | succ n ih =>
    show (if Ra.testBit n = true then dAll l N Ra Rb n ||| dRow l n Rb N else dAll l N Ra Rb n).testBit t = true ↔ _
    by_cases hb : Ra.testBit n = true
    · rw [if_pos hb, Nat.testBit_or, Bool.or_eq_true, ih, tb_dRow]
      constructor
      · rintro (⟨i, h1, h2⟩ | h)
        · exact ⟨i, by omega, h2⟩
        · exact ⟨n, by omega, hb, h⟩
      · rintro ⟨i, h1, h2, h3⟩
        by_cases hi : i = n
        · subst hi
          exact Or.inr h3
        · exact Or.inl ⟨i, by omega, h2, h3⟩
    · rw [if_neg hb, ih]
      constructor
      · rintro ⟨i, h1, h2⟩
        exact ⟨i, by omega, h2⟩
      · rintro ⟨i, h1, h2, h3⟩
        by_cases hi : i = n
        · subst hi
          exact absurd h2 hb
        · exact ⟨i, by omega, h2, h3⟩
theorem tb_dead {J : Nat → Nat} {N : Nat} {l : Nat → Nat → Nat} {a b t : Nat} : (dead J N l a b).testBit t = true ↔ ∃ i, i < N ∧ (rch J a).testBit i = true ∧ ∃ j, j < N ∧ (rch J b).testBit j = true ∧ (l i j).testBit t = true := tb_dAll N
theorem tb_rch {J : Nat → Nat} {a i : Nat} : (rch J a).testBit i = true ↔ i = a ∨ (J a).testBit i = true := by
  unfold rch
  rw [Nat.testBit_or, Bool.or_eq_true, tb_pow, decide_eq_true_eq]
  constructor
  · rintro (h | h)
    · exact Or.inr h
    · exact Or.inl h.symm
  · rintro (h | h)
    · exact Or.inr h.symm
    · exact Or.inl h
def newl (J : Nat → Nat) (N re : Nat) (l : Nat → Nat → Nat) (a b : Nat) (f : Nat) : Bool := !(l a b).testBit f && decide (dif (stp J re f) (dead J N l a b) = 0)
/-- foxes lost within r turns, hounds on a and b -/
def lst (J : Nat → Nat) (N re : Nat) : Nat → Nat → Nat → Nat
  | 0, a, b => 2 ^ a ||| 2 ^ b
  | r + 1, a, b => lst J N re r a b ||| sel (newl J N re (lst J N re r) a b) N
/-- the turns till then, as far as r rounds tell -/
def tms (J : Nat → Nat) (N re : Nat) : Nat → Nat → Nat → Nat → Nat
  | 0, f, a, b => if f = a ∨ f = b then 0 else 1000000
  | r + 1, f, a, b => if tms J N re r f a b = 1000000 ∧ (lst J N re (r + 1) a b).testBit f = true then r + 1 else tms J N re r f a b
section CH
variable {J : Nat → Nat} {N re : Nat}
theorem lst_mono {r a b f : Nat} (h : (lst J N re r a b).testBit f = true) : ∀ d, (lst J N re (r + d) a b).testBit f = true := by
  intro d
  induction d with
  | zero => exact h
  | succ d ih =>
    show (lst J N re (r + d) a b ||| sel (newl J N re (lst J N re (r + d)) a b) N).testBit f = true
    rw [Nat.testBit_or, ih]
    rfl
theorem lst_mono' {r r' a b f : Nat} (h : (lst J N re r a b).testBit f = true) (hr : r ≤ r') : (lst J N re r' a b).testBit f = true := by
  have := lst_mono h (r' - r)
  rwa [show r + (r' - r) = r' by omega] at this
theorem lst_lt {a b : Nat} (ha : a < N) (hb : b < N) : ∀ r, lst J N re r a b < 2 ^ N := by
  intro r
  induction r with
  | zero => exact or_lt (Nat.pow_lt_pow_right (by omega) ha) (Nat.pow_lt_pow_right (by omega) hb)
  | succ r ih => exact or_lt ih (sel_lt N)
theorem dead_sym {l : Nat → Nat → Nat} (h : ∀ i j, l i j = l j i) {a b : Nat} : dead J N l a b = dead J N l b a := by
  have key : ∀ a b t, (dead J N l a b).testBit t = true → (dead J N l b a).testBit t = true := by
    intro a b t q
    obtain ⟨i, hi, h1, j, hj, h2, h3⟩ := tb_dead.mp q
    exact tb_dead.mpr ⟨j, hj, h2, i, hi, h1, by rw [h]; exact h3⟩
  apply tb_ext
  intro t
  exact Bool.eq_iff_iff.mpr ⟨key a b t, key b a t⟩
theorem lst_sym : ∀ r a b, lst J N re r a b = lst J N re r b a := by
  intro r
  induction r with
  | zero => intro a b; exact Nat.or_comm _ _
  | succ r ih =>
    intro a b
    show lst J N re r a b ||| sel (newl J N re (lst J N re r) a b) N = lst J N re r b a ||| sel (newl J N re (lst J N re r) b a) N
    have e : newl J N re (lst J N re r) a b = newl J N re (lst J N re r) b a := by
      funext f
      unfold newl
      rw [dead_sym ih, ih a b]
    rw [e, ih a b]
theorem tms_sym : ∀ r f a b, tms J N re r f a b = tms J N re r f b a := by
  intro r
  induction r with
  | zero =>
    intro f a b
    show (if f = a ∨ f = b then 0 else 1000000) = if f = b ∨ f = a then 0 else 1000000
    by_cases h : f = a ∨ f = b
    · rw [if_pos h, if_pos h.symm]
    · rw [if_neg h, if_neg (fun q => h q.symm)]
  | succ r ih =>
    intro f a b
    show (if tms J N re r f a b = 1000000 ∧ (lst J N re (r + 1) a b).testBit f = true then r + 1 else tms J N re r f a b) = if tms J N re r f b a = 1000000 ∧ (lst J N re (r + 1) b a).testBit f = true then r + 1 else tms J N re r f b a
    rw [ih f a b, lst_sym (r + 1) a b]
theorem tms_L : ∀ r f a b, tms J N re r f a b = 1000000 ∨ (tms J N re r f a b ≤ r ∧ (lst J N re (tms J N re r f a b) a b).testBit f = true) := by
  intro r
  induction r with
  | zero =>
    intro f a b
    show (if f = a ∨ f = b then 0 else 1000000) = 1000000 ∨ _
    by_cases h : f = a ∨ f = b
    · have e : tms J N re 0 f a b = 0 := if_pos h
      rw [e]
      refine Or.inr ⟨Nat.le_refl _, ?_⟩
      show (2 ^ a ||| 2 ^ b).testBit f = true
      rw [Nat.testBit_or, Bool.or_eq_true, tb_pow, tb_pow, decide_eq_true_eq, decide_eq_true_eq]
      rcases h with h | h
      · exact Or.inl h.symm
      · exact Or.inr h.symm
    · exact Or.inl (if_neg h)
  | succ r ih =>
    intro f a b
    by_cases h : tms J N re r f a b = 1000000 ∧ (lst J N re (r + 1) a b).testBit f = true
    · have e : tms J N re (r + 1) f a b = r + 1 := if_pos h
      rw [e]
      exact Or.inr ⟨Nat.le_refl _, h.2⟩
    · have e : tms J N re (r + 1) f a b = tms J N re r f a b := if_neg h
      rw [e]
      rcases ih f a b with q | q
      · exact Or.inl q
      · exact Or.inr ⟨by omega, q.2⟩
theorem tms_in {r f a b : Nat} (hr : r < 1000000) : (lst J N re r a b).testBit f = true ↔ tms J N re r f a b ≠ 1000000 := by
  constructor
  · intro h
    match r, h, hr with
    | 0, h, _ =>
      have h' : (2 ^ a ||| 2 ^ b).testBit f = true := h
      rw [Nat.testBit_or, Bool.or_eq_true, tb_pow, tb_pow, decide_eq_true_eq, decide_eq_true_eq] at h'
      have e : tms J N re 0 f a b = 0 := if_pos (by rcases h' with q | q
                                                    · exact Or.inl q.symm
                                                    · exact Or.inr q.symm)
      omega
    | r + 1, h, hr =>
      by_cases c : tms J N re r f a b = 1000000 ∧ (lst J N re (r + 1) a b).testBit f = true
      · have e : tms J N re (r + 1) f a b = r + 1 := if_pos c
        omega
      · have e : tms J N re (r + 1) f a b = tms J N re r f a b := if_neg c
        rw [e]
        exact fun q => c ⟨q, h⟩
  · intro h
    rcases tms_L (J := J) (N := N) (re := re) r f a b with q | q
    · exact absurd q h
    · exact lst_mono' q.2 q.1
theorem tms_keep {r f a b : Nat} (h : tms J N re r f a b ≠ 1000000) : ∀ d, tms J N re (r + d) f a b = tms J N re r f a b := by
  intro d
  induction d with
  | zero => rfl
  | succ d ih =>
    show (if tms J N re (r + d) f a b = 1000000 ∧ (lst J N re (r + d + 1) a b).testBit f = true then r + d + 1 else tms J N re (r + d) f a b) = _
    rw [if_neg (fun q => h (by rw [← ih]; exact q.1)), ih]
/-- a round changes something -/
def chg (J : Nat → Nat) (N re r : Nat) : Prop := ∃ a b, a < N ∧ b < N ∧ lst J N re (r + 1) a b ≠ lst J N re r a b
theorem dead_same {l l' : Nat → Nat → Nat} (h : ∀ a b, a < N → b < N → l a b = l' a b) {a b : Nat} : dead J N l a b = dead J N l' a b := by
  have key : ∀ (l l' : Nat → Nat → Nat), (∀ a b, a < N → b < N → l a b = l' a b) → ∀ t, (dead J N l a b).testBit t = true → (dead J N l' a b).testBit t = true := by
    intro l l' h t q
    obtain ⟨i, hi, h1, j, hj, h2, h3⟩ := tb_dead.mp q
    exact tb_dead.mpr ⟨i, hi, h1, j, hj, h2, by rw [← h i j hi hj]; exact h3⟩
  apply tb_ext
  intro t
  exact Bool.eq_iff_iff.mpr ⟨key l l' h t, key l' l (fun a b ha hb => (h a b ha hb).symm) t⟩
theorem lst_stay {r : Nat} (h : ¬ chg J N re r) : ∀ d a b, a < N → b < N → lst J N re (r + d) a b = lst J N re r a b := by
  have h0 : ∀ a b, a < N → b < N → lst J N re (r + 1) a b = lst J N re r a b := fun a b ha hb => by
    by_cases q : lst J N re (r + 1) a b = lst J N re r a b
    · exact q
    · exact (h ⟨a, b, ha, hb, q⟩).elim
  intro d
  induction d with
  | zero => intro a b _ _; rfl
  | succ d ih =>
    intro a b ha hb
    show lst J N re (r + d) a b ||| sel (newl J N re (lst J N re (r + d)) a b) N = _
    have e : newl J N re (lst J N re (r + d)) a b = newl J N re (lst J N re r) a b := by
      funext f
      unfold newl
      rw [dead_same ih, ih a b ha hb]
    rw [e, ih a b ha hb]
    exact h0 a b ha hb
theorem tms_stay {r f a b : Nat} (h : ¬ chg J N re r) (ha : a < N) (hb : b < N) (hr : r < 1000000) : ∀ d, tms J N re (r + d) f a b = tms J N re r f a b := by
  intro d
  induction d with
  | zero => rfl
  | succ d ih =>
    show (if tms J N re (r + d) f a b = 1000000 ∧ (lst J N re (r + (d + 1)) a b).testBit f = true then r + d + 1 else tms J N re (r + d) f a b) = _
    rw [ih, lst_stay h (d + 1) a b ha hb]
    by_cases c : tms J N re r f a b = 1000000
    · rw [if_neg (fun q => (tms_in hr).mp q.2 c)]
    · rw [if_neg (fun q => c q.1)]
/-- sums -/
def smN (v : Nat → Nat) : Nat → Nat
  | 0 => 0
  | n + 1 => smN v n + v n
theorem smN_le {v w : Nat → Nat} : ∀ n, (∀ k, k < n → v k ≤ w k) → smN v n ≤ smN w n := by
  intro n
  induction n with
  | zero => intro _; exact Nat.le_refl _
  | succ n ih => intro h; exact Nat.add_le_add (ih fun k hk => h k (by omega)) (h n (by omega))
theorem smN_lt {v w : Nat → Nat} {i : Nat} : ∀ n, (∀ k, k < n → v k ≤ w k) → i < n → v i < w i → smN v n < smN w n := by
  intro n
  induction n with
  | zero => intro _ h; omega
  | succ n ih =>
    intro h hi hlt
    show smN v n + v n < smN w n + w n
    by_cases e : i = n
    · subst e
      have := smN_le i (fun k hk => h k (by omega))
      omega
    · have := ih (fun k hk => h k (by omega)) (by omega) hlt
      have := h n (by omega)
      omega
theorem smN_b {v : Nat → Nat} {c : Nat} : ∀ n, (∀ k, k < n → v k ≤ c) → smN v n ≤ n * c := by
  intro n
  induction n with
  | zero => intro _; exact Nat.zero_le _
  | succ n ih =>
    intro h
    have h1 := ih (fun k hk => h k (by omega))
    have h2 := h n (by omega)
    show smN v n + v n ≤ (n + 1) * c
    rw [Nat.succ_mul]
    omega
def mes (J : Nat → Nat) (N re r : Nat) : Nat := smN (fun a => smN (fun b => pcn N (lst J N re r a b)) N) N
theorem mes_le (hN : N ≤ 10) (r : Nat) : mes J N re r ≤ 1000 := by
  have h1 : ∀ a, a < N → smN (fun b => pcn N (lst J N re r a b)) N ≤ N * N := fun a _ => smN_b N (fun b _ => pcn_le _ N)
  have h2 : mes J N re r ≤ N * (N * N) := smN_b N h1
  have h3 : N * N ≤ 10 * 10 := Nat.mul_le_mul hN hN
  have h4 : N * (N * N) ≤ 10 * (10 * 10) := Nat.mul_le_mul hN h3
  omega
theorem lst_le {r a b : Nat} : pcn N (lst J N re r a b) ≤ pcn N (lst J N re (r + 1) a b) := pcn_mono (fun _ q => lst_mono q 1) N
theorem mes_lt {r : Nat} (h : chg J N re r) : mes J N re r < mes J N re (r + 1) := by
  obtain ⟨a, b, ha, hb, hne⟩ := h
  refine smN_lt (i := a) N (fun k _ => smN_le N (fun j _ => lst_le)) ha ?_
  refine smN_lt (i := b) N (fun k _ => lst_le) hb ?_
  obtain ⟨j, hj1, hj2⟩ := tb_new (fun i q => lst_mono q 1) hne
  exact pcn_lt (fun i q => lst_mono q 1) hj1 hj2 N (tb_in (lst_lt ha hb (r + 1)) hj2)
theorem mes_0 (hN1 : 2 ≤ N) : 2 ≤ mes J N re 0 := by
  have h0 : ∀ a b, a < N → b < N → 1 ≤ pcn N (lst J N re 0 a b) := fun a b ha hb => by
    have hb2 : (lst J N re 0 a b).testBit a = true := by
      show (2 ^ a ||| 2 ^ b).testBit a = true
      rw [Nat.testBit_or, tb_pow, decide_eq_true rfl]
      rfl
    have := pcn_lt (a := 0) (b := lst J N re 0 a b) (fun i q => by rw [Nat.zero_testBit] at q; cases q) (Nat.zero_testBit a) hb2 N ha
    omega
  have h1 : ∀ a, a < N → 1 ≤ smN (fun b => pcn N (lst J N re 0 a b)) N := fun a ha => by
    have := smN_lt (v := fun _ => 0) (w := fun b => pcn N (lst J N re 0 a b)) (i := 0) N (fun k _ => Nat.zero_le _) (by omega) (h0 a 0 ha (by omega))
    omega
  have h2 : smN (fun _ => 1) N ≤ mes J N re 0 := smN_le N h1
  have h3 : ∀ n, smN (fun _ => 1) n = n := by
    intro n
    induction n with
    | zero => rfl
    | succ n ih => show smN (fun _ => 1) n + 1 = _; rw [ih]
  rw [h3] at h2
  omega
/-- the rounds end -/
theorem chg_end (hN : N ≤ 10) (hN1 : 2 ≤ N) : ∃ R, R < 999 ∧ ¬ chg J N re R ∧ ∀ r, r < R → chg J N re r := by
  have key : ∃ R, R < 999 ∧ ¬ chg J N re R := by
    apply Classical.byContradiction
    intro h
    have hall : ∀ r, r < 999 → chg J N re r := fun r hr => by
      apply Classical.byContradiction
      intro q
      exact h ⟨r, hr, q⟩
    have hm : ∀ r, r ≤ 999 → r + 2 ≤ mes J N re r := by
      intro r
      induction r with
      | zero => intro _; have := mes_0 (J := J) (re := re) hN1; omega
      | succ r ih =>
        intro hr
        have h1 := ih (by omega)
        have h2 := mes_lt (hall r (by omega))
        omega
    have h1 := hm 999 (Nat.le_refl _)
    have h2 := mes_le (J := J) (re := re) hN 999
    omega
  obtain ⟨R, hR, h1⟩ := key
  obtain ⟨v, hv, h2, h3⟩ := least_of (p := fun r => ¬ chg J N re r) h1
  exact ⟨v, by omega, h2, fun r hr => Classical.byContradiction (fun q => h3 r hr q)⟩
/-- the least over what both hounds can do -/
def eRow (v : Nat → Nat → Nat) (i Rb acc : Nat) : Nat → Nat
  | 0 => acc
  | j + 1 => if Rb.testBit j = true then min (eRow v i Rb acc j) (v i j) else eRow v i Rb acc j
def eAll (v : Nat → Nat → Nat) (N Ra Rb acc : Nat) : Nat → Nat
  | 0 => acc
  | i + 1 => if Ra.testBit i = true then eRow v i Rb (eAll v N Ra Rb acc i) N else eAll v N Ra Rb acc i
def lasts (J : Nat → Nat) (N re r f a b : Nat) : Nat := eAll (tms J N re r f) N (rch J a) (rch J b) 1000000 N
theorem eRow_le {v : Nat → Nat → Nat} {i Rb acc : Nat} : ∀ n, eRow v i Rb acc n ≤ acc ∧ ∀ j, j < n → Rb.testBit j = true → eRow v i Rb acc n ≤ v i j := by
  intro n
  induction n with
  | zero => exact ⟨Nat.le_refl _, fun j h => absurd h (Nat.not_lt_zero _)⟩
  | succ n ih =>
    show (if Rb.testBit n = true then min (eRow v i Rb acc n) (v i n) else eRow v i Rb acc n) ≤ acc ∧ ∀ j, j < n + 1 → Rb.testBit j = true → (if Rb.testBit n = true then min (eRow v i Rb acc n) (v i n) else eRow v i Rb acc n) ≤ v i j
    by_cases h : Rb.testBit n = true
    · rw [if_pos h]
      refine ⟨Nat.le_trans (Nat.min_le_left _ _) ih.1, fun j hj hb => ?_⟩
      by_cases e : j = n
      · subst e; exact Nat.min_le_right _ _
      · exact Nat.le_trans (Nat.min_le_left _ _) (ih.2 j (by omega) hb)
    · rw [if_neg h]
      refine ⟨ih.1, fun j hj hb => ?_⟩
      by_cases e : j = n
      · subst e; exact absurd hb h
      · exact ih.2 j (by omega) hb
theorem eRow_at {v : Nat → Nat → Nat} {i Rb acc : Nat} : ∀ n, eRow v i Rb acc n = acc ∨ ∃ j, j < n ∧ Rb.testBit j = true ∧ eRow v i Rb acc n = v i j := by
  intro n
  induction n with
  | zero => exact Or.inl rfl
  | succ n ih =>
    by_cases h : Rb.testBit n = true
    · have e : eRow v i Rb acc (n + 1) = min (eRow v i Rb acc n) (v i n) := if_pos h
      rw [e]
      rcases Nat.le_total (eRow v i Rb acc n) (v i n) with q | q
      · rw [Nat.min_eq_left q]
        exact ih.imp id (fun ⟨j, h1, h2⟩ => ⟨j, by omega, h2⟩)
      · rw [Nat.min_eq_right q]
        exact Or.inr ⟨n, by omega, h, rfl⟩
    · have e : eRow v i Rb acc (n + 1) = eRow v i Rb acc n := if_neg h
      rw [e]
      exact ih.imp id (fun ⟨j, h1, h2⟩ => ⟨j, by omega, h2⟩)
theorem eAll_le {v : Nat → Nat → Nat} {N Ra Rb acc : Nat} : ∀ n, eAll v N Ra Rb acc n ≤ acc ∧ ∀ i j, i < n → j < N → Ra.testBit i = true → Rb.testBit j = true → eAll v N Ra Rb acc n ≤ v i j := by
  intro n
  induction n with
  | zero => exact ⟨Nat.le_refl _, fun i j h => absurd h (Nat.not_lt_zero _)⟩
  | succ n ih =>
    by_cases h : Ra.testBit n = true
    · have e : eAll v N Ra Rb acc (n + 1) = eRow v n Rb (eAll v N Ra Rb acc n) N := if_pos h
      rw [e]
      have h1 := eRow_le (v := v) (i := n) (Rb := Rb) (acc := eAll v N Ra Rb acc n) N
      refine ⟨Nat.le_trans h1.1 ih.1, fun i j hi hj ha hb => ?_⟩
      by_cases e : i = n
      · subst e; exact h1.2 j hj hb
      · exact Nat.le_trans h1.1 (ih.2 i j (by omega) hj ha hb)
    · have e : eAll v N Ra Rb acc (n + 1) = eAll v N Ra Rb acc n := if_neg h
      rw [e]
      refine ⟨ih.1, fun i j hi hj ha hb => ?_⟩
      by_cases e : i = n
      · subst e; exact absurd ha h
      · exact ih.2 i j (by omega) hj ha hb
theorem eAll_at {v : Nat → Nat → Nat} {N Ra Rb acc : Nat} : ∀ n, eAll v N Ra Rb acc n = acc ∨ ∃ i j, i < n ∧ j < N ∧ Ra.testBit i = true ∧ Rb.testBit j = true ∧ eAll v N Ra Rb acc n = v i j := by
  intro n
  induction n with
  | zero => exact Or.inl rfl
  | succ n ih =>
    by_cases h : Ra.testBit n = true
    · have e : eAll v N Ra Rb acc (n + 1) = eRow v n Rb (eAll v N Ra Rb acc n) N := if_pos h
      rw [e]
      rcases eRow_at (v := v) (i := n) (Rb := Rb) (acc := eAll v N Ra Rb acc n) N with q | ⟨j, h1, h2, h3⟩
      · rw [q]
        exact ih.imp id (fun ⟨i, j, h1, h2⟩ => ⟨i, j, by omega, h2⟩)
      · exact Or.inr ⟨n, j, by omega, h1, h, h2, h3⟩
    · have e : eAll v N Ra Rb acc (n + 1) = eAll v N Ra Rb acc n := if_neg h
      rw [e]
      exact ih.imp id (fun ⟨i, j, h1, h2⟩ => ⟨i, j, by omega, h2⟩)
theorem lasts_le {r f a b : Nat} : lasts J N re r f a b ≤ 1000000 := (eAll_le N).1
/-- lost when the hounds go: as the class's deadly nodes tell -/
theorem lasts_dead {r f a b : Nat} (hr : r < 1000000) : (dead J N (lst J N re r) a b).testBit f = true ↔ lasts J N re r f a b ≠ 1000000 := by
  rw [tb_dead]
  constructor
  · rintro ⟨i, hi, h1, j, hj, h2, h3⟩
    have h4 := (tms_in hr).mp h3
    have h5 : lasts J N re r f a b ≤ tms J N re r f i j := (eAll_le N).2 i j hi hj h1 h2
    rcases tms_L (J := J) (N := N) (re := re) r f i j with q | q
    · exact absurd q h4
    · omega
  · intro h
    rcases eAll_at (v := tms J N re r f) (N := N) (Ra := rch J a) (Rb := rch J b) (acc := 1000000) N with q | ⟨i, j, hi, hj, h1, h2, h3⟩
    · exact absurd q h
    · exact ⟨i, hi, h1, j, hj, h2, (tms_in hr).mpr (by
        have h3' : lasts J N re r f a b = tms J N re r f i j := h3
        rw [← h3']
        exact h)⟩
/-- the worst for the fox who moves -/
def mx (p : Nat → Bool) (v : Nat → Nat) : Nat → Nat
  | 0 => 0
  | n + 1 => if p n = true then max (mx p v n) (v n) else mx p v n
theorem mx_le {p : Nat → Bool} {v : Nat → Nat} {c : Nat} : ∀ n, (∀ k, k < n → p k = true → v k ≤ c) → mx p v n ≤ c := by
  intro n
  induction n with
  | zero => intro _; exact Nat.zero_le _
  | succ n ih =>
    intro h
    have h1 := ih (fun k hk => h k (by omega))
    show (if p n = true then max (mx p v n) (v n) else mx p v n) ≤ c
    by_cases q : p n = true
    · rw [if_pos q]; exact Nat.max_le.mpr ⟨h1, h n (by omega) q⟩
    · rw [if_neg q]; exact h1
theorem mx_ge {p : Nat → Bool} {v : Nat → Nat} {k : Nat} (hp : p k = true) : ∀ n, k < n → v k ≤ mx p v n := by
  intro n
  induction n with
  | zero => intro h; omega
  | succ n ih =>
    intro h
    show v k ≤ if p n = true then max (mx p v n) (v n) else mx p v n
    by_cases e : k = n
    · subst e
      rw [if_pos hp]; exact Nat.le_max_right _ _
    · have h1 := ih (by omega)
      by_cases q : p n = true
      · rw [if_pos q]; exact Nat.le_trans h1 (Nat.le_max_left _ _)
      · rw [if_neg q]; exact h1
/-- the model's words for it -/
def mN (v : Nat) : Nat := if v = 1000000 then 99999 else v
def mB (v : Nat) : Nat := if v = 1000000 then 99999 else v + 1
theorem stp_ne0 {f : Nat} (hJ : ∀ k, J k < 2 ^ N) (hre : re = 0 ∨ re = 1) (hf : f < N) : ∃ i, i < N ∧ (stp J re f).testBit i = true := by
  have h0 : stp J re f ≠ 0 := by
    unfold stp
    split
    · exact Nat.ne_of_gt (Nat.two_pow_pos f)
    · assumption
  obtain ⟨i, hi⟩ := tb_ne0 h0
  exact ⟨i, tb_in (stp_lt hJ hre hf) hi, hi⟩
theorem dif_sub {a b : Nat} (ha : a < 4294967296) : dif a b = 0 ↔ ∀ i, a.testBit i = true → b.testBit i = true := by
  constructor
  · intro h i hi
    have h1 : (dif a b).testBit i = false := by rw [h]; exact Nat.zero_testBit i
    rw [tb_dif ha, hi, Bool.true_and] at h1
    cases hb : b.testBit i with
    | true => rfl
    | false => rw [hb] at h1; cases h1
  · intro h
    apply tb_ext
    intro i
    rw [tb_dif ha, Nat.zero_testBit]
    cases hi : a.testBit i with
    | false => rfl
    | true => rw [h i hi]; rfl
/-- a fox not lost yet: what the model's round makes of it -/
theorem round_eq {r f a b : Nat} (hN : N ≤ 10) (hJ : ∀ k, J k < 2 ^ N) (hre : re = 0 ∨ re = 1) (hf : f < N) (hr : r < 1000) (h0 : tms J N re r f a b = 1000000) : mx (fun to => (stp J re f).testBit to) (fun to => mB (lasts J N re r to a b)) N = mN (tms J N re (r + 1) f a b) := by
  have hp := p2_lt hN
  have hsl := stp_lt hJ hre hf
  have hlb : ∀ to, lasts J N re r to a b = 1000000 ∨ lasts J N re r to a b ≤ r := fun to => by
    rcases eAll_at (v := tms J N re r to) (N := N) (Ra := rch J a) (Rb := rch J b) (acc := 1000000) N with q | ⟨i, j, hi, hj, h1, h2, h3⟩
    · exact Or.inl q
    · have h3' : lasts J N re r to a b = tms J N re r to i j := h3
      rw [h3']
      rcases tms_L (J := J) (N := N) (re := re) r to i j with q | q
      · exact Or.inl q
      · exact Or.inr q.1
  have hin : (lst J N re r a b).testBit f = false := eq_false_of_ne_true (fun q => (tms_in (by omega)).mp q h0)
  have hnew : (lst J N re (r + 1) a b).testBit f = true ↔ ∀ to, (stp J re f).testBit to = true → lasts J N re r to a b ≠ 1000000 := by
    show (lst J N re r a b ||| sel (newl J N re (lst J N re r) a b) N).testBit f = true ↔ _
    rw [Nat.testBit_or, hin, Bool.false_or, tb_sel, decide_eq_true hf, Bool.true_and]
    unfold newl
    rw [hin, Bool.not_false, Bool.true_and, decide_eq_true_eq, dif_sub (by omega)]
    exact ⟨fun h to ht => (lasts_dead (by omega)).mp (h to ht), fun h to ht => (lasts_dead (by omega)).mpr (h to ht)⟩
  by_cases c : (lst J N re (r + 1) a b).testBit f = true
  · have e : tms J N re (r + 1) f a b = r + 1 := if_pos ⟨h0, c⟩
    have hall := hnew.mp c
    rw [e]
    have e2 : mN (r + 1) = r + 1 := if_neg (by omega)
    rw [e2]
    have h1 : mx (fun to => (stp J re f).testBit to) (fun to => mB (lasts J N re r to a b)) N ≤ r + 1 := mx_le N (fun to hto hb => by
      have h1 := hall to hb
      have h2 := (hlb to).resolve_left h1
      show (if lasts J N re r to a b = 1000000 then 99999 else lasts J N re r to a b + 1) ≤ r + 1
      rw [if_neg h1]
      omega)
    have h2 : ∃ to, to < N ∧ (stp J re f).testBit to = true ∧ r ≤ lasts J N re r to a b := by
      match r, h0, hall, hlb, hr with
      | 0, _, _, _, _ =>
        obtain ⟨i, hi, hb⟩ := stp_ne0 hJ hre hf
        exact ⟨i, hi, hb, Nat.zero_le _⟩
      | r + 1, h0, hall, hlb, hr =>
        apply Classical.byContradiction
        intro hno
        have hlow : ∀ to, (stp J re f).testBit to = true → (dead J N (lst J N re r) a b).testBit to = true := fun to hb => by
          have hto := tb_in hsl hb
          have h4 : ¬ r + 1 ≤ lasts J N re (r + 1) to a b := fun q => hno ⟨to, hto, hb, q⟩
          rcases eAll_at (v := tms J N re (r + 1) to) (N := N) (Ra := rch J a) (Rb := rch J b) (acc := 1000000) N with q | ⟨i, j, hi, hj, q1, q2, q3⟩
          · have q' : lasts J N re (r + 1) to a b = 1000000 := q
            omega
          · have q3' : lasts J N re (r + 1) to a b = tms J N re (r + 1) to i j := q3
            rcases tms_L (J := J) (N := N) (re := re) (r + 1) to i j with w | w
            · omega
            · exact tb_dead.mpr ⟨i, hi, q1, j, hj, q2, lst_mono' w.2 (by omega)⟩
        have hc : (lst J N re (r + 1) a b).testBit f = true := by
          show (lst J N re r a b ||| sel (newl J N re (lst J N re r) a b) N).testBit f = true
          rw [Nat.testBit_or, Bool.or_eq_true]
          by_cases q : (lst J N re r a b).testBit f = true
          · exact Or.inl q
          · refine Or.inr ?_
            rw [tb_sel, decide_eq_true hf, Bool.true_and]
            unfold newl
            rw [eq_false_of_ne_true q, Bool.not_false, Bool.true_and, decide_eq_true_eq, dif_sub (by omega)]
            exact hlow
        exact (tms_in (by omega)).mp hc h0
    obtain ⟨to, hto, hb, h3⟩ := h2
    have h4 := mx_ge (p := fun to => (stp J re f).testBit to) (v := fun to => mB (lasts J N re r to a b)) (k := to) hb N hto
    have h5 : mB (lasts J N re r to a b) = lasts J N re r to a b + 1 := if_neg (hall to hb)
    have h4' : mB (lasts J N re r to a b) ≤ mx (fun to => (stp J re f).testBit to) (fun to => mB (lasts J N re r to a b)) N := h4
    omega
  · have e : tms J N re (r + 1) f a b = 1000000 := by
      have : tms J N re (r + 1) f a b = tms J N re r f a b := if_neg (fun q => c q.2)
      rw [this, h0]
    rw [e]
    have e2 : mN 1000000 = 99999 := if_pos rfl
    rw [e2]
    have h1 : ∃ to, (stp J re f).testBit to = true ∧ lasts J N re r to a b = 1000000 := by
      apply Classical.byContradiction
      intro hno
      exact c (hnew.mpr (fun to hb q => hno ⟨to, hb, q⟩))
    obtain ⟨to, hb, h2⟩ := h1
    have hto := tb_in hsl hb
    have h4 : mB (lasts J N re r to a b) ≤ mx (fun to => (stp J re f).testBit to) (fun to => mB (lasts J N re r to a b)) N := mx_ge (p := fun to => (stp J re f).testBit to) (v := fun to => mB (lasts J N re r to a b)) (k := to) hb N hto
    have h5 : mB (lasts J N re r to a b) = 99999 := if_pos h2
    have h6 : mx (fun to => (stp J re f).testBit to) (fun to => mB (lasts J N re r to a b)) N ≤ 99999 := mx_le N (fun k hk _ => by
      show (if lasts J N re r k a b = 1000000 then 99999 else lasts J N re r k a b + 1) ≤ 99999
      rcases hlb k with q | q
      · rw [if_pos q]; omega
      · rw [if_neg (by omega)]; omega)
    omega
end CH
