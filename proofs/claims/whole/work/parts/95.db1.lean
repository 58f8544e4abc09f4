/-! Doubt: ways, what posts tell of them. -/
section DB
variable (J : Nat → Nat) (N re : Nat)
/-- the ways of r moves from a on, in order -/
def wyl : Nat → Nat → List (List Nat)
  | 0, _ => [[]]
  | r + 1, a => (List.range N).flatMap (fun i => if (mvs J re a).testBit i = true then (wyl r i).map (fun l => i :: l) else [])
/-- moves from all nodes of o, of the first n -/
def mvA (o : Nat) : Nat → Nat
  | 0 => 0
  | n + 1 => mvA o n ||| (if o.testBit n = true then mvs J re n else 0)
/-- for whom he could be taken behind a row of moves -/
def oth (tl : Nat) : Nat → List Nat → Nat
  | o, [] => o
  | o, i :: l => oth tl (if tl.testBit i = true then 2 ^ i else dif (mvA J re o N) tl) l
/-- a way l from a -/
def isW : Nat → List Nat → Prop
  | _, [] => True
  | a, i :: l => (i < N ∧ (mvs J re a).testBit i = true) ∧ isW i l
end DB
/-- where it ends -/
def lastN : Nat → List Nat → Nat
  | a, [] => a
  | _, i :: l => lastN i l
/-- told alike -/
def alk (tl : Nat) : List Nat → List Nat → Prop
  | [], [] => True
  | i :: l, j :: m => ((tl.testBit i = true ∨ tl.testBit j = true) → i = j) ∧ alk tl l m
  | _, _ => False
section DC
variable {J : Nat → Nat} {N re tl : Nat}
theorem tb_mvA {o t : Nat} : ∀ n, (mvA J re o n).testBit t = true ↔ ∃ i, i < n ∧ o.testBit i = true ∧ (mvs J re i).testBit t = true := by
  intro n
  induction n with
  | zero =>
    refine ⟨fun q => ?_, fun ⟨j, h, _⟩ => absurd h (Nat.not_lt_zero _)⟩
    have : (0 : Nat).testBit t = true := q
    rw [Nat.zero_testBit] at this
    cases this
  | succ n ih =>
    show (mvA J re o n ||| (if o.testBit n = true then mvs J re n else 0)).testBit t = true ↔ _
    rw [Nat.testBit_or, Bool.or_eq_true, ih]
    constructor
    · rintro (⟨i, h1, h2⟩ | h)
      · exact ⟨i, by omega, h2⟩
      · by_cases hb : o.testBit n = true
        · rw [if_pos hb] at h
          exact ⟨n, by omega, hb, h⟩
        · rw [if_neg hb, Nat.zero_testBit] at h
          cases h
    · rintro ⟨i, h1, h2, h3⟩
      by_cases hi : i = n
      · subst hi
        refine Or.inr ?_
        rw [if_pos h2]
        exact h3
      · exact Or.inl ⟨i, by omega, h2, h3⟩
theorem mvA_lt {o : Nat} (hJ : ∀ k, J k < 2 ^ N) (hre : re = 0 ∨ re = 1) : ∀ n, n ≤ N → mvA J re o n < 2 ^ N := by
  intro n
  induction n with
  | zero => intro _; exact Nat.two_pow_pos N
  | succ n ih =>
    intro hn
    refine or_lt (ih (by omega)) ?_
    by_cases h : o.testBit n = true
    · rw [if_pos h]; exact mvs_lt hJ hre (by omega)
    · rw [if_neg h]; exact Nat.two_pow_pos N
/-- the class's others are the ends of the ways told alike -/
theorem tb_oth (hN : N ≤ 10) (hJ : ∀ k, J k < 2 ^ N) (hre : re = 0 ∨ re = 1) : ∀ (l : List Nat) (o a : Nat), o < 2 ^ N → o.testBit a = true → isW J N re a l → ∀ b, (oth J N re tl o l).testBit b = true ↔ ∃ a' l', o.testBit a' = true ∧ isW J N re a' l' ∧ alk tl l l' ∧ lastN a' l' = b := by
  have hp := p2_lt hN
  intro l
  induction l with
  | nil =>
    intro o a ho ha _ b
    constructor
    · intro h; exact ⟨b, [], h, trivial, trivial, rfl⟩
    · rintro ⟨a', l', h1, h2, h3, h4⟩
      match l', h3, h4 with
      | [], _, h4 => rw [← h4]; exact h1
      | _ :: _, h3, _ => exact h3.elim
  | cons i l ih =>
    intro o a ho ha hw b
    obtain ⟨⟨hi, hai⟩, hwl⟩ := hw
    have hmA := mvA_lt (o := o) hJ hre N (Nat.le_refl _)
    have key : ∀ j, (if tl.testBit i = true then 2 ^ i else dif (mvA J re o N) tl).testBit j = true ↔ ∃ a', o.testBit a' = true ∧ (j < N ∧ (mvs J re a').testBit j = true) ∧ ((tl.testBit i = true ∨ tl.testBit j = true) → i = j) := by
      intro j
      by_cases ht : tl.testBit i = true
      · rw [if_pos ht, tb_pow, decide_eq_true_eq]
        constructor
        · rintro rfl
          exact ⟨a, ha, ⟨hi, hai⟩, fun _ => rfl⟩
        · rintro ⟨a', -, -, h3⟩
          exact h3 (Or.inl ht)
      · rw [if_neg ht, tb_dif (by omega), Bool.and_eq_true, Bool.not_eq_true', tb_mvA]
        constructor
        · rintro ⟨⟨a', h1, h2, h3⟩, h4⟩
          have hm := mvs_lt (re := re) hJ hre h1
          exact ⟨a', h2, ⟨tb_in hm h3, h3⟩, fun q => q.elim (fun w => absurd w ht) (fun w => by rw [h4] at w; cases w)⟩
        · rintro ⟨a', h1, ⟨h2, h3⟩, h4⟩
          refine ⟨⟨a', tb_in ho h1, h1, h3⟩, eq_false_of_ne_true (fun w => ?_)⟩
          rw [h4 (Or.inr w)] at ht
          exact ht w
    have hlt : (if tl.testBit i = true then 2 ^ i else dif (mvA J re o N) tl) < 2 ^ N := by
      by_cases ht : tl.testBit i = true
      · rw [if_pos ht]; exact Nat.pow_lt_pow_right (by omega) hi
      · rw [if_neg ht]; exact Nat.lt_of_le_of_lt (dif_le _ _) hmA
    show (oth J N re tl (if tl.testBit i = true then 2 ^ i else dif (mvA J re o N) tl) l).testBit b = true ↔ _
    rw [ih _ i hlt ((key i).mpr ⟨a, ha, ⟨hi, hai⟩, fun _ => rfl⟩) hwl b]
    constructor
    · rintro ⟨j, l', h1, h2, h3, h4⟩
      obtain ⟨a', q1, q2, q3⟩ := (key j).mp h1
      exact ⟨a', j :: l', q1, ⟨q2, h2⟩, ⟨q3, h3⟩, h4⟩
    · rintro ⟨a', l', h1, h2, h3, h4⟩
      match l', h2, h3, h4 with
      | [], _, h3, _ => exact h3.elim
      | j :: m, h2, h3, h4 => exact ⟨j, m, (key j).mpr ⟨a', h1, h2.1, h3.1⟩, h2.2, h3.2, h4⟩
theorem mem_wyl : ∀ (r a : Nat) (l : List Nat), l ∈ wyl J N re r a ↔ l.length = r ∧ isW J N re a l := by
  intro r
  induction r with
  | zero =>
    intro a l
    show l ∈ [[]] ↔ _
    rw [List.mem_singleton]
    constructor
    · rintro rfl; exact ⟨rfl, trivial⟩
    · rintro ⟨h, -⟩; exact List.eq_nil_of_length_eq_zero h
  | succ r ih =>
    intro a l
    show l ∈ (List.range N).flatMap (fun i => if (mvs J re a).testBit i = true then (wyl J N re r i).map (fun l => i :: l) else []) ↔ _
    rw [List.mem_flatMap]
    constructor
    · rintro ⟨i, hi, h⟩
      by_cases hb : (mvs J re a).testBit i = true
      · rw [if_pos hb, List.mem_map] at h
        obtain ⟨m, hm, rfl⟩ := h
        obtain ⟨h1, h2⟩ := (ih i m).mp hm
        exact ⟨by rw [List.length_cons, h1], ⟨List.mem_range.mp hi, hb⟩, h2⟩
      · rw [if_neg hb] at h
        exact absurd h List.not_mem_nil
    · rintro ⟨h1, h2⟩
      match l, h1, h2 with
      | [], h1, _ => cases h1
      | i :: m, h1, h2 =>
        refine ⟨i, List.mem_range.mpr h2.1.1, ?_⟩
        rw [if_pos h2.1.2, List.mem_map]
        exact ⟨m, (ih i m).mpr ⟨by rw [List.length_cons] at h1; omega, h2.2⟩, rfl⟩
end DC
