/-! The text: what stays so of what is told. -/
section TO
variable {σ : Nat → Nat}
theorem tb_or1 {x v i : Nat} : (x ||| 2 ^ v).testBit i = true ↔ x.testBit i = true ∨ v = i := by
  rw [Nat.testBit_or, Bool.or_eq_true, tb_pow, decide_eq_true_eq]
theorem or1_lt {x v : Nat} (hx : x < 1024) (hv : v < 10) : x ||| 2 ^ v < 1024 := by
  have h2 : 2 ^ v < 2 ^ 10 := Nat.pow_lt_pow_right (by omega) hv
  exact or_lt (n := 10) hx h2
theorem tx_ok_nd {v : Nat} (p : tx_ok σ) (hv : v < 10) : tx_ok (tx_nd σ v) := by
  obtain ⟨p1, p2, p3, p4, p5, p6, p7, p8, p9⟩ := p
  have e : ∀ k, k ≠ 6 → tx_nd σ v k = σ k := fun k hk => tx_up_ne hk
  have e6 : tx_nd σ v 6 = σ 6 ||| 2 ^ v := tx_up_eq
  have w : ∀ i, (σ 6).testBit i = true → (tx_nd σ v 6).testBit i = true := fun i h => by rw [e6, tb_or1]; exact Or.inl h
  unfold tx_ok
  rw [e 0 (by omega), e 1 (by omega), e 2 (by omega), e 3 (by omega), e 5 (by omega), e 7 (by omega), e 4 (by omega)]
  refine ⟨p1, p2, ⟨p3.1, fun i h => w i (p3.2 i h)⟩, ⟨p4.1, fun i h => w i (p4.2 i h)⟩, ⟨p5.1, by rw [e6]; exact or1_lt p5.2 hv⟩, p6.imp id (fun q => ⟨q.1, w _ q.2⟩), fun k hk => ?_, p8, fun j hj => ?_⟩
  · rw [e (10 + k) (by omega)]
    refine ⟨(p7 k hk).1, fun i hi => ?_⟩
    rw [e (10 + i) (by omega)]
    exact ⟨((p7 k hk).2 i hi).1, fun h => ⟨(((p7 k hk).2 i hi).2 h).1, w i (((p7 k hk).2 i hi).2 h).2⟩⟩
  · rw [e (30 + 3 * j) (by omega), e (31 + 3 * j) (by omega), e (32 + 3 * j) (by omega)]
    exact ⟨(p9 j hj).1, ⟨(p9 j hj).2.1.1, w _ (p9 j hj).2.1.2⟩, (p9 j hj).2.2⟩
theorem tx_ok_up {i v : Nat} (p : tx_ok σ) (h : (i = 0 ∧ 2 ≤ v ∧ v ≤ 10) ∨ (i = 1 ∧ v ≤ 1) ∨ (i = 2 ∧ v < 1024 ∧ ∀ j, v.testBit j = true → (σ 6).testBit j = true) ∨ (i = 3 ∧ v < 1024 ∧ ∀ j, v.testBit j = true → (σ 6).testBit j = true) ∨ (i = 5 ∧ v < 8) ∨ (i = 7 ∧ v < 10 ∧ (σ 6).testBit v = true)) : tx_ok (tx_up σ i v) := by
  obtain ⟨p1, p2, p3, p4, p5, p6, p7, p8, p9⟩ := p
  have e : ∀ k, k ≠ i → tx_up σ i v k = σ k := fun k hk => tx_up_ne hk
  have e' : tx_up σ i v i = v := tx_up_eq
  unfold tx_ok
  rw [e 6 (by omega), e 4 (by omega)]
  have p7' : ∀ k, k < 10 → tx_up σ i v (10 + k) < 1024 ∧ ∀ i', i' < 10 → (tx_up σ i v (10 + k)).testBit i' = (tx_up σ i v (10 + i')).testBit k ∧ ((tx_up σ i v (10 + k)).testBit i' = true → i' ≠ k ∧ (σ 6).testBit i' = true) := fun k hk => by
    rw [e (10 + k) (by omega)]
    refine ⟨(p7 k hk).1, fun i' hi => ?_⟩
    rw [e (10 + i') (by omega)]
    exact (p7 k hk).2 i' hi
  have p9' : ∀ j, j < σ 4 → tx_up σ i v (30 + 3 * j) ≤ 5 ∧ (tx_up σ i v (31 + 3 * j) < 10 ∧ (σ 6).testBit (tx_up σ i v (31 + 3 * j)) = true) ∧ tx_up σ i v (32 + 3 * j) ≤ 18 := fun j hj => by
    rw [e (30 + 3 * j) (by omega), e (31 + 3 * j) (by omega), e (32 + 3 * j) (by omega)]
    exact p9 j hj
  rcases h with ⟨rfl, h⟩ | ⟨rfl, h⟩ | ⟨rfl, h⟩ | ⟨rfl, h⟩ | ⟨rfl, h⟩ | ⟨rfl, h⟩
  · rw [e', e 1 (by omega), e 2 (by omega), e 3 (by omega), e 5 (by omega), e 7 (by omega)]
    exact ⟨h, p2, p3, p4, p5, p6, p7', p8, p9'⟩
  · rw [e', e 0 (by omega), e 2 (by omega), e 3 (by omega), e 5 (by omega), e 7 (by omega)]
    exact ⟨p1, h, p3, p4, p5, p6, p7', p8, p9'⟩
  · rw [e', e 0 (by omega), e 1 (by omega), e 3 (by omega), e 5 (by omega), e 7 (by omega)]
    exact ⟨p1, p2, h, p4, p5, p6, p7', p8, p9'⟩
  · rw [e', e 0 (by omega), e 1 (by omega), e 2 (by omega), e 5 (by omega), e 7 (by omega)]
    exact ⟨p1, p2, p3, h, p5, p6, p7', p8, p9'⟩
  · rw [e', e 0 (by omega), e 1 (by omega), e 2 (by omega), e 3 (by omega), e 7 (by omega)]
    exact ⟨p1, p2, p3, p4, ⟨h, p5.2⟩, p6, p7', p8, p9'⟩
  · rw [e', e 0 (by omega), e 1 (by omega), e 2 (by omega), e 3 (by omega), e 5 (by omega)]
    exact ⟨p1, p2, p3, p4, p5, Or.inr h, p7', p8, p9'⟩
theorem tx_ok_told {k : Nat} (p : tx_ok σ) : tx_ok (ab_told σ k) := by
  unfold ab_told
  by_cases c : k ≤ 2
  · rw [if_pos c]
    refine tx_ok_up p (Or.inr (Or.inr (Or.inr (Or.inr (Or.inl ⟨rfl, ?_⟩)))))
    have h2 : 2 ^ k < 2 ^ 3 := Nat.pow_lt_pow_right (by omega) (by omega)
    exact or_lt (n := 3) p.2.2.2.2.1.1 h2
  · rw [if_neg c]; exact p
theorem tx_ti_n {a b k : Nat} (h : k < 10 ∨ 20 ≤ k) (ha : a < 10) (hb : b < 10) : tx_ti σ a b k = σ k := by
  unfold tx_ti
  rw [if_neg (by omega), if_neg (by omega)]
theorem tx_ti_b {a b k i : Nat} (hab : a ≠ b) : (tx_ti σ a b (10 + k)).testBit i = true ↔ (σ (10 + k)).testBit i = true ∨ (k = a ∧ i = b) ∨ (k = b ∧ i = a) := by
  unfold tx_ti
  by_cases c1 : k = a
  · rw [if_pos (by omega), tb_or1]
    constructor
    · rintro (q | q)
      · exact Or.inl q
      · exact Or.inr (Or.inl ⟨c1, q.symm⟩)
    · rintro (q | q | q)
      · exact Or.inl q
      · exact Or.inr q.2.symm
      · exact absurd (c1.symm.trans q.1) hab
  · rw [if_neg (by omega)]
    by_cases c2 : k = b
    · rw [if_pos (by omega), tb_or1]
      constructor
      · rintro (q | q)
        · exact Or.inl q
        · exact Or.inr (Or.inr ⟨c2, q.symm⟩)
      · rintro (q | q | q)
        · exact Or.inl q
        · exact absurd q.1 c1
        · exact Or.inr q.2.symm
    · rw [if_neg (by omega)]
      exact ⟨Or.inl, fun q => q.elim id (fun w => w.elim (fun x => absurd x.1 c1) (fun x => absurd x.1 c2))⟩
theorem tx_ok_ti {a b : Nat} (p : tx_ok σ) (hab : a ≠ b) (ha : a < 10) (hb : b < 10) (h6a : (σ 6).testBit a = true) (h6b : (σ 6).testBit b = true) : tx_ok (tx_ti σ a b) := by
  obtain ⟨p1, p2, p3, p4, p5, p6, p7, p8, p9⟩ := p
  have e : ∀ k, k < 10 → tx_ti σ a b k = σ k := fun k hk => tx_ti_n (Or.inl hk) ha hb
  have e' : ∀ k, 20 ≤ k → tx_ti σ a b k = σ k := fun k hk => tx_ti_n (Or.inr hk) ha hb
  unfold tx_ok
  rw [e 0 (by omega), e 1 (by omega), e 2 (by omega), e 3 (by omega), e 5 (by omega), e 7 (by omega), e 4 (by omega), e 6 (by omega)]
  refine ⟨p1, p2, p3, p4, p5, p6, fun k hk => ⟨?_, fun i hi => ⟨?_, fun h => ?_⟩⟩, p8, fun j hj => ?_⟩
  · unfold tx_ti
    by_cases c1 : 10 + k = 10 + a
    · rw [if_pos c1]; exact or1_lt (p7 k hk).1 hb
    · rw [if_neg c1]
      by_cases c2 : 10 + k = 10 + b
      · rw [if_pos c2]; exact or1_lt (p7 k hk).1 ha
      · rw [if_neg c2]; exact (p7 k hk).1
  · have h1 := tx_ti_b (σ := σ) (a := a) (b := b) (k := k) (i := i) hab
    have h2 := tx_ti_b (σ := σ) (a := a) (b := b) (k := i) (i := k) hab
    have h3 := ((p7 k hk).2 i hi).1
    have h4 : (tx_ti σ a b (10 + k)).testBit i = true ↔ (tx_ti σ a b (10 + i)).testBit k = true := by
      rw [h1, h2, h3]
      constructor
      · rintro (q | q | q)
        · exact Or.inl q
        · exact Or.inr (Or.inr ⟨q.2, q.1⟩)
        · exact Or.inr (Or.inl ⟨q.2, q.1⟩)
      · rintro (q | q | q)
        · exact Or.inl q
        · exact Or.inr (Or.inr ⟨q.2, q.1⟩)
        · exact Or.inr (Or.inl ⟨q.2, q.1⟩)
    cases hx : (tx_ti σ a b (10 + k)).testBit i with
    | true => rw [h4.mp hx]
    | false => exact (eq_false_of_ne_true (fun q => by rw [h4.mpr q] at hx; cases hx)).symm
  · rcases (tx_ti_b hab).mp h with q | q | q
    · exact ((p7 k hk).2 i hi).2 q
    · rw [q.1, q.2]; exact ⟨fun w => hab w.symm, h6b⟩
    · rw [q.1, q.2]; exact ⟨hab, h6a⟩
  · rw [e' (30 + 3 * j) (by omega), e' (31 + 3 * j) (by omega), e' (32 + 3 * j) (by omega)]
    exact p9 j hj
theorem tx_sm_n {t v g k : Nat} (h : k ≠ 4) (h2 : k < 30 + 3 * σ 4) : tx_sm σ t v g k = σ k := by
  unfold tx_sm
  rw [tx_up_ne h, tx_up_ne (by omega), tx_up_ne (by omega), tx_up_ne (by omega)]
theorem tx_sm_e {t v g : Nat} : tx_sm σ t v g 4 = σ 4 + 1 ∧ tx_sm σ t v g (30 + 3 * σ 4) = t ∧ tx_sm σ t v g (31 + 3 * σ 4) = v ∧ tx_sm σ t v g (32 + 3 * σ 4) = g := by
  unfold tx_sm
  refine ⟨tx_up_eq, ?_, ?_, ?_⟩
  · rw [tx_up_ne (by omega), tx_up_ne (by omega), tx_up_ne (by omega), tx_up_eq]
  · rw [tx_up_ne (by omega), tx_up_ne (by omega), tx_up_eq]
  · rw [tx_up_ne (by omega), tx_up_eq]
theorem tx_ok_sm {t v g : Nat} (p : tx_ok σ) (h4 : σ 4 < 10) (ht : t ≤ 5) (hv : v < 10) (h6 : (σ 6).testBit v = true) (hg : g ≤ 18) : tx_ok (tx_sm σ t v g) := by
  obtain ⟨p1, p2, p3, p4, p5, p6, p7, p8, p9⟩ := p
  have e : ∀ k, k ≠ 4 → k < 30 + 3 * σ 4 → tx_sm σ t v g k = σ k := fun k h1 h2 => tx_sm_n h1 h2
  obtain ⟨e4, f1, f2, f3⟩ := tx_sm_e (σ := σ) (t := t) (v := v) (g := g)
  unfold tx_ok
  rw [e 0 (by omega) (by omega), e 1 (by omega) (by omega), e 2 (by omega) (by omega), e 3 (by omega) (by omega), e 5 (by omega) (by omega), e 7 (by omega) (by omega), e 6 (by omega) (by omega), e4]
  refine ⟨p1, p2, p3, p4, p5, p6, fun k hk => ?_, by omega, fun j hj => ?_⟩
  · rw [e (10 + k) (by omega) (by omega)]
    refine ⟨(p7 k hk).1, fun i hi => ?_⟩
    rw [e (10 + i) (by omega) (by omega)]
    exact (p7 k hk).2 i hi
  · by_cases c : j = σ 4
    · rw [c, f1, f2, f3]
      exact ⟨ht, ⟨hv, h6⟩, hg⟩
    · rw [e (30 + 3 * j) (by omega) (by omega), e (31 + 3 * j) (by omega) (by omega), e (32 + 3 * j) (by omega) (by omega)]
      exact p9 j (by omega)
theorem tx_nd_n {v k : Nat} (h : k ≠ 6) : tx_nd σ v k = σ k := tx_up_ne h
theorem tx_nd_6 {v : Nat} : tx_nd σ v 6 = σ 6 ||| 2 ^ v := tx_up_eq
theorem tx_nd_b {v : Nat} : (tx_nd σ v 6).testBit v = true := by rw [tx_nd_6, tb_or1]; exact Or.inr rfl
theorem tx_told_n {k i : Nat} (h : i ≠ 5) : ab_told σ k i = σ i := by
  unfold ab_told
  by_cases c : k ≤ 2
  · rw [if_pos c]; exact tx_up_ne h
  · rw [if_neg c]
/-! what the abstract functions answer -/
variable {n : Nat} {tp : Nat → Nat}
theorem ab_num_r {lo hi p v : Nat} (h : ab_num n tp lo hi p = .inr v) : tx_B n tp p = false ∧ tx_K n tp p = 2 ∧ (lo ≤ v ∧ v ≤ hi) ∧ tx_V n tp p = v := by
  unfold ab_num at h
  cases hB : tx_B n tp p with
  | true => rw [hB, if_pos rfl] at h; cases h
  | false =>
    rw [hB, if_neg Bool.false_ne_true] at h
    by_cases c : tx_K n tp p = 2
    · rw [if_pos c] at h
      by_cases c2 : lo ≤ tx_V n tp p ∧ tx_V n tp p ≤ hi
      · rw [if_pos c2] at h
        injection h with h
        rw [← h]
        exact ⟨rfl, c, c2, rfl⟩
      · rw [if_neg c2] at h; cases h
    · rw [if_neg c] at h; cases h
theorem ab_num_l {lo hi p : Nat} {e : Nat × Nat} (h : ab_num n tp lo hi p = .inl e) : 0 < e.1 ∧ e.1 < 10 ∧ e.2 = tx_F n tp p := by
  unfold ab_num at h
  cases hB : tx_B n tp p with
  | true =>
    rw [hB, if_pos rfl] at h
    injection h with h
    rw [← h]
    exact ⟨by omega, by omega, rfl⟩
  | false =>
    rw [hB, if_neg Bool.false_ne_true] at h
    by_cases c : tx_K n tp p = 2
    · rw [if_pos c] at h
      by_cases c2 : lo ≤ tx_V n tp p ∧ tx_V n tp p ≤ hi
      · rw [if_pos c2] at h; cases h
      · rw [if_neg c2] at h
        injection h with h
        rw [← h]
        exact ⟨by omega, by omega, rfl⟩
    · rw [if_neg c] at h
      injection h with h
      rw [← h]
      exact ⟨by omega, by omega, rfl⟩
/-- a good outcome: further on, and all is still so -/
def tx_g (n p : Nat) (r : tx_R (Nat × (Nat → Nat))) : Prop := (∀ e, r = .inl e → (0 < e.1 ∧ e.1 < 10) ∧ e.2 ≤ n) ∧ ∀ x, r = .inr x → (p ≤ x.1 ∧ x.1 ≤ n) ∧ tx_ok x.2
theorem tx_g_l {p : Nat} {e : Nat × Nat} (h1 : 0 < e.1 ∧ e.1 < 10) (h2 : e.2 ≤ n) : tx_g n p (.inl e) := ⟨fun e' q => by
  injection q with q
  rw [← q]
  exact ⟨h1, h2⟩, fun _ q => by cases q⟩
theorem tx_g_r {p q : Nat} (h1 : p ≤ q ∧ q ≤ n) (h2 : tx_ok σ) : tx_g n p (.inr (q, σ)) := ⟨fun _ w => (by cases w), fun x w => by
  injection w with w
  rw [← w]
  exact ⟨h1, h2⟩⟩
theorem tx_g_num {lo hi p : Nat} {f : Nat → tx_R (Nat × (Nat → Nat))} (hn : n ≤ 320) (hp : p ≤ n) (h : ∀ v, ab_num n tp lo hi p = .inr v → lo ≤ v → v ≤ hi → p < tx_E n tp p → tx_E n tp p ≤ n → tx_g n (p + 1) (f v)) : tx_g n (p + 1) (tx_sb (ab_num n tp lo hi p) f) := by
  obtain ⟨⟨a1, a2⟩, a3, a4, ⟨a5, a6⟩, a7, a8⟩ := tx_spec (tp := tp) hn hp
  cases hN : ab_num n tp lo hi p with
  | inl e =>
    obtain ⟨q1, q2, q3⟩ := ab_num_l hN
    exact tx_g_l ⟨q1, q2⟩ (by omega)
  | inr v =>
    obtain ⟨q1, q2, ⟨q3, q4⟩, q5⟩ := ab_num_r hN
    have := a7 (by omega)
    exact h v hN q3 q4 (by omega) a6
theorem tx_g.mono {p q : Nat} {r : tx_R (Nat × (Nat → Nat))} (h : p ≤ q) (g : tx_g n q r) : tx_g n p r := ⟨g.1, fun x w => ⟨⟨by have := (g.2 x w).1; omega, (g.2 x w).1.2⟩, (g.2 x w).2⟩⟩
theorem tx_g_sb {p : Nat} {r : tx_R (Nat × (Nat → Nat))} {f : Nat × (Nat → Nat) → tx_R (Nat × (Nat → Nat))} (g : tx_g n p r) (h : ∀ x, r = .inr x → tx_g n p (f x)) : tx_g n p (tx_sb r f) := by
  cases hr : r with
  | inl e => rw [hr] at g; exact ⟨fun e' q => by injection q with q; rw [← q]; exact g.1 e rfl, fun _ q => by cases q⟩
  | inr x => exact h x hr
theorem ab_sign_g {p : Nat} (hn : n ≤ 320) (hp : p ≤ n) (h : tx_ok σ) : tx_g n p (ab_sign n tp p σ) := by
  obtain ⟨⟨a1, a2⟩, a3, a4, ⟨a5, a6⟩, a7, a8⟩ := tx_spec (tp := tp) hn hp
  unfold ab_sign
  by_cases c : tx_B n tp p = true
  · rw [if_pos c]; exact tx_g_l ⟨by omega, by omega⟩ a2
  · rw [if_neg c]
    by_cases c2 : tx_K n tp p = 3
    · rw [if_pos c2]; exact tx_g_r ⟨by omega, a6⟩ h
    · rw [if_neg c2]; exact tx_g_l ⟨by omega, by omega⟩ a2
theorem ab_lane_g (hn : n ≤ 320) : ∀ (f a p : Nat) (σ : Nat → Nat), n - p < f → p ≤ n → tx_ok σ → a < 10 → (σ 6).testBit a = true → tx_g n (p + 1) (ab_lane n tp f a p σ) := by
  intro f
  induction f with
  | zero => intro a p σ h; omega
  | succ f ih =>
    intro a p σ hf hp ok ha h6
    obtain ⟨⟨a1, a2⟩, a3, a4, ⟨a5, a6⟩, a7, a8⟩ := tx_spec (tp := tp) hn hp
    show tx_g n (p + 1) (tx_sb (ab_num n tp 0 9 p) _)
    refine tx_g_num hn hp (fun v _ _ hv hE hE2 => ?_)
    by_cases c : v = a ∨ (σ (10 + a)).testBit v = true
    · rw [if_pos c]; exact tx_g_l ⟨by show 0 < 4; omega, by show 4 < 10; omega⟩ a2
    · rw [if_neg c]
      have ok' : tx_ok (tx_ti (tx_nd σ v) a v) := tx_ok_ti (tx_ok_nd ok (by omega)) (fun w => c (Or.inl w.symm)) ha (by omega) (by rw [tx_nd_6, tb_or1]; exact Or.inl h6) tx_nd_b
      by_cases c2 : tx_B n tp (tx_E n tp p) = false ∧ tx_K n tp (tx_E n tp p) = 2
      · rw [if_pos c2]
        refine (ih v (tx_E n tp p) _ (by omega) hE2 ok' (by omega) ?_).mono (by omega)
        rw [tx_ti_n (Or.inl (by omega)) ha (by omega)]
        exact tx_nd_b
      · rw [if_neg c2]; exact tx_g_r ⟨by omega, hE2⟩ ok'
theorem ab_body_g {k q : Nat} (hn : n ≤ 320) (hq : q ≤ n) (ok : tx_ok σ) (h6 : k = 6 → σ 4 < 10) (hk : k ≤ 6) : tx_g n q (ab_body n tp k q σ) := by
  obtain ⟨⟨a1, a2⟩, a3, a4, ⟨a5, a6⟩, a7, a8⟩ := tx_spec (tp := tp) hn hq
  match k, hk, h6 with
  | 0, _, _ =>
    show tx_g n q (tx_sb (ab_num n tp 2 10 q) _)
    exact (tx_g_num hn hq (fun v _ h1 h2 h3 h4 => tx_g_r ⟨by omega, h4⟩ (tx_ok_up ok (Or.inl ⟨rfl, h1, h2⟩)))).mono (by omega)
  | 1, _, _ => exact tx_g_r ⟨Nat.le_refl _, hq⟩ (tx_ok_up ok (Or.inr (Or.inl ⟨rfl, Nat.le_refl _⟩)))
  | 2, _, _ =>
    show tx_g n q (tx_sb (ab_num n tp 0 9 q) _)
    exact (tx_g_num hn hq (fun v _ h1 h2 h3 h4 => tx_g_r ⟨by omega, h4⟩ (tx_ok_up (tx_ok_nd ok (by omega)) (Or.inr (Or.inr (Or.inr (Or.inr (Or.inr ⟨rfl, by omega, tx_nd_b⟩)))))))).mono (by omega)
  | 3, _, _ =>
    show tx_g n q (tx_sb (ab_num n tp 0 9 q) _)
    exact (tx_g_num hn hq (fun v _ h1 h2 h3 h4 => (ab_lane_g hn 400 v (tx_E n tp q) _ (by omega) h4 (tx_ok_nd ok (by omega)) (by omega) tx_nd_b).mono (by omega))).mono (by omega)
  | 4, _, _ =>
    show tx_g n q (tx_sb (ab_num n tp 0 9 q) _)
    refine (tx_g_num hn hq (fun v _ h1 h2 h3 h4 => ?_)).mono (by omega)
    by_cases c : (σ 2).testBit v = true
    · rw [if_pos c]; exact tx_g_l ⟨by show 0 < 4; omega, by show 4 < 10; omega⟩ a2
    · rw [if_neg c]
      refine tx_g_r ⟨by omega, h4⟩ (tx_ok_up (tx_ok_nd ok (by omega)) (Or.inr (Or.inr (Or.inl ⟨rfl, or1_lt ok.2.2.1.1 (by omega), fun j hj => ?_⟩))))
      rw [tx_nd_6, tb_or1]
      exact (tb_or1.mp hj).imp (ok.2.2.1.2 j) id
  | 5, _, _ =>
    show tx_g n q (tx_sb (ab_num n tp 0 9 q) _)
    refine (tx_g_num hn hq (fun v _ h1 h2 h3 h4 => ?_)).mono (by omega)
    by_cases c : (σ 3).testBit v = true
    · rw [if_pos c]; exact tx_g_l ⟨by show 0 < 4; omega, by show 4 < 10; omega⟩ a2
    · rw [if_neg c]
      refine tx_g_r ⟨by omega, h4⟩ (tx_ok_up (tx_ok_nd ok (by omega)) (Or.inr (Or.inr (Or.inr (Or.inl ⟨rfl, or1_lt ok.2.2.2.1.1 (by omega), fun j hj => ?_⟩)))))
      rw [tx_nd_6, tb_or1]
      exact (tb_or1.mp hj).imp (ok.2.2.2.1.2 j) id
  | 6, _, h6 =>
    show tx_g n q (tx_sb (ab_num n tp 0 5 q) _)
    refine (tx_g_num hn hq (fun t _ h1 h2 h3 h4 => ?_)).mono (by omega)
    refine (tx_g_num hn h4 (fun v _ g1 g2 g3 g4 => ?_)).mono (by omega)
    refine (tx_g_num hn g4 (fun g _ w1 w2 w3 w4 => ?_)).mono (by omega)
    refine tx_g_r ⟨by omega, w4⟩ (tx_ok_sm (tx_ok_nd ok (by omega)) ?_ h2 (by omega) tx_nd_b w2)
    rw [tx_nd_n (by omega)]
    exact h6 rfl
theorem ab_line_g {p : Nat} (hn : n ≤ 320) (hp : p ≤ n) (ok : tx_ok σ) : tx_g n (p + 1) (ab_line n tp p σ) := by
  obtain ⟨⟨a1, a2⟩, a3, a4, ⟨a5, a6⟩, a7, a8⟩ := tx_spec (tp := tp) hn hp
  have hnm : tx_nm n tp p ≤ 7 := by
    unfold tx_nm
    repeat' split
    all_goals omega
  unfold ab_line
  by_cases c1 : tx_K n tp p = 1
  · have h7 := a7 (by omega)
    rw [if_pos c1]
    by_cases c2 : tx_nm n tp p = 7
    · rw [if_pos c2]; exact tx_g_l ⟨by show 0 < 2; omega, by show 2 < 10; omega⟩ a2
    · rw [if_neg c2]
      by_cases c3 : tx_nm n tp p = 6 ∧ 10 ≤ σ 4
      · rw [if_pos c3]; exact tx_g_l ⟨by show 0 < 5; omega, by show 5 < 10; omega⟩ a2
      · rw [if_neg c3]
        by_cases c4 : tx_nm n tp p ≤ 2 ∧ (σ 5).testBit (tx_nm n tp p) = true
        · rw [if_pos c4]; exact tx_g_l ⟨by show 0 < 4; omega, by show 4 < 10; omega⟩ a2
        · rw [if_neg c4]
          have g := ab_body_g (tp := tp) (k := tx_nm n tp p) (q := tx_E n tp p) hn a6 (tx_ok_told (k := tx_nm n tp p) ok) (fun e => by rw [tx_told_n (by omega)]; omega) (by omega)
          refine tx_g_sb (g.mono (by omega)) (fun x hx => ?_)
          obtain ⟨⟨g1, g2⟩, g3⟩ := g.2 x hx
          exact (ab_sign_g hn g2 g3).mono (by omega)
  · rw [if_neg c1]; exact tx_g_l ⟨by show 0 < 2; omega, by show 2 < 10; omega⟩ a2
end TO
