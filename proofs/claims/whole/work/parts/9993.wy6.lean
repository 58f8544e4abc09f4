/-! Ways that fit: their lists; the model's rows. -/
def z0 : Nat → Nat := fun _ => 0
/-- the place t of a list -/
def nz : List Nat → Nat → Nat
  | [], _ => 0
  | a :: _, 0 => a
  | _ :: l, t + 1 => nz l t
theorem nz_app {j : Nat} : ∀ (l : List Nat) (u : Nat), u ≤ l.length → nz (l ++ [j]) u = if u = l.length then j else nz l u := by
  intro l
  induction l with
  | nil =>
    intro u hu
    match u, hu with
    | 0, _ => rfl
    | u + 1, hu => exact absurd hu (by show ¬ u + 1 ≤ 0; omega)
  | cons i l ih =>
    intro u hu
    match u, hu with
    | 0, _ => rw [if_neg (by rw [List.length_cons]; omega)]; rfl
    | u + 1, hu =>
      rw [List.length_cons] at hu
      show nz (l ++ [j]) u = if u + 1 = (i :: l).length then j else nz l u
      rw [ih u (by omega), List.length_cons]
      by_cases c : u = l.length
      · rw [if_pos c, if_pos (by omega)]
      · rw [if_neg c, if_neg (by omega)]
theorem nz_appl {m : List Nat} : ∀ (l : List Nat) (u : Nat), u < l.length → nz (l ++ m) u = nz l u := by
  intro l
  induction l with
  | nil => intro u hu; exact absurd hu (Nat.not_lt_zero _)
  | cons i l ih =>
    intro u hu
    match u, hu with
    | 0, _ => rfl
    | u + 1, hu => exact ih u (by rw [List.length_cons] at hu; omega)
theorem nz_appr {m : List Nat} : ∀ (l : List Nat) (u : Nat), nz (l ++ m) (l.length + u) = nz m u := by
  intro l
  induction l with
  | nil => intro u; rw [List.length_nil, Nat.zero_add]; rfl
  | cons i l ih =>
    intro u
    rw [List.length_cons, show l.length + 1 + u = (l.length + u) + 1 by omega]
    exact ih u
/-- the nodes at turn t of the ways -/
def cbL : List (List Nat) → Nat → Nat
  | [], _ => 0
  | l :: L, t => 2 ^ nz l t ||| cbL L t
theorem tb_cbL {t i : Nat} : ∀ L, (cbL L t).testBit i = true ↔ ∃ l, l ∈ L ∧ nz l t = i := by
  intro L
  induction L with
  | nil =>
    refine ⟨fun q => ?_, fun ⟨l, h, _⟩ => absurd h List.not_mem_nil⟩
    have : (0 : Nat).testBit i = true := q
    rw [Nat.zero_testBit] at this
    cases this
  | cons l L ih =>
    show (2 ^ nz l t ||| cbL L t).testBit i = true ↔ _
    rw [Nat.testBit_or, Bool.or_eq_true, ih, tb_pow, decide_eq_true_eq]
    constructor
    · rintro (h | ⟨m, h1, h2⟩)
      · exact ⟨l, List.mem_cons_self, h⟩
      · exact ⟨m, List.mem_cons_of_mem _ h1, h2⟩
    · rintro ⟨m, h1, h2⟩
      rcases List.mem_cons.mp h1 with rfl | h1
      · exact Or.inl h2
      · exact Or.inr ⟨m, h1, h2⟩
theorem tb_iff {a b : Nat} (h : ∀ i, a.testBit i = true ↔ b.testBit i = true) : a = b := tb_ext fun i => by
  have := h i
  cases ha : a.testBit i <;> cases hb : b.testBit i <;> simp [ha, hb] at this ⊢
theorem cbL_1 {L : List (List Nat)} {l : List Nat} {t : Nat} : cbL (L ++ [l]) t = cbL L t ||| 2 ^ nz l t := tb_iff fun i => by
  rw [Nat.testBit_or, Bool.or_eq_true, tb_cbL, tb_cbL, tb_pow, decide_eq_true_eq]
  constructor
  · rintro ⟨m, h1, h2⟩
    rcases List.mem_append.mp h1 with h | h
    · exact Or.inl ⟨m, h, h2⟩
    · rw [List.mem_singleton] at h
      exact Or.inr (by rw [← h]; exact h2)
  · rintro (⟨m, h1, h2⟩ | h)
    · exact ⟨m, List.mem_append_left _ h1, h2⟩
    · exact ⟨l, List.mem_append_right _ (List.mem_singleton_self _), h⟩
section WG
variable (mv : Nat → Nat) (N W : Nat) (fit : Nat → (Nat → Nat) → Bool)
/-- the fitting ways of r nodes more: t the next one's turn, c which may be next, s the smells -/
def wyG : Nat → Nat → Nat → (Nat → Nat) → List (List Nat)
  | 0, _, _, _ => [[]]
  | r + 1, t, c, s => (List.range N).flatMap (fun i => if (c.testBit i && fit t (passS W s i)) = true then (wyG r (t + 1) (mv i) (passS W s i)).map (fun l => i :: l) else [])
/-- those that go on over i -/
def wy1 (r t c : Nat) (s : Nat → Nat) (i : Nat) : List (List Nat) := if (c.testBit i && fit t (passS W s i)) = true then (wyG mv N W fit r (t + 1) (mv i) (passS W s i)).map (fun l => i :: l) else []
/-- those over nodes below j -/
def wyP (r t c : Nat) (s : Nat → Nat) : Nat → List (List Nat)
  | 0 => []
  | j + 1 => wyP r t c s j ++ wy1 mv N W fit r t c s j
end WG
section WH
variable {mv : Nat → Nat} {N W : Nat} {fit : Nat → (Nat → Nat) → Bool}
theorem wyG_S {r t c : Nat} {s : Nat → Nat} : wyG mv N W fit (r + 1) t c s = wyP mv N W fit r t c s N := by
  have h : ∀ n, (List.range n).flatMap (wy1 mv N W fit r t c s) = wyP mv N W fit r t c s n := by
    intro n
    induction n with
    | zero => rfl
    | succ n ih =>
      rw [List.range_succ, List.flatMap_append, ih]
      show _ = wyP mv N W fit r t c s n ++ wy1 mv N W fit r t c s n
      rw [List.flatMap_cons, List.flatMap_nil, List.append_nil]
  exact h N
theorem wyG_b : ∀ r t c s, (wyG mv N W fit r t c s).length ≤ N ^ r := by
  intro r
  induction r with
  | zero => intro t c s; exact Nat.le_refl _
  | succ r ih =>
    intro t c s
    have h : ∀ n, (wyP mv N W fit r t c s n).length ≤ n * N ^ r := by
      intro n
      induction n with
      | zero => exact Nat.zero_le _
      | succ n ihn =>
        have e : (wy1 mv N W fit r t c s n).length ≤ N ^ r := by
          unfold wy1
          by_cases q : (c.testBit n && fit t (passS W s n)) = true
          · rw [if_pos q, List.length_map]; exact ih _ _ _
          · rw [if_neg q]; exact Nat.zero_le _
        show (wyP mv N W fit r t c s n ++ wy1 mv N W fit r t c s n).length ≤ _
        rw [List.length_append, Nat.succ_mul]
        omega
    rw [wyG_S, Nat.pow_succ, Nat.mul_comm]
    exact h N
end WH
/-- where the model goes on: the start, then the moves of the latest node -/
def cnd (c0 : Nat) (mv : Nat → Nat) (pre : List Nat) : Nat := if pre.length = 0 then c0 else mv (nz pre (pre.length - 1))
def mwE (n : Nat) (L : List (List Nat)) (G : hs_H) : Prop := G.1 12 0 24 = nI L.length ∧ (∀ t, t ≤ n → G.1 51 0 t = nI (cbL L t)) ∧ ∀ x X, L = x :: X → ∀ t, t ≤ n → G.1 52 0 t = nI (nz x t)
def mwF (h0 G : hs_H) : Prop := hs_fr [(12, some 0), (49, some 0), (50, some 0), (51, some 0), (52, some 0)] h0 G ∧ ∀ x, x ≠ 24 → G.1 12 0 x = h0.1 12 0 x
def mwI (N W n : Nat) (pre : List Nat) (L : List (List Nat)) (h0 G : hs_H) : Prop := mwF h0 G ∧ (∀ u, u < pre.length → nz pre u < N ∧ G.1 49 0 u = nI (nz pre u) ∧ ∀ k, k < N → G.1 50 0 (10 * u + k) = nI (smA W z0 pre (u + 1) k)) ∧ mwE n L G
section MW
variable {N W n : Nat} {h0 G : hs_H} {pre : List Nat} {L : List (List Nat)}
theorem z0_ok : (∀ k, z0 k ≤ 18) ∧ ∀ k, W.testBit k = true → z0 k = 0 := ⟨fun _ => Nat.zero_le _, fun _ _ => rfl⟩
theorem mwF.fr {H : hs_H} (f : mwF h0 G) (g : hs_fr [(49, some 0), (50, some 0)] G H) : mwF h0 H := ⟨f.1.tr (g.sub (hs_sub_cons (.inl (.tail _ (.head _))) (hs_sub_cons (.inl (.tail _ (.tail _ (.head _)))) hs_sub_nil))), fun x hx => by rw [(g 12 0 (by intro q hq; revert q; simp)).1]; exact f.2 x hx⟩
theorem mwE.fr {H : hs_H} (f : mwE n L G) (g : hs_fr [(49, some 0), (50, some 0)] G H) : mwE n L H := by
  have e1 := (g 12 0 (by intro q hq; revert q; simp)).1
  have e2 := (g 51 0 (by intro q hq; revert q; simp)).1
  have e3 := (g 52 0 (by intro q hq; revert q; simp)).1
  unfold mwE at f ⊢
  rw [e1, e2, e3]
  exact f
theorem stH_fr {t to : Nat} {s : Nat → Nat} : hs_fr [(49, some 0), (50, some 0)] G (stH G t to N s) := (hs_fr.rf.put (.inl (.head _))).tr (hs_rowb_fr (.inl (.tail _ (.head _))))
/-- a node more on the model's way -/
theorem mw_push {j : Nat} (hN : N ≤ 10) (hj : j < N) (p : mwI N W n pre L h0 G) : mwI N W n (pre ++ [j]) L h0 (stH G pre.length j N (passS W (smA W z0 pre pre.length) j)) := by
  obtain ⟨p1, p2, p3⟩ := p
  refine ⟨p1.fr stH_fr, fun u hu => ?_, p3.fr stH_fr⟩
  rw [List.length_append] at hu
  have hu2 : u ≤ pre.length := by
    have : [j].length = 1 := rfl
    omega
  rw [nz_app pre u hu2, smA_app pre z0 (u + 1) (by omega)]
  unfold stH
  by_cases c : u = pre.length
  · rw [if_pos c, if_pos (by omega)]
    refine ⟨hj, ?_, fun k hk => ?_⟩
    · rw [nx_rowbget, if_neg (by omega), nx_get, if_pos ⟨rfl, rfl, c⟩]
    · rw [nx_rowbget, if_pos (by omega), show 10 * u + k - 10 * pre.length = k by omega]
  · rw [if_neg c, if_neg (by omega)]
    obtain ⟨q0, q1, q2⟩ := p2 u (by omega)
    refine ⟨q0, ?_, fun k hk => ?_⟩
    · rw [nx_rowbget, if_neg (by omega), nx_get, if_neg (by omega)]; exact q1
    · rw [nx_rowbget, if_neg (by omega), nx_get, if_neg (by omega)]; exact q2 k hk
theorem mw_pop {j : Nat} (p : mwI N W n (pre ++ [j]) L h0 G) : mwI N W n pre L h0 G := by
  obtain ⟨p1, p2, p3⟩ := p
  refine ⟨p1, fun u hu => ?_, p3⟩
  have h := p2 u (by rw [List.length_append]; omega)
  rw [nz_app pre u (by omega), smA_app pre z0 (u + 1) (by omega), if_neg (by omega), if_neg (by omega)] at h
  exact h
/-- the model takes its way -/
theorem mw_take (hn : n ≤ 5) (hN : N ≤ 10) (hl : pre.length = n + 1) (hL : L.length < 2000000) (p : mwI N W n pre L h0 G) : ∃ G', hf_192 (nI n) G = some G' ∧ mwI N W n pre (L ++ [pre]) h0 G' := by
  obtain ⟨⟨p1, p2⟩, p3, p4, p5, p6⟩ := p
  obtain ⟨H, q1, q2, q3, q4, q5, q6⟩ := sp_192 (n := n) (c := L.length) (pt := nz pre) (cb := cbL L) (h := G) hn (by omega) (fun t ht => (p3 t (by omega)).2.1) (fun t ht => by have := (p3 t (by omega)).1; omega) p5 p4
  refine ⟨H, q1, ⟨p1.tr (q2.sub (hs_sub_cons (.inl (.head _)) (hs_sub_cons (.inl (.tail _ (.tail _ (.tail _ (.head _))))) (hs_sub_cons (.inl (.tail _ (.tail _ (.tail _ (.tail _ (.head _)))))) hs_sub_nil)))), fun x hx => by rw [q3 x hx]; exact p2 x hx⟩, fun u hu => ?_, ?_, fun t ht => ?_, fun x X e t ht => ?_⟩
  · rw [(q2 49 0 (by intro q hq; revert q; simp)).1, (q2 50 0 (by intro q hq; revert q; simp)).1]
    exact p3 u hu
  · rw [List.length_append]
    exact q4
  · rw [q5 t ht, cbL_1]
  · rw [q6 t ht]
    cases L with
    | nil =>
      have e2 : pre = x := by
        have : [pre] = x :: X := e
        injection this
      rw [if_pos (show ([] : List (List Nat)).length = 0 from rfl), e2]
    | cons y Y =>
      have e2 : y = x := by
        have : y :: (Y ++ [pre]) = x :: X := e
        injection this
      rw [if_neg (by rw [List.length_cons]; omega), ← e2]
      exact p6 y Y rfl t ht
end MW
