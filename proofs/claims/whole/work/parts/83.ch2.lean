/-! Chases: the class's rounds. -/
theorem lp_q2 {α β : Type} {f : (α → Option β) → α → Option β} {I : Nat → α → Prop} {Q : Option β → Prop} (step : ∀ d s, I d s → ∀ k, Q (f k s) ∨ ∃ d' s', d' < d ∧ I d' s' ∧ f k s = k s') : ∀ (d : Nat) (s : α) (n : Nat), I d s → d < n → Q (hs_lp f n s) := by
  intro d
  induction d using Nat.strongRecOn with
  | ind d ih =>
    intro s n hI hn
    match n, hn with
    | n + 1, hn =>
      show Q (f (hs_lp f n) s)
      rcases step d s hI (hs_lp f n) with h | ⟨d', s', hd, hI', he⟩
      · exact h
      · rw [he]
        exact ih d' hd s' n hI' (by omega)
theorem sp_241 {a d : Nat} {h : hs_H} (ha : a < d) (hd : d < 2147483648) : hf_241 (nI a) (nI d) h = some (nI a, h) := by
  have hx : a ^^^ d < 2147483648 := Nat.xor_lt_two_pow (n := 31) (by omega) (by omega)
  unfold hf_241 hb_241_18
  rw [nz_nI (by omega) hd, nx_ck, nx_xor, if_pos (nI_pos' hx), pk_rem (by omega) (by omega) (by omega), Nat.mod_eq_of_lt ha]
theorem sp_21 {a b : Nat} {h : hs_H} (ha : a < 10) (hb : b < 10) : hf_21 (nI a) (nI b) h = some (nI (10 * a + b), h) := by
  unfold hf_21
  rw [pk_mul, nI_add, sp_241 (by omega) (by omega), Option.bind_some]
theorem sp_22 {f a b : Nat} {h : hs_H} (hf : f < 10) (ha : a < 10) (hb : b < 10) : hf_22 (nI f) (nI a) (nI b) h = some (nI (100 * f + 10 * a + b), h) := by
  unfold hf_22
  rw [pk_mul, pk_mul, nI_add, nI_add, sp_241 (by omega) (by omega), Option.bind_some]
/-- what of the net a chase reads -/
def ch_n (N re : Nat) (J : Nat → Nat) (h : hs_H) : Prop := h.1 4 0 1 = nI N ∧ h.1 4 0 2 = nI re ∧ ∀ k, k < 10 → h.1 27 0 k = nI (J k)
theorem ch_n_fr {N re : Nat} {J : Nat → Nat} {K : List (Nat × Option Nat)} {h H : hs_H} (f : hs_fr K h H) (o : st_outb K [(4, 0), (27, 0)] = true) (p : ch_n N re J h) : ch_n N re J H := by
  have e := st_out_at f o
  have e1 : H.1 4 0 = h.1 4 0 := e (4, 0) (by simp)
  have e2 : H.1 27 0 = h.1 27 0 := e (27, 0) (by simp)
  unfold ch_n
  rw [e1, e2]
  exact p
section CH
variable {J : Nat → Nat} {N re : Nat}
theorem rch_lt {a : Nat} (hJ : ∀ k, J k < 2 ^ N) (ha : a < N) : rch J a < 2 ^ N := or_lt (hJ a) (Nat.pow_lt_pow_right (by omega) ha)
theorem sp_20 {a : Nat} {h : hs_H} (n : ch_n N re J h) (ha : a < 10) : hf_20 (nI a) h = some (nI (rch J a), h) := by
  unfold hf_20
  rw [sp_32 n.2.2 ha, Option.bind_some]
  dsimp only
  rw [nx_shl1 (by omega), nx_or]
  rfl
theorem sp_14 {a b : Nat} {l : Nat → Nat → Nat} {h : hs_H} (n : ch_n N re J h) (hN : N ≤ 10) (hJ : ∀ k, J k < 2 ^ N) (ha : a < N) (hb : b < N) (hl : ∀ i j, i < N → j < N → h.1 25 0 (10 * i + j) = nI (l i j)) : hf_14 (nI a) (nI b) h = some (nI (dead J N l a b), h) := by
  have hp := p2_lt hN
  have hRa := rch_lt hJ ha
  have hRb := rch_lt hJ hb
  unfold hf_14
  rw [sp_20 n (by omega), Option.bind_some]
  dsimp only
  rw [sp_20 n (by omega), Option.bind_some]
  dsimp only
  unfold dead
  generalize rch J a = Ra at hRa
  generalize rch J b = Rb at hRb
  refine lp_for (st := fun i => (nI Ra, nI Rb, nI (dAll l N Ra Rb i), nI i, h)) (e := N) (fun i hi k => ?_) (fun k => ?_) 0 hs_big (by omega) (lp_big (by omega))
  · show hb_14_19 k (nI Ra) (nI Rb) (nI (dAll l N Ra Rb i)) (nI i) h = k (nI Ra, nI Rb, nI (if Ra.testBit i = true then dAll l N Ra Rb i ||| dRow l i Rb N else dAll l N Ra Rb i), nI (i + 1), h)
    unfold hb_14_19
    rw [n.1, if_neg (nI_ge hi (by omega))]
    cases hbi : Ra.testBit i with
    | false =>
      rw [if_neg Bool.false_ne_true]
      refine lp_for (st := fun _ => (nI Ra, nI Rb, nI (dAll l N Ra Rb i), nI i, nI 0, h)) (e := 0) (fun j hj k => by omega) (fun q => ?_) 0 hs_big (by omega) (lp_big (by omega))
      show hb_14_34 k q (nI Ra) (nI Rb) (nI (dAll l N Ra Rb i)) (nI i) (nI 0) h = _
      unfold hb_14_34 hb_14_92
      rw [n.1, if_neg (nI_ge (by omega) (by omega)), sp_147 (by omega) (by omega), hbi, Option.bind_some]
      dsimp only
      rw [if_pos (by decide), nI_add]
    | true =>
      rw [if_pos rfl]
      have s : hs_lp (fun k1 s => hb_14_34 k k1 s.1 s.2.1 s.2.2.1 s.2.2.2.1 s.2.2.2.2.1 s.2.2.2.2.2) hs_big (nI Ra, nI Rb, nI (dAll l N Ra Rb i ||| dRow l i Rb 0), nI i, nI 0, h) = k (nI Ra, nI Rb, nI (dAll l N Ra Rb i ||| dRow l i Rb N), nI (i + 1), h) := by
        refine lp_for (st := fun j => (nI Ra, nI Rb, nI (dAll l N Ra Rb i ||| dRow l i Rb j), nI i, nI j, h)) (e := N) (fun j hj q => ?_) (fun q => ?_) 0 hs_big (by omega) (lp_big (by omega))
        · show hb_14_34 k q (nI Ra) (nI Rb) (nI (dAll l N Ra Rb i ||| dRow l i Rb j)) (nI i) (nI j) h = q (nI Ra, nI Rb, nI (dAll l N Ra Rb i ||| (dRow l i Rb j ||| (if Rb.testBit j = true then l i j else 0))), nI i, nI (j + 1), h)
          unfold hb_14_34 hb_14_83
          rw [n.1, if_neg (nI_ge hj (by omega)), sp_147 (by omega) (by omega), hbi, Option.bind_some]
          dsimp only
          rw [if_neg (by decide), sp_147 (by omega) (by omega), Option.bind_some]
          dsimp only
          cases hbj : Rb.testBit j with
          | false => rw [if_pos (by decide), nx_or, if_neg Bool.false_ne_true, nI_add, Nat.or_assoc]
          | true =>
            rw [if_neg (by decide), sp_21 (by omega) (by omega), Option.bind_some]
            dsimp only
            rw [nx_inb (by omega) (by omega), nx_ck, nI_clamp (by omega), hl i j hi hj, nx_or, if_pos rfl, nI_add, Nat.or_assoc]
        · show hb_14_34 k q (nI Ra) (nI Rb) (nI (dAll l N Ra Rb i ||| dRow l i Rb N)) (nI i) (nI N) h = _
          unfold hb_14_34 hb_14_92
          rw [n.1, if_pos (nI_le (Nat.le_refl _) (by omega)), nI_add]
      rw [show dAll l N Ra Rb i ||| dRow l i Rb 0 = dAll l N Ra Rb i from Nat.or_zero _] at s
      exact s
  · show hb_14_19 k (nI Ra) (nI Rb) (nI (dAll l N Ra Rb N)) (nI N) h = _
    unfold hb_14_19
    rw [n.1, if_pos (nI_le (Nat.le_refl _) (by omega))]
theorem dead_lt {l : Nat → Nat → Nat} {a b : Nat} (hl : ∀ i j, i < N → j < N → l i j < 2 ^ N) : dead J N l a b < 2 ^ N := by
  apply Nat.lt_pow_two_of_testBit
  intro t ht
  apply eq_false_of_ne_true
  intro q
  obtain ⟨i, hi, -, j, hj, -, h3⟩ := tb_dead.mp q
  have := tb_in (hl i j hi hj) h3
  omega
theorem sp_13 {a b : Nat} {l : Nat → Nat → Nat} {h : hs_H} (n : ch_n N re J h) (hN : N ≤ 10) (hJ : ∀ k, J k < 2 ^ N) (hre : re = 0 ∨ re = 1) (ha : a < N) (hb : b < N) (hll : ∀ i j, i < N → j < N → l i j < 2 ^ N) (hl : ∀ i j, i < N → j < N → h.1 25 0 (10 * i + j) = nI (l i j)) : hf_13 (nI a) (nI b) (nI (l a b)) h = some (nI (sel (newl J N re l a b) N), h) := by
  have hp := p2_lt hN
  have hD := dead_lt (J := J) (a := a) (b := b) hll
  have hw := hll a b ha hb
  unfold hf_13
  rw [sp_14 n hN hJ ha hb hl, Option.bind_some]
  dsimp only
  refine lp_for (st := fun f => (nI (l a b), nI (dead J N l a b), nI (sel (newl J N re l a b) f), nI f, h)) (e := N) (fun f hf k => ?_) (fun k => ?_) 0 hs_big (by omega) (lp_big (by omega))
  · show hb_13_14 k (nI (l a b)) (nI (dead J N l a b)) (nI (sel (newl J N re l a b) f)) (nI f) h = k (nI (l a b), nI (dead J N l a b), nI (sel (newl J N re l a b) f ||| (if newl J N re l a b f = true then 2 ^ f else 0)), nI (f + 1), h)
    have hs := stp_lt (re := re) hJ hre hf
    have hdl := dif_le (stp J re f) (dead J N l a b)
    unfold hb_13_14 hb_13_61
    rw [n.1, if_neg (nI_ge hf (by omega)), sp_147 (by omega) (by omega), Option.bind_some]
    dsimp only
    unfold newl
    cases h1 : (l a b).testBit f with
    | true => rw [if_pos (by decide), Bool.not_true, Bool.false_and, if_neg Bool.false_ne_true, Nat.or_zero, nI_add]
    | false =>
      rw [if_neg (by decide), sp_40 n.1 n.2.1 hre n.2.2 hJ hf hN, Option.bind_some, Bool.not_false, Bool.true_and]
      dsimp only
      rw [nx_dif]
      by_cases h2 : dif (stp J re f) (dead J N l a b) = 0
      · rw [h2, if_neg (fun q => q rfl), if_pos (by decide), nx_shl1 (by omega), nx_or, nI_add]
      · rw [if_pos (nI_ne0 (by omega) (by omega)), if_neg (fun q => h2 (by simpa using q)), Nat.or_zero, nI_add]
  · show hb_13_14 k (nI (l a b)) (nI (dead J N l a b)) (nI (sel (newl J N re l a b) N)) (nI N) h = _
    unfold hb_13_14
    rw [n.1, if_pos (nI_le (Nat.le_refl _) (by omega))]
theorem sp_15 {a b fx r : Nat} {h : hs_H} (n : ch_n N re J h) (hN : N ≤ 10) (ha : a < N) (hb : b < N) (hfx : fx < 2147483648) : ∃ H, hf_15 (nI a) (nI b) (nI fx) (nI r) h = some H ∧ hs_fr [(24, some 0)] h H ∧ ∀ g x y, g < N → x < N → y < N → ((fx.testBit g = true ∧ ((x = a ∧ y = b) ∨ (x = b ∧ y = a))) → H.1 24 0 (100 * g + 10 * x + y) = nI r) ∧ (¬ (fx.testBit g = true ∧ ((x = a ∧ y = b) ∨ (x = b ∧ y = a))) → H.1 24 0 (100 * g + 10 * x + y) = h.1 24 0 (100 * g + 10 * x + y)) := by
  unfold hf_15
  refine lp_q2 (I := fun d q => ∃ f H, f ≤ N ∧ d = N - f ∧ (hs_fr [(24, some 0)] h H ∧ ∀ g x y, g < N → x < N → y < N → ((g < f ∧ fx.testBit g = true ∧ ((x = a ∧ y = b) ∨ (x = b ∧ y = a))) → H.1 24 0 (100 * g + 10 * x + y) = nI r) ∧ (¬ (g < f ∧ fx.testBit g = true ∧ ((x = a ∧ y = b) ∨ (x = b ∧ y = a))) → H.1 24 0 (100 * g + 10 * x + y) = h.1 24 0 (100 * g + 10 * x + y))) ∧ q = (nI a, nI b, nI fx, nI r, nI f, H)) (Q := fun o => ∃ H, o = some H ∧ hs_fr [(24, some 0)] h H ∧ ∀ g x y, g < N → x < N → y < N → ((fx.testBit g = true ∧ ((x = a ∧ y = b) ∨ (x = b ∧ y = a))) → H.1 24 0 (100 * g + 10 * x + y) = nI r) ∧ (¬ (fx.testBit g = true ∧ ((x = a ∧ y = b) ∨ (x = b ∧ y = a))) → H.1 24 0 (100 * g + 10 * x + y) = h.1 24 0 (100 * g + 10 * x + y))) (fun d q hI k => ?_) N _ hs_big ⟨0, h, by omega, rfl, ⟨hs_fr.rf, fun g x y _ _ _ => ⟨fun q => absurd q.1 (Nat.not_lt_zero _), fun _ => rfl⟩⟩, rfl⟩ (lp_big (by omega))
  obtain ⟨f, H, hf, rfl, ⟨fr, hv⟩, rfl⟩ := hI
  have n' := ch_n_fr fr rfl n
  by_cases h1 : f = N
  · subst h1
    refine Or.inl ⟨H, ?_, fr, fun g x y hg hx hy => ⟨fun q => (hv g x y hg hx hy).1 ⟨hg, q⟩, fun q => (hv g x y hg hx hy).2 (fun w => q w.2)⟩⟩
    show hb_15_3 k (nI a) (nI b) (nI fx) (nI r) (nI f) H = _
    unfold hb_15_3
    rw [n'.1, if_pos (nI_le (Nat.le_refl _) (by omega))]
  · refine Or.inr ?_
    cases h2 : fx.testBit f with
    | false =>
      refine ⟨N - (f + 1), _, by omega, ⟨f + 1, H, by omega, rfl, ⟨fr, fun g x y hg hx hy => ⟨fun q => (hv g x y hg hx hy).1 ⟨?_, q.2⟩, fun q => (hv g x y hg hx hy).2 (fun w => q ⟨by omega, w.2⟩)⟩⟩, rfl⟩, ?_⟩
      · by_cases e : g = f
        · subst e; rw [h2] at q; exact absurd q.2.1 (by decide)
        · omega
      · show hb_15_3 k (nI a) (nI b) (nI fx) (nI r) (nI f) H = _
        unfold hb_15_3 hb_15_52
        rw [n'.1, if_neg (nI_ge (by omega) (by omega)), sp_147 hfx (by omega), h2, Option.bind_some]
        dsimp only
        rw [if_pos (by decide), nI_add]
    | true =>
      refine ⟨N - (f + 1), _, by omega, ⟨f + 1, hs_put (hs_put H 24 0 (100 * f + 10 * a + b) (nI r)) 24 0 (100 * f + 10 * b + a) (nI r), by omega, rfl, ⟨(fr.put (.inl (.head _))).put (.inl (.head _)), fun g x y hg hx hy => ⟨fun q => ?_, fun q => ?_⟩⟩, rfl⟩, ?_⟩
      · rw [nx_get]
        by_cases c1 : 24 = 24 ∧ 0 = 0 ∧ 100 * g + 10 * x + y = 100 * f + 10 * b + a
        · rw [if_pos c1]
        · rw [if_neg c1, nx_get]
          by_cases c2 : 24 = 24 ∧ 0 = 0 ∧ 100 * g + 10 * x + y = 100 * f + 10 * a + b
          · rw [if_pos c2]
          · rw [if_neg c2]
            refine (hv g x y hg hx hy).1 ⟨?_, q.2⟩
            by_cases e : g = f
            · subst e
              rcases q.2.2 with ⟨rfl, rfl⟩ | ⟨rfl, rfl⟩
              · exact absurd ⟨rfl, rfl, rfl⟩ c2
              · exact absurd ⟨rfl, rfl, rfl⟩ c1
            · omega
      · have hgf : ¬ (g = f ∧ ((x = a ∧ y = b) ∨ (x = b ∧ y = a))) := fun w => q ⟨by omega, by rw [w.1]; exact h2, w.2⟩
        rw [nx_get, if_neg (by omega), nx_get, if_neg (by omega)]
        exact (hv g x y hg hx hy).2 (fun w => q ⟨by omega, w.2⟩)
      · show hb_15_3 k (nI a) (nI b) (nI fx) (nI r) (nI f) H = _
        unfold hb_15_3 hb_15_52
        rw [n'.1, if_neg (nI_ge (by omega) (by omega)), sp_147 hfx (by omega), h2, Option.bind_some]
        dsimp only
        rw [if_neg (by decide), sp_22 (by omega) (by omega) (by omega), Option.bind_some]
        dsimp only
        rw [nx_inb (by omega) (by omega), nx_ck, nI_clamp (by omega), sp_22 (by omega) (by omega) (by omega), Option.bind_some]
        dsimp only
        rw [nx_inb (by omega) (by omega), nx_ck, nI_clamp (by omega), nI_add]
/-- pairs of hounds that a round has seen to, ahead of a and b -/
def dn (a b x y : Nat) : Prop := x < a ∨ y < a ∨ (x = a ∧ y < b) ∨ (y = a ∧ x < b)
def rdS (J : Nat → Nat) (N re r a b : Nat) (m : Bool) (h H : hs_H) : Prop :=
  hs_fr [(24, some 0), (26, some 0)] h H ∧ (∀ x y, x < N → y < N → dn a b x y → H.1 26 0 (10 * x + y) = nI (lst J N re (r + 1) x y)) ∧ (∀ f x y, f < N → x < N → y < N → (dn a b x y → H.1 24 0 (100 * f + 10 * x + y) = nI (tms J N re (r + 1) f x y)) ∧ (¬ dn a b x y → H.1 24 0 (100 * f + 10 * x + y) = nI (tms J N re r f x y))) ∧ (m = true ↔ ∃ x y, x < N ∧ y < N ∧ dn a b x y ∧ lst J N re (r + 1) x y ≠ lst J N re r x y)
theorem sp_12i {r a b : Nat} {m : Bool} {h H : hs_H} (k4 : Int32 × Int32 × Int32 × hs_H → Option (Int32 × hs_H)) (n : ch_n N re J h) (hN : N ≤ 10) (hJ : ∀ k, J k < 2 ^ N) (hre : re = 0 ∨ re = 1) (hr : r < 1000) (hab : a ≤ b) (hb : b < N) (h25 : ∀ x y, x < N → y < N → h.1 25 0 (10 * x + y) = nI (lst J N re r x y)) (p : rdS J N re r a b m h H) : ∃ m' H', rdS J N re r a (b + 1) m' h H' ∧ ∀ k, hb_12_18 k4 k (nI (r + 1)) (bI m) (nI a) (nI b) H = k (nI (r + 1), bI m', nI a, nI (b + 1), H') := by
  have hp := p2_lt hN
  obtain ⟨p1, p2, p3, p4⟩ := p
  have n' := ch_n_fr p1 rfl n
  have e25 : H.1 25 0 = h.1 25 0 := (p1 25 0 (by intro q hq; revert q; simp)).1
  have hl : ∀ i j, i < N → j < N → H.1 25 0 (10 * i + j) = nI (lst J N re r i j) := fun i j hi hj => by rw [e25]; exact h25 i j hi hj
  have hll : ∀ i j, i < N → j < N → lst J N re r i j < 2 ^ N := fun i j hi hj => lst_lt hi hj r
  have e13 := sp_13 n' hN hJ hre (show a < N by omega) hb hll hl
  have hw := hll a b (by omega) hb
  have hn := lst_lt (J := J) (re := re) (show a < N by omega) hb (r + 1)
  have eS : lst J N re r a b ||| sel (newl J N re (lst J N re r) a b) N = lst J N re (r + 1) a b := rfl
  have hdl := dif_le (lst J N re (r + 1) a b) (lst J N re r a b)
  have f2 : hs_fr [(24, some 0), (26, some 0)] h (hs_put (hs_put H 26 0 (10 * a + b) (nI (lst J N re (r + 1) a b))) 26 0 (10 * b + a) (nI (lst J N re (r + 1) a b))) := (p1.put (.inl (.tail _ (.head _)))).put (.inl (.tail _ (.head _)))
  obtain ⟨G, g1, g2, g3⟩ := sp_15 (a := a) (b := b) (fx := dif (lst J N re (r + 1) a b) (lst J N re r a b)) (r := r + 1) (ch_n_fr f2 rfl n) hN (by omega) hb (by omega)
  have e26 : G.1 26 0 = (hs_put (hs_put H 26 0 (10 * a + b) (nI (lst J N re (r + 1) a b))) 26 0 (10 * b + a) (nI (lst J N re (r + 1) a b))).1 26 0 := (g2 26 0 (by intro q hq; revert q; simp)).1
  have hfx : ∀ g, (dif (lst J N re (r + 1) a b) (lst J N re r a b)).testBit g = true ↔ tms J N re r g a b = 1000000 ∧ (lst J N re (r + 1) a b).testBit g = true := fun g => by
    rw [tb_dif (by omega), Bool.and_eq_true, Bool.not_eq_true']
    constructor
    · rintro ⟨q1, q2⟩
      refine ⟨?_, q1⟩
      apply Classical.byContradiction
      intro w
      rw [(tms_in (by omega)).mpr w] at q2
      cases q2
    · rintro ⟨q1, q2⟩
      exact ⟨q2, eq_false_of_ne_true (fun w => (tms_in (by omega)).mp w q1)⟩
  have tS : ∀ g, tms J N re (r + 1) g a b = if tms J N re r g a b = 1000000 ∧ (lst J N re (r + 1) a b).testBit g = true then r + 1 else tms J N re r g a b := fun g => rfl
  refine ⟨m || !decide (lst J N re (r + 1) a b = lst J N re r a b), G, ⟨f2.tr (g2.sub (hs_sub_cons (.inl (.head _)) hs_sub_nil)), fun x y hx hy hd => ?_, fun f x y hf hx hy => ?_, ?_⟩, fun k => ?_⟩
  · rw [e26, nx_get]
    by_cases c1 : 26 = 26 ∧ 0 = 0 ∧ 10 * x + y = 10 * b + a
    · rw [if_pos c1, show x = b by omega, show y = a by omega, lst_sym (r + 1) b a]
    · rw [if_neg c1, nx_get]
      by_cases c2 : 26 = 26 ∧ 0 = 0 ∧ 10 * x + y = 10 * a + b
      · rw [if_pos c2, show x = a by omega, show y = b by omega]
      · rw [if_neg c2]
        refine p2 x y hx hy ?_
        unfold dn at hd ⊢
        by_cases w1 : x = a ∧ y = b
        · exact absurd ⟨rfl, rfl, by omega⟩ c2
        · by_cases w2 : x = b ∧ y = a
          · exact absurd ⟨rfl, rfl, by omega⟩ c1
          · omega
  · have e24 : ∀ p, (hs_put (hs_put H 26 0 (10 * a + b) (nI (lst J N re (r + 1) a b))) 26 0 (10 * b + a) (nI (lst J N re (r + 1) a b))).1 24 0 p = H.1 24 0 p := fun p => by rw [nx_get, if_neg (by omega), nx_get, if_neg (by omega)]
    have g3' := g3 f x y hf hx hy
    rw [e24] at g3'
    by_cases w : (x = a ∧ y = b) ∨ (x = b ∧ y = a)
    · have hdn : dn a (b + 1) x y := by unfold dn; omega
      have hnd : ¬ dn a b x y := by unfold dn; omega
      refine ⟨fun _ => ?_, fun q => absurd hdn q⟩
      have exy : tms J N re (r + 1) f x y = tms J N re (r + 1) f a b ∧ tms J N re r f x y = tms J N re r f a b := by
        rcases w with ⟨rfl, rfl⟩ | ⟨rfl, rfl⟩
        · exact ⟨rfl, rfl⟩
        · exact ⟨tms_sym _ _ _ _, tms_sym _ _ _ _⟩
      rw [exy.1, tS f]
      by_cases c : tms J N re r f a b = 1000000 ∧ (lst J N re (r + 1) a b).testBit f = true
      · rw [if_pos c]
        exact g3'.1 ⟨(hfx f).mpr c, w⟩
      · rw [if_neg c, g3'.2 (fun q => c ((hfx f).mp q.1)), (p3 f x y hf hx hy).2 hnd, exy.2]
    · have hdd : dn a (b + 1) x y ↔ dn a b x y := by unfold dn; omega
      rw [g3'.2 (fun q => w q.2), hdd]
      exact p3 f x y hf hx hy
  · rw [Bool.or_eq_true, p4, Bool.not_eq_true', decide_eq_false_iff_not]
    constructor
    · rintro (⟨x, y, hx, hy, hd, hne⟩ | hne)
      · exact ⟨x, y, hx, hy, by unfold dn at hd ⊢; omega, hne⟩
      · exact ⟨a, b, by omega, hb, by unfold dn; omega, hne⟩
    · rintro ⟨x, y, hx, hy, hd, hne⟩
      by_cases w : (x = a ∧ y = b) ∨ (x = b ∧ y = a)
      · refine Or.inr ?_
        rcases w with ⟨rfl, rfl⟩ | ⟨rfl, rfl⟩
        · exact hne
        · rw [lst_sym (r + 1), lst_sym r]; exact hne
      · exact Or.inl ⟨x, y, hx, hy, by unfold dn at hd ⊢; omega, hne⟩
  · unfold hb_12_18 hb_12_111
    rw [n'.1, if_neg (nI_ge hb (by omega)), sp_21 (by omega) (by omega), Option.bind_some]
    dsimp only
    rw [nx_inb (by omega) (by omega), nx_ck, nI_clamp (by omega), hl a b (by omega) hb, e13, Option.bind_some]
    dsimp only
    rw [nx_or, eS, sp_21 (by omega) (by omega), Option.bind_some]
    dsimp only
    rw [nx_inb (by omega) (by omega), nx_ck, nI_clamp (by omega), sp_21 (by omega) (by omega), Option.bind_some]
    dsimp only
    rw [nx_inb (by omega) (by omega), nx_ck, nI_clamp (by omega), nx_dif, g1, Option.bind_some]
    by_cases c : lst J N re (r + 1) a b = lst J N re r a b
    · rw [if_pos (by rw [c]), decide_eq_true c, nI_add]
      cases m <;> rfl
    · rw [if_neg (fun q => c (nI_inj (by omega) (by omega) q)), decide_eq_false c, nI_add]
      cases m <;> rfl
theorem sp_12 {r : Nat} {h : hs_H} (n : ch_n N re J h) (hN : N ≤ 10) (hJ : ∀ k, J k < 2 ^ N) (hre : re = 0 ∨ re = 1) (hr : r < 1000) (h25 : ∀ x y, x < N → y < N → h.1 25 0 (10 * x + y) = nI (lst J N re r x y)) (h24 : ∀ f x y, f < N → x < N → y < N → h.1 24 0 (100 * f + 10 * x + y) = nI (tms J N re r f x y)) : ∃ m H, hf_12 (nI (r + 1)) h = some (bI m, H) ∧ hs_fr [(24, some 0), (25, some 0), (26, some 0)] h H ∧ (∀ x y, x < N → y < N → H.1 25 0 (10 * x + y) = nI (lst J N re (r + 1) x y)) ∧ (∀ f x y, f < N → x < N → y < N → H.1 24 0 (100 * f + 10 * x + y) = nI (tms J N re (r + 1) f x y)) ∧ (m = true ↔ chg J N re r) := by
  unfold hf_12
  have h0 : rdS J N re r 0 0 false h h := ⟨hs_fr.rf, fun x y _ _ hd => by unfold dn at hd; omega, fun f x y hf hx hy => ⟨fun hd => by unfold dn at hd; omega, fun _ => h24 f x y hf hx hy⟩, ⟨fun q => absurd q (by decide), fun ⟨x, y, _, _, hd, _⟩ => by unfold dn at hd; omega⟩⟩
  refine lp_q2 (I := fun d q => ∃ a m H, a ≤ N ∧ d = N - a ∧ rdS J N re r a a m h H ∧ q = (nI (r + 1), bI m, nI a, H)) (Q := fun o => ∃ m H, o = some (bI m, H) ∧ hs_fr [(24, some 0), (25, some 0), (26, some 0)] h H ∧ (∀ x y, x < N → y < N → H.1 25 0 (10 * x + y) = nI (lst J N re (r + 1) x y)) ∧ (∀ f x y, f < N → x < N → y < N → H.1 24 0 (100 * f + 10 * x + y) = nI (tms J N re (r + 1) f x y)) ∧ (m = true ↔ chg J N re r)) (fun d q hI k => ?_) N _ hs_big ⟨0, false, h, by omega, rfl, h0, rfl⟩ (lp_big (by omega))
  obtain ⟨a, m, H, ha, rfl, p, rfl⟩ := hI
  have n' := ch_n_fr p.1 rfl n
  by_cases h1 : a = N
  · subst h1
    refine Or.inl ⟨m, hs_row H 25 0 100 (fun j => H.1 26 0 j), ?_, ?_, fun x y hx hy => ?_, fun f x y hf hx hy => ?_, ?_⟩
    · show hb_12_4 k (nI (r + 1)) (bI m) (nI a) H = _
      unfold hb_12_4
      rw [n'.1, if_pos (nI_le (Nat.le_refl _) (by omega))]
      have s0 := lp_for (f := fun k s => hb_12_127 k s.1 s.2.1 s.2.2) (st := fun j => (bI m, nI j, hs_row H 25 0 j (fun j => H.1 26 0 j))) (e := 100) (X := some (bI m, hs_row H 25 0 100 (fun j => H.1 26 0 j))) (fun j hj q => by
        show hb_12_127 q (bI m) (nI j) (hs_row H 25 0 j (fun j => H.1 26 0 j)) = q (bI m, nI (j + 1), hs_row H 25 0 (j + 1) (fun j => H.1 26 0 j))
        have eS := hs_rowS H 25 0 j (fun j => H.1 26 0 j)
        have e1 : (hs_row H 25 0 j (fun j => H.1 26 0 j)).1 26 0 j = H.1 26 0 j := by rw [nx_rowget, if_neg (by omega)]
        rw [← eS]
        generalize hs_row H 25 0 j (fun j => H.1 26 0 j) = G at e1
        unfold hb_12_127
        rw [if_neg (nI_ge hj (by omega)), nx_inb (by omega) (by omega), nx_ck, nx_ck, nI_clamp (by omega), e1, nI_add]) (fun q => by
        show hb_12_127 q (bI m) (nI 100) (hs_row H 25 0 100 (fun j => H.1 26 0 j)) = _
        unfold hb_12_127
        rw [if_pos (by decide), bI_01, nx_ck]) 0 hs_big (by omega) (lp_big (by omega))
      rw [hs_row0] at s0
      exact s0
    · exact (p.1.sub (hs_sub_cons (.inl (.head _)) (hs_sub_cons (.inl (.tail _ (.tail _ (.head _)))) hs_sub_nil))).tr (hs_row_fr (.inl (.tail _ (.head _))))
    · rw [nx_rowget, if_pos ⟨rfl, rfl, by omega⟩]
      exact p.2.1 x y hx hy (by unfold dn; omega)
    · rw [nx_rowget, if_neg (by omega)]
      exact (p.2.2.1 f x y hf hx hy).1 (by unfold dn; omega)
    · rw [p.2.2.2]
      exact ⟨fun ⟨x, y, hx, hy, _, hne⟩ => ⟨x, y, hx, hy, hne⟩, fun ⟨x, y, hx, hy, hne⟩ => ⟨x, y, hx, hy, by unfold dn; omega, hne⟩⟩
  · refine Or.inr ?_
    have key : ∃ m' H', rdS J N re r (a + 1) (a + 1) m' h H' ∧ hb_12_4 k (nI (r + 1)) (bI m) (nI a) H = k (nI (r + 1), bI m', nI (a + 1), H') := by
      unfold hb_12_4
      rw [n'.1, if_neg (nI_ge (by omega) (by omega))]
      refine lp_q2 (I := fun d q => ∃ b m H, a ≤ b ∧ b ≤ N ∧ d = N - b ∧ rdS J N re r a b m h H ∧ q = (nI (r + 1), bI m, nI a, nI b, H)) (Q := fun o => ∃ m' H', rdS J N re r (a + 1) (a + 1) m' h H' ∧ o = k (nI (r + 1), bI m', nI (a + 1), H')) (fun d q hI k2 => ?_) (N - a) _ hs_big ⟨a, m, H, by omega, ha, rfl, p, rfl⟩ (lp_big (by omega))
      obtain ⟨b, m2, H2, hab, hb, rfl, p2, rfl⟩ := hI
      by_cases h2 : b = N
      · subst h2
        have n2 := ch_n_fr p2.1 rfl n
        refine Or.inl ⟨m2, H2, ?_, ?_⟩
        · obtain ⟨w1, w2, w3, w4⟩ := p2
          have hdd : ∀ x y, x < b → y < b → (dn (a + 1) (a + 1) x y ↔ dn a b x y) := fun x y hx hy => by unfold dn; omega
          refine ⟨w1, fun x y hx hy hd => w2 x y hx hy ((hdd x y hx hy).mp hd), fun f x y hf hx hy => ?_, ?_⟩
          · rw [hdd x y hx hy]; exact w3 f x y hf hx hy
          · rw [w4]
            exact ⟨fun ⟨x, y, hx, hy, hd, hne⟩ => ⟨x, y, hx, hy, (hdd x y hx hy).mpr hd, hne⟩, fun ⟨x, y, hx, hy, hd, hne⟩ => ⟨x, y, hx, hy, (hdd x y hx hy).mp hd, hne⟩⟩
        · show hb_12_18 k k2 (nI (r + 1)) (bI m2) (nI a) (nI b) H2 = _
          unfold hb_12_18
          rw [n2.1, if_pos (nI_le (Nat.le_refl _) (by omega)), nI_add]
      · obtain ⟨m3, H3, p3, e3⟩ := sp_12i (m := m2) (H := H2) k n hN hJ hre hr hab (by omega) h25 p2
        exact Or.inr ⟨N - (b + 1), _, by omega, ⟨b + 1, m3, H3, by omega, by omega, rfl, p3, rfl⟩, e3 k2⟩
    obtain ⟨m', H', p', e'⟩ := key
    exact ⟨N - (a + 1), _, by omega, ⟨a + 1, m', H', by omega, rfl, p', rfl⟩, e'⟩
theorem idx3 {f x y g u v : Nat} (hx : x < 10) (hy : y < 10) (hu : u < 10) (hv : v < 10) (h : 100 * f + 10 * x + y = 100 * g + 10 * u + v) : f = g ∧ x = u ∧ y = v := by
  have h1 : f = g := by omega
  have h2 : x = u := by omega
  exact ⟨h1, h2, by omega⟩
/-- set out: pairs put so far -/
def sdS (J : Nat → Nat) (N re a b : Nat) (h H : hs_H) : Prop :=
  hs_fr [(24, some 0), (25, some 0)] h H ∧ (∀ x y, x < N → y < N → (x < a ∨ (x = a ∧ y < b)) → H.1 25 0 (10 * x + y) = nI (lst J N re 0 x y)) ∧ (∀ f x y, f < N → x < N → y < N → ((x < a ∨ (x = a ∧ y < b)) → H.1 24 0 (100 * f + 10 * x + y) = nI (tms J N re 0 f x y)) ∧ (¬ (x < a ∨ (x = a ∧ y < b)) → H.1 24 0 (100 * f + 10 * x + y) = nI 1000000))
theorem sp_11i {a b : Nat} {h H : hs_H} (k25 : Int32 × hs_H → Option hs_H) (n : ch_n N re J h) (hN : N ≤ 10) (ha : a < N) (hb : b < N) (p : sdS J N re a b h H) : ∃ H', sdS J N re a (b + 1) h H' ∧ ∀ k, hb_11_38 k25 k (nI a) (nI b) H = k (nI a, nI (b + 1), H') := by
  obtain ⟨p1, p2, p3⟩ := p
  have n' := ch_n_fr p1 rfl n
  refine ⟨hs_put (hs_put (hs_put H 25 0 (10 * a + b) (nI (2 ^ a ||| 2 ^ b))) 24 0 (100 * a + 10 * a + b) (nI 0)) 24 0 (100 * b + 10 * a + b) (nI 0), ⟨((p1.put (.inl (.tail _ (.head _)))).put (.inl (.head _))).put (.inl (.head _)), fun x y hx hy hd => ?_, fun f x y hf hx hy => ?_⟩, fun k => ?_⟩
  · rw [nx_get, if_neg (by omega), nx_get, if_neg (by omega), nx_get]
    by_cases c : 25 = 25 ∧ 0 = 0 ∧ 10 * x + y = 10 * a + b
    · rw [if_pos c, show x = a by omega, show y = b by omega]; rfl
    · rw [if_neg c]
      exact p2 x y hx hy (by omega)
  · have e : tms J N re 0 f x y = if f = x ∨ f = y then 0 else 1000000 := rfl
    rw [nx_get, nx_get, nx_get, if_neg (c := 24 = 25 ∧ 0 = 0 ∧ 100 * f + 10 * x + y = 10 * a + b) (by omega)]
    by_cases w : x = a ∧ y = b
    · refine ⟨fun _ => ?_, fun q => absurd (show x < a ∨ (x = a ∧ y < b + 1) by omega) q⟩
      rw [e]
      by_cases c : f = x ∨ f = y
      · rw [if_pos c]
        by_cases c1 : 24 = 24 ∧ 0 = 0 ∧ 100 * f + 10 * x + y = 100 * b + 10 * a + b
        · rw [if_pos c1]
        · rw [if_neg c1, if_pos ⟨rfl, rfl, by omega⟩]
      · rw [if_neg c, if_neg (by omega), if_neg (by omega)]
        exact (p3 f x y hf hx hy).2 (by omega)
    · have i1 : ¬ (24 = 24 ∧ 0 = 0 ∧ 100 * f + 10 * x + y = 100 * b + 10 * a + b) := fun q => by
        have := idx3 (by omega) (by omega) (by omega) (by omega) q.2.2
        exact w this.2
      have i2 : ¬ (24 = 24 ∧ 0 = 0 ∧ 100 * f + 10 * x + y = 100 * a + 10 * a + b) := fun q => by
        have := idx3 (by omega) (by omega) (by omega) (by omega) q.2.2
        exact w this.2
      rw [if_neg i1, if_neg i2]
      exact ⟨fun q => (p3 f x y hf hx hy).1 (by omega), fun q => (p3 f x y hf hx hy).2 (by omega)⟩
  · unfold hb_11_38
    rw [n'.1, if_neg (nI_ge hb (by omega)), sp_21 (by omega) (by omega), Option.bind_some]
    dsimp only
    rw [nx_inb (by omega) (by omega), nx_ck, nI_clamp (by omega), nx_shl1 (by omega), nx_shl1 (by omega), nx_or, sp_22 (by omega) (by omega) (by omega), Option.bind_some]
    dsimp only
    rw [nx_inb (by omega) (by omega), nx_ck, nI_clamp (by omega), sp_22 (by omega) (by omega) (by omega), Option.bind_some]
    dsimp only
    rw [nx_inb (by omega) (by omega), nx_ck, nI_clamp (by omega), nI_add]
theorem sp_11 {h : hs_H} (n : ch_n N re J h) (hN : N ≤ 10) : ∃ H, hf_11 h = some H ∧ hs_fr [(24, some 0), (25, some 0)] h H ∧ (∀ x y, x < N → y < N → H.1 25 0 (10 * x + y) = nI (lst J N re 0 x y)) ∧ (∀ f x y, f < N → x < N → y < N → H.1 24 0 (100 * f + 10 * x + y) = nI (tms J N re 0 f x y)) := by
  unfold hf_11
  have main : ∃ H, hs_lp (fun k s => hb_11_25 k s.1 s.2) hs_big (nI 0, hs_row h 24 0 1000 (fun _ => nI 1000000)) = some H ∧ hs_fr [(24, some 0), (25, some 0)] h H ∧ (∀ x y, x < N → y < N → H.1 25 0 (10 * x + y) = nI (lst J N re 0 x y)) ∧ (∀ f x y, f < N → x < N → y < N → H.1 24 0 (100 * f + 10 * x + y) = nI (tms J N re 0 f x y)) := by
    have h0 : sdS J N re 0 0 h (hs_row h 24 0 1000 (fun _ => nI 1000000)) := ⟨hs_row_fr (.inl (.head _)), fun x y _ _ hd => by omega, fun f x y hf hx hy => ⟨fun hd => by omega, fun _ => by rw [nx_rowget, if_pos ⟨rfl, rfl, by omega⟩]⟩⟩
    generalize hs_row h 24 0 1000 (fun _ => nI 1000000) = H0 at h0
    refine lp_q2 (I := fun d q => ∃ a H, a ≤ N ∧ d = N - a ∧ sdS J N re a 0 h H ∧ q = (nI a, H)) (Q := fun o => ∃ H, o = some H ∧ hs_fr [(24, some 0), (25, some 0)] h H ∧ (∀ x y, x < N → y < N → H.1 25 0 (10 * x + y) = nI (lst J N re 0 x y)) ∧ (∀ f x y, f < N → x < N → y < N → H.1 24 0 (100 * f + 10 * x + y) = nI (tms J N re 0 f x y))) (fun d q hI k => ?_) N _ hs_big ⟨0, H0, by omega, rfl, h0, rfl⟩ (lp_big (by omega))
    obtain ⟨a, H, ha, rfl, p, rfl⟩ := hI
    have n' := ch_n_fr p.1 rfl n
    by_cases h1 : a = N
    · subst h1
      refine Or.inl ⟨H, ?_, p.1, fun x y hx hy => p.2.1 x y hx hy (Or.inl hx), fun f x y hf hx hy => (p.2.2 f x y hf hx hy).1 (Or.inl hx)⟩
      show hb_11_25 k (nI a) H = _
      unfold hb_11_25
      rw [n'.1, if_pos (nI_le (Nat.le_refl _) (by omega))]
    · refine Or.inr ?_
      have key : ∃ H', sdS J N re (a + 1) 0 h H' ∧ hb_11_25 k (nI a) H = k (nI (a + 1), H') := by
        unfold hb_11_25
        rw [n'.1, if_neg (nI_ge (by omega) (by omega))]
        refine lp_q2 (I := fun d q => ∃ b H, b ≤ N ∧ d = N - b ∧ sdS J N re a b h H ∧ q = (nI a, nI b, H)) (Q := fun o => ∃ H', sdS J N re (a + 1) 0 h H' ∧ o = k (nI (a + 1), H')) (fun d q hI k2 => ?_) N _ hs_big ⟨0, H, by omega, rfl, p, rfl⟩ (lp_big (by omega))
        obtain ⟨b, H2, hb, rfl, p2, rfl⟩ := hI
        by_cases h2 : b = N
        · subst h2
          have n2 := ch_n_fr p2.1 rfl n
          refine Or.inl ⟨H2, ?_, ?_⟩
          · obtain ⟨w1, w2, w3⟩ := p2
            exact ⟨w1, fun x y hx hy hd => w2 x y hx hy (by omega), fun f x y hf hx hy => ⟨fun hd => (w3 f x y hf hx hy).1 (by omega), fun hd => (w3 f x y hf hx hy).2 (by omega)⟩⟩
          · show hb_11_38 k k2 (nI a) (nI b) H2 = _
            unfold hb_11_38
            rw [n2.1, if_pos (nI_le (Nat.le_refl _) (by omega)), nI_add]
        · obtain ⟨H3, p3, e3⟩ := sp_11i (H := H2) k n hN (show a < N by omega) (show b < N by omega) p2
          exact Or.inr ⟨N - (b + 1), _, by omega, ⟨b + 1, H3, by omega, rfl, p3, rfl⟩, e3 k2⟩
      obtain ⟨H', p', e'⟩ := key
      exact ⟨N - (a + 1), _, by omega, ⟨a + 1, H', by omega, rfl, p', rfl⟩, e'⟩
  obtain ⟨H, m1, m2⟩ := main
  refine ⟨H, ?_, m2⟩
  have s0 := lp_for (f := fun k s => hb_11_2 k s.1 s.2) (st := fun j => (nI j, hs_row h 24 0 j (fun _ => nI 1000000))) (e := 1000) (X := some H) (fun j hj q => by
    show hb_11_2 q (nI j) (hs_row h 24 0 j (fun _ => nI 1000000)) = q (nI (j + 1), hs_row h 24 0 (j + 1) (fun _ => nI 1000000))
    have eS := hs_rowS h 24 0 j (fun _ => nI 1000000)
    rw [← eS]
    generalize hs_row h 24 0 j (fun _ => nI 1000000) = G
    unfold hb_11_2
    rw [if_neg (nI_ge hj (by omega)), nx_inb (by omega) (by omega), nx_ck, nI_clamp (by omega), nI_add]) (fun q => by
    show hb_11_2 q (nI 1000) (hs_row h 24 0 1000 (fun _ => nI 1000000)) = _
    unfold hb_11_2
    rw [if_pos (by decide)]
    exact m1) 0 hs_big (by omega) (lp_big (by omega))
  rw [hs_row0] at s0
  exact s0
/-- what the class keeps of chases -/
def chV (N : Nat) (J : Nat → Nat) (re : Nat) (h : hs_H) : Prop := ∀ f x y, f < N → x < N → y < N → h.1 24 0 (100 * f + 10 * x + y) = nI (tms J N re 1000 f x y)
theorem sp_10b {h : hs_H} (n : ch_n N re J h) (hN : N ≤ 10) (hN1 : 2 ≤ N) (hJ : ∀ k, J k < 2 ^ N) (hre : re = 0 ∨ re = 1) : ∃ H, hb_10_22 h = some H ∧ hs_fr [(1, some 0), (24, some 0), (25, some 0), (26, some 0)] h H ∧ H.1 1 0 4 = nI 1 ∧ H.1 1 0 5 = h.1 4 0 6 ∧ chV N J re H := by
  have f0 : hs_fr [(1, some 0), (24, some 0), (25, some 0), (26, some 0)] h (hs_put (hs_put h 1 0 4 (nI 1)) 1 0 5 (h.1 4 0 6)) := (hs_fr.rf.put (.inl (.head _))).put (.inl (.head _))
  have e4 : (hs_put (hs_put h 1 0 4 (nI 1)) 1 0 5 (h.1 4 0 6)).1 1 0 4 = nI 1 := by simp (disch := omega) only [nq_nf, nq_nt, nq_le_t, nq_le_f, nq_lt_t, nq_lt_f, nq_eq_t, nq_eq_f, nq_neg, nq_pos, nq_le0f, nq_le0t, nq_lt0t, nq_lt0f, nq_eq0f, nq_eq0t, nI_add, nI_clamp, nx_inb, nx_ck, Option.bind_some, nx_get, nx_get2, nx_dif, nx_or, bI_0, bI_01, bI_nt, bI_nf, if_true, if_false, ite_true, ite_false, not_true_eq_false, not_false_eq_true, and_true, true_and, and_false, false_and, Bool.false_eq_true, Bool.true_eq_false, reduceCtorEq]
  have e5 : (hs_put (hs_put h 1 0 4 (nI 1)) 1 0 5 (h.1 4 0 6)).1 1 0 5 = h.1 4 0 6 := by simp (disch := omega) only [nq_nf, nq_nt, nq_le_t, nq_le_f, nq_lt_t, nq_lt_f, nq_eq_t, nq_eq_f, nq_neg, nq_pos, nq_le0f, nq_le0t, nq_lt0t, nq_lt0f, nq_eq0f, nq_eq0t, nI_add, nI_clamp, nx_inb, nx_ck, Option.bind_some, nx_get, nx_get2, nx_dif, nx_or, bI_0, bI_01, bI_nt, bI_nf, if_true, if_false, ite_true, ite_false, not_true_eq_false, not_false_eq_true, and_true, true_and, and_false, false_and, Bool.false_eq_true, Bool.true_eq_false, reduceCtorEq]
  have e6 : (hs_put h 1 0 4 (nI 1)).1 4 0 6 = h.1 4 0 6 := by simp (disch := omega) only [nq_nf, nq_nt, nq_le_t, nq_le_f, nq_lt_t, nq_lt_f, nq_eq_t, nq_eq_f, nq_neg, nq_pos, nq_le0f, nq_le0t, nq_lt0t, nq_lt0f, nq_eq0f, nq_eq0t, nI_add, nI_clamp, nx_inb, nx_ck, Option.bind_some, nx_get, nx_get2, nx_dif, nx_or, bI_0, bI_01, bI_nt, bI_nf, if_true, if_false, ite_true, ite_false, not_true_eq_false, not_false_eq_true, and_true, true_and, and_false, false_and, Bool.false_eq_true, Bool.true_eq_false, reduceCtorEq]
  unfold hb_10_22
  rw [e6]
  generalize hs_put (hs_put h 1 0 4 (nI 1)) 1 0 5 (h.1 4 0 6) = H0 at f0 e4 e5
  obtain ⟨H1, s1, s2, s3, s4⟩ := sp_11 (ch_n_fr f0 rfl n) hN
  rw [s1, Option.bind_some]
  obtain ⟨R, hR, hR1, hR2⟩ := chg_end (J := J) (re := re) hN hN1
  have f1 : hs_fr [(1, some 0), (24, some 0), (25, some 0), (26, some 0)] h H1 := f0.tr (s2.sub (hs_sub_cons (.inl (.tail _ (.head _))) (hs_sub_cons (.inl (.tail _ (.tail _ (.head _)))) hs_sub_nil)))
  have e1 : H1.1 1 0 = H0.1 1 0 := (s2 1 0 (by intro q hq; revert q; simp)).1
  rw [← e1] at e4 e5
  refine lp_q2 (I := fun d q => ∃ r H, r ≤ R ∧ d = R - r ∧ (hs_fr [(1, some 0), (24, some 0), (25, some 0), (26, some 0)] h H ∧ H.1 1 0 4 = nI 1 ∧ H.1 1 0 5 = h.1 4 0 6 ∧ (∀ x y, x < N → y < N → H.1 25 0 (10 * x + y) = nI (lst J N re r x y)) ∧ (∀ f x y, f < N → x < N → y < N → H.1 24 0 (100 * f + 10 * x + y) = nI (tms J N re r f x y))) ∧ q = (nI (r + 1), H)) (Q := fun o => ∃ H, o = some H ∧ hs_fr [(1, some 0), (24, some 0), (25, some 0), (26, some 0)] h H ∧ H.1 1 0 4 = nI 1 ∧ H.1 1 0 5 = h.1 4 0 6 ∧ chV N J re H) (fun d q hI k => ?_) R _ hs_big ⟨0, H1, by omega, rfl, ⟨f1, e4, e5, s3, s4⟩, rfl⟩ (lp_big (by omega))
  obtain ⟨r, H, hr, rfl, ⟨p1, p2, p3, p4, p5⟩, rfl⟩ := hI
  obtain ⟨m, G, g1, g2, g3, g4, g5⟩ := sp_12 (ch_n_fr p1 rfl n) hN hJ hre (show r < 1000 by omega) p4 p5
  have eG : G.1 1 0 = H.1 1 0 := (g2 1 0 (by intro q hq; revert q; simp)).1
  have fG : hs_fr [(1, some 0), (24, some 0), (25, some 0), (26, some 0)] h G := p1.tr (g2.sub (hs_sub_cons (.inl (.tail _ (.head _))) (hs_sub_cons (.inl (.tail _ (.tail _ (.head _)))) (hs_sub_cons (.inl (.tail _ (.tail _ (.tail _ (.head _))))) hs_sub_nil))))
  rw [← eG] at p2 p3
  by_cases h1 : r = R
  · subst h1
    have hm : m = false := eq_false_of_ne_true (fun q => hR1 (g5.mp q))
    refine Or.inl ⟨G, ?_, fG, p2, p3, fun f x y hf hx hy => ?_⟩
    · show hb_10_44 k (nI (r + 1)) H = _
      unfold hb_10_44 hb_10_65
      rw [if_neg (nI_nlt (by omega) (by omega)), g1, Option.bind_some, hm]
      dsimp only
      rw [if_pos (by decide)]
    · rw [g4 f x y hf hx hy]
      have w1 := tms_stay (f := f) hR1 hx hy (by omega) 1
      have w2 := tms_stay (f := f) hR1 hx hy (by omega) (1000 - r)
      rw [show r + (1000 - r) = 1000 by omega] at w2
      rw [w1, w2]
  · have hm : m = true := g5.mpr (hR2 r (by omega))
    refine Or.inr ⟨R - (r + 1), _, by omega, ⟨r + 1, G, by omega, rfl, ⟨fG, p2, p3, g3, g4⟩, rfl⟩, ?_⟩
    show hb_10_44 k (nI (r + 1)) H = _
    unfold hb_10_44
    rw [if_neg (nI_nlt (by omega) (by omega)), g1, Option.bind_some, hm]
    dsimp only
    rw [if_neg (by decide), nI_add]
end CH
