/-! Ways that fit: the class's rows; the first way; the end of a way. -/
/-- what the class's search stands on -/
def cwN (N re W : Nat) (J : Nat → Nat) (st : Int32) (z : Nat) (tn nn gn : Nat → Nat) (n m T : Nat) (one : Bool) (h : hs_H) : Prop := (ch_n N re J h ∧ h.1 4 0 3 = st ∧ h.1 4 0 4 = nI W) ∧ (h.1 5 0 3 = nI z ∧ ∀ k, k < z → h.1 28 0 k = nI (tn k) ∧ h.1 29 0 k = nI (nn k) ∧ h.1 30 0 k = nI (gn k)) ∧ (h.1 10 0 9 = nI n ∧ h.1 10 0 10 = nI m ∧ h.1 10 0 11 = nI T ∧ h.1 10 0 12 = bI one) ∧ ∀ q, q ≤ n → h.1 38 0 q = nI (onw J N re q) ∧ ∀ j, j < N → h.1 37 q j = nI (wk J re q j)
def cwK : List (Nat × Option Nat) := [(10, some 0), (35, none), (39, some 0), (40, some 0), (41, some 0)]
def cwF (h0 G : hs_H) : Prop := hs_fr cwK h0 G ∧ ∀ x, x ≠ 13 → G.1 10 0 x = h0.1 10 0 x
def cwX (N n T : Nat) (one : Bool) (t : Nat) (L : List (List Nat)) (G : hs_H) : Prop := G.1 10 0 13 = bI (!L.isEmpty) ∧ (one = false → ∀ x X, L = x :: X → ∀ u, u ≤ n → G.1 41 0 u = nI (nz x u)) ∧ ∀ u, t ≤ u → u ≤ T → ∃ a, a < 2 ^ N ∧ G.1 40 0 u = nI a ∧ (one = false → a = cbL L u)
def cwP (N W : Nat) (pre : List Nat) (G : hs_H) : Prop := (∀ u, u < pre.length → nz pre u < N ∧ G.1 39 0 u = nI (nz pre u)) ∧ ∀ u, u ≤ pre.length → ∀ k, k < 10 → G.1 35 u k = nI (smA W z0 pre u k)
section CW
variable {N re W n m z T : Nat} {J : Nat → Nat} {st : Int32} {tn nn gn : Nat → Nat} {one : Bool} {h0 G : hs_H} {pre : List Nat} {L : List (List Nat)}
theorem cwF.tr {H : hs_H} (f : cwF h0 G) (g : cwF G H) : cwF h0 H := ⟨f.1.tr g.1, fun x hx => (g.2 x hx).trans (f.2 x hx)⟩
theorem cwN_fr (c : cwN N re W J st z tn nn gn n m T one h0) (f : cwF h0 G) : cwN N re W J st z tn nn gn n m T one G := by
  obtain ⟨f1, f2⟩ := f
  have e4 : G.1 4 0 = h0.1 4 0 := (f1 4 0 (by intro q hq; revert q; simp [cwK])).1
  have e27 : G.1 27 0 = h0.1 27 0 := (f1 27 0 (by intro q hq; revert q; simp [cwK])).1
  have e5 : G.1 5 0 = h0.1 5 0 := (f1 5 0 (by intro q hq; revert q; simp [cwK])).1
  have e28 : G.1 28 0 = h0.1 28 0 := (f1 28 0 (by intro q hq; revert q; simp [cwK])).1
  have e29 : G.1 29 0 = h0.1 29 0 := (f1 29 0 (by intro q hq; revert q; simp [cwK])).1
  have e30 : G.1 30 0 = h0.1 30 0 := (f1 30 0 (by intro q hq; revert q; simp [cwK])).1
  have e38 : G.1 38 0 = h0.1 38 0 := (f1 38 0 (by intro q hq; revert q; simp [cwK])).1
  have e37 : ∀ i, G.1 37 i = h0.1 37 i := fun i => (f1 37 i (by intro q hq; revert q; simp [cwK])).1
  unfold cwN ch_n at c ⊢
  rw [e4, e27, e5, e28, e29, e30, e38, f2 9 (by omega), f2 10 (by omega), f2 11 (by omega), f2 12 (by omega)]
  refine ⟨c.1, c.2.1, c.2.2.1, fun q hq => ⟨(c.2.2.2 q hq).1, fun j hj => ?_⟩⟩
  rw [e37]
  exact (c.2.2.2 q hq).2 j hj
/-- which nodes may be next, for the class -/
def nxc (N re W : Nat) (J : Nat → Nat) (st : Int32) (tn nn gn : Nat → Nat) (n m : Nat) (pre : List Nat) : Nat := (cnd (sel (bgn st) N) (mvs J re) pre &&& onw J N re (n - pre.length)) &&& alw tn nn gn W pre.length (smA W z0 pre pre.length) m
theorem cnd_lt (hJ : ∀ k, J k < 2 ^ N) (hre : re = 0 ∨ re = 1) (hp : ∀ u, u < pre.length → nz pre u < N) : cnd (sel (bgn st) N) (mvs J re) pre < 2 ^ N := by
  unfold cnd
  by_cases c : pre.length = 0
  · rw [if_pos c]; exact sel_lt N
  · rw [if_neg c]; exact mvs_lt hJ hre (hp _ (by omega))
theorem nxc_lt (hJ : ∀ k, J k < 2 ^ N) (hre : re = 0 ∨ re = 1) (hp : ∀ u, u < pre.length → nz pre u < N) : nxc N re W J st tn nn gn n m pre < 2 ^ N := and_lt _ (and_lt _ (cnd_lt hJ hre hp))
theorem tb_nxc (hN : N ≤ 10) {i : Nat} (hi : i < N) : (nxc N re W J st tn nn gn n m pre).testBit i = true ↔ ((cnd (sel (bgn st) N) (mvs J re) pre).testBit i && fitB tn nn gn pre.length (passS W (smA W z0 pre pre.length) i) m) = true ∧ 0 < wk J re (n - pre.length) i := by
  unfold nxc alw
  rw [Nat.testBit_and, Nat.testBit_and, Bool.and_eq_true, Bool.and_eq_true, tb_onw, tb_sel, Bool.and_eq_true, Bool.and_eq_true, decide_eq_true_eq]
  constructor
  · rintro ⟨⟨h1, h2, h3⟩, h4, h5⟩
    exact ⟨⟨h1, h5⟩, h3⟩
  · rintro ⟨⟨h1, h5⟩, h3⟩
    exact ⟨⟨h1, hi, h3⟩, by omega, h5⟩
theorem sp_102 (c : cwN N re W J st z tn nn gn n m T one G) (hN : N ≤ 10) (hre : re = 0 ∨ re = 1) (hst : st = nI 4294967292 ∨ ∃ i, i < N ∧ st = nI i) (hW : W < 2 ^ N) (hz : z ≤ 10) (hm : m ≤ z) (ok : ∀ k, k < z → tn k ≤ 5 ∧ nn k < N ∧ gn k ≤ 18) (hn : n ≤ 5) (hl : pre.length ≤ n) (p : cwP N W pre G) : hf_102 (nI pre.length) G = some (nI (nxc N re W J st tn nn gn n m pre), G) := by
  have hp := p2_lt hN
  obtain ⟨⟨⟨c1, c2, c3⟩, c4, c5⟩, ⟨c6, c7⟩, ⟨c8, c9, c10, c11⟩, c12⟩ := c
  obtain ⟨p1, p2⟩ := p
  have sm := smA_ok pre z0 pre.length (z0_ok (W := W)).1 (z0_ok (W := W)).2
  have e50 := sp_50 (W := W) (t := pre.length) (s := smA W z0 pre pre.length) (h := G) hN hz hm (by omega) ok c6 c7 sm.1 (p2 pre.length (Nat.le_refl _)) (by omega)
  have e40 : ∀ a, hb_102_40 (nI pre.length) (nI a) G = some (nI ((a &&& onw J N re (n - pre.length)) &&& alw tn nn gn W pre.length (smA W z0 pre pre.length) m), G) := fun a => by
    unfold hb_102_40
    rw [c8, pk_sub hl, sp_100 (by omega), Option.bind_some]
    dsimp only
    rw [nx_inb (show pre.length < 6 by omega) (by omega), nx_ck, c9, c5, nI_clamp (show pre.length < 2147483648 by omega), e50, Option.bind_some, (c12 (n - pre.length) (by omega)).1, nx_and, nx_and]
  unfold hf_102 nxc cnd
  rw [if_neg (nI_pos (by omega)), if_pos (nI_le (by omega) (by omega))]
  by_cases c0 : pre.length = 0
  · rw [if_neg (fun q => q (by rw [c0]; rfl)), sp_37 hN c1 c4 hst, Option.bind_some, if_pos c0]
    exact e40 _
  · obtain ⟨q0, q1⟩ := p1 (pre.length - 1) (by omega)
    rw [if_pos (nI_ne0 (by omega) (by omega)), pk_sub (by omega), nx_inb (show pre.length - 1 < 6 by omega) (by omega), nx_ck, nI_clamp (show pre.length - 1 < 2147483648 by omega), q1, sp_38 c1 c2 c3 q0 hN, Option.bind_some, if_neg c0]
    exact e40 _
/-- the class notes its first way -/
theorem sp_104 {x : List Nat} {nd : Nat} (c : cwN N re W J st z tn nn gn n m T one G) (hN : N ≤ 10) (hJ : ∀ k, J k < 2 ^ N) (hre : re = 0 ∨ re = 1) (hn : n ≤ 5) (hT : T ≤ n) (h39 : ∀ u, u < T → G.1 39 0 u = nI (nz x u)) (hnd : nd < 2 ^ N) (l1 : lsb (nz x T) nd) (l2 : ∀ u, T ≤ u → u < n → lsb (nz x (u + 1)) (mvs J re (nz x u) &&& onw J N re (n - 1 - u))) : ∃ H, hf_104 (nI T) (nI nd) G = some H ∧ hs_fr [(41, some 0)] G H ∧ ∀ u, u ≤ n → H.1 41 0 u = nI (nz x u) := by
  have hp := p2_lt hN
  obtain ⟨⟨⟨c1, c2, c3⟩, c4, c5⟩, ⟨c6, c7⟩, ⟨c8, c9, c10, c11⟩, c12⟩ := c
  have g4 : ∀ i k, (hs_row G 41 0 i (fun u => nI (nz x u))).1 4 0 k = G.1 4 0 k := fun i k => by rw [nx_rowget, if_neg (by omega)]
  have g27 : ∀ i k, (hs_row G 41 0 i (fun u => nI (nz x u))).1 27 0 k = G.1 27 0 k := fun i k => by rw [nx_rowget, if_neg (by omega)]
  have g10 : ∀ i k, (hs_row G 41 0 i (fun u => nI (nz x u))).1 10 0 k = G.1 10 0 k := fun i k => by rw [nx_rowget, if_neg (by omega)]
  have g38 : ∀ i k, (hs_row G 41 0 i (fun u => nI (nz x u))).1 38 0 k = G.1 38 0 k := fun i k => by rw [nx_rowget, if_neg (by omega)]
  have two : hb_104_30 (nI T) (nI nd) (hs_row G 41 0 T (fun u => nI (nz x u))) = some (hs_row G 41 0 (n + 1) (fun u => nI (nz x u))) := by
    unfold hb_104_30
    refine lp_q2 (f := fun k s => hb_104_35 k s.1 s.2.1 s.2.2) (I := fun d q => ∃ u e, T ≤ u ∧ u ≤ n + 1 ∧ d = n + 1 - u ∧ e < 2 ^ N ∧ (u ≤ n → lsb (nz x u) e) ∧ q = (nI e, nI u, hs_row G 41 0 u (fun u => nI (nz x u)))) (Q := fun o => o = some (hs_row G 41 0 (n + 1) (fun u => nI (nz x u)))) (fun d q hI k => ?_) (n + 1 - T) _ hs_big ⟨T, nd, Nat.le_refl _, by omega, rfl, hnd, fun _ => l1, rfl⟩ (lp_big (by omega))
    obtain ⟨u, e, hu1, hu2, rfl, he, hl, rfl⟩ := hI
    by_cases hun : u = n + 1
    · refine Or.inl ?_
      show hb_104_35 k (nI e) (nI u) (hs_row G 41 0 u (fun u => nI (nz x u))) = _
      unfold hb_104_35 hb_104_96
      rw [g10, c8, hun, if_pos (nI_lt (by omega) (by omega))]
    · have hlu := hl (by omega)
      have hxN : nz x u < N := tb_in he hlu.1
      have hm := mvs_lt (re := re) hJ hre hxN
      have b148 : hf_148 (nI e) (hs_row G 41 0 u (fun u => nI (nz x u))) = some (nI (nz x u), hs_row G 41 0 u (fun u => nI (nz x u))) := sp_148 (by omega) (by omega) hlu.1 hlu.2
      have b38 : hf_38 0 (nI (nz x u)) (hs_row G 41 0 (u + 1) (fun u => nI (nz x u))) = some (nI (mvs J re (nz x u)), hs_row G 41 0 (u + 1) (fun u => nI (nz x u))) := sp_38 (by rw [g4]; exact c1) (by rw [g4]; exact c2) (fun k hk => by rw [g27]; exact c3 k hk) hxN hN
      have row : hs_put (hs_row G 41 0 u (fun u => nI (nz x u))) 41 0 u (nI (nz x u)) = hs_row G 41 0 (u + 1) (fun u => nI (nz x u)) := hs_rowS G 41 0 u (fun u => nI (nz x u))
      have at41 : (hs_row G 41 0 (u + 1) (fun u => nI (nz x u))).1 41 0 u = nI (nz x u) := by rw [nx_rowget, if_pos ⟨rfl, rfl, by omega⟩]
      have b100 : ∃ w, w < 2 ^ N ∧ (u + 1 ≤ n → lsb (nz x (u + 1)) w) ∧ (hf_100 (nI n - nI u - nI 1) (hs_row G 41 0 (u + 1) (fun u => nI (nz x u)))).map (fun q => (nI (mvs J re (nz x u)) &&& q.1, q.2)) = some (nI w, hs_row G 41 0 (u + 1) (fun u => nI (nz x u))) := by
        by_cases hlast : u = n
        · refine ⟨0, Nat.two_pow_pos N, fun q => by omega, ?_⟩
          rw [hlast, pk_sub (Nat.le_refl _), Nat.sub_self]
          unfold hf_100 hb_100_18 hb_100_19
          rw [if_pos (by decide), Option.map_some, nx_and, Nat.and_zero]
        · refine ⟨mvs J re (nz x u) &&& onw J N re (n - 1 - u), and_lt _ hm, fun _ => l2 u hu1 (by omega), ?_⟩
          rw [pk_sub (by omega), pk_sub (by omega), sp_100 (by omega), g38, (c12 (n - u - 1) (by omega)).1, Option.map_some, nx_and, show n - u - 1 = n - 1 - u by omega]
      obtain ⟨w, w1, w2, w3⟩ := b100
      refine Or.inr ⟨n + 1 - (u + 1), (nI w, nI (u + 1), hs_row G 41 0 (u + 1) (fun u => nI (nz x u))), by omega, ⟨u + 1, w, by omega, by omega, rfl, w1, w2, rfl⟩, ?_⟩
      show hb_104_35 k (nI e) (nI u) (hs_row G 41 0 u (fun u => nI (nz x u))) = _
      unfold hb_104_35
      rw [g10, c8, if_neg (nI_nlt (by omega) (by omega)), if_neg (nI_nlt (by omega) (by omega)), b148, Option.bind_some]
      dsimp only
      rw [nx_inb (show u < 6 by omega) (by omega), nx_ck, nx_ck, nI_clamp (show u < 2147483648 by omega), row, at41, b38, Option.bind_some]
      dsimp only
      rw [g10, c8, nI_add]
      cases hq : hf_100 (nI n - nI u - nI 1) (hs_row G 41 0 (u + 1) (fun u => nI (nz x u))) with
      | none => rw [hq] at w3; cases w3
      | some q =>
        rw [hq, Option.map_some] at w3
        have w4 := Option.some.inj w3
        have e1 : nI (mvs J re (nz x u)) &&& q.1 = nI w := congrArg Prod.fst w4
        have e2 : q.2 = hs_row G 41 0 (u + 1) (fun u => nI (nz x u)) := congrArg Prod.snd w4
        rw [Option.bind_some, e1, e2]
  refine ⟨hs_row G 41 0 (n + 1) (fun u => nI (nz x u)), ?_, hs_row_fr (.inl (.head _)), fun u hu => by rw [nx_rowget, if_pos ⟨rfl, rfl, by omega⟩]⟩
  unfold hf_104
  have hl := lp_for (f := fun k s => hb_104_2 k s.1 s.2.1 s.2.2.1 s.2.2.2) (st := fun i => (nI T, nI nd, nI i, hs_row G 41 0 i (fun u => nI (nz x u)))) (e := T) (X := some (hs_row G 41 0 (n + 1) (fun u => nI (nz x u)))) (fun i hi k => ?_) (fun k => ?_) 0 hs_big (by omega) (lp_big (by omega))
  · rw [hs_row0] at hl
    exact hl
  · show hb_104_2 k (nI T) (nI nd) (nI i) (hs_row G 41 0 i (fun u => nI (nz x u))) = k (nI T, nI nd, nI (i + 1), hs_row G 41 0 (i + 1) (fun u => nI (nz x u)))
    unfold hb_104_2
    have e39 : (hs_row G 41 0 i (fun u => nI (nz x u))).1 39 0 i = nI (nz x i) := by rw [nx_rowget, if_neg (by omega)]; exact h39 i hi
    rw [if_neg (nI_ge hi (by omega)), if_neg (nI_nlt (by omega) (by omega)), nx_inb (show i < 6 by omega) (by omega), nx_ck, nx_ck, nI_clamp (show i < 2147483648 by omega), e39, nI_add, ← hs_rowS G 41 0 i (fun u => nI (nz x u))]
  · show hb_104_2 k (nI T) (nI nd) (nI T) (hs_row G 41 0 T (fun u => nI (nz x u))) = _
    unfold hb_104_2
    rw [if_pos (nI_le (Nat.le_refl _) (by omega))]
    exact two
end CW
