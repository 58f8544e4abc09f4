/-! Ways that fit: the class's search, turn by turn. -/
section CR
variable {N re W n m z T : Nat} {J : Nat → Nat} {st : Int32} {tn nn gn : Nat → Nat} {one : Bool}
theorem wyP_pre {mv : Nat → Nat} {fit : Nat → (Nat → Nat) → Bool} {r t c j : Nat} {s : Nat → Nat} : ∀ d, ∃ R, wyP mv N W fit r t c s (j + d) = wyP mv N W fit r t c s j ++ R := by
  intro d
  induction d with
  | zero => exact ⟨[], by rw [List.append_nil]; rfl⟩
  | succ d ih =>
    obtain ⟨R, h⟩ := ih
    refine ⟨R ++ wy1 mv N W fit r t c s (j + d), ?_⟩
    show wyP mv N W fit r t c s (j + d) ++ wy1 mv N W fit r t c s (j + d) = _
    rw [h, List.append_assoc]
/-- the ways that begin so and go on below j -/
def wyY (N re W : Nat) (J : Nat → Nat) (st : Int32) (tn nn gn : Nat → Nat) (n m : Nat) (pre : List Nat) (j : Nat) : List (List Nat) := (wyP (mvs J re) N W (fun t s => fitB tn nn gn t s m) (n - pre.length) pre.length (cnd (sel (bgn st) N) (mvs J re) pre) (smA W z0 pre pre.length) j).map (fun l => pre ++ l)
theorem wyY_N {pre : List Nat} : wyY N re W J st tn nn gn n m pre N = wyX N re W J st tn nn gn n m pre := by
  unfold wyY wyX
  rw [wyG_S]
theorem wyY_pre {pre : List Nat} {j : Nat} (hj : j ≤ N) : ∃ R, wyX N re W J st tn nn gn n m pre = wyY N re W J st tn nn gn n m pre j ++ R := by
  obtain ⟨R, h⟩ := wyP_pre (N := N) (W := W) (mv := mvs J re) (fit := fun t s => fitB tn nn gn t s m) (r := n - pre.length) (t := pre.length) (c := cnd (sel (bgn st) N) (mvs J re) pre) (s := smA W z0 pre pre.length) (j := j) (N - j)
  refine ⟨R.map (fun l => pre ++ l), ?_⟩
  rw [← wyY_N]
  unfold wyY
  rw [show j + (N - j) = N by omega] at h
  rw [h, List.map_append]
theorem wyY_n {pre : List Nat} {j : Nat} (hN : N ≤ 10) (hj : j < N) (h : (nxc N re W J st tn nn gn n m pre).testBit j = false) : wyY N re W J st tn nn gn n m pre (j + 1) = wyY N re W J st tn nn gn n m pre j := by
  have hb := tb_nxc (N := N) (re := re) (W := W) (J := J) (st := st) (tn := tn) (nn := nn) (gn := gn) (n := n) (m := m) (pre := pre) hN hj
  have e : wy1 (mvs J re) N W (fun t s => fitB tn nn gn t s m) (n - pre.length) pre.length (cnd (sel (bgn st) N) (mvs J re) pre) (smA W z0 pre pre.length) j = [] := by
    apply List.eq_nil_of_length_eq_zero
    rw [wy1_len]
    by_cases q : ((cnd (sel (bgn st) N) (mvs J re) pre).testBit j && fitB tn nn gn pre.length (passS W (smA W z0 pre pre.length) j) m) = true
    · rw [if_pos q]
      have hw := wyG_wk (J := J) (re := re) (W := W) (fit := fun t s => fitB tn nn gn t s m) hN (n - pre.length) (pre.length + 1) j (passS W (smA W z0 pre pre.length) j)
      have : ¬ 0 < wk J re (n - pre.length) j := fun w => by rw [hb.mpr ⟨q, w⟩] at h; cases h
      omega
    · rw [if_neg q]
  show (wyP (mvs J re) N W (fun t s => fitB tn nn gn t s m) (n - pre.length) pre.length (cnd (sel (bgn st) N) (mvs J re) pre) (smA W z0 pre pre.length) j ++ wy1 (mvs J re) N W (fun t s => fitB tn nn gn t s m) (n - pre.length) pre.length (cnd (sel (bgn st) N) (mvs J re) pre) (smA W z0 pre pre.length) j).map (fun l => pre ++ l) = _
  rw [e, List.append_nil]
  rfl
theorem wyY_s {pre : List Nat} {j : Nat} (hN : N ≤ 10) (hj : j < N) (hl : pre.length < n) (h : (nxc N re W J st tn nn gn n m pre).testBit j = true) : wyY N re W J st tn nn gn n m pre (j + 1) = wyY N re W J st tn nn gn n m pre j ++ wyX N re W J st tn nn gn n m (pre ++ [j]) := by
  have hb := tb_nxc (N := N) (re := re) (W := W) (J := J) (st := st) (tn := tn) (nn := nn) (gn := gn) (n := n) (m := m) (pre := pre) hN hj
  have hl1 : (pre ++ [j]).length = pre.length + 1 := by rw [List.length_append]; rfl
  have q := (hb.mp h).1
  have esm : smA W z0 (pre ++ [j]) (pre.length + 1) = passS W (smA W z0 pre pre.length) j := by
    rw [smA_app pre z0 _ (Nat.le_refl _), if_pos rfl]
  have ef : ((fun l => pre ++ l) ∘ fun l => j :: l) = fun l => (pre ++ [j]) ++ l := by
    funext l
    show pre ++ j :: l = pre ++ [j] ++ l
    rw [List.append_assoc]
    rfl
  show (wyP (mvs J re) N W (fun t s => fitB tn nn gn t s m) (n - pre.length) pre.length (cnd (sel (bgn st) N) (mvs J re) pre) (smA W z0 pre pre.length) j ++ wy1 (mvs J re) N W (fun t s => fitB tn nn gn t s m) (n - pre.length) pre.length (cnd (sel (bgn st) N) (mvs J re) pre) (smA W z0 pre pre.length) j).map (fun l => pre ++ l) = _
  rw [List.map_append]
  unfold wyX wy1
  rw [if_pos q, List.map_map, ef, hl1, cnd_app, esm, show n - (pre.length + 1) + 1 = n - pre.length by omega]
  rfl
/-- what a search from pre on leaves behind -/
def cwR (N re W n m T : Nat) (J : Nat → Nat) (st : Int32) (tn nn gn : Nat → Nat) (one : Bool) (pre : List Nat) (L X : List (List Nat)) (G : hs_H) (v : Nat) (H : hs_H) : Prop := cwF G H ∧ cwP N W pre H ∧ cwX N n T one pre.length (L ++ X) H ∧ (∀ u, u < pre.length → H.1 40 0 u = G.1 40 0 u) ∧ v ≤ X.length ∧ (one = false → v = X.length) ∧ (0 < v ↔ X ≠ [])
theorem cw_step {pre : List Nat} {L : List (List Nat)} {G H : hs_H} {v j : Nat} {self : Int32 → hs_H → Option (Int32 × hs_H)} (k : Int32 × Int32 × Int32 × Int32 × hs_H → Option (Int32 × hs_H)) (c : cwN N re W J st z tn nn gn n m T one G) (hN : N ≤ 10) (hJ : ∀ k, J k < 2 ^ N) (hre : re = 0 ∨ re = 1) (hW : W < 2 ^ N) (hn : n ≤ 5) (hl : pre.length < T) (hT : T ≤ n) (hj : j < N) (hbit : (nxc N re W J st tn nn gn n m pre).testBit j = true) (ho : one = false ∨ L ++ wyY N re W J st tn nn gn n m pre j = []) (hself : ∀ L G, cwN N re W J st z tn nn gn n m T one G → cwP N W (pre ++ [j]) G → cwX N n T one (pre ++ [j]).length L G → (one = false ∨ L = []) → ∃ v H, self (nI (pre ++ [j]).length) G = some (nI v, H) ∧ cwR N re W n m T J st tn nn gn one (pre ++ [j]) L (wyX N re W J st tn nn gn n m (pre ++ [j])) G v H) (p : cwR N re W n m T J st tn nn gn one pre L (wyY N re W J st tn nn gn n m pre j) G v H) : ∃ v' H', cwR N re W n m T J st tn nn gn one pre L (wyY N re W J st tn nn gn n m pre (j + 1)) G v' H' ∧ hb_101_57 self k (nI pre.length) (nI (nxc N re W J st tn nn gn n m pre)) (nI v) (nI j) H = k (nI pre.length, nI (nxc N re W J st tn nn gn n m pre), nI v', nI (j + 1), H') := by
  have hp := p2_lt hN
  obtain ⟨f, pP, pX, p40, pv1, pv2, pv3⟩ := p
  have hl1 : (pre ++ [j]).length = pre.length + 1 := by rw [List.length_append]; rfl
  have hx := nxc_lt (W := W) (tn := tn) (nn := nn) (gn := gn) (n := n) (m := m) (st := st) hJ hre (fun u hu => (pP.1 u hu).1)
  have cH := cwN_fr c f
  have sm := smA_ok pre z0 pre.length (z0_ok (W := W)).1 (z0_ok (W := W)).2
  have esm : smA W z0 (pre ++ [j]) (pre.length + 1) = passS W (smA W z0 pre pre.length) j := by
    rw [smA_app pre z0 _ (Nat.le_refl _), if_pos rfl]
  -- the node is taken
  have f1 : cwF H (hs_put H 39 0 pre.length (nI j)) := ⟨hs_fr.rf.put (.inl (.tail _ (.tail _ (.head _)))), fun x hx => by rw [nx_get, if_neg (by omega)]⟩
  have g39 : ∀ u, (hs_put H 39 0 pre.length (nI j)).1 39 0 u = if u = pre.length then nI j else H.1 39 0 u := fun u => by
    rw [nx_get]
    by_cases e : u = pre.length
    · rw [if_pos ⟨rfl, rfl, e⟩, if_pos e]
    · rw [if_neg (fun w => e w.2.2), if_neg e]
  have gne : ∀ c i, c ≠ 39 → (hs_put H 39 0 pre.length (nI j)).1 c i = H.1 c i := fun c i h1 => by
    funext u
    rw [nx_get, if_neg (fun w => h1 w.1)]
  have c1 := cwN_fr cH f1
  generalize hH1 : hs_put H 39 0 pre.length (nI j) = H1 at f1 g39 gne c1
  have e4 : H1.1 4 0 4 = nI W := c1.1.2.2
  obtain ⟨H2, s1, s2, s3⟩ := sp_84w (p0 := pre.length) (p1 := pre.length + 1) (W := W) (i := j) (s := smA W z0 pre pre.length) (h := H1) (by omega) (fun k hk => by rw [gne 35 _ (by omega)]; exact pP.2 pre.length (Nat.le_refl _) k hk) (fun k => by have := sm.1 k; omega) (by omega) (by omega)
  have f2 : cwF H1 H2 := ⟨s2.sub (hs_sub_cons (.inr (.tail _ (.head _))) hs_sub_nil), fun x hx => by rw [(s2 10 0 (by intro q hq; revert q; simp)).1]⟩
  have a35 : ∀ u, u ≤ pre.length → H2.1 35 u = H1.1 35 u := fun u hu => (s2 35 u (by intro q hq hh; rcases hh with rfl | rfl <;> simp at hq <;> omega)).1
  have a39 : H2.1 39 0 = H1.1 39 0 := (s2 39 0 (by intro q hq; revert q; simp)).1
  have a40 : H2.1 40 0 = H.1 40 0 := by rw [(s2 40 0 (by intro q hq; revert q; simp)).1, gne 40 0 (by omega)]
  have a41 : H2.1 41 0 = H.1 41 0 := by rw [(s2 41 0 (by intro q hq; revert q; simp)).1, gne 41 0 (by omega)]
  have a10 : H2.1 10 0 = H.1 10 0 := by rw [(s2 10 0 (by intro q hq; revert q; simp)).1, gne 10 0 (by omega)]
  have P2 : cwP N W (pre ++ [j]) H2 := by
    refine ⟨fun u hu => ?_, fun u hu k hk => ?_⟩
    · rw [hl1] at hu
      rw [nz_app pre u (by omega), a39, g39]
      by_cases e : u = pre.length
      · rw [if_pos e, if_pos e]; exact ⟨hj, rfl⟩
      · rw [if_neg e, if_neg e]; exact pP.1 u (by omega)
    · rw [hl1] at hu
      by_cases e : u = pre.length + 1
      · rw [e, esm]; exact s3 k hk
      · rw [a35 u (by omega), gne 35 u (by omega), smA_app pre z0 u (by omega), if_neg e]
        exact pP.2 u (by omega) k hk
  have X2 : cwX N n T one (pre ++ [j]).length (L ++ wyY N re W J st tn nn gn n m pre j) H2 := by
    unfold cwX at pX ⊢
    rw [a10, a41, a40, hl1]
    exact ⟨pX.1, pX.2.1, fun u h1 h2 => pX.2.2 u (by omega) h2⟩
  obtain ⟨v', H3, t1, f3, P3, X3, t40, tv1, tv2, tv3⟩ := hself _ H2 (cwN_fr c1 f2) P2 X2 ho
  rw [hl1] at t1 X3 t40
  obtain ⟨a, ha, ha2, ha3⟩ := pX.2.2 pre.length (Nat.le_refl _) (by omega)
  have h3a : H3.1 40 0 pre.length = nI a := by rw [t40 _ (by omega), a40]; exact ha2
  have hlb := wyX_b (re := re) (W := W) (J := J) (st := st) (tn := tn) (nn := nn) (gn := gn) (m := m) (pre := pre ++ [j]) hN hn
  have hX : cbL (wyX N re W J st tn nn gn n m (pre ++ [j])) pre.length = if 0 < v' then 2 ^ j else 0 := by
    by_cases h0 : 0 < v'
    · rw [if_pos h0]
      refine cbL_all (fun l hl => ?_) (tv3.mp h0)
      unfold wyX at hl
      obtain ⟨l', -, rfl⟩ := List.mem_map.mp hl
      rw [nz_appl (pre ++ [j]) _ (by rw [hl1]; omega), nz_app pre _ (Nat.le_refl _), if_pos rfl]
    · rw [if_neg h0]
      have : wyX N re W J st tn nn gn n m (pre ++ [j]) = [] := Classical.byContradiction (fun w => h0 (tv3.mpr w))
      rw [this]
      rfl
  have hYs := wyY_s (W := W) (tn := tn) (nn := nn) (gn := gn) (m := m) hN hj (by omega) hbit
  have h2j : 2 ^ j < 2 ^ N := Nat.pow_lt_pow_right (by omega) hj
  refine ⟨v + v', hs_put H3 40 0 pre.length (nI (a ||| (if 0 < v' then 2 ^ j else 0))), ⟨?_, ?_, ?_, ?_, ?_, ?_, ?_⟩, ?_⟩
  · have f4 := ((f.tr f1).tr f2).tr f3
    exact ⟨f4.1.put (.inl (.tail _ (.tail _ (.tail _ (.head _))))), fun x hx => by rw [nx_get, if_neg (by omega)]; exact f4.2 x hx⟩
  · refine ⟨fun u hu => ⟨(pP.1 u hu).1, ?_⟩, fun u hu k hk => ?_⟩
    · have := (P3.1 u (by omega)).2
      rw [nz_appl pre u hu] at this
      rw [nx_get, if_neg (by omega)]
      exact this
    · have := P3.2 u (by omega) k hk
      rw [smA_app pre z0 u (by omega), if_neg (by omega)] at this
      rw [nx_get, if_neg (by omega)]
      exact this
  · rw [hYs, ← List.append_assoc]
    refine ⟨?_, fun ho x X e u hu => ?_, fun u h1 h2 => ?_⟩
    · rw [nx_get, if_neg (by omega)]; exact X3.1
    · rw [nx_get, if_neg (by omega)]; exact X3.2.1 ho x X e u hu
    · by_cases e : u = pre.length
      · refine ⟨a ||| (if 0 < v' then 2 ^ j else 0), or_lt ha ?_, ?_, fun ho => ?_⟩
        · by_cases h0 : 0 < v'
          · rw [if_pos h0]; exact h2j
          · rw [if_neg h0]; exact Nat.two_pow_pos N
        · rw [nx_get, if_pos ⟨rfl, rfl, e⟩]
        · rw [e, cbL_app, hX, ha3 ho]
      · obtain ⟨b, q1, q2, q3⟩ := X3.2.2 u (by omega) h2
        exact ⟨b, q1, by rw [nx_get, if_neg (by omega)]; exact q2, q3⟩
  · intro u hu
    rw [nx_get, if_neg (by omega), t40 u (by omega), a40]
    exact p40 u hu
  · rw [hYs, List.length_append]; omega
  · intro ho
    rw [hYs, List.length_append, pv2 ho, tv2 ho]
  · rw [hYs]
    constructor
    · intro h e
      obtain ⟨e1, e2⟩ := List.append_eq_nil_iff.mp e
      by_cases h0 : 0 < v
      · exact pv3.mp h0 e1
      · exact tv3.mp (by omega) e2
    · intro h
      by_cases e1 : wyY N re W J st tn nn gn n m pre j = []
      · have := tv3.mpr (fun e2 => h (by rw [e1, e2]; rfl))
        omega
      · have := pv3.mpr e1
        omega
  · unfold hb_101_57
    rw [sp_147 (by omega) (by omega), Option.bind_some, hbit]
    dsimp only
    rw [if_neg (by decide), nI_add, nx_inb (show pre.length < 6 by omega) (by omega), nx_ck, nx_ck, nx_inb (show pre.length + 1 < 6 by omega) (by omega), nx_ck, nI_clamp (show pre.length < 2147483648 by omega), nI_clamp (show pre.length + 1 < 2147483648 by omega), hH1, e4, s1, Option.bind_some, t1, Option.bind_some, nx_ck]
    dsimp only
    rw [h3a]
    unfold hb_101_129 hb_101_136
    rw [nx_inb (show pre.length < 6 by omega) (by omega), nI_add, nI_add, nI_clamp (show pre.length < 2147483648 by omega)]
    by_cases h0 : 0 < v'
    · rw [if_neg (nI_nle h0 (by omega)), if_pos h0, nx_ck, nx_shl1 (by omega), nx_or]
    · rw [if_pos (by rw [show v' = 0 by omega]; decide), if_neg h0, nx_ck, nx_or]
theorem cw_run (hN : N ≤ 10) (hJ : ∀ k, J k < 2 ^ N) (hre : re = 0 ∨ re = 1) (hst : st = nI 4294967292 ∨ ∃ i, i < N ∧ st = nI i) (hW : W < 2 ^ N) (hz : z ≤ 10) (hm : m ≤ z) (ok : ∀ k, k < z → tn k ≤ 5 ∧ nn k < N ∧ gn k ≤ 18) (hn : n ≤ 5) (hT : T ≤ n) (hf : ∀ u, T < u → u ≤ n → ∀ s, fitB tn nn gn u s m = true) : ∀ (r f : Nat) (pre : List Nat) (L : List (List Nat)) (G : hs_H), pre.length + r = T → r < f → cwN N re W J st z tn nn gn n m T one G → cwP N W pre G → cwX N n T one pre.length L G → (one = false ∨ L = []) → ∃ v H, hf_101 f (nI pre.length) G = some (nI v, H) ∧ cwR N re W n m T J st tn nn gn one pre L (wyX N re W J st tn nn gn n m pre) G v H := by
  have hp := p2_lt hN
  intro r
  induction r with
  | zero =>
    intro f pre L G hr hfu c p q ho
    obtain ⟨f, rfl⟩ : ∃ f2, f = f2 + 1 := ⟨f - 1, by omega⟩
    have hl : pre.length = T := by omega
    have e102 := sp_102 c hN hre hst hW hz hm ok hn (by omega) p
    obtain ⟨H, s1, s2, s3, s4, s5⟩ := cw_fin c hN hJ hre hn hl hT hf p (by rw [hl] at q; exact q)
    refine ⟨_, H, ?_, s2, s3, by rw [hl]; exact s4, by rw [hl]; exact s5, Nat.le_refl _, fun _ => rfl, List.length_pos_iff⟩
    show hg_101 (hf_101 f) (nI pre.length) G = _
    unfold hg_101 hb_101_19
    rw [e102, Option.bind_some]
    dsimp only
    rw [c.2.2.1.2.2.1, if_pos (nI_le (by omega) (by omega)), hl, s1, Option.bind_some]
  | succ r ih =>
    intro f pre L G hr hfu c p q ho
    obtain ⟨f, rfl⟩ : ∃ f2, f = f2 + 1 := ⟨f - 1, by omega⟩
    have e102 := sp_102 c hN hre hst hW hz hm ok hn (by omega) p
    have hx := nxc_lt (W := W) (tn := tn) (nn := nn) (gn := gn) (n := n) (m := m) (st := st) hJ hre (fun u hu => (p.1 u hu).1)
    have loop : ∃ v H, hs_lp (fun k s => hb_101_31 (hf_101 f) k s.1 s.2.1 s.2.2.1 s.2.2.2.1 s.2.2.2.2) hs_big (nI pre.length, nI (nxc N re W J st tn nn gn n m pre), nI 0, nI 0, G) = some (nI v, H) ∧ cwR N re W n m T J st tn nn gn one pre L (wyX N re W J st tn nn gn n m pre) G v H := by
      refine lp_q2 (f := fun k s => hb_101_31 (hf_101 f) k s.1 s.2.1 s.2.2.1 s.2.2.2.1 s.2.2.2.2) (I := fun d q => ∃ j v H, j ≤ N ∧ d = N - j ∧ cwR N re W n m T J st tn nn gn one pre L (wyY N re W J st tn nn gn n m pre j) G v H ∧ q = (nI pre.length, nI (nxc N re W J st tn nn gn n m pre), nI v, nI j, H)) (Q := fun o => ∃ v H, o = some (nI v, H) ∧ cwR N re W n m T J st tn nn gn one pre L (wyX N re W J st tn nn gn n m pre) G v H) (fun d q hI k => ?_) N _ hs_big ⟨0, 0, G, Nat.zero_le _, rfl, ⟨⟨hs_fr.rf, fun _ _ => rfl⟩, p, by show cwX N n T one pre.length (L ++ []) G; rw [List.append_nil]; exact q, fun _ _ => rfl, Nat.zero_le _, fun _ => rfl, ⟨fun h => absurd h (Nat.lt_irrefl _), fun h => absurd rfl h⟩⟩, rfl⟩ (lp_big (by omega))
      obtain ⟨j, v, H, hj, rfl, w, rfl⟩ := hI
      have cH := cwN_fr c w.1
      by_cases hjN : j = N
      · rw [hjN, wyY_N] at w
        refine Or.inl ⟨v, H, ?_, w⟩
        show hb_101_31 (hf_101 f) k (nI pre.length) (nI (nxc N re W J st tn nn gn n m pre)) (nI v) (nI j) H = _
        unfold hb_101_31 hb_101_142
        rw [cH.1.1.1, if_pos (nI_le (by omega) (by omega))]
      · have hj2 : j < N := by omega
        obtain ⟨w1, w2, w3, w4, w5, w6, w7⟩ := id w
        by_cases hstop : one = true ∧ L ++ wyY N re W J st tn nn gn n m pre j ≠ []
        · obtain ⟨ht, hne⟩ := hstop
          have hL : L = [] := ho.resolve_left (fun q => by rw [ht] at q; cases q)
          have hYne : wyY N re W J st tn nn gn n m pre j ≠ [] := fun e => hne (by rw [hL, e]; rfl)
          obtain ⟨R, hR⟩ := wyY_pre (re := re) (W := W) (J := J) (st := st) (tn := tn) (nn := nn) (gn := gn) (n := n) (m := m) (pre := pre) hj
          have hXne : wyX N re W J st tn nn gn n m pre ≠ [] := fun e => hYne (by rw [hR] at e; exact (List.append_eq_nil_iff.mp e).1)
          have nof : ¬ one = false := fun q => by rw [ht] at q; cases q
          refine Or.inl ⟨v, H, ?_, w1, w2, ⟨?_, fun q => absurd q nof, fun u h1 h2 => ?_⟩, w4, ?_, fun q => absurd q nof, ⟨fun _ => hXne, fun _ => w7.mpr hYne⟩⟩
          · show hb_101_31 (hf_101 f) k (nI pre.length) (nI (nxc N re W J st tn nn gn n m pre)) (nI v) (nI j) H = _
            unfold hb_101_31 hb_101_142
            rw [cH.1.1.1, if_neg (nI_ge hj2 (by omega)), cH.2.2.1.2.2.2, ht, if_neg (by decide), w3.1, isE_f.mpr hne, if_pos (by decide)]
          · rw [w3.1, isE_f.mpr hne, isE_app, isE_f.mpr hXne, Bool.and_false]
          · obtain ⟨a, a1, a2, -⟩ := w3.2.2 u h1 h2
            exact ⟨a, a1, a2, fun q => absurd q nof⟩
          · rw [hR, List.length_append]; omega
        · have ho' : one = false ∨ L ++ wyY N re W J st tn nn gn n m pre j = [] := by
            by_cases e : L ++ wyY N re W J st tn nn gn n m pre j = []
            · exact Or.inr e
            · refine Or.inl ?_
              cases ho1 : one with
              | false => rfl
              | true => exact absurd ⟨ho1, e⟩ hstop
          have hd : hb_101_31 (hf_101 f) k (nI pre.length) (nI (nxc N re W J st tn nn gn n m pre)) (nI v) (nI j) H = hb_101_57 (hf_101 f) k (nI pre.length) (nI (nxc N re W J st tn nn gn n m pre)) (nI v) (nI j) H := by
            unfold hb_101_31
            rw [cH.1.1.1, if_neg (nI_ge hj2 (by omega)), cH.2.2.1.2.2.2]
            rcases ho' with e | e
            · rw [e, if_pos (by decide)]
            · rw [w3.1, e]
              by_cases e2 : bI one = 0
              · rw [if_pos e2]
              · rw [if_neg e2, if_neg (by decide)]
          cases hbit : (nxc N re W J st tn nn gn n m pre).testBit j with
          | true =>
            obtain ⟨v', H', g1, g2⟩ := cw_step (self := hf_101 f) k c hN hJ hre hW hn (by omega) hT hj2 hbit ho' (fun L G a1 a2 a3 a4 => ih f (pre ++ [j]) L G (by rw [List.length_append]; show pre.length + 1 + r = T; omega) (by omega) a1 a2 a3 a4) w
            exact Or.inr ⟨N - (j + 1), _, by omega, ⟨j + 1, v', H', by omega, rfl, g1, rfl⟩, hd.trans g2⟩
          | false =>
            refine Or.inr ⟨N - (j + 1), _, by omega, ⟨j + 1, v, H, by omega, rfl, ?_, rfl⟩, hd.trans ?_⟩
            · rw [wyY_n hN hj2 hbit]; exact w
            · unfold hb_101_57 hb_101_136
              rw [sp_147 (by omega) (by omega), Option.bind_some, hbit]
              dsimp only
              rw [if_pos (by decide), nI_add]
    obtain ⟨v, H, g1, g2⟩ := loop
    refine ⟨v, H, ?_, g2⟩
    show hg_101 (hf_101 f) (nI pre.length) G = _
    unfold hg_101
    rw [e102, Option.bind_some]
    dsimp only
    rw [c.2.2.1.2.2.1, if_neg (nI_ge (by omega) (by omega)), if_pos (nI_lt (by omega) (by omega))]
    exact g1
end CR
