/-! caught, flees, best. -/
section CC
variable {VC : Nat → (Nat → Nat) → Nat → Int32 → Int32 → hs_H → Prop} {VW : st_VW}
/-- the class's chase, solved or kept -/
theorem ch_solve (V : st_V VC chV VW) {b N re W Ho : Nat} {J : Nat → Nat} {st pl mv : Int32} {s : Nat → Nat} {z : Nat} {t n g : Nat → Nat} {c d : Nat} {h : hs_H} (hb : b ≤ 1000000) (hcd : c ≤ b ∧ d ≤ b) (co : st_core 0 0 N re W Ho J st pl mv s z t n g h) (mN : st_mN N re W Ho h) (im : st_imgs N re W Ho h) (ca : st_cache VC chV VW c d N J re st W z t n g h) (rs : st_rest h) : ∃ H, hf_10 h = some H ∧ hs_fr [(1, some 0), (24, some 0), (25, some 0), (26, some 0)] h H ∧ chV N J re H ∧ st_all VC chV VW b H := by
  obtain ⟨⟨okN, okF, okS⟩, ⟨cN, cF, cS⟩, mJ, mF, mS⟩ := id co
  obtain ⟨⟨hN1, hN2⟩, hre, hst, ⟨hW, hHo⟩, hJ, hJ0, hJs, hJa⟩ := id okN
  obtain ⟨cN1, cN2, cN3, cN4, cN5, cJ⟩ := id cN
  obtain ⟨⟨ca1, ca2⟩, ca3, ca4, ca5⟩ := id ca
  have fresh : hb_10_22 h = hb_10_22 h → ∃ H, hb_10_22 h = some H ∧ hs_fr [(1, some 0), (24, some 0), (25, some 0), (26, some 0)] h H ∧ chV N J re H ∧ st_all VC chV VW b H := by
    intro _
    obtain ⟨H, e1, f, e4, e5, e6⟩ := sp_10b (J := J) (re := re) (h := h) ⟨cN1, cN2, cJ⟩ hN2 hN1 hJ hre
    refine ⟨H, e1, f, e6, N, re, W, Ho, J, st, pl, mv, s, z, t, n, g, c, d, hcd, st_core_dep.fr f rfl co, st_mN_dep.fr f rfl mN, st_imgs_dep.fr f rfl im, ⟨⟨?_, ?_⟩, (st_cas_dep V).fr f rfl ca3, Or.inr ⟨e4, c, Nat.le_refl _, by rw [e5]; exact ca1, fun _ => e6⟩, (st_way_dep V).fr f rfl ca5⟩, st_rest_dep.fr f rfl rs⟩
    · rw [(f 4 0 (by intro q hq; revert q; simp)).1]; exact ca1
    · rw [(f 5 0 (by intro q hq; revert q; simp)).1]; exact ca2
  unfold hf_10
  rcases ca4 with q | ⟨q1, kn, q2, q3, q4⟩
  · rw [if_pos (by rw [q]; decide)]
    exact fresh rfl
  · rw [if_neg (by rw [q1]; decide)]
    by_cases e : kn = c
    · rw [if_neg (fun w => w (by rw [q3, ca1, e]))]
      exact ⟨h, rfl, hs_fr.rf, q4 e, N, re, W, Ho, J, st, pl, mv, s, z, t, n, g, c, d, hcd, co, mN, im, ca, rs⟩
    · rw [if_pos (by rw [q3, ca1]; exact fun w => e (nI_inj (by omega) (by omega) w))]
      exact fresh rfl
theorem sp_219 {N : Nat} {a e w : Int32} {h : hs_H} (mN1 : h.1 12 0 2 = nI N) (hN1 : 1 ≤ N) (hN2 : N ≤ 10) : hf_219 a e w h = some (bI (nd N a && (nd N e && nd N w)), h) := by
  unfold hf_219 hb_219_28 hb_219_29
  rw [sp_171 mN1 hN1 (by omega), Option.bind_some]
  dsimp only
  cases nd N a with
  | false => rw [if_pos (by decide)]; rfl
  | true =>
    rw [if_neg (by decide), sp_171 mN1 hN1 (by omega), Option.bind_some]
    dsimp only
    cases nd N e with
    | false => rw [if_pos (by decide)]; rfl
    | true =>
      rw [if_neg (by decide), sp_171 mN1 hN1 (by omega), Option.bind_some]
      dsimp only
      cases nd N w with
      | false => rw [if_pos (by decide)]; rfl
      | true => rw [if_neg (by decide)]; rfl
theorem mN_ne {x : Nat} (hx : okv x) : (nI (mN x) = nI 99999) ↔ x = 1000000 := by
  unfold mN okv at *
  constructor
  · intro q
    apply Classical.byContradiction
    intro w
    rw [if_neg w] at q
    have := nI_inj (by omega) (by omega) q
    omega
  · intro q
    rw [if_pos q]
theorem mN_v {x : Nat} (h : ¬ x = 1000000) : mN x = x := if_neg h
theorem cl_caught (V : st_V VC chV VW) {a e w : Int32} : st_call VC chV VW (hf_131 a e w) (hf_220 a e w) := by
  intro b h hb p
  have p0 := p
  obtain ⟨N, re, W, Ho, J, st, pl, mv, s, z, t, n, g, c, d, ⟨hc, hd⟩, ⟨⟨okN, okF, okS⟩, ⟨cN, cF, cS⟩, mJ, mF, mS⟩, mN, im, ca, rs⟩ := p
  obtain ⟨⟨hN1, hN2⟩, hre, hst, ⟨hW, hHo⟩, hJ, hJ0, hJs, hJa⟩ := id okN
  obtain ⟨cN1, cN2, cN3, cN4, cN5, cJ⟩ := id cN
  obtain ⟨mN1, mN2, mN3, mN4⟩ := id mN
  obtain ⟨mJ1, mJ2⟩ := st_mJ0 mJ
  obtain ⟨mF1, mF2, mF3⟩ := st_mF0 mF
  obtain ⟨mS1, mS2⟩ := st_mS0 mS
  obtain ⟨cF1, cF2, cF3⟩ := id cF
  obtain ⟨cS1, cS2⟩ := id cS
  have hp := p2_lt hN2
  by_cases hok : nd N a = true ∧ nd N e = true ∧ nd N w = true
  · obtain ⟨i, hi, rfl⟩ := (nd_of (by omega)).mp hok.1
    obtain ⟨j, hj, rfl⟩ := (nd_of (by omega)).mp hok.2.1
    obtain ⟨x, hx, rfl⟩ := (nd_of (by omega)).mp hok.2.2
    obtain ⟨H, s1, s2, s3, s4⟩ := ch_solve V hb ⟨hc, hd⟩ ⟨⟨okN, okF, okS⟩, ⟨cN, cF, cS⟩, mJ, mF, mS⟩ mN im ca rs
    have nm : mk_n N re J H := mk_n_fr s2 rfl ⟨mN1, mN2, mJ1⟩
    obtain ⟨G, g1, g2, g3, g4⟩ := sp_218 nm hN2 hN1 hJ hJa hre
    have hot := tms_ok (J := J) (N := N) (re := re) (r := 1000) (f := i) (a := j) (b := x) (Nat.le_refl _)
    refine ⟨if tms J N re 1000 i j x = 1000000 then nI 4294967292 else nI (tms J N re 1000 i j x), H, G, ?_, ?_, (st_all_fr V g2 rfl s4).up VC chV VW (by omega)⟩
    · unfold hf_131
      rw [sp_29 cN1 (by omega), hok.1, Option.bind_some]
      dsimp only
      rw [if_neg (by decide), sp_29 cN1 (by omega), hok.2.1, Option.bind_some]
      dsimp only
      rw [if_neg (by decide), sp_29 cN1 (by omega), hok.2.2, Option.bind_some]
      dsimp only
      rw [if_pos (by decide), s1, Option.bind_some]
      unfold hf_16 hb_16_27
      rw [sp_22 (by omega) (by omega) (by omega), Option.bind_some]
      dsimp only
      rw [nx_inb (by omega) (by omega), nx_ck, nI_clamp (by omega), s3 i j x hi hj hx]
      by_cases c1 : tms J N re 1000 i j x = 1000000
      · rw [if_neg (fun q => q (by rw [c1])), if_pos c1]
        rfl
      · rw [if_pos (fun q => c1 (nI_inj (by have := hot.resolve_left c1; omega) (by omega) q)), if_neg c1]
        rfl
    · unfold hf_220 hb_220_43
      rw [sp_219 nm.1 (by omega) hN2, hok.1, hok.2.1, hok.2.2, Option.bind_some]
      dsimp only
      rw [if_pos (by decide), g1, Option.bind_some, sp_213, Option.bind_some]
      dsimp only
      rw [nx_inb (by omega) (by omega), nx_ck, nI_clamp (by omega), g3 i j x hi hj hx]
      by_cases c1 : tms J N re 1000 i j x = 1000000
      · rw [if_neg (fun q => q ((mN_ne hot).mpr c1)), if_pos c1]
      · rw [if_pos (fun q => c1 ((mN_ne hot).mp q)), if_neg c1]
        rw [mN_v c1]
  · refine ⟨nI 4294967295, h, h, ?_, ?_, p0.up VC chV VW (by omega)⟩
    · unfold hf_131 hb_131_33
      rw [sp_29 cN1 (by omega), Option.bind_some]
      dsimp only
      cases h1 : nd N a with
      | false => rw [if_pos (by decide)]
      | true =>
        rw [if_neg (by decide), sp_29 cN1 (by omega), Option.bind_some]
        dsimp only
        cases h2 : nd N e with
        | false => rw [if_pos (by decide)]
        | true =>
          rw [if_neg (by decide), sp_29 cN1 (by omega), Option.bind_some]
          dsimp only
          cases h3 : nd N w with
          | false => rw [if_neg (by decide)]
          | true => exact (hok ⟨h1, h2, h3⟩).elim
    · unfold hf_220
      rw [sp_219 mN1 (by omega) hN2, Option.bind_some]
      dsimp only
      rw [if_neg (fun q => q ((bI_e0 _).mpr (fun w2 => hok (by rw [Bool.and_eq_true, Bool.and_eq_true] at w2; exact w2))))]
/-- the first of the longest: the node, and one more than how long -/
def flS (J : Nat → Nat) (N re f a b : Nat) : Nat → Nat × Nat
  | 0 => (4294967292, 0)
  | n + 1 => if (stp J re f).testBit n = true ∧ (flS J N re f a b n).2 ≤ lasts J N re 1000 n a b then (n, lasts J N re 1000 n a b + 1) else flS J N re f a b n
theorem flS_ok {J : Nat → Nat} {N re f a b : Nat} : ∀ n, (flS J N re f a b n).2 = 0 ∨ ∃ v, okv v ∧ (flS J N re f a b n).2 = v + 1 := by
  intro n
  induction n with
  | zero => exact Or.inl rfl
  | succ n ih =>
    by_cases c : (stp J re f).testBit n = true ∧ (flS J N re f a b n).2 ≤ lasts J N re 1000 n a b
    · have e : flS J N re f a b (n + 1) = (n, lasts J N re 1000 n a b + 1) := if_pos c
      rw [e]
      exact Or.inr ⟨_, lasts_ok (Nat.le_refl _), rfl⟩
    · have e : flS J N re f a b (n + 1) = flS J N re f a b n := if_neg c
      rw [e]
      exact ih
def lgc (L : Nat) : Int32 := if L = 0 then nI 4294967292 else nI (L - 1)
def lgm (L : Nat) : Nat := if L = 0 then 0 else mB (L - 1)
section FL
variable {J : Nat → Nat} {N re : Nat}
theorem sp_18 {r f a b : Nat} {h : hs_H} (n : ch_n N re J h) (hN : N ≤ 10) (hJ : ∀ k, J k < 2 ^ N) (ha : a < N) (hb : b < N) (hf : f < N) (hr : r ≤ 1000) (hv : ∀ x y, x < N → y < N → h.1 24 0 (100 * f + 10 * x + y) = nI (tms J N re r f x y)) : hf_18 (nI f) (nI a) (nI b) h = some (nI (lasts J N re r f a b), h) := by
  have hp := p2_lt hN
  have hRa := rch_lt hJ ha
  have hRb := rch_lt hJ hb
  have hok : ∀ x y, okv (tms J N re r f x y) := fun x y => tms_ok hr
  unfold hf_18
  rw [sp_20 n (by omega), Option.bind_some]
  dsimp only
  rw [sp_20 n (by omega), Option.bind_some]
  dsimp only
  unfold lasts
  generalize rch J a = Ra at hRa
  generalize rch J b = Rb at hRb
  generalize tms J N re r f = v at hok hv
  refine lp_for (st := fun i => (nI f, nI Ra, nI Rb, nI (eAll v N Ra Rb 1000000 i), nI i, h)) (e := N) (fun i hi k => ?_) (fun k => ?_) 0 hs_big (by omega) (lp_big (by omega))
  · show hb_18_21 k (nI f) (nI Ra) (nI Rb) (nI (eAll v N Ra Rb 1000000 i)) (nI i) h = k (nI f, nI Ra, nI Rb, nI (if Ra.testBit i = true then eRow v i Rb (eAll v N Ra Rb 1000000 i) N else eAll v N Ra Rb 1000000 i), nI (i + 1), h)
    have hE := eAll_ok (N := N) (Ra := Ra) (Rb := Rb) hok (Or.inl rfl) i
    generalize eAll v N Ra Rb 1000000 i = E at hE
    unfold hb_18_21
    rw [n.1, if_neg (nI_ge hi (by omega))]
    cases hbi : Ra.testBit i with
    | false =>
      rw [if_neg Bool.false_ne_true]
      refine lp_for (st := fun _ => (nI f, nI Ra, nI Rb, nI E, nI i, nI 0, h)) (e := 0) (fun j hj k => by omega) (fun q => ?_) 0 hs_big (by omega) (lp_big (by omega))
      show hb_18_36 k q (nI f) (nI Ra) (nI Rb) (nI E) (nI i) (nI 0) h = _
      unfold hb_18_36 hb_18_94
      rw [n.1, if_neg (nI_ge (by omega) (by omega)), sp_147 (by omega) (by omega), hbi, Option.bind_some]
      dsimp only
      rw [if_pos (by decide), nI_add]
    | true =>
      rw [if_pos rfl]
      refine lp_for (st := fun j => (nI f, nI Ra, nI Rb, nI (eRow v i Rb E j), nI i, nI j, h)) (e := N) (fun j hj q => ?_) (fun q => ?_) 0 hs_big (by omega) (lp_big (by omega))
      · show hb_18_36 k q (nI f) (nI Ra) (nI Rb) (nI (eRow v i Rb E j)) (nI i) (nI j) h = q (nI f, nI Ra, nI Rb, nI (if Rb.testBit j = true then min (eRow v i Rb E j) (v i j) else eRow v i Rb E j), nI i, nI (j + 1), h)
        have hE2 := eRow_ok (v := v) (i := i) (Rb := Rb) (acc := E) hok hE j
        have hvo := hok i j
        generalize eRow v i Rb E j = E2 at hE2
        unfold hb_18_36 hb_18_88
        rw [n.1, if_neg (nI_ge hj (by omega)), sp_147 (by omega) (by omega), hbi, Option.bind_some]
        dsimp only
        rw [if_neg (by decide), sp_147 (by omega) (by omega), Option.bind_some]
        dsimp only
        cases hbj : Rb.testBit j with
        | false => rw [if_pos (by decide), if_neg Bool.false_ne_true, nI_add]
        | true =>
          unfold okv at hE2 hvo
          rw [if_neg (by decide), sp_22 (by omega) (by omega) (by omega), Option.bind_some]
          dsimp only
          rw [nx_inb (by omega) (by omega), nx_ck, nI_clamp (by omega), hv i j hi hj, sp_243 (by omega) (by omega), Option.bind_some, if_pos rfl, nI_add]
      · show hb_18_36 k q (nI f) (nI Ra) (nI Rb) (nI (eRow v i Rb E N)) (nI i) (nI N) h = _
        unfold hb_18_36 hb_18_94
        rw [n.1, if_pos (nI_le (Nat.le_refl _) (by omega)), nI_add]
  · show hb_18_21 k (nI f) (nI Ra) (nI Rb) (nI (eAll v N Ra Rb 1000000 N)) (nI N) h = _
    unfold hb_18_21
    rw [n.1, if_pos (nI_le (Nat.le_refl _) (by omega))]
theorem lgc_le {v L : Nat} (hL : L = 0 ∨ ∃ u, okv u ∧ L = u + 1) (hv : okv v) : (nI v ≤ lgc L) ↔ ¬ L ≤ v := by
  unfold lgc okv at *
  rcases hL with rfl | ⟨u, hu, rfl⟩
  · rw [if_pos rfl]
    constructor
    · intro q
      rw [Int32.le_iff_toInt_le, nI_toInt (by omega)] at q
      have : (nI 4294967292).toInt = -4 := by decide
      omega
    · intro q; omega
  · rw [if_neg (by omega), Nat.add_sub_cancel]
    constructor
    · intro q w
      exact nI_ge (show u < v by omega) (by omega) q
    · intro q
      exact nI_le (by omega) (by omega)
theorem sp_17 {f a b : Nat} {h : hs_H} (n : ch_n N re J h) (hN : N ≤ 10) (hJ : ∀ k, J k < 2 ^ N) (hre : re = 0 ∨ re = 1) (ha : a < N) (hb : b < N) (hf : f < N) (hv : chV N J re h) : hf_17 (nI f) (nI a) (nI b) h = some (nI (flS J N re f a b N).1, h) := by
  have hp := p2_lt hN
  have hs := stp_lt hJ hre hf
  unfold hf_17
  rw [sp_40 n.1 n.2.1 hre n.2.2 hJ hf hN, Option.bind_some]
  refine lp_for (st := fun i => (nI a, nI b, nI (stp J re f), nI (flS J N re f a b i).1, lgc (flS J N re f a b i).2, nI i, h)) (e := N) (fun i hi k => ?_) (fun k => ?_) 0 hs_big (by omega) (lp_big (by omega))
  · show hb_17_21 k (nI a) (nI b) (nI (stp J re f)) (nI (flS J N re f a b i).1) (lgc (flS J N re f a b i).2) (nI i) h = k (nI a, nI b, nI (stp J re f), nI (if (stp J re f).testBit i = true ∧ (flS J N re f a b i).2 ≤ lasts J N re 1000 i a b then (i, lasts J N re 1000 i a b + 1) else flS J N re f a b i).1, lgc (if (stp J re f).testBit i = true ∧ (flS J N re f a b i).2 ≤ lasts J N re 1000 i a b then (i, lasts J N re 1000 i a b + 1) else flS J N re f a b i).2, nI (i + 1), h)
    have ho := flS_ok (J := J) (N := N) (re := re) (f := f) (a := a) (b := b) i
    generalize flS J N re f a b i = F at ho
    unfold hb_17_21 hb_17_68
    rw [n.1, if_neg (nI_ge hi (by omega)), sp_147 (by omega) (by omega), Option.bind_some]
    dsimp only
    cases hbi : (stp J re f).testBit i with
    | false => rw [if_pos (by decide), if_neg (c := false = true ∧ F.2 ≤ lasts J N re 1000 i a b) (fun q => absurd q.1 (by decide)), nI_add]
    | true =>
      rw [if_neg (by decide), sp_18 n hN hJ ha hb hi (Nat.le_refl _) (fun x y hx hy => hv i x y hi hx hy), Option.bind_some]
      dsimp only
      have hlo := lasts_ok (J := J) (N := N) (re := re) (r := 1000) (f := i) (a := a) (b := b) (Nat.le_refl _)
      by_cases c : F.2 ≤ lasts J N re 1000 i a b
      · rw [if_neg (fun q => (lgc_le ho hlo).mp q c), if_pos ⟨rfl, c⟩, nI_add]
        rfl
      · rw [if_pos ((lgc_le ho hlo).mpr c), if_neg (fun q => c q.2), nI_add]
  · show hb_17_21 k (nI a) (nI b) (nI (stp J re f)) (nI (flS J N re f a b N).1) (lgc (flS J N re f a b N).2) (nI N) h = _
    unfold hb_17_21
    rw [n.1, if_pos (nI_le (Nat.le_refl _) (by omega))]
theorem lgm_le {v L : Nat} (hL : L = 0 ∨ ∃ u, okv u ∧ L = u + 1) (hv : okv v) : (mB v ≤ lgm L) ↔ ¬ L ≤ v := by
  unfold lgm mB okv at *
  rcases hL with rfl | ⟨u, hu, rfl⟩
  · rw [if_pos rfl]
    split <;> omega
  · rw [if_neg (show ¬ u + 1 = 0 by omega), Nat.add_sub_cancel]
    split <;> split <;> omega
theorem sp_221 {f a b : Nat} {h : hs_H} (n : mk_n N re J h) (hN : N ≤ 10) (hJ : ∀ k, J k < 2 ^ N) (hJa : ∀ a, (J a).testBit a = false) (hre : re = 0 ∨ re = 1) (ha : a < N) (hb : b < N) (hf : f < N) (hv : ∀ f x y, f < N → x < N → y < N → h.1 60 0 (100 * f + 10 * x + y) = nI (mN (lasts J N re 1000 f x y))) : hs_lp (fun k s => hb_221_39 k s.1 s.2.1 s.2.2.1 s.2.2.2.1 s.2.2.2.2.1 s.2.2.2.2.2.1 s.2.2.2.2.2.2) hs_big (nI f, nI a, nI b, nI 4294967292, nI 0, nI 0, h) = some (nI (flS J N re f a b N).1, h) := by
  have hp := p2_lt hN
  have hs := stp_lt hJ hre hf
  refine lp_for (st := fun i => (nI f, nI a, nI b, nI (flS J N re f a b i).1, nI (lgm (flS J N re f a b i).2), nI i, h)) (e := N) (fun i hi k => ?_) (fun k => ?_) 0 hs_big (by omega) (lp_big (by omega))
  · show hb_221_39 k (nI f) (nI a) (nI b) (nI (flS J N re f a b i).1) (nI (lgm (flS J N re f a b i).2)) (nI i) h = k (nI f, nI a, nI b, nI (if (stp J re f).testBit i = true ∧ (flS J N re f a b i).2 ≤ lasts J N re 1000 i a b then (i, lasts J N re 1000 i a b + 1) else flS J N re f a b i).1, nI (lgm (if (stp J re f).testBit i = true ∧ (flS J N re f a b i).2 ≤ lasts J N re 1000 i a b then (i, lasts J N re 1000 i a b + 1) else flS J N re f a b i).2), nI (i + 1), h)
    have ho := flS_ok (J := J) (N := N) (re := re) (f := f) (a := a) (b := b) i
    generalize flS J N re f a b i = F at ho
    have hlb : lgm F.2 ≤ 99999 := by
      unfold lgm
      rcases ho with q | ⟨u, hu, q⟩
      · rw [if_pos q]; omega
      · rw [if_neg (by omega), q, Nat.add_sub_cancel]; exact mB_b hu
    unfold hb_221_39 hb_221_70 hb_221_86 hb_221_102
    rw [n.1, if_neg (nI_ge hi (by omega)), sp_216 n hN hJ hJa hre hf hi, Option.bind_some, nI_add]
    dsimp only
    cases hbi : (stp J re f).testBit i with
    | false => rw [if_pos (by decide), if_pos (nI_le (by omega) (by omega)), if_pos (nI_le (by omega) (by omega)), if_neg (c := false = true ∧ F.2 ≤ lasts J N re 1000 i a b) (fun q => absurd q.1 (by decide))]
    | true =>
      have hlo := lasts_ok (J := J) (N := N) (re := re) (r := 1000) (f := i) (a := a) (b := b) (Nat.le_refl _)
      have hBb := mB_b hlo
      rw [if_neg (by decide), sp_215 hN ha hb hi (Nat.le_refl _) (hv i a b hi ha hb), Option.bind_some]
      dsimp only
      by_cases c : F.2 ≤ lasts J N re 1000 i a b
      · have q : ¬ mB (lasts J N re 1000 i a b) ≤ lgm F.2 := fun q => (lgm_le ho hlo).mp q c
        rw [if_neg (nI_ge (by omega) (by omega)), if_neg (nI_ge (by omega) (by omega)), if_pos ⟨rfl, c⟩]
        rfl
      · have q := (lgm_le ho hlo).mpr c
        rw [if_pos (nI_le q (by omega)), if_pos (nI_le q (by omega)), if_neg (fun q => c q.2)]
  · show hb_221_39 k (nI f) (nI a) (nI b) (nI (flS J N re f a b N).1) (nI (lgm (flS J N re f a b N).2)) (nI N) h = _
    unfold hb_221_39
    rw [n.1, if_pos (nI_le (Nat.le_refl _) (by omega))]
end FL
theorem cl_flees (V : st_V VC chV VW) {a e w : Int32} : st_call VC chV VW (hf_132 a e w) (hf_221 a e w) := by
  intro b h hb p
  have p0 := p
  obtain ⟨N, re, W, Ho, J, st, pl, mv, s, z, t, n, g, c, d, ⟨hc, hd⟩, ⟨⟨okN, okF, okS⟩, ⟨cN, cF, cS⟩, mJ, mF, mS⟩, mN, im, ca, rs⟩ := p
  obtain ⟨⟨hN1, hN2⟩, hre, hst, ⟨hW, hHo⟩, hJ, hJ0, hJs, hJa⟩ := id okN
  obtain ⟨cN1, cN2, cN3, cN4, cN5, cJ⟩ := id cN
  obtain ⟨mN1, mN2, mN3, mN4⟩ := id mN
  obtain ⟨mJ1, mJ2⟩ := st_mJ0 mJ
  obtain ⟨mF1, mF2, mF3⟩ := st_mF0 mF
  obtain ⟨mS1, mS2⟩ := st_mS0 mS
  obtain ⟨cF1, cF2, cF3⟩ := id cF
  obtain ⟨cS1, cS2⟩ := id cS
  have hp := p2_lt hN2
  by_cases hok : nd N a = true ∧ nd N e = true ∧ nd N w = true
  · by_cases heq : a = e ∨ a = w
    · refine ⟨nI 4294967294, h, h, ?_, ?_, p0.up VC chV VW (by omega)⟩
      · unfold hf_132 hb_132_45
        rw [sp_29 cN1 (by omega), hok.1, Option.bind_some]
        dsimp only
        rw [if_neg (by decide), sp_29 cN1 (by omega), hok.2.1, Option.bind_some]
        dsimp only
        rw [if_neg (by decide), sp_29 cN1 (by omega), hok.2.2, Option.bind_some]
        dsimp only
        rw [if_pos (by decide)]
        by_cases c : a = e
        · rw [if_pos c]
        · rw [if_neg c, if_neg (fun q => q (heq.resolve_left c))]
      · unfold hf_221 hb_221_22
        rw [sp_219 mN1 (by omega) hN2, hok.1, hok.2.1, hok.2.2, Option.bind_some]
        dsimp only
        rw [if_pos (by decide)]
        by_cases c : a = e
        · rw [if_pos c]
        · rw [if_neg c, if_neg (fun q => q (heq.resolve_left c))]
    · obtain ⟨i, hi, rfl⟩ := (nd_of (by omega)).mp hok.1
      obtain ⟨j, hj, rfl⟩ := (nd_of (by omega)).mp hok.2.1
      obtain ⟨x, hx, rfl⟩ := (nd_of (by omega)).mp hok.2.2
      obtain ⟨H, s1, s2, s3, s4⟩ := ch_solve V hb ⟨hc, hd⟩ ⟨⟨okN, okF, okS⟩, ⟨cN, cF, cS⟩, mJ, mF, mS⟩ mN im ca rs
      have nm : mk_n N re J H := mk_n_fr s2 rfl ⟨mN1, mN2, mJ1⟩
      have nc : ch_n N re J H := ch_n_fr s2 rfl ⟨cN1, cN2, cJ⟩
      obtain ⟨G, g1, g2, g3, g4⟩ := sp_218 nm hN2 hN1 hJ hJa hre
      refine ⟨nI (flS J N re i j x N).1, H, G, ?_, ?_, (st_all_fr V g2 rfl s4).up VC chV VW (by omega)⟩
      · unfold hf_132
        rw [sp_29 cN1 (by omega), hok.1, Option.bind_some]
        dsimp only
        rw [if_neg (by decide), sp_29 cN1 (by omega), hok.2.1, Option.bind_some]
        dsimp only
        rw [if_neg (by decide), sp_29 cN1 (by omega), hok.2.2, Option.bind_some]
        dsimp only
        rw [if_pos (by decide), if_neg (fun q => heq (Or.inl q)), if_pos (fun q => heq (Or.inr q)), s1, Option.bind_some, sp_17 nc hN2 hJ hre hj hx hi s3]
        rfl
      · unfold hf_221
        rw [sp_219 nm.1 (by omega) hN2, hok.1, hok.2.1, hok.2.2, Option.bind_some]
        dsimp only
        rw [if_pos (by decide), if_neg (fun q => heq (Or.inl q)), if_pos (fun q => heq (Or.inr q)), g1, Option.bind_some]
        exact sp_221 (mk_n_fr g2 rfl nm) hN2 hJ hJa hre hj hx hi g4
  · refine ⟨nI 4294967295, h, h, ?_, ?_, p0.up VC chV VW (by omega)⟩
    · unfold hf_132 hb_132_33
      rw [sp_29 cN1 (by omega), Option.bind_some]
      dsimp only
      cases h1 : nd N a with
      | false => rw [if_pos (by decide)]
      | true =>
        rw [if_neg (by decide), sp_29 cN1 (by omega), Option.bind_some]
        dsimp only
        cases h2 : nd N e with
        | false => rw [if_pos (by decide)]
        | true =>
          rw [if_neg (by decide), sp_29 cN1 (by omega), Option.bind_some]
          dsimp only
          cases h3 : nd N w with
          | false => rw [if_neg (by decide)]
          | true => exact (hok ⟨h1, h2, h3⟩).elim
    · unfold hf_221
      rw [sp_219 mN1 (by omega) hN2, Option.bind_some]
      dsimp only
      rw [if_neg (fun q => q ((bI_e0 _).mpr (fun w2 => hok (by rw [Bool.and_eq_true, Bool.and_eq_true] at w2; exact w2))))]
end CC
