/-! best. -/
section BE
variable {J : Nat → Nat} {N re : Nat}
/-- the worst fox for two hounds -/
def wst (J : Nat → Nat) (N re a b : Nat) : Nat → Nat
  | 0 => 0
  | f + 1 => max (wst J N re a b f) (tms J N re 1000 f a b)
theorem wst_ok {a b : Nat} : ∀ n, okv (wst J N re a b n) := by
  intro n
  induction n with
  | zero => exact Or.inr (Nat.zero_le _)
  | succ n ih =>
    show okv (max (wst J N re a b n) (tms J N re 1000 n a b))
    rcases Nat.le_total (wst J N re a b n) (tms J N re 1000 n a b) with q | q
    · rw [Nat.max_eq_right q]; exact tms_ok (Nat.le_refl _)
    · rw [Nat.max_eq_left q]; exact ih
/-- the best pair so far -/
def bsS (J : Nat → Nat) (N re a b : Nat) (s : Nat × Nat) : Nat × Nat := if wst J N re a b N < s.2 then (10 * a + b, wst J N re a b N) else s
def bsR (J : Nat → Nat) (N re a : Nat) (s : Nat × Nat) : Nat → Nat × Nat
  | 0 => s
  | k + 1 => bsS J N re a (a + k) (bsR J N re a s k)
def bsA (J : Nat → Nat) (N re : Nat) : Nat → Nat × Nat
  | 0 => (4294967292, 1000000)
  | a + 1 => bsR J N re a (bsA J N re a) (N - a)
def bsk (s : Nat × Nat) : Prop := (s.1 = 4294967292 ∧ s.2 = 1000000) ∨ (s.1 < 110 ∧ s.2 ≤ 1000)
theorem bsS_ok {a b : Nat} {s : Nat × Nat} (ha : a < 10) (hb : b < 10) (h : bsk s) : bsk (bsS J N re a b s) := by
  unfold bsS
  by_cases c : wst J N re a b N < s.2
  · rw [if_pos c]
    refine Or.inr ⟨by show 10 * a + b < 110; omega, ?_⟩
    rcases wst_ok (J := J) (N := N) (re := re) (a := a) (b := b) N with q | q
    · rcases h with w | w <;> omega
    · exact q
  · rw [if_neg c]; exact h
theorem bsR_ok {a : Nat} {s : Nat × Nat} (hN : N ≤ 10) (h : bsk s) : ∀ k, k ≤ N - a → bsk (bsR J N re a s k) := by
  intro k
  induction k with
  | zero => intro _; exact h
  | succ k ih => intro hk; exact bsS_ok (by omega) (by omega) (ih (by omega))
theorem bsA_ok (hN : N ≤ 10) : ∀ a, a ≤ N → bsk (bsA J N re a) := by
  intro a
  induction a with
  | zero => intro _; exact Or.inl ⟨rfl, rfl⟩
  | succ a ih => intro ha; exact bsR_ok hN (ih (by omega)) (N - a) (Nat.le_refl _)
theorem sp_242 {a b : Nat} {h : hs_H} (ha : a < 2147483648) (hb : b < 2147483648) : hf_242 (nI a) (nI b) h = some (nI (max a b), h) := by
  unfold hf_242 hb_242_10
  by_cases h1 : a < b
  · rw [if_pos (nI_lt h1 hb), Nat.max_eq_right (by omega)]
  · rw [if_neg (nI_nlt (by omega) ha), Nat.max_eq_left (by omega)]
theorem sp_19 {a b : Nat} {h : hs_H} (n : ch_n N re J h) (hN : N ≤ 10) (ha : a < N) (hb : b < N) (hv : chV N J re h) : hf_19 (nI a) (nI b) h = some (if wst J N re a b N = 1000000 then nI 4294967292 else nI (wst J N re a b N), h) := by
  unfold hf_19
  refine lp_for (st := fun f => (nI a, nI b, nI (wst J N re a b f), nI f, h)) (e := N) (fun f hf k => ?_) (fun k => ?_) 0 hs_big (by omega) (lp_big (by omega))
  · show hb_19_5 k (nI a) (nI b) (nI (wst J N re a b f)) (nI f) h = k (nI a, nI b, nI (max (wst J N re a b f) (tms J N re 1000 f a b)), nI (f + 1), h)
    have h1 := wst_ok (J := J) (N := N) (re := re) (a := a) (b := b) f
    have h2 := tms_ok (J := J) (N := N) (re := re) (r := 1000) (f := f) (a := a) (b := b) (Nat.le_refl _)
    unfold okv at h1 h2
    unfold hb_19_5
    rw [n.1, if_neg (nI_ge hf (by omega)), sp_22 (by omega) (by omega) (by omega), Option.bind_some]
    dsimp only
    rw [nx_inb (by omega) (by omega), nx_ck, nI_clamp (by omega), hv f a b hf ha hb, sp_242 (by omega) (by omega), Option.bind_some, nI_add]
  · show hb_19_5 k (nI a) (nI b) (nI (wst J N re a b N)) (nI N) h = _
    have h1 := wst_ok (J := J) (N := N) (re := re) (a := a) (b := b) N
    unfold okv at h1
    unfold hb_19_5 hb_19_52
    rw [n.1, if_pos (nI_le (Nat.le_refl _) (by omega))]
    by_cases c : wst J N re a b N = 1000000
    · rw [if_neg (fun q => q (by rw [c])), if_pos c]
    · rw [if_pos (fun q => c (nI_inj (by omega) (by omega) q)), if_neg c]
def lsc (s : Nat × Nat) : Int32 := if s.2 = 1000000 then nI 4294967292 else nI s.2
theorem sp_133i {a b : Nat} {s : Nat × Nat} {x1 : Int32} {h : hs_H} (k27 : Int32 × Int32 × Int32 × Int32 × hs_H → Option (Int32 × hs_H)) (k43 : Int32 × Int32 × Int32 × Int32 × Int32 × hs_H → Option (Int32 × hs_H)) (n : ch_n N re J h) (hN : N ≤ 10) (ha : a < N) (hb : b < N) (hv : chV N J re h) (ok : bsk s) : hb_133_43 k27 k43 x1 (nI s.1) (lsc s) (nI a) (nI b) h = k43 (x1, nI (bsS J N re a b s).1, lsc (bsS J N re a b s), nI a, nI (b + 1), h) := by
  have h1 := wst_ok (J := J) (N := N) (re := re) (a := a) (b := b) N
  unfold hb_133_43 hb_133_87 hb_133_98 bsS
  rw [n.1, if_neg (nI_ge hb (by omega)), sp_19 n hN ha hb hv, Option.bind_some]
  dsimp only
  generalize wst J N re a b N = w at h1
  unfold okv at h1
  unfold hf_149
  rw [pk_mul, nI_add, nI_add]
  unfold bsk at ok
  by_cases c : w = 1000000
  · rw [if_pos c, if_pos rfl, if_neg (by omega)]
  · rw [if_neg c, if_neg (fun q => by have := nI_inj (by omega) (by omega) q; omega)]
    rcases ok with ⟨q1, q2⟩ | ⟨q1, q2⟩
    · rw [q1, if_pos rfl, if_pos (by omega), Option.bind_some]
      unfold lsc
      rw [if_neg (show ¬ (10 * a + b, w).2 = 1000000 from c)]
    · rw [if_neg (fun q => by have := nI_inj (by omega) (by omega) q; omega)]
      have e : lsc s = nI s.2 := if_neg (by omega)
      rw [e]
      by_cases c2 : w < s.2
      · rw [if_neg (nI_ge c2 (by omega)), if_pos c2, Option.bind_some]
        unfold lsc
        rw [if_neg (show ¬ (10 * a + b, w).2 = 1000000 from c)]
      · rw [if_pos (nI_le (by omega) (by omega)), if_neg c2, e]
theorem sp_133 {x1 : Int32} {h : hs_H} (n : ch_n N re J h) (hN : N ≤ 10) (hv : chV N J re h) : hs_lp (fun k s => hb_133_27 k s.1 s.2.1 s.2.2.1 s.2.2.2.1 s.2.2.2.2) hs_big (x1, nI 4294967292, nI 4294967292, nI 0, h) = some (if ¬ x1 = 0 then lsc (bsA J N re N) else nI (bsA J N re N).1, h) := by
  refine lp_for (st := fun a => (x1, nI (bsA J N re a).1, lsc (bsA J N re a), nI a, h)) (e := N) (fun a ha k => ?_) (fun k => ?_) 0 hs_big (by omega) (lp_big (by omega))
  · show hb_133_27 k x1 (nI (bsA J N re a).1) (lsc (bsA J N re a)) (nI a) h = k (x1, nI (bsR J N re a (bsA J N re a) (N - a)).1, lsc (bsR J N re a (bsA J N re a) (N - a)), nI (a + 1), h)
    have ok := bsA_ok (J := J) (re := re) hN a (by omega)
    generalize bsA J N re a = s at ok
    unfold hb_133_27
    rw [n.1, if_neg (nI_ge ha (by omega))]
    refine lp_for (st := fun j => (x1, nI (bsR J N re a s j).1, lsc (bsR J N re a s j), nI a, nI (a + j), h)) (e := N - a) (fun j hj q => ?_) (fun q => ?_) 0 hs_big (by omega) (lp_big (by omega))
    · exact sp_133i k q n hN ha (by omega) hv (bsR_ok hN ok j (by omega))
    · show hb_133_43 k q x1 (nI (bsR J N re a s (N - a)).1) (lsc (bsR J N re a s (N - a))) (nI a) (nI (a + (N - a))) h = _
      unfold hb_133_43
      rw [n.1, if_pos (nI_le (by omega) (by omega)), nI_add]
  · show hb_133_27 k x1 (nI (bsA J N re N).1) (lsc (bsA J N re N)) (nI N) h = _
    unfold hb_133_27 hb_133_119
    rw [n.1, if_pos (nI_le (Nat.le_refl _) (by omega))]
    by_cases c : x1 = 0
    · rw [if_neg (fun q => q c), if_neg (fun q => q c)]
    · rw [if_pos c, if_pos c]
theorem sp_222i {a b : Nat} {s : Nat × Nat} {x1 : Int32} {h : hs_H} (k25 : Int32 × Int32 × Int32 × Int32 × hs_H → Option (Int32 × hs_H)) (k38 : Int32 × Int32 × Int32 × Int32 × Int32 × hs_H → Option (Int32 × hs_H)) (n : mk_n N re J h) (hN : N ≤ 10) (ha : a < N) (hb : b < N) (hv : ∀ f x y, f < N → x < N → y < N → h.1 59 0 (100 * f + 10 * x + y) = nI (mN (tms J N re 1000 f x y))) (ok : bsk s) : hb_222_38 k25 k38 x1 (nI s.1) (nI (mN s.2)) (nI a) (nI b) h = k38 (x1, nI (bsS J N re a b s).1, nI (mN (bsS J N re a b s).2), nI a, nI (b + 1), h) := by
  unfold hb_222_38
  rw [n.1, if_neg (nI_ge hb (by omega))]
  refine lp_for (st := fun f => (x1, nI s.1, nI (mN s.2), nI a, nI b, nI (mN (wst J N re a b f)), nI f, h)) (e := N) (fun f hf k => ?_) (fun k => ?_) 0 hs_big (by omega) (lp_big (by omega))
  · show hb_222_53 k25 k38 k x1 (nI s.1) (nI (mN s.2)) (nI a) (nI b) (nI (mN (wst J N re a b f))) (nI f) h = k (x1, nI s.1, nI (mN s.2), nI a, nI b, nI (mN (max (wst J N re a b f) (tms J N re 1000 f a b))), nI (f + 1), h)
    have h1 := wst_ok (J := J) (N := N) (re := re) (a := a) (b := b) f
    have h2 := tms_ok (J := J) (N := N) (re := re) (r := 1000) (f := f) (a := a) (b := b) (Nat.le_refl _)
    unfold hb_222_53 hb_222_92
    rw [n.1, if_neg (nI_ge hf (by omega)), sp_213, Option.bind_some]
    dsimp only
    rw [nx_inb (by omega) (by omega), nx_ck, nI_clamp (by omega), hv f a b hf ha hb, nI_add]
    generalize wst J N re a b f = u at h1
    generalize tms J N re 1000 f a b = v at h2
    unfold okv at h1 h2
    have hm : mN u ≤ 99999 ∧ mN v ≤ 99999 ∧ (mN v ≤ mN u ↔ v ≤ u) := by unfold mN; split <;> split <;> omega
    by_cases c : v ≤ u
    · rw [if_pos (nI_le (hm.2.2.mpr c) (by omega)), Nat.max_eq_left c]
    · rw [if_neg (nI_ge (by have := hm.2.2; omega) (by omega)), Nat.max_eq_right (by omega)]
  · show hb_222_53 k25 k38 k x1 (nI s.1) (nI (mN s.2)) (nI a) (nI b) (nI (mN (wst J N re a b N))) (nI N) h = _
    have h1 := wst_ok (J := J) (N := N) (re := re) (a := a) (b := b) N
    unfold hb_222_53 hb_222_118 hb_222_131 bsS
    rw [n.1, if_pos (nI_le (Nat.le_refl _) (by omega)), pk_mul, nI_add, nI_add]
    generalize wst J N re a b N = u at h1
    unfold okv at h1
    unfold bsk at ok
    have hm : mN u ≤ 99999 ∧ mN s.2 ≤ 99999 ∧ (mN s.2 ≤ mN u ↔ s.2 ≤ u) := by unfold mN; split <;> split <;> omega
    by_cases c : u < s.2
    · rw [if_neg (nI_ge (by have := hm.2.2; omega) (by omega)), if_neg (nI_ge (by have := hm.2.2; omega) (by omega)), if_pos c]
    · rw [if_pos (nI_le (hm.2.2.mpr (by omega)) (by omega)), if_pos (nI_le (hm.2.2.mpr (by omega)) (by omega)), if_neg c]
theorem sp_222 {x1 : Int32} {h : hs_H} (n : mk_n N re J h) (hN : N ≤ 10) (hv : ∀ f x y, f < N → x < N → y < N → h.1 59 0 (100 * f + 10 * x + y) = nI (mN (tms J N re 1000 f x y))) : hs_lp (fun k s => hb_222_25 k s.1 s.2.1 s.2.2.1 s.2.2.2.1 s.2.2.2.2) hs_big (x1, nI 4294967292, nI 99999, nI 0, h) = some (if ¬ x1 = 0 then lsc (bsA J N re N) else nI (bsA J N re N).1, h) := by
  refine lp_for (st := fun a => (x1, nI (bsA J N re a).1, nI (mN (bsA J N re a).2), nI a, h)) (e := N) (fun a ha k => ?_) (fun k => ?_) 0 hs_big (by omega) (lp_big (by omega))
  · show hb_222_25 k x1 (nI (bsA J N re a).1) (nI (mN (bsA J N re a).2)) (nI a) h = k (x1, nI (bsR J N re a (bsA J N re a) (N - a)).1, nI (mN (bsR J N re a (bsA J N re a) (N - a)).2), nI (a + 1), h)
    have ok := bsA_ok (J := J) (re := re) hN a (by omega)
    generalize bsA J N re a = s at ok
    unfold hb_222_25
    rw [n.1, if_neg (nI_ge ha (by omega))]
    refine lp_for (st := fun j => (x1, nI (bsR J N re a s j).1, nI (mN (bsR J N re a s j).2), nI a, nI (a + j), h)) (e := N - a) (fun j hj q => ?_) (fun q => ?_) 0 hs_big (by omega) (lp_big (by omega))
    · exact sp_222i k q n hN ha (by omega) hv (bsR_ok hN ok j (by omega))
    · show hb_222_38 k q x1 (nI (bsR J N re a s (N - a)).1) (nI (mN (bsR J N re a s (N - a)).2)) (nI a) (nI (a + (N - a))) h = _
      unfold hb_222_38
      rw [n.1, if_pos (nI_le (by omega) (by omega)), nI_add]
  · show hb_222_25 k x1 (nI (bsA J N re N).1) (nI (mN (bsA J N re N).2)) (nI N) h = _
    have ok := bsA_ok (J := J) (re := re) hN N (Nat.le_refl _)
    generalize bsA J N re N = s at ok
    unfold hb_222_25 hb_222_164 lsc mN
    rw [n.1, if_pos (nI_le (Nat.le_refl _) (by omega))]
    unfold bsk at ok
    rcases ok with ⟨q1, q2⟩ | ⟨q1, q2⟩
    · rw [q1, if_neg (fun q => q rfl), q2, if_pos rfl]
      by_cases c : x1 = 0
      · rw [if_neg (fun q => q c)]
      · rw [if_pos c]
    · rw [if_pos (fun q => by have := nI_inj (by omega) (by omega) q; omega), if_neg (show ¬ s.2 = 1000000 by omega), if_neg (show ¬ s.2 = 1000000 by omega)]
      by_cases c : x1 = 0
      · rw [if_neg (fun q => q c), if_neg (fun q => q c)]
      · rw [if_pos c, if_pos c]
end BE
section CB
variable {VC : Nat → (Nat → Nat) → Nat → Int32 → Int32 → hs_H → Prop} {VW : st_VW}
theorem cl_best (V : st_V VC chV VW) {a : Int32} : st_call VC chV VW (hf_133 a) (hf_222 a) := by
  intro b h hb p
  have p0 := p
  obtain ⟨N, re, W, Ho, J, st, pl, mv, s, z, t, n, g, c, d, ⟨hc, hd⟩, ⟨⟨okN, okF, okS⟩, ⟨cN, cF, cS⟩, mJ, mF, mS⟩, mN, im, ca, rs⟩ := p
  obtain ⟨⟨hN1, hN2⟩, hre, hst, ⟨hW, hHo⟩, hJ, hJ0, hJs, hJa⟩ := id okN
  obtain ⟨cN1, cN2, cN3, cN4, cN5, cJ⟩ := id cN
  obtain ⟨mN1, mN2, mN3, mN4⟩ := id mN
  obtain ⟨mJ1, mJ2⟩ := st_mJ0 mJ
  obtain ⟨mF1, mF2, mF3⟩ := st_mF0 mF
  obtain ⟨mS1, mS2⟩ := st_mS0 mS
  obtain ⟨cF1, cF2, cF3⟩ := id cF
  obtain ⟨cS1, cS2⟩ := id cS
  have hp := p2_lt hN2
  cases hok : rg 0 1 a with
  | true =>
    obtain ⟨x, -, hx, rfl⟩ := (rg_of (by omega)).mp hok
    obtain ⟨H, s1, s2, s3, s4⟩ := ch_solve V hb ⟨hc, hd⟩ ⟨⟨okN, okF, okS⟩, ⟨cN, cF, cS⟩, mJ, mF, mS⟩ mN im ca rs
    have nm : mk_n N re J H := mk_n_fr s2 rfl ⟨mN1, mN2, mJ1⟩
    have nc : ch_n N re J H := ch_n_fr s2 rfl ⟨cN1, cN2, cJ⟩
    obtain ⟨G, g1, g2, g3, g4⟩ := sp_218 nm hN2 hN1 hJ hJa hre
    refine ⟨if ¬ nI x = 0 then lsc (bsA J N re N) else nI (bsA J N re N).1, H, G, ?_, ?_, (st_all_fr V g2 rfl s4).up VC chV VW (by omega)⟩
    · unfold hf_133
      rw [if_neg (nI_pos (by omega)), if_pos (nI_le hx (by omega)), s1, Option.bind_some]
      exact sp_133 nc hN2 s3
    · unfold hf_222
      rw [sp_150r (lo := 0) (hi := 1) rfl rfl, hok, Option.bind_some]
      dsimp only
      rw [if_pos (by decide), g1, Option.bind_some]
      exact sp_222 (mk_n_fr g2 rfl nm) hN2 g3
  | false =>
    refine ⟨nI 4294967295, h, h, ?_, ?_, p0.up VC chV VW (by omega)⟩
    · unfold hf_133 hb_133_9
      rcases rg_f (by omega) hok with h4 | ⟨h4, h5⟩
      · rw [if_pos h4]
      · rw [if_neg h4, if_neg h5]
    · unfold hf_222
      rw [sp_150r (lo := 0) (hi := 1) rfl rfl, hok, Option.bind_some]
      dsimp only
      rw [if_neg (by decide)]
end CB
