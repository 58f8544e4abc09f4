/-! fox, go. -/
/-- a row written from B on, n places -/
def hs_rowb (h : hs_H) (c i B n : Nat) (f : Nat → Int32) : hs_H := (fun a => if a = c then (fun b => if b = i then (fun k => if B ≤ k ∧ k < B + n then f (k - B) else h.1 c i k) else h.1 c b) else h.1 a, h.2)
theorem nx_rowbget (h : hs_H) (c i B n : Nat) (f : Nat → Int32) (c' i' k' : Nat) : (hs_rowb h c i B n f).1 c' i' k' = if c' = c ∧ i' = i ∧ B ≤ k' ∧ k' < B + n then f (k' - B) else h.1 c' i' k' := by
  show (if c' = c then (fun b => if b = i then (fun k => if B ≤ k ∧ k < B + n then f (k - B) else h.1 c i k) else h.1 c b) else h.1 c') i' k' = _
  by_cases h1 : c' = c
  · subst h1
    rw [if_pos rfl]
    show (if i' = i then (fun k => if B ≤ k ∧ k < B + n then f (k - B) else h.1 c' i k) else h.1 c' i') k' = _
    by_cases h2 : i' = i
    · subst h2
      rw [if_pos rfl]
      show (if B ≤ k' ∧ k' < B + n then f (k' - B) else h.1 c' i' k') = _
      by_cases h3 : B ≤ k' ∧ k' < B + n
      · rw [if_pos h3, if_pos ⟨rfl, rfl, h3⟩]
      · rw [if_neg h3, if_neg (fun q => h3 q.2.2)]
    · rw [if_neg h2, if_neg (fun q => h2 q.2.1)]
  · rw [if_neg h1, if_neg (fun q => h1 q.1)]
theorem hs_rowb0 (h : hs_H) (c i B : Nat) (f : Nat → Int32) : hs_rowb h c i B 0 f = h := hs_ext (fun c' i' k' => by rw [nx_rowbget, if_neg (fun q => by omega)]) rfl
theorem hs_rowbS (h : hs_H) (c i B n : Nat) (f : Nat → Int32) : hs_put (hs_rowb h c i B n f) c i (B + n) (f n) = hs_rowb h c i B (n + 1) f := hs_ext (fun c' i' k' => by
  rw [nx_get, nx_rowbget, nx_rowbget]
  by_cases h1 : c' = c ∧ i' = i ∧ k' = B + n
  · rw [if_pos h1, if_pos ⟨h1.1, h1.2.1, by omega⟩, h1.2.2, Nat.add_sub_cancel_left]
  · rw [if_neg h1]
    by_cases h2 : c' = c ∧ i' = i ∧ B ≤ k' ∧ k' < B + n
    · rw [if_pos h2, if_pos ⟨h2.1, h2.2.1, by omega⟩]
    · rw [if_neg h2, if_neg (fun q => ?_)]
      by_cases h3 : k' = B + n
      · exact h1 ⟨q.1, q.2.1, h3⟩
      · exact h2 ⟨q.1, q.2.1, by omega⟩) rfl
theorem hs_rowb_fr {h : hs_H} {c i B n : Nat} {f : Nat → Int32} {K : List (Nat × Option Nat)} (m : (c, some i) ∈ K ∨ (c, none) ∈ K) : hs_fr K h (hs_rowb h c i B n f) := fun c' i' o => ⟨funext fun k => by
  rw [nx_rowbget, if_neg (fun q => hs_fr_ne m o (by rw [q.1, q.2.1]))], rfl⟩
theorem hs_row_fr {h : hs_H} {c i n : Nat} {f : Nat → Int32} {K : List (Nat × Option Nat)} (m : (c, some i) ∈ K ∨ (c, none) ∈ K) : hs_fr K h (hs_row h c i n f) := fun c' i' o => ⟨funext fun k => by
  rw [nx_rowget, if_neg (fun q => hs_fr_ne m o (by rw [q.1, q.2.1]))], rfl⟩
theorem pass_c_fr {h : hs_H} {o W i : Nat} {s : Nat → Nat} {K : List (Nat × Option Nat)} (m : (33, some o) ∈ K ∨ (33, none) ∈ K) : hs_fr K h (pass_c h o W s i) := by
  unfold pass_c
  exact (hs_row_fr m).put m
/-- the heap behind fox, as the class puts it -/
def fox_c (h : hs_H) (W i : Nat) : hs_H := hs_put (pass_c (hs_put (hs_put (hs_row h 33 0 10 (fun _ => nI 0)) 9 0 1 (nI 4294967292)) 9 0 2 (nI 0)) 0 W (fun _ => 0) i) 9 0 1 (nI i)
theorem sp_89 {W i : Nat} {h : hs_H} (hW : W < 2147483648) (hi : i < 10) : hf_89 0 (nI i) (nI W) h = some (fox_c h W i) := by
  unfold hf_89
  rw [sp_87, Option.bind_some, sp_84 (s := fun _ => 0) (fun k hk => by simp (disch := omega) only [nx_rowget, nq_nf, nq_nt, nq_le_t, nq_le_f, nq_lt_t, nq_lt_f, nq_eq_t, nq_eq_f, nq_neg, nq_pos, nq_le0f, nq_le0t, nq_lt0t, nq_lt0f, nq_eq0f, nq_eq0t, nI_add, nI_clamp, nx_inb, nx_ck, Option.bind_some, nx_get, nx_get2, nx_dif, nx_or, bI_0, bI_01, bI_nt, bI_nf, if_true, if_false, ite_true, ite_false, not_true_eq_false, not_false_eq_true, and_true, true_and, and_false, false_and, Bool.false_eq_true, Bool.true_eq_false, reduceCtorEq]; rw [if_pos hk]) (fun _ => Nat.zero_le _) hW hi, Option.bind_some]
  rfl
theorem fox_c_fr {h : hs_H} {W i : Nat} : hs_fr [(9, some 0), (33, some 0)] h (fox_c h W i) := by
  unfold fox_c
  exact (((((hs_row_fr (.inl (.tail _ (.head _)))).put (.inl (.head _))).put (.inl (.head _)))).tr (pass_c_fr (.inl (.tail _ (.head _))))).put (.inl (.head _))
theorem fox_c_F {h : hs_H} {W i : Nat} : st_cF 0 (nI i) (nI 0) (passS W (fun _ => 0) i) (fox_c h W i) := by
  unfold fox_c
  refine ⟨by simp (disch := omega) only [nq_nf, nq_nt, nq_le_t, nq_le_f, nq_lt_t, nq_lt_f, nq_eq_t, nq_eq_f, nq_neg, nq_pos, nq_le0f, nq_le0t, nq_lt0t, nq_lt0f, nq_eq0f, nq_eq0t, nI_add, nI_clamp, nx_inb, nx_ck, Option.bind_some, nx_get, nx_get2, nx_dif, nx_or, bI_0, bI_01, bI_nt, bI_nf, if_true, if_false, ite_true, ite_false, not_true_eq_false, not_false_eq_true, and_true, true_and, and_false, false_and, Bool.false_eq_true, Bool.true_eq_false, reduceCtorEq], ?_, fun k hk => ?_⟩
  · simp (disch := omega) only [nq_nf, nq_nt, nq_le_t, nq_le_f, nq_lt_t, nq_lt_f, nq_eq_t, nq_eq_f, nq_neg, nq_pos, nq_le0f, nq_le0t, nq_lt0t, nq_lt0f, nq_eq0f, nq_eq0t, nI_add, nI_clamp, nx_inb, nx_ck, Option.bind_some, nx_get, nx_get2, nx_dif, nx_or, bI_0, bI_01, bI_nt, bI_nf, if_true, if_false, ite_true, ite_false, not_true_eq_false, not_false_eq_true, and_true, true_and, and_false, false_and, Bool.false_eq_true, Bool.true_eq_false, reduceCtorEq]
    rw [pass_c_ne (by simp)]
    simp (disch := omega) only [nq_nf, nq_nt, nq_le_t, nq_le_f, nq_lt_t, nq_lt_f, nq_eq_t, nq_eq_f, nq_neg, nq_pos, nq_le0f, nq_le0t, nq_lt0t, nq_lt0f, nq_eq0f, nq_eq0t, nI_add, nI_clamp, nx_inb, nx_ck, Option.bind_some, nx_get, nx_get2, nx_dif, nx_or, bI_0, bI_01, bI_nt, bI_nf, if_true, if_false, ite_true, ite_false, not_true_eq_false, not_false_eq_true, and_true, true_and, and_false, false_and, Bool.false_eq_true, Bool.true_eq_false, reduceCtorEq]
  · simp (disch := omega) only [nq_nf, nq_nt, nq_le_t, nq_le_f, nq_lt_t, nq_lt_f, nq_eq_t, nq_eq_f, nq_neg, nq_pos, nq_le0f, nq_le0t, nq_lt0t, nq_lt0f, nq_eq0f, nq_eq0t, nI_add, nI_clamp, nx_inb, nx_ck, Option.bind_some, nx_get, nx_get2, nx_dif, nx_or, bI_0, bI_01, bI_nt, bI_nf, if_true, if_false, ite_true, ite_false, not_true_eq_false, not_false_eq_true, and_true, true_and, and_false, false_and, Bool.false_eq_true, Bool.true_eq_false, reduceCtorEq]
    exact pass_c_at k hk
/-- the model's row behind fox, go -/
def fox_m (h : hs_H) (n : Nat) (s : Nat → Nat) (i : Nat) (mv : Int32) : hs_H := hs_put (hs_put (hs_rowb h 44 0 13 n (fun k => nI (s k))) 44 0 11 (nI i)) 44 0 12 mv
theorem fox_m_at {h : hs_H} {n i : Nat} {s : Nat → Nat} {mv : Int32} (p : Nat) (hp : p ≠ 11 ∧ p ≠ 12 ∧ (p < 13 ∨ 13 + n ≤ p)) : (fox_m h n s i mv).1 44 0 p = h.1 44 0 p := by
  unfold fox_m
  rw [nx_get, if_neg (by omega), nx_get, if_neg (by omega), nx_rowbget, if_neg (by omega)]
theorem fox_m_F {h : hs_H} {n i : Nat} {s : Nat → Nat} {mv : Int32} (hn : n ≤ 10) (hs : ∀ k, n ≤ k → k < 10 → h.1 44 0 (13 + k) = nI (s k)) : st_mF 44 0 (nI i) mv s (fox_m h n s i mv) := by
  unfold fox_m
  refine ⟨?_, ?_, fun k hk => ?_⟩
  · simp (disch := omega) only [nq_nf, nq_nt, nq_le_t, nq_le_f, nq_lt_t, nq_lt_f, nq_eq_t, nq_eq_f, nq_neg, nq_pos, nq_le0f, nq_le0t, nq_lt0t, nq_lt0f, nq_eq0f, nq_eq0t, nI_add, nI_clamp, nx_inb, nx_ck, Option.bind_some, nx_get, nx_get2, nx_dif, nx_or, bI_0, bI_01, bI_nt, bI_nf, if_true, if_false, ite_true, ite_false, not_true_eq_false, not_false_eq_true, and_true, true_and, and_false, false_and, Bool.false_eq_true, Bool.true_eq_false, reduceCtorEq]
  · simp (disch := omega) only [nq_nf, nq_nt, nq_le_t, nq_le_f, nq_lt_t, nq_lt_f, nq_eq_t, nq_eq_f, nq_neg, nq_pos, nq_le0f, nq_le0t, nq_lt0t, nq_lt0f, nq_eq0f, nq_eq0t, nI_add, nI_clamp, nx_inb, nx_ck, Option.bind_some, nx_get, nx_get2, nx_dif, nx_or, bI_0, bI_01, bI_nt, bI_nf, if_true, if_false, ite_true, ite_false, not_true_eq_false, not_false_eq_true, and_true, true_and, and_false, false_and, Bool.false_eq_true, Bool.true_eq_false, reduceCtorEq]
  · rw [nx_get, if_neg (by omega), nx_get, if_neg (by omega), nx_rowbget]
    by_cases h1 : k < n
    · rw [if_pos (by omega), show 0 + 13 + k - 13 = k by omega]
    · rw [if_neg (by omega), show 0 + 13 + k = 13 + k by omega, hs k (by omega) hk]
theorem fox_m_fr {h : hs_H} {n i : Nat} {s : Nat → Nat} {mv : Int32} : hs_fr [(44, some 0)] h (fox_m h n s i mv) := by
  unfold fox_m
  exact ((hs_rowb_fr (.inl (.head _))).put (.inl (.head _))).put (.inl (.head _))
theorem sp_182 {N W i : Nat} {h : hs_H} (hN : h.1 12 0 2 = nI N) (hW : h.1 12 0 4 = nI W) (hN1 : 1 ≤ N) (hN2 : N ≤ 10) (hWb : W < 2147483648) (hi : i < N) : hf_182 (nI i) h = some (nI (passS W (fun _ => 0) i i), fox_m h 10 (passS W (fun _ => 0) i) i (nI 0)) := by
  unfold hf_182
  rw [sp_171 hN hN1 (by omega), nd_nI hi (by omega)]
  simp (disch := omega) only [nq_nf, nq_nt, nq_le_t, nq_le_f, nq_lt_t, nq_lt_f, nq_eq_t, nq_eq_f, nq_neg, nq_pos, nq_le0f, nq_le0t, nq_lt0t, nq_lt0f, nq_eq0f, nq_eq0t, nI_add, nI_clamp, nx_inb, nx_ck, Option.bind_some, nx_get, nx_get2, nx_dif, nx_or, bI_0, bI_01, bI_nt, bI_nf, if_true, if_false, ite_true, ite_false, not_true_eq_false, not_false_eq_true, and_true, true_and, and_false, false_and, Bool.false_eq_true, Bool.true_eq_false, reduceCtorEq]
  have hl := lp_for (f := fun k s => hb_182_12 k s.1 s.2.1 s.2.2) (st := fun j => (nI i, nI j, hs_rowb h 44 0 13 j (fun k => nI (passS W (fun _ => 0) i k)))) (e := 10) (X := some (nI (passS W (fun _ => 0) i i), fox_m h 10 (passS W (fun _ => 0) i) i (nI 0))) (fun j hj k => by
    show hb_182_12 k (nI i) (nI j) (hs_rowb h 44 0 13 j (fun k => nI (passS W (fun _ => 0) i k))) = _
    unfold hb_182_12 hb_182_44 hb_182_45
    by_cases hji : j = i
    · subst hji
      have hv : passS W (fun _ => 0) j j = if W.testBit j = true then 0 else 9 := by unfold passS; rw [if_pos rfl]; rfl
      have hw : hf_180 (nI j) (hs_rowb h 44 0 13 j (fun k => nI (passS W (fun _ => 0) j k))) = some (bI (W.testBit j), hs_rowb h 44 0 13 j (fun k => nI (passS W (fun _ => 0) j k))) := sp_180 (by rw [nx_rowbget, if_neg (by omega)]; exact hW) hWb (by omega)
      have hs := hs_rowbS h 44 0 13 j (fun k => nI (passS W (fun _ => 0) j k))
      cases hb : W.testBit j with
      | true =>
        rw [hv, hb] at hs
        rw [hb] at hw
        simp (disch := omega) only [hw, nq_nf, nq_nt, nq_le_t, nq_le_f, nq_lt_t, nq_lt_f, nq_eq_t, nq_eq_f, nq_neg, nq_pos, nq_le0f, nq_le0t, nq_lt0t, nq_lt0f, nq_eq0f, nq_eq0t, nI_add, nI_clamp, nx_inb, nx_ck, Option.bind_some, nx_get, nx_get2, nx_dif, nx_or, bI_0, bI_01, bI_nt, bI_nf, if_true, if_false, ite_true, ite_false, not_true_eq_false, not_false_eq_true, and_true, true_and, and_false, false_and, Bool.false_eq_true, Bool.true_eq_false, reduceCtorEq]
        rw [show (nI 0 : Int32) = nI (if true = true then 0 else 9) from rfl, hs]
      | false =>
        rw [hv, hb] at hs
        rw [hb] at hw
        simp (disch := omega) only [hw, nq_nf, nq_nt, nq_le_t, nq_le_f, nq_lt_t, nq_lt_f, nq_eq_t, nq_eq_f, nq_neg, nq_pos, nq_le0f, nq_le0t, nq_lt0t, nq_lt0f, nq_eq0f, nq_eq0t, nI_add, nI_clamp, nx_inb, nx_ck, Option.bind_some, nx_get, nx_get2, nx_dif, nx_or, bI_0, bI_01, bI_nt, bI_nf, if_true, if_false, ite_true, ite_false, not_true_eq_false, not_false_eq_true, and_true, true_and, and_false, false_and, Bool.false_eq_true, Bool.true_eq_false, reduceCtorEq]
        rw [show (nI 9 : Int32) = nI (if false = true then 0 else 9) from rfl, hs]
    · have hv : passS W (fun _ => 0) i j = 0 := by unfold passS; rw [if_neg hji]; rfl
      have hs := hs_rowbS h 44 0 13 j (fun k => nI (passS W (fun _ => 0) i k))
      rw [hv] at hs
      simp (disch := omega) only [hs, nq_nf, nq_nt, nq_le_t, nq_le_f, nq_lt_t, nq_lt_f, nq_eq_t, nq_eq_f, nq_neg, nq_pos, nq_le0f, nq_le0t, nq_lt0t, nq_lt0f, nq_eq0f, nq_eq0t, nI_add, nI_clamp, nx_inb, nx_ck, Option.bind_some, nx_get, nx_get2, nx_dif, nx_or, bI_0, bI_01, bI_nt, bI_nf, if_true, if_false, ite_true, ite_false, not_true_eq_false, not_false_eq_true, and_true, true_and, and_false, false_and, Bool.false_eq_true, Bool.true_eq_false, reduceCtorEq]) (fun k => by
    show hb_182_12 k (nI i) (nI 10) (hs_rowb h 44 0 13 10 (fun k => nI (passS W (fun _ => 0) i k))) = _
    unfold hb_182_12
    simp (disch := omega) only [nq_nf, nq_nt, nq_le_t, nq_le_f, nq_lt_t, nq_lt_f, nq_eq_t, nq_eq_f, nq_neg, nq_pos, nq_le0f, nq_le0t, nq_lt0t, nq_lt0f, nq_eq0f, nq_eq0t, nI_add, nI_clamp, nx_inb, nx_ck, Option.bind_some, nx_get, nx_get2, nx_dif, nx_or, bI_0, bI_01, bI_nt, bI_nf, if_true, if_false, ite_true, ite_false, not_true_eq_false, not_false_eq_true, and_true, true_and, and_false, false_and, Bool.false_eq_true, Bool.true_eq_false, reduceCtorEq]
    have e1 : (hs_rowb h 44 0 13 10 (fun k => nI (passS W (fun _ => 0) i k))).1 44 0 (13 + i) = nI (passS W (fun _ => 0) i i) := by
      rw [nx_rowbget, if_pos (by omega), Nat.add_sub_cancel_left]
    rw [e1]
    rfl) 0 hs_big (by omega) (lp_big (by omega))
  rw [hs_rowb0] at hl
  exact hl
section CF
variable {VC : Nat → (Nat → Nat) → Nat → Int32 → Int32 → hs_H → Prop} {VH : Nat → (Nat → Nat) → Nat → hs_H → Prop} {VW : st_VW}
/-- a new fox in the core -/
theorem st_all_F (V : st_V VC VH VW) {b N re W Ho : Nat} {J : Nat → Nat} {st pl mv : Int32} {s : Nat → Nat} {z : Nat} {t n g : Nat → Nat} {c d : Nat} {pl' mv' : Int32} {s' : Nat → Nat} {h h' : hs_H} (hcd : c ≤ b ∧ d ≤ b) (co : st_core 0 0 N re W Ho J st pl mv s z t n g h) (mN : st_mN N re W Ho h) (im : st_imgs N re W Ho h) (ca : st_cache VC VH VW c d N J re st W z t n g h) (rs : st_rest h)
    (f : hs_fr [(9, some 0), (33, some 0), (44, some 0)] h h') (ok : ok_F N W pl' s') (cF : st_cF 0 pl' mv' s' h') (mF : st_mF 44 0 pl' mv' s' h') (e44 : ∀ p, p < 11 ∨ 23 ≤ p → h'.1 44 0 p = h.1 44 0 p) : st_all VC VH VW b h' := by
  obtain ⟨⟨okN, okF, okS⟩, ⟨cN, cF0, cS⟩, mJ, mF0, mS⟩ := co
  have hz := okS.1
  refine ⟨N, re, W, Ho, J, st, pl', mv', s', z, t, n, g, c, d, hcd, ⟨⟨okN, ok, okS⟩, ⟨st_cN_dep.fr f rfl cN, cF, st_cS_dep.fr f rfl cS⟩, ⟨fun k hk => by rw [e44 _ (by omega)]; exact mJ.1 k hk, by rw [e44 _ (by omega)]; exact mJ.2⟩, mF, ⟨by rw [e44 _ (by omega)]; exact mS.1, fun k hk => by rw [e44 _ (by omega), e44 _ (by omega), e44 _ (by omega)]; exact mS.2 k hk⟩⟩, st_mN_dep.fr f rfl mN, st_imgs_fr f rfl (fun p hp => e44 p (by omega)) im, (st_cache_dep V).fr f rfl ca, st_rest_dep.fr f rfl rs⟩
theorem cl_fox (V : st_V VC VH VW) {a : Int32} : st_call VC VH VW (hf_114 a) (hf_182 a) := by
  intro b h hb p
  have p0 := p
  obtain ⟨N, re, W, Ho, J, st, pl, mv, s, z, t, n, g, c, d, ⟨hc, hd⟩, ⟨⟨okN, okF, okS⟩, ⟨cN, cF, cS⟩, mJ, mF, mS⟩, mN, im, ca, rs⟩ := p
  obtain ⟨⟨hN1, hN2⟩, hre, hst, ⟨hW, hHo⟩, hJ, hJ0, hJs, hJa⟩ := id okN
  obtain ⟨cN1, cN2, cN3, cN4, cN5, cJ⟩ := id cN
  obtain ⟨mN1, mN2, mN3, mN4⟩ := id mN
  obtain ⟨mJ1, mJ2⟩ := st_mJ0 mJ
  obtain ⟨mF1, mF2, mF3⟩ := st_mF0 mF
  obtain ⟨mS1, mS2⟩ := st_mS0 mS
  obtain ⟨cF1, cF2, cF3⟩ := id cF
  obtain ⟨cS1, cS2⟩ := id cS
  have hp := p2_lt hN2
  cases hd2 : nd N a with
  | false =>
    refine ⟨nI 4294967295, h, h, ?_, ?_, p0.up VC VH VW (by omega)⟩
    · unfold hf_114
      rw [sp_29 cN1 (by omega), hd2]
      simp (disch := omega) only [nq_nf, nq_nt, nq_le_t, nq_le_f, nq_lt_t, nq_lt_f, nq_eq_t, nq_eq_f, nq_neg, nq_pos, nq_le0f, nq_le0t, nq_lt0t, nq_lt0f, nq_eq0f, nq_eq0t, nI_add, nI_clamp, nx_inb, nx_ck, Option.bind_some, nx_get, nx_get2, nx_dif, nx_or, bI_0, bI_01, bI_nt, bI_nf, if_true, if_false, ite_true, ite_false, not_true_eq_false, not_false_eq_true, and_true, true_and, and_false, false_and, Bool.false_eq_true, Bool.true_eq_false, reduceCtorEq]
    · unfold hf_182
      rw [sp_171 mN1 (by omega) (by omega), hd2]
      simp (disch := omega) only [nq_nf, nq_nt, nq_le_t, nq_le_f, nq_lt_t, nq_lt_f, nq_eq_t, nq_eq_f, nq_neg, nq_pos, nq_le0f, nq_le0t, nq_lt0t, nq_lt0f, nq_eq0f, nq_eq0t, nI_add, nI_clamp, nx_inb, nx_ck, Option.bind_some, nx_get, nx_get2, nx_dif, nx_or, bI_0, bI_01, bI_nt, bI_nf, if_true, if_false, ite_true, ite_false, not_true_eq_false, not_false_eq_true, and_true, true_and, and_false, false_and, Bool.false_eq_true, Bool.true_eq_false, reduceCtorEq]
  | true =>
    obtain ⟨i, hi, rfl⟩ := (nd_of (by omega)).mp hd2
    have hFe : ∀ c' i' k', c' ≠ 9 → c' ≠ 33 → (fox_c h W i).1 c' i' k' = h.1 c' i' k' := fun c' i' k' h1 h2 => by rw [(fox_c_fr c' i' (fun q hq hh => by rcases hh with rfl | rfl <;> simp at hq <;> omega)).1]
    refine ⟨nI (passS W (fun _ => 0) i i), fox_c h W i, fox_m (fox_c h W i) 10 (passS W (fun _ => 0) i) i (nI 0), ?_, sp_182 (N := N) (by rw [hFe _ _ _ (by omega) (by omega)]; exact mN1) (by rw [hFe _ _ _ (by omega) (by omega)]; exact mN3) (by omega) hN2 (by omega) hi, ?_⟩
    · unfold hf_114
      rw [sp_29 cN1 (by omega), hd2]
      simp (disch := omega) only [cN4, nq_nf, nq_nt, nq_le_t, nq_le_f, nq_lt_t, nq_lt_f, nq_eq_t, nq_eq_f, nq_neg, nq_pos, nq_le0f, nq_le0t, nq_lt0t, nq_lt0f, nq_eq0f, nq_eq0t, nI_add, nI_clamp, nx_inb, nx_ck, Option.bind_some, nx_get, nx_get2, nx_dif, nx_or, bI_0, bI_01, bI_nt, bI_nf, if_true, if_false, ite_true, ite_false, not_true_eq_false, not_false_eq_true, and_true, true_and, and_false, false_and, Bool.false_eq_true, Bool.true_eq_false, reduceCtorEq]
      rw [sp_89 (by omega) (by omega), Option.bind_some, sp_91 (fox_c_F).2.2 (by omega)]
      rfl
    · have fm := fox_m_fr (h := fox_c h W i) (n := 10) (s := passS W (fun _ => 0) i) (i := i) (mv := nI 0)
      have f : hs_fr [(9, some 0), (33, some 0), (44, some 0)] h (fox_m (fox_c h W i) 10 (passS W (fun _ => 0) i) i (nI 0)) := (fox_c_fr.sub (hs_sub_cons (.inl (.head _)) (hs_sub_cons (.inl (.tail _ (.head _))) hs_sub_nil))).tr (fm.sub (hs_sub_cons (.inl (.tail _ (.tail _ (.head _)))) hs_sub_nil))
      refine st_all_F V ⟨by omega, by omega⟩ ⟨⟨okN, okF, okS⟩, ⟨cN, cF, cS⟩, mJ, mF, mS⟩ mN im ca rs f (pl' := nI i) (mv' := nI 0) (s' := passS W (fun _ => 0) i) ⟨Or.inr ⟨i, hi, rfl⟩, passS_le (fun _ => Nat.zero_le _), passS_hi (fun _ _ => rfl) hi, passS_W (fun _ _ => rfl)⟩ ?_ (fox_m_F (by omega) (fun k h1 h2 => by omega)) (fun p hp => by rw [fox_m_at p (by omega), hFe _ _ _ (by omega) (by omega)])
      exact st_cF_dep.fr fm rfl fox_c_F
end CF
