/-! casts, need. -/
/-- what the class keeps of casts -/
def caV (N : Nat) (J : Nat → Nat) (re : Nat) (kI sI : Int32) (h : hs_H) : Prop := ∀ kk S, kI = nI kk → sI = nI S → 1 ≤ kk → kk ≤ 5 → 0 < S → S < 2 ^ N → casF J N re (min kk N) S h
theorem casF_eq {J : Nat → Nat} {N re k S : Nat} {h h' : hs_H} (e0 : h'.1 0 0 = h.1 0 0) (e21 : h'.1 21 0 = h.1 21 0) (e23 : h'.1 23 0 = h.1 23 0) (p : casF J N re k S h) : casF J N re k S h' := by
  unfold casF thr thA tv chn at p ⊢
  rw [e0, e21, e23]
  exact p
theorem caV_dep {N : Nat} {J : Nat → Nat} {re : Nat} {kI sI : Int32} : st_dep [(0, 0), (20, 0), (21, 0), (22, 0), (23, 0)] (caV N J re kI sI) := by
  intro h h' e p kk S h1 h2 h3 h4 h5 h6
  exact casF_eq (e (0, 0) (by simp)) (e (21, 0) (by simp)) (e (23, 0) (by simp)) (p kk S h1 h2 h3 h4 h5 h6)
theorem chV_dep {N : Nat} {J : Nat → Nat} {re : Nat} : st_dep [(1, 0), (24, 0)] (chV N J re) := by
  intro h h' e p f x y hf hx hy
  rw [e (24, 0) (by simp)]
  exact p f x y hf hx hy
section CK
variable {VH : Nat → (Nat → Nat) → Nat → hs_H → Prop} {VW : st_VW}
theorem sp_0b {J : Nat → Nat} {N re kk S : Nat} {h : hs_H} (n : ch_n N re J h) (hN : N ≤ 10) (hN1 : 2 ≤ N) (hJ : ∀ k, J k < 2 ^ N) (hre : re = 0 ∨ re = 1) (hk1 : 1 ≤ kk) (hk5 : kk ≤ 5) (hS0 : 0 < S) (hS : S < 2 ^ N) : ∃ H, hb_0_30 (nI kk) (nI S) h = some H ∧ hs_fr [(0, some 0), (20, some 0), (21, some 0), (22, some 0), (23, some 0)] h H ∧ casF J N re (min kk N) S H ∧ H.1 0 0 9 = nI kk ∧ H.1 0 0 10 = nI S ∧ H.1 0 0 11 = h.1 4 0 6 := by
  have hp := p2_lt hN
  have f0 : hs_fr [(0, some 0), (20, some 0), (21, some 0), (22, some 0), (23, some 0)] h (hs_put (hs_put (hs_put (hs_put h 0 0 9 (nI kk)) 0 0 10 (nI S)) 0 0 11 (h.1 4 0 6)) 0 0 6 (nI (min kk N))) := (((hs_fr.rf.put (.inl (.head _))).put (.inl (.head _))).put (.inl (.head _))).put (.inl (.head _))
  have g6 : (hs_put (hs_put (hs_put (hs_put h 0 0 9 (nI kk)) 0 0 10 (nI S)) 0 0 11 (h.1 4 0 6)) 0 0 6 (nI (min kk N))).1 0 0 6 = nI (min kk N) := by simp (disch := omega) only [nq_nf, nq_nt, nq_le_t, nq_le_f, nq_lt_t, nq_lt_f, nq_eq_t, nq_eq_f, nq_neg, nq_pos, nq_le0f, nq_le0t, nq_lt0t, nq_lt0f, nq_eq0f, nq_eq0t, nI_add, nI_clamp, nx_inb, nx_ck, Option.bind_some, nx_get, nx_get2, nx_dif, nx_or, bI_0, bI_01, bI_nt, bI_nf, if_true, if_false, ite_true, ite_false, not_true_eq_false, not_false_eq_true, and_true, true_and, and_false, false_and, Bool.false_eq_true, Bool.true_eq_false, reduceCtorEq]
  have g9 : (hs_put (hs_put (hs_put (hs_put h 0 0 9 (nI kk)) 0 0 10 (nI S)) 0 0 11 (h.1 4 0 6)) 0 0 6 (nI (min kk N))).1 0 0 9 = nI kk := by simp (disch := omega) only [nq_nf, nq_nt, nq_le_t, nq_le_f, nq_lt_t, nq_lt_f, nq_eq_t, nq_eq_f, nq_neg, nq_pos, nq_le0f, nq_le0t, nq_lt0t, nq_lt0f, nq_eq0f, nq_eq0t, nI_add, nI_clamp, nx_inb, nx_ck, Option.bind_some, nx_get, nx_get2, nx_dif, nx_or, bI_0, bI_01, bI_nt, bI_nf, if_true, if_false, ite_true, ite_false, not_true_eq_false, not_false_eq_true, and_true, true_and, and_false, false_and, Bool.false_eq_true, Bool.true_eq_false, reduceCtorEq]
  have g10 : (hs_put (hs_put (hs_put (hs_put h 0 0 9 (nI kk)) 0 0 10 (nI S)) 0 0 11 (h.1 4 0 6)) 0 0 6 (nI (min kk N))).1 0 0 10 = nI S := by simp (disch := omega) only [nq_nf, nq_nt, nq_le_t, nq_le_f, nq_lt_t, nq_lt_f, nq_eq_t, nq_eq_f, nq_neg, nq_pos, nq_le0f, nq_le0t, nq_lt0t, nq_lt0f, nq_eq0f, nq_eq0t, nI_add, nI_clamp, nx_inb, nx_ck, Option.bind_some, nx_get, nx_get2, nx_dif, nx_or, bI_0, bI_01, bI_nt, bI_nf, if_true, if_false, ite_true, ite_false, not_true_eq_false, not_false_eq_true, and_true, true_and, and_false, false_and, Bool.false_eq_true, Bool.true_eq_false, reduceCtorEq]
  have g11 : (hs_put (hs_put (hs_put (hs_put h 0 0 9 (nI kk)) 0 0 10 (nI S)) 0 0 11 (h.1 4 0 6)) 0 0 6 (nI (min kk N))).1 0 0 11 = h.1 4 0 6 := by simp (disch := omega) only [nq_nf, nq_nt, nq_le_t, nq_le_f, nq_lt_t, nq_lt_f, nq_eq_t, nq_eq_f, nq_neg, nq_pos, nq_le0f, nq_le0t, nq_lt0t, nq_lt0f, nq_eq0f, nq_eq0t, nI_add, nI_clamp, nx_inb, nx_ck, Option.bind_some, nx_get, nx_get2, nx_dif, nx_or, bI_0, bI_01, bI_nt, bI_nf, if_true, if_false, ite_true, ite_false, not_true_eq_false, not_false_eq_true, and_true, true_and, and_false, false_and, Bool.false_eq_true, Bool.true_eq_false, reduceCtorEq]
  have g4 : (hs_put (hs_put h 0 0 9 (nI kk)) 0 0 10 (nI S)).1 4 0 6 = h.1 4 0 6 := by simp (disch := omega) only [nq_nf, nq_nt, nq_le_t, nq_le_f, nq_lt_t, nq_lt_f, nq_eq_t, nq_eq_f, nq_neg, nq_pos, nq_le0f, nq_le0t, nq_lt0t, nq_lt0f, nq_eq0f, nq_eq0t, nI_add, nI_clamp, nx_inb, nx_ck, Option.bind_some, nx_get, nx_get2, nx_dif, nx_or, bI_0, bI_01, bI_nt, bI_nf, if_true, if_false, ite_true, ite_false, not_true_eq_false, not_false_eq_true, and_true, true_and, and_false, false_and, Bool.false_eq_true, Bool.true_eq_false, reduceCtorEq]
  have g41 : (hs_put (hs_put (hs_put h 0 0 9 (nI kk)) 0 0 10 (nI S)) 0 0 11 (h.1 4 0 6)).1 4 0 1 = nI N := by simp (disch := omega) only [n.1, nq_nf, nq_nt, nq_le_t, nq_le_f, nq_lt_t, nq_lt_f, nq_eq_t, nq_eq_f, nq_neg, nq_pos, nq_le0f, nq_le0t, nq_lt0t, nq_lt0f, nq_eq0f, nq_eq0t, nI_add, nI_clamp, nx_inb, nx_ck, Option.bind_some, nx_get, nx_get2, nx_dif, nx_or, bI_0, bI_01, bI_nt, bI_nf, if_true, if_false, ite_true, ite_false, not_true_eq_false, not_false_eq_true, and_true, true_and, and_false, false_and, Bool.false_eq_true, Bool.true_eq_false, reduceCtorEq]
  unfold hb_0_30 hb_0_79
  rw [g4, g41, sp_243 (by omega) (by omega), Option.bind_some]
  dsimp only
  generalize hs_put (hs_put (hs_put (hs_put h 0 0 9 (nI kk)) 0 0 10 (nI S)) 0 0 11 (h.1 4 0 6)) 0 0 6 (nI (min kk N)) = H1 at f0 g6 g9 g10 g11
  have n1 := ch_n_fr f0 rfl n
  have hmin1 : 1 ≤ min kk N := by omega
  have hminN : min kk N ≤ N := Nat.min_le_right _ _
  obtain ⟨H2, a1, a2, a3, a4⟩ := sp_1 (k := min kk N) hN n1.1 (by omega) g6
  have f2 : hs_fr [(0, some 0), (20, some 0), (21, some 0), (22, some 0), (23, some 0)] h H2 := f0.tr (a2.sub (hs_sub_cons (.inl (.head _)) (hs_sub_cons (.inl (.tail _ (.tail _ (.tail _ (.tail _ (.head _)))))) hs_sub_nil)))
  obtain ⟨H3, b1, b2, b3, b4⟩ := sp_2 (ch_n_fr f2 rfl n) hN hJ hre
  have f3 : hs_fr [(0, some 0), (20, some 0), (21, some 0), (22, some 0), (23, some 0)] h H3 := f2.tr (b2.sub (hs_sub_cons (.inl (.tail _ (.head _))) (hs_sub_cons (.inl (.tail _ (.tail _ (.head _)))) hs_sub_nil)))
  have e30 : H3.1 0 0 = H2.1 0 0 := (b2 0 0 (by intro q hq; revert q; simp)).1
  have e323 : H3.1 23 0 = H2.1 23 0 := (b2 23 0 (by intro q hq; revert q; simp)).1
  have bl : bl5 J N re (min kk N) H3 := by
    refine ⟨b3, ?_, ?_⟩
    · unfold thr thA tv at a4 ⊢
      rw [e30, e323]
      exact a4
    · rw [e30, a3 6 (by omega)]; exact g6
  obtain ⟨H4, c1, c2, c3, c4⟩ := sp_3 (S := S) hN hJ hre hmin1 hminN hS0 hS bl b4
  have f4 : hs_fr [(0, some 0), (20, some 0), (21, some 0), (22, some 0), (23, some 0)] h H4 := f3.tr (c2.sub (hs_sub_cons (.inl (.head _)) (hs_sub_cons (.inl (.tail _ (.tail _ (.head _)))) (hs_sub_cons (.inl (.tail _ (.tail _ (.tail _ (.head _))))) hs_sub_nil))))
  rw [a1, Option.bind_some, b1, Option.bind_some, c1, Option.bind_some]
  exact ⟨H4, rfl, f4, c4, by rw [c3 9 (by omega) (by omega), e30, a3 9 (by omega)]; exact g9, by rw [c3 10 (by omega) (by omega), e30, a3 10 (by omega)]; exact g10, by rw [c3 11 (by omega) (by omega), e30, a3 11 (by omega)]; exact g11⟩
/-- the class's search, done or kept -/
theorem ca_search (V : st_V caV VH VW) {b N re W Ho : Nat} {J : Nat → Nat} {st pl mv : Int32} {s : Nat → Nat} {z : Nat} {t n g : Nat → Nat} {c d : Nat} {h : hs_H} {kk S : Nat} (hb : b ≤ 1000000) (hcd : c ≤ b ∧ d ≤ b) (co : st_core 0 0 N re W Ho J st pl mv s z t n g h) (mN : st_mN N re W Ho h) (im : st_imgs N re W Ho h) (ca : st_cache caV VH VW c d N J re st W z t n g h) (rs : st_rest h) (hk1 : 1 ≤ kk) (hk5 : kk ≤ 5) (hS0 : 0 < S) (hS : S < 2 ^ N) : ∃ H, hf_0 (nI kk) (nI S) h = some H ∧ hs_fr [(0, some 0), (20, some 0), (21, some 0), (22, some 0), (23, some 0)] h H ∧ casF J N re (min kk N) S H ∧ (st_core 0 0 N re W Ho J st pl mv s z t n g H ∧ st_mN N re W Ho H ∧ st_imgs N re W Ho H ∧ st_cache caV VH VW c d N J re st W z t n g H ∧ st_rest H) := by
  obtain ⟨⟨okN, okF, okS⟩, ⟨cN, cF, cS⟩, mJ, mF, mS⟩ := id co
  obtain ⟨⟨hN1, hN2⟩, hre, hst, ⟨hW, hHo⟩, hJ, hJ0, hJs, hJa⟩ := id okN
  obtain ⟨cN1, cN2, cN3, cN4, cN5, cJ⟩ := id cN
  obtain ⟨⟨ca1, ca2⟩, ca3, ca4, ca5⟩ := id ca
  have hp := p2_lt hN2
  obtain ⟨H, e1, f, e4, e9, e10, e11⟩ := sp_0b (h := h) ⟨cN1, cN2, cJ⟩ hN2 hN1 hJ hre hk1 hk5 hS0 hS
  have new : ∃ H, hb_0_30 (nI kk) (nI S) h = some H ∧ hs_fr [(0, some 0), (20, some 0), (21, some 0), (22, some 0), (23, some 0)] h H ∧ casF J N re (min kk N) S H ∧ (st_core 0 0 N re W Ho J st pl mv s z t n g H ∧ st_mN N re W Ho H ∧ st_imgs N re W Ho H ∧ st_cache caV VH VW c d N J re st W z t n g H ∧ st_rest H) := by
    refine ⟨H, e1, f, e4, st_core_dep.fr f rfl co, st_mN_dep.fr f rfl mN, st_imgs_dep.fr f rfl im, ⟨⟨?_, ?_⟩, Or.inr ⟨c, Nat.le_refl _, by rw [e11]; exact ca1, fun _ k2 S2 h1 h2 h3 h5 h6 h7 => ?_⟩, (st_cha_dep V).fr f rfl ca4, (st_way_dep V).fr f rfl ca5⟩, st_rest_dep.fr f rfl rs⟩
    · rw [(f 4 0 (by intro q hq; revert q; simp)).1]; exact ca1
    · rw [(f 5 0 (by intro q hq; revert q; simp)).1]; exact ca2
    · rw [e9] at h1
      rw [e10] at h2
      have q1 := nI_inj (by omega) (by omega) h1
      have q2 := nI_inj (by omega) (by omega) h2
      rw [← q1, ← q2]
      exact e4
  unfold hf_0
  by_cases c1 : h.1 0 0 9 = nI kk
  · rw [if_neg (fun w => w c1)]
    by_cases c2 : h.1 0 0 10 = nI S
    · rw [if_neg (fun w => w c2)]
      rcases ca3 with q | ⟨kn, q1, q2, q3⟩
      · rw [q] at c1
        have := nI_inj (by omega) (by omega) c1
        omega
      · by_cases c3 : kn = c
        · rw [if_pos (by rw [q2, ca1, c3])]
          unfold hb_0_79
          exact ⟨h, rfl, hs_fr.rf, q3 c3 kk S c1 c2 hk1 hk5 hS0 hS, co, mN, im, ca, rs⟩
        · rw [if_neg (by rw [q2, ca1]; exact fun w => c3 (nI_inj (by omega) (by omega) w))]
          exact new
    · rw [if_pos c2]
      exact new
  · rw [if_pos c1]
    exact new
theorem cl_casts (V : st_V caV VH VW) {a e w : Int32} : st_call caV VH VW (hf_128 a e w) (hf_210 a e w) := by
  intro b h hb p
  have p0 := p
  obtain ⟨N, re, W, Ho, J, st, pl, mv, s, z, t, n, g, c, d, ⟨hc, hd⟩, ⟨⟨okN, okF, okS⟩, ⟨cN, cF, cS⟩, mJ, mF, mS⟩, mN, im, ca, rs⟩ := p
  obtain ⟨⟨hN1, hN2⟩, hre, hst, ⟨hW, hHo⟩, hJ, hJ0, hJs, hJa⟩ := id okN
  obtain ⟨cN1, cN2, cN3, cN4, cN5, cJ⟩ := id cN
  obtain ⟨mN1, mN2, mN3, mN4⟩ := id mN
  obtain ⟨mJ1, mJ2⟩ := st_mJ0 mJ
  obtain ⟨mF1, mF2, mF3⟩ := st_mF0 mF
  obtain ⟨mS1, mS2⟩ := st_mS0 mS
  obtain ⟨cF1, cF2, cF3⟩ := id cF
  obtain ⟨cS1, cS2⟩ := id cS
  have hp := p2_lt hN2
  by_cases hok : (rg 1 5 a = true ∧ nm N e = true) ∧ ¬ e = 0 ∧ (w = 0 ∨ rg 10 1033 w = true)
  · obtain ⟨⟨hk, hm⟩, he0, hw⟩ := hok
    obtain ⟨kk, hk1, hk5, rfl⟩ := (rg_of (by omega)).mp hk
    obtain ⟨S, hS, rfl⟩ := (nm_of (by omega)).mp hm
    have hS0 : 0 < S := Nat.pos_of_ne_zero (fun q => he0 (by rw [q]; rfl))
    obtain ⟨H, s1, s2, s3, s4⟩ := ca_search V (kk := kk) (S := S) hb ⟨hc, hd⟩ ⟨⟨okN, okF, okS⟩, ⟨cN, cF, cS⟩, mJ, mF, mS⟩ mN im ca rs hk1 hk5 hS0 hS
    have pH : st_all caV VH VW b H := ⟨N, re, W, Ho, J, st, pl, mv, s, z, t, n, g, c, d, ⟨hc, hd⟩, s4⟩
    have nm2 : mk_n N re J H := mk_n_fr s2 rfl ⟨mN1, mN2, mJ1⟩
    obtain ⟨G, g1, g2, g3⟩ := sp_208 nm2 hN2 hN1 hJ hre hk1 hk5
    have nG : G.1 12 0 2 = nI N := (mk_n_fr g2 rfl nm2).1
    have hmin1 : 1 ≤ min kk N := by omega
    have hb2 := fwe_b (k := min kk N) hN2 hJ hre hS
    have fr := (st_all_fr V g2 rfl pH).up caV VH VW (show b ≤ b + 100 by omega)
    have c146 := sp_146m (m := 1023) (a := w) (h := h) (by omega)
    have hc1 : ∀ x y, hb_128_50 (nI kk) (nI S) w h = some (x, y) → hf_128 (nI kk) (nI S) w h = some (x, y) := by
      intro x y hx
      unfold hf_128
      rw [c146, Option.bind_some]
      dsimp only
      rw [if_neg (nI_nlt (by omega) (by omega)), if_neg (nI_nlt (by omega) (by omega)), if_neg he0, sp_30 cN1 (by omega), hm, Option.bind_some]
      dsimp only
      rw [if_neg (by decide)]
      by_cases q : w = 0
      · rw [if_pos q]; exact hx
      · rw [if_neg q, hw.resolve_left q, if_pos (by decide)]; exact hx
    have hm1 : ∀ x y, hb_210_44 (nI kk) (nI S) w H = some (x, y) → hf_210 (nI kk) (nI S) w H = some (x, y) := by
      intro x y hx
      unfold hf_210
      rw [sp_150r (lo := 1) (hi := 5) rfl rfl, hk, Option.bind_some]
      dsimp only
      rw [if_neg (by decide), sp_204 nm2.1 (by omega), hm, Option.bind_some]
      dsimp only
      rw [if_neg (by decide), if_neg he0]
      by_cases q : w = 0
      · rw [if_pos q]; exact hx
      · rw [if_neg q, sp_150r (lo := 10) (hi := 1033) rfl rfl, hw.resolve_left q, Option.bind_some]
        dsimp only
        rw [if_pos (by decide)]
        exact hx
    have e44 : ∀ x, (fwe J N re (min kk N) S ≠ 99999 → w ≠ 0 → hb_210_90 (nI S) w (nI (min kk N)) G = some (x, G)) → hb_210_44 (nI kk) (nI S) w H = some (if fwe J N re (min kk N) S = 99999 then nI 4294967292 else if w = 0 then nI (fwe J N re (min kk N) S) else x, G) := by
      intro x hx
      unfold hb_210_44
      rw [g1, Option.bind_some, nx_inb (by omega) (by omega), nx_ck, nx_ck, nI_clamp (by omega), g3.2 S hS]
      by_cases c1 : fwe J N re (min kk N) S = 99999
      · rw [if_neg (fun q => q (by rw [c1])), if_pos c1]
      · rw [if_pos (fun q => c1 (nI_inj (by omega) (by omega) q)), if_neg c1]
        by_cases c2 : w = 0
        · rw [if_neg (fun q => q c2), if_pos c2]
        · rw [if_pos c2, if_neg c2, nG]
          have hx2 := hx c1 c2
          by_cases c3 : N ≤ kk
          · rw [if_pos (nI_le c3 (by omega))]
            rw [Nat.min_eq_right c3] at hx2
            exact hx2
          · rw [if_neg (nI_ge (by omega) (by omega))]
            rw [Nat.min_eq_left (by omega)] at hx2
            exact hx2
    have hw2 : ∃ tt, tt < 1024 ∧ (w ≠ 0 → w = nI (10 + tt)) := by
      rcases hw with q | q
      · exact ⟨0, by omega, fun z => absurd q z⟩
      · obtain ⟨i, h1, h2, h3⟩ := (rg_of (by omega)).mp q
        exact ⟨i - 10, by omega, fun _ => by rw [h3, show 10 + (i - 10) = i by omega]⟩
    obtain ⟨tt, ht1, ht2⟩ := hw2
    refine ⟨if fwe J N re (min kk N) S = 99999 then nI 4294967292 else if w = 0 then nI (fwe J N re (min kk N) S) else nI (cst J N re (min kk N) S tt), H, G, hc1 _ _ ?_, hm1 _ _ (e44 _ (fun c1 c2 => ?_)), fr⟩
    · unfold hb_128_50 hb_128_85
      rw [s1, Option.bind_some]
      by_cases c2 : w = 0
      · rw [if_neg (fun q => q c2), if_pos c2]
        rcases s3 with ⟨f1, f2⟩ | ⟨hD, f2, -⟩
        · rw [f2, if_pos (by decide), if_pos f1]
        · have hn0 : fwe J N re (min kk N) S ≠ 0 := fun q => by have := fwe_0.mp q; omega
          rw [f2, if_neg (nI_nle (by omega) (by omega)), if_neg hD]
      · rw [if_pos c2, if_neg c2, ht2 c2, pk_sub (by omega), Nat.add_sub_cancel_left, sp_9 hN2 hJ hre hmin1 hS (by omega) ht1 s3, Option.bind_some]
    · rw [ht2 c2]
      exact sp_210g hN2 hJ hre hmin1 (by omega) hS c1 ht1 g3 nG
  · refine ⟨nI 4294967295, h, h, ?_, ?_, p0.up caV VH VW (by omega)⟩
    · unfold hf_128 hb_128_48
      rw [sp_146m (by omega), Option.bind_some]
      dsimp only
      cases h1 : rg 1 5 a with
      | false =>
        rcases rg_f2 (by omega) (by omega) h1 with h4 | ⟨h4, h5⟩
        · rw [if_pos h4]
        · rw [if_neg h4, if_pos h5]
      | true =>
        obtain ⟨kk, hk1, hk5, rfl⟩ := (rg_of (by omega)).mp h1
        rw [if_neg (nI_nlt (by omega) (by omega)), if_neg (nI_nlt (by omega) (by omega))]
        by_cases c1 : e = 0
        · rw [if_pos c1]
        · rw [if_neg c1, sp_30 cN1 (by omega), Option.bind_some]
          dsimp only
          cases h2 : nm N e with
          | false => rw [if_pos (by decide)]
          | true =>
            have h3 : ¬ (w = 0 ∨ rg 10 1033 w = true) := fun q => hok ⟨⟨h1, h2⟩, c1, q⟩
            rw [if_neg (by decide), if_neg (fun q => h3 (Or.inl q)), eq_false_of_ne_true (fun q => h3 (Or.inr q)), if_neg (by decide)]
    · unfold hf_210 hb_210_42
      rw [sp_150r (lo := 1) (hi := 5) rfl rfl, Option.bind_some]
      dsimp only
      cases h1 : rg 1 5 a with
      | false => rw [if_pos (by decide)]
      | true =>
        rw [if_neg (by decide), sp_204 mN1 (by omega), Option.bind_some]
        dsimp only
        cases h2 : nm N e with
        | false => rw [if_pos (by decide)]
        | true =>
          rw [if_neg (by decide)]
          by_cases c1 : e = 0
          · rw [if_pos c1]
          · have h3 : ¬ (w = 0 ∨ rg 10 1033 w = true) := fun q => hok ⟨⟨h1, h2⟩, c1, q⟩
            rw [if_neg c1, if_neg (fun q => h3 (Or.inl q)), sp_150r (lo := 10) (hi := 1033) rfl rfl, eq_false_of_ne_true (fun q => h3 (Or.inr q)), Option.bind_some]
            dsimp only
            rw [if_neg (by decide)]
theorem sp_129 (V : st_V caV VH VW) {b N re W Ho : Nat} {J : Nat → Nat} {st pl mv : Int32} {s : Nat → Nat} {z : Nat} {t n g : Nat → Nat} {c d : Nat} {h : hs_H} (hb : b ≤ 1000000) (hcd : c ≤ b ∧ d ≤ b) (co : st_core 0 0 N re W Ho J st pl mv s z t n g h) (mN : st_mN N re W Ho h) (im : st_imgs N re W Ho h) (ca : st_cache caV VH VW c d N J re st W z t n g h) (rs : st_rest h) : ∃ r H, hf_129 h = some (r, H) ∧ hs_fr [(0, some 0), (20, some 0), (21, some 0), (22, some 0), (23, some 0)] h H ∧ (st_core 0 0 N re W Ho J st pl mv s z t n g H ∧ st_mN N re W Ho H ∧ st_imgs N re W Ho H ∧ st_cache caV VH VW c d N J re st W z t n g H ∧ st_rest H) ∧ ((r = nI 4294967292 ∧ ∀ k, 1 ≤ k → k ≤ 5 → fwe J N re (min k N) (2 ^ N - 1) = 99999) ∨ ∃ k, 1 ≤ k ∧ k ≤ 5 ∧ r = nI k ∧ fwe J N re (min k N) (2 ^ N - 1) ≠ 99999 ∧ ∀ j, 1 ≤ j → j < k → fwe J N re (min j N) (2 ^ N - 1) = 99999) := by
  have okN := co.1.1
  obtain ⟨⟨hN1, hN2⟩, hre, hst, ⟨hW, hHo⟩, hJ, hJ0, hJs, hJa⟩ := id okN
  have hp := p2_lt hN2
  have h22 : 2 ≤ 2 ^ N := by
    have : 2 ^ 1 ≤ 2 ^ N := Nat.pow_le_pow_right (by omega) (by omega)
    omega
  unfold hf_129
  refine lp_q2 (f := fun k s => hb_129_2 k s.1 s.2) (I := fun d2 q => ∃ k H, 1 ≤ k ∧ k ≤ 6 ∧ d2 = 6 - k ∧ hs_fr [(0, some 0), (20, some 0), (21, some 0), (22, some 0), (23, some 0)] h H ∧ (st_core 0 0 N re W Ho J st pl mv s z t n g H ∧ st_mN N re W Ho H ∧ st_imgs N re W Ho H ∧ st_cache caV VH VW c d N J re st W z t n g H ∧ st_rest H) ∧ (∀ j, 1 ≤ j → j < k → fwe J N re (min j N) (2 ^ N - 1) = 99999) ∧ q = (nI k, H)) (Q := fun o => ∃ r H, o = some (r, H) ∧ hs_fr [(0, some 0), (20, some 0), (21, some 0), (22, some 0), (23, some 0)] h H ∧ (st_core 0 0 N re W Ho J st pl mv s z t n g H ∧ st_mN N re W Ho H ∧ st_imgs N re W Ho H ∧ st_cache caV VH VW c d N J re st W z t n g H ∧ st_rest H) ∧ ((r = nI 4294967292 ∧ ∀ k, 1 ≤ k → k ≤ 5 → fwe J N re (min k N) (2 ^ N - 1) = 99999) ∨ ∃ k, 1 ≤ k ∧ k ≤ 5 ∧ r = nI k ∧ fwe J N re (min k N) (2 ^ N - 1) ≠ 99999 ∧ ∀ j, 1 ≤ j → j < k → fwe J N re (min j N) (2 ^ N - 1) = 99999)) (fun d2 q hI k2 => ?_) 5 _ hs_big ⟨1, h, by omega, by omega, rfl, hs_fr.rf, ⟨co, mN, im, ca, rs⟩, fun j h1 h2 => by omega, rfl⟩ (lp_big (by omega))
  obtain ⟨k, H, hk1, hk6, rfl, fr, ⟨co', mN', im', ca', rs'⟩, hlow, rfl⟩ := hI
  by_cases hk : k = 6
  · subst hk
    refine Or.inl ⟨nI 4294967292, H, ?_, fr, ⟨co', mN', im', ca', rs'⟩, Or.inl ⟨rfl, fun k h1 h2 => hlow k h1 (by omega)⟩⟩
    show hb_129_2 k2 (nI 6) H = _
    unfold hb_129_2
    rw [if_pos (by decide)]
  · obtain ⟨H', s1, s2, s3, s4⟩ := ca_search V (kk := k) (S := 2 ^ N - 1) hb hcd co' mN' im' ca' rs' hk1 (by omega) (by omega) (by omega)
    have fr' := fr.tr s2
    have e31 := sp_31 (o := 0) (N := N) (h := H) co'.2.1.1.1 (by omega)
    have hn0 : fwe J N re (min k N) (2 ^ N - 1) ≠ 0 := fun q => by have := fwe_0.mp q; omega
    have hb2 := fwe_b (k := min k N) hN2 hJ hre (show 2 ^ N - 1 < 2 ^ N by omega)
    rcases s3 with ⟨f1, f2⟩ | ⟨hD, f2, -⟩
    · refine Or.inr ⟨6 - (k + 1), _, by omega, ⟨k + 1, H', by omega, by omega, rfl, fr', s4, fun j h1 h2 => ?_, rfl⟩, ?_⟩
      · by_cases q : j = k
        · rw [q]; exact f1
        · exact hlow j h1 (by omega)
      · show hb_129_2 k2 (nI k) H = _
        unfold hb_129_2
        rw [if_neg (nI_nlt (by omega) (by omega)), e31, Option.bind_some]
        dsimp only
        rw [s1, Option.bind_some, f2, if_pos (by decide), nI_add]
    · refine Or.inl ⟨nI k, H', ?_, fr', s4, Or.inr ⟨k, hk1, by omega, rfl, hD, hlow⟩⟩
      show hb_129_2 k2 (nI k) H = _
      unfold hb_129_2
      rw [if_neg (nI_nlt (by omega) (by omega)), e31, Option.bind_some]
      dsimp only
      rw [s1, Option.bind_some, f2, if_neg (nI_nle (by omega) (by omega))]
theorem sp_211 {J : Nat → Nat} {N re : Nat} {h : hs_H} (n : mk_n N re J h) (hN : N ≤ 10) (hN1 : 2 ≤ N) (hJ : ∀ k, J k < 2 ^ N) (hre : re = 0 ∨ re = 1) {r : Int32} (hr : (r = nI 4294967292 ∧ ∀ k, 1 ≤ k → k ≤ 5 → fwe J N re (min k N) (2 ^ N - 1) = 99999) ∨ ∃ k, 1 ≤ k ∧ k ≤ 5 ∧ r = nI k ∧ fwe J N re (min k N) (2 ^ N - 1) ≠ 99999 ∧ ∀ j, 1 ≤ j → j < k → fwe J N re (min j N) (2 ^ N - 1) = 99999) : ∃ H, hf_211 h = some (r, H) ∧ hs_fr [(57, some 0), (58, some 0)] h H := by
  have hp := p2_lt hN
  have h22 : 1 ≤ 2 ^ N := Nat.one_le_two_pow
  unfold hf_211
  refine lp_q2 (f := fun k s => hb_211_2 k s.1 s.2) (I := fun d2 q => ∃ k H, 1 ≤ k ∧ k ≤ 6 ∧ d2 = 6 - k ∧ hs_fr [(57, some 0), (58, some 0)] h H ∧ (∀ j, 1 ≤ j → j < k → fwe J N re (min j N) (2 ^ N - 1) = 99999) ∧ q = (nI k, H)) (Q := fun o => ∃ H, o = some (r, H) ∧ hs_fr [(57, some 0), (58, some 0)] h H) (fun d2 q hI k2 => ?_) 5 _ hs_big ⟨1, h, by omega, by omega, rfl, hs_fr.rf, fun j h1 h2 => by omega, rfl⟩ (lp_big (by omega))
  obtain ⟨k, H, hk1, hk6, rfl, fr, hlow, rfl⟩ := hI
  by_cases hk : k = 6
  · subst hk
    refine Or.inl ⟨H, ?_, fr⟩
    show hb_211_2 k2 (nI 6) H = _
    unfold hb_211_2
    rw [if_pos (by decide)]
    rcases hr with ⟨r1, -⟩ | ⟨k, q1, q2, -, q4, -⟩
    · rw [r1]
    · exact absurd (hlow k q1 (by omega)) q4
  · have n' := mk_n_fr fr rfl n
    obtain ⟨G, g1, g2, g3⟩ := sp_208 n' hN hN1 hJ hre hk1 (show k ≤ 5 by omega)
    have nG := (mk_n_fr g2 rfl n').1
    have step : hb_211_2 k2 (nI k) H = if nI (fwe J N re (min k N) (2 ^ N - 1)) = nI 99999 then k2 (nI (k + 1), G) else some (nI k, G) := by
      unfold hb_211_2
      rw [if_neg (nI_ge (by omega) (by omega)), g1, Option.bind_some, nG, nx_shl1 (by omega), pk_sub h22, nx_inb (by omega) (by omega), nx_ck, nI_clamp (by omega), g3.2 _ (by omega), nI_add]
    have hb2 := fwe_b (k := min k N) hN hJ hre (show 2 ^ N - 1 < 2 ^ N by omega)
    by_cases c : fwe J N re (min k N) (2 ^ N - 1) = 99999
    · refine Or.inr ⟨6 - (k + 1), _, by omega, ⟨k + 1, G, by omega, by omega, rfl, fr.tr g2, fun j h1 h2 => ?_, rfl⟩, ?_⟩
      · by_cases q : j = k
        · rw [q]; exact c
        · exact hlow j h1 (by omega)
      · show hb_211_2 k2 (nI k) H = _
        rw [step, c, if_pos rfl]
    · refine Or.inl ⟨G, ?_, fr.tr g2⟩
      show hb_211_2 k2 (nI k) H = _
      rw [step, if_neg (fun q => c (nI_inj (by omega) (by omega) q))]
      rcases hr with ⟨-, r2⟩ | ⟨j, q1, q2, q3, q4, q5⟩
      · exact absurd (r2 k hk1 (by omega)) c
      · have : j = k := by
          by_cases w : j < k
          · exact absurd (hlow j q1 w) q4
          · by_cases w2 : k < j
            · exact absurd (q5 k hk1 w2) c
            · omega
        rw [q3, this]
theorem cl_need (V : st_V caV VH VW) : st_call caV VH VW hf_129 hf_211 := by
  intro b h hb p
  obtain ⟨N, re, W, Ho, J, st, pl, mv, s, z, t, n, g, c, d, ⟨hc, hd⟩, ⟨⟨okN, okF, okS⟩, ⟨cN, cF, cS⟩, mJ, mF, mS⟩, mN, im, ca, rs⟩ := p
  obtain ⟨⟨hN1, hN2⟩, hre, hst, ⟨hW, hHo⟩, hJ, hJ0, hJs, hJa⟩ := id okN
  obtain ⟨cN1, cN2, cN3, cN4, cN5, cJ⟩ := id cN
  obtain ⟨mN1, mN2, mN3, mN4⟩ := id mN
  obtain ⟨mJ1, mJ2⟩ := st_mJ0 mJ
  obtain ⟨mF1, mF2, mF3⟩ := st_mF0 mF
  obtain ⟨mS1, mS2⟩ := st_mS0 mS
  obtain ⟨cF1, cF2, cF3⟩ := id cF
  obtain ⟨cS1, cS2⟩ := id cS
  have hp := p2_lt hN2
  obtain ⟨r, H, s1, s2, s3, s4⟩ := sp_129 V hb ⟨hc, hd⟩ ⟨⟨okN, okF, okS⟩, ⟨cN, cF, cS⟩, mJ, mF, mS⟩ mN im ca rs
  have pH : st_all caV VH VW b H := ⟨N, re, W, Ho, J, st, pl, mv, s, z, t, n, g, c, d, ⟨hc, hd⟩, s3⟩
  obtain ⟨G, g1, g2⟩ := sp_211 (mk_n_fr s2 rfl ⟨mN1, mN2, mJ1⟩) hN2 hN1 hJ hre s4
  exact ⟨r, H, G, s1, g1, (st_all_fr V g2 rfl pH).up caV VH VW (by omega)⟩
end CK
