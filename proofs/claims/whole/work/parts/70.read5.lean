/-! read: the call. -/
theorem rdo_same {u : Option (Nat × Nat)} {l x : Int32} {N : Nat} {R : Nat → Int32} {d i z : Nat} {t n g : Nat → Nat} (e : (rdo u l x N R d i z t n g).z = z) : (rdo u l x N R d i z t n g).t = t ∧ (rdo u l x N R d i z t n g).n = n ∧ (rdo u l x N R d i z t n g).g = g := by
  match d with
  | 0 => exact ⟨rfl, rfl, rfl⟩
  | d + 1 =>
    unfold rdo at e ⊢
    by_cases h1 : kd3 u l x i = 0
    · rw [if_pos h1] at e ⊢
      by_cases h2 : sm_ok N (rdV R x i 0) (rdV R x i 1) (rdV R x i 2) = true ∧ z < 10
      · rw [if_pos h2] at e
        have := (rdo_le (u := u) (l := l) (x := x) (N := N) (R := R) d (i + 1) (z + 1) (ext1 t z (rdN R x i 0)) (ext1 n z (rdN R x i 1)) (ext1 g z (rdN R x i 2))).1
        omega
      · rw [if_neg h2]
        exact ⟨rfl, rfl, rfl⟩
    · rw [if_neg h1]
      exact ⟨rfl, rfl, rfl⟩
def rdK : List (Nat × Option Nat) := [(5, some 0), (28, some 0), (29, some 0), (30, some 0), (11, some 0), (44, some 0), (12, some 0)]
theorem sp_141x {a l x e : Int32} {h : hs_H} (hb : (rg 0 3 a && rg 0 2 l && rg 0 10 e) = false) : hf_141 a l x e h = some (nI 4294967295, h) := by
  unfold hf_141 hb_141_28
  cases h3 : rg 0 3 a with
  | false =>
    rcases rg_f3 h3 with q | ⟨q1, q2⟩
    · rw [if_pos q]
    · rw [if_neg q1, if_pos q2]
  | true =>
    rw [h3] at hb
    obtain ⟨k, -, hk, rfl⟩ := (rg_of (by omega)).mp h3
    simp (disch := omega) only [nq_nf, nq_nt, nq_le_t, nq_le_f, nq_lt_t, nq_lt_f, nq_eq_t, nq_eq_f, nq_neg, nq_pos, nq_le0f, nq_le0t, nq_lt0t, nq_lt0f, nq_eq0f, nq_eq0t, nI_add, nI_clamp, nx_inb, nx_ck, Option.bind_some, nx_get, nx_get2, nx_dif, nx_or, bI_0, bI_01, bI_nt, bI_nf, if_true, if_false, ite_true, ite_false, not_true_eq_false, not_false_eq_true, and_true, true_and, and_false, false_and, Bool.false_eq_true, Bool.true_eq_false, reduceCtorEq]
    rw [sp_145]
    cases h2 : rg 0 2 l with
    | false => simp (disch := omega) only [nq_nf, nq_nt, nq_le_t, nq_le_f, nq_lt_t, nq_lt_f, nq_eq_t, nq_eq_f, nq_neg, nq_pos, nq_le0f, nq_le0t, nq_lt0t, nq_lt0f, nq_eq0f, nq_eq0t, nI_add, nI_clamp, nx_inb, nx_ck, Option.bind_some, nx_get, nx_get2, nx_dif, nx_or, bI_0, bI_01, bI_nt, bI_nf, if_true, if_false, ite_true, ite_false, not_true_eq_false, not_false_eq_true, and_true, true_and, and_false, false_and, Bool.false_eq_true, Bool.true_eq_false, reduceCtorEq]
    | true =>
      rw [h2] at hb
      simp (disch := omega) only [nq_nf, nq_nt, nq_le_t, nq_le_f, nq_lt_t, nq_lt_f, nq_eq_t, nq_eq_f, nq_neg, nq_pos, nq_le0f, nq_le0t, nq_lt0t, nq_lt0f, nq_eq0f, nq_eq0t, nI_add, nI_clamp, nx_inb, nx_ck, Option.bind_some, nx_get, nx_get2, nx_dif, nx_or, bI_0, bI_01, bI_nt, bI_nf, if_true, if_false, ite_true, ite_false, not_true_eq_false, not_false_eq_true, and_true, true_and, and_false, false_and, Bool.false_eq_true, Bool.true_eq_false, reduceCtorEq]
      cases h1 : rg 0 10 e with
      | true => rw [h1] at hb; cases hb
      | false =>
        rcases rg_f (by omega) h1 with q | ⟨q1, q2⟩
        · rw [if_pos q]
        · rw [if_neg q1, if_neg q2]
theorem sp_237x {a l x e : Int32} {h : hs_H} (hb : (rg 0 3 a && rg 0 2 l && rg 0 10 e) = false) : hf_237 a l x e h = some (nI 4294967295, h) := by
  unfold hf_237 hb_237_21
  rw [sp_234]
  cases h3 : (rg 0 3 a && rg 0 2 l) with
  | false => simp (disch := omega) only [nq_nf, nq_nt, nq_le_t, nq_le_f, nq_lt_t, nq_lt_f, nq_eq_t, nq_eq_f, nq_neg, nq_pos, nq_le0f, nq_le0t, nq_lt0t, nq_lt0f, nq_eq0f, nq_eq0t, nI_add, nI_clamp, nx_inb, nx_ck, Option.bind_some, nx_get, nx_get2, nx_dif, nx_or, bI_0, bI_01, bI_nt, bI_nf, if_true, if_false, ite_true, ite_false, not_true_eq_false, not_false_eq_true, and_true, true_and, and_false, false_and, Bool.false_eq_true, Bool.true_eq_false, reduceCtorEq]
  | true =>
    rw [h3, Bool.true_and] at hb
    simp (disch := omega) only [nq_nf, nq_nt, nq_le_t, nq_le_f, nq_lt_t, nq_lt_f, nq_eq_t, nq_eq_f, nq_neg, nq_pos, nq_le0f, nq_le0t, nq_lt0t, nq_lt0f, nq_eq0f, nq_eq0t, nI_add, nI_clamp, nx_inb, nx_ck, Option.bind_some, nx_get, nx_get2, nx_dif, nx_or, bI_0, bI_01, bI_nt, bI_nf, if_true, if_false, ite_true, ite_false, not_true_eq_false, not_false_eq_true, and_true, true_and, and_false, false_and, Bool.false_eq_true, Bool.true_eq_false, reduceCtorEq]
    rw [sp_150r (lo := 0) (hi := 10) rfl (lN_t (by omega)), hb]
    simp (disch := omega) only [nq_nf, nq_nt, nq_le_t, nq_le_f, nq_lt_t, nq_lt_f, nq_eq_t, nq_eq_f, nq_neg, nq_pos, nq_le0f, nq_le0t, nq_lt0t, nq_lt0f, nq_eq0f, nq_eq0t, nI_add, nI_clamp, nx_inb, nx_ck, Option.bind_some, nx_get, nx_get2, nx_dif, nx_or, bI_0, bI_01, bI_nt, bI_nf, if_true, if_false, ite_true, ite_false, not_true_eq_false, not_false_eq_true, and_true, true_and, and_false, false_and, Bool.false_eq_true, Bool.true_eq_false, reduceCtorEq]
section CRd
variable {VC : Nat → (Nat → Nat) → Nat → Int32 → Int32 → hs_H → Prop} {VH : Nat → (Nat → Nat) → Nat → hs_H → Prop} {VW : st_VW}
theorem read_all (V : st_V VC VH VW) {b N re W Ho : Nat} {J : Nat → Nat} {st pl mv : Int32} {s : Nat → Nat} {z : Nat} {t n g : Nat → Nat} {c d : Nat} {h h2 : hs_H} {z' dd : Nat} {t' n' g' : Nat → Nat} (hcd : c ≤ b ∧ d ≤ b) (co : st_core 0 0 N re W Ho J st pl mv s z t n g h) (mN : st_mN N re W Ho h) (im : st_imgs N re W Ho h) (ca : st_cache VC VH VW c d N J re st W z t n g h) (rs : st_rest h)
    (f : hs_fr rdK h h2) (e44 : ∀ p, p < 23 ∨ 54 ≤ p → h2.1 44 0 p = h.1 44 0 p) (e12 : ∀ p, p ≠ 41 → h2.1 12 0 p = h.1 12 0 p) (ok' : ok_S N z' t' n' g') (cS' : st_cS 0 z' t' n' g' h2) (mS' : st_mS 44 0 z' t' n' g' h2) (e54 : h2.1 5 0 4 = nI dd) (hd1 : d ≤ dd) (hd2 : dd ≤ b + 100) (hsame : d < dd ∨ (z' = z ∧ t' = t ∧ n' = n ∧ g' = g)) (ht : h2.1 11 0 11 = h2.1 12 0 41) : st_all VC VH VW (b + 100) h2 := by
  obtain ⟨⟨okN, okF, okS⟩, ⟨cN, cF, cS⟩, mJ, mF, mS⟩ := co
  obtain ⟨⟨ca1, ca2⟩, ca3, ca4, ca5⟩ := ca
  obtain ⟨rs1, ⟨T, hT, t1, t2, t3⟩, ms1, ms2⟩ := rs
  have eo := st_out_at f (L := [(4, 0), (6, 0), (31, 0), (47, 0)]) rfl
  have e4 : h2.1 4 0 = h.1 4 0 := eo (4, 0) (by simp)
  have e6 : h2.1 6 0 = h.1 6 0 := eo (6, 0) (by simp)
  have e31 : h2.1 31 0 = h.1 31 0 := eo (31, 0) (by simp)
  have e47 : h2.1 47 0 = h.1 47 0 := eo (47, 0) (by simp)
  refine ⟨N, re, W, Ho, J, st, pl, mv, s, z', t', n', g', c, dd, ⟨by omega, hd2⟩, ⟨⟨okN, okF, ok'⟩, ⟨st_cN_dep.fr f rfl cN, st_cF_dep.fr f rfl cF, cS'⟩, ⟨fun k hk => by rw [e44 _ (by omega)]; exact mJ.1 k hk, by rw [e44 _ (by omega)]; exact mJ.2⟩, ⟨by rw [e44 _ (by omega)]; exact mF.1, by rw [e44 _ (by omega)]; exact mF.2.1, fun k hk => by rw [e44 _ (by omega)]; exact mF.2.2 k hk⟩, mS'⟩, ?_, st_imgs_fr f rfl (fun p hp => e44 p (by omega)) im, ⟨⟨?_, e54⟩, (st_cas_dep V).fr f rfl ca3, (st_cha_dep V).fr f rfl ca4, ?_⟩, st_sheets_dep.fr f rfl rs1, ⟨T, hT, ?_, ?_, fun k hk => ?_⟩, ?_, ht⟩
  · unfold st_mN
    rw [e12 2 (by decide), e12 3 (by decide), e12 4 (by decide), e12 5 (by decide)]
    exact mN
  · rw [e4]; exact ca1
  · rcases hsame with hs | ⟨rfl, rfl, rfl, rfl⟩
    · exact st_way_new (Nat.le_refl _) (by omega) (Or.inr hs) ((st_way_dep V).fr f rfl ca5)
    · by_cases hs : d < dd
      · exact st_way_new (Nat.le_refl _) (by omega) (Or.inr hs) ((st_way_dep V).fr f rfl ca5)
      · have : dd = d := by omega
        subst this
        exact (st_way_dep V).fr f rfl ca5
  · rw [e6]; exact t1
  · rw [e12 14 (by decide)]; exact t2
  · rw [e31, e47]; exact t3 k hk
  · rw [e6, e12 19 (by decide)]; exact ms1
theorem cl_read (V : st_V VC VH VW) {a l x e : Int32} : st_call VC VH VW (hf_141 a l x e) (hf_237 a l x e) := by
  intro b h hb p
  have pu : st_all VC VH VW (b + 100) h := p.up VC VH VW (by omega)
  obtain ⟨N, re, W, Ho, J, st, pl, mv, s, z, t, n, g, c, d, ⟨hc, hd⟩, ⟨⟨okN, okF, okS⟩, ⟨cN, cF, cS⟩, mJ, mF, mS⟩, mN, im, ca, rs⟩ := p
  obtain ⟨⟨hN1, hN2⟩, hre, hst, ⟨hW, hHo⟩, hJ, hJ0, hJs, hJa⟩ := id okN
  obtain ⟨cN1, cN2, cN3, cN4, cN5, cJ⟩ := id cN
  obtain ⟨mN1, mN2, mN3, mN4⟩ := id mN
  obtain ⟨mJ1, mJ2⟩ := st_mJ0 mJ
  obtain ⟨mF1, mF2, mF3⟩ := st_mF0 mF
  obtain ⟨mS1, mS2⟩ := st_mS0 mS
  obtain ⟨cF1, cF2, cF3⟩ := id cF
  obtain ⟨cS1, cS2⟩ := id cS
  have hp := p2_lt hN2
  cases hg : (rg 0 3 a && rg 0 2 l && rg 0 10 e) with
  | false => exact ⟨nI 4294967295, h, h, sp_141x hg, sp_237x hg, pu⟩
  | true =>
    have hg0 := hg
    rw [Bool.and_eq_true, Bool.and_eq_true] at hg
    obtain ⟨⟨g1, g2⟩, g3⟩ := hg
    obtain ⟨k, -, hk, rfl⟩ := (rg_of (by omega)).mp g1
    obtain ⟨m, -, hm, rfl⟩ := (rg_of (by omega)).mp g3
    have hk4 : k < 4 := by omega
    obtain ⟨u, hu⟩ := st_u_of (rs.1 k hk4)
    have hz := okS.1
    have hd0 : h.1 5 0 4 = nI d := ca.1.2
    obtain ⟨h1, r1, f1, c1⟩ := rd_c (k := k) (m := m) (z0 := z) (N := N) (u := u) (l := l) (x := x) (R := h.1 32 k) hm hN2 hk4 m 0 z t n g d h hs_big (by omega) (Nat.le_refl _) hz (lp_big (by omega)) hu rfl cN1 cS hd0
    have eo := st_out_at f1 (L := [(44, 0), (12, 0), (32, 0), (32, 1), (32, 2), (32, 3)]) rfl
    have o44 : h1.1 44 0 = h.1 44 0 := eo (44, 0) (by simp)
    have o12 : h1.1 12 0 = h.1 12 0 := eo (12, 0) (by simp)
    have f1' : hs_fr [(5, none), (28, none), (29, none), (30, none), (11, none)] h h1 := f1.sub (hs_sub_cons (.inr (.head _)) (hs_sub_cons (.inr (.tail _ (.head _))) (hs_sub_cons (.inr (.tail _ (.tail _ (.head _)))) (hs_sub_cons (.inr (.tail _ (.tail _ (.tail _ (.head _))))) (hs_sub_cons (.inr (.tail _ (.tail _ (.tail _ (.tail _ (.head _)))))) hs_sub_nil)))))
    have o32 : h1.1 32 k = h.1 32 k := st_out_at f1' (L := [(32, k)]) rfl (32, k) (by simp)
    have hu1 : st_u k u h1 := st_u_dep.fr f1' rfl hu
    have mS1' : st_mS 44 0 z t n g h1 := by unfold st_mS; rw [o44]; exact mS
    obtain ⟨h2, r2, f2, m1, m2, m3⟩ := rd_m (k := k) (m := m) (z0 := z) (N := N) (u := u) (l := l) (x := x) (R := h.1 32 k) hm (by omega) hN2 hk4 hz m 0 z t n g h1 hs_big (by omega) (Nat.le_refl _) hz (lp_big (by omega)) hu1 o32 (by rw [o12]; exact mN1) mS1'
    have hs := rdo_same (u := u) (l := l) (x := x) (N := N) (R := h.1 32 k) (d := m) (i := 0) (z := z) (t := t) (n := n) (g := g)
    have hl := rdo_le (u := u) (l := l) (x := x) (N := N) (R := h.1 32 k) m 0 z t n g
    have ho := rdo_ok (u := u) (l := l) (x := x) (N := N) (R := h.1 32 k) hN2 m 0 z t n g okS
    have s1 : hf_141 (nI k) l x (nI m) h = some ((rdo u l x N (h.1 32 k) m 0 z t n g).a, h1) := by
      unfold hf_141
      simp (disch := omega) only [nq_nf, nq_nt, nq_le_t, nq_le_f, nq_lt_t, nq_lt_f, nq_eq_t, nq_eq_f, nq_neg, nq_pos, nq_le0f, nq_le0t, nq_lt0t, nq_lt0f, nq_eq0f, nq_eq0t, nI_add, nI_clamp, nx_inb, nx_ck, Option.bind_some, nx_get, nx_get2, nx_dif, nx_or, bI_0, bI_01, bI_nt, bI_nf, if_true, if_false, ite_true, ite_false, not_true_eq_false, not_false_eq_true, and_true, true_and, and_false, false_and, Bool.false_eq_true, Bool.true_eq_false, reduceCtorEq]
      rw [sp_145, g2]
      simp (disch := omega) only [nq_nf, nq_nt, nq_le_t, nq_le_f, nq_lt_t, nq_lt_f, nq_eq_t, nq_eq_f, nq_neg, nq_pos, nq_le0f, nq_le0t, nq_lt0t, nq_lt0f, nq_eq0f, nq_eq0t, nI_add, nI_clamp, nx_inb, nx_ck, Option.bind_some, nx_get, nx_get2, nx_dif, nx_or, bI_0, bI_01, bI_nt, bI_nf, if_true, if_false, ite_true, ite_false, not_true_eq_false, not_false_eq_true, and_true, true_and, and_false, false_and, Bool.false_eq_true, Bool.true_eq_false, reduceCtorEq]
      rw [cS.1]
      exact r1
    have s2 : hf_237 (nI k) l x (nI m) h1 = some ((rdo u l x N (h.1 32 k) m 0 z t n g).a, h2) := by
      unfold hf_237
      rw [sp_234, g1, g2]
      simp (disch := omega) only [Bool.true_and, nq_nf, nq_nt, nq_le_t, nq_le_f, nq_lt_t, nq_lt_f, nq_eq_t, nq_eq_f, nq_neg, nq_pos, nq_le0f, nq_le0t, nq_lt0t, nq_lt0f, nq_eq0f, nq_eq0t, nI_add, nI_clamp, nx_inb, nx_ck, Option.bind_some, nx_get, nx_get2, nx_dif, nx_or, bI_0, bI_01, bI_nt, bI_nf, if_true, if_false, ite_true, ite_false, not_true_eq_false, not_false_eq_true, and_true, true_and, and_false, false_and, Bool.false_eq_true, Bool.true_eq_false, reduceCtorEq]
      rw [sp_150r (lo := 0) (hi := 10) rfl (lN_t (by omega)), g3]
      simp (disch := omega) only [nq_nf, nq_nt, nq_le_t, nq_le_f, nq_lt_t, nq_lt_f, nq_eq_t, nq_eq_f, nq_neg, nq_pos, nq_le0f, nq_le0t, nq_lt0t, nq_lt0f, nq_eq0f, nq_eq0t, nI_add, nI_clamp, nx_inb, nx_ck, Option.bind_some, nx_get, nx_get2, nx_dif, nx_or, bI_0, bI_01, bI_nt, bI_nf, if_true, if_false, ite_true, ite_false, not_true_eq_false, not_false_eq_true, and_true, true_and, and_false, false_and, Bool.false_eq_true, Bool.true_eq_false, reduceCtorEq]
      have e23 : h1.1 44 0 23 = nI z := by rw [o44]; exact mS1
      rw [e23]
      exact r2
    generalize rdo u l x N (h.1 32 k) m 0 z t n g = o at *
    have f : hs_fr rdK h h2 := (f1.sub (hs_sub_cons (.inl (.head _)) (hs_sub_cons (.inl (.tail _ (.head _))) (hs_sub_cons (.inl (.tail _ (.tail _ (.head _)))) (hs_sub_cons (.inl (.tail _ (.tail _ (.tail _ (.head _))))) (hs_sub_cons (.inl (.tail _ (.tail _ (.tail _ (.tail _ (.head _)))))) hs_sub_nil)))))).tr (f2.sub (hs_sub_cons (.inl (.tail _ (.tail _ (.tail _ (.tail _ (.tail _ (.head _))))))) (hs_sub_cons (.inl (.tail _ (.tail _ (.tail _ (.tail _ (.tail _ (.tail _ (.head _)))))))) hs_sub_nil)))
    have p5 : h2.1 5 0 = h1.1 5 0 := st_out_at f2 (L := [(5, 0)]) rfl (5, 0) (by simp)
    have p11 : h2.1 11 0 = h1.1 11 0 := st_out_at f2 (L := [(11, 0)]) rfl (11, 0) (by simp)
    have e44 : ∀ p, p < 23 ∨ 54 ≤ p → h2.1 44 0 p = h.1 44 0 p := fun p hp => by rw [m1 p hp, o44]
    have e12 : ∀ p, p ≠ 41 → h2.1 12 0 p = h.1 12 0 p := fun p hp => by rw [m2 p hp, o12]
    refine ⟨o.a, h1, h2, s1, s2, ?_⟩
    have ho1 := ho.1
    obtain ⟨oa, oq, oz, ot, on, og⟩ := o
    cases oq with
    | some q =>
      obtain ⟨c1, c2, c3⟩ := c1
      obtain ⟨m3, m4⟩ := m3
      refine read_all V ⟨hc, hd⟩ ⟨⟨okN, okF, okS⟩, ⟨cN, cF, cS⟩, mJ, mF, mS⟩ mN im ca rs f e44 e12 ho (st_cS_dep.fr f2 rfl c2) m4 (by rw [p5]; exact c3) (by omega) (show d + (oz - z) ≤ b + 100 by have : oz ≤ 10 := ho1; omega) ?_ (by rw [p11, c1, m3])
      have hl1 : z ≤ oz := hl.1
      by_cases hzz : oz = z
      · obtain ⟨w1, w2, w3⟩ := hs hzz
        exact Or.inr ⟨hzz, w1, w2, w3⟩
      · exact Or.inl (show d < d + (oz - z) by omega)
    | none =>
      obtain ⟨c1, c2, c3⟩ := c1
      obtain ⟨m3, m4⟩ := m3
      have hl2 : ∀ k, k < z → ot k = t k ∧ on k = n k ∧ og k = g k := hl.2
      have c2' : st_cS 0 z t n g h1 := ⟨c2.1, fun y hy => by
        have w := c2.2 y hy
        obtain ⟨w1, w2, w3⟩ := hl2 y hy
        exact ⟨w1 ▸ w.1, w2 ▸ w.2.1, w3 ▸ w.2.2⟩⟩
      have m4' : st_mS 44 0 z t n g h2 := ⟨m4.1, fun y hy => by
        have w := m4.2 y hy
        obtain ⟨w1, w2, w3⟩ := hl2 y hy
        exact ⟨w1 ▸ w.1, w2 ▸ w.2.1, w3 ▸ w.2.2⟩⟩
      refine read_all V ⟨hc, hd⟩ ⟨⟨okN, okF, okS⟩, ⟨cN, cF, cS⟩, mJ, mF, mS⟩ mN im ca rs f e44 e12 okS (st_cS_dep.fr f2 rfl c2') m4' (by rw [p5]; exact c3) ?_ ?_ (Or.inr ⟨rfl, rfl, rfl, rfl⟩) (by rw [p11, c1, m3, o12]; exact rs.2.2.2)
      · exact Nat.le_trans (Nat.le_add_right _ _) (Nat.le_add_right _ _)
      · show d + (oz - z) + (if z < oz then 1 else 0) ≤ b + 100
        have : oz ≤ 10 := ho1
        by_cases hzz : z < oz
        · rw [if_pos hzz]; omega
        · rw [if_neg hzz]; omega
end CRd
