/-! left: where a fox can be a step later. -/
theorem bI_t1 : (bI true = nI 1) = True := eq_true rfl
theorem bI_f1 : (bI false = nI 1) = False := eq_false (by decide)
def stp (J : Nat → Nat) (re i : Nat) : Nat := if mvs J re i = 0 then 2 ^ i else mvs J re i
/-- the steps from all nodes of m, of the first k -/
def stpA (J : Nat → Nat) (re m : Nat) : Nat → Nat
  | 0 => 0
  | k + 1 => if m.testBit k = true then stpA J re m k ||| stp J re k else stpA J re m k
theorem stp_lt {N : Nat} {J : Nat → Nat} {re i : Nat} (hJ : ∀ k, J k < 2 ^ N) (hre : re = 0 ∨ re = 1) (hi : i < N) : stp J re i < 2 ^ N := by
  unfold stp
  split
  · exact Nat.pow_lt_pow_right (by omega) hi
  · exact mvs_lt hJ hre hi
theorem stpA_lt {N : Nat} {J : Nat → Nat} {re m : Nat} (hJ : ∀ k, J k < 2 ^ N) (hre : re = 0 ∨ re = 1) : ∀ k, k ≤ N → stpA J re m k < 2 ^ N := by
  intro k
  induction k with
  | zero => intro _; exact Nat.two_pow_pos N
  | succ k ih =>
    intro hk
    unfold stpA
    split
    · exact or_lt (ih (by omega)) (stp_lt hJ hre (by omega))
    · exact ih (by omega)
theorem sp_40 {o N re : Nat} {J : Nat → Nat} {i : Nat} {h : hs_H} (hN : h.1 4 o 1 = nI N) (hre : h.1 4 o 2 = nI re) (hr : re = 0 ∨ re = 1) (hJ : ∀ k, k < 10 → h.1 27 o k = nI (J k)) (hJb : ∀ k, J k < 2 ^ N) (hi : i < N) (hh : N ≤ 10) : hf_40 o (nI i) h = some (nI (stp J re i), h) := by
  unfold hf_40 hb_40_18 hb_40_25
  have e := sp_38 hN hre hJ hi hh
  have hm := mvs_lt (re := re) hJb hr hi
  have hp := p2_lt hh
  unfold mvs at hm
  rw [e, Option.bind_some]
  unfold stp mvs
  by_cases h0 : J i ||| re * 2 ^ i = 0
  · rw [if_pos h0, h0]
    simp (disch := omega) only [sp_29 hN, nd_nI hi, nx_shl1, nq_nf, nq_nt, nq_le_t, nq_le_f, nq_lt_t, nq_lt_f, nq_eq_t, nq_eq_f, nq_neg, nq_pos, nq_le0f, nq_le0t, nq_lt0t, nq_lt0f, nq_eq0f, nq_eq0t, nI_add, nI_clamp, nx_inb, nx_ck, Option.bind_some, nx_get, nx_get2, nx_dif, nx_or, bI_0, bI_01, bI_nt, bI_nf, if_true, if_false, ite_true, ite_false, not_true_eq_false, not_false_eq_true, and_true, true_and, and_false, false_and, Bool.false_eq_true, Bool.true_eq_false, reduceCtorEq]
  · rw [if_neg h0]
    simp (disch := omega) only [nq_nf, nq_nt, nq_le_t, nq_le_f, nq_lt_t, nq_lt_f, nq_eq_t, nq_eq_f, nq_neg, nq_pos, nq_le0f, nq_le0t, nq_lt0t, nq_lt0f, nq_eq0f, nq_eq0t, nI_add, nI_clamp, nx_inb, nx_ck, Option.bind_some, nx_get, nx_get2, nx_dif, nx_or, bI_0, bI_01, bI_nt, bI_nf, if_true, if_false, ite_true, ite_false, not_true_eq_false, not_false_eq_true, and_true, true_and, and_false, false_and, Bool.false_eq_true, Bool.true_eq_false, reduceCtorEq]
theorem sp_41 {o N re : Nat} {J : Nat → Nat} {m : Nat} {h : hs_H} (hN : h.1 4 o 1 = nI N) (hre : h.1 4 o 2 = nI re) (hr : re = 0 ∨ re = 1) (hJ : ∀ k, k < 10 → h.1 27 o k = nI (J k)) (hJb : ∀ k, J k < 2 ^ N) (hm : m < 2147483648) (hh : N ≤ 10) : hf_41 o (nI m) h = some (nI (stpA J re m N), h) := by
  unfold hf_41
  exact lp_for (f := fun k s => hb_41_4 o k s.1 s.2.1 s.2.2.1 s.2.2.2) (st := fun j => (nI m, nI (stpA J re m j), nI j, h)) (e := N) (X := some (nI (stpA J re m N), h)) (fun j hj k => by
    show hb_41_4 o k (nI m) (nI (stpA J re m j)) (nI j) h = k (nI m, nI (stpA J re m (j + 1)), nI (j + 1), h)
    unfold hb_41_4 hb_41_30
    conv => rhs; unfold stpA
    have e40 := sp_40 hN hre hr hJ hJb hj hh
    cases ht : m.testBit j with
    | false =>
      simp (disch := omega) only [hN, sp_147 hm, ht, nq_nf, nq_nt, nq_le_t, nq_le_f, nq_lt_t, nq_lt_f, nq_eq_t, nq_eq_f, nq_neg, nq_pos, nq_le0f, nq_le0t, nq_lt0t, nq_lt0f, nq_eq0f, nq_eq0t, nI_add, nI_clamp, nx_inb, nx_ck, Option.bind_some, nx_get, nx_get2, nx_dif, nx_or, bI_0, bI_01, bI_nt, bI_nf, if_true, if_false, ite_true, ite_false, not_true_eq_false, not_false_eq_true, and_true, true_and, and_false, false_and, Bool.false_eq_true, Bool.true_eq_false, reduceCtorEq]
      rw [Nat.or_zero]
    | true => simp (disch := omega) only [hN, sp_147 hm, ht, e40, nq_nf, nq_nt, nq_le_t, nq_le_f, nq_lt_t, nq_lt_f, nq_eq_t, nq_eq_f, nq_neg, nq_pos, nq_le0f, nq_le0t, nq_lt0t, nq_lt0f, nq_eq0f, nq_eq0t, nI_add, nI_clamp, nx_inb, nx_ck, Option.bind_some, nx_get, nx_get2, nx_dif, nx_or, bI_0, bI_01, bI_nt, bI_nf, if_true, if_false, ite_true, ite_false, not_true_eq_false, not_false_eq_true, and_true, true_and, and_false, false_and, Bool.false_eq_true, Bool.true_eq_false, reduceCtorEq]) (fun k => by
    show hb_41_4 o k (nI m) (nI (stpA J re m N)) (nI N) h = _
    unfold hb_41_4
    simp (disch := omega) only [hN, nq_nf, nq_nt, nq_le_t, nq_le_f, nq_lt_t, nq_lt_f, nq_eq_t, nq_eq_f, nq_neg, nq_pos, nq_le0f, nq_le0t, nq_lt0t, nq_lt0f, nq_eq0f, nq_eq0t, nI_add, nI_clamp, nx_inb, nx_ck, Option.bind_some, nx_get, nx_get2, nx_dif, nx_or, bI_0, bI_01, bI_nt, bI_nf, if_true, if_false, ite_true, ite_false, not_true_eq_false, not_false_eq_true, and_true, true_and, and_false, false_and, Bool.false_eq_true, Bool.true_eq_false, reduceCtorEq]) 0 hs_big (by omega) (lp_big (by omega))
theorem sp_207 {N re : Nat} {J : Nat → Nat} {h : hs_H} (hN : h.1 12 0 2 = nI N) (hre : h.1 12 0 3 = nI re) (hr : re = 0 ∨ re = 1) (hJ : ∀ k, k < 10 → h.1 44 0 k = nI (J k)) (hJb : ∀ k, J k < 2 ^ N) (hh : N ≤ 10) : hf_207 h = some (hs_row h 57 0 (2 ^ N) (fun m => nI (stpA J re m N))) := by
  have hp := p2_lt hh
  unfold hf_207
  have hl := lp_for (f := fun k s => hb_207_2 k s.1 s.2) (st := fun m => (nI m, hs_row h 57 0 m (fun m => nI (stpA J re m N)))) (e := 2 ^ N) (X := some (hs_row h 57 0 (2 ^ N) (fun m => nI (stpA J re m N)))) (fun m hm k => by
    show hb_207_2 k (nI m) (hs_row h 57 0 m (fun m => nI (stpA J re m N))) = _
    unfold hb_207_2
    have e1 : (hs_row h 57 0 m (fun m => nI (stpA J re m N))).1 12 0 2 = nI N := by rw [nx_rowget, if_neg (by omega)]; exact hN
    have e2 : (hs_row h 57 0 m (fun m => nI (stpA J re m N))).1 12 0 3 = nI re := by rw [nx_rowget, if_neg (by omega)]; exact hre
    have e3 : ∀ k, k < 10 → (hs_row h 57 0 m (fun m => nI (stpA J re m N))).1 44 0 k = nI (J k) := fun k hk => by rw [nx_rowget, if_neg (by omega)]; exact hJ k hk
    have hs := hs_rowS h 57 0 m (fun m => nI (stpA J re m N))
    generalize hs_row h 57 0 m (fun m => nI (stpA J re m N)) = H at e1 e2 e3 hs
    rw [e1, nx_shl1 (by omega), if_neg (nI_ge hm (by omega)), ← hs]
    exact lp_for (f := fun q s => hb_207_16 k q s.1 s.2.1 s.2.2.1 s.2.2.2) (st := fun j => (nI m, nI (stpA J re m j), nI j, H)) (e := N) (X := k (nI (m + 1), hs_put H 57 0 m (nI (stpA J re m N)))) (fun j hj q => by
      show hb_207_16 k q (nI m) (nI (stpA J re m j)) (nI j) H = q (nI m, nI (stpA J re m (j + 1)), nI (j + 1), H)
      unfold hb_207_16 hb_207_62 hb_207_64
      conv => rhs; unfold stpA stp mvs
      have hmb : m < 2147483648 := by omega
      have hv := mvs_lt (re := re) hJb hr hj
      unfold mvs at hv
      cases ht : m.testBit j with
      | false =>
        have e4 := nx_bit hmb (show j < 32 by omega)
        rw [ht] at e4
        simp (disch := omega) only [e1, e4, bI_f1, nq_nf, nq_nt, nq_le_t, nq_le_f, nq_lt_t, nq_lt_f, nq_eq_t, nq_eq_f, nq_neg, nq_pos, nq_le0f, nq_le0t, nq_lt0t, nq_lt0f, nq_eq0f, nq_eq0t, nI_add, nI_clamp, nx_inb, nx_ck, Option.bind_some, nx_get, nx_get2, nx_dif, nx_or, bI_0, bI_01, bI_nt, bI_nf, if_true, if_false, ite_true, ite_false, not_true_eq_false, not_false_eq_true, and_true, true_and, and_false, false_and, Bool.false_eq_true, Bool.true_eq_false, reduceCtorEq]
      | true =>
        have e4 := nx_bit hmb (show j < 32 by omega)
        rw [ht] at e4
        by_cases h0 : J j ||| re * 2 ^ j = 0
        · simp (disch := omega) only [e1, e2, e3, e4, nx_shl, h0, bI_t1, Nat.one_mul, nq_nf, nq_nt, nq_le_t, nq_le_f, nq_lt_t, nq_lt_f, nq_eq_t, nq_eq_f, nq_neg, nq_pos, nq_le0f, nq_le0t, nq_lt0t, nq_lt0f, nq_eq0f, nq_eq0t, nI_add, nI_clamp, nx_inb, nx_ck, Option.bind_some, nx_get, nx_get2, nx_dif, nx_or, bI_0, bI_01, bI_nt, bI_nf, if_true, if_false, ite_true, ite_false, not_true_eq_false, not_false_eq_true, and_true, true_and, and_false, false_and, Bool.false_eq_true, Bool.true_eq_false, reduceCtorEq]
        · simp (disch := omega) only [e1, e2, e3, e4, nx_shl, h0, bI_t1, nq_nf, nq_nt, nq_le_t, nq_le_f, nq_lt_t, nq_lt_f, nq_eq_t, nq_eq_f, nq_neg, nq_pos, nq_le0f, nq_le0t, nq_lt0t, nq_lt0f, nq_eq0f, nq_eq0t, nI_add, nI_clamp, nx_inb, nx_ck, Option.bind_some, nx_get, nx_get2, nx_dif, nx_or, bI_0, bI_01, bI_nt, bI_nf, if_true, if_false, ite_true, ite_false, not_true_eq_false, not_false_eq_true, and_true, true_and, and_false, false_and, Bool.false_eq_true, Bool.true_eq_false, reduceCtorEq]) (fun q => by
      show hb_207_16 k q (nI m) (nI (stpA J re m N)) (nI N) H = _
      unfold hb_207_16
      simp (disch := omega) only [e1, nq_nf, nq_nt, nq_le_t, nq_le_f, nq_lt_t, nq_lt_f, nq_eq_t, nq_eq_f, nq_neg, nq_pos, nq_le0f, nq_le0t, nq_lt0t, nq_lt0f, nq_eq0f, nq_eq0t, nI_add, nI_clamp, nx_inb, nx_ck, Option.bind_some, nx_get, nx_get2, nx_dif, nx_or, bI_0, bI_01, bI_nt, bI_nf, if_true, if_false, ite_true, ite_false, not_true_eq_false, not_false_eq_true, and_true, true_and, and_false, false_and, Bool.false_eq_true, Bool.true_eq_false, reduceCtorEq]) 0 hs_big (by omega) (lp_big (by omega))) (fun k => by
    show hb_207_2 k (nI (2 ^ N)) (hs_row h 57 0 (2 ^ N) (fun m => nI (stpA J re m N))) = _
    unfold hb_207_2
    have e1 : (hs_row h 57 0 (2 ^ N) (fun m => nI (stpA J re m N))).1 12 0 2 = nI N := by rw [nx_rowget, if_neg (by omega)]; exact hN
    rw [e1, nx_shl1 (by omega), if_pos (Int32.le_refl _)]) 0 hs_big (Nat.zero_le _) (lp_big (by omega))
  rw [hs_row0] at hl
  exact hl
section CL
variable {VC : Nat → (Nat → Nat) → Nat → Int32 → Int32 → hs_H → Prop} {VH : Nat → (Nat → Nat) → Nat → hs_H → Prop} {VW : st_VW}
/-- nothing that the invariant speaks of is written -/
def st_Lall : List (Nat × Nat) := st_L1 ++ st_L2 ++ st_L3 ++ st_L5
theorem st_outb_app {K : List (Nat × Option Nat)} {L M : List (Nat × Nat)} : st_outb K (L ++ M) = (st_outb K L && st_outb K M) := by
  unfold st_outb
  rw [List.all_append]
theorem st_all_fr (V : st_V VC VH VW) {K : List (Nat × Option Nat)} {b : Nat} {h h' : hs_H} (f : hs_fr K h h') (o : st_outb K st_Lall = true) (p : st_all VC VH VW b h) : st_all VC VH VW b h' := by
  unfold st_Lall at o
  rw [st_outb_app, st_outb_app, st_outb_app, Bool.and_eq_true, Bool.and_eq_true, Bool.and_eq_true] at o
  obtain ⟨⟨⟨o1, o2⟩, o3⟩, o5⟩ := o
  obtain ⟨N, re, W, Ho, J, st, pl, mv, s, z, t, n, g, c, d, hcd, co, mN, im, ca, rs⟩ := p
  have o12 : st_outb K [(12, 0)] = true := by
    refine List.all_eq_true.mpr (fun q hq => ?_)
    obtain rfl := List.mem_singleton.mp hq
    exact List.all_eq_true.mp o5 (12, 0) (by unfold st_L5 st_L4; simp)
  exact ⟨N, re, W, Ho, J, st, pl, mv, s, z, t, n, g, c, d, hcd, st_core_dep.fr f o1 co, st_mN_dep.fr f o12 mN, st_imgs_dep.fr f o2 im, (st_cache_dep V).fr f o3 ca, st_rest_dep.fr f o5 rs⟩
theorem cl_left (V : st_V VC VH VW) {a e : Int32} : st_call VC VH VW (hf_130 a e) (hf_212 a e) := by
  intro b h hb p
  have p0 := p
  obtain ⟨N, re, W, Ho, J, st, pl, mv, s, z, t, n, g, c, d, ⟨hc, hd⟩, ⟨⟨okN, okF, okS⟩, ⟨cN, cF, cS⟩, mJ, mF, mS⟩, mN, im, ca, rs⟩ := p
  obtain ⟨⟨hN1, hN2⟩, hre, hst, ⟨hW, hHo⟩, hJ, hJ0, hJs, hJa⟩ := id okN
  obtain ⟨cN1, cN2, cN3, cN4, cN5, cJ⟩ := id cN
  obtain ⟨mN1, mN2, mN3, mN4⟩ := id mN
  obtain ⟨mJ1, mJ2⟩ := st_mJ0 mJ
  obtain ⟨mF1, mF2, mF3⟩ := st_mF0 mF
  obtain ⟨mS1, mS2⟩ := st_mS0 mS
  obtain ⟨cF1, cF2, cF3⟩ := id cF
  obtain ⟨cS1, cS2⟩ := id cS
  have hp := p2_lt hN2
  by_cases hok : nm N a = true ∧ nm N e = true
  · obtain ⟨i, hi, rfl⟩ := (nm_of (by omega)).mp hok.1
    obtain ⟨j, hj, rfl⟩ := (nm_of (by omega)).mp hok.2
    have hdl := dif_le i j
    refine ⟨nI (stpA J re (dif i j) N), h, hs_row h 57 0 (2 ^ N) (fun m => nI (stpA J re m N)), ?_, ?_, ?_⟩
    · unfold hf_130 hb_130_38
      rw [sp_30 cN1 (by omega), hok.1]
      simp (disch := omega) only [nq_nf, nq_nt, nq_le_t, nq_le_f, nq_lt_t, nq_lt_f, nq_eq_t, nq_eq_f, nq_neg, nq_pos, nq_le0f, nq_le0t, nq_lt0t, nq_lt0f, nq_eq0f, nq_eq0t, nI_add, nI_clamp, nx_inb, nx_ck, Option.bind_some, nx_get, nx_get2, nx_dif, nx_or, bI_0, bI_01, bI_nt, bI_nf, if_true, if_false, ite_true, ite_false, not_true_eq_false, not_false_eq_true, and_true, true_and, and_false, false_and, Bool.false_eq_true, Bool.true_eq_false, reduceCtorEq]
      rw [sp_30 cN1 (by omega), hok.2]
      simp (disch := omega) only [nq_nf, nq_nt, nq_le_t, nq_le_f, nq_lt_t, nq_lt_f, nq_eq_t, nq_eq_f, nq_neg, nq_pos, nq_le0f, nq_le0t, nq_lt0t, nq_lt0f, nq_eq0f, nq_eq0t, nI_add, nI_clamp, nx_inb, nx_ck, Option.bind_some, nx_get, nx_get2, nx_dif, nx_or, bI_0, bI_01, bI_nt, bI_nf, if_true, if_false, ite_true, ite_false, not_true_eq_false, not_false_eq_true, and_true, true_and, and_false, false_and, Bool.false_eq_true, Bool.true_eq_false, reduceCtorEq]
      rw [sp_41 cN1 cN2 hre cJ hJ (by omega) hN2, Option.bind_some]
    · unfold hf_212
      rw [sp_204 mN1 (by omega), hok.1]
      simp (disch := omega) only [nq_nf, nq_nt, nq_le_t, nq_le_f, nq_lt_t, nq_lt_f, nq_eq_t, nq_eq_f, nq_neg, nq_pos, nq_le0f, nq_le0t, nq_lt0t, nq_lt0f, nq_eq0f, nq_eq0t, nI_add, nI_clamp, nx_inb, nx_ck, Option.bind_some, nx_get, nx_get2, nx_dif, nx_or, bI_0, bI_01, bI_nt, bI_nf, if_true, if_false, ite_true, ite_false, not_true_eq_false, not_false_eq_true, and_true, true_and, and_false, false_and, Bool.false_eq_true, Bool.true_eq_false, reduceCtorEq]
      rw [sp_204 mN1 (by omega), hok.2]
      simp (disch := omega) only [nq_nf, nq_nt, nq_le_t, nq_le_f, nq_lt_t, nq_lt_f, nq_eq_t, nq_eq_f, nq_neg, nq_pos, nq_le0f, nq_le0t, nq_lt0t, nq_lt0f, nq_eq0f, nq_eq0t, nI_add, nI_clamp, nx_inb, nx_ck, Option.bind_some, nx_get, nx_get2, nx_dif, nx_or, bI_0, bI_01, bI_nt, bI_nf, if_true, if_false, ite_true, ite_false, not_true_eq_false, not_false_eq_true, and_true, true_and, and_false, false_and, Bool.false_eq_true, Bool.true_eq_false, reduceCtorEq]
      rw [sp_207 mN1 mN2 hre mJ1 hJ hN2]
      simp (disch := omega) only [nq_nf, nq_nt, nq_le_t, nq_le_f, nq_lt_t, nq_lt_f, nq_eq_t, nq_eq_f, nq_neg, nq_pos, nq_le0f, nq_le0t, nq_lt0t, nq_lt0f, nq_eq0f, nq_eq0t, nI_add, nI_clamp, nx_inb, nx_ck, Option.bind_some, nx_get, nx_get2, nx_dif, nx_or, bI_0, bI_01, bI_nt, bI_nf, if_true, if_false, ite_true, ite_false, not_true_eq_false, not_false_eq_true, and_true, true_and, and_false, false_and, Bool.false_eq_true, Bool.true_eq_false, reduceCtorEq]
      rw [nx_rowget, if_pos ⟨rfl, rfl, by omega⟩]
    · exact (st_all_fr V (K := [(57, some 0)]) (hs_row_fr (.inl (.head _))) rfl p0).up VC VH VW (by omega)
  · refine ⟨nI 4294967295, h, h, ?_, ?_, p0.up VC VH VW (by omega)⟩
    · unfold hf_130 hb_130_37 hb_130_38
      rw [sp_30 cN1 (by omega)]
      cases h1 : nm N a with
      | false => simp (disch := omega) only [nq_nf, nq_nt, nq_le_t, nq_le_f, nq_lt_t, nq_lt_f, nq_eq_t, nq_eq_f, nq_neg, nq_pos, nq_le0f, nq_le0t, nq_lt0t, nq_lt0f, nq_eq0f, nq_eq0t, nI_add, nI_clamp, nx_inb, nx_ck, Option.bind_some, nx_get, nx_get2, nx_dif, nx_or, bI_0, bI_01, bI_nt, bI_nf, if_true, if_false, ite_true, ite_false, not_true_eq_false, not_false_eq_true, and_true, true_and, and_false, false_and, Bool.false_eq_true, Bool.true_eq_false, reduceCtorEq]
      | true =>
        simp (disch := omega) only [nq_nf, nq_nt, nq_le_t, nq_le_f, nq_lt_t, nq_lt_f, nq_eq_t, nq_eq_f, nq_neg, nq_pos, nq_le0f, nq_le0t, nq_lt0t, nq_lt0f, nq_eq0f, nq_eq0t, nI_add, nI_clamp, nx_inb, nx_ck, Option.bind_some, nx_get, nx_get2, nx_dif, nx_or, bI_0, bI_01, bI_nt, bI_nf, if_true, if_false, ite_true, ite_false, not_true_eq_false, not_false_eq_true, and_true, true_and, and_false, false_and, Bool.false_eq_true, Bool.true_eq_false, reduceCtorEq]
        rw [sp_30 cN1 (by omega)]
        cases h2 : nm N e with
        | false => simp (disch := omega) only [nq_nf, nq_nt, nq_le_t, nq_le_f, nq_lt_t, nq_lt_f, nq_eq_t, nq_eq_f, nq_neg, nq_pos, nq_le0f, nq_le0t, nq_lt0t, nq_lt0f, nq_eq0f, nq_eq0t, nI_add, nI_clamp, nx_inb, nx_ck, Option.bind_some, nx_get, nx_get2, nx_dif, nx_or, bI_0, bI_01, bI_nt, bI_nf, if_true, if_false, ite_true, ite_false, not_true_eq_false, not_false_eq_true, and_true, true_and, and_false, false_and, Bool.false_eq_true, Bool.true_eq_false, reduceCtorEq]
        | true => exact (hok ⟨h1, h2⟩).elim
    · unfold hf_212 hb_212_16
      rw [sp_204 mN1 (by omega)]
      cases h1 : nm N a with
      | false => simp (disch := omega) only [nq_nf, nq_nt, nq_le_t, nq_le_f, nq_lt_t, nq_lt_f, nq_eq_t, nq_eq_f, nq_neg, nq_pos, nq_le0f, nq_le0t, nq_lt0t, nq_lt0f, nq_eq0f, nq_eq0t, nI_add, nI_clamp, nx_inb, nx_ck, Option.bind_some, nx_get, nx_get2, nx_dif, nx_or, bI_0, bI_01, bI_nt, bI_nf, if_true, if_false, ite_true, ite_false, not_true_eq_false, not_false_eq_true, and_true, true_and, and_false, false_and, Bool.false_eq_true, Bool.true_eq_false, reduceCtorEq]
      | true =>
        simp (disch := omega) only [nq_nf, nq_nt, nq_le_t, nq_le_f, nq_lt_t, nq_lt_f, nq_eq_t, nq_eq_f, nq_neg, nq_pos, nq_le0f, nq_le0t, nq_lt0t, nq_lt0f, nq_eq0f, nq_eq0t, nI_add, nI_clamp, nx_inb, nx_ck, Option.bind_some, nx_get, nx_get2, nx_dif, nx_or, bI_0, bI_01, bI_nt, bI_nf, if_true, if_false, ite_true, ite_false, not_true_eq_false, not_false_eq_true, and_true, true_and, and_false, false_and, Bool.false_eq_true, Bool.true_eq_false, reduceCtorEq]
        rw [sp_204 mN1 (by omega)]
        cases h2 : nm N e with
        | false => simp (disch := omega) only [nq_nf, nq_nt, nq_le_t, nq_le_f, nq_lt_t, nq_lt_f, nq_eq_t, nq_eq_f, nq_neg, nq_pos, nq_le0f, nq_le0t, nq_lt0t, nq_lt0f, nq_eq0f, nq_eq0t, nI_add, nI_clamp, nx_inb, nx_ck, Option.bind_some, nx_get, nx_get2, nx_dif, nx_or, bI_0, bI_01, bI_nt, bI_nf, if_true, if_false, ite_true, ite_false, not_true_eq_false, not_false_eq_true, and_true, true_and, and_false, false_and, Bool.false_eq_true, Bool.true_eq_false, reduceCtorEq]
        | true => exact (hok ⟨h1, h2⟩).elim
end CL
