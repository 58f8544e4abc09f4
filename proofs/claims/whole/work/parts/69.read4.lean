/-! read. -/
theorem sp_187f {N z : Nat} {a b e : Int32} {h : hs_H} (hN : h.1 12 0 2 = nI N) (hN1 : 1 ≤ N) (hN2 : N ≤ 10) (hz : h.1 44 0 23 = nI z) (hzb : z ≤ 10) (hf : ¬ (sm_ok N a b e = true ∧ z < 10)) : ∃ r, r < 0 ∧ hf_187 a b e h = some (r, h) := by
  cases hok : sm_ok N a b e with
  | false => exact ⟨nI 4294967295, by decide, sp_187b hN hN1 hN2 hok⟩
  | true =>
    obtain ⟨e1, h1, e2, h2, e3, h3⟩ := sm_ok_of hN2 hok
    have s := sp_187 hN hN1 hN2 hz hzb h1 h2 h3
    rw [if_neg (fun q => hf ⟨hok, q⟩), ← e1, ← e2, ← e3] at s
    exact ⟨nI 4294967293, by decide, s⟩
/-- what holds of the model after the loop -/
def rd_M (z0 : Nat) (o : RdO) (h h' : hs_H) : Prop := (∀ p, p < 23 ∨ 54 ≤ p → h'.1 44 0 p = h.1 44 0 p) ∧ (∀ p, p ≠ 41 → h'.1 12 0 p = h.1 12 0 p) ∧ match o.q with
  | some q => h'.1 12 0 41 = nI q ∧ st_mS 44 0 o.z o.t o.n o.g h'
  | none => h'.1 12 0 41 = h.1 12 0 41 ∧ st_mS 44 0 z0 o.t o.n o.g h'
abbrev rdL2 : RdK → RdK := fun k s => hb_237_41 k s.1 s.2.1 s.2.2.1 s.2.2.2.1 s.2.2.2.2.1 s.2.2.2.2.2.1 s.2.2.2.2.2.2.1 s.2.2.2.2.2.2.2.1 s.2.2.2.2.2.2.2.2
theorem rd_lp2 {fu : Nat} {x1 l x x4 x5 x6 x7 x8 : Int32} {h : hs_H} : hs_lp rdL2 (fu + 1) (x1, l, x, x4, x5, x6, x7, x8, h) = hb_237_41 (hs_lp rdL2 fu) x1 l x x4 x5 x6 x7 x8 h := rfl
theorem rd_41e {k41 : RdK} {x1 l x x4 x5 x6 x7 x8 : Int32} {h : hs_H} (hs : x4 ≤ x8 ∨ ¬ x6 = 0) : hb_237_41 k41 x1 l x x4 x5 x6 x7 x8 h = some (x7, hs_put h 12 0 41 x6) := by
  unfold hb_237_41 hb_237_217
  by_cases h1 : x4 ≤ x8
  · rw [if_pos h1]
  · rw [if_neg h1, if_pos (hs.resolve_left h1)]
theorem rd_41 {k41 : RdK} {k i m : Nat} {u : Option (Nat × Nat)} {l x x5 x7 : Int32} {h : hs_H} (hk : k < 4) (hu : st_u k u h) (hi : i < m) (hm : m ≤ 10) : hb_237_41 k41 (nI k) l x (nI m) x5 (nI 0) x7 (nI i) h = hb_237_143 k41 (nI k) l x (nI m) x5 (nI (kd3 u l x i)) x7 (nI i) h := by
  unfold hb_237_41
  rw [if_neg (nI_ge hi (by omega)), if_neg (fun q => q rfl)]
  exact rd_in hk hu (by omega) hs_big (Nat.le_of_lt (lp_big (by omega)))
theorem rd_M_41 {z : Nat} {t n g : Nat → Nat} {q : Nat} {a : Int32} {h : hs_H} (z0 : Nat) (mS : st_mS 44 0 z t n g h) : rd_M z0 ((a, some q, z, t, n, g) : RdO) h (hs_put h 12 0 41 (nI q)) := by
  refine ⟨fun p _ => by simp (disch := omega) only [nq_nf, nq_nt, nq_le_t, nq_le_f, nq_lt_t, nq_lt_f, nq_eq_t, nq_eq_f, nq_neg, nq_pos, nq_le0f, nq_le0t, nq_lt0t, nq_lt0f, nq_eq0f, nq_eq0t, nI_add, nI_clamp, nx_inb, nx_ck, Option.bind_some, nx_get, nx_get2, nx_dif, nx_or, bI_0, bI_01, bI_nt, bI_nf, if_true, if_false, ite_true, ite_false, not_true_eq_false, not_false_eq_true, and_true, true_and, and_false, false_and, Bool.false_eq_true, Bool.true_eq_false, reduceCtorEq], fun p hp => by simp (disch := omega) only [nq_nf, nq_nt, nq_le_t, nq_le_f, nq_lt_t, nq_lt_f, nq_eq_t, nq_eq_f, nq_neg, nq_pos, nq_le0f, nq_le0t, nq_lt0t, nq_lt0f, nq_eq0f, nq_eq0t, nI_add, nI_clamp, nx_inb, nx_ck, Option.bind_some, nx_get, nx_get2, nx_dif, nx_or, bI_0, bI_01, bI_nt, bI_nf, if_true, if_false, ite_true, ite_false, not_true_eq_false, not_false_eq_true, and_true, true_and, and_false, false_and, Bool.false_eq_true, Bool.true_eq_false, reduceCtorEq], by simp (disch := omega) only [nq_nf, nq_nt, nq_le_t, nq_le_f, nq_lt_t, nq_lt_f, nq_eq_t, nq_eq_f, nq_neg, nq_pos, nq_le0f, nq_le0t, nq_lt0t, nq_lt0f, nq_eq0f, nq_eq0t, nI_add, nI_clamp, nx_inb, nx_ck, Option.bind_some, nx_get, nx_get2, nx_dif, nx_or, bI_0, bI_01, bI_nt, bI_nf, if_true, if_false, ite_true, ite_false, not_true_eq_false, not_false_eq_true, and_true, true_and, and_false, false_and, Bool.false_eq_true, Bool.true_eq_false, reduceCtorEq], ?_⟩
  exact st_mS_dep.fr (hs_fr.rf.put (c := 12) (i := 0) (k := 41) (x := nI q) (.inl (.head []))) rfl mS
theorem rd_m {k m z0 N : Nat} {u : Option (Nat × Nat)} {l x : Int32} {R : Nat → Int32} (hm : m ≤ 10) (hN1 : 1 ≤ N) (hN2 : N ≤ 10) (hk : k < 4) (hz0 : z0 ≤ 10) : ∀ d i z t n g h fu, i + d = m → z0 ≤ z → z ≤ 10 → d + 1 < fu → st_u k u h → h.1 32 k = R → h.1 12 0 2 = nI N → st_mS 44 0 z t n g h →
    ∃ h', hs_lp rdL2 fu (nI k, l, x, nI m, nI z0, nI 0, nI i, nI i, h) = some ((rdo u l x N R d i z t n g).a, h') ∧ hs_fr [(44, some 0), (12, some 0)] h h' ∧ rd_M z0 (rdo u l x N R d i z t n g) h h' := by
  intro d
  induction d with
  | zero =>
    intro i z t n g h fu hi hzz hz hfu hu hR hN mS
    match fu, hfu with
    | fu + 1, _ =>
      have him : i = m := by omega
      subst him
      refine ⟨hs_put h 12 0 41 (nI 0), ?_, hs_fr.rf.put (.inl (.tail _ (.head _))), rd_M_41 z0 mS⟩
      rw [rd_lp2, rd_41e (.inl (nI_le (Nat.le_refl _) (by omega)))]
      rfl
  | succ d ih =>
    intro i z t n g h fu hi hzz hz hfu hu hR hN mS
    match fu, hfu with
    | fu + 2, hfu =>
      have hlt := kd3_lt u l x i
      rw [rd_lp2, rd_41 hk hu (show i < m by omega) hm]
      unfold rdo
      by_cases h1 : kd3 u l x i = 0
      · obtain ⟨p, hp, ep, ep2, ec⟩ := kd3_0 hu (by omega) h1
        have ev : ∀ j, j < 3 → h.1 63 0 (40 * k + p + j) = rdV R x i j := fun j hj => by
          rw [← ec j hj, hR]
          unfold rdV
          rw [ep2]
          rfl
        have ei : nI 40 * nI k + x + nI 3 * nI i = nI (40 * k + p) := by rw [pk_mul, pk_mul, Int32.add_assoc, ep, nI_add]
        rw [if_pos h1, h1]
        generalize hL : hs_lp rdL2 (fu + 1) = L
        unfold hb_237_143
        rw [if_neg (fun q => q rfl), ei, nI_add, nI_add, nx_inb (by omega) (by omega), nx_ck, nx_inb (by omega) (by omega), nx_ck, nx_inb (by omega) (by omega), nx_ck, nI_clamp (by omega), nI_clamp (by omega), nI_clamp (by omega), ev 1 (by omega), ev 2 (by omega), show h.1 63 0 (40 * k + p) = rdV R x i 0 from ev 0 (by omega)]
        by_cases h2 : sm_ok N (rdV R x i 0) (rdV R x i 1) (rdV R x i 2) = true ∧ z < 10
        · rw [if_pos h2]
          obtain ⟨e1, q1, e2, q2, e3, q3⟩ := sm_ok_of hN2 h2.1
          have s := sp_187 hN hN1 hN2 mS.1 hz q1 q2 q3
          rw [if_pos h2.2, ← e1, ← e2, ← e3] at s
          rw [s, Option.bind_some, if_pos (nI_pos' (by omega))]
          unfold hb_237_211
          rw [nI_add]
          have aS := add_m_S (a := rdN R x i 0) (b := rdN R x i 1) (e := rdN R x i 2) mS
          have e1' : nI (rdN R x i 0) = rdV R x i 0 := e1.symm
          have e2' : nI (rdN R x i 1) = rdV R x i 1 := e2.symm
          have e3' : nI (rdN R x i 2) = rdV R x i 2 := e3.symm
          rw [e1', e2', e3'] at aS
          have af := add_m_fr (h := h) (z := z) (a := rdV R x i 0) (b := rdV R x i 1) (e := rdV R x i 2)
          have a44 := fun p hp => add_m_at (h := h) (a := rdV R x i 0) (b := rdV R x i 1) (e := rdV R x i 2) p hp h2.2
          have a12 : (add_m h z (rdV R x i 0) (rdV R x i 1) (rdV R x i 2)).1 12 0 = h.1 12 0 := by funext y; unfold add_m; simp (disch := omega) only [nq_nf, nq_nt, nq_le_t, nq_le_f, nq_lt_t, nq_lt_f, nq_eq_t, nq_eq_f, nq_neg, nq_pos, nq_le0f, nq_le0t, nq_lt0t, nq_lt0f, nq_eq0f, nq_eq0t, nI_add, nI_clamp, nx_inb, nx_ck, Option.bind_some, nx_get, nx_get2, nx_dif, nx_or, bI_0, bI_01, bI_nt, bI_nf, if_true, if_false, ite_true, ite_false, not_true_eq_false, not_false_eq_true, and_true, true_and, and_false, false_and, Bool.false_eq_true, Bool.true_eq_false, reduceCtorEq]
          have a32 : (add_m h z (rdV R x i 0) (rdV R x i 1) (rdV R x i 2)).1 32 k = R := by rw [← hR]; funext y; unfold add_m; simp (disch := omega) only [nq_nf, nq_nt, nq_le_t, nq_le_f, nq_lt_t, nq_lt_f, nq_eq_t, nq_eq_f, nq_neg, nq_pos, nq_le0f, nq_le0t, nq_lt0t, nq_lt0f, nq_eq0f, nq_eq0t, nI_add, nI_clamp, nx_inb, nx_ck, Option.bind_some, nx_get, nx_get2, nx_dif, nx_or, bI_0, bI_01, bI_nt, bI_nf, if_true, if_false, ite_true, ite_false, not_true_eq_false, not_false_eq_true, and_true, true_and, and_false, false_and, Bool.false_eq_true, Bool.true_eq_false, reduceCtorEq]
          have aU : st_u k u (add_m h z (rdV R x i 0) (rdV R x i 1) (rdV R x i 2)) := st_u_dep.fr (af.sub (K := [(44, none)]) (hs_sub_cons (.inr (.head _)) hs_sub_nil)) rfl hu
          generalize add_m h z (rdV R x i 0) (rdV R x i 1) (rdV R x i 2) = A at *
          obtain ⟨h', r1, r2, r3, r4, r5⟩ := ih (i + 1) (z + 1) _ _ _ A (fu + 1) (by omega) (by omega) (by omega) (by omega) aU a32 (by rw [a12]; exact hN) aS
          rw [hL] at r1
          refine ⟨h', r1, (af.sub (hs_sub_cons (.inl (.head _)) hs_sub_nil)).tr r2, fun p hp => by rw [r3 p hp, a44 p hp], fun p hp => by rw [r4 p hp, a12], ?_⟩
          rw [a12] at r5
          exact r5
        · rw [if_neg h2]
          obtain ⟨r, hr, s⟩ := sp_187f hN hN1 hN2 mS.1 hz h2
          rw [s, Option.bind_some, if_neg (Int32.not_le.mpr hr), nx_inb (by omega) (by omega), nx_ck, pk_sub (show i ≤ 4294967276 by omega), nI_clamp (by omega)]
          refine ⟨hs_put h 44 0 23 (nI z0), rfl, hs_fr.rf.put (.inl (.head _)), fun p hp => by simp (disch := omega) only [nq_nf, nq_nt, nq_le_t, nq_le_f, nq_lt_t, nq_lt_f, nq_eq_t, nq_eq_f, nq_neg, nq_pos, nq_le0f, nq_le0t, nq_lt0t, nq_lt0f, nq_eq0f, nq_eq0t, nI_add, nI_clamp, nx_inb, nx_ck, Option.bind_some, nx_get, nx_get2, nx_dif, nx_or, bI_0, bI_01, bI_nt, bI_nf, if_true, if_false, ite_true, ite_false, not_true_eq_false, not_false_eq_true, and_true, true_and, and_false, false_and, Bool.false_eq_true, Bool.true_eq_false, reduceCtorEq], fun p hp => by simp (disch := omega) only [nq_nf, nq_nt, nq_le_t, nq_le_f, nq_lt_t, nq_lt_f, nq_eq_t, nq_eq_f, nq_neg, nq_pos, nq_le0f, nq_le0t, nq_lt0t, nq_lt0f, nq_eq0f, nq_eq0t, nI_add, nI_clamp, nx_inb, nx_ck, Option.bind_some, nx_get, nx_get2, nx_dif, nx_or, bI_0, bI_01, bI_nt, bI_nf, if_true, if_false, ite_true, ite_false, not_true_eq_false, not_false_eq_true, and_true, true_and, and_false, false_and, Bool.false_eq_true, Bool.true_eq_false, reduceCtorEq], by simp (disch := omega) only [nq_nf, nq_nt, nq_le_t, nq_le_f, nq_lt_t, nq_lt_f, nq_eq_t, nq_eq_f, nq_neg, nq_pos, nq_le0f, nq_le0t, nq_lt0t, nq_lt0f, nq_eq0f, nq_eq0t, nI_add, nI_clamp, nx_inb, nx_ck, Option.bind_some, nx_get, nx_get2, nx_dif, nx_or, bI_0, bI_01, bI_nt, bI_nf, if_true, if_false, ite_true, ite_false, not_true_eq_false, not_false_eq_true, and_true, true_and, and_false, false_and, Bool.false_eq_true, Bool.true_eq_false, reduceCtorEq], by simp (disch := omega) only [nq_nf, nq_nt, nq_le_t, nq_le_f, nq_lt_t, nq_lt_f, nq_eq_t, nq_eq_f, nq_neg, nq_pos, nq_le0f, nq_le0t, nq_lt0t, nq_lt0f, nq_eq0f, nq_eq0t, nI_add, nI_clamp, nx_inb, nx_ck, Option.bind_some, nx_get, nx_get2, nx_dif, nx_or, bI_0, bI_01, bI_nt, bI_nf, if_true, if_false, ite_true, ite_false, not_true_eq_false, not_false_eq_true, and_true, true_and, and_false, false_and, Bool.false_eq_true, Bool.true_eq_false, reduceCtorEq], fun y hy => ?_⟩
          obtain ⟨q1, q2, q3⟩ := mS.2 y (by omega)
          refine ⟨?_, ?_, ?_⟩
          · simp (disch := omega) only [q1, nq_nf, nq_nt, nq_le_t, nq_le_f, nq_lt_t, nq_lt_f, nq_eq_t, nq_eq_f, nq_neg, nq_pos, nq_le0f, nq_le0t, nq_lt0t, nq_lt0f, nq_eq0f, nq_eq0t, nI_add, nI_clamp, nx_inb, nx_ck, Option.bind_some, nx_get, nx_get2, nx_dif, nx_or, bI_0, bI_01, bI_nt, bI_nf, if_true, if_false, ite_true, ite_false, not_true_eq_false, not_false_eq_true, and_true, true_and, and_false, false_and, Bool.false_eq_true, Bool.true_eq_false, reduceCtorEq]
            rfl
          · simp (disch := omega) only [q2, nq_nf, nq_nt, nq_le_t, nq_le_f, nq_lt_t, nq_lt_f, nq_eq_t, nq_eq_f, nq_neg, nq_pos, nq_le0f, nq_le0t, nq_lt0t, nq_lt0f, nq_eq0f, nq_eq0t, nI_add, nI_clamp, nx_inb, nx_ck, Option.bind_some, nx_get, nx_get2, nx_dif, nx_or, bI_0, bI_01, bI_nt, bI_nf, if_true, if_false, ite_true, ite_false, not_true_eq_false, not_false_eq_true, and_true, true_and, and_false, false_and, Bool.false_eq_true, Bool.true_eq_false, reduceCtorEq]
            rfl
          · simp (disch := omega) only [q3, nq_nf, nq_nt, nq_le_t, nq_le_f, nq_lt_t, nq_lt_f, nq_eq_t, nq_eq_f, nq_neg, nq_pos, nq_le0f, nq_le0t, nq_lt0t, nq_lt0f, nq_eq0f, nq_eq0t, nI_add, nI_clamp, nx_inb, nx_ck, Option.bind_some, nx_get, nx_get2, nx_dif, nx_or, bI_0, bI_01, bI_nt, bI_nf, if_true, if_false, ite_true, ite_false, not_true_eq_false, not_false_eq_true, and_true, true_and, and_false, false_and, Bool.false_eq_true, Bool.true_eq_false, reduceCtorEq]
            rfl
      · rw [if_neg h1]
        have hn0 : ¬ nI (kd3 u l x i) = 0 := nI_ne0 (by omega) (by omega)
        unfold hb_237_143 hb_237_211
        rw [if_pos hn0, rd_lp2, rd_41e (.inr hn0)]
        exact ⟨_, rfl, hs_fr.rf.put (.inl (.tail _ (.head _))), rd_M_41 z0 mS⟩
