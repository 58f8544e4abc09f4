/-! read: what it does, and the class's loop. -/
abbrev RdO : Type := Int32 × Option Nat × Nat × (Nat → Nat) × (Nat → Nat) × (Nat → Nat)
def RdO.a (o : RdO) : Int32 := o.1
def RdO.q (o : RdO) : Option Nat := o.2.1
def RdO.z (o : RdO) : Nat := o.2.2.1
def RdO.t (o : RdO) : Nat → Nat := o.2.2.2.1
def RdO.n (o : RdO) : Nat → Nat := o.2.2.2.2.1
def RdO.g (o : RdO) : Nat → Nat := o.2.2.2.2.2
def rdV (R : Nat → Int32) (x : Int32) (i j : Nat) : Int32 := R ((x.toInt + (3 * i : Nat)).toNat + j)
def rdN (R : Nat → Int32) (x : Int32) (i j : Nat) : Nat := (rdV R x i j).toNatClampNeg
def rdo (u : Option (Nat × Nat)) (l x : Int32) (N : Nat) (R : Nat → Int32) : Nat → Nat → Nat → (Nat → Nat) → (Nat → Nat) → (Nat → Nat) → RdO
  | 0, i, z, t, n, g => ⟨nI i, some 0, z, t, n, g⟩
  | d + 1, i, z, t, n, g =>
    if kd3 u l x i = 0 then
      if sm_ok N (rdV R x i 0) (rdV R x i 1) (rdV R x i 2) = true ∧ z < 10 then rdo u l x N R d (i + 1) (z + 1) (ext1 t z (rdN R x i 0)) (ext1 n z (rdN R x i 1)) (ext1 g z (rdN R x i 2))
      else ⟨nI (4294967276 - i), none, z, t, n, g⟩
    else ⟨nI i, some (kd3 u l x i), z, t, n, g⟩
/-- what holds of the class after the loop -/
def rd_C (z0 z dd : Nat) (o : RdO) (h h' : hs_H) : Prop := match o.q with
  | some q => h'.1 11 0 11 = nI q ∧ st_cS 0 o.z o.t o.n o.g h' ∧ h'.1 5 0 4 = nI (dd + (o.z - z))
  | none => h'.1 11 0 11 = h.1 11 0 11 ∧ st_cS 0 z0 o.t o.n o.g h' ∧ h'.1 5 0 4 = nI (dd + (o.z - z) + if z0 < o.z then 1 else 0)
def rdF : List (Nat × Option Nat) := [(5, some 0), (28, some 0), (29, some 0), (30, some 0), (11, some 0)]
theorem sm_ok_of {N : Nat} {a b e : Int32} (hN : N ≤ 10) (h : sm_ok N a b e = true) : a = nI a.toNatClampNeg ∧ a.toNatClampNeg ≤ 5 ∧ b = nI b.toNatClampNeg ∧ b.toNatClampNeg < N ∧ e = nI e.toNatClampNeg ∧ e.toNatClampNeg ≤ 18 := by
  unfold sm_ok at h
  rw [Bool.and_eq_true, Bool.and_eq_true] at h
  obtain ⟨i, -, hi, h1⟩ := (rg_of (by omega)).mp h.1.1
  obtain ⟨j, hj, h2⟩ := (nd_of (by omega)).mp h.1.2
  obtain ⟨q, -, hq, h3⟩ := (rg_of (by omega)).mp h.2
  have e1 : a.toNatClampNeg = i := by rw [h1, nI_clamp (by omega)]
  have e2 : b.toNatClampNeg = j := by rw [h2, nI_clamp (by omega)]
  have e3 : e.toNatClampNeg = q := by rw [h3, nI_clamp (by omega)]
  exact ⟨by rw [e1]; exact h1, by omega, by rw [e2]; exact h2, by omega, by rw [e3]; exact h3, by omega⟩
theorem rdo_le {u : Option (Nat × Nat)} {l x : Int32} {N : Nat} {R : Nat → Int32} : ∀ d i z t n g, z ≤ (rdo u l x N R d i z t n g).z ∧ (∀ k, k < z → (rdo u l x N R d i z t n g).t k = t k ∧ (rdo u l x N R d i z t n g).n k = n k ∧ (rdo u l x N R d i z t n g).g k = g k) := by
  intro d
  induction d with
  | zero => intro i z t n g; exact ⟨Nat.le_refl _, fun k _ => ⟨rfl, rfl, rfl⟩⟩
  | succ d ih =>
    intro i z t n g
    unfold rdo
    by_cases h1 : kd3 u l x i = 0
    · rw [if_pos h1]
      by_cases h2 : sm_ok N (rdV R x i 0) (rdV R x i 1) (rdV R x i 2) = true ∧ z < 10
      · rw [if_pos h2]
        obtain ⟨q1, q2⟩ := ih (i + 1) (z + 1) (ext1 t z (rdN R x i 0)) (ext1 n z (rdN R x i 1)) (ext1 g z (rdN R x i 2))
        refine ⟨by omega, fun k hk => ?_⟩
        obtain ⟨r1, r2, r3⟩ := q2 k (by omega)
        rw [r1, r2, r3]
        unfold ext1
        rw [if_neg (by omega), if_neg (by omega), if_neg (by omega)]
        exact ⟨rfl, rfl, rfl⟩
      · rw [if_neg h2]
        exact ⟨Nat.le_refl _, fun k _ => ⟨rfl, rfl, rfl⟩⟩
    · rw [if_neg h1]
      exact ⟨Nat.le_refl _, fun k _ => ⟨rfl, rfl, rfl⟩⟩
theorem rdo_ok {u : Option (Nat × Nat)} {l x : Int32} {N : Nat} {R : Nat → Int32} (hN : N ≤ 10) : ∀ d i z t n g, ok_S N z t n g → ok_S N (rdo u l x N R d i z t n g).z (rdo u l x N R d i z t n g).t (rdo u l x N R d i z t n g).n (rdo u l x N R d i z t n g).g := by
  intro d
  induction d with
  | zero => intro i z t n g p; exact p
  | succ d ih =>
    intro i z t n g p
    unfold rdo
    by_cases h1 : kd3 u l x i = 0
    · rw [if_pos h1]
      by_cases h2 : sm_ok N (rdV R x i 0) (rdV R x i 1) (rdV R x i 2) = true ∧ z < 10
      · rw [if_pos h2]
        obtain ⟨-, s1, -, s2, -, s3⟩ := sm_ok_of hN h2.1
        refine ih _ _ _ _ _ ⟨by omega, fun k hk => ?_⟩
        unfold ext1
        by_cases hk2 : k = z
        · rw [if_pos hk2, if_pos hk2, if_pos hk2]
          exact ⟨s1, s2, s3⟩
        · rw [if_neg hk2, if_neg hk2, if_neg hk2]
          exact p.2 k (by omega)
      · rw [if_neg h2]
        exact p
    · rw [if_neg h1]
      exact p
theorem sp_118f {N z : Nat} {a b e : Int32} {h : hs_H} (hN : h.1 4 0 1 = nI N) (hN2 : N ≤ 10) (hz : h.1 5 0 3 = nI z) (hzb : z ≤ 10) (hf : ¬ (sm_ok N a b e = true ∧ z < 10)) : ∃ r, r < 0 ∧ hf_118 a b e h = some (r, h) := by
  cases hok : sm_ok N a b e with
  | false => exact ⟨nI 4294967295, by decide, sp_118b hN hN2 hok⟩
  | true =>
    obtain ⟨e1, h1, e2, h2, e3, h3⟩ := sm_ok_of hN2 hok
    have s := sp_118 hN hN2 hz hzb h1 h2 h3
    rw [if_neg (fun q => hf ⟨hok, q⟩), ← e1, ← e2, ← e3] at s
    exact ⟨nI 4294967293, by decide, s⟩
theorem st_cS_cut {z z' : Nat} {t n g : Nat → Nat} {h h' : hs_H} (hz : z' ≤ z) (p : st_cS 0 z t n g h) (e3 : h'.1 5 0 3 = nI z') (e28 : h'.1 28 0 = h.1 28 0) (e29 : h'.1 29 0 = h.1 29 0) (e30 : h'.1 30 0 = h.1 30 0) : st_cS 0 z' t n g h' := by
  refine ⟨e3, fun k hk => ?_⟩
  rw [e28, e29, e30]
  exact p.2 k (by omega)
theorem rd_c {k m z0 N : Nat} {u : Option (Nat × Nat)} {l x : Int32} {R : Nat → Int32} (hm : m ≤ 10) (hN2 : N ≤ 10) (hk : k < 4) : ∀ d i z t n g dd h fu, i + d = m → z0 ≤ z → z ≤ 10 → d < fu → st_u k u h → h.1 32 k = R → h.1 4 0 1 = nI N → st_cS 0 z t n g h → h.1 5 0 4 = nI dd →
    ∃ h', hs_lp (fun k s => hb_141_50 k s.1 s.2.1 s.2.2.1 s.2.2.2.1 s.2.2.2.2.1 s.2.2.2.2.2.1 s.2.2.2.2.2.2) fu (l, x, nI m, k, nI z0, nI i, h) = some ((rdo u l x N R d i z t n g).a, h') ∧ hs_fr rdF h h' ∧ rd_C z0 z dd (rdo u l x N R d i z t n g) h h' := by
  intro d
  induction d with
  | zero =>
    intro i z t n g dd h fu hi hz0 hz hfu hu hR hN cS hdd
    match fu, hfu with
    | fu + 1, _ =>
      have him : i = m := by omega
      subst him
      refine ⟨hs_put h 11 0 11 (nI 0), ?_, hs_fr.rf.put (.inl (.tail _ (.tail _ (.tail _ (.tail _ (.head _)))))), ?_, ?_, ?_⟩
      · show hb_141_50 _ l x (nI i) k (nI z0) (nI i) h = _
        unfold hb_141_50
        rw [if_pos (nI_le (Nat.le_refl _) (by omega))]
        rfl
      · simp (disch := omega) only [nq_nf, nq_nt, nq_le_t, nq_le_f, nq_lt_t, nq_lt_f, nq_eq_t, nq_eq_f, nq_neg, nq_pos, nq_le0f, nq_le0t, nq_lt0t, nq_lt0f, nq_eq0f, nq_eq0t, nI_add, nI_clamp, nx_inb, nx_ck, Option.bind_some, nx_get, nx_get2, nx_dif, nx_or, bI_0, bI_01, bI_nt, bI_nf, if_true, if_false, ite_true, ite_false, not_true_eq_false, not_false_eq_true, and_true, true_and, and_false, false_and, Bool.false_eq_true, Bool.true_eq_false, reduceCtorEq]
      · exact st_cS_cut (Nat.le_refl _) cS (by simp (disch := omega) only [nq_nf, nq_nt, nq_le_t, nq_le_f, nq_lt_t, nq_lt_f, nq_eq_t, nq_eq_f, nq_neg, nq_pos, nq_le0f, nq_le0t, nq_lt0t, nq_lt0f, nq_eq0f, nq_eq0t, nI_add, nI_clamp, nx_inb, nx_ck, Option.bind_some, nx_get, nx_get2, nx_dif, nx_or, bI_0, bI_01, bI_nt, bI_nf, if_true, if_false, ite_true, ite_false, not_true_eq_false, not_false_eq_true, and_true, true_and, and_false, false_and, Bool.false_eq_true, Bool.true_eq_false, reduceCtorEq]; exact cS.1) (by funext y; simp (disch := omega) only [nq_nf, nq_nt, nq_le_t, nq_le_f, nq_lt_t, nq_lt_f, nq_eq_t, nq_eq_f, nq_neg, nq_pos, nq_le0f, nq_le0t, nq_lt0t, nq_lt0f, nq_eq0f, nq_eq0t, nI_add, nI_clamp, nx_inb, nx_ck, Option.bind_some, nx_get, nx_get2, nx_dif, nx_or, bI_0, bI_01, bI_nt, bI_nf, if_true, if_false, ite_true, ite_false, not_true_eq_false, not_false_eq_true, and_true, true_and, and_false, false_and, Bool.false_eq_true, Bool.true_eq_false, reduceCtorEq]) (by funext y; simp (disch := omega) only [nq_nf, nq_nt, nq_le_t, nq_le_f, nq_lt_t, nq_lt_f, nq_eq_t, nq_eq_f, nq_neg, nq_pos, nq_le0f, nq_le0t, nq_lt0t, nq_lt0f, nq_eq0f, nq_eq0t, nI_add, nI_clamp, nx_inb, nx_ck, Option.bind_some, nx_get, nx_get2, nx_dif, nx_or, bI_0, bI_01, bI_nt, bI_nf, if_true, if_false, ite_true, ite_false, not_true_eq_false, not_false_eq_true, and_true, true_and, and_false, false_and, Bool.false_eq_true, Bool.true_eq_false, reduceCtorEq]) (by funext y; simp (disch := omega) only [nq_nf, nq_nt, nq_le_t, nq_le_f, nq_lt_t, nq_lt_f, nq_eq_t, nq_eq_f, nq_neg, nq_pos, nq_le0f, nq_le0t, nq_lt0t, nq_lt0f, nq_eq0f, nq_eq0t, nI_add, nI_clamp, nx_inb, nx_ck, Option.bind_some, nx_get, nx_get2, nx_dif, nx_or, bI_0, bI_01, bI_nt, bI_nf, if_true, if_false, ite_true, ite_false, not_true_eq_false, not_false_eq_true, and_true, true_and, and_false, false_and, Bool.false_eq_true, Bool.true_eq_false, reduceCtorEq])
      · show (hs_put h 11 0 11 (nI 0)).1 5 0 4 = nI (dd + (z - z))
        rw [Nat.sub_self]
        simp (disch := omega) only [hdd, nq_nf, nq_nt, nq_le_t, nq_le_f, nq_lt_t, nq_lt_f, nq_eq_t, nq_eq_f, nq_neg, nq_pos, nq_le0f, nq_le0t, nq_lt0t, nq_lt0f, nq_eq0f, nq_eq0t, nI_add, nI_clamp, nx_inb, nx_ck, Option.bind_some, nx_get, nx_get2, nx_dif, nx_or, bI_0, bI_01, bI_nt, bI_nf, if_true, if_false, ite_true, ite_false, not_true_eq_false, not_false_eq_true, and_true, true_and, and_false, false_and, Bool.false_eq_true, Bool.true_eq_false, reduceCtorEq]
  | succ d ih =>
    intro i z t n g dd h fu hi hz0 hz hfu hu hR hN cS hdd
    match fu, hfu with
    | fu + 1, hfu =>
      have s80 := sp_80 (l := l) (x := x) (i := i) hu (by omega)
      have hlt := kd3_lt u l x i
      have step : ∀ X : hs_H → Prop, True := fun _ => trivial
      show ∃ h', hb_141_50 (hs_lp (fun k s => hb_141_50 k s.1 s.2.1 s.2.2.1 s.2.2.2.1 s.2.2.2.2.1 s.2.2.2.2.2.1 s.2.2.2.2.2.2) fu) l x (nI m) k (nI z0) (nI i) h = _ ∧ _
      generalize hL : hs_lp (fun k s => hb_141_50 k s.1 s.2.1 s.2.2.1 s.2.2.2.1 s.2.2.2.2.1 s.2.2.2.2.2.1 s.2.2.2.2.2.2) fu = L
      unfold hb_141_50
      rw [if_neg (nI_ge (show i < m by omega) (by omega)), pk_mul, s80]
      unfold rdo
      by_cases h1 : kd3 u l x i = 0
      · obtain ⟨p, hp, ep, ep2, -⟩ := kd3_0 hu (by omega) h1
        have ev : ∀ j, rdV R x i j = h.1 32 k (p + j) := fun j => by
          unfold rdV
          rw [hR, ep2]
          rfl
        rw [if_pos h1, h1, Option.bind_some]
        dsimp only
        rw [if_pos (show nI 0 = (0 : Int32) from rfl), ep, nI_add, nI_add, sp_83 (show p < 40 by omega), Option.bind_some]
        dsimp only
        rw [sp_83 (show p + 1 < 40 by omega), Option.bind_some]
        dsimp only
        rw [sp_83 (show p + 2 < 40 by omega), Option.bind_some]
        dsimp only
        rw [← ev 1, ← ev 2, show h.1 32 k p = rdV R x i 0 from (ev 0).symm]
        by_cases h2 : sm_ok N (rdV R x i 0) (rdV R x i 1) (rdV R x i 2) = true ∧ z < 10
        · rw [if_pos h2]
          obtain ⟨e1, q1, e2, q2, e3, q3⟩ := sm_ok_of hN2 h2.1
          have s := sp_118 hN hN2 cS.1 hz q1 q2 q3
          rw [if_pos h2.2, ← e1, ← e2, ← e3] at s
          rw [s, Option.bind_some, if_pos (nI_pos' (by omega)), nI_add]
          have aS := add_c_S (a := rdN R x i 0) (b := rdN R x i 1) (e := rdN R x i 2) cS
          have e1' : nI (rdN R x i 0) = rdV R x i 0 := e1.symm
          have e2' : nI (rdN R x i 1) = rdV R x i 1 := e2.symm
          have e3' : nI (rdN R x i 2) = rdV R x i 2 := e3.symm
          rw [e1', e2', e3'] at aS
          have af := add_c_fr (h := h) (o := 0) (z := z) (a := rdV R x i 0) (b := rdV R x i 1) (e := rdV R x i 2)
          have a4 : (add_c h 0 z (rdV R x i 0) (rdV R x i 1) (rdV R x i 2)).1 5 0 4 = nI (dd + 1) := by unfold add_c; simp (disch := omega) only [hdd, nq_nf, nq_nt, nq_le_t, nq_le_f, nq_lt_t, nq_lt_f, nq_eq_t, nq_eq_f, nq_neg, nq_pos, nq_le0f, nq_le0t, nq_lt0t, nq_lt0f, nq_eq0f, nq_eq0t, nI_add, nI_clamp, nx_inb, nx_ck, Option.bind_some, nx_get, nx_get2, nx_dif, nx_or, bI_0, bI_01, bI_nt, bI_nf, if_true, if_false, ite_true, ite_false, not_true_eq_false, not_false_eq_true, and_true, true_and, and_false, false_and, Bool.false_eq_true, Bool.true_eq_false, reduceCtorEq]
          have a11 : (add_c h 0 z (rdV R x i 0) (rdV R x i 1) (rdV R x i 2)).1 11 0 11 = h.1 11 0 11 := by unfold add_c; simp (disch := omega) only [nq_nf, nq_nt, nq_le_t, nq_le_f, nq_lt_t, nq_lt_f, nq_eq_t, nq_eq_f, nq_neg, nq_pos, nq_le0f, nq_le0t, nq_lt0t, nq_lt0f, nq_eq0f, nq_eq0t, nI_add, nI_clamp, nx_inb, nx_ck, Option.bind_some, nx_get, nx_get2, nx_dif, nx_or, bI_0, bI_01, bI_nt, bI_nf, if_true, if_false, ite_true, ite_false, not_true_eq_false, not_false_eq_true, and_true, true_and, and_false, false_and, Bool.false_eq_true, Bool.true_eq_false, reduceCtorEq]
          have a32 : (add_c h 0 z (rdV R x i 0) (rdV R x i 1) (rdV R x i 2)).1 32 k = R := by rw [← hR]; funext y; unfold add_c; simp (disch := omega) only [nq_nf, nq_nt, nq_le_t, nq_le_f, nq_lt_t, nq_lt_f, nq_eq_t, nq_eq_f, nq_neg, nq_pos, nq_le0f, nq_le0t, nq_lt0t, nq_lt0f, nq_eq0f, nq_eq0t, nI_add, nI_clamp, nx_inb, nx_ck, Option.bind_some, nx_get, nx_get2, nx_dif, nx_or, bI_0, bI_01, bI_nt, bI_nf, if_true, if_false, ite_true, ite_false, not_true_eq_false, not_false_eq_true, and_true, true_and, and_false, false_and, Bool.false_eq_true, Bool.true_eq_false, reduceCtorEq]
          have aN : (add_c h 0 z (rdV R x i 0) (rdV R x i 1) (rdV R x i 2)).1 4 0 1 = nI N := by unfold add_c; simp (disch := omega) only [hN, nq_nf, nq_nt, nq_le_t, nq_le_f, nq_lt_t, nq_lt_f, nq_eq_t, nq_eq_f, nq_neg, nq_pos, nq_le0f, nq_le0t, nq_lt0t, nq_lt0f, nq_eq0f, nq_eq0t, nI_add, nI_clamp, nx_inb, nx_ck, Option.bind_some, nx_get, nx_get2, nx_dif, nx_or, bI_0, bI_01, bI_nt, bI_nf, if_true, if_false, ite_true, ite_false, not_true_eq_false, not_false_eq_true, and_true, true_and, and_false, false_and, Bool.false_eq_true, Bool.true_eq_false, reduceCtorEq]
          have aU : st_u k u (add_c h 0 z (rdV R x i 0) (rdV R x i 1) (rdV R x i 2)) := st_u_dep.fr (af.sub (K := [(5, none), (28, none), (29, none), (30, none)]) (hs_sub_cons (.inr (.head _)) (hs_sub_cons (.inr (.tail _ (.head _))) (hs_sub_cons (.inr (.tail _ (.tail _ (.head _)))) (hs_sub_cons (.inr (.tail _ (.tail _ (.tail _ (.head _))))) hs_sub_nil))))) rfl hu
          generalize add_c h 0 z (rdV R x i 0) (rdV R x i 1) (rdV R x i 2) = A at *
          obtain ⟨h', r1, r2, r3⟩ := ih (i + 1) (z + 1) _ _ _ (dd + 1) A fu (by omega) (by omega) (by omega) (by omega) aU a32 aN aS a4
          rw [hL] at r1
          have le := (rdo_le (u := u) (l := l) (x := x) (N := N) (R := R) d (i + 1) (z + 1) (ext1 t z (rdN R x i 0)) (ext1 n z (rdN R x i 1)) (ext1 g z (rdN R x i 2))).1
          generalize rdo u l x N R d (i + 1) (z + 1) (ext1 t z (rdN R x i 0)) (ext1 n z (rdN R x i 1)) (ext1 g z (rdN R x i 2)) = o at *
          refine ⟨h', r1, (af.sub (hs_sub_cons (.inl (.head _)) (hs_sub_cons (.inl (.tail _ (.head _))) (hs_sub_cons (.inl (.tail _ (.tail _ (.head _)))) (hs_sub_cons (.inl (.tail _ (.tail _ (.tail _ (.head _))))) hs_sub_nil))))).tr r2, ?_⟩
          have ea : dd + 1 + (o.z - (z + 1)) = dd + (o.z - z) := by omega
          unfold rd_C at r3 ⊢
          rw [ea, a11] at r3
          exact r3
        · rw [if_neg h2]
          obtain ⟨r, hr, s⟩ := sp_118f hN hN2 cS.1 hz h2
          rw [s, Option.bind_some, if_neg (Int32.not_le.mpr hr)]
          dsimp only
          have ean : nI 4294967276 - nI i = nI (4294967276 - i) := pk_sub (by omega)
          unfold hf_47 hb_47_27
          rw [cS.1]
          by_cases hz1 : z ≤ z0
          · have hzz : z = z0 := by omega
            refine ⟨h, ?_, hs_fr.rf, ?_⟩
            · simp (disch := omega) only [ean, nq_nf, nq_nt, nq_le_t, nq_le_f, nq_lt_t, nq_lt_f, nq_eq_t, nq_eq_f, nq_neg, nq_pos, nq_le0f, nq_le0t, nq_lt0t, nq_lt0f, nq_eq0f, nq_eq0t, nI_add, nI_clamp, nx_inb, nx_ck, Option.bind_some, nx_get, nx_get2, nx_dif, nx_or, bI_0, bI_01, bI_nt, bI_nf, if_true, if_false, ite_true, ite_false, not_true_eq_false, not_false_eq_true, and_true, true_and, and_false, false_and, Bool.false_eq_true, Bool.true_eq_false, reduceCtorEq]
              rfl
            · show _ ∧ _ ∧ h.1 5 0 4 = nI (dd + (z - z) + if z0 < z then 1 else 0)
              rw [if_neg (by omega), Nat.sub_self]
              exact ⟨rfl, hzz ▸ cS, hdd⟩
          · refine ⟨hs_put (hs_put h 5 0 3 (nI z0)) 5 0 4 (nI (dd + 1)), ?_, (hs_fr.rf.put (.inl (.head _))).put (.inl (.head _)), ?_⟩
            · simp (disch := omega) only [ean, hdd, nq_nf, nq_nt, nq_le_t, nq_le_f, nq_lt_t, nq_lt_f, nq_eq_t, nq_eq_f, nq_neg, nq_pos, nq_le0f, nq_le0t, nq_lt0t, nq_lt0f, nq_eq0f, nq_eq0t, nI_add, nI_clamp, nx_inb, nx_ck, Option.bind_some, nx_get, nx_get2, nx_dif, nx_or, bI_0, bI_01, bI_nt, bI_nf, if_true, if_false, ite_true, ite_false, not_true_eq_false, not_false_eq_true, and_true, true_and, and_false, false_and, Bool.false_eq_true, Bool.true_eq_false, reduceCtorEq]
              rfl
            · show _ ∧ _ ∧ (hs_put (hs_put h 5 0 3 (nI z0)) 5 0 4 (nI (dd + 1))).1 5 0 4 = nI (dd + (z - z) + if z0 < z then 1 else 0)
              rw [if_pos (by omega), Nat.sub_self]
              refine ⟨by simp (disch := omega) only [nq_nf, nq_nt, nq_le_t, nq_le_f, nq_lt_t, nq_lt_f, nq_eq_t, nq_eq_f, nq_neg, nq_pos, nq_le0f, nq_le0t, nq_lt0t, nq_lt0f, nq_eq0f, nq_eq0t, nI_add, nI_clamp, nx_inb, nx_ck, Option.bind_some, nx_get, nx_get2, nx_dif, nx_or, bI_0, bI_01, bI_nt, bI_nf, if_true, if_false, ite_true, ite_false, not_true_eq_false, not_false_eq_true, and_true, true_and, and_false, false_and, Bool.false_eq_true, Bool.true_eq_false, reduceCtorEq], st_cS_cut hz0 cS (by simp (disch := omega) only [nq_nf, nq_nt, nq_le_t, nq_le_f, nq_lt_t, nq_lt_f, nq_eq_t, nq_eq_f, nq_neg, nq_pos, nq_le0f, nq_le0t, nq_lt0t, nq_lt0f, nq_eq0f, nq_eq0t, nI_add, nI_clamp, nx_inb, nx_ck, Option.bind_some, nx_get, nx_get2, nx_dif, nx_or, bI_0, bI_01, bI_nt, bI_nf, if_true, if_false, ite_true, ite_false, not_true_eq_false, not_false_eq_true, and_true, true_and, and_false, false_and, Bool.false_eq_true, Bool.true_eq_false, reduceCtorEq]) (by funext y; simp (disch := omega) only [nq_nf, nq_nt, nq_le_t, nq_le_f, nq_lt_t, nq_lt_f, nq_eq_t, nq_eq_f, nq_neg, nq_pos, nq_le0f, nq_le0t, nq_lt0t, nq_lt0f, nq_eq0f, nq_eq0t, nI_add, nI_clamp, nx_inb, nx_ck, Option.bind_some, nx_get, nx_get2, nx_dif, nx_or, bI_0, bI_01, bI_nt, bI_nf, if_true, if_false, ite_true, ite_false, not_true_eq_false, not_false_eq_true, and_true, true_and, and_false, false_and, Bool.false_eq_true, Bool.true_eq_false, reduceCtorEq]) (by funext y; simp (disch := omega) only [nq_nf, nq_nt, nq_le_t, nq_le_f, nq_lt_t, nq_lt_f, nq_eq_t, nq_eq_f, nq_neg, nq_pos, nq_le0f, nq_le0t, nq_lt0t, nq_lt0f, nq_eq0f, nq_eq0t, nI_add, nI_clamp, nx_inb, nx_ck, Option.bind_some, nx_get, nx_get2, nx_dif, nx_or, bI_0, bI_01, bI_nt, bI_nf, if_true, if_false, ite_true, ite_false, not_true_eq_false, not_false_eq_true, and_true, true_and, and_false, false_and, Bool.false_eq_true, Bool.true_eq_false, reduceCtorEq]) (by funext y; simp (disch := omega) only [nq_nf, nq_nt, nq_le_t, nq_le_f, nq_lt_t, nq_lt_f, nq_eq_t, nq_eq_f, nq_neg, nq_pos, nq_le0f, nq_le0t, nq_lt0t, nq_lt0f, nq_eq0f, nq_eq0t, nI_add, nI_clamp, nx_inb, nx_ck, Option.bind_some, nx_get, nx_get2, nx_dif, nx_or, bI_0, bI_01, bI_nt, bI_nf, if_true, if_false, ite_true, ite_false, not_true_eq_false, not_false_eq_true, and_true, true_and, and_false, false_and, Bool.false_eq_true, Bool.true_eq_false, reduceCtorEq]), by simp (disch := omega) only [Nat.add_zero, nq_nf, nq_nt, nq_le_t, nq_le_f, nq_lt_t, nq_lt_f, nq_eq_t, nq_eq_f, nq_neg, nq_pos, nq_le0f, nq_le0t, nq_lt0t, nq_lt0f, nq_eq0f, nq_eq0t, nI_add, nI_clamp, nx_inb, nx_ck, Option.bind_some, nx_get, nx_get2, nx_dif, nx_or, bI_0, bI_01, bI_nt, bI_nf, if_true, if_false, ite_true, ite_false, not_true_eq_false, not_false_eq_true, and_true, true_and, and_false, false_and, Bool.false_eq_true, Bool.true_eq_false, reduceCtorEq]⟩
      · rw [if_neg h1, Option.bind_some]
        dsimp only
        rw [if_neg (nI_ne0 (by omega) (by omega))]
        refine ⟨hs_put h 11 0 11 (nI (kd3 u l x i)), rfl, hs_fr.rf.put (.inl (.tail _ (.tail _ (.tail _ (.tail _ (.head _)))))), ?_, ?_, ?_⟩
        · simp (disch := omega) only [nq_nf, nq_nt, nq_le_t, nq_le_f, nq_lt_t, nq_lt_f, nq_eq_t, nq_eq_f, nq_neg, nq_pos, nq_le0f, nq_le0t, nq_lt0t, nq_lt0f, nq_eq0f, nq_eq0t, nI_add, nI_clamp, nx_inb, nx_ck, Option.bind_some, nx_get, nx_get2, nx_dif, nx_or, bI_0, bI_01, bI_nt, bI_nf, if_true, if_false, ite_true, ite_false, not_true_eq_false, not_false_eq_true, and_true, true_and, and_false, false_and, Bool.false_eq_true, Bool.true_eq_false, reduceCtorEq]
        · exact st_cS_cut (Nat.le_refl _) cS (by simp (disch := omega) only [nq_nf, nq_nt, nq_le_t, nq_le_f, nq_lt_t, nq_lt_f, nq_eq_t, nq_eq_f, nq_neg, nq_pos, nq_le0f, nq_le0t, nq_lt0t, nq_lt0f, nq_eq0f, nq_eq0t, nI_add, nI_clamp, nx_inb, nx_ck, Option.bind_some, nx_get, nx_get2, nx_dif, nx_or, bI_0, bI_01, bI_nt, bI_nf, if_true, if_false, ite_true, ite_false, not_true_eq_false, not_false_eq_true, and_true, true_and, and_false, false_and, Bool.false_eq_true, Bool.true_eq_false, reduceCtorEq]; exact cS.1) (by funext y; simp (disch := omega) only [nq_nf, nq_nt, nq_le_t, nq_le_f, nq_lt_t, nq_lt_f, nq_eq_t, nq_eq_f, nq_neg, nq_pos, nq_le0f, nq_le0t, nq_lt0t, nq_lt0f, nq_eq0f, nq_eq0t, nI_add, nI_clamp, nx_inb, nx_ck, Option.bind_some, nx_get, nx_get2, nx_dif, nx_or, bI_0, bI_01, bI_nt, bI_nf, if_true, if_false, ite_true, ite_false, not_true_eq_false, not_false_eq_true, and_true, true_and, and_false, false_and, Bool.false_eq_true, Bool.true_eq_false, reduceCtorEq]) (by funext y; simp (disch := omega) only [nq_nf, nq_nt, nq_le_t, nq_le_f, nq_lt_t, nq_lt_f, nq_eq_t, nq_eq_f, nq_neg, nq_pos, nq_le0f, nq_le0t, nq_lt0t, nq_lt0f, nq_eq0f, nq_eq0t, nI_add, nI_clamp, nx_inb, nx_ck, Option.bind_some, nx_get, nx_get2, nx_dif, nx_or, bI_0, bI_01, bI_nt, bI_nf, if_true, if_false, ite_true, ite_false, not_true_eq_false, not_false_eq_true, and_true, true_and, and_false, false_and, Bool.false_eq_true, Bool.true_eq_false, reduceCtorEq]) (by funext y; simp (disch := omega) only [nq_nf, nq_nt, nq_le_t, nq_le_f, nq_lt_t, nq_lt_f, nq_eq_t, nq_eq_f, nq_neg, nq_pos, nq_le0f, nq_le0t, nq_lt0t, nq_lt0f, nq_eq0f, nq_eq0t, nI_add, nI_clamp, nx_inb, nx_ck, Option.bind_some, nx_get, nx_get2, nx_dif, nx_or, bI_0, bI_01, bI_nt, bI_nf, if_true, if_false, ite_true, ite_false, not_true_eq_false, not_false_eq_true, and_true, true_and, and_false, false_and, Bool.false_eq_true, Bool.true_eq_false, reduceCtorEq])
        · show (hs_put h 11 0 11 (nI (kd3 u l x i))).1 5 0 4 = nI (dd + (z - z))
          rw [Nat.sub_self]
          simp (disch := omega) only [hdd, nq_nf, nq_nt, nq_le_t, nq_le_f, nq_lt_t, nq_lt_f, nq_eq_t, nq_eq_f, nq_neg, nq_pos, nq_le0f, nq_le0t, nq_lt0t, nq_lt0f, nq_eq0f, nq_eq0t, nI_add, nI_clamp, nx_inb, nx_ck, Option.bind_some, nx_get, nx_get2, nx_dif, nx_or, bI_0, bI_01, bI_nt, bI_nf, if_true, if_false, ite_true, ite_false, not_true_eq_false, not_false_eq_true, and_true, true_and, and_false, false_and, Bool.false_eq_true, Bool.true_eq_false, reduceCtorEq]
