/-! Ways that fit: a round of the model's search. -/
def wF : (Int32 × Int32 × Int32 × Int32 × Int32 × hs_H → Option hs_H) → Int32 × Int32 × Int32 × Int32 × Int32 × hs_H → Option hs_H := fun k s => hb_193_34 k s.1 s.2.1 s.2.2.1 s.2.2.2.1 s.2.2.2.2.1 s.2.2.2.2.2
def mwT (n m : Nat) (one : Bool) (t nx : Int32) (G : hs_H) : Int32 × Int32 × Int32 × Int32 × Int32 × hs_H := (nI n, nI m, bI one, t, nx, G)
def mwN (N re W : Nat) (J : Nat → Nat) (st : Int32) (z : Nat) (tn nn gn : Nat → Nat) (h0 : hs_H) : Prop := df_n N re W J h0 ∧ h0.1 44 0 10 = st ∧ ∀ k, k < z → h0.1 44 0 (24 + 3 * k) = nI (tn k) ∧ h0.1 44 0 (25 + 3 * k) = nI (nn k) ∧ h0.1 44 0 (26 + 3 * k) = nI (gn k)
theorem dM_n1 : ¬ (0 : Int32) ≤ nI 0 + dM := by decide
theorem dM_n2 : nI 0 + dM < (0 : Int32) := by decide
def bck (pre : List Nat) : Int32 × Int32 := if pre.length = 0 then (nI 0 + dM, nI 0) else (nI (pre.length - 1), nI (nz pre (pre.length - 1) + 1))
section MX
variable {N re W n m z : Nat} {J : Nat → Nat} {st : Int32} {tn nn gn : Nat → Nat} {one : Bool} {h0 G : hs_H} {pre : List Nat} {L : List (List Nat)}
theorem mwN_fr (c : mwN N re W J st z tn nn gn h0) (f : mwF h0 G) : mwN N re W J st z tn nn gn G := by
  have e44 : G.1 44 0 = h0.1 44 0 := (f.1 44 0 (by intro q hq; revert q; simp)).1
  unfold mwN df_n at c ⊢
  rw [f.2 2 (by omega), f.2 3 (by omega), f.2 4 (by omega), e44]
  exact c
theorem mw_cand {o : Int32} {i : Nat} (k : Int32 × Int32 × Int32 × Int32 × Int32 × hs_H → Option hs_H) (c : mwN N re W J st z tn nn gn h0) (hN : N ≤ 10) (hre : re = 0 ∨ re = 1) (hJ : ∀ k, J k < 2 ^ N) (hJa : ∀ a, (J a).testBit a = false) (hi : i < N) (hl : pre.length ≤ 5) (p : mwI N W n pre L h0 G) : hb_193_50 k (nI n) (nI m) o (nI pre.length) (nI i) G = if (cnd (sel (bgn st) N) (mvs J re) pre).testBit i = true then hb_193_94 k (nI n) (nI m) o (nI pre.length) (nI i) G else hb_193_98 k (nI n) (nI m) o (nI pre.length) (nI i) G := by
  have hp := p2_lt hN
  obtain ⟨⟨n1, n2, n3, n4⟩, n5, n6⟩ := mwN_fr c p.1
  unfold hb_193_50 cnd
  rw [n1, if_neg (nI_ge hi (by omega))]
  by_cases c0 : pre.length = 0
  · rw [if_neg (fun q => q (by rw [c0]; rfl)), sp_191 n5, Option.bind_some, if_pos c0, tb_sel, decide_eq_true hi, Bool.true_and]
    dsimp only
    cases bgn st i with
    | false => rw [if_pos (by decide), if_neg Bool.false_ne_true]
    | true => rw [if_neg (by decide), if_pos rfl]
  · obtain ⟨q0, q1, q2⟩ := p.2.1 (pre.length - 1) (by omega)
    have hJb := hJ (nz pre (pre.length - 1))
    rw [if_pos (nI_ne0 (by omega) (by omega)), pk_sub (by omega), nx_inb (show pre.length - 1 < 6 by omega) (by omega), nx_ck, nI_clamp (show pre.length - 1 < 2147483648 by omega), q1, sp_181 n2 hre n4 hJa (by omega) (by omega) (by omega), Option.bind_some, if_neg c0]
    dsimp only
    cases (mvs J re (nz pre (pre.length - 1))).testBit i with
    | false => rw [if_pos (by decide), if_neg Bool.false_ne_true]
    | true => rw [if_neg (by decide), if_pos rfl]
theorem mw_189 {j : Nat} (c : mwN N re W J st z tn nn gn h0) (hN : N ≤ 10) (hW : W < 2 ^ N) (hj : j < N) (hl : pre.length ≤ 5) (p : mwI N W n pre L h0 G) : hf_189 (nI pre.length) (nI j) G = some (stH G pre.length j N (passS W (smA W z0 pre pre.length) j)) := by
  have hp := p2_lt hN
  obtain ⟨⟨n1, n2, n3, n4⟩, n5, n6⟩ := mwN_fr c p.1
  by_cases c0 : pre.length = 0
  · rw [c0]
    have e : smA W z0 pre 0 = z0 := by cases pre <;> rfl
    rw [e]
    exact sp_189z n1 n3 hN (by omega) hj
  · obtain ⟨t, ht⟩ : ∃ t, pre.length = t + 1 := ⟨pre.length - 1, by omega⟩
    have sm := smA_ok pre z0 (t + 1) (z0_ok (W := W)).1 (z0_ok (W := W)).2
    rw [ht]
    exact sp_189s n1 n3 hN (by omega) hj (by omega) sm.1 sm.2 (p.2.1 t (by omega)).2.2
theorem mw_94 {o : Int32} {j : Nat} (k : Int32 × Int32 × Int32 × Int32 × Int32 × hs_H → Option hs_H) (c : mwN N re W J st z tn nn gn h0) (hN : N ≤ 10) (hW : W < 2 ^ N) (hz : z ≤ 10) (hm : m ≤ z) (ok : ∀ k, k < z → tn k ≤ 5 ∧ nn k < N ∧ gn k ≤ 18) (hj : j < N) (hl : pre.length ≤ 5) (p : mwI N W n pre L h0 G) : hb_193_94 k (nI n) (nI m) o (nI pre.length) (nI j) G = hb_193_123 k (nI n) (nI m) o (nI pre.length) (nI j) (bI (fitB tn nn gn pre.length (passS W (smA W z0 pre pre.length) j) m)) (stH G pre.length j N (passS W (smA W z0 pre pre.length) j)) := by
  obtain ⟨⟨n1, n2, n3, n4⟩, n5, n6⟩ := mwN_fr c (p.1.fr (stH_fr (G := G) (N := N) (t := pre.length) (to := j) (s := passS W (smA W z0 pre pre.length) j)))
  have sm := smA_ok pre z0 pre.length (z0_ok (W := W)).1 (z0_ok (W := W)).2
  have e190 := sp_190 (N := N) (t := pre.length) (m := m) (z := z) (s := passS W (smA W z0 pre pre.length) j) hN hl hz hm ok n6 (passS_le sm.1) (fun k hk => by
    unfold stH
    rw [nx_rowbget, if_pos (by omega), Nat.add_sub_cancel_left])
  unfold hb_193_94 hb_193_99
  rw [if_neg (by decide), mw_189 c hN hW hj hl p, Option.bind_some, e190, Option.bind_some]
/-- whether j may be next and fits -/
def ok1 (N re W m : Nat) (J : Nat → Nat) (st : Int32) (tn nn gn : Nat → Nat) (pre : List Nat) (j : Nat) : Bool := (cnd (sel (bgn st) N) (mvs J re) pre).testBit j && fitB tn nn gn pre.length (passS W (smA W z0 pre pre.length) j) m
theorem mw_hd (k : Int32 × Int32 × Int32 × Int32 × Int32 × hs_H → Option hs_H) (ho : one = false ∨ L = []) (hl : pre.length ≤ 5) (p : mwI N W n pre L h0 G) {nx : Int32} : wF k (mwT n m one (nI pre.length) nx G) = hb_193_50 k (nI n) (nI m) (bI one) (nI pre.length) nx G := by
  show hb_193_34 k (nI n) (nI m) (bI one) (nI pre.length) nx G = _
  unfold hb_193_34
  rw [if_neg (nI_pos (by omega))]
  cases one with
  | false => rw [if_pos (by decide)]
  | true =>
    rw [if_neg (by decide), p.2.2.1]
    rcases ho with q | q
    · cases q
    · rw [q, if_neg (by decide)]
theorem mw_step {j : Nat} (c : mwN N re W J st z tn nn gn h0) (hN : N ≤ 10) (hre : re = 0 ∨ re = 1) (hJ : ∀ k, J k < 2 ^ N) (hJa : ∀ a, (J a).testBit a = false) (hW : W < 2 ^ N) (hz : z ≤ 10) (hm : m ≤ z) (ok : ∀ k, k < z → tn k ≤ 5 ∧ nn k < N ∧ gn k ≤ 18) (hj : j < N) (hn : n ≤ 5) (hl : pre.length ≤ n) (ho : one = false ∨ L = []) (hL : L.length < 2000000) (p : mwI N W n pre L h0 G) : (ok1 N re W m J st tn nn gn pre j = false ∧ ∃ G', mwI N W n pre L h0 G' ∧ ∀ k, wF k (mwT n m one (nI pre.length) (nI j) G) = k (mwT n m one (nI pre.length) (nI (j + 1)) G')) ∨ (ok1 N re W m J st tn nn gn pre j = true ∧ pre.length = n ∧ ∃ G', mwI N W n pre (L ++ [pre ++ [j]]) h0 G' ∧ ∀ k, wF k (mwT n m one (nI pre.length) (nI j) G) = k (mwT n m one (nI pre.length) (nI (j + 1)) G')) ∨ (ok1 N re W m J st tn nn gn pre j = true ∧ pre.length < n ∧ ∃ G', mwI N W n (pre ++ [j]) L h0 G' ∧ ∀ k, wF k (mwT n m one (nI pre.length) (nI j) G) = k (mwT n m one (nI (pre.length + 1)) (nI 0) G')) := by
  have n1 := (mwN_fr c p.1).1.1
  have hpl : (pre ++ [j]).length = pre.length + 1 := by rw [List.length_append]; rfl
  have hd := fun k => (mw_hd (m := m) k ho (by omega) p (nx := nI j)).trans (mw_cand (m := m) (o := bI one) k c hN hre hJ hJa hj (by omega) p)
  by_cases c1 : (cnd (sel (bgn st) N) (mvs J re) pre).testBit j = true
  · have pu := mw_push hN hj p
    have n1' := (mwN_fr c pu.1).1.1
    have hd2 := fun k => (hd k).trans ((if_pos c1).trans (mw_94 (o := bI one) k c hN hW hz hm ok hj (by omega) p))
    generalize stH G pre.length j N (passS W (smA W z0 pre pre.length) j) = G1 at pu hd2 n1'
    by_cases c2 : fitB tn nn gn pre.length (passS W (smA W z0 pre pre.length) j) m = true
    · have e1 : ok1 N re W m J st tn nn gn pre j = true := by unfold ok1; rw [c1, c2]; rfl
      by_cases c3 : pre.length = n
      · obtain ⟨G', g1, g2⟩ := mw_take hn hN (by omega) (by omega) pu
        refine Or.inr (Or.inl ⟨e1, c3, G', mw_pop g2, fun k => ?_⟩)
        rw [hd2, c2]
        unfold hb_193_123 hb_193_197
        rw [if_neg (by decide), if_neg (fun q => q (by rw [c3])), g1, Option.bind_some, nI_add]
        rfl
      · refine Or.inr (Or.inr ⟨e1, by omega, G1, pu, fun k => ?_⟩)
        rw [hd2, c2]
        unfold hb_193_123 hb_193_145 hb_193_197
        rw [if_neg (by decide), if_pos (fun q => c3 (nI_inj (by omega) (by omega) q)), if_neg (by decide), nI_add]
        rfl
    · refine Or.inl ⟨by unfold ok1; rw [c1, eq_false_of_ne_true c2]; rfl, G1, mw_pop pu, fun k => ?_⟩
      rw [hd2, eq_false_of_ne_true c2]
      unfold hb_193_123 hb_193_145 hb_193_197
      rw [if_pos (by decide), if_pos (by decide), n1', if_neg (nI_ge hj (by omega)), nI_add]
      rfl
  · refine Or.inl ⟨by unfold ok1; rw [eq_false_of_ne_true c1]; rfl, G, p, fun k => ?_⟩
    rw [hd, if_neg c1]
    unfold hb_193_98 hb_193_99 hb_193_123 hb_193_145 hb_193_197
    rw [if_pos (by decide), if_pos (by decide), if_pos (by decide), n1, if_neg (nI_ge hj (by omega)), nI_add]
    rfl
theorem mw_back (c : mwN N re W J st z tn nn gn h0) (hN : N ≤ 10) (hl : pre.length ≤ 5) (ho : one = false ∨ L = []) (p : mwI N W n pre L h0 G) (k : Int32 × Int32 × Int32 × Int32 × Int32 × hs_H → Option hs_H) : wF k (mwT n m one (nI pre.length) (nI N) G) = k (mwT n m one (bck pre).1 (bck pre).2 G) := by
  have n1 := (mwN_fr c p.1).1.1
  rw [mw_hd k ho hl p]
  unfold hb_193_50 hb_193_98 hb_193_99 hb_193_123 hb_193_145 hb_193_195 hb_193_197 bck
  rw [n1, if_pos (nI_le (Nat.le_refl _) (by omega)), if_pos (by decide), if_pos (by decide), if_pos (by decide), if_pos (nI_le (Nat.le_refl _) (by omega)), dM_eq]
  by_cases c0 : pre.length = 0
  · rw [if_pos c0, c0, if_neg dM_n1]
    rfl
  · have q1 := (p.2.1 (pre.length - 1) (by omega)).2.1
    rw [if_neg c0, dM_1 (by omega) (by omega), if_pos (nI_pos' (by omega)), nx_inb (show pre.length - 1 < 6 by omega) (by omega), nx_ck, nI_clamp (show pre.length - 1 < 2147483648 by omega), q1, nI_add]
    rfl
end MX
