/-! Doubt: all ways of the model. -/
def dbF : (Int32 × Int32 × Int32 × Int32 × hs_H → Option (Int32 × hs_H)) → Int32 × Int32 × Int32 × Int32 × hs_H → Option (Int32 × hs_H) := fun k s => hb_203_60 k s.1 s.2.1 s.2.2.1 s.2.2.2.1 s.2.2.2.2
def cD : Nat → Nat
  | 0 => 1
  | r + 1 => 10 * cD r + 2
section DR
variable {J : Nat → Nat} {N re W n P a0 : Nat}
def df_n (N re W : Nat) (J : Nat → Nat) (h0 : hs_H) : Prop := h0.1 12 0 2 = nI N ∧ h0.1 12 0 3 = nI re ∧ h0.1 12 0 4 = nI W ∧ ∀ k, k < 10 → h0.1 44 0 k = nI (J k)
theorem df_net {pre : List Nat} {L : List (List Nat)} {h0 G : hs_H} (c : df_n N re W J h0) (p : dfS N W n P a0 pre L h0 G) : df_n N re W J G := by
  have e44 : G.1 44 0 = h0.1 44 0 := (p.1.1 44 0 (by intro q hq; revert q; simp)).1
  unfold df_n
  rw [p.1.2 2 (by omega), p.1.2 3 (by omega), p.1.2 4 (by omega), e44]
  exact c
theorem db_back {t a : Nat} {G : hs_H} (k : Int32 × Int32 × Int32 × Int32 × hs_H → Option (Int32 × hs_H)) (hN : G.1 12 0 2 = nI N) (ht : t < 5) (h49 : G.1 49 0 t = nI a) : dbF k (nI n, nI P, nI (t + 1), nI N, G) = k (nI n, nI P, nI t, nI (a + 1), G) := by
  have eD : nI (t + 1) + dM = nI t := by rw [dM_1 (by omega) (by omega), Nat.add_sub_cancel]
  show hb_203_60 k (nI n) (nI P) (nI (t + 1)) (nI N) G = _
  unfold hb_203_60
  rw [if_neg (nI_nle (by omega) (by omega)), hN, if_neg (fun q => q rfl), dM_eq, eD, nx_inb (show t < 6 by omega) (by omega), nx_ck, nI_clamp (show t < 2147483648 by omega), h49, nI_add]
theorem wyp_len {r a j : Nat} : ∀ d, (wyp J N re r a j).length ≤ (wyp J N re r a (j + d)).length := by
  intro d
  induction d with
  | zero => exact Nat.le_refl _
  | succ d ih =>
    show _ ≤ (wyp J N re r a (j + d + 1)).length
    rw [wyp_S, List.length_append]
    omega
theorem wyp_le {r a j : Nat} (hj : j ≤ N) : (wyp J N re r a j).length ≤ (wyl J N re (r + 1) a).length := by
  have := wyp_len (J := J) (N := N) (re := re) (r := r) (a := a) (j := j) (N - j)
  rw [show j + (N - j) = N by omega] at this
  exact this
theorem df_run {h0 : hs_H} (c : df_n N re W J h0) (hN : N ≤ 10) (hre : re = 0 ∨ re = 1) (hJ : ∀ k, J k < 2 ^ N) (hJa : ∀ a, (J a).testBit a = false) (hW : W < 2 ^ N) (hP : P < 2147483648) (hn : n ≤ 3) : ∀ (r : Nat) (pre : List Nat) (L : List (List Nat)) (G : hs_H), pre.length + r + 1 = n → lastN a0 pre < N → dfS N W n P a0 pre L h0 G → L.length + (wyl J N re (r + 1) (lastN a0 pre)).length ≤ 1000 → ∃ d G', d ≤ 10 * cD r + 1 ∧ lps dbF d (nI n, nI P, nI (pre.length + 1), nI 0, G) (nI n, nI P, nI pre.length, nI (lastN a0 pre + 1), G') ∧ dfS N W n P a0 pre (L ++ (wyl J N re (r + 1) (lastN a0 pre)).map (fun l => pre ++ l)) h0 G' := by
  have hp := p2_lt hN
  intro r
  induction r with
  | zero =>
    intro pre L G hr ha p hL
    have inner : ∀ j, j ≤ N → ∃ d G', d ≤ j * cD 0 ∧ lps dbF d (nI n, nI P, nI (pre.length + 1), nI 0, G) (nI n, nI P, nI (pre.length + 1), nI j, G') ∧ dfS N W n P a0 pre (L ++ (wyp J N re 0 (lastN a0 pre) j).map (fun l => pre ++ l)) h0 G' := by
      intro j
      induction j with
      | zero => intro _; exact ⟨0, G, Nat.zero_le _, lps_rf, by rw [show wyp J N re 0 (lastN a0 pre) 0 = [] from rfl, List.map_nil, List.append_nil]; exact p⟩
      | succ j ih =>
        intro hj
        obtain ⟨d, G1, d1, d2, d3⟩ := ih (by omega)
        obtain ⟨n1, n2, n3, n4⟩ := df_net c d3
        have e49 : G1.1 49 0 pre.length = nI (lastN a0 pre) := by rw [(d3.2.1 pre.length (Nat.le_refl _)).1, nthN_last]
        have e181 := sp_181 (h := G1) (p := lastN a0 pre) (i := j) n2 hre n4 hJa (by have := hJ (lastN a0 pre); omega) (by omega) (by omega)
        have hlen := wyp_le (J := J) (re := re) (r := 0) (a := lastN a0 pre) (show j + 1 ≤ N by omega)
        rw [wyp_S] at hlen ⊢
        by_cases hb : (mvs J re (lastN a0 pre)).testBit j = true
        · rw [if_pos hb] at hlen ⊢
          have sm := smA_ok pre (sm0 W a0) pre.length sm0_ok.1 sm0_ok.2
          have e189 := sp_189s (h := G1) (t := pre.length) (to := j) (s := smA W (sm0 W a0) pre pre.length) n1 n3 hN (by omega) (by omega) (by omega) sm.1 sm.2 (d3.2.1 pre.length (Nat.le_refl _)).2
          have q1 := df_push (j := j) hN (by omega) d3
          have hl1 : (pre ++ [j]).length = n := by rw [List.length_append]; show pre.length + 1 = n; omega
          rw [List.length_append, List.length_map] at hlen
          obtain ⟨G2, g1, g2⟩ := df_take (l := pre ++ [j]) hN hP hn hl1 (by rw [lastN_app]; omega) (by
            rw [List.length_append, List.length_map]
            have : (wyl J N re 0 j).length = 1 := rfl
            omega) c.1 q1
          refine ⟨d + 1, G2, by rw [Nat.add_mul]; show d + 1 ≤ j * cD 0 + 1 * 1; omega, lps_tr d2 (lps_1 (fun k => ?_)), ?_⟩
          · show hb_203_60 k (nI n) (nI P) (nI (pre.length + 1)) (nI j) G1 = _
            unfold hb_203_60
            rw [if_neg (nI_nle (by omega) (by omega)), n1, if_pos (fun q => by have := nI_inj (by omega) (by omega) q; omega), pk_sub (by omega), Nat.add_sub_cancel, nx_inb (show pre.length < 6 by omega) (by omega), nx_ck, nI_clamp (show pre.length < 2147483648 by omega), e49, e181, Option.bind_some]
            dsimp only
            rw [hb, if_pos (by decide), e189, Option.bind_some, if_neg (fun q => q (by rw [show pre.length + 1 = n by omega])), g1, Option.bind_some, nI_add]
          · have := df_pop g2
            rw [List.append_assoc] at this
            rw [List.map_append]
            exact this
        · rw [if_neg hb, List.append_nil]
          refine ⟨d + 1, G1, by rw [Nat.add_mul]; show d + 1 ≤ j * cD 0 + 1 * 1; omega, lps_tr d2 (lps_1 (fun k => ?_)), d3⟩
          show hb_203_60 k (nI n) (nI P) (nI (pre.length + 1)) (nI j) G1 = _
          unfold hb_203_60
          rw [if_neg (nI_nle (by omega) (by omega)), n1, if_pos (fun q => by have := nI_inj (by omega) (by omega) q; omega), pk_sub (by omega), Nat.add_sub_cancel, nx_inb (show pre.length < 6 by omega) (by omega), nx_ck, nI_clamp (show pre.length < 2147483648 by omega), e49, e181, Option.bind_some]
          dsimp only
          rw [if_neg (fun q => q ((bI_e0 _).mpr hb)), nI_add]
    obtain ⟨d, G1, d1, d2, d3⟩ := inner N (Nat.le_refl _)
    have e49 : G1.1 49 0 pre.length = nI (lastN a0 pre) := by rw [(d3.2.1 pre.length (Nat.le_refl _)).1, nthN_last]
    have hmul : N * cD 0 ≤ 10 * cD 0 := Nat.mul_le_mul_right _ hN
    exact ⟨d + 1, G1, by omega, lps_tr d2 (lps_1 (fun k => db_back k (df_net c d3).1 (by omega) e49)), d3⟩
  | succ r ihr =>
    intro pre L G hr ha p hL
    have inner : ∀ j, j ≤ N → ∃ d G', d ≤ j * cD (r + 1) ∧ lps dbF d (nI n, nI P, nI (pre.length + 1), nI 0, G) (nI n, nI P, nI (pre.length + 1), nI j, G') ∧ dfS N W n P a0 pre (L ++ (wyp J N re (r + 1) (lastN a0 pre) j).map (fun l => pre ++ l)) h0 G' := by
      intro j
      induction j with
      | zero => intro _; exact ⟨0, G, Nat.zero_le _, lps_rf, by rw [show wyp J N re (r + 1) (lastN a0 pre) 0 = [] from rfl, List.map_nil, List.append_nil]; exact p⟩
      | succ j ih =>
        intro hj
        obtain ⟨d, G1, d1, d2, d3⟩ := ih (by omega)
        obtain ⟨n1, n2, n3, n4⟩ := df_net c d3
        have e49 : G1.1 49 0 pre.length = nI (lastN a0 pre) := by rw [(d3.2.1 pre.length (Nat.le_refl _)).1, nthN_last]
        have e181 := sp_181 (h := G1) (p := lastN a0 pre) (i := j) n2 hre n4 hJa (by have := hJ (lastN a0 pre); omega) (by omega) (by omega)
        have hlen := wyp_le (J := J) (re := re) (r := r + 1) (a := lastN a0 pre) (show j + 1 ≤ N by omega)
        rw [wyp_S] at hlen ⊢
        by_cases hb : (mvs J re (lastN a0 pre)).testBit j = true
        · rw [if_pos hb] at hlen ⊢
          have sm := smA_ok pre (sm0 W a0) pre.length sm0_ok.1 sm0_ok.2
          have e189 := sp_189s (h := G1) (t := pre.length) (to := j) (s := smA W (sm0 W a0) pre pre.length) n1 n3 hN (by omega) (by omega) (by omega) sm.1 sm.2 (d3.2.1 pre.length (Nat.le_refl _)).2
          have q1 := df_push (j := j) hN (by omega) d3
          have hl1 : (pre ++ [j]).length = pre.length + 1 := by rw [List.length_append]; rfl
          rw [List.length_append, List.length_map] at hlen
          obtain ⟨d', G2, g0, g1, g2⟩ := ihr (pre ++ [j]) _ _ (by omega) (by rw [lastN_app]; omega) q1 (by
            rw [lastN_app, List.length_append, List.length_map]
            omega)
          rw [lastN_app, hl1] at g1
          rw [lastN_app] at g2
          refine ⟨d + (1 + d'), G2, ?_, lps_tr d2 (lps_tr (lps_1 (fun k => ?_)) g1), ?_⟩
          · rw [Nat.add_mul]
            show d + (1 + d') ≤ j * cD (r + 1) + 1 * (10 * cD r + 2)
            omega
          · show hb_203_60 k (nI n) (nI P) (nI (pre.length + 1)) (nI j) G1 = _
            unfold hb_203_60
            rw [if_neg (nI_nle (by omega) (by omega)), n1, if_pos (fun q => by have := nI_inj (by omega) (by omega) q; omega), pk_sub (by omega), Nat.add_sub_cancel, nx_inb (show pre.length < 6 by omega) (by omega), nx_ck, nI_clamp (show pre.length < 2147483648 by omega), e49, e181, Option.bind_some]
            dsimp only
            rw [hb, if_pos (by decide), e189, Option.bind_some, if_pos (fun q => by have := nI_inj (by omega) (by omega) q; omega), nI_add]
          · have := df_pop g2
            rw [List.append_assoc] at this
            rw [List.map_append, List.map_map]
            have ef : ((fun l => pre ++ l) ∘ fun l => j :: l) = fun l => (pre ++ [j]) ++ l := by
              funext l
              show pre ++ j :: l = pre ++ [j] ++ l
              rw [List.append_assoc]
              rfl
            rw [ef]
            exact this
        · rw [if_neg hb, List.append_nil]
          refine ⟨d + 1, G1, ?_, lps_tr d2 (lps_1 (fun k => ?_)), d3⟩
          · rw [Nat.add_mul]
            show d + 1 ≤ j * cD (r + 1) + 1 * (10 * cD r + 2)
            omega
          · show hb_203_60 k (nI n) (nI P) (nI (pre.length + 1)) (nI j) G1 = _
            unfold hb_203_60
            rw [if_neg (nI_nle (by omega) (by omega)), n1, if_pos (fun q => by have := nI_inj (by omega) (by omega) q; omega), pk_sub (by omega), Nat.add_sub_cancel, nx_inb (show pre.length < 6 by omega) (by omega), nx_ck, nI_clamp (show pre.length < 2147483648 by omega), e49, e181, Option.bind_some]
            dsimp only
            rw [if_neg (fun q => q ((bI_e0 _).mpr hb)), nI_add]
    obtain ⟨d, G1, d1, d2, d3⟩ := inner N (Nat.le_refl _)
    have e49 : G1.1 49 0 pre.length = nI (lastN a0 pre) := by rw [(d3.2.1 pre.length (Nat.le_refl _)).1, nthN_last]
    have hmul : N * cD (r + 1) ≤ 10 * cD (r + 1) := Nat.mul_le_mul_right _ hN
    exact ⟨d + 1, G1, by omega, lps_tr d2 (lps_1 (fun k => db_back k (df_net c d3).1 (by omega) e49)), d3⟩
end DR
