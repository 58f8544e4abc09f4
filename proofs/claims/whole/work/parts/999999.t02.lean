/-! The law: a round of it. -/
theorem lw_cs {f g : hs_H → Option (Int32 × hs_H)} (c : stE_call f g) {b : Nat} {h : hs_H} (hb : b ≤ 1000000) (p : st_all caV chV wyV b h) (pE : stE h) (K : hs_H → Option (Int32 × hs_H)) : ∃ h2, st_all caV chV wyV (b + 100) h2 ∧ stE h2 ∧ ((f h).bind (fun q => (g q.2).bind (fun q2 => if q.1 = q2.1 then K q2.2 else some (nI 0, q2.2)))) = K h2 := by
  obtain ⟨r, h1, h2, e1, e2, e3, e4⟩ := c b h hb p pE
  refine ⟨h2, e3, e4, ?_⟩
  rw [e1, Option.bind_some, e2, Option.bind_some, if_pos rfl]
set_option maxRecDepth 100000 in
set_option maxHeartbeats 4000000 in
theorem lw_round {S : hs_S} (k : Int32 × hs_H → Option (Int32 × hs_H)) (hS : S.1 ≤ 320) {i b : Nat} (hi : i + 5 ≤ S.1) {h : hs_H} (hb : b ≤ 1000000) (p : st_all caV chV wyV b h) (pE : stE h) : ∃ h2, st_all caV chV wyV (b + 100) h2 ∧ stE h2 ∧ hb_999_18 S k (nI i) h = k (nI (i + 5), h2) := by
  have K5 : ∀ H, hb_999_1400 S k (nI i) H = k (nI (i + 5), H) := fun H => by
    unfold hb_999_1400
    rw [nI_add]
  have k0 : hs_inb (nI i) S.1 = true := nx_inb (by omega) (by omega)
  have k1 : hs_inb (nI i + nI 1) S.1 = true := by rw [nI_add]; exact nx_inb (by omega) (by omega)
  have k2 : hs_inb (nI i + nI 2) S.1 = true := by rw [nI_add]; exact nx_inb (by omega) (by omega)
  have k3 : hs_inb (nI i + nI 3) S.1 = true := by rw [nI_add]; exact nx_inb (by omega) (by omega)
  have k4 : hs_inb (nI i + nI 4) S.1 = true := by rw [nI_add]; exact nx_inb (by omega) (by omega)
  have en : nI S.1 - nI 5 = nI (S.1 - 5) := pk_sub (by omega)
  suffices w : ∃ h2, st_all caV chV wyV (b + 100) h2 ∧ stE h2 ∧ hb_999_18 S k (nI i) h = hb_999_1400 S k (nI i) h2 by
    obtain ⟨h2, w1, w2, w3⟩ := w
    exact ⟨h2, w1, w2, w3.trans (K5 h2)⟩
  unfold hb_999_18
  rw [en, if_neg (nI_nlt (by omega) (by omega)), k0, nx_ck]
  generalize S.2 (nI i).toNatClampNeg &&& nI 63 = op
  by_cases c0 : op = nI 0
  · rw [if_pos c0]
    simp only [k1, k2, k3, k4, nx_ck]
    exact lw_cs ec_feed hb p pE _
  rw [if_neg c0]
  by_cases c1 : op = nI 1
  · rw [if_pos c1]
    simp only [k1, k2, k3, k4, nx_ck]
    exact lw_cs ec_end hb p pE _
  rw [if_neg c1]
  by_cases c2 : op = nI 2
  · rw [if_pos c2]
    exact lw_cs ec_text hb p pE _
  rw [if_neg c2]
  by_cases c3 : op = nI 3
  · rw [if_pos c3]
    exact lw_cs ec_fault hb p pE _
  rw [if_neg c3]
  by_cases c4 : op = nI 4
  · rw [if_pos c4]
    simp only [k1, k2, k3, k4, nx_ck]
    exact lw_cs ec_rule hb p pE _
  rw [if_neg c4]
  by_cases c5 : op = nI 5
  · rw [if_pos c5]
    simp only [k1, k2, k3, k4, nx_ck]
    exact lw_cs ec_lanes hb p pE _
  rw [if_neg c5]
  by_cases c6 : op = nI 6
  · rw [if_pos c6]
    unfold hb_999_372 hb_999_399
    simp only [k1, k2, k3, k4, nx_ck]
    by_cases z : S.2 (nI i + nI 3).toNatClampNeg = 0
    · simp only [if_pos z]
      exact lw_cs (ec_join (is := false)) hb p pE _
    · simp only [if_neg z]
      exact lw_cs (ec_join (is := true)) hb p pE _
  rw [if_neg c6]
  by_cases c7 : op = nI 7
  · rw [if_pos c7]
    simp only [k1, k2, k3, k4, nx_ck]
    exact lw_cs ec_start hb p pE _
  rw [if_neg c7]
  by_cases c8 : op = nI 8
  · rw [if_pos c8]
    simp only [k1, k2, k3, k4, nx_ck]
    exact lw_cs ec_far hb p pE _
  rw [if_neg c8]
  by_cases c9 : op = nI 9
  · rw [if_pos c9]
    simp only [k1, k2, k3, k4, nx_ck]
    exact lw_cs ec_fox hb p pE _
  rw [if_neg c9]
  by_cases c10 : op = nI 10
  · rw [if_pos c10]
    simp only [k1, k2, k3, k4, nx_ck]
    exact lw_cs ec_go hb p pE _
  rw [if_neg c10]
  by_cases c11 : op = nI 11
  · rw [if_pos c11]
    simp only [k1, k2, k3, k4, nx_ck]
    exact lw_cs ec_smell hb p pE _
  rw [if_neg c11]
  by_cases c12 : op = nI 12
  · rw [if_pos c12]
    simp only [k1, k2, k3, k4, nx_ck]
    exact lw_cs ec_now hb p pE _
  rw [if_neg c12]
  by_cases c13 : op = nI 13
  · rw [if_pos c13]
    simp only [k1, k2, k3, k4, nx_ck]
    exact lw_cs ec_smelt hb p pE _
  rw [if_neg c13]
  by_cases c14 : op = nI 14
  · rw [if_pos c14]
    simp only [k1, k2, k3, k4, nx_ck]
    exact lw_cs ec_forget hb p pE _
  rw [if_neg c14]
  by_cases c15 : op = nI 15
  · rw [if_pos c15]
    simp only [k1, k2, k3, k4, nx_ck]
    exact lw_cs ec_ways hb p pE _
  rw [if_neg c15]
  by_cases c16 : op = nI 16
  · rw [if_pos c16]
    simp only [k1, k2, k3, k4, nx_ck]
    exact lw_cs ec_can hb p pE _
  rw [if_neg c16]
  by_cases c17 : op = nI 17
  · rw [if_pos c17]
    simp only [k1, k2, k3, k4, nx_ck]
    exact lw_cs ec_sure hb p pE _
  rw [if_neg c17]
  by_cases c18 : op = nI 18
  · rw [if_pos c18]
    simp only [k1, k2, k3, k4, nx_ck]
    exact lw_cs ec_way hb p pE _
  rw [if_neg c18]
  by_cases c19 : op = nI 19
  · rw [if_pos c19]
    exact lw_cs ec_cannot hb p pE _
  rw [if_neg c19]
  by_cases c20 : op = nI 20
  · rw [if_pos c20]
    simp only [k1, k2, k3, k4, nx_ck]
    exact lw_cs ec_doubt hb p pE _
  rw [if_neg c20]
  by_cases c21 : op = nI 21
  · rw [if_pos c21]
    simp only [k1, k2, k3, k4, nx_ck]
    exact lw_cs ec_post hb p pE _
  rw [if_neg c21]
  by_cases c22 : op = nI 22
  · rw [if_pos c22]
    simp only [k1, k2, k3, k4, nx_ck]
    exact lw_cs ec_casts hb p pE _
  rw [if_neg c22]
  by_cases c23 : op = nI 23
  · rw [if_pos c23]
    exact lw_cs ec_need hb p pE _
  rw [if_neg c23]
  by_cases c24 : op = nI 24
  · rw [if_pos c24]
    simp only [k1, k2, k3, k4, nx_ck]
    exact lw_cs ec_left hb p pE _
  rw [if_neg c24]
  by_cases c25 : op = nI 25
  · rw [if_pos c25]
    simp only [k1, k2, k3, k4, nx_ck]
    exact lw_cs ec_caught hb p pE _
  rw [if_neg c25]
  by_cases c26 : op = nI 26
  · rw [if_pos c26]
    simp only [k1, k2, k3, k4, nx_ck]
    exact lw_cs ec_flees hb p pE _
  rw [if_neg c26]
  by_cases c27 : op = nI 27
  · rw [if_pos c27]
    simp only [k1, k2, k3, k4, nx_ck]
    exact lw_cs ec_best hb p pE _
  rw [if_neg c27]
  by_cases c28 : op = nI 28
  · rw [if_pos c28]
    simp only [k1, k2, k3, k4, nx_ck]
    exact lw_cs ec_open hb p pE _
  rw [if_neg c28]
  by_cases c29 : op = nI 29
  · rw [if_pos c29]
    simp only [k1, k2, k3, k4, nx_ck]
    exact lw_cs ec_stop hb p pE _
  rw [if_neg c29]
  by_cases c30 : op = nI 30
  · rw [if_pos c30]
    simp only [k1, k2, k3, k4, nx_ck]
    exact lw_cs ec_season hb p pE _
  rw [if_neg c30]
  by_cases c31 : op = nI 31
  · rw [if_pos c31]
    simp only [k1, k2, k3, k4, nx_ck]
    exact lw_cs ec_keep hb p pE _
  rw [if_neg c31]
  by_cases c32 : op = nI 32
  · rw [if_pos c32]
    simp only [k1, k2, k3, k4, nx_ck]
    exact lw_cs ec_back hb p pE _
  rw [if_neg c32]
  by_cases c33 : op = nI 33
  · rw [if_pos c33]
    simp only [k1, k2, k3, k4, nx_ck]
    exact lw_cs ec_sheet hb p pE _
  rw [if_neg c33]
  by_cases c34 : op = nI 34
  · rw [if_pos c34]
    simp only [k1, k2, k3, k4, nx_ck]
    exact lw_cs ec_lay hb p pE _
  rw [if_neg c34]
  by_cases c35 : op = nI 35
  · rw [if_pos c35]
    simp only [k1, k2, k3, k4, nx_ck]
    exact lw_cs ec_read hb p pE _
  rw [if_neg c35]
  by_cases c36 : op = nI 36
  · rw [if_pos c36]
    exact lw_cs ec_torn hb p pE _
  rw [if_neg c36]
  by_cases c37 : op = nI 37
  · rw [if_pos c37]
    simp only [k1, k2, k3, k4, nx_ck]
    exact lw_cs ec_count hb p pE _
  rw [if_neg c37]
  exact ⟨h, p.up caV chV wyV (by omega), pE, rfl⟩
