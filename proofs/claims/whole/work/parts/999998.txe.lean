/-! The text: both go alike. -/
theorem sheets_fr {K : List (Nat × Option Nat)} {h h' : hs_H} (f : hs_fr K h h') (o : st_outb K st_L4 = true) (p : ∀ k, k < 4 → st_sheet k h) : ∀ k, k < 4 → st_sheet k h' := by
  have e : ∀ q ∈ st_L4, h'.1 q.1 q.2 = h.1 q.1 q.2 := fun q hq => (f q.1 q.2 (fun r hr hh => by
    have h1 := List.all_eq_true.mp (List.all_eq_true.mp o q hq) r hr
    rw [Bool.and_eq_true] at h1
    rcases hh with rfl | rfl
    · simp at h1
    · simp at h1)).1
  intro k hk
  match k, hk with
  | 0, hk => exact st_sheet_dep _ _ (fun q hq => e q (by simp only [List.mem_cons, List.not_mem_nil, or_false] at hq; rcases hq with rfl | rfl | rfl | rfl | rfl <;> decide)) (p 0 hk)
  | 1, hk => exact st_sheet_dep _ _ (fun q hq => e q (by simp only [List.mem_cons, List.not_mem_nil, or_false] at hq; rcases hq with rfl | rfl | rfl | rfl | rfl <;> decide)) (p 1 hk)
  | 2, hk => exact st_sheet_dep _ _ (fun q hq => e q (by simp only [List.mem_cons, List.not_mem_nil, or_false] at hq; rcases hq with rfl | rfl | rfl | rfl | rfl <;> decide)) (p 2 hk)
  | 3, hk => exact st_sheet_dep _ _ (fun q hq => e q (by simp only [List.mem_cons, List.not_mem_nil, or_false] at hq; rcases hq with rfl | rfl | rfl | rfl | rfl <;> decide)) (p 3 hk)
theorem cl_text (b : Nat) (h : hs_H) (hb : b ≤ 1000000) (p : st_all caV chV wyV b h) (pE : stE h) : ∃ r h1 h2, hf_107 h = some (r, h1) ∧ hf_169 h1 = some (r, h2) ∧ st_all caV chV wyV (b + 100) h2 ∧ stE h2 := by
  obtain ⟨N, re, W, Ho, J, st, pl, mv, s, z, t, n, g, c, d, ⟨hc, hd⟩, co, mN, im, ⟨⟨ca1, ca2⟩, ca3, ca4, ca5⟩, sh, ⟨T, hT, tp1, tp2, tp3⟩, mi1, mi2⟩ := p
  obtain ⟨pZ, p5⟩ := pE
  obtain ⟨z5, hz5, h53⟩ := id p5
  -- the tape
  have hb2 : ∀ q, (if q < T then (h.1 47 0 q).toBitVec.toNat else 0) < 256 := fun q => by
    by_cases cq : q < T
    · rw [if_pos cq]
      obtain ⟨-, b, hb, e⟩ := tp3 q cq
      rw [e, nx_tn]
      omega
    · rw [if_neg cq]; omega
  have e47 : ∀ q, q < T → h.1 47 0 q = nI (if q < T then (h.1 47 0 q).toBitVec.toNat else 0) := fun q hq => by
    rw [if_pos hq]
    exact nI_bv _
  generalize htp : (fun q => if q < T then (h.1 47 0 q).toBitVec.toNat else 0) = tp at *
  have hb3 : ∀ q, tp q < 256 := fun q => by rw [← htp]; exact hb2 q
  have e47' : ∀ q, q < T → h.1 47 0 q = nI (tp q) := fun q hq => by rw [← htp]; exact e47 q hq
  have tC : tx_cT T tp h := ⟨tp1, fun k hk => by rw [(tp3 k hk).1]; exact e47' k hk⟩
  obtain ⟨A1, A2⟩ := tx_c53 hT hb3 tC hz5 h53
  obtain ⟨G1, G2⟩ := ab_all_g (tp := tp) hT 400 0 0 tx_s0 (by omega) (Nat.zero_le _) (Nat.le_refl _) tx_s0_ok
  have mT : ∀ H, hs_fr tx_cL h H → tx_mT T tp H := fun H f => by
    unfold tx_mT
    rw [(f 12 0 (by unfold tx_cL; intro q hq; revert q; simp)).1, (f 47 0 (by unfold tx_cL; intro q hq; revert q; simp)).1]
    exact ⟨tp2, e47'⟩
  cases hr : ab_all T tp 400 0 0 tx_s0 with
  | inl e =>
    obtain ⟨H, s1, s2, s3, s4⟩ := A1 e hr
    obtain ⟨g1, g2⟩ := G1 e hr
    have q5 := st5_53 s1 p5
    obtain ⟨M1, -⟩ := tx_m169 hT hb3 (mT H s2)
    obtain ⟨K, k1, ⟨k2, k3⟩, k4, k5⟩ := M1 e hr
    have K6 : K.1 6 0 = H.1 6 0 := (k2 6 0 (by intro q hq; revert q; simp)).1
    have K11 : K.1 11 0 = h.1 11 0 := by rw [(k2 11 0 (by intro q hq; revert q; simp)).1, (s2 11 0 (by unfold tx_cL; intro q hq; revert q; simp)).1]
    have H12 : H.1 12 0 = h.1 12 0 := (s2 12 0 (by unfold tx_cL; intro q hq; revert q; simp)).1
    have K4 : K.1 4 0 = h.1 4 0 := by rw [(k2 4 0 (by intro q hq; revert q; simp)).1, (s2 4 0 (by unfold tx_cL; intro q hq; revert q; simp)).1]
    have K5 : K.1 5 0 = h.1 5 0 := by rw [(k2 5 0 (by intro q hq; revert q; simp)).1, (s2 5 0 (by unfold tx_cL; intro q hq; revert q; simp)).1]
    refine ⟨nI 4294967286 - nI e.2, H, K, ?_, k1, ⟨N, re, W, Ho, J, st, pl, mv, s, z, t, n, g, c, d, ⟨by omega, by omega⟩, st_core_dep.fr k2 rfl (st_core_dep.fr s2 rfl co), ?_, st_imgs_dep.fr k2 rfl (st_imgs_dep.fr s2 rfl im), ⟨⟨by rw [K4]; exact ca1, by rw [K5]; exact ca2⟩, (st_cas_dep wy_V).fr k2 rfl ((st_cas_dep wy_V).fr s2 rfl ca3), (st_cha_dep wy_V).fr k2 rfl ((st_cha_dep wy_V).fr s2 rfl ca4), (st_way_dep wy_V).fr k2 rfl ((st_way_dep wy_V).fr s2 rfl ca5)⟩, sheets_fr k2 rfl (sheets_fr s2 rfl sh), ⟨0, by omega, by rw [K6]; exact s4, k5, fun k hk => absurd hk (Nat.not_lt_zero _)⟩, ?_, ?_⟩, (pZ.fr s2 rfl).fr k2 rfl, q5.fr k2 rfl⟩
    · unfold hf_107 hb_107_70
      rw [s1, Option.bind_some]
      dsimp only
      rw [if_pos (tx_neg e.2 (by omega))]
    · unfold st_mN at mN ⊢
      rw [k3 2 (by omega) (by omega) (by omega), k3 3 (by omega) (by omega) (by omega), k3 4 (by omega) (by omega) (by omega), k3 5 (by omega) (by omega) (by omega), H12]
      exact mN
    · rw [K6, s3, k4]
    · rw [K11, k3 41 (by omega) (by omega) (by omega), H12]
      exact mi2
  | inr x =>
    obtain ⟨H, s1, s2, s3, s4, s5⟩ := A2 x hr
    obtain ⟨g1, g2, g3⟩ := G2 x hr
    obtain ⟨x1, σ⟩ := x
    have q5 := st5_53 s1 p5
    have s3 : tx_cS σ H := s3
    have g2 : tx_ok σ := g2
    have g3 : σ 6 < 2 ^ σ 0 := g3
    obtain ⟨okN', okS'⟩ := tx_okN g2 g3
    -- the class's net, notes
    have nN : st_cN 1 (σ 0) (tx_J σ) (σ 1) (nI (σ 7)) (σ 2) (σ 3) H := ⟨tx_cZ_g s3 (k := 0) ⟨by omega, Or.inl (by omega)⟩ rfl, tx_cZ_g s3 (k := 1) ⟨by omega, Or.inl (by omega)⟩ rfl, tx_cZ_g s3 (k := 7) ⟨by omega, Or.inl (by omega)⟩ rfl, tx_cZ_g s3 (k := 2) ⟨by omega, Or.inl (by omega)⟩ rfl, tx_cZ_g s3 (k := 3) ⟨by omega, Or.inl (by omega)⟩ rfl, fun k hk => by
      unfold tx_J
      rw [if_pos hk]
      exact tx_cZ_g s3 (k := 10 + k) ⟨by omega, Or.inr (Or.inl (by omega))⟩ (by
        unfold tx_lc
        rw [if_neg (by omega), if_pos (by omega), Nat.add_sub_cancel_left])⟩
    have h4 := g2.2.2.2.2.2.2.2.1
    have nS : st_cS 1 (σ 4) (fun k => σ (30 + 3 * k)) (fun k => σ (31 + 3 * k)) (fun k => σ (32 + 3 * k)) H := ⟨tx_cZ_g s3 (k := 4) ⟨by omega, Or.inl (by omega)⟩ rfl, fun k hk => by
      obtain ⟨l1, l2, l3⟩ := tx_lc_s k (by omega)
      exact ⟨tx_cZ_g s3 (k := 30 + 3 * k) ⟨by omega, Or.inr (Or.inr (by omega))⟩ l1, tx_cZ_g s3 (k := 31 + 3 * k) ⟨by omega, Or.inr (Or.inr (by omega))⟩ l2, tx_cZ_g s3 (k := 32 + 3 * k) ⟨by omega, Or.inr (Or.inr (by omega))⟩ l3⟩⟩
    have f1 := cpN_fr (h := H) (o := 0) (p := 1)
    have n1 := cpN_N (o := 0) nN
    have c6 : (cpN H 0 1).1 4 0 6 = nI (c + 1) := by
      rw [cpN_6, (s2 4 0 (by unfold tx_cL; intro q hq; revert q; simp)).1, ca1, nI_add]
    have e107 : hf_107 h = (hf_48_5 0 1 (cpN H 0 1)).bind (fun q4 => (hf_87 0 q4).bind (fun q5 => hs_lp (fun k s => hb_107_49 k s.1 s.2.1 s.2.2) hs_big (nI x1, nI 0, q5))) := by
      unfold hf_107
      rw [s1, Option.bind_some]
      dsimp only
      rw [if_neg (nI_pos (show x1 < 2147483648 by have : x1 ≤ T := g1; omega)), sp_28 (by omega), Option.bind_some]
    generalize cpN H 0 1 = D at f1 n1 c6 e107
    have nS1 : st_cS 1 (σ 4) (fun k => σ (30 + 3 * k)) (fun k => σ (31 + 3 * k)) (fun k => σ (32 + 3 * k)) D := st_cS_dep.fr f1 rfl nS
    have f2 := cpS_fr (h := D) (o := 0) (p := 1)
    have n2 := cpS_S (o := 0) h4 nS1
    have c4 : (cpS D 0 1).1 5 0 4 = nI (d + 1) := by
      rw [cpS_4, (f1 5 0 (by intro q hq; revert q; simp)).1, (s2 5 0 (by unfold tx_cL; intro q hq; revert q; simp)).1, ca2, nI_add]
    rw [sp_48 (by omega), Option.bind_some] at e107
    generalize cpS D 0 1 = E at f2 n2 c4 e107
    have f3 : hs_fr [(33, some 0), (9, some 0)] E (hs_put (hs_put (hs_row E 33 0 10 (fun _ => nI 0)) 9 0 1 (nI 4294967292)) 9 0 2 (nI 0)) := ((hs_row_fr (.inl (.head _))).put (.inl (.tail _ (.head _)))).put (.inl (.tail _ (.head _)))
    have n3 : st_cF 0 (nI 4294967292) (nI 0) (fun _ => 0) (hs_put (hs_put (hs_row E 33 0 10 (fun _ => nI 0)) 9 0 1 (nI 4294967292)) 9 0 2 (nI 0)) := by
      refine ⟨?_, ?_, fun k hk => ?_⟩
      · rw [nx_get, if_neg (by omega), nx_get, if_pos ⟨rfl, rfl, rfl⟩]
      · rw [nx_get, if_pos ⟨rfl, rfl, rfl⟩]
      · rw [nx_get, if_neg (by omega), nx_get, if_neg (by omega), nx_rowget, if_pos ⟨rfl, rfl, hk⟩]
    rw [sp_87, Option.bind_some] at e107
    generalize hs_put (hs_put (hs_row E 33 0 10 (fun _ => nI 0)) 9 0 1 (nI 4294967292)) 9 0 2 (nI 0) = F at f3 n3 e107
    have e49 : hs_lp (fun k s => hb_107_49 k s.1 s.2.1 s.2.2) hs_big (nI x1, nI 0, F) = some (nI x1, hs_put (hs_put F 3 0 3 (nI 0)) 3 1 3 (nI 0)) := by
      refine lps_fin (F := fun k s => hb_107_49 k s.1 s.2.1 s.2.2) (d := 1 + 1) (lps_tr (s' := (nI x1, nI 1, hs_put F 3 0 3 (nI 0))) (s2 := (nI x1, nI 2, hs_put (hs_put F 3 0 3 (nI 0)) 3 1 3 (nI 0))) (lps_1 (fun k => ?_)) (lps_1 (fun k => ?_))) (lp_big (by omega)) (fun k => ?_)
      · show hb_107_49 k (nI x1) (nI 0) F = _
        unfold hb_107_49
        rw [if_neg (show ¬ nI 2 ≤ nI 0 by decide), nx_inb (show 0 < 2 by omega) (by omega), nx_ck, nI_clamp (show 0 < 2147483648 by omega), nI_add]
      · show hb_107_49 k (nI x1) (nI 1) (hs_put F 3 0 3 (nI 0)) = _
        unfold hb_107_49
        rw [if_neg (show ¬ nI 2 ≤ nI 1 by decide), nx_inb (show 1 < 2 by omega) (by omega), nx_ck, nI_clamp (show 1 < 2147483648 by omega), nI_add]
      · show hb_107_49 k (nI x1) (nI 2) _ = _
        unfold hb_107_49 hb_107_70
        rw [if_pos (show nI 2 ≤ nI 2 by decide)]
    rw [e49] at e107
    have f4 : hs_fr [(3, some 0), (3, some 1)] F (hs_put (hs_put F 3 0 3 (nI 0)) 3 1 3 (nI 0)) := (hs_fr.rf.put (.inl (.head _))).put (.inl (.tail _ (.head _)))
    have i0 : (hs_put (hs_put F 3 0 3 (nI 0)) 3 1 3 (nI 0)).1 3 0 3 = 0 := by
      rw [nx_get, if_neg (by omega), nx_get, if_pos ⟨rfl, rfl, rfl⟩]
      rfl
    have i1 : (hs_put (hs_put F 3 0 3 (nI 0)) 3 1 3 (nI 0)).1 3 1 3 = 0 := by
      rw [nx_get, if_pos ⟨rfl, rfl, rfl⟩]
      rfl
    generalize hs_put (hs_put F 3 0 3 (nI 0)) 3 1 3 (nI 0) = C at f4 i0 i1 e107
    have fC := hz_107 e107
    -- what stands at the class's end
    have HC : ∀ c i, (c = 12 ∨ c = 47 ∨ c = 6 ∨ c = 11 ∨ c = 46) → C.1 c i = H.1 c i := fun c i hc => by
      have q1 := (f1 c i (by intro q hq hh; rcases hh with rfl | rfl <;> simp at hq <;> omega)).1
      have q2 := (f2 c i (by intro q hq hh; rcases hh with rfl | rfl <;> simp at hq <;> omega)).1
      have q3 := (f3 c i (by intro q hq hh; rcases hh with rfl | rfl <;> simp at hq <;> omega)).1
      have q4 := (f4 c i (by intro q hq hh; rcases hh with rfl | rfl <;> simp at hq <;> omega)).1
      rw [q4, q3, q2, q1]
    have mTC : tx_mT T tp C := by
      have := mT H s2
      unfold tx_mT at this ⊢
      rw [HC 12 0 (by omega), HC 47 0 (by omega)]
      exact this
    obtain ⟨-, M2⟩ := tx_m169 hT hb3 mTC
    obtain ⟨K, k1, ⟨k2, k3⟩, k4, k5, k6⟩ := M2 _ hr
    have k4 : tx_mS σ K := k4
    obtain ⟨m1, m2, m3⟩ := k4
    obtain ⟨G, w1, w2, w3, ⟨w4, w5, w6, w7⟩, w8, w9, w10⟩ := sp_154 (h := K)
    rw [w1, Option.bind_some] at k1
    have fG : hs_fr [(12, some 0), (44, some 0), (45, some 0), (46, some 0)] C G := hz_169 k1
    have cN' : st_cN 0 (σ 0) (tx_J σ) (σ 1) (nI (σ 7)) (σ 2) (σ 3) G := st_cN_dep.fr fG rfl (st_cN_dep.fr f4 rfl (st_cN_dep.fr f3 rfl (st_cN_dep.fr f2 rfl n1)))
    have cS' := st_cS_dep.fr fG rfl (st_cS_dep.fr f4 rfl (st_cS_dep.fr f3 rfl n2))
    have cF' := st_cF_dep.fr fG rfl (st_cF_dep.fr f4 rfl n3)
    have G4 : G.1 4 0 6 = nI (c + 1) := by
      rw [(fG 4 0 (by intro q hq; revert q; simp)).1, (f4 4 0 (by intro q hq; revert q; simp)).1, (f3 4 0 (by intro q hq; revert q; simp)).1, (f2 4 0 (by intro q hq; revert q; simp)).1]
      exact c6
    have G5 : G.1 5 0 4 = nI (d + 1) := by
      rw [(fG 5 0 (by intro q hq; revert q; simp)).1, (f4 5 0 (by intro q hq; revert q; simp)).1, (f3 5 0 (by intro q hq; revert q; simp)).1]
      exact c4
    have G6 : G.1 6 0 = H.1 6 0 := by rw [(fG 6 0 (by intro q hq; revert q; simp)).1, HC 6 0 (by omega)]
    have G11 : G.1 11 0 = h.1 11 0 := by rw [(fG 11 0 (by intro q hq; revert q; simp)).1, (fC 11 0 (by intro q hq; revert q; simp)).1]
    have C12 : C.1 12 0 = h.1 12 0 := by rw [HC 12 0 (by omega), (s2 12 0 (by unfold tx_cL; intro q hq; revert q; simp)).1]
    have G3 : ∀ i, G.1 3 i = C.1 3 i := fun i => (fG 3 i (by intro q hq hh; rcases hh with rfl | rfl <;> simp at hq)).1
    have m46 : ∀ k, k < 54 → G.1 44 0 k = K.1 46 0 k := w3
    have mJ' : st_mJ 44 0 (tx_J σ) (nI (σ 7)) G := ⟨fun k hk => by
      rw [Nat.zero_add, m46 k (by omega)]
      unfold tx_J
      rw [if_pos hk]
      exact tx_mZ_g m1 (k := 10 + k) ⟨by omega, Or.inr (Or.inl (by omega))⟩ (by omega) (tx_lm_j k hk), by
      rw [m46 (0 + 10) (by omega)]
      exact tx_mZ_g m1 (k := 7) ⟨by omega, Or.inl (by omega)⟩ (by omega) rfl⟩
    have mF' : st_mF 44 0 (nI 4294967292) (nI 0) (fun _ => 0) G := ⟨by rw [m46 (0 + 11) (by omega)]; exact m3.1, by rw [m46 (0 + 12) (by omega)]; exact m3.2 12 (by omega) (by omega), fun k hk => by rw [m46 (0 + 13 + k) (by omega)]; exact m3.2 (0 + 13 + k) (by omega) (by omega)⟩
    have mS' : st_mS 44 0 (σ 4) (fun k => σ (30 + 3 * k)) (fun k => σ (31 + 3 * k)) (fun k => σ (32 + 3 * k)) G := ⟨by
      rw [m46 (0 + 23) (by omega)]
      exact tx_mZ_g m1 (k := 4) ⟨by omega, Or.inl (by omega)⟩ (by omega) rfl, fun k hk => by
      obtain ⟨l1, l2, l3⟩ := tx_lm_s k (by omega)
      rw [m46 (0 + 24 + 3 * k) (by omega), m46 (0 + 25 + 3 * k) (by omega), m46 (0 + 26 + 3 * k) (by omega), Nat.zero_add, Nat.zero_add, Nat.zero_add]
      exact ⟨tx_mZ_g m1 (k := 30 + 3 * k) ⟨by omega, Or.inr (Or.inr (by omega))⟩ (by omega) l1, tx_mZ_g m1 (k := 31 + 3 * k) ⟨by omega, Or.inr (Or.inr (by omega))⟩ (by omega) l2, tx_mZ_g m1 (k := 32 + 3 * k) ⟨by omega, Or.inr (Or.inr (by omega))⟩ (by omega) l3⟩⟩
    have okF' : ok_F (σ 0) (σ 2) (nI 4294967292) (fun _ => 0) := ⟨Or.inl rfl, fun _ => Nat.zero_le _, fun _ _ => rfl, fun _ _ => rfl⟩
    have ca3' := (st_cas_dep wy_V).fr fG rfl ((st_cas_dep wy_V).fr fC rfl ca3)
    have ca4' := (st_cha_dep wy_V).fr fG rfl ((st_cha_dep wy_V).fr fC rfl ca4)
    have ca5' := (st_way_dep wy_V).fr fG rfl ((st_way_dep wy_V).fr fC rfl ca5)
    refine ⟨nI x1, C, G, e107, k1, ⟨σ 0, σ 1, σ 2, σ 3, tx_J σ, nI (σ 7), nI 4294967292, nI 0, fun _ => 0, σ 4, _, _, _, c + 1, d + 1, ⟨by omega, by omega⟩, ⟨⟨okN', okF', okS'⟩, ⟨cN', cF', cS'⟩, mJ', mF', mS'⟩, ?_, ⟨⟨?_, Or.inl ?_⟩, ⟨?_, Or.inl ?_⟩⟩, ⟨⟨G4, G5⟩, st_cas_new (by omega) ca3', st_cha_new (by omega) ca4', st_way_new (by omega) (by omega) (Or.inl (by omega)) ca5'⟩, sheets_fr fG rfl (sheets_fr fC rfl sh), ⟨0, by omega, by rw [G6]; exact s5, by rw [w8 14 (by omega)]; exact k6, fun k hk => absurd hk (Nat.not_lt_zero _)⟩, ?_, ?_⟩, (pZ.fr fC rfl).fr fG rfl, ?_⟩
    · exact ⟨by rw [w4]; exact tx_mZ_g m1 (k := 0) ⟨by omega, Or.inl (by omega)⟩ (by omega) rfl, by rw [w5]; exact tx_mZ_g m1 (k := 1) ⟨by omega, Or.inl (by omega)⟩ (by omega) rfl, by rw [w6]; exact tx_mZ_g m1 (k := 2) ⟨by omega, Or.inl (by omega)⟩ (by omega) rfl, by rw [w7]; exact tx_mZ_g m1 (k := 3) ⟨by omega, Or.inl (by omega)⟩ (by omega) rfl⟩
    · rw [G3, i0, w9]
    · rw [G3, i0]
    · rw [G3, i1, w10]
    · rw [G3, i1]
    · rw [G6, s4, w8 19 (by omega), k5]
    · rw [G11, w8 41 (by omega), k3 41 (by omega) (by omega) (by omega), C12]
      exact mi2
    · exact (((((q5.fr f1 rfl).fr f2 rfl).fr f3 rfl).fr f4 rfl)).fr fG rfl
