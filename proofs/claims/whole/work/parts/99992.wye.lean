/-! Ways that fit: one search of the class. -/
/-- ahead of turn 0 there are no smells -/
def stZ (h : hs_H) : Prop := ∀ k, k < 10 → h.1 35 0 k = nI 0
/-- all fitting ways of n turns, by the first m -/
def wyZ (N re W : Nat) (J : Nat → Nat) (st : Int32) (tn nn gn : Nat → Nat) (n m : Nat) : List (List Nat) := wyG (mvs J re) N W (fun t s => fitB tn nn gn t s m) (n + 1) 0 (sel (bgn st) N) z0
def cwK2 : List (Nat × Option Nat) := [(10, some 0), (35, none), (37, none), (38, some 0), (39, some 0), (40, some 0), (41, some 0)]
section CS
variable {N re W n m z T : Nat} {J : Nat → Nat} {st : Int32} {tn nn gn : Nat → Nat} {one : Bool}
theorem wyX_nil : wyX N re W J st tn nn gn n m [] = wyZ N re W J st tn nn gn n m := List.map_id' _
theorem cb_next (hN : N ≤ 10) (hJ : ∀ k, J k < 2 ^ N) (hre : re = 0 ∨ re = 1) (hf : ∀ u, T < u → u ≤ n → ∀ s, fitB tn nn gn u s m = true) {u : Nat} (hu : T < u) (hun : u ≤ n) : cbL (wyZ N re W J st tn nn gn n m) u = mvA J re (cbL (wyZ N re W J st tn nn gn n m) (u - 1)) N &&& onw J N re (n - u) := tb_iff fun i => by
  obtain ⟨p, rfl⟩ : ∃ p, u = p + 1 := ⟨u - 1, by omega⟩
  rw [Nat.add_sub_cancel, Nat.testBit_and, Bool.and_eq_true, tb_mvA, tb_onw, tb_cbL]
  unfold wyZ
  constructor
  · rintro ⟨l, h1, h2⟩
    have g := (mem_wyG _ _ _ _ l).mp h1
    obtain ⟨a1, a2, a3, -⟩ := isG_at (J := J) (re := re) hN p (n + 1) 0 _ _ l (by omega) g
    obtain ⟨b1, b2, -, -⟩ := isG_at (J := J) (re := re) hN (p + 1) (n + 1) 0 _ _ l (by omega) g
    rw [← h2]
    refine ⟨⟨nz l p, a1, tb_cbL _ |>.mpr ⟨l, h1, rfl⟩, a3 (by omega)⟩, b1, ?_⟩
    rw [show n - (p + 1) = n + 1 - (p + 1) - 1 by omega]
    exact b2
  · rintro ⟨⟨y, h1, h2, h3⟩, h4, h5⟩
    obtain ⟨l, g1, g2⟩ := (tb_cbL _).mp h2
    have g := (mem_wyG _ _ _ _ l).mp g1
    obtain ⟨l', q1, q2⟩ := isG_swap hN hJ hre h4 p (n + 1) 0 _ _ l (by omega) (fun v h1 h2 s => hf v (by omega) (by omega) s) g (by rw [g2]; exact h3) (by rw [show n + 1 - p - 2 = n - (p + 1) by omega]; exact h5)
    exact ⟨l', (mem_wyG _ _ _ _ l').mpr q1, q2⟩
theorem sp_97 {h : hs_H} (hN : N ≤ 10) (hJ : ∀ k, J k < 2 ^ N) (hre : re = 0 ∨ re = 1) (hst : st = nI 4294967292 ∨ ∃ i, i < N ∧ st = nI i) (hW : W < 2 ^ N) (hz : z ≤ 10) (hm : m ≤ z) (ok : ∀ k, k < z → tn k ≤ 5 ∧ nn k < N ∧ gn k ≤ 18) (hn : n ≤ 5) (c1 : ch_n N re J h) (c2 : h.1 4 0 3 = st ∧ h.1 4 0 4 = nI W) (c3 : h.1 5 0 3 = nI z ∧ ∀ k, k < z → h.1 28 0 k = nI (tn k) ∧ h.1 29 0 k = nI (nn k) ∧ h.1 30 0 k = nI (gn k)) (hZ : stZ h) : ∃ H, hf_97 (nI n) (nI m) (bI one) h = some H ∧ hs_fr cwK2 h H ∧ stZ H ∧ (∀ x, x = 14 ∨ x = 15 ∨ x = 16 → H.1 10 0 x = h.1 10 0 x) ∧ (∃ v, H.1 10 0 8 = nI v ∧ v ≤ 1000000 ∧ (one = false → v = (wyZ N re W J st tn nn gn n m).length) ∧ (0 < v ↔ wyZ N re W J st tn nn gn n m ≠ [])) ∧ (one = false → (∀ u, u ≤ n → H.1 40 0 u = nI (cbL (wyZ N re W J st tn nn gn n m) u)) ∧ ∀ x X, wyZ N re W J st tn nn gn n m = x :: X → ∀ u, u ≤ n → H.1 41 0 u = nI (nz x u)) := by
  have hp := p2_lt hN
  have hT := ltT_le (tn := tn) (n := n) m
  have hf : ∀ u, ltT tn n m < u → u ≤ n → ∀ s, fitB tn nn gn u s m = true := fun u h1 h2 s => (fitB_iff m).mpr (fun k hk ht => by
    have := ltT_hi (tn := tn) (n := n) m k hk (by omega)
    omega)
  generalize hTT : ltT tn n m = T at hT hf
  -- the fields are set
  have f0 : ∀ c i k, c ≠ 10 → (hs_put (hs_put (hs_put (hs_put h 10 0 9 (nI n)) 10 0 10 (nI m)) 10 0 12 (bI one)) 10 0 13 (nI 0)).1 c i k = h.1 c i k := fun c i k hc => by
    rw [nx_get, if_neg (fun q => hc q.1), nx_get, if_neg (fun q => hc q.1), nx_get, if_neg (fun q => hc q.1), nx_get, if_neg (fun q => hc q.1)]
  have f1 : ∀ k, (hs_put (hs_put (hs_put (hs_put h 10 0 9 (nI n)) 10 0 10 (nI m)) 10 0 12 (bI one)) 10 0 13 (nI 0)).1 10 0 k = if k = 13 then nI 0 else if k = 12 then bI one else if k = 10 then nI m else if k = 9 then nI n else h.1 10 0 k := fun k => by
    rw [nx_get, nx_get, nx_get, nx_get]
    by_cases e1 : k = 13
    · rw [if_pos ⟨rfl, rfl, e1⟩, if_pos e1]
    · rw [if_neg (fun q => e1 q.2.2), if_neg e1]
      by_cases e2 : k = 12
      · rw [if_pos ⟨rfl, rfl, e2⟩, if_pos e2]
      · rw [if_neg (fun q => e2 q.2.2), if_neg e2]
        by_cases e3 : k = 10
        · rw [if_pos ⟨rfl, rfl, e3⟩, if_pos e3]
        · rw [if_neg (fun q => e3 q.2.2), if_neg e3]
          by_cases e4 : k = 9
          · rw [if_pos ⟨rfl, rfl, e4⟩, if_pos e4]
          · rw [if_neg (fun q => e4 q.2.2), if_neg e4]
  have f2 : hs_fr cwK2 h (hs_put (hs_put (hs_put (hs_put h 10 0 9 (nI n)) 10 0 10 (nI m)) 10 0 12 (bI one)) 10 0 13 (nI 0)) := (((hs_fr.rf.put (.inl (.head _))).put (.inl (.head _))).put (.inl (.head _))).put (.inl (.head _))
  unfold hf_97
  rw [bI_01, nx_ck]
  generalize hs_put (hs_put (hs_put (hs_put h 10 0 9 (nI n)) 10 0 10 (nI m)) 10 0 12 (bI one)) 10 0 13 (nI 0) = A at f0 f1 f2
  have a10 : A.1 10 0 10 = nI m := by rw [f1, if_neg (by omega), if_neg (by omega), if_pos rfl]
  have e49 : hf_49 0 (nI m) (nI n) A = some (nI T, A) := by
    rw [← hTT]
    exact sp_49 hn hz hm (by rw [f0 5 0 3 (by omega)]; exact c3.1) (fun k hk => by rw [f0 28 0 k (by omega)]; exact (c3.2 k hk).1) (fun k hk => (ok k hk).1)
  rw [a10, e49, Option.bind_some]
  dsimp only
  have g0 : ∀ c i k, c ≠ 10 → (hs_put A 10 0 11 (nI T)).1 c i k = h.1 c i k := fun c i k hc => by rw [nx_get, if_neg (fun q => hc q.1)]; exact f0 c i k hc
  have g1 : ∀ k, k ≠ 11 → (hs_put A 10 0 11 (nI T)).1 10 0 k = A.1 10 0 k := fun k hk => by rw [nx_get, if_neg (fun q => hk q.2.2)]
  have g11 : (hs_put A 10 0 11 (nI T)).1 10 0 11 = nI T := by rw [nx_get, if_pos ⟨rfl, rfl, rfl⟩]
  have g2 : hs_fr cwK2 h (hs_put A 10 0 11 (nI T)) := f2.put (.inl (.head _))
  generalize hs_put A 10 0 11 (nI T) = B at g0 g1 g11 g2
  -- the rows of the reached nodes are emptied
  have b0 : ∀ c i k, c ≠ 40 → (hs_row B 40 0 6 (fun _ => nI 0)).1 c i k = B.1 c i k := fun c i k hc => by rw [nx_rowget, if_neg (fun q => hc q.1)]
  have b40 : ∀ k, k < 6 → (hs_row B 40 0 6 (fun _ => nI 0)).1 40 0 k = nI 0 := fun k hk => by rw [nx_rowget, if_pos ⟨rfl, rfl, hk⟩]
  have b2 : hs_fr cwK2 h (hs_row B 40 0 6 (fun _ => nI 0)) := g2.tr (hs_row_fr (.inl (by unfold cwK2; simp)))
  have main : ∃ H, hb_97_39 (fun s => hs_lp (fun k s => hb_97_39 k s.1 s.2) 0 s) (nI 6) (hs_row B 40 0 6 (fun _ => nI 0)) = some H ∧ hs_fr cwK2 h H ∧ stZ H ∧ (∀ x, x = 14 ∨ x = 15 ∨ x = 16 → H.1 10 0 x = h.1 10 0 x) ∧ (∃ v, H.1 10 0 8 = nI v ∧ v ≤ 1000000 ∧ (one = false → v = (wyZ N re W J st tn nn gn n m).length) ∧ (0 < v ↔ wyZ N re W J st tn nn gn n m ≠ [])) ∧ (one = false → (∀ u, u ≤ n → H.1 40 0 u = nI (cbL (wyZ N re W J st tn nn gn n m) u)) ∧ ∀ x X, wyZ N re W J st tn nn gn n m = x :: X → ∀ u, u ≤ n → H.1 41 0 u = nI (nz x u)) := by
    generalize hs_row B 40 0 6 (fun _ => nI 0) = C at b0 b40 b2
    have cC : ch_n N re J C := by
      unfold ch_n at c1 ⊢
      rw [b0 4 0 1 (by omega), b0 4 0 2 (by omega), g0 4 0 1 (by omega), g0 4 0 2 (by omega)]
      exact ⟨c1.1, c1.2.1, fun k hk => by rw [b0 27 0 k (by omega), g0 27 0 k (by omega)]; exact c1.2.2 k hk⟩
    have C9 : C.1 10 0 9 = nI n := by rw [b0 10 0 9 (by omega), g1 9 (by omega), f1, if_neg (by omega), if_neg (by omega), if_neg (by omega), if_pos rfl]
    have C10 : C.1 10 0 10 = nI m := by rw [b0 10 0 10 (by omega), g1 10 (by omega)]; exact a10
    have C11 : C.1 10 0 11 = nI T := by rw [b0 10 0 11 (by omega)]; exact g11
    have C12 : C.1 10 0 12 = bI one := by rw [b0 10 0 12 (by omega), g1 12 (by omega), f1, if_neg (by omega), if_pos rfl]
    have C13 : C.1 10 0 13 = nI 0 := by rw [b0 10 0 13 (by omega), g1 13 (by omega), f1, if_pos rfl]
    have C14 : ∀ x, x = 14 ∨ x = 15 ∨ x = 16 → C.1 10 0 x = h.1 10 0 x := fun x hx => by rw [b0 10 0 x (by omega), g1 x (by omega), f1, if_neg (by omega), if_neg (by omega), if_neg (by omega), if_neg (by omega)]
    obtain ⟨D, d1, d2, d3⟩ := sp_98 hN hre hJ cC hn C9
    have D0 : ∀ c i, c ≠ 37 → c ≠ 38 → D.1 c i = C.1 c i := fun c i h1 h2 => (d2 c i (by intro q hq hh; rcases hh with rfl | rfl <;> simp at hq <;> omega)).1
    have cD' : cwN N re W J st z tn nn gn n m T one D := by
      unfold cwN ch_n
      rw [D0 4 0 (by omega) (by omega), D0 27 0 (by omega) (by omega), D0 5 0 (by omega) (by omega), D0 28 0 (by omega) (by omega), D0 29 0 (by omega) (by omega), D0 30 0 (by omega) (by omega), D0 10 0 (by omega) (by omega)]
      exact ⟨⟨cC, by rw [b0 4 0 3 (by omega), g0 4 0 3 (by omega)]; exact c2.1, by rw [b0 4 0 4 (by omega), g0 4 0 4 (by omega)]; exact c2.2⟩, ⟨by rw [b0 5 0 3 (by omega), g0 5 0 3 (by omega)]; exact c3.1, fun k hk => by rw [b0 28 0 k (by omega), g0 28 0 k (by omega), b0 29 0 k (by omega), g0 29 0 k (by omega), b0 30 0 k (by omega), g0 30 0 k (by omega)]; exact c3.2 k hk⟩, ⟨C9, C10, C11, C12⟩, fun q hq => d3 q (by omega)⟩
    have pD : cwP N W [] D := ⟨fun u hu => absurd hu (Nat.not_lt_zero _), fun u hu k hk => by
      have e : u = 0 := Nat.le_zero.mp hu
      rw [e, D0 35 0 (by omega) (by omega), b0 35 0 k (by omega), g0 35 0 k (by omega)]
      exact hZ k hk⟩
    have xD : cwX N n T one 0 [] D := ⟨by rw [D0 10 0 (by omega) (by omega)]; exact C13, fun _ x X e => (by cases e), fun u h1 h2 => ⟨0, Nat.two_pow_pos N, by rw [D0 40 0 (by omega) (by omega)]; exact b40 u (by omega), fun _ => rfl⟩⟩
    obtain ⟨v, E, e1, e2, e3, e4, e5, e6, e7, e8⟩ := cw_run hN hJ hre hst hW hz hm ok hn hT hf T 10 [] [] D (Nat.zero_add T) (by omega) cD' pD xD (Or.inr rfl)
    have e1' : hf_101 10 (nI 0) D = some (nI v, E) := e1
    rw [wyX_nil] at e4 e6 e7 e8
    have e4' : cwX N n T one 0 (wyZ N re W J st tn nn gn n m) E := e4
    have hvb := wyX_b (re := re) (W := W) (J := J) (st := st) (tn := tn) (nn := nn) (gn := gn) (m := m) (pre := []) hN hn
    rw [wyX_nil] at hvb
    have cE := cwN_fr cD' e2
    have E10 : ∀ x, x ≠ 13 → E.1 10 0 x = C.1 10 0 x := fun x hx => by rw [e2.2 x hx, D0 10 0 (by omega) (by omega)]
    have frE : hs_fr cwK2 h E := (b2.tr (d2.sub (hs_sub_cons (.inl (by unfold cwK2; simp)) (hs_sub_cons (.inl (by unfold cwK2; simp)) hs_sub_nil)))).tr (e2.1.sub (by unfold cwK cwK2; exact hs_sub_cons (.inl (by simp)) (hs_sub_cons (.inl (by simp)) (hs_sub_cons (.inl (by simp)) (hs_sub_cons (.inl (by simp)) (hs_sub_cons (.inl (by simp)) hs_sub_nil))))))
    have h0 : ∀ x, (hs_put E 10 0 8 (nI v)).1 10 0 x = if x = 8 then nI v else E.1 10 0 x := fun x => by
      rw [nx_get]
      by_cases e : x = 8
      · rw [if_pos ⟨rfl, rfl, e⟩, if_pos e]
      · rw [if_neg (fun q => e q.2.2), if_neg e]
    have h1 : ∀ c i, c ≠ 10 → (hs_put E 10 0 8 (nI v)).1 c i = E.1 c i := fun c i hc => by
      funext k
      rw [nx_get, if_neg (fun q => hc q.1)]
    have h2 : hs_fr cwK2 h (hs_put E 10 0 8 (nI v)) := frE.put (.inl (.head _))
    have last : ∃ H, hs_lp (fun k s => hb_97_80 k s.1 s.2) hs_big (nI (T + 1), hs_put E 10 0 8 (nI v)) = some H ∧ hs_fr [(40, some 0)] (hs_put E 10 0 8 (nI v)) H ∧ ∀ u, u ≤ n → ∃ a, a < 2 ^ N ∧ H.1 40 0 u = nI a ∧ (one = false → a = cbL (wyZ N re W J st tn nn gn n m) u) := by
      generalize hs_put E 10 0 8 (nI v) = F at h0 h1 h2
      have F9 : F.1 10 0 9 = nI n := by rw [h0, if_neg (by omega), E10 9 (by omega)]; exact C9
      have F38 : ∀ q, q ≤ n → F.1 38 0 q = nI (onw J N re q) := fun q hq => by rw [h1 38 0 (by omega)]; exact (cE.2.2.2 q hq).1
      have cF : ch_n N re J F := by
        unfold ch_n
        rw [h1 4 0 (by omega), h1 27 0 (by omega)]
        exact cE.1.1
      refine lp_q2 (f := fun k s => hb_97_80 k s.1 s.2) (I := fun d q => ∃ u H, T < u ∧ u ≤ n + 1 ∧ d = n + 1 - u ∧ hs_fr [(40, some 0)] F H ∧ (∀ w, w < u → ∃ a, a < 2 ^ N ∧ H.1 40 0 w = nI a ∧ (one = false → a = cbL (wyZ N re W J st tn nn gn n m) w)) ∧ q = (nI u, H)) (Q := fun o => ∃ H, o = some H ∧ hs_fr [(40, some 0)] F H ∧ ∀ u, u ≤ n → ∃ a, a < 2 ^ N ∧ H.1 40 0 u = nI a ∧ (one = false → a = cbL (wyZ N re W J st tn nn gn n m) u)) (fun d q hI k => ?_) (n + 1 - (T + 1)) _ hs_big ⟨T + 1, F, by omega, by omega, rfl, hs_fr.rf, fun w hw => ?_, rfl⟩ (lp_big (by omega))
      · obtain ⟨u, H, hu1, hu2, rfl, fr, hw, rfl⟩ := hI
        have H10 : H.1 10 0 = F.1 10 0 := (fr 10 0 (by intro q hq; revert q; simp)).1
        have H38 : H.1 38 0 = F.1 38 0 := (fr 38 0 (by intro q hq; revert q; simp)).1
        have cH := ch_n_fr fr rfl cF
        by_cases hun : u = n + 1
        · refine Or.inl ⟨H, ?_, fr, fun w hw2 => hw w (by omega)⟩
          show hb_97_80 k (nI u) H = _
          unfold hb_97_80 hb_97_136
          rw [H10, F9, if_pos (nI_lt (by omega) (by omega))]
        · obtain ⟨a, a1, a2, a3⟩ := hw (u - 1) (by omega)
          have e39 := sp_39 (o := 0) (m := a) (h := H) cH.1 cH.2.1 cH.2.2 (by omega) hN
          have hmA := mvA_lt (re := re) (o := a) hJ hre N (Nat.le_refl _)
          refine Or.inr ⟨n + 1 - (u + 1), (nI (u + 1), hs_put H 40 0 u (nI (mvA J re a N &&& onw J N re (n - u)))), by omega, ⟨u + 1, _, by omega, by omega, rfl, fr.put (.inl (.head _)), fun w hw2 => ?_, rfl⟩, ?_⟩
          · by_cases e : w = u
            · refine ⟨mvA J re a N &&& onw J N re (n - u), and_lt _ hmA, by rw [nx_get, if_pos ⟨rfl, rfl, e⟩], fun ho => ?_⟩
              rw [e, a3 ho]
              exact (cb_next hN hJ hre hf hu1 (by omega)).symm
            · obtain ⟨b, q1, q2, q3⟩ := hw w (by omega)
              exact ⟨b, q1, by rw [nx_get, if_neg (fun q => e q.2.2)]; exact q2, q3⟩
          · show hb_97_80 k (nI u) H = _
            unfold hb_97_80
            rw [H10, F9, if_neg (nI_nlt (by omega) (by omega)), if_neg (nI_nlt (by omega) (by omega)), pk_sub (by omega), nx_inb (show u - 1 < 6 by omega) (by omega), nx_ck, nI_clamp (show u - 1 < 2147483648 by omega), a2, e39, Option.bind_some]
            dsimp only
            rw [H10, F9, pk_sub (by omega), sp_100 (by omega), H38, F38 (n - u) (by omega), Option.bind_some]
            dsimp only
            rw [nx_inb (show u < 6 by omega) (by omega), nx_ck, nI_clamp (show u < 2147483648 by omega), nx_and, nI_add]
      · obtain ⟨a, q1, q2, q3⟩ := e4'.2.2 w (Nat.zero_le _) (by omega)
        exact ⟨a, q1, by rw [h1 40 0 (by omega)]; exact q2, q3⟩
    obtain ⟨H, l1, l2, l3⟩ := last
    have H10 : H.1 10 0 = (hs_put E 10 0 8 (nI v)).1 10 0 := (l2 10 0 (by intro q hq; revert q; simp)).1
    have H41 : H.1 41 0 = E.1 41 0 := by rw [(l2 41 0 (by intro q hq; revert q; simp)).1, h1 41 0 (by omega)]
    have H35 : H.1 35 0 = E.1 35 0 := by rw [(l2 35 0 (by intro q hq; revert q; simp)).1, h1 35 0 (by omega)]
    refine ⟨H, ?_, h2.tr (l2.sub (hs_sub_cons (.inl (by unfold cwK2; simp)) hs_sub_nil)), fun k hk => ?_, fun x hx => ?_, ⟨v, ?_, by omega, e7, e8⟩, fun ho => ⟨fun u hu => ?_, fun x X e u hu => ?_⟩⟩
    · unfold hb_97_39
      rw [if_pos (by decide), d1, Option.bind_some, e1', Option.bind_some]
      dsimp only
      rw [h0 11, if_neg (by omega), E10 11 (by omega), C11, nI_add]
      exact l1
    · rw [H35]
      exact e3.2 0 (Nat.le_refl _) k hk
    · rw [H10, h0, if_neg (by omega), E10 x (by omega)]; exact C14 x hx
    · rw [H10, h0, if_pos rfl]
    · obtain ⟨a, q1, q2, q3⟩ := l3 u hu
      rw [q2, q3 ho]
    · rw [H41]; exact e4'.2.1 ho x X e u hu
  obtain ⟨H, m1, m2⟩ := main
  refine ⟨H, ?_, m2⟩
  have hl := lp_for (f := fun k s => hb_97_39 k s.1 s.2) (st := fun i => (nI i, hs_row B 40 0 i (fun _ => nI 0))) (e := 6) (X := some H) (fun i hi k => ?_) (fun k => ?_) 0 hs_big (by omega) (lp_big (by omega))
  · rw [hs_row0] at hl
    exact hl
  · show hb_97_39 k (nI i) (hs_row B 40 0 i (fun _ => nI 0)) = k (nI (i + 1), hs_row B 40 0 (i + 1) (fun _ => nI 0))
    unfold hb_97_39
    rw [if_neg (nI_nlt (by omega) (by omega)), nx_inb (show i < 6 by omega) (by omega), nx_ck, nI_clamp (show i < 2147483648 by omega), nI_add, ← hs_rowS B 40 0 i (fun _ => nI 0)]
  · refine Eq.trans ?_ m1
    show hb_97_39 k (nI 6) _ = hb_97_39 _ (nI 6) _
    unfold hb_97_39
    rw [if_pos (by decide), if_pos (by decide)]
end CS
