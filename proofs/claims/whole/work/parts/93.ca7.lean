/-! Casts: the class's run. -/
section RU
variable {J : Nat → Nat} {N re k : Nat}
/-- while sets are met: p are looked at, m are met -/
def rnS (J : Nat → Nat) (N re k S p m : Nat) (h H : hs_H) : Prop :=
  (hs_fr [(0, some 0), (21, some 0), (22, some 0)] h H ∧ (∀ x, x ≠ 7 → x ≠ 8 → H.1 0 0 x = h.1 0 0 x) ∧ H.1 0 0 7 = nI 0) ∧ (p ≤ m ∧ m + smN (u01 H) (2 ^ N) = 2 ^ N - 1) ∧ (∀ x, x < m → 0 < qv H x ∧ qv H x < 2 ^ N) ∧ (∀ S', 0 < S' → S' < 2 ^ N → H.1 21 0 S' ≠ nI 4294967295 → ∃ x, x < m ∧ qv H x = S') ∧
  ((fwe J N re k S = 99999 ∧ ∀ x, x < m → fwe J N re k (qv H x) = 99999) ∨ (fwe J N re k S ≠ 99999 ∧ ∃ i px, i < fwe J N re k S ∧ p ≤ px ∧ px < m ∧ qv H px = gsq J N re k S i ∧ (∀ x, x < px → fwe J N re k S < fwe J N re k (qv H x) + i) ∧ (∀ x, x < m → fwe J N re k S ≤ fwe J N re k (qv H x) + i) ∧ chn J N re k S i H))
theorem bl5_ne {h H : hs_H} (f : hs_fr [(0, some 0), (21, some 0), (22, some 0)] h H) (e : ∀ x, x ≠ 7 → x ≠ 8 → H.1 0 0 x = h.1 0 0 x) (b : bl5 J N re k h) : bl5 J N re k H := by
  have e2 : H.1 20 0 = h.1 20 0 := (f 20 0 (by intro q hq; revert q; simp)).1
  have e3 : H.1 23 0 = h.1 23 0 := (f 23 0 (by intro q hq; revert q; simp)).1
  unfold bl5 thr thA tv at b ⊢
  rw [e2, e3, e 5 (by omega) (by omega), e 6 (by omega) (by omega)]
  exact b
/-- one set looked at -/
theorem rn_step {S p m X : Nat} {h H : hs_H} (hN : N ≤ 10) (hJ : ∀ k, J k < 2 ^ N) (hre : re = 0 ∨ re = 1) (hk1 : 1 ≤ k) (hk : k ≤ N) (hS : S < 2 ^ N) (b : bl5 J N re k h) (r : rnS J N re k S p m h H) (hpm : p < m) (hX : qv H p = X) (hXk : k < pcn 10 X) : ∃ m' H', hf_4 (nI X) (nI m) H = some (nI m', H') ∧ rnS J N re k S (p + 1) m' h H' := by
  have hp := p2_lt hN
  obtain ⟨⟨r1, r2, r3⟩, ⟨r4, r5⟩, r6, r7, r8⟩ := r
  have hXb := r6 p hpm
  rw [hX] at hXb
  have bH := bl5_ne r1 r2 b
  obtain ⟨C, hC, h5, tA⟩ := bH.2.1
  obtain ⟨m', H', e4, ⟨q1, q2, q3⟩, q4, ⟨q5, q6⟩, q7, q8⟩ := sp_4 (X := X) (m := m) hN hJ hre hk1 hk (by omega) hXb.2 hXk bH hC h5 tA r5
  have eq22 : ∀ x, x < m → qv H' x = qv H x := fun x hx => by unfold qv; rw [q4 x hx]
  have e0 : H'.1 0 0 = H.1 0 0 := (q1 0 0 (by intro q hq; revert q; simp)).1
  have hX1 : ¬ fwe J N re k X ≤ 1 := fun w => by
    have := (fwe_1 hN hJ hre hk hXb.2).mp w
    omega
  refine ⟨m', H', e4, ⟨r1.tr (q1.sub (hs_sub_cons (.inl (.tail _ (.head _))) (hs_sub_cons (.inl (.tail _ (.tail _ (.head _)))) hs_sub_nil))), fun x h1 h2 => by rw [e0]; exact r2 x h1 h2, by rw [e0]; exact r3⟩, ⟨by omega, q3⟩, fun x hx => ?_, fun S' h1 h2 h3 => ?_, ?_⟩
  · by_cases w : x < m
    · rw [eq22 x w]; exact r6 x w
    · exact (q7 x (by omega) hx).1
  · rcases q6 S' h3 with w | ⟨x, w1, w2, w3⟩
    · obtain ⟨x, w1, w2⟩ := r7 S' h1 h2 w
      exact ⟨x, by omega, by rw [eq22 x w1]; exact w2⟩
    · exact ⟨x, w2, w3⟩
  · rcases r8 with ⟨w1, w2⟩ | ⟨hD, i, px, w1, w2, w3, w4, w5, w6, w7⟩
    · refine Or.inl ⟨w1, fun x hx => ?_⟩
      by_cases w : x < m
      · rw [eq22 x w]; exact w2 x w
      · have z1 := q7 x (by omega) hx
        have z2 := w2 p hpm
        rw [hX] at z2
        have z3 := fwe_b (k := k) hN hJ hre z1.1.2
        omega
    · refine Or.inr ⟨hD, ?_⟩
      have hb := (fwe_b (k := k) hN hJ hre hS).resolve_left hD
      have keepc : ∀ i', i' ≤ i → chn J N re k S i' H → chn J N re k S i' H' := fun i' hi' cc => ⟨by
        rw [q5 S (by rw [cc.1]; exact fun w => by have := nI_inj (by omega) (by omega) w; omega)]; exact cc.1, fun j hj => by
        have ej := cc.2 j hj
        obtain ⟨a1, a2, a3, a4, a5⟩ := gsq_pos (k := k) hN hJ hre hk1 hS hD (show j < fwe J N re k S by omega)
        rw [q5 _ (by rw [ej]; exact fun w => by have := nI_inj (by omega) (by omega) w; omega)]
        exact ej⟩
      by_cases hpp : p = px
      · subst hpp
        rw [hX] at w4
        obtain ⟨a1, a2, a3, a4, a5⟩ := gsq_pos (k := k) hN hJ hre hk1 hS hD w1
        rw [← w4] at a1 a2 a3 a4 a5
        have sp := lcc_spec (k := k) hN hJ hre hk1 a2 (by omega) (by omega)
        have hnl := nxs_lt (J := J) hJ hre (dif X (lcc J N re k X))
        have hnpos : 0 < nxs J N re (dif X (lcc J N re k X)) := Nat.pos_of_ne_zero (fun w => by
          have := (fwe_0 (J := J) (N := N) (re := re) (k := k)).mpr w
          omega)
        have hun : H.1 21 0 (nxs J N re (dif X (lcc J N re k X))) = nI 4294967295 := by
          apply Classical.byContradiction
          intro w
          obtain ⟨x, z1, z2⟩ := r7 _ hnpos hnl w
          have z3 := w6 x z1
          rw [z2] at z3
          omega
        obtain ⟨g, hg, hg2⟩ := tA.2.1 _ sp.2.1 sp.2.2.1 sp.1.1
        obtain ⟨py, y1, y2, y3, y4, y5⟩ := (q8 (by omega) hun).2 ⟨g, hg, hg2⟩
        have eg : gsq J N re k S (i + 1) = nxs J N re (dif X (lcc J N re k X)) := by
          show nxs J N re (dif (gsq J N re k S i) (lcc J N re k (gsq J N re k S i))) = _
          rw [w4]
        refine ⟨i + 1, py, by omega, by omega, y2, by rw [eg]; exact y3, fun x hx => ?_, fun x hx => ?_, ?_⟩
        · by_cases w : x < m
          · rw [eq22 x w]; have := w6 x w; omega
          · have := y5 x (by omega) hx; omega
        · by_cases w : x < m
          · rw [eq22 x w]; have := w6 x w; omega
          · have := (q7 x (by omega) hx).2; omega
        · have kc := keepc i (Nat.le_refl _) w7
          refine ⟨kc.1, fun j hj => ?_⟩
          by_cases w : j = i
          · subst w
            rw [eg, y4, w4]
          · exact kc.2 j (by omega)
      · refine ⟨i, px, w1, by omega, by omega, by rw [eq22 px w3]; exact w4, fun x hx => by rw [eq22 x (by omega)]; exact w5 x hx, fun x hx => ?_, keepc i (Nat.le_refl _) w7⟩
        by_cases w : x < m
        · rw [eq22 x w]; exact w6 x w
        · have z1 := (q7 x (by omega) hx).2
          have z2 := w5 p (by omega)
          rw [hX] at z2
          omega
theorem u01_0 {S : Nat} {h : hs_H} (hN : N ≤ 10) (h21 : ∀ S, 0 < S → S < 2 ^ N → h.1 21 0 S = nI 4294967295) : ∀ n, n ≤ 2 ^ N → smN (u01 h) n = n - 1 := by
  intro n
  induction n with
  | zero => intro _; rfl
  | succ n ih =>
    intro hn
    show smN (u01 h) n + u01 h n = n + 1 - 1
    rw [ih (by omega)]
    by_cases c : 0 < n
    · have e : u01 h n = 1 := if_pos ⟨c, h21 n c (by omega)⟩
      rw [e]; omega
    · have e : u01 h n = 0 := if_neg (fun q => c q.1)
      rw [e]; omega
theorem sp_3 {S : Nat} {h : hs_H} (hN : N ≤ 10) (hJ : ∀ k, J k < 2 ^ N) (hre : re = 0 ∨ re = 1) (hk1 : 1 ≤ k) (hk : k ≤ N) (hS0 : 0 < S) (hS : S < 2 ^ N) (b : bl5 J N re k h) (h21 : ∀ S, 0 < S → S < 2 ^ N → h.1 21 0 S = nI 4294967295) : ∃ H, hf_3 (nI S) h = some H ∧ hs_fr [(0, some 0), (21, some 0), (22, some 0)] h H ∧ (∀ x, x ≠ 7 → x ≠ 8 → H.1 0 0 x = h.1 0 0 x) ∧ casF J N re k S H := by
  have hp := p2_lt hN
  have h2 : 1 ≤ 2 ^ N := Nat.one_le_two_pow
  have hneg : nI 0 ≠ nI 4294967295 := fun w => by have := nI_inj (by omega) (by omega) w; omega
  have start : rnS J N re k S 0 1 h (hs_put (hs_put (hs_put h 0 0 7 (nI 0)) 22 0 0 (nI S)) 21 0 S (nI 0)) := by
    have e21 : ∀ x, (hs_put (hs_put (hs_put h 0 0 7 (nI 0)) 22 0 0 (nI S)) 21 0 S (nI 0)).1 21 0 x = if x = S then nI 0 else h.1 21 0 x := fun x => by
      rw [nx_get]
      by_cases q : x = S
      · rw [if_pos ⟨rfl, rfl, q⟩, if_pos q]
      · rw [if_neg (fun w => q w.2.2), if_neg q, nx_get, if_neg (by omega), nx_get, if_neg (by omega)]
    have e22 : qv (hs_put (hs_put (hs_put h 0 0 7 (nI 0)) 22 0 0 (nI S)) 21 0 S (nI 0)) 0 = S := by
      unfold qv
      rw [nx_get, if_neg (by omega), nx_get, if_pos ⟨rfl, rfl, rfl⟩]
      exact tn_of rfl (by omega)
    have hsm := smN_upd (v := u01 h) (w := u01 (hs_put (hs_put (hs_put h 0 0 7 (nI 0)) 22 0 0 (nI S)) 21 0 S (nI 0))) (i := S) (2 ^ N) (fun x hx => by
      unfold u01
      rw [e21 x, if_neg hx])
    have hu1 : u01 h S = 1 := if_pos ⟨hS0, h21 S hS0 hS⟩
    have hu2 : u01 (hs_put (hs_put (hs_put h 0 0 7 (nI 0)) 22 0 0 (nI S)) 21 0 S (nI 0)) S = 0 := by
      unfold u01
      rw [e21, if_pos rfl]
      exact if_neg (fun q => hneg q.2)
    have hu3 := u01_0 (S := S) hN h21 (2 ^ N) (Nat.le_refl _)
    rw [if_pos hS, if_pos hS, hu1, hu2, hu3] at hsm
    refine ⟨⟨((hs_fr.rf.put (.inl (.head _))).put (.inl (.tail _ (.tail _ (.head _))))).put (.inl (.tail _ (.head _))), fun x h1 h3 => ?_, ?_⟩, ⟨by omega, by omega⟩, fun x hx => ?_, fun S' h1 h3 h4 => ?_, ?_⟩
    · rw [nx_get, if_neg (by omega), nx_get, if_neg (by omega), nx_get, if_neg (by omega)]
    · rw [nx_get, if_neg (by omega), nx_get, if_neg (by omega), nx_get, if_pos ⟨rfl, rfl, rfl⟩]
    · rw [show x = 0 by omega, e22]; exact ⟨hS0, hS⟩
    · rw [e21] at h4
      by_cases q : S' = S
      · exact ⟨0, by omega, by rw [e22, q]⟩
      · rw [if_neg q] at h4
        exact absurd (h21 S' h1 h3) h4
    · by_cases q : fwe J N re k S = 99999
      · exact Or.inl ⟨q, fun x hx => by rw [show x = 0 by omega, e22]; exact q⟩
      · have hn0 : fwe J N re k S ≠ 0 := fun w => by have := fwe_0.mp w; omega
        refine Or.inr ⟨q, 0, 0, by omega, by omega, by omega, e22, fun x hx => by omega, fun x hx => by rw [show x = 0 by omega, e22]; exact Nat.le_add_right _ _, ?_, fun j hj => by omega⟩
        rw [e21, if_pos rfl]
  have hb := fwe_b (k := k) hN hJ hre hS
  unfold hf_3
  rw [if_neg (nI_nle hS0 (by omega)), if_neg (nI_ge (by omega) (by omega)), nx_inb (by omega) (by omega), nx_ck, nx_inb (by omega) (by omega), nx_ck, nI_clamp (by omega), nI_clamp (by omega)]
  unfold hb_3_34
  generalize hs_put (hs_put (hs_put h 0 0 7 (nI 0)) 22 0 0 (nI S)) 21 0 S (nI 0) = H0 at start
  refine lp_q2 (f := fun k s => hb_3_36 k s.1 s.2.1 s.2.2) (I := fun d q => ∃ p m H, d = 2 ^ N - p ∧ rnS J N re k S p m h H ∧ q = (nI m, nI p, H)) (Q := fun o => ∃ H, o = some H ∧ hs_fr [(0, some 0), (21, some 0), (22, some 0)] h H ∧ (∀ x, x ≠ 7 → x ≠ 8 → H.1 0 0 x = h.1 0 0 x) ∧ casF J N re k S H) (fun d q hI k36 => ?_) (2 ^ N) _ hs_big ⟨0, 1, H0, rfl, start, rfl⟩ (lp_big (by omega))
  obtain ⟨p, m, H, rfl, r, rfl⟩ := hI
  have hmb := r.2.1.2
  by_cases hpm : p < m
  · have e6 : H.1 0 0 6 = nI k := by rw [r.1.2.1 6 (by omega) (by omega)]; exact b.2.2
    have hXb := r.2.2.1 p hpm
    have hpl := pcn_le (qv H p) 10
    have e22 := qv_e H p
    by_cases hXk : k < pcn 10 (qv H p)
    · obtain ⟨m', H', q1, q2⟩ := rn_step hN hJ hre hk1 hk hS b r hpm rfl hXk
      refine Or.inr ⟨2 ^ N - (p + 1), _, by omega, ⟨p + 1, m', H', rfl, q2, rfl⟩, ?_⟩
      show hb_3_36 k36 (nI m) (nI p) H = _
      unfold hb_3_36
      rw [if_neg (nI_ge hpm (by omega)), if_neg (nI_ge (by omega) (by omega)), nx_inb (by omega) (by omega), nx_ck, nI_clamp (by omega), e22, sp_240 (by omega), Option.bind_some]
      dsimp only
      rw [e6, if_pos (nI_lt hXk (by omega)), q1, Option.bind_some]
      dsimp only
      rw [nI_add]
    · have hX1 := (fwe_1 hN hJ hre hk hXb.2).mpr (show pcn 10 (qv H p) ≤ k by omega)
      have hX0 : fwe J N re k (qv H p) ≠ 0 := fun w => by have := fwe_0.mp w; omega
      obtain ⟨⟨r1, r2, r3⟩, -, -, -, r8⟩ := r
      rcases r8 with ⟨w1, w2⟩ | ⟨hD, i, px, w1, w2, w3, w4, w5, w6, w7⟩
      · have := w2 p hpm; omega
      · have hpx : p = px := by
          apply Classical.byContradiction
          intro w
          have := w5 p (by omega)
          omega
        subst hpx
        obtain ⟨a1, a2, a3, a4, a5⟩ := gsq_pos (k := k) hN hJ hre hk1 hS hD w1
        rw [w4] at hX1 hX0 hXb e22
        have hi : i = fwe J N re k S - 1 := by omega
        rw [hi] at w4 w7 e22 hXb
        have cH : chn J N re k S (fwe J N re k S - 1) (hs_put H 0 0 8 (nI (gsq J N re k S (fwe J N re k S - 1)))) := ⟨by rw [nx_get, if_neg (by omega)]; exact w7.1, fun j hj => by rw [nx_get, if_neg (by omega)]; exact w7.2 j hj⟩
        have e8 := sp_8 hN hJ hre hk1 hS hD (by omega) cH
        have fr : hs_fr [(0, some 0), (21, some 0), (22, some 0)] h (hs_put (hs_put H 0 0 8 (nI (gsq J N re k S (fwe J N re k S - 1)))) 0 0 7 (nI (fwe J N re k S))) := (r1.put (.inl (.head _))).put (.inl (.head _))
        have e00 : ∀ x, x ≠ 7 → x ≠ 8 → (hs_put (hs_put H 0 0 8 (nI (gsq J N re k S (fwe J N re k S - 1)))) 0 0 7 (nI (fwe J N re k S))).1 0 0 x = h.1 0 0 x := fun x h1 h3 => by
          rw [nx_get, if_neg (by omega), nx_get, if_neg (by omega)]; exact r2 x h1 h3
        refine Or.inl ⟨hs_put (hs_put H 0 0 8 (nI (gsq J N re k S (fwe J N re k S - 1)))) 0 0 7 (nI (fwe J N re k S)), ?_, fr, e00, Or.inr ⟨hD, by rw [nx_get, if_pos ⟨rfl, rfl, rfl⟩], by rw [nx_get, if_neg (by omega), nx_get, if_pos ⟨rfl, rfl, rfl⟩], (bl5_ne fr e00 b).2.1, ⟨by rw [nx_get, if_neg (by omega)]; exact cH.1, fun j hj => by rw [nx_get, if_neg (by omega)]; exact cH.2 j hj⟩⟩⟩
        show hb_3_36 k36 (nI m) (nI p) H = _
        unfold hb_3_36
        rw [w4] at hpl hXk
        rw [if_neg (nI_ge hpm (by omega)), if_neg (nI_ge (by omega) (by omega)), nx_inb (by omega) (by omega), nx_ck, nI_clamp (by omega), e22, sp_240 (by omega), Option.bind_some]
        dsimp only
        rw [e6, if_neg (nI_nlt (by omega) (by omega)), e8, Option.bind_some]
  · obtain ⟨⟨r1, r2, r3⟩, ⟨r4, r5⟩, -, -, r8⟩ := r
    rcases r8 with ⟨w1, w2⟩ | ⟨hD, i, px, w1, w2, w3, w4, w5, w6, w7⟩
    · refine Or.inl ⟨H, ?_, r1, r2, Or.inl ⟨w1, r3⟩⟩
      show hb_3_36 k36 (nI m) (nI p) H = _
      unfold hb_3_36 hb_3_99
      rw [if_pos (nI_le (by omega) (by omega))]
    · omega
end RU
