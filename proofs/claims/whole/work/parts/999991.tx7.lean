/-! The text: the class takes lanes, all lines. -/
section TK
variable {n : Nat} {tp : Nat → Nat}
def tx_lF : (Int32 × Int32 × Int32 × hs_H → Option (Int32 × hs_H)) → Int32 × Int32 × Int32 × hs_H → Option (Int32 × hs_H) := fun k s => hb_59_21 k s.1 s.2.1 s.2.2.1 s.2.2.2
theorem tx_tie {σ : Nat → Nat} {h : hs_H} {a v : Nat} (s : tx_cS σ h) (ha : a < 10) (hv : v < 10) (hav : a ≠ v) : tx_cS (tx_ti σ a v) (tie_c h 1 a v (fun k => σ (10 + k)) true) := by
  have e1 : tieJ (fun k => σ (10 + k)) a v true a = σ (10 + a) ||| 2 ^ v := if_pos rfl
  have e2 : tieJ (fun k => σ (10 + k)) a v true v = σ (10 + v) ||| 2 ^ a := by
    unfold tieJ
    rw [if_neg (fun q => hav q.symm), if_pos rfl]
    rfl
  have q1 := tx_cZ_put (i := 10 + a) (v := σ (10 + a) ||| 2 ^ v) (by omega) (show tx_lc (10 + a) = (27, 1, a) by
    unfold tx_lc
    rw [if_neg (by omega), if_pos (by omega), Nat.add_sub_cancel_left]) s
  have q2 := tx_cZ_put (i := 10 + v) (v := σ (10 + v) ||| 2 ^ a) (by omega) (show tx_lc (10 + v) = (27, 1, v) by
    unfold tx_lc
    rw [if_neg (by omega), if_pos (by omega), Nat.add_sub_cancel_left]) q1
  have q3 := tx_cZ_o (c := 4) (o := 1) (p := 6) (v := h.1 4 1 6 + nI 1) (Or.inl ⟨rfl, rfl⟩) q2
  have ef : tx_up (tx_up σ (10 + a) (σ (10 + a) ||| 2 ^ v)) (10 + v) (σ (10 + v) ||| 2 ^ a) = tx_ti σ a v := by
    funext k
    unfold tx_ti
    by_cases c1 : k = 10 + a
    · rw [if_pos c1, c1, tx_up_ne (by omega), tx_up_eq]
    · rw [if_neg c1]
      by_cases c2 : k = 10 + v
      · rw [if_pos c2, c2, tx_up_eq]
      · rw [if_neg c2, tx_up_ne c2, tx_up_ne c1]
  rw [ef] at q3
  show tx_cZ (tx_ti σ a v 4) (tx_ti σ a v) _
  rw [tx_ti_n (Or.inl (by omega)) ha hv]
  unfold tie_c
  rw [e1, e2]
  exact q3
theorem tx_c59 (hn : n ≤ 320) (hb : ∀ q, tp q < 256) : ∀ (f a p v : Nat) (σ : Nat → Nat) (i : Nat) (H : hs_H), n - p < f → p ≤ n → i ≤ p → ab_num n tp 0 9 p = .inr v → tx_cT n tp H → tx_cK n tp p H → tx_cS (tx_nd σ v) H → tx_ok σ → a < 10 → (σ 6).testBit a = true → ∀ M, f ≤ M → tx_cO (tx_sb (ab_lane n tp f a p σ) (fun x => ab_sign n tp x.1 x.2)) H (hs_lp tx_lF M (nI a, nI 1, nI i, H)) := by
  intro f
  induction f with
  | zero => intro a p v σ i H h; omega
  | succ f ih =>
    intro a p v σ i H hf hp hi hN t m s ok ha h6 M hM
    obtain ⟨M, rfl⟩ : ∃ M2, M = M2 + 1 := ⟨M - 1, by omega⟩
    obtain ⟨⟨a1, a2⟩, a3, a4, ⟨a5, a6⟩, a7, a8⟩ := tx_spec (tp := tp) hn hp
    obtain ⟨hB, hK, ⟨-, hv⟩, hV⟩ := ab_num_r hN
    have h7 := a7 (by omega)
    have e7 : H.1 6 0 7 = nI v := by rw [m.2.2.2, hV]
    show tx_cO (tx_sb (tx_sb (ab_num n tp 0 9 p) _) _) H (tx_lF (hs_lp tx_lF M) (nI a, nI 1, nI i, H))
    rw [hN]
    show tx_cO (tx_sb (if v = a ∨ (σ (10 + a)).testBit v = true then .inl (4, tx_F n tp p) else _) _) H (hb_59_21 (hs_lp tx_lF M) (nI a) (nI 1) (nI i) H)
    have e55 : hb_59_55 H = some (nI 0, hs_put (hs_put H 6 0 10 (nI 4)) 6 0 11 (nI (tx_F n tp p))) := by
      unfold hb_59_55
      rw [m.2.2.1, sp_54]
      rfl
    have fail : tx_cO (.inl (4, tx_F n tp p)) H (hb_59_55 H) := tx_cO_l e55 (tx_cF_p tx_cF.rf).H tx_cX_p
    have ja : ∀ k, k < 10 → H.1 27 1 k = nI (σ (10 + k)) := fun k hk => by
      rw [tx_cZ_g s (k := 10 + k) ⟨by omega, Or.inr (Or.inl (by omega))⟩ (show tx_lc (10 + k) = (27, 1, k) by
        unfold tx_lc
        rw [if_neg (by omega), if_pos (by omega), Nat.add_sub_cancel_left]), tx_nd_n (by omega)]
    have jb : σ (10 + a) < 1024 := (ok.2.2.2.2.2.2.1 a ha).1
    have e33 : hf_33 1 (nI a) (nI v) H = some (bI ((σ (10 + a)).testBit v), H) := sp_33 (J := fun k => σ (10 + k)) ja (by show σ (10 + a) < 2147483648; omega) ha (by omega)
    unfold hb_59_21
    rw [if_neg (nI_ge (show i < 320 by omega) (by omega)), if_neg (show ¬ nI 1 = 0 by decide), e7]
    by_cases c1 : v = a
    · rw [if_pos (Or.inl c1), if_pos (by rw [c1])]
      exact fail
    · rw [if_neg (fun q => c1 (nI_inj (by omega) (by omega) q)), e33, Option.bind_some]
      dsimp only
      cases c2 : (σ (10 + a)).testBit v with
      | true =>
        rw [if_pos (Or.inr rfl), if_neg (show ¬ bI true = 0 by decide)]
        exact fail
      | false =>
        rw [if_neg (fun q => q.elim c1 (fun w => by cases w)), if_pos (show bI false = 0 by decide), e7]
        have e34 : hf_34 1 (nI a) (nI v) (nI 1) H = some (tie_c H 1 a v (fun k => σ (10 + k)) true) := sp_34 (is := true) ja ha (by omega) (fun w => c1 w.symm)
        have sT : tx_cS (tx_ti (tx_nd σ v) a v) (tie_c H 1 a v (fun k => σ (10 + k)) true) := by
          have e : (fun k => tx_nd σ v (10 + k)) = fun k => σ (10 + k) := funext fun k => tx_nd_n (by omega)
          have := tx_tie s ha (show v < 10 by omega) (fun w => c1 w.symm)
          rw [e] at this
          exact this
        have fT : tx_cH H (tie_c H 1 a v (fun k => σ (10 + k)) true) := by
          unfold tie_c
          exact tx_cH_put (tx_cH_put (tx_cH_put tx_cH.rf (by unfold tx_cL; simp) (by omega)) (by unfold tx_cL; simp) (by omega)) (by unfold tx_cL; simp) (by omega)
        have x6 : ∀ x, (tie_c H 1 a v (fun k => σ (10 + k)) true).1 6 0 x = H.1 6 0 x := fun x => by
          unfold tie_c
          rw [nx_get, if_neg (by omega), nx_get, if_neg (by omega), nx_get, if_neg (by omega)]
        have okT : tx_ok (tx_ti (tx_nd σ v) a v) := tx_ok_ti (tx_ok_nd ok (by omega)) (fun w => c1 w.symm) ha (by omega) (by rw [tx_nd_6, tb_or1]; exact Or.inl h6) tx_nd_b
        have h6v : (tx_ti (tx_nd σ v) a v 6).testBit v = true := by
          rw [tx_ti_n (Or.inl (by omega)) ha (by omega)]
          exact tx_nd_b
        rw [e34, Option.bind_some, x6, e7]
        generalize tie_c H 1 a v (fun k => σ (10 + k)) true = G at sT fT x6
        generalize tx_ti (tx_nd σ v) a v = τ at sT okT h6v
        have tG := tx_cT_H fT t
        obtain ⟨K, s1, s2, s3, s4⟩ := sp_69 (h := G) (p := tx_E n tp p) hn hb a6 tG (by rw [x6]; exact m.1)
        rw [s1, Option.bind_some]
        dsimp only
        have fK : tx_cH H K := fT.tr s2.H
        obtain ⟨⟨b1, b2⟩, b3, b4, ⟨b5, b6⟩, b7, b8⟩ := tx_spec (tp := tp) hn a6
        have hKb : tx_K n tp (tx_E n tp p) ≤ 5 := tx_at_b
        cases hB2 : tx_B n tp (tx_E n tp p) with
        | true =>
          rw [if_neg (show ¬ ¬ bI (!true) = 0 by decide), if_neg (fun q => by cases q.1)]
          show tx_cO (ab_sign n tp (tx_E n tp p) τ) H _
          unfold ab_sign
          rw [hB2, if_pos rfl]
          exact tx_cO_l rfl fK (s3 hB2)
        | false =>
          obtain ⟨⟨w1, w2⟩, w3⟩ := s4 hB2
          have w5 := w3.2.1
          rw [if_pos (show ¬ bI (!false) = 0 by decide), w5]
          by_cases k3 : tx_K n tp (tx_E n tp p) = 3
          · rw [if_neg (show ¬ ¬ nI (tx_K n tp (tx_E n tp p)) = nI 3 from fun q => q (by rw [k3])), if_neg (fun q => by omega)]
            show tx_cO (ab_sign n tp (tx_E n tp p) τ) H _
            unfold ab_sign
            rw [hB2, if_neg Bool.false_ne_true, if_pos k3]
            refine ⟨fun e q => (by cases q), fun x q => ?_⟩
            injection q with q
            rw [← q]
            exact ⟨K, rfl, fK, tx_cZ_F s2 sT, w3.1, by rw [w1, x6]⟩
          · rw [if_pos (show ¬ nI (tx_K n tp (tx_E n tp p)) = nI 3 from fun q => k3 (nI_inj (by omega) (by omega) q))]
            have sK : tx_cS τ K := tx_cZ_F s2 sT
            have h9 : K.1 6 0 9 = nI (τ 6) := tx_cZ_g sK ⟨by omega, Or.inl (by omega)⟩ rfl
            obtain ⟨r1, r2⟩ := tx_c67 (σ := τ) hn hb hB2 w3 h9
            -- a fault: the loop ends
            have stop : ∀ e, ab_num n tp 0 9 (tx_E n tp p) = .inl e → 0 < M → tx_cO (.inl e) H ((hf_67 K).bind (fun q15 => hs_lp tx_lF M (nI v, q15.1, nI i + nI 1, q15.2))) := fun e he hM0 => by
              obtain ⟨M, rfl⟩ : ∃ M2, M = M2 + 1 := ⟨M - 1, by omega⟩
              rw [r1 e he, Option.bind_some, nI_add]
              refine tx_cO_l ?_ (fK.tr (tx_cF_p tx_cF.rf).H) tx_cX_p
              show hb_59_21 (hs_lp tx_lF M) (nI v) (nI 0) (nI (i + 1)) _ = _
              unfold hb_59_21 hb_59_113
              by_cases c : nI 320 ≤ nI (i + 1)
              · rw [if_pos c]
              · rw [if_neg c, if_pos (by rfl)]
            by_cases k2 : tx_K n tp (tx_E n tp p) = 2
            · rw [if_pos ⟨rfl, k2⟩]
              have h7' := b7 (by omega)
              cases hN2 : ab_num n tp 0 9 (tx_E n tp p) with
              | inl e =>
                obtain ⟨f, rfl⟩ : ∃ f2, f = f2 + 1 := ⟨f - 1, by omega⟩
                show tx_cO (tx_sb (tx_sb (ab_num n tp 0 9 (tx_E n tp p)) _) _) H _
                rw [hN2]
                exact stop e hN2 (by omega)
              | inr v2 =>
                obtain ⟨⟨r3, r4⟩, r5⟩ := r2 v2 hN2
                rw [r5, Option.bind_some, nI_add]
                have fK2 : tx_cH H (hs_put K 6 0 9 (nI (τ 6 ||| 2 ^ v2))) := tx_cH_put fK (.head _) (by omega)
                have sK2 : tx_cS (tx_nd τ v2) (hs_put K 6 0 9 (nI (τ 6 ||| 2 ^ v2))) := by
                  show tx_cZ (tx_nd τ v2 4) (tx_nd τ v2) _
                  rw [tx_nd_n (by omega)]
                  exact tx_cZ_put (i := 6) (by omega) rfl sK
                have z := ih v (tx_E n tp p) v2 τ (i + 1) (hs_put K 6 0 9 (nI (τ 6 ||| 2 ^ v2))) (by omega) a6 (by omega) hN2 (tx_cT_H fK2 t) (tx_cK_9 w3) sK2 okT (by omega) h6v M (by omega)
                exact z.tr fK2 (by rw [nx_get, if_neg (by omega), w1, x6])
            · rw [if_neg (fun q => k2 q.2)]
              show tx_cO (ab_sign n tp (tx_E n tp p) τ) H _
              unfold ab_sign
              rw [hB2, if_neg Bool.false_ne_true, if_neg k3]
              have hN2 : ab_num n tp 0 9 (tx_E n tp p) = .inl (2, tx_F n tp (tx_E n tp p)) := by
                unfold ab_num
                rw [hB2, if_neg Bool.false_ne_true, if_neg k2]
              exact stop _ hN2 (by omega)
theorem tx_c59l {σ : Nat → Nat} {h : hs_H} {p : Nat} (hn : n ≤ 320) (hb : ∀ q, tp q < 256) (hp : p ≤ n) (s : tx_cS σ h) (ok : tx_ok σ) (m : tx_cK n tp p h) (t : tx_cT n tp h) : tx_cO (tx_sb (ab_body n tp 3 (tx_E n tp p) σ) (fun x => ab_sign n tp x.1 x.2)) h (hf_59 h) := by
  have a6 := (tx_spec (tp := tp) hn hp).2.2.2.1.2
  obtain ⟨⟨-, -⟩, -, -, ⟨-, b6⟩, b7, -⟩ := tx_spec (tp := tp) hn a6
  obtain ⟨r1, r2⟩ := tx_c66 (h := h) (p := tx_E n tp p) hn hb a6 t m.1 s
  show tx_cO (tx_sb (tx_sb (ab_num n tp 0 9 (tx_E n tp p)) _) _) h _
  rw [tx_sb_sb]
  unfold hf_59
  refine tx_cO_sb (fun e q => ?_) (fun v q => ?_)
  · obtain ⟨H, s1, s2, s3⟩ := r1 e q
    rw [s1, Option.bind_some]
    exact tx_cO_l rfl s2 s3
  · obtain ⟨H, s1, s2, s3, s4, ⟨s5, s6⟩, s7⟩ := r2 v q
    have e7 : H.1 6 0 7 = nI v := by rw [s4.2.2.2, s5]
    have tH := tx_cT_H s2 t
    have okv := tx_ok_nd ok (show v < 10 by omega)
    rw [s1, Option.bind_some]
    dsimp only
    rw [if_pos (show ¬ nI 1 = 0 by decide), e7]
    obtain ⟨r3, r4⟩ := tx_c66 (h := H) (p := tx_E n tp (tx_E n tp p)) hn hb b6 tH s4.1 s7
    show tx_cO (tx_sb (tx_sb (ab_num n tp 0 9 (tx_E n tp (tx_E n tp p))) _) _) h _
    cases hN : ab_num n tp 0 9 (tx_E n tp (tx_E n tp p)) with
    | inl e =>
      obtain ⟨H2, u1, u2, u3⟩ := r3 e hN
      rw [u1, Option.bind_some]
      refine tx_cO_l ?_ (s2.tr u2) u3
      refine lps_fin (F := fun k s => hb_59_21 k s.1 s.2.1 s.2.2.1 s.2.2.2) lps_rf (lp_big (by omega)) (fun k => ?_)
      show hb_59_21 k (nI v) (nI 0) (nI 0) H2 = _
      unfold hb_59_21 hb_59_113
      rw [if_neg (show ¬ nI 320 ≤ nI 0 by decide), if_pos (show nI 0 = 0 from rfl)]
    | inr v2 =>
      obtain ⟨H2, u1, u2, u3, u4, ⟨u5, u6⟩, u7⟩ := r4 v2 hN
      rw [u1, Option.bind_some, ← hN]
      have z := tx_c59 hn hb 400 v (tx_E n tp (tx_E n tp p)) v2 (tx_nd σ v) 0 H2 (by omega) b6 (Nat.zero_le _) hN (tx_cT_H (s2.tr u2) t) u4 u7 okv (by omega) tx_nd_b hs_big (by unfold hs_big; omega)
      exact z.tr (s2.tr u2) (by rw [u3, s3])
/-- a line -/
theorem tx_c55 {σ : Nat → Nat} {h : hs_H} {p : Nat} (hn : n ≤ 320) (hb : ∀ q, tp q < 256) (hp : p ≤ n) (s : tx_cS σ h) (ok : tx_ok σ) (t : tx_cT n tp h) (h4 : h.1 6 0 4 = nI p) : (tx_B n tp p = true → ∃ H, hf_55 h = some (nI 0, H) ∧ tx_cH h H ∧ tx_cX 1 (tx_F n tp p) H) ∧ (tx_B n tp p = false → tx_K n tp p = 0 → ∃ H, hf_55 h = some (nI 0, H) ∧ tx_cH h H ∧ H.1 6 0 10 = h.1 6 0 10 ∧ tx_cS σ H) ∧ (tx_B n tp p = false → tx_K n tp p ≠ 0 → tx_cO (ab_line n tp p σ) h (hf_55 h)) := by
  obtain ⟨H, s1, s2, s3, s4⟩ := sp_69 hn hb hp t h4
  have hKb : tx_K n tp p ≤ 5 := tx_at_b
  have e55 : hf_55 h = if bI (!tx_B n tp p) = 0 then hb_55_14 H else (if ¬ (H.1 6 0 5) = 0 then (if (H.1 6 0 5) = (nI 1) then ((hf_72_64 0 H).bind (fun q5 => if q5.1 = 0 then ((hf_72_64 1 q5.2).bind (fun q7 => if q7.1 = 0 then ((hf_72_64 2 q7.2).bind (fun q9 => if q9.1 = 0 then ((hf_72_64 3 q9.2).bind (fun q11 => if q11.1 = 0 then ((hf_72_64 4 q11.2).bind (fun q13 => if q13.1 = 0 then ((hf_72_64 5 q13.2).bind (fun q15 => if q15.1 = 0 then ((hf_72_64 6 q15.2).bind (fun q17 => if q17.1 = 0 then ((hf_54 (nI 2) (q17.2.1 6 0 6) q17.2).bind (fun q19 => hb_55_143 q19.1 q19.2)) else ((hf_62 q17.2).bind (fun q21 => hb_55_143 q21.1 q21.2)))) else ((hf_61 q15.2).bind (fun q22 => hs_ck (hs_b01 q22.1) (some (q22.1, q22.2)))))) else ((hf_60 q13.2).bind (fun q24 => hs_ck (hs_b01 q24.1) (some (q24.1, q24.2)))))) else ((hf_59 q11.2).bind (fun q26 => hs_ck (hs_b01 q26.1) (some (q26.1, q26.2)))))) else ((hf_58 q9.2).bind (fun q28 => hs_ck (hs_b01 q28.1) (some (q28.1, q28.2)))))) else ((hf_57 q7.2).bind (fun q30 => hs_ck (hs_b01 q30.1) (some (q30.1, q30.2)))))) else ((hf_56 q5.2).bind (fun q32 => hs_ck (hs_b01 q32.1) (some (q32.1, q32.2)))))) else ((hf_54 (nI 2) (H.1 6 0 6) H).bind (fun q34 => hs_ck (hs_b01 q34.1) (some (q34.1, q34.2))))) else (hb_55_14 H)) := by
    unfold hf_55
    rw [s1, Option.bind_some]
  rw [e55]
  refine ⟨fun hB => ?_, fun hB hK => ?_, fun hB hK => ?_⟩
  · rw [hB, if_pos (show bI (!true) = 0 by decide)]
    exact ⟨H, rfl, s2.H, s3 hB⟩
  · obtain ⟨⟨w1, w2⟩, w3⟩ := s4 hB
    rw [hB, if_neg (show ¬ bI (!false) = 0 by decide), w3.2.1, hK, if_neg (show ¬ ¬ nI 0 = 0 by decide)]
    exact ⟨H, rfl, s2.H, w1, tx_cZ_F s2 s⟩
  · obtain ⟨⟨w1, w2⟩, w3⟩ := s4 hB
    have sH : tx_cS σ H := tx_cZ_F s2 s
    have tH := tx_cT_H s2.H t
    rw [hB, if_neg (show ¬ bI (!false) = 0 by decide), w3.2.1, if_pos (nI_ne0 (by omega) (by omega))]
    refine tx_cO.tr s2.H w1 ?_
    unfold ab_line
    by_cases c1 : tx_K n tp p = 1
    · have is := fun k hk => sp_72 (k := k) hk hn hb hp tH w3
      rw [if_pos c1, if_pos (show nI (tx_K n tp p) = nI 1 by rw [c1])]
      unfold tx_nm
      rw [is 0 (by omega), Option.bind_some]
      dsimp only
      cases k0 : tx_is n tp 0 p with
      | true =>
        rw [if_neg (show ¬ bI true = 0 by decide), if_pos rfl, if_neg (show ¬ 0 = 7 by omega), if_neg (show ¬ (0 = 6 ∧ 10 ≤ σ 4) by omega)]
        have z := tx_c56 hn hb hp sH ok w3 tH
        by_cases c : (σ 5).testBit 0 = true
        · rw [if_pos c] at z
          rw [if_pos ⟨by omega, c⟩]
          exact bool_id z
        · rw [if_neg c] at z
          rw [if_neg (fun q => c q.2)]
          exact bool_id z
      | false =>
        rw [if_pos (show bI false = 0 by decide), is 1 (by omega), Option.bind_some, if_neg Bool.false_ne_true]
        dsimp only
        cases k1 : tx_is n tp 1 p with
        | true =>
          rw [if_neg (show ¬ bI true = 0 by decide), if_pos rfl, if_neg (show ¬ 1 = 7 by omega), if_neg (show ¬ (1 = 6 ∧ 10 ≤ σ 4) by omega)]
          have z := tx_c57 hn hb hp sH ok w3 tH
          by_cases c : (σ 5).testBit 1 = true
          · rw [if_pos c] at z
            rw [if_pos ⟨by omega, c⟩]
            exact bool_id z
          · rw [if_neg c] at z
            rw [if_neg (fun q => c q.2)]
            exact bool_id z
        | false =>
          rw [if_pos (show bI false = 0 by decide), is 2 (by omega), Option.bind_some, if_neg Bool.false_ne_true]
          dsimp only
          cases k2 : tx_is n tp 2 p with
          | true =>
            rw [if_neg (show ¬ bI true = 0 by decide), if_pos rfl, if_neg (show ¬ 2 = 7 by omega), if_neg (show ¬ (2 = 6 ∧ 10 ≤ σ 4) by omega)]
            have z := tx_c58 hn hb hp sH ok w3 tH
            by_cases c : (σ 5).testBit 2 = true
            · rw [if_pos c] at z
              rw [if_pos ⟨by omega, c⟩]
              exact bool_id z
            · rw [if_neg c] at z
              rw [if_neg (fun q => c q.2)]
              exact bool_id z
          | false =>
            rw [if_pos (show bI false = 0 by decide), is 3 (by omega), Option.bind_some, if_neg Bool.false_ne_true]
            dsimp only
            cases k3 : tx_is n tp 3 p with
            | true =>
              rw [if_neg (show ¬ bI true = 0 by decide), if_pos rfl, if_neg (show ¬ 3 = 7 by omega), if_neg (show ¬ (3 = 6 ∧ 10 ≤ σ 4) by omega), if_neg (show ¬ (3 ≤ 2 ∧ (σ 5).testBit 3 = true) by omega)]
              exact bool_id (tx_c59l hn hb hp sH ok w3 tH)
            | false =>
              rw [if_pos (show bI false = 0 by decide), is 4 (by omega), Option.bind_some, if_neg Bool.false_ne_true]
              dsimp only
              cases k4 : tx_is n tp 4 p with
              | true =>
                rw [if_neg (show ¬ bI true = 0 by decide), if_pos rfl, if_neg (show ¬ 4 = 7 by omega), if_neg (show ¬ (4 = 6 ∧ 10 ≤ σ 4) by omega), if_neg (show ¬ (4 ≤ 2 ∧ (σ 5).testBit 4 = true) by omega)]
                exact bool_id (tx_c60 (i := 2) (w := 4) (Or.inl ⟨rfl, rfl⟩) hn hb hp sH ok w3 tH)
              | false =>
                rw [if_pos (show bI false = 0 by decide), is 5 (by omega), Option.bind_some, if_neg Bool.false_ne_true]
                dsimp only
                cases k5 : tx_is n tp 5 p with
                | true =>
                  rw [if_neg (show ¬ bI true = 0 by decide), if_pos rfl, if_neg (show ¬ 5 = 7 by omega), if_neg (show ¬ (5 = 6 ∧ 10 ≤ σ 4) by omega), if_neg (show ¬ (5 ≤ 2 ∧ (σ 5).testBit 5 = true) by omega)]
                  exact bool_id (tx_c60 (i := 3) (w := 5) (Or.inr ⟨rfl, rfl⟩) hn hb hp sH ok w3 tH)
                | false =>
                  rw [if_pos (show bI false = 0 by decide), is 6 (by omega), Option.bind_some, if_neg Bool.false_ne_true]
                  dsimp only
                  cases k6 : tx_is n tp 6 p with
                  | true =>
                    rw [if_neg (show ¬ bI true = 0 by decide), if_pos rfl, if_neg (show ¬ 6 = 7 by omega)]
                    have z := tx_c62 hn hb hp sH ok w3 tH
                    by_cases c : 10 ≤ σ 4
                    · rw [if_pos c] at z
                      rw [if_pos ⟨rfl, c⟩]
                      exact bool_id z
                    · rw [if_neg c] at z
                      rw [if_neg (fun q => c q.2), if_neg (show ¬ (6 ≤ 2 ∧ (σ 5).testBit 6 = true) by omega)]
                      exact bool_id z
                  | false =>
                    rw [if_pos (show bI false = 0 by decide), if_neg Bool.false_ne_true, if_pos rfl, w3.2.2.1, sp_54]
                    exact tx_cO_l rfl (tx_cF_p tx_cF.rf).H tx_cX_p
    · rw [if_neg c1, if_neg (fun q => c1 (nI_inj (by omega) (by omega) q)), w3.2.2.1, sp_54]
      exact tx_cO_l rfl (tx_cF_p tx_cF.rf).H tx_cX_p
end TK
