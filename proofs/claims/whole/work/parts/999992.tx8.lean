/-! The text: the class reads all. -/
def tx_s0 : Nat → Nat := fun k => if k = 0 then 5 else if k = 7 then 4294967292 else 0
theorem tx_s0_ok : tx_ok tx_s0 := by
  have z : ∀ k, k ≠ 0 → k ≠ 7 → tx_s0 k = 0 := fun k h1 h2 => by unfold tx_s0; rw [if_neg h1, if_neg h2]
  unfold tx_ok
  rw [z 1 (by omega) (by omega), z 2 (by omega) (by omega), z 3 (by omega) (by omega), z 4 (by omega) (by omega), z 5 (by omega) (by omega), z 6 (by omega) (by omega)]
  have zb : ∀ i, (0 : Nat).testBit i = true → False := fun i h => by rw [Nat.zero_testBit] at h; cases h
  refine ⟨⟨by decide, by decide⟩, by omega, ⟨by omega, fun i h => (zb i h).elim⟩, ⟨by omega, fun i h => (zb i h).elim⟩, ⟨by omega, by omega⟩, Or.inl rfl, fun k hk => ?_, by omega, fun j hj => absurd hj (Nat.not_lt_zero _)⟩
  rw [z (10 + k) (by omega) (by omega)]
  refine ⟨by omega, fun i hi => ?_⟩
  rw [z (10 + i) (by omega) (by omega)]
  exact ⟨by rw [Nat.zero_testBit, Nat.zero_testBit], fun h => (zb i h).elim⟩
/-- what reading all leaves -/
def tx_cA (r : tx_R (Nat × (Nat → Nat))) (h0 : hs_H) (o : Option (Int32 × hs_H)) : Prop := (∀ e, r = .inl e → ∃ H, o = some (nI 4294967286 - nI e.2, H) ∧ hs_fr tx_cL h0 H ∧ H.1 6 0 10 = nI e.1 ∧ H.1 6 0 3 = nI 0) ∧ ∀ x, r = .inr x → ∃ H, o = some (nI x.1, H) ∧ hs_fr tx_cL h0 H ∧ tx_cS x.2 H ∧ H.1 6 0 10 = nI 0 ∧ H.1 6 0 3 = nI 0
section TB
variable {n : Nat} {tp : Nat → Nat} {h0 : hs_H}
theorem tx_89e {c w l : Nat} {H : hs_H} (hc : 0 < c ∧ c < 10) (f : hs_fr tx_cL h0 H) (x : tx_cX c w H) : ∃ K, hb_53_89 (nI l) H = some (nI 4294967286 - nI w, K) ∧ hs_fr tx_cL h0 K ∧ K.1 6 0 10 = nI c ∧ K.1 6 0 3 = nI 0 := by
  have e10 : (hs_put H 6 0 3 (nI 0)).1 6 0 10 = nI c := by rw [nx_get, if_neg (by omega)]; exact x.1
  have e11 : (hs_put H 6 0 3 (nI 0)).1 6 0 11 = nI w := by rw [nx_get, if_neg (by omega)]; exact x.2
  refine ⟨hs_put H 6 0 3 (nI 0), ?_, f.put (.inl (.head _)), e10, by rw [nx_get, if_pos ⟨rfl, rfl, rfl⟩]⟩
  unfold hb_53_89 hb_53_112
  rw [e10, e11, if_pos (nI_ne0 hc.1 (by omega))]
theorem tx_57e {c w l : Nat} {H : hs_H} (hc : 0 < c ∧ c < 10) (f : hs_fr tx_cL h0 H) (x : tx_cX c w H) : ∃ K, hb_53_57 (nI l) H = some (nI 4294967286 - nI w, K) ∧ hs_fr tx_cL h0 K ∧ K.1 6 0 10 = nI c ∧ K.1 6 0 3 = nI 0 := by
  have e : hb_53_57 (nI l) H = hb_53_89 (nI l) H := by
    unfold hb_53_57
    rw [x.1, if_pos (nI_ne0 hc.1 (by omega))]
  rw [e]
  exact tx_89e hc f x
theorem tx_nm_lt {N m : Nat} (hN : N ≤ 10) (hm : m < 1024) : nm N (nI m) = decide (m < 2 ^ N) := by
  have hp := p2_lt hN
  by_cases c : m < 2 ^ N
  · rw [decide_eq_true c]
    exact (nm_of (by omega)).mpr ⟨m, c, rfl⟩
  · rw [decide_eq_false c]
    refine eq_false_of_ne_true (fun q => ?_)
    obtain ⟨i, h1, h2⟩ := (nm_of (by omega)).mp q
    have := nI_inj (by omega) (by omega) h2
    omega
theorem tx_57r {l : Nat} {σ : Nat → Nat} {H : hs_H} (hn : n ≤ 320) (ok : tx_ok σ) (f : hs_fr tx_cL h0 H) (h10 : H.1 6 0 10 = nI 0) (h3 : H.1 6 0 3 = nI n) (s : tx_cS σ H) : tx_cA (if σ 6 < 2 ^ σ 0 then .inr (l, σ) else .inl (6, n)) h0 (hb_53_57 (nI l) H) := by
  have eN : H.1 4 1 1 = nI (σ 0) := tx_cZ_g s (k := 0) ⟨by omega, Or.inl (by omega)⟩ rfl
  have e9 : H.1 6 0 9 = nI (σ 6) := tx_cZ_g s (k := 6) ⟨by omega, Or.inl (by omega)⟩ rfl
  have h6 := ok.2.2.2.2.1.2
  unfold hb_53_57
  rw [h10, if_neg (show ¬ ¬ nI 0 = 0 by decide), e9, sp_30 eN (by have := ok.1.2; omega), Option.bind_some, tx_nm_lt ok.1.2 h6]
  dsimp only
  by_cases c : σ 6 < 2 ^ σ 0
  · rw [if_pos c, decide_eq_true c, if_pos (show ¬ bI true = 0 by decide)]
    refine ⟨fun e q => (by cases q), fun x q => ?_⟩
    injection q with q
    rw [← q]
    have e10 : (hs_put H 6 0 3 (nI 0)).1 6 0 10 = nI 0 := by rw [nx_get, if_neg (by omega)]; exact h10
    refine ⟨hs_put H 6 0 3 (nI 0), ?_, f.put (.inl (.head _)), ?_, e10, by rw [nx_get, if_pos ⟨rfl, rfl, rfl⟩]⟩
    · unfold hb_53_89 hb_53_112
      rw [e10, if_neg (show ¬ ¬ nI 0 = 0 by decide)]
    · intro k hk
      obtain ⟨-, -, q3, -, -⟩ := tx_lc_out k hk.1
      rw [nx_get, if_neg (fun w => by have := q3 w.1; omega)]
      exact s k hk
  · rw [if_neg c, decide_eq_false c, if_neg (show ¬ ¬ bI false = 0 by decide), h3, sp_54, Option.bind_some]
    refine ⟨fun e q => ?_, fun x q => by cases q⟩
    injection q with q
    rw [← q]
    exact tx_89e ⟨by omega, by omega⟩ ((f.put (.inl (.head _))).put (.inl (.head _))) tx_cX_p
def tx_aF : (Int32 × hs_H → Option (Int32 × hs_H)) → Int32 × hs_H → Option (Int32 × hs_H) := fun k s => hb_53_37 k s.1 s.2
theorem tx_c53l (hn : n ≤ 320) (hb : ∀ q, tp q < 256) : ∀ (f p l : Nat) (σ : Nat → Nat) (H : hs_H), n - p < f → p ≤ n → l ≤ p → tx_cT n tp H → H.1 6 0 4 = nI p → H.1 6 0 10 = nI 0 → tx_cS σ H → tx_ok σ → tx_cH h0 H → ∀ M, f ≤ M → tx_cA (ab_all n tp f p l σ) h0 (hs_lp tx_aF M (nI l, H)) := by
  intro f
  induction f with
  | zero => intro p l σ H h; omega
  | succ f ih =>
    intro p l σ H hf hp hl t h4 h10 s ok fr M hM
    obtain ⟨M, rfl⟩ : ∃ M2, M = M2 + 1 := ⟨M - 1, by omega⟩
    obtain ⟨r1, r2, r3⟩ := tx_c55 hn hb hp s ok t h4
    show tx_cA (if tx_B n tp p = true then _ else _) h0 (hb_53_37 (hs_lp tx_aF M) (nI l) H)
    have e37 : hb_53_37 (hs_lp tx_aF M) (nI l) H = (hf_55 H).bind (fun q9 => if q9.1 = 0 then (hb_53_57 (nI l) q9.2) else (hs_lp tx_aF M (nI l + nI 1, q9.2))) := by
      unfold hb_53_37
      rw [if_neg (nI_nlt (by omega) (by omega))]
    rw [e37]
    cases hB : tx_B n tp p with
    | true =>
      obtain ⟨K, s1, s2, s3⟩ := r1 hB
      rw [if_pos rfl, s1, Option.bind_some]
      refine ⟨fun e q => ?_, fun x q => by cases q⟩
      injection q with q
      rw [← q]
      exact tx_57e ⟨by omega, by omega⟩ (fr.tr s2).1 s3
    | false =>
      rw [if_neg Bool.false_ne_true]
      by_cases hK : tx_K n tp p = 0
      · obtain ⟨K, s1, s2, s3, s4⟩ := r2 hB hK
        rw [if_pos hK, s1, Option.bind_some]
        exact tx_57r hn ok (fr.tr s2).1 (s3.trans h10) (tx_cT_H s2 t).1 s4
      · have r := r3 hB hK
        have g := ab_line_g (tp := tp) hn hp ok
        rw [if_neg hK]
        cases hL : ab_line n tp p σ with
        | inl e =>
          obtain ⟨K, s1, s2, s3⟩ := r.1 e hL
          obtain ⟨g1, g2⟩ := g.1 e hL
          rw [s1, Option.bind_some]
          refine ⟨fun e' q => ?_, fun x q => by cases q⟩
          injection q with q
          rw [← q]
          exact tx_57e g1 (fr.tr s2).1 s3
        | inr x =>
          obtain ⟨K, s1, s2, s3, s4, s5⟩ := r.2 x hL
          obtain ⟨⟨g1, g2⟩, g3⟩ := g.2 x hL
          have z := ih x.1 (l + 1) x.2 K (by omega) g2 (by omega) (tx_cT_H s2 t) s4 (s5.trans h10) s3 g3 (fr.tr s2) M (by omega)
          rw [s1, Option.bind_some]
          dsimp only
          rw [if_neg (show ¬ nI 1 = 0 by decide), nI_add]
          exact z
theorem sp_27 {h : hs_H} : ∃ G, hf_27 1 h = some G ∧ hs_fr [(4, some 1), (27, some 1)] h G ∧ G.1 4 1 1 = nI 5 ∧ G.1 4 1 2 = nI 0 ∧ G.1 4 1 3 = nI 4294967292 ∧ G.1 4 1 4 = nI 0 ∧ G.1 4 1 5 = nI 0 ∧ ∀ k, k < 10 → G.1 27 1 k = nI 0 := by
  have hl := lp_for (f := fun k s => hb_27_2 1 k s.1 s.2) (st := fun j => (nI j, hs_row h 27 1 j (fun _ => nI 0))) (e := 10) (X := some (hs_put (hs_put (hs_put (hs_put (hs_put (hs_put (hs_row h 27 1 10 (fun _ => nI 0)) 4 1 1 (nI 5)) 4 1 2 (nI 0)) 4 1 3 (nI 4294967292)) 4 1 4 (nI 0)) 4 1 5 (nI 0)) 4 1 6 (h.1 4 1 6 + nI 1))) (fun j hj k => by
    show hb_27_2 1 k (nI j) (hs_row h 27 1 j (fun _ => nI 0)) = k (nI (j + 1), hs_row h 27 1 (j + 1) (fun _ => nI 0))
    unfold hb_27_2
    rw [if_neg (nI_ge hj (by omega)), nx_inb (show j < 10 by omega) (by omega), nx_ck, nI_clamp (show j < 2147483648 by omega), nI_add, ← hs_rowS h 27 1 j (fun _ => nI 0)]) (fun k => by
    show hb_27_2 1 k (nI 10) (hs_row h 27 1 10 (fun _ => nI 0)) = _
    unfold hb_27_2
    rw [if_pos (nI_le (Nat.le_refl _) (by omega)), nx_get, if_neg (by omega), nx_get, if_neg (by omega), nx_get, if_neg (by omega), nx_get, if_neg (by omega), nx_get, if_neg (by omega), nx_rowget, if_neg (by omega)]) 0 hs_big (by omega) (lp_big (by omega))
  rw [hs_row0] at hl
  refine ⟨_, hl, (((((hs_row_fr (.inl (.tail _ (.head _)))).put (.inl (.head _))).put (.inl (.head _))).put (.inl (.head _))).put (.inl (.head _))).put (.inl (.head _)) |>.put (.inl (.head _)), ?_, ?_, ?_, ?_, ?_, fun k hk => ?_⟩
  · rw [nx_get, if_neg (by omega), nx_get, if_neg (by omega), nx_get, if_neg (by omega), nx_get, if_neg (by omega), nx_get, if_neg (by omega), nx_get, if_pos ⟨rfl, rfl, rfl⟩]
  · rw [nx_get, if_neg (by omega), nx_get, if_neg (by omega), nx_get, if_neg (by omega), nx_get, if_neg (by omega), nx_get, if_pos ⟨rfl, rfl, rfl⟩]
  · rw [nx_get, if_neg (by omega), nx_get, if_neg (by omega), nx_get, if_neg (by omega), nx_get, if_pos ⟨rfl, rfl, rfl⟩]
  · rw [nx_get, if_neg (by omega), nx_get, if_neg (by omega), nx_get, if_pos ⟨rfl, rfl, rfl⟩]
  · rw [nx_get, if_neg (by omega), nx_get, if_pos ⟨rfl, rfl, rfl⟩]
  · rw [nx_get, if_neg (by omega), nx_get, if_neg (by omega), nx_get, if_neg (by omega), nx_get, if_neg (by omega), nx_get, if_neg (by omega), nx_get, if_neg (by omega), nx_rowget, if_pos ⟨rfl, rfl, hk⟩]
theorem sp_47 {z : Nat} {h : hs_H} (hz : z ≤ 10) (h3 : h.1 5 1 3 = nI z) : ∃ G, hf_47 1 (nI 0) h = some G ∧ hs_fr [(5, some 1)] h G ∧ G.1 5 1 3 = nI 0 := by
  unfold hf_47 hb_47_27
  rw [if_neg (show ¬ nI 0 < 0 by decide), h3]
  by_cases c : z = 0
  · rw [if_pos (by rw [c]; exact nI_le (Nat.le_refl _) (by omega))]
    exact ⟨h, rfl, hs_fr.rf, by rw [h3, c]⟩
  · rw [if_neg (nI_ge (by omega) (by omega))]
    refine ⟨_, rfl, (hs_fr.rf.put (.inl (.head _))).put (.inl (.head _)), ?_⟩
    rw [nx_get, if_neg (by omega), nx_get, if_pos ⟨rfl, rfl, rfl⟩]
theorem tx_c53 {z : Nat} {h : hs_H} (hn : n ≤ 320) (hb : ∀ q, tp q < 256) (t : tx_cT n tp h) (hz : z ≤ 10) (h3 : h.1 5 1 3 = nI z) : tx_cA (ab_all n tp 400 0 0 tx_s0) h (hf_53 h) := by
  obtain ⟨G, g1, g2, g3, g4, g5, g6, g7, g8⟩ := sp_27 (h := h)
  obtain ⟨K, k1, k2, k3⟩ := sp_47 (h := G) hz (by rw [(g2 5 1 (by intro q hq; revert q; simp)).1]; exact h3)
  have K4 : K.1 4 1 = G.1 4 1 := (k2 4 1 (by intro q hq; revert q; simp)).1
  have K27 : K.1 27 1 = G.1 27 1 := (k2 27 1 (by intro q hq; revert q; simp)).1
  have K6 : K.1 6 0 = h.1 6 0 := by rw [(k2 6 0 (by intro q hq; revert q; simp)).1, (g2 6 0 (by intro q hq; revert q; simp)).1]
  have fK : tx_cH h K := ⟨(g2.sub (hs_sub_cons (.inl (by unfold tx_cL; simp)) (hs_sub_cons (.inl (by unfold tx_cL; simp)) hs_sub_nil))).tr (k2.sub (hs_sub_cons (.inl (by unfold tx_cL; simp)) hs_sub_nil)), by rw [K6]⟩
  unfold hf_53
  rw [g1, Option.bind_some, k1, Option.bind_some]
  have fP : tx_cH h (hs_put (hs_put (hs_put (hs_put K 6 0 4 (nI 0)) 6 0 8 (nI 0)) 6 0 9 (nI 0)) 6 0 10 (nI 0)) := tx_cH_put (tx_cH_put (tx_cH_put (tx_cH_put fK (.head _) (by omega)) (.head _) (by omega)) (.head _) (by omega)) (.head _) (by omega)
  have x4 : (hs_put (hs_put (hs_put (hs_put K 6 0 4 (nI 0)) 6 0 8 (nI 0)) 6 0 9 (nI 0)) 6 0 10 (nI 0)).1 6 0 4 = nI 0 := by rw [nx_get, if_neg (by omega), nx_get, if_neg (by omega), nx_get, if_neg (by omega), nx_get, if_pos ⟨rfl, rfl, rfl⟩]
  have x8 : (hs_put (hs_put (hs_put (hs_put K 6 0 4 (nI 0)) 6 0 8 (nI 0)) 6 0 9 (nI 0)) 6 0 10 (nI 0)).1 6 0 8 = nI 0 := by rw [nx_get, if_neg (by omega), nx_get, if_neg (by omega), nx_get, if_pos ⟨rfl, rfl, rfl⟩]
  have x9 : (hs_put (hs_put (hs_put (hs_put K 6 0 4 (nI 0)) 6 0 8 (nI 0)) 6 0 9 (nI 0)) 6 0 10 (nI 0)).1 6 0 9 = nI 0 := by rw [nx_get, if_neg (by omega), nx_get, if_pos ⟨rfl, rfl, rfl⟩]
  have x10 : (hs_put (hs_put (hs_put (hs_put K 6 0 4 (nI 0)) 6 0 8 (nI 0)) 6 0 9 (nI 0)) 6 0 10 (nI 0)).1 6 0 10 = nI 0 := by rw [nx_get, if_pos ⟨rfl, rfl, rfl⟩]
  have xo : ∀ c i, c ≠ 6 → (hs_put (hs_put (hs_put (hs_put K 6 0 4 (nI 0)) 6 0 8 (nI 0)) 6 0 9 (nI 0)) 6 0 10 (nI 0)).1 c i = K.1 c i := fun c i hc => by
    funext x
    rw [nx_get, if_neg (fun q => hc q.1), nx_get, if_neg (fun q => hc q.1), nx_get, if_neg (fun q => hc q.1), nx_get, if_neg (fun q => hc q.1)]
  generalize hs_put (hs_put (hs_put (hs_put K 6 0 4 (nI 0)) 6 0 8 (nI 0)) 6 0 9 (nI 0)) 6 0 10 (nI 0) = P at fP x4 x8 x9 x10 xo
  have z0' : ∀ k, k ≠ 0 → k ≠ 7 → tx_s0 k = 0 := fun k h1 h2 => by unfold tx_s0; rw [if_neg h1, if_neg h2]
  have sP : tx_cS tx_s0 P := by
    intro k hk
    obtain ⟨h1, h2⟩ := hk
    have h4 : tx_s0 4 = 0 := z0' 4 (by omega) (by omega)
    rw [h4] at h2
    by_cases c8 : k < 8
    · match k, c8 with
      | 0, _ => show P.1 4 1 1 = nI 5; rw [xo 4 1 (by omega), K4]; exact g3
      | 1, _ => show P.1 4 1 2 = nI 0; rw [xo 4 1 (by omega), K4]; exact g4
      | 2, _ => show P.1 4 1 4 = nI 0; rw [xo 4 1 (by omega), K4]; exact g6
      | 3, _ => show P.1 4 1 5 = nI 0; rw [xo 4 1 (by omega), K4]; exact g7
      | 4, _ => show P.1 5 1 3 = nI 0; rw [xo 5 1 (by omega)]; exact k3
      | 5, _ => exact x8
      | 6, _ => exact x9
      | 7, _ => show P.1 4 1 3 = nI 4294967292; rw [xo 4 1 (by omega), K4]; exact g5
      | k + 8, c8 => exact absurd c8 (by omega)
    · obtain ⟨j, rfl⟩ : ∃ j, k = 10 + j := ⟨k - 10, by omega⟩
      have hl : tx_lc (10 + j) = (27, 1, j) := by
        unfold tx_lc
        rw [if_neg (by omega), if_pos (by omega), Nat.add_sub_cancel_left]
      rw [hl, z0' (10 + j) (by omega) (by omega)]
      show P.1 27 1 j = nI 0
      rw [xo 27 1 (by omega), K27]
      exact g8 j (by omega)
  exact tx_c53l hn hb 400 0 0 tx_s0 P (by omega) (Nat.zero_le _) (Nat.le_refl _) (tx_cT_H fP t) x4 x10 sP tx_s0_ok fP hs_big (by unfold hs_big; omega)
end TB
