/-! The text: the model reads all; keeps its draft. -/
def tx_mJ (h0 h : hs_H) : Prop := hs_fr [(12, some 0), (46, some 0)] h0 h ∧ ∀ x, ¬ (7 ≤ x ∧ x ≤ 12) → ¬ (15 ≤ x ∧ x ≤ 20) → x ≠ 14 → h.1 12 0 x = h0.1 12 0 x
def tx_mA (r : tx_R (Nat × (Nat → Nat))) (h0 : hs_H) (o : Option (Int32 × hs_H)) : Prop := (∀ e, r = .inl e → ∃ H, o = some (nI 4294967286 - nI e.2, H) ∧ tx_mJ h0 H ∧ H.1 12 0 19 = nI e.1 ∧ H.1 12 0 14 = nI 0) ∧ ∀ x, r = .inr x → ∃ H, o = (hf_154 H).bind (fun q6 => some (nI x.1, q6)) ∧ tx_mJ h0 H ∧ tx_mS x.2 H ∧ H.1 12 0 19 = nI 0 ∧ H.1 12 0 14 = nI 0
section TS
variable {n : Nat} {tp : Nat → Nat} {h0 : hs_H}
theorem tx_mF.J {h : hs_H} (f : tx_mF h0 h) : tx_mJ h0 (hs_put h 12 0 14 (nI 0)) := ⟨f.1.put (.inl (.head _)), fun x a b c => by rw [nx_get, if_neg (by omega)]; exact f.2 x a b⟩
theorem tx_m73e {c w : Nat} {l : Int32} {H : hs_H} (hc : 0 < c ∧ c < 100) (f : tx_mF h0 H) (X : tx_mX c w H) : ∃ K, hb_169_73 l H = some (nI 4294967286 - nI w, K) ∧ tx_mJ h0 K ∧ K.1 12 0 19 = nI c ∧ K.1 12 0 14 = nI 0 := by
  have e19 : (hs_put H 12 0 14 (nI 0)).1 12 0 19 = nI c := by rw [nx_get, if_neg (by omega)]; exact X.1
  have e20 : (hs_put H 12 0 14 (nI 0)).1 12 0 20 = nI w := by rw [nx_get, if_neg (by omega)]; exact X.2
  refine ⟨hs_put H 12 0 14 (nI 0), ?_, f.J, e19, by rw [nx_get, if_pos ⟨rfl, rfl, rfl⟩]⟩
  unfold hb_169_73
  rw [e19, e20, if_neg (nI_nle hc.1 (by omega))]
theorem tx_m44e {c w : Nat} {l : Int32} {H : hs_H} (hc : 0 < c ∧ c < 100) (f : tx_mF h0 H) (X : tx_mX c w H) : ∃ K, hb_169_44 l H = some (nI 4294967286 - nI w, K) ∧ tx_mJ h0 K ∧ K.1 12 0 19 = nI c ∧ K.1 12 0 14 = nI 0 := by
  have e : hb_169_44 l H = hb_169_73 l H := by
    unfold hb_169_44
    rw [X.1, if_pos (nI_ne0 hc.1 (by omega))]
  rw [e]
  exact tx_m73e hc f X
theorem tx_hi_lt {m N : Nat} {x : Int32} (hN : N ≤ 10) (p : tx_hi m x) : nI N ≤ x ↔ ¬ m < 2 ^ N := by
  have hneg : ∀ v, v < 11 → ¬ nI v ≤ nI 4294967292 := by decide
  rcases p with ⟨p1, p2⟩ | ⟨i, p1, p2, p3, p4⟩
  · rw [p1, p2]
    exact ⟨fun q => absurd q (hneg N (by omega)), fun q => absurd (Nat.two_pow_pos N) q⟩
  · rw [p2]
    by_cases c : N ≤ i
    · refine ⟨fun _ q => ?_, fun _ => nI_le c (by omega)⟩
      rw [tb_hi q c] at p3
      cases p3
    · have hlt : m < 2 ^ N := Nat.lt_pow_two_of_testBit _ (fun j hj => p4 j (by omega))
      exact ⟨fun q => absurd q (nI_ge (by omega) (by omega)), fun q => absurd hlt q⟩
def tx_oF : (Int32 × hs_H → Option (Int32 × hs_H)) → Int32 × hs_H → Option (Int32 × hs_H) := fun k s => hb_169_20 k s.1 s.2
theorem tx_m169l (hn : n ≤ 320) (hb : ∀ q, tp q < 256) : ∀ (f p l : Nat) (σ : Nat → Nat) (H : hs_H), n - p < f → p ≤ n → tx_mT n tp H → tx_mQ n tp p H → tx_mS σ H → tx_ok σ → tx_mF h0 H → ∀ M, f < M → tx_mA (ab_all n tp f p l σ) h0 (hs_lp tx_oF M (nI l, H)) := by
  intro f
  induction f with
  | zero => intro p l σ H h; omega
  | succ f ih =>
    intro p l σ H hf hp t Q s ok fr M hM
    obtain ⟨M, rfl⟩ : ∃ M2, M = M2 + 1 := ⟨M - 1, by omega⟩
    have hKb : tx_K n tp p ≤ 5 := tx_at_b
    have e20 : hs_lp tx_oF (M + 1) (nI l, H) = hb_169_20 (hs_lp tx_oF M) (nI l) H := rfl
    rw [e20]
    show tx_mA (if tx_B n tp p = true then _ else _) h0 _
    have dead : ∀ e : Nat × Nat, 0 < e.1 ∧ e.1 < 100 → ∀ (k : Int32 × hs_H → Option (Int32 × hs_H)) (x : Int32) G, tx_mF h0 G → tx_mX e.1 e.2 G → tx_mA (.inl e) h0 (hb_169_20 k x G) := fun e he k x G fG X => by
      refine ⟨fun e' q => ?_, fun _ q => by cases q⟩
      injection q with q
      rw [← q]
      obtain ⟨K, k1, k2⟩ := tx_m44e (l := x) he fG X
      refine ⟨K, ?_, k2⟩
      rw [← k1]
      unfold hb_169_20
      rw [X.1, if_pos (nI_ne0 he.1 (by omega))]
    cases hB : tx_B n tp p with
    | true =>
      rw [if_pos rfl]
      exact dead _ (by show 0 < 1 ∧ 1 < 100; omega) _ _ H fr (Q.1 hB)
    | false =>
      obtain ⟨m0, m⟩ := Q.2 hB
      rw [if_neg Bool.false_ne_true]
      have e1 : hb_169_20 (hs_lp tx_oF M) (nI l) H = if nI (tx_K n tp p) = 0 then hb_169_44 (nI l) H else (hf_168 H).bind (fun q10 => hs_lp tx_oF M (nI l + nI 1, q10)) := by
        unfold hb_169_20
        rw [m0, if_neg (show ¬ ¬ nI 0 = 0 by decide), m.2.2.1]
      rw [e1]
      by_cases hK : tx_K n tp p = 0
      · rw [if_pos hK, if_pos (show nI (tx_K n tp p) = 0 by rw [hK]; rfl)]
        have e7 : H.1 12 0 7 = nI (σ 0) := tx_mZ_g s.1 (k := 0) ⟨by omega, Or.inl (by omega)⟩ (by omega) rfl
        have hl := tx_hi_lt ok.1.2 s.2.1
        have a8 := (tx_spec (tp := tp) hn hp).2.2.2.2.2 hK
        have e44 : hb_169_44 (nI l) H = if nI (σ 0) ≤ H.1 12 0 11 then hb_169_68 (nI l) (nI 0) H else hb_169_68 (nI l) (nI 1) H := by
          unfold hb_169_44
          rw [m0, if_neg (show ¬ ¬ nI 0 = 0 by decide), e7]
        rw [e44]
        unfold hb_169_68
        by_cases c : σ 6 < 2 ^ σ 0
        · rw [if_pos c, if_neg (fun q => hl.mp q c), sp_157t, Option.bind_some]
          refine ⟨fun e q => (by cases q), fun x q => ?_⟩
          injection q with q
          rw [← q]
          have e19 : (hs_put H 12 0 14 (nI 0)).1 12 0 19 = nI 0 := by rw [nx_get, if_neg (by omega)]; exact m0
          refine ⟨hs_put H 12 0 14 (nI 0), ?_, fr.J, ?_, e19, by rw [nx_get, if_pos ⟨rfl, rfl, rfl⟩]⟩
          · unfold hb_169_73
            rw [e19, if_pos (show nI 0 ≤ 0 by decide)]
          · refine ⟨fun k hk h6 => ?_, ?_, ?_⟩
            · obtain ⟨q1, -⟩ := tx_lm_out k hk.1
              rw [nx_get, if_neg (fun w => by have := q1 w.1; omega)]
              exact s.1 k hk h6
            · rw [nx_get, if_neg (by omega)]; exact s.2.1
            · unfold tx_m0
              refine ⟨by rw [nx_get, if_neg (by omega)]; exact s.2.2.1, fun k h1 h2 => by rw [nx_get, if_neg (by omega)]; exact s.2.2.2 k h1 h2⟩
        · rw [if_neg c, if_pos (hl.mpr c), sp_157f m0, Option.bind_some, m.2.1, a8]
          refine ⟨fun e q => ?_, fun x q => by cases q⟩
          injection q with q
          rw [← q]
          exact tx_m73e ⟨by omega, by omega⟩ (fr.tr (tx_mG_f tx_mG.rf).F) tx_mX_f
      · rw [if_neg hK, if_neg (nI_ne0 (by omega) (by omega))]
        have r := tx_m168 hn hb hp t m0 m s ok
        have g := ab_line_g (tp := tp) hn hp ok
        cases hL : ab_line n tp p σ with
        | inl e =>
          obtain ⟨K, s1, s2, s3⟩ := r.1 e hL
          obtain ⟨⟨g1, g2⟩, g3⟩ := g.1 e hL
          obtain ⟨M, rfl⟩ : ∃ M2, M = M2 + 1 := ⟨M - 1, by omega⟩
          rw [s1, Option.bind_some]
          exact dead e (by omega) (hs_lp tx_oF M) (nI l + nI 1) K (fr.tr s2) s3
        | inr x =>
          obtain ⟨K, s1, s2, s3, s4⟩ := r.2 x hL
          obtain ⟨⟨g1, g2⟩, g3⟩ := g.2 x hL
          rw [s1, Option.bind_some, nI_add]
          exact ih x.1 (l + 1) x.2 K (by omega) g2 (tx_mT_F s2 t) s4 s3 g3 (fr.tr s2) M (by omega)
theorem sp_153 {h : hs_H} : ∃ G, hf_153 h = some G ∧ tx_mF h G ∧ tx_mS tx_s0 G ∧ ∀ x, 13 ≤ x → G.1 12 0 x = h.1 12 0 x := by
  have hl := lp_for (f := fun k s => hb_153_2 k s.1 s.2) (st := fun j => (nI j, hs_row h 46 0 j (fun _ => nI 0))) (e := 54) (X := some (hs_put (hs_put (hs_put (hs_put (hs_put (hs_put (hs_put (hs_put (hs_row h 46 0 54 (fun _ => nI 0)) 46 0 10 (nI 4294967292)) 46 0 11 (nI 4294967292)) 12 0 7 (nI 5)) 12 0 8 (nI 0)) 12 0 9 (nI 0)) 12 0 10 (nI 0)) 12 0 11 (nI 4294967292)) 12 0 12 (nI 0))) (fun j hj k => by
    show hb_153_2 k (nI j) (hs_row h 46 0 j (fun _ => nI 0)) = k (nI (j + 1), hs_row h 46 0 (j + 1) (fun _ => nI 0))
    unfold hb_153_2
    rw [if_neg (nI_ge hj (by omega)), nx_inb (show j < 54 by omega) (by omega), nx_ck, nI_clamp (show j < 2147483648 by omega), nI_add, ← hs_rowS h 46 0 j (fun _ => nI 0)]) (fun k => by
    show hb_153_2 k (nI 54) (hs_row h 46 0 54 (fun _ => nI 0)) = _
    unfold hb_153_2
    rw [if_pos (nI_le (Nat.le_refl _) (by omega)), nx_inb (show 10 < 54 by omega) (by omega), nx_ck, nx_inb (show 11 < 54 by omega) (by omega), nx_ck, nI_clamp (show 10 < 2147483648 by omega), nI_clamp (show 11 < 2147483648 by omega)]) 0 hs_big (by omega) (lp_big (by omega))
  rw [hs_row0] at hl
  have a46 : ∀ k, k < 54 → (hs_put (hs_put (hs_put (hs_put (hs_put (hs_put (hs_put (hs_put (hs_row h 46 0 54 (fun _ => nI 0)) 46 0 10 (nI 4294967292)) 46 0 11 (nI 4294967292)) 12 0 7 (nI 5)) 12 0 8 (nI 0)) 12 0 9 (nI 0)) 12 0 10 (nI 0)) 12 0 11 (nI 4294967292)) 12 0 12 (nI 0)).1 46 0 k = if k = 10 ∨ k = 11 then nI 4294967292 else nI 0 := fun k hk => by
    rw [nx_get, if_neg (by omega), nx_get, if_neg (by omega), nx_get, if_neg (by omega), nx_get, if_neg (by omega), nx_get, if_neg (by omega), nx_get, if_neg (by omega), nx_get]
    by_cases c1 : k = 11
    · rw [if_pos ⟨rfl, rfl, c1⟩, if_pos (Or.inr c1)]
    · rw [if_neg (fun q => c1 q.2.2), nx_get]
      by_cases c2 : k = 10
      · rw [if_pos ⟨rfl, rfl, c2⟩, if_pos (Or.inl c2)]
      · rw [if_neg (fun q => c2 q.2.2), if_neg (by omega), nx_rowget, if_pos ⟨rfl, rfl, hk⟩]
  have z : ∀ k, k ≠ 0 → k ≠ 7 → tx_s0 k = 0 := fun k h1 h2 => by unfold tx_s0; rw [if_neg h1, if_neg h2]
  have fr : tx_mF h (hs_put (hs_put (hs_put (hs_put (hs_put (hs_put (hs_put (hs_put (hs_row h 46 0 54 (fun _ => nI 0)) 46 0 10 (nI 4294967292)) 46 0 11 (nI 4294967292)) 12 0 7 (nI 5)) 12 0 8 (nI 0)) 12 0 9 (nI 0)) 12 0 10 (nI 0)) 12 0 11 (nI 4294967292)) 12 0 12 (nI 0)) := by
    have f0 : tx_mF h (hs_row h 46 0 54 (fun _ => nI 0)) := ⟨hs_row_fr (.inl (.tail _ (.head _))), fun x _ _ => by rw [nx_rowget, if_neg (by omega)]⟩
    exact tx_mF_12 (tx_mF_12 (tx_mF_12 (tx_mF_12 (tx_mF_12 (tx_mF_12 (tx_mF_46 (tx_mF_46 f0)) (by omega)) (by omega)) (by omega)) (by omega)) (by omega)) (by omega)
  refine ⟨_, hl, fr, ⟨?_, ?_, ?_⟩, fun x hx => ?_⟩
  · rw [z 4 (by omega) (by omega)]
    intro k hk h6
    obtain ⟨h1, h2⟩ := hk
    by_cases c8 : k < 8
    · match k, c8, h6 with
      | 0, _, _ =>
        show (hs_put _ 12 0 12 _).1 12 0 7 = nI 5
        rw [nx_get, if_neg (by omega), nx_get, if_neg (by omega), nx_get, if_neg (by omega), nx_get, if_neg (by omega), nx_get, if_neg (by omega), nx_get, if_pos ⟨rfl, rfl, rfl⟩]
      | 1, _, _ =>
        show (hs_put _ 12 0 12 _).1 12 0 8 = nI 0
        rw [nx_get, if_neg (by omega), nx_get, if_neg (by omega), nx_get, if_neg (by omega), nx_get, if_neg (by omega), nx_get, if_pos ⟨rfl, rfl, rfl⟩]
      | 2, _, _ =>
        show (hs_put _ 12 0 12 _).1 12 0 9 = nI 0
        rw [nx_get, if_neg (by omega), nx_get, if_neg (by omega), nx_get, if_neg (by omega), nx_get, if_pos ⟨rfl, rfl, rfl⟩]
      | 3, _, _ =>
        show (hs_put _ 12 0 12 _).1 12 0 10 = nI 0
        rw [nx_get, if_neg (by omega), nx_get, if_neg (by omega), nx_get, if_pos ⟨rfl, rfl, rfl⟩]
      | 4, _, _ =>
        show (hs_put _ 12 0 12 _).1 46 0 23 = nI 0
        rw [a46 23 (by omega), if_neg (by omega)]
      | 5, _, _ =>
        show (hs_put _ 12 0 12 _).1 12 0 12 = nI 0
        rw [nx_get, if_pos ⟨rfl, rfl, rfl⟩]
      | 6, _, h6 => exact absurd rfl h6
      | 7, _, _ =>
        show (hs_put _ 12 0 12 _).1 46 0 10 = nI 4294967292
        rw [a46 10 (by omega), if_pos (Or.inl rfl)]
      | k + 8, c8, _ => exact absurd c8 (by omega)
    · obtain ⟨j, rfl⟩ : ∃ j, k = 10 + j := ⟨k - 10, by omega⟩
      rw [tx_lm_j j (by omega), z (10 + j) (by omega) (by omega)]
      show (hs_put _ 12 0 12 _).1 46 0 j = nI 0
      rw [a46 j (by omega), if_neg (by omega)]
  · refine Or.inl ⟨z 6 (by omega) (by omega), ?_⟩
    rw [nx_get, if_neg (by omega), nx_get, if_pos ⟨rfl, rfl, rfl⟩]
  · refine ⟨?_, fun k h1 h2 => ?_⟩
    · rw [a46 11 (by omega), if_pos (Or.inr rfl)]
    · rw [a46 k (by omega), if_neg (by omega)]
  · rw [nx_get, if_neg (by omega), nx_get, if_neg (by omega), nx_get, if_neg (by omega), nx_get, if_neg (by omega), nx_get, if_neg (by omega), nx_get, if_neg (by omega), nx_get, if_neg (by omega), nx_get, if_neg (by omega), nx_rowget, if_neg (by omega)]
theorem tx_m169 {h : hs_H} (hn : n ≤ 320) (hb : ∀ q, tp q < 256) (t : tx_mT n tp h) : tx_mA (ab_all n tp 400 0 0 tx_s0) h (hf_169 h) := by
  have f0 : tx_mF h (hs_put (hs_put h 12 0 19 (nI 0)) 12 0 15 (nI 0)) := ((tx_mG.rf.put (by omega)).put (by omega)).F
  have e19 : (hs_put (hs_put h 12 0 19 (nI 0)) 12 0 15 (nI 0)).1 12 0 19 = nI 0 := by rw [nx_get, if_neg (by omega), nx_get, if_pos ⟨rfl, rfl, rfl⟩]
  have e15 : (hs_put (hs_put h 12 0 19 (nI 0)) 12 0 15 (nI 0)).1 12 0 15 = nI 0 := by rw [nx_get, if_pos ⟨rfl, rfl, rfl⟩]
  obtain ⟨G, g1, g2, g3, g4⟩ := sp_153 (h := hs_put (hs_put h 12 0 19 (nI 0)) 12 0 15 (nI 0))
  obtain ⟨K, k1, k2, k3⟩ := sp_161 (p := 0) (h := G) hn hb (Nat.zero_le _) (tx_mT_F (f0.tr g2) t) (by rw [g4 15 (by omega)]; exact e15) (by rw [g4 19 (by omega)]; exact e19)
  unfold hf_169
  rw [g1, Option.bind_some, k1, Option.bind_some]
  exact tx_m169l hn hb 400 0 0 tx_s0 K (by omega) (Nat.zero_le _) (tx_mT_F ((f0.tr g2).tr k2.F) t) k3 (tx_mS_G k2 g3) tx_s0_ok ((f0.tr g2).tr k2.F) hs_big (by unfold hs_big; omega)
theorem sp_154 {h : hs_H} : ∃ G, hf_154 h = some G ∧ hs_fr [(12, some 0), (44, some 0), (45, some 0)] h G ∧ (∀ k, k < 54 → G.1 44 0 k = h.1 46 0 k) ∧ (G.1 12 0 2 = h.1 12 0 7 ∧ G.1 12 0 3 = h.1 12 0 8 ∧ G.1 12 0 4 = h.1 12 0 9 ∧ G.1 12 0 5 = h.1 12 0 10) ∧ (∀ x, 6 ≤ x → G.1 12 0 x = h.1 12 0 x) ∧ G.1 45 0 0 = 0 ∧ G.1 45 0 1 = 0 := by
  have r12 : ∀ j k, (hs_row h 44 0 j (fun k => h.1 46 0 k)).1 12 0 k = h.1 12 0 k := fun j k => by rw [nx_rowget, if_neg (by omega)]
  have hl := lp_for (f := fun k s => hb_154_2 k s.1 s.2) (st := fun j => (nI j, hs_row h 44 0 j (fun k => h.1 46 0 k))) (e := 54) (X := some (hs_put (hs_put (hs_put (hs_put (hs_put (hs_put (hs_row h 44 0 54 (fun k => h.1 46 0 k)) 12 0 2 (h.1 12 0 7)) 12 0 3 (h.1 12 0 8)) 12 0 4 (h.1 12 0 9)) 12 0 5 (h.1 12 0 10)) 45 0 0 (nI 0)) 45 0 1 (nI 0))) (fun j hj k => by
    show hb_154_2 k (nI j) (hs_row h 44 0 j (fun k => h.1 46 0 k)) = k (nI (j + 1), hs_row h 44 0 (j + 1) (fun k => h.1 46 0 k))
    have e : (hs_row h 44 0 j (fun k => h.1 46 0 k)).1 46 0 j = h.1 46 0 j := by rw [nx_rowget, if_neg (by omega)]
    unfold hb_154_2
    rw [if_neg (nI_ge hj (by omega)), nx_inb (show j < 54 by omega) (by omega), nx_ck, nx_inb (show j < 162 by omega) (by omega), nx_ck, nI_clamp (show j < 2147483648 by omega), nI_add, e, ← hs_rowS h 44 0 j (fun k => h.1 46 0 k)]) (fun k => by
    show hb_154_2 k (nI 54) (hs_row h 44 0 54 (fun k => h.1 46 0 k)) = _
    have s7 := r12 54 7
    have s8 : (hs_put (hs_row h 44 0 54 (fun k => h.1 46 0 k)) 12 0 2 (h.1 12 0 7)).1 12 0 8 = h.1 12 0 8 := by rw [nx_get, if_neg (by omega), r12]
    have s9 : (hs_put (hs_put (hs_row h 44 0 54 (fun k => h.1 46 0 k)) 12 0 2 (h.1 12 0 7)) 12 0 3 (h.1 12 0 8)).1 12 0 9 = h.1 12 0 9 := by rw [nx_get, if_neg (by omega), nx_get, if_neg (by omega), r12]
    have s10 : (hs_put (hs_put (hs_put (hs_row h 44 0 54 (fun k => h.1 46 0 k)) 12 0 2 (h.1 12 0 7)) 12 0 3 (h.1 12 0 8)) 12 0 4 (h.1 12 0 9)).1 12 0 10 = h.1 12 0 10 := by rw [nx_get, if_neg (by omega), nx_get, if_neg (by omega), nx_get, if_neg (by omega), r12]
    unfold hb_154_2
    rw [if_pos (nI_le (Nat.le_refl _) (by omega)), nx_inb (show 0 < 2 by omega) (by omega), nx_ck, nx_inb (show 1 < 2 by omega) (by omega), nx_ck, nI_clamp (show 0 < 2147483648 by omega), nI_clamp (show 1 < 2147483648 by omega), s7, s8, s9, s10]) 0 hs_big (by omega) (lp_big (by omega))
  rw [hs_row0] at hl
  refine ⟨_, hl, ((((((hs_row_fr (.inl (.tail _ (.head _)))).put (.inl (.head _))).put (.inl (.head _))).put (.inl (.head _))).put (.inl (.head _))).put (.inl (.tail _ (.tail _ (.head _))))).put (.inl (.tail _ (.tail _ (.head _)))), fun k hk => ?_, ⟨?_, ?_, ?_, ?_⟩, fun x hx => ?_, ?_, ?_⟩
  · rw [nx_get, if_neg (by omega), nx_get, if_neg (by omega), nx_get, if_neg (by omega), nx_get, if_neg (by omega), nx_get, if_neg (by omega), nx_get, if_neg (by omega), nx_rowget, if_pos ⟨rfl, rfl, hk⟩]
  · rw [nx_get, if_neg (by omega), nx_get, if_neg (by omega), nx_get, if_neg (by omega), nx_get, if_neg (by omega), nx_get, if_neg (by omega), nx_get, if_pos ⟨rfl, rfl, rfl⟩]
  · rw [nx_get, if_neg (by omega), nx_get, if_neg (by omega), nx_get, if_neg (by omega), nx_get, if_neg (by omega), nx_get, if_pos ⟨rfl, rfl, rfl⟩]
  · rw [nx_get, if_neg (by omega), nx_get, if_neg (by omega), nx_get, if_neg (by omega), nx_get, if_pos ⟨rfl, rfl, rfl⟩]
  · rw [nx_get, if_neg (by omega), nx_get, if_neg (by omega), nx_get, if_pos ⟨rfl, rfl, rfl⟩]
  · rw [nx_get, if_neg (by omega), nx_get, if_neg (by omega), nx_get, if_neg (by omega), nx_get, if_neg (by omega), nx_get, if_neg (by omega), nx_get, if_neg (by omega), r12]
  · rw [nx_get, if_neg (by omega), nx_get, if_pos ⟨rfl, rfl, rfl⟩]
    rfl
  · rw [nx_get, if_pos ⟨rfl, rfl, rfl⟩]
    rfl
end TS
