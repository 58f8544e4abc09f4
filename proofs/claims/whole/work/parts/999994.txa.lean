/-! The text: the model reads a line. -/
section TQ
variable {n : Nat} {tp : Nat → Nat} {σ : Nat → Nat} {Z : Nat} {h0 h : hs_H}
def tx_mB (n : Nat) (tp : Nat → Nat) (r : tx_R (Nat × (Nat → Nat))) (h0 : hs_H) (o : Option hs_H) : Prop := (∀ e, r = .inl e → ∃ H, o = some H ∧ tx_mF h0 H ∧ tx_mX e.1 e.2 H) ∧ ∀ x, r = .inr x → ∃ H, o = some H ∧ tx_mF h0 H ∧ (tx_B n tp x.1 = false → tx_mS x.2 H) ∧ tx_mQ n tp x.1 H
theorem tx_mB_l {e : Nat × Nat} {H : hs_H} {o : Option hs_H} (h1 : o = some H) (f : tx_mF h0 H) (x : tx_mX e.1 e.2 H) : tx_mB n tp (.inl e) h0 o := ⟨fun e' q => by
  injection q with q
  rw [← q]
  exact ⟨H, h1, f, x⟩, fun _ q => by cases q⟩
theorem tx_mB_r {x : Nat × (Nat → Nat)} {H : hs_H} {o : Option hs_H} (h1 : o = some H) (f : tx_mF h0 H) (s : tx_B n tp x.1 = false → tx_mS x.2 H) (q : tx_mQ n tp x.1 H) : tx_mB n tp (.inr x) h0 o := ⟨fun e' q => (by cases q), fun x' w => by
  injection w with w
  rw [← w]
  exact ⟨H, h1, f, s, q⟩⟩
theorem tx_mB.tr {r : tx_R (Nat × (Nat → Nat))} {h1 : hs_H} {o : Option hs_H} (f : tx_mF h0 h1) (p : tx_mB n tp r h1 o) : tx_mB n tp r h0 o := ⟨fun e q => by
  obtain ⟨H, p1, p2, p3⟩ := p.1 e q
  exact ⟨H, p1, f.tr p2, p3⟩, fun x q => by
  obtain ⟨H, p1, p2, p3⟩ := p.2 x q
  exact ⟨H, p1, f.tr p2, p3⟩⟩
theorem tx_mX_12 {c w x : Nat} {v : Int32} (hx : 7 ≤ x ∧ x ≤ 12) (X : tx_mX c w h) : tx_mX c w (hs_put h 12 0 x v) := ⟨by rw [nx_get, if_neg (by omega)]; exact X.1, by rw [nx_get, if_neg (by omega)]; exact X.2⟩
theorem tx_mX_46 {c w x : Nat} {v : Int32} (X : tx_mX c w h) : tx_mX c w (hs_put h 46 0 x v) := ⟨by rw [nx_get, if_neg (by omega)]; exact X.1, by rw [nx_get, if_neg (by omega)]; exact X.2⟩
theorem tx_mQ_o {p : Nat} {H : hs_H} (e : ∀ x, 15 ≤ x → H.1 12 0 x = h.1 12 0 x) (q : tx_mQ n tp p h) : tx_mQ n tp p H := by
  unfold tx_mQ tx_mX tx_mK at q ⊢
  rw [e 15 (by omega), e 16 (by omega), e 17 (by omega), e 18 (by omega), e 19 (by omega), e 20 (by omega)]
  exact q
theorem tx_mQ_12 {p x : Nat} {v : Int32} (hx : 7 ≤ x ∧ x ≤ 12) (q : tx_mQ n tp p h) : tx_mQ n tp p (hs_put h 12 0 x v) := tx_mQ_o (fun y hy => by rw [nx_get, if_neg (by omega)]) q
theorem tx_mQ_46 {p x : Nat} {v : Int32} (q : tx_mQ n tp p h) : tx_mQ n tp p (hs_put h 46 0 x v) := tx_mQ_o (fun y hy => by rw [nx_get, if_neg (by omega)]) q
theorem tx_mS_up {i v c o p : Nat} (s : tx_mS σ h) (hi : i < 60) (h4 : i ≠ 4) (h6 : i ≠ 6) (hl : tx_lm i = (c, o, p)) (hc : c = 12 ∨ c = 46) : tx_mS (tx_up σ i v) (hs_put h c o p (nI v)) := by
  obtain ⟨q1, q2⟩ := tx_lm_out i hi
  rw [hl] at q1 q2
  refine ⟨?_, ?_, ?_⟩
  · rw [tx_up_ne (fun q => h4 q.symm)]
    exact tx_mZ_put hi hl s.1
  · rw [tx_up_ne (fun q => h6 q.symm), nx_get, if_neg (fun w => (q1 w.1.symm).2.2.2 w.2.2.symm)]
    exact s.2.1
  · unfold tx_m0
    refine ⟨?_, fun k h1 h2 => ?_⟩
    · rw [nx_get, if_neg (fun w => by have e : p ≤ 10 ∨ 23 ≤ p := q2 w.1.symm; omega)]; exact s.2.2.1
    · rw [nx_get, if_neg (fun w => by have e : p ≤ 10 ∨ 23 ≤ p := q2 w.1.symm; omega)]; exact s.2.2.2 k h1 h2
theorem tx_lm_s : ∀ z, z < 10 → tx_lm (30 + 3 * z) = (46, 0, 24 + 3 * z) ∧ tx_lm (31 + 3 * z) = (46, 0, 25 + 3 * z) ∧ tx_lm (32 + 3 * z) = (46, 0, 26 + 3 * z) := by decide
theorem tx_lm_j : ∀ k, k < 10 → tx_lm (10 + k) = (46, 0, k) := by decide
theorem tx_mS_in {j : Nat} {v : Int32} (hj : 3 * σ 4 ≤ j) (hj2 : j < 30) (s : tx_mS σ h) : tx_mS σ (hs_put h 46 0 (24 + j) v) := by
  have hl : tx_lm (30 + j) = (46, 0, 24 + j) := by
    unfold tx_lm
    rw [if_neg (by omega), if_neg (by omega), if_neg (by omega), Nat.add_sub_cancel_left]
  refine ⟨fun k hk h6 => ?_, ?_, ?_⟩
  · rw [nx_get, if_neg (fun q => by
      have := tx_lm_inj k hk.1 (30 + j) (by omega) (by rw [hl]; exact Prod.ext q.1 (Prod.ext q.2.1 q.2.2))
      have := hk.2
      omega)]
    exact s.1 k hk h6
  · rw [nx_get, if_neg (by omega)]; exact s.2.1
  · unfold tx_m0
    refine ⟨by rw [nx_get, if_neg (by omega)]; exact s.2.2.1, fun k h1 h2 => by rw [nx_get, if_neg (by omega)]; exact s.2.2.2 k h1 h2⟩
/-- what was smelt: one more -/
theorem tx_mS_sm {t v g : Nat} (h4 : σ 4 < 10) (s : tx_mS σ h) (ht : h.1 46 0 (24 + 3 * σ 4) = nI t) (hv : h.1 46 0 (25 + 3 * σ 4) = nI v) : tx_mS (tx_sm σ t v g) (hs_put (hs_put h 46 0 (26 + 3 * σ 4) (nI g)) 46 0 23 (nI (σ 4 + 1))) := by
  obtain ⟨l1, l2, l3⟩ := tx_lm_s (σ 4) h4
  obtain ⟨f4, f1, f2, f3⟩ := tx_sm_e (σ := σ) (t := t) (v := v) (g := g)
  have l4 : tx_lm 4 = (46, 0, 23) := rfl
  refine ⟨?_, ?_, ?_⟩
  · rw [f4]
    intro k hk h6
    by_cases c4 : k = 4
    · rw [c4, l4, f4, nx_get, if_pos ⟨rfl, rfl, rfl⟩]
    · have n4 : ¬ ((tx_lm k).1 = 46 ∧ (tx_lm k).2.1 = 0 ∧ (tx_lm k).2.2 = 23) := fun q => c4 (tx_lm_inj k hk.1 4 (by omega) (by rw [l4]; exact Prod.ext q.1 (Prod.ext q.2.1 q.2.2)))
      rw [nx_get, if_neg n4]
      by_cases c : k < 30 + 3 * σ 4
      · rw [tx_sm_n c4 c, nx_get, if_neg (fun q => by
          have := tx_lm_inj k hk.1 (32 + 3 * σ 4) (by omega) (by rw [l3]; exact Prod.ext q.1 (Prod.ext q.2.1 q.2.2))
          omega)]
        exact s.1 k ⟨hk.1, by have := hk.2; omega⟩ h6
      · have hk2 := hk.2
        have : k = 30 + 3 * σ 4 ∨ k = 31 + 3 * σ 4 ∨ k = 32 + 3 * σ 4 := by omega
        rcases this with e | e | e
        · rw [e, l1, f1]
          show (hs_put h 46 0 (26 + 3 * σ 4) (nI g)).1 46 0 (24 + 3 * σ 4) = nI t
          rw [nx_get, if_neg (by omega)]
          exact ht
        · rw [e, l2, f2]
          show (hs_put h 46 0 (26 + 3 * σ 4) (nI g)).1 46 0 (25 + 3 * σ 4) = nI v
          rw [nx_get, if_neg (by omega)]
          exact hv
        · rw [e, l3, f3, nx_get, if_pos ⟨rfl, rfl, rfl⟩]
  · rw [nx_get, if_neg (by omega), nx_get, if_neg (by omega), tx_sm_n (by omega) (by omega)]
    exact s.2.1
  · unfold tx_m0
    refine ⟨by rw [nx_get, if_neg (by omega), nx_get, if_neg (by omega)]; exact s.2.2.1, fun k h1 h2 => by rw [nx_get, if_neg (by omega), nx_get, if_neg (by omega)]; exact s.2.2.2 k h1 h2⟩
theorem tx_m166 {q : Nat} (hn : n ≤ 320) (hb : ∀ q, tp q < 256) (hq : q ≤ n) (h4 : σ 4 < 10) (t : tx_mT n tp h) (Q : tx_mQ n tp q h) (s : tx_mS σ h) : tx_mB n tp (ab_body n tp 6 q σ) h (hf_166 h) := by
  have a6 := (tx_spec (tp := tp) hn hq).2.2.2.1.2
  have b6 := (tx_spec (tp := tp) hn a6).2.2.2.1.2
  have e23 : h.1 46 0 23 = nI (σ 4) := tx_mZ_g s.1 (k := 4) ⟨by omega, Or.inl (by omega)⟩ (by omega) rfl
  have i23 : (nI 23).toNatClampNeg = 23 := nI_clamp (by omega)
  have ix : nI 24 + nI 3 * nI (σ 4) = nI (24 + 3 * σ 4) := by rw [pk_mul, nI_add]
  have ix1 : nI (24 + 3 * σ 4) + nI 1 = nI (25 + 3 * σ 4) := by rw [nI_add, show 24 + 3 * σ 4 + 1 = 25 + 3 * σ 4 by omega]
  have ix2 : nI (24 + 3 * σ 4) + nI 2 = nI (26 + 3 * σ 4) := by rw [nI_add, show 24 + 3 * σ 4 + 2 = 26 + 3 * σ 4 by omega]
  -- the last two writes, and the first two
  have shape : ∀ q2 : Int32 × hs_H, hf_163 (nI 0) (nI 5) h = some q2 → ∀ q4 : Int32 × hs_H, hf_164 (nI 0) (hs_put q2.2 46 0 (24 + 3 * σ 4) q2.1) = some q4 → ∀ q6 : Int32 × hs_H, hf_163 (nI 0) (nI 18) (hs_put q4.2 46 0 (25 + 3 * σ 4) q4.1) = some q6 → hf_166 h = some (hs_put (hs_put q6.2 46 0 (26 + 3 * σ 4) q6.1) 46 0 23 ((hs_put q6.2 46 0 (26 + 3 * σ 4) q6.1).1 46 0 23 + nI 1)) := fun q2 e2 q4 e4 q6 e6 => by
    unfold hf_166
    rw [i23, e23, ix, ix1, ix2, nx_inb (show 23 < 54 by omega) (by omega), nx_ck, e2, Option.bind_some, nx_inb (show 24 + 3 * σ 4 < 54 by omega) (by omega), nx_ck, nI_clamp (show 24 + 3 * σ 4 < 2147483648 by omega), e4, Option.bind_some, nx_inb (show 25 + 3 * σ 4 < 54 by omega) (by omega), nx_ck, nI_clamp (show 25 + 3 * σ 4 < 2147483648 by omega), e6, Option.bind_some, nx_inb (show 26 + 3 * σ 4 < 54 by omega) (by omega), nx_ck, nx_ck, nx_ck, nI_clamp (show 26 + 3 * σ 4 < 2147483648 by omega)]
  obtain ⟨r1, r2⟩ := tx_m163 (lo := 0) (hi := 5) hn hb (by omega) (by omega) hq t Q
  show tx_mB n tp (tx_sb (ab_num n tp 0 5 q) _) h _
  -- from a fault on
  have dead2 : ∀ c w G v4, 0 < c ∧ c < 100 → tx_mX c w G → tx_mF h G → ∀ q2 : Int32 × hs_H, hf_163 (nI 0) (nI 5) h = some q2 → ∀ q4 : Int32 × hs_H, hf_164 (nI 0) (hs_put q2.2 46 0 (24 + 3 * σ 4) q2.1) = some q4 → q4 = (v4, G) → ∃ H, hf_166 h = some H ∧ tx_mF h H ∧ tx_mX c w H := fun c w G v4 hc X f q2 e2 q4 e4 e => by
    have X1 : tx_mX c w (hs_put G 46 0 (25 + 3 * σ 4) v4) := tx_mX_46 X
    have e6 := tx_m163x (a := nI 0) (b := nI 18) hc X1
    rw [e] at e4
    refine ⟨_, shape q2 e2 (v4, G) e4 _ e6, tx_mF_46 (tx_mF_46 (tx_mF_46 f)), tx_mX_46 (tx_mX_46 X1)⟩
  cases hN1 : ab_num n tp 0 5 q with
  | inl e =>
    obtain ⟨G, s1, s2, s3⟩ := r1 e hN1
    obtain ⟨g1, g2, g3⟩ := ab_num_l hN1
    obtain ⟨K, u1, u2, u3⟩ := tx_m164x (b := nI 0) (h := hs_put G 46 0 (24 + 3 * σ 4) (nI 0)) (show 0 < e.1 ∧ e.1 < 100 by omega) (tx_mX_46 s3)
    obtain ⟨H, v1, v2, v3⟩ := dead2 e.1 e.2 K (nI 0) (by omega) u3 ((tx_mF_46 s2.F).tr u2) _ s1 _ u1 rfl
    exact tx_mB_l v1 v2 v3
  | inr tt =>
    obtain ⟨G, s1, s2, s3⟩ := r2 tt hN1
    have sG := tx_mS_in (j := 3 * σ 4) (v := nI tt) (Nat.le_refl _) (by omega) (tx_mS_G s2 s)
    have QG := tx_mQ_46 (x := 24 + 3 * σ 4) (v := nI tt) s3
    have fG := tx_mF_46 (x := 24 + 3 * σ 4) (v := nI tt) s2.F
    obtain ⟨r3, r4⟩ := tx_m164 (b := 0) hn hb a6 (by omega) (tx_mT_F fG t) QG sG
    show tx_mB n tp (tx_sb (ab_num n tp 0 9 (tx_E n tp q)) _) h _
    cases hN2 : ab_num n tp 0 9 (tx_E n tp q) with
    | inl e =>
      obtain ⟨K, u1, u2, u3⟩ := r3 e hN2
      obtain ⟨g1, g2, g3⟩ := ab_num_l hN2
      obtain ⟨H, v1, v2, v3⟩ := dead2 e.1 e.2 K (nI 0) (by omega) u3 (fG.tr u2) _ s1 _ u1 rfl
      exact tx_mB_l v1 v2 v3
    | inr v =>
      obtain ⟨K, u1, u2, u3, u4, u5⟩ := (r4 v hN2).2 (Nat.zero_testBit _)
      have n4 : tx_nd σ v 4 = σ 4 := tx_nd_n (by omega)
      have sK := tx_mS_in (j := 3 * σ 4 + 1) (v := nI v) (by rw [n4]; omega) (by omega) u4
      rw [show 24 + (3 * σ 4 + 1) = 25 + 3 * σ 4 by omega] at sK
      have QK := tx_mQ_46 (x := 25 + 3 * σ 4) (v := nI v) u3
      have fK := tx_mF_46 (x := 25 + 3 * σ 4) (v := nI v) (fG.tr u2)
      have hT : (hs_put K 46 0 (25 + 3 * σ 4) (nI v)).1 46 0 (24 + 3 * σ 4) = nI tt := by rw [nx_get, if_neg (by omega), u5, nx_get, if_pos ⟨rfl, rfl, rfl⟩]
      have hV : (hs_put K 46 0 (25 + 3 * σ 4) (nI v)).1 46 0 (25 + 3 * σ 4) = nI v := by rw [nx_get, if_pos ⟨rfl, rfl, rfl⟩]
      obtain ⟨r5, r6⟩ := tx_m163 (lo := 0) (hi := 18) hn hb (by omega) (by omega) b6 (tx_mT_F fK t) QK
      show tx_mB n tp (tx_sb (ab_num n tp 0 18 (tx_E n tp (tx_E n tp q))) _) h _
      cases hN3 : ab_num n tp 0 18 (tx_E n tp (tx_E n tp q)) with
      | inl e =>
        obtain ⟨L, w1, w2, w3⟩ := r5 e hN3
        exact tx_mB_l (shape _ s1 _ u1 _ w1) (tx_mF_46 (tx_mF_46 (fK.tr w2.F))) (tx_mX_46 (tx_mX_46 w3))
      | inr g =>
        obtain ⟨L, w1, w2, w3⟩ := r6 g hN3
        have sL := tx_mS_G w2 sK
        have L46 := (w2.1 46 0 (by intro q hq; revert q; simp)).1
        have e23' : (hs_put L 46 0 (26 + 3 * σ 4) (nI g)).1 46 0 23 = nI (σ 4) := by
          rw [nx_get, if_neg (by omega), tx_mZ_g sL.1 (k := 4) ⟨by omega, Or.inl (by omega)⟩ (by omega) rfl, n4]
        have z := tx_mS_sm (σ := tx_nd σ v) (t := tt) (v := v) (g := g) (h := L) (by rw [n4]; exact h4) sL (by rw [n4, L46]; exact hT) (by rw [n4, L46]; exact hV)
        rw [n4] at z
        refine tx_mB_r (shape _ s1 _ u1 _ w1) (tx_mF_46 (tx_mF_46 (fK.tr w2.F))) (fun _ => ?_) (tx_mQ_46 (tx_mQ_46 w3))
        dsimp only
        rw [e23', nI_add]
        exact z
def tx_nF : (Int32 × Int32 × hs_H → Option hs_H) → Int32 × Int32 × hs_H → Option hs_H := fun k s => hb_165_8 k s.1 s.2.1 s.2.2
/-- the loop of a lane ends -/
theorem tx_m165e {a m : Int32} {M : Nat} {G : hs_H} (hM : 0 < M) (e : ¬ G.1 12 0 19 = 0 ∨ m = 0) : hs_lp tx_nF M (a, m, G) = some G := by
  obtain ⟨M, rfl⟩ : ∃ M2, M = M2 + 1 := ⟨M - 1, by omega⟩
  show hb_165_8 (hs_lp tx_nF M) a m G = some G
  unfold hb_165_8 hb_165_84
  by_cases c : ¬ G.1 12 0 19 = 0
  · rw [if_pos c]
  · rw [if_neg c, if_pos (e.resolve_left c)]
theorem tx_m165 (hn : n ≤ 320) (hb : ∀ q, tp q < 256) : ∀ (f a p : Nat) (σ : Nat → Nat) (h : hs_H), n - p < f → p ≤ n → tx_mT n tp h → tx_mQ n tp p h → (tx_B n tp p = false → tx_mS σ h) → tx_ok σ → a < 10 → (σ 6).testBit a = true → ∀ M, f < M → tx_mB n tp (ab_lane n tp f a p σ) h (hs_lp tx_nF M (nI a, nI 1, h)) := by
  intro f
  induction f with
  | zero => intro a p σ h hf; omega
  | succ f ih =>
    intro a p σ h hf hp t Q s ok ha h6 M hM
    obtain ⟨M, rfl⟩ : ∃ M2, M = M2 + 1 := ⟨M - 1, by omega⟩
    obtain ⟨⟨a1, a2⟩, a3, a4, ⟨a5, a6⟩, a7, a8⟩ := tx_spec (tp := tp) hn hp
    show tx_mB n tp (tx_sb (ab_num n tp 0 9 p) _) h (hs_lp tx_nF (M + 1) (nI a, nI 1, h))
    cases hB : tx_B n tp p with
    | true =>
      have hnum : ab_num n tp 0 9 p = .inl (1, tx_F n tp p) := by unfold ab_num; rw [hB, if_pos rfl]
      rw [hnum]
      exact tx_mB_l (tx_m165e (by omega) (Or.inl (by rw [(Q.1 hB).1]; decide))) tx_mF.rf (Q.1 hB)
    | false =>
      have s := s hB
      obtain ⟨m0, m1, m2, m3, m4⟩ := Q.2 hB
      have ja : ∀ k, k < 10 → h.1 46 0 k = nI (σ (10 + k)) := fun k hk => tx_mZ_g s.1 (k := 10 + k) ⟨by omega, Or.inr (Or.inl (by omega))⟩ (by omega) (tx_lm_j k hk)
      have jb := (ok.2.2.2.2.2.2.1 a ha).1
      have h2a : 2 ^ a < 2 ^ 10 := Nat.pow_lt_pow_right (by omega) ha
      have hbut : 2 ^ a ||| σ (10 + a) < 2 ^ 10 := or_lt h2a jb
      obtain ⟨r1, r2⟩ := tx_m164 (b := 2 ^ a ||| σ (10 + a)) hn hb hp (by omega) t Q s
      have e65 : ∀ x G, hb_165_65 (hs_lp tx_nF M) x G = hs_lp tx_nF M (x, (if G.1 12 0 17 = nI 2 then nI 1 else nI 0), G) := fun x G => by
        unfold hb_165_65 hb_165_80
        by_cases c : G.1 12 0 17 = nI 2
        · rw [if_neg (fun q => q c), if_pos c]
        · rw [if_pos c, if_neg c]
      have st : ∀ x G, hf_164 (nI (2 ^ a ||| σ (10 + a))) h = some (x, G) → hs_lp tx_nF (M + 1) (nI a, nI 1, h) = (if ¬ G.1 12 0 19 = 0 then hb_165_65 (hs_lp tx_nF M) x G else (hs_ck (hs_inb (nI a) 54) (hs_ck (hs_inb (nI a) 54) (hs_ck (hs_inb x 54) (hs_ck (hs_inb x 54) (hb_165_65 (hs_lp tx_nF M) x (hs_put (hs_put G 46 0 (nI a).toNatClampNeg ((G.1 46 0 (nI a).toNatClampNeg) ||| ((nI 1) <<< (x &&& 31)))) 46 0 x.toNatClampNeg (((hs_put G 46 0 (nI a).toNatClampNeg ((G.1 46 0 (nI a).toNatClampNeg) ||| ((nI 1) <<< (x &&& 31)))).1 46 0 x.toNatClampNeg) ||| ((nI 1) <<< (nI a &&& 31)))))))))) := fun x G e => by
        show hb_165_8 (hs_lp tx_nF M) (nI a) (nI 1) h = _
        unfold hb_165_8
        have ec : (nI a).toNatClampNeg = a := nI_clamp (by omega)
        rw [m0, if_neg (show ¬ ¬ nI 0 = 0 by decide), if_neg (show ¬ nI 1 = 0 by decide), nx_inb (show a < 54 by omega) (by omega), nx_ck, ec, ja a ha, nx_shl1 (by omega), nx_or, e, Option.bind_some]
      cases hN : ab_num n tp 0 9 p with
      | inl e =>
        obtain ⟨G, s1, s2, s3⟩ := r1 e hN
        obtain ⟨g1, g2, g3⟩ := ab_num_l hN
        have ne : ¬ G.1 12 0 19 = 0 := by rw [s3.1]; exact nI_ne0 g1 (by omega)
        refine tx_mB_l ?_ s2 s3
        rw [st _ _ s1, if_pos ne, e65]
        exact tx_m165e (by omega) (Or.inl ne)
      | inr v =>
        obtain ⟨-, -, ⟨-, hv⟩, -⟩ := ab_num_r hN
        obtain ⟨r3, r4⟩ := r2 v hN
        have hcond : (2 ^ a ||| σ (10 + a)).testBit v = true ↔ v = a ∨ (σ (10 + a)).testBit v = true := by
          rw [Nat.or_comm, tb_or1]
          exact ⟨fun q => q.elim Or.inr (fun w => Or.inl w.symm), fun q => q.elim (fun w => Or.inr w.symm) Or.inl⟩
        show tx_mB n tp (if v = a ∨ (σ (10 + a)).testBit v = true then _ else _) h _
        by_cases c : v = a ∨ (σ (10 + a)).testBit v = true
        · obtain ⟨G, s1, s2, s3⟩ := r3 (hcond.mpr c)
          have ne : ¬ G.1 12 0 19 = 0 := by rw [s3.1]; decide
          rw [if_pos c]
          refine tx_mB_l ?_ s2 s3
          rw [st _ _ s1, if_pos ne, e65]
          exact tx_m165e (by omega) (Or.inl ne)
        · obtain ⟨G, s1, s2, s3, s4, s5⟩ := r4 (eq_false_of_ne_true (fun q => c (hcond.mp q)))
          rw [if_neg c]
          cases hB2 : tx_B n tp (tx_E n tp p) with
          | true =>
            have ne : ¬ G.1 12 0 19 = 0 := by rw [(s3.1 hB2).1]; decide
            rw [if_neg (fun q => by cases q.1)]
            refine tx_mB_r ?_ s2 (fun q => by rw [show tx_B n tp (tx_E n tp p) = false from q] at hB2; cases hB2) s3
            rw [st _ _ s1, if_pos ne, e65]
            exact tx_m165e (by omega) (Or.inl ne)
          | false =>
            obtain ⟨w0, w1, w2, w3, w4⟩ := s3.2 hB2
            have hav : a ≠ v := fun w => c (Or.inl w.symm)
            have ea : G.1 46 0 a = nI (σ (10 + a)) := by rw [s5]; exact ja a ha
            have ev : G.1 46 0 v = nI (σ (10 + v)) := by rw [s5]; exact ja v (by omega)
            have ec : (nI a).toNatClampNeg = a := nI_clamp (by omega)
            have ecv : (nI v).toNatClampNeg = v := nI_clamp (by omega)
            have hvj : (hs_put G 46 0 a (nI (σ (10 + a) ||| 2 ^ v))).1 46 0 v = nI (σ (10 + v)) := by rw [nx_get, if_neg (by omega)]; exact ev
            have st2 : hs_lp tx_nF (M + 1) (nI a, nI 1, h) = hb_165_65 (hs_lp tx_nF M) (nI v) (hs_put (hs_put G 46 0 a (nI (σ (10 + a) ||| 2 ^ v))) 46 0 v (nI (σ (10 + v) ||| 2 ^ a))) := by
              rw [st _ _ s1, w0, if_neg (show ¬ ¬ nI 0 = 0 by decide), nx_inb (show a < 54 by omega) (by omega), nx_ck, nx_ck, nx_inb (show v < 54 by omega) (by omega), nx_ck, nx_ck, ec, ecv, ea, nx_shl1 (by omega), nx_shl1 (by omega), nx_or, hvj, nx_or]
            have sT : tx_mS (tx_ti (tx_nd σ v) a v) (hs_put (hs_put G 46 0 a (nI (σ (10 + a) ||| 2 ^ v))) 46 0 v (nI (σ (10 + v) ||| 2 ^ a))) := by
              have q1 := tx_mS_up (i := 10 + a) (v := σ (10 + a) ||| 2 ^ v) s4 (by omega) (by omega) (by omega) (tx_lm_j a ha) (Or.inr rfl)
              have q2 := tx_mS_up (i := 10 + v) (v := σ (10 + v) ||| 2 ^ a) q1 (by omega) (by omega) (by omega) (tx_lm_j v (by omega)) (Or.inr rfl)
              have ef : tx_up (tx_up (tx_nd σ v) (10 + a) (σ (10 + a) ||| 2 ^ v)) (10 + v) (σ (10 + v) ||| 2 ^ a) = tx_ti (tx_nd σ v) a v := by
                funext k
                unfold tx_ti
                by_cases c1 : k = 10 + a
                · rw [if_pos c1, c1, tx_up_ne (by omega), tx_up_eq, tx_nd_n (by omega)]
                · rw [if_neg c1]
                  by_cases c2 : k = 10 + v
                  · rw [if_pos c2, c2, tx_up_eq, tx_nd_n (by omega)]
                  · rw [if_neg c2, tx_up_ne c2, tx_up_ne c1]
              rw [ef] at q2
              exact q2
            have fT : tx_mF h (hs_put (hs_put G 46 0 a (nI (σ (10 + a) ||| 2 ^ v))) 46 0 v (nI (σ (10 + v) ||| 2 ^ a))) := tx_mF_46 (tx_mF_46 s2)
            have QT : tx_mQ n tp (tx_E n tp p) (hs_put (hs_put G 46 0 a (nI (σ (10 + a) ||| 2 ^ v))) 46 0 v (nI (σ (10 + v) ||| 2 ^ a))) := tx_mQ_46 (tx_mQ_46 s3)
            have okT : tx_ok (tx_ti (tx_nd σ v) a v) := tx_ok_ti (tx_ok_nd ok (by omega)) hav ha (by omega) (by rw [tx_nd_6, tb_or1]; exact Or.inl h6) tx_nd_b
            have h6v : (tx_ti (tx_nd σ v) a v 6).testBit v = true := by
              rw [tx_ti_n (Or.inl (by omega)) ha (by omega)]
              exact tx_nd_b
            have h17 := (QT.2 hB2).2.2.2.1
            rw [st2, e65, h17]
            generalize hs_put (hs_put G 46 0 a (nI (σ (10 + a) ||| 2 ^ v))) 46 0 v (nI (σ (10 + v) ||| 2 ^ a)) = T at sT fT QT
            have hKb : tx_K n tp (tx_E n tp p) ≤ 5 := tx_at_b
            by_cases k2 : tx_K n tp (tx_E n tp p) = 2
            · have h7 := (tx_spec (tp := tp) hn a6).2.2.2.2.1 (by omega)
              have h7p := a7 (by
                intro w
                have := a8 w
                have hE : tx_E n tp p = tx_F n tp p := by unfold tx_E; rw [if_pos w]
                omega)
              rw [if_pos ⟨rfl, k2⟩, if_pos (by rw [k2])]
              exact (ih v (tx_E n tp p) _ T (by omega) a6 (tx_mT_F fT t) QT (fun _ => sT) okT (by omega) h6v M (by omega)).tr fT
            · rw [if_neg (fun q => k2 q.2), if_neg (fun q => k2 (nI_inj (by omega) (by omega) q))]
              exact tx_mB_r (tx_m165e (by omega) (Or.inr rfl)) fT (fun _ => sT) QT
end TQ
