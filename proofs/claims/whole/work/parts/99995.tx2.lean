/-! The text: tokens, as the model scans them. -/
def tx_lk (n : Nat) (tp : Nat → Nat) (p : Nat) : Int32 := if p < n then nI (tp p) else nI 4294967295
theorem tx_k1 : ∀ c, c < 256 → rg 97 122 (nI c) = decide (tx_kd c = 1) := by decide +kernel
theorem tx_k2 : ∀ c, c < 256 → rg 48 57 (nI c) = decide (tx_kd c = 2) := by decide +kernel
theorem tx_k3 : ∀ c, c < 256 → decide (nI c = nI 59) = decide (tx_kd c = 3) := by decide +kernel
theorem tx_k4 : ∀ c, c < 256 → decide (nI c = nI 32) = decide (tx_kd c = 4) := by decide +kernel
theorem tx_k5 : (rg 97 122 (nI 4294967295) = false ∧ rg 48 57 (nI 4294967295) = false) ∧ ¬ nI 4294967295 = nI 59 ∧ ¬ nI 4294967295 = nI 32 ∧ ¬ (0 : Int32) ≤ nI 4294967295 := by decide
def tx_mT (n : Nat) (tp : Nat → Nat) (h : hs_H) : Prop := h.1 12 0 14 = nI n ∧ ∀ k, k < n → h.1 47 0 k = nI (tp k)
/-- the model's reader: what a token changes -/
def tx_mG (h0 h : hs_H) : Prop := hs_fr [(12, some 0)] h0 h ∧ ∀ x, ¬ (15 ≤ x ∧ x ≤ 20) → h.1 12 0 x = h0.1 12 0 x
def tx_mK (n : Nat) (tp : Nat → Nat) (p : Nat) (h : hs_H) : Prop := h.1 12 0 15 = nI (tx_E n tp p) ∧ h.1 12 0 16 = nI (tx_F n tp p) ∧ h.1 12 0 17 = nI (tx_K n tp p) ∧ (tx_K n tp p = 2 → h.1 12 0 18 = nI (tx_V n tp p))
/-- a fault is met -/
def tx_mX (c w : Nat) (h : hs_H) : Prop := h.1 12 0 19 = nI c ∧ h.1 12 0 20 = nI w
/-- the token at p is scanned -/
def tx_mQ (n : Nat) (tp : Nat → Nat) (p : Nat) (h : hs_H) : Prop := (tx_B n tp p = true → tx_mX 1 (tx_F n tp p) h) ∧ (tx_B n tp p = false → h.1 12 0 19 = nI 0 ∧ tx_mK n tp p h)
section TM
variable {n : Nat} {tp : Nat → Nat}
theorem tx_mG.rf {h : hs_H} : tx_mG h h := ⟨hs_fr.rf, fun _ _ => rfl⟩
theorem tx_mG.tr {h0 h1 h2 : hs_H} (f : tx_mG h0 h1) (g : tx_mG h1 h2) : tx_mG h0 h2 := ⟨f.1.tr g.1, fun x a => (g.2 x a).trans (f.2 x a)⟩
theorem tx_mG.put {h0 h : hs_H} {x : Nat} {v : Int32} (f : tx_mG h0 h) (hx : 15 ≤ x ∧ x ≤ 20) : tx_mG h0 (hs_put h 12 0 x v) := ⟨f.1.put (.inl (.head _)), fun y a => by rw [nx_get, if_neg (by omega)]; exact f.2 y a⟩
theorem tx_mT_fr {h0 h : hs_H} (f : tx_mG h0 h) (t : tx_mT n tp h0) : tx_mT n tp h := by
  unfold tx_mT at t ⊢
  rw [f.2 14 (by omega), (f.1 47 0 (by intro q hq; revert q; simp)).1]
  exact t
theorem tx_l1 (hb : ∀ q, tp q < 256) {p : Nat} : rg 97 122 (tx_lk n tp p) = decide (tx_at n tp p = 1) := by
  unfold tx_lk tx_at
  by_cases c : p < n
  · rw [if_pos c, if_pos c]; exact tx_k1 _ (hb p)
  · rw [if_neg c, if_neg c]; exact tx_k5.1.1
theorem tx_l2 (hb : ∀ q, tp q < 256) {p : Nat} : rg 48 57 (tx_lk n tp p) = decide (tx_at n tp p = 2) := by
  unfold tx_lk tx_at
  by_cases c : p < n
  · rw [if_pos c, if_pos c]; exact tx_k2 _ (hb p)
  · rw [if_neg c, if_neg c]; exact tx_k5.1.2
theorem tx_l3 (hb : ∀ q, tp q < 256) {p : Nat} : tx_lk n tp p = nI 59 ↔ tx_at n tp p = 3 := by
  unfold tx_lk tx_at
  by_cases c : p < n
  · rw [if_pos c, if_pos c]; exact decide_eq_decide.mp (tx_k3 _ (hb p))
  · rw [if_neg c, if_neg c]
    exact ⟨fun q => absurd q tx_k5.2.1, fun q => by omega⟩
theorem tx_l4 (hb : ∀ q, tp q < 256) {p : Nat} : tx_lk n tp p = nI 32 ↔ tx_at n tp p = 4 := by
  unfold tx_lk tx_at
  by_cases c : p < n
  · rw [if_pos c, if_pos c]; exact decide_eq_decide.mp (tx_k4 _ (hb p))
  · rw [if_neg c, if_neg c]
    exact ⟨fun q => absurd q tx_k5.2.2.1, fun q => by omega⟩
theorem tx_l0 (hb : ∀ q, tp q < 256) {p : Nat} : (0 : Int32) ≤ tx_lk n tp p ↔ tx_at n tp p ≠ 0 := by
  have := tx_at_0 (n := n) (tp := tp) (p := p)
  have hbp := hb p
  unfold tx_lk
  by_cases c : p < n
  · rw [if_pos c]
    exact ⟨fun _ => by omega, fun _ => nI_pos' (by omega)⟩
  · rw [if_neg c]
    exact ⟨fun q => absurd q tx_k5.2.2.2, fun q => by omega⟩
theorem sp_158 {p : Nat} {h : hs_H} (hn : n ≤ 320) (hp : p < 2147483648) (t : tx_mT n tp h) : hf_158 (nI p) h = some (tx_lk n tp p, h) := by
  unfold hf_158 hb_158_18 tx_lk
  rw [t.1]
  by_cases c : p < n
  · rw [if_neg (nI_ge c (by omega)), nx_inb (show p < 320 by omega) (by omega), nx_ck, nI_clamp (by omega), t.2 p c, if_pos c]
  · rw [if_pos (nI_le (by omega) (by omega)), if_neg c]
theorem sp_157t {c : Int32} {h : hs_H} : hf_157 (nI 1) c h = some h := by
  unfold hf_157 hb_157_24
  rw [if_pos (by decide)]
theorem sp_157x {b c : Int32} {h : hs_H} (hx : ¬ h.1 12 0 19 = 0) : hf_157 b c h = some h := by
  unfold hf_157 hb_157_24
  by_cases e : b = 0
  · rw [if_neg (fun q => q e), if_pos hx]
  · rw [if_pos e]
theorem sp_157f {c : Int32} {h : hs_H} (hx : h.1 12 0 19 = nI 0) : hf_157 (nI 0) c h = some (hs_put (hs_put h 12 0 19 c) 12 0 20 (h.1 12 0 16)) := by
  unfold hf_157 hb_157_24
  rw [if_neg (by decide), hx, if_neg (by decide), nx_get, if_neg (by omega)]
theorem sp_161x {c w : Nat} {h : hs_H} (hc : 0 < c ∧ c < 100) (hx : tx_mX c w h) : hf_161 h = some h := by
  unfold hf_161
  rw [hx.1, if_neg (nI_nle hc.1 (by omega))]
theorem tx_mG_f {h0 h : hs_H} {c : Int32} {v : Int32} (f : tx_mG h0 h) : tx_mG h0 (hs_put (hs_put h 12 0 19 c) 12 0 20 v) := (f.put (by omega)).put (by omega)
theorem tx_mX_f {h : hs_H} {c w : Nat} : tx_mX c w (hs_put (hs_put h 12 0 19 (nI c)) 12 0 20 (nI w)) := ⟨by rw [nx_get, if_neg (by omega), nx_get, if_pos ⟨rfl, rfl, rfl⟩], by rw [nx_get, if_pos ⟨rfl, rfl, rfl⟩]⟩
theorem sp_161 {p : Nat} {h : hs_H} (hn : n ≤ 320) (hb : ∀ q, tp q < 256) (hp : p ≤ n) (t : tx_mT n tp h) (h15 : h.1 12 0 15 = nI p) (h19 : h.1 12 0 19 = nI 0) : ∃ H, hf_161 h = some H ∧ tx_mG h H ∧ tx_mQ n tp p H := by
  obtain ⟨⟨a1, a2⟩, a3, a4, ⟨a5, a6⟩, a7, a8⟩ := tx_spec (tp := tp) hn hp
  have hKb : tx_K n tp p ≤ 5 := tx_at_b
  -- behind the blanks
  have mid : ∀ G, tx_mG h G → G.1 12 0 19 = nI 0 → G.1 12 0 15 = nI (tx_F n tp p) → ∀ k8, ∃ H, hb_161_8 k8 G = some H ∧ tx_mG h H ∧ tx_mQ n tp p H := fun G f g19 g15 k8 => by
    have e158 := sp_158 (p := tx_F n tp p) hn (by omega) (tx_mT_fr f t)
    have f1 : tx_mG h (hs_put G 12 0 16 (nI (tx_F n tp p))) := f.put (by omega)
    have r15 : (hs_put G 12 0 16 (nI (tx_F n tp p))).1 12 0 15 = nI (tx_F n tp p) := by rw [nx_get, if_neg (by omega)]; exact g15
    have r16 : (hs_put G 12 0 16 (nI (tx_F n tp p))).1 12 0 16 = nI (tx_F n tp p) := by rw [nx_get, if_pos ⟨rfl, rfl, rfl⟩]
    have r19 : (hs_put G 12 0 16 (nI (tx_F n tp p))).1 12 0 19 = nI 0 := by rw [nx_get, if_neg (by omega)]; exact g19
    have n4 : ¬ tx_lk n tp (tx_F n tp p) = nI 32 := fun q => a4 ((tx_l4 hb).mp q)
    unfold hb_161_8
    rw [g15, e158, Option.bind_some]
    dsimp only
    rw [if_pos n4, g15, r15]
    generalize hs_put G 12 0 16 (nI (tx_F n tp p)) = G1 at f1 r15 r16 r19
    have e158' := sp_158 (p := tx_F n tp p) hn (by omega) (tx_mT_fr f1 t)
    have i1 := fun h => sp_150r (a := tx_lk n tp (tx_F n tp p)) (lo := 97) (hi := 122) (b := lN 97) (c := lN 122) (h := h) rfl rfl
    have i2 := fun h => sp_150r (a := tx_lk n tp (tx_F n tp p)) (lo := 48) (hi := 57) (b := lN 48) (c := lN 57) (h := h) rfl rfl
    rw [e158', Option.bind_some]
    dsimp only
    have hK : tx_at n tp (tx_F n tp p) = tx_K n tp p := rfl
    by_cases c0 : tx_K n tp p = 0
    · rw [if_neg (fun q => (tx_l0 hb).mp q c0)]
      have hB : tx_B n tp p = false := by unfold tx_B; exact decide_eq_false (by omega)
      have hE : tx_E n tp p = tx_F n tp p := by unfold tx_E; rw [if_pos c0]
      unfold hb_161_274
      refine ⟨_, rfl, f1.put (by omega), fun q => (by rw [hB] at q; cases q), fun _ => ⟨?_, ?_, ?_, ?_, fun q => by omega⟩⟩
      · rw [nx_get, if_neg (by omega)]; exact r19
      · rw [nx_get, if_neg (by omega), hE]; exact r15
      · rw [nx_get, if_neg (by omega)]; exact r16
      · rw [nx_get, if_pos ⟨rfl, rfl, rfl⟩, c0]
    · have h7 := a7 c0
      rw [if_pos ((tx_l0 hb).mpr c0), i1, tx_l1 hb, hK, Option.bind_some]
      dsimp only
      by_cases c1 : tx_K n tp p = 1
      · -- a name
        have hB : tx_B n tp p = false := by unfold tx_B; exact decide_eq_false (by omega)
        have hE : tx_E n tp p = tx_on n tp 1 400 (tx_F n tp p + 1) := by unfold tx_E; rw [c1, if_neg (by omega), if_pos (Or.inl rfl)]
        obtain ⟨b1, b2, b3, b4⟩ := tx_on_spec (n := n) (tp := tp) (k := 1) (by omega) 400 (tx_F n tp p + 1) (by omega) (by omega)
        rw [← hE] at b1 b2 b3 b4
        rw [decide_eq_true c1, if_neg (by decide)]
        refine lp_q2 (f := fun k s => hb_161_82 k s) (I := fun d G => ∃ q, tx_F n tp p ≤ q ∧ q ≤ tx_E n tp p ∧ d = tx_E n tp p - q ∧ tx_mG h G ∧ G.1 12 0 19 = nI 0 ∧ G.1 12 0 15 = nI q ∧ G.1 12 0 16 = nI (tx_F n tp p) ∧ G.1 12 0 17 = nI 1) (Q := fun o => ∃ H, o = some H ∧ tx_mG h H ∧ tx_mQ n tp p H) (fun d G hI k => ?_) (tx_E n tp p - tx_F n tp p) _ hs_big ⟨tx_F n tp p, Nat.le_refl _, a5, rfl, f1.put (by omega), ?_, ?_, ?_, ?_⟩ (lp_big (by omega))
        · obtain ⟨q, q1, q2, rfl, f, g19, g15, g16, g17⟩ := hI
          have e := sp_158 (p := q) hn (by omega) (tx_mT_fr f t)
          have j1 := sp_150r (a := tx_lk n tp q) (lo := 97) (hi := 122) (b := lN 97) (c := lN 122) (h := G) rfl rfl
          have st : hb_161_82 k G = if bI (decide (tx_at n tp q = 1)) = 0 then hb_161_274 G else k (hs_put G 12 0 15 (nI (q + 1))) := by
            unfold hb_161_82
            rw [g15, e, Option.bind_some]
            dsimp only
            rw [j1, tx_l1 hb, Option.bind_some]
            dsimp only
            rw [g15, nI_add]
          by_cases hq : q < tx_E n tp p
          · refine Or.inr ⟨tx_E n tp p - (q + 1), hs_put G 12 0 15 (nI (q + 1)), by omega, ⟨q + 1, by omega, by omega, rfl, f.put (by omega), ?_, ?_, ?_, ?_⟩, ?_⟩
            · rw [nx_get, if_neg (by omega)]; exact g19
            · rw [nx_get, if_pos ⟨rfl, rfl, rfl⟩]
            · rw [nx_get, if_neg (by omega)]; exact g16
            · rw [nx_get, if_neg (by omega)]; exact g17
            · show hb_161_82 k G = _
              have : tx_at n tp q = 1 := by
                by_cases e : q = tx_F n tp p
                · rw [e]; exact c1
                · exact b3 q (by omega) hq
              rw [st, decide_eq_true this, if_neg (by decide)]
          · have e : q = tx_E n tp p := by omega
            refine Or.inl ⟨G, ?_, f, fun w => (by rw [hB] at w; cases w), fun _ => ⟨g19, by rw [← e]; exact g15, g16, by rw [c1]; exact g17, fun w => by omega⟩⟩
            show hb_161_82 k G = _
            rw [st, e, decide_eq_false b4, if_pos (by decide)]
            rfl
        · rw [nx_get, if_neg (by omega)]; exact r19
        · rw [nx_get, if_neg (by omega)]; exact r15
        · rw [nx_get, if_neg (by omega)]; exact r16
        · rw [nx_get, if_pos ⟨rfl, rfl, rfl⟩]
      · rw [decide_eq_false c1, if_pos (by decide), i2, tx_l2 hb, hK, Option.bind_some]
        dsimp only
        by_cases c2 : tx_K n tp p = 2
        · -- a number
          have hE : tx_E n tp p = tx_on n tp 2 400 (tx_F n tp p + 1) := by unfold tx_E; rw [c2, if_neg (by omega), if_pos (Or.inr rfl)]
          obtain ⟨b1, b2, b3, b4⟩ := tx_on_spec (n := n) (tp := tp) (k := 2) (by omega) 400 (tx_F n tp p + 1) (by omega) (by omega)
          rw [← hE] at b1 b2 b3 b4
          have dig : ∀ q, tx_F n tp p ≤ q → q < tx_E n tp p → tx_at n tp q = 2 := fun q h1 h2 => by
            by_cases e : q = tx_F n tp p
            · rw [e]; exact c2
            · exact b3 q (by omega) h2
          rw [decide_eq_true c2, if_neg (by decide)]
          refine lp_q2 (f := fun k s => hb_161_140 k s) (I := fun d G => ∃ j, tx_F n tp p + j ≤ tx_E n tp p ∧ d = tx_E n tp p - (tx_F n tp p + j) ∧ tx_mG h G ∧ G.1 12 0 19 = nI 0 ∧ G.1 12 0 15 = nI (tx_F n tp p + j) ∧ G.1 12 0 16 = nI (tx_F n tp p) ∧ G.1 12 0 17 = nI 2 ∧ G.1 12 0 18 = nI (tx_num tp (tx_F n tp p) (min j 2))) (Q := fun o => ∃ H, o = some H ∧ tx_mG h H ∧ tx_mQ n tp p H) (fun d G hI k => ?_) (tx_E n tp p - (tx_F n tp p + 0)) _ hs_big ⟨0, by omega, rfl, (f1.put (by omega)).put (by omega), ?_, ?_, ?_, ?_, ?_⟩ (lp_big (by omega))
          · obtain ⟨j, q2, rfl, f, g19, g15, g16, g17, g18⟩ := hI
            have e := sp_158 (p := tx_F n tp p + j) hn (by omega) (tx_mT_fr f t)
            have j1 := sp_150r (a := tx_lk n tp (tx_F n tp p + j)) (lo := 48) (hi := 57) (b := lN 48) (c := lN 57) (h := G) rfl rfl
            have hnb := tx_num_b (f := tx_F n tp p) hb (min j 2) (Nat.min_le_right _ _)
            by_cases hq : tx_F n tp p + j < tx_E n tp p
            · have hd := dig (tx_F n tp p + j) (by omega) hq
              obtain ⟨d1, d2, d3⟩ := tx_at_2 hd
              have w201 : ∀ v, hb_161_201 k (nI v) G = k (hs_put (hs_put G 12 0 18 (nI v)) 12 0 15 (nI (tx_F n tp p + j + 1))) := fun v => by
                unfold hb_161_201
                rw [nx_get, if_neg (by omega), g15, nI_add]
              have st : hb_161_140 k G = k (hs_put (hs_put G 12 0 18 (nI (tx_num tp (tx_F n tp p) (min (j + 1) 2)))) 12 0 15 (nI (tx_F n tp p + j + 1))) := by
                unfold hb_161_140
                rw [g15, e, Option.bind_some]
                dsimp only
                rw [j1, tx_l2 hb, hd, Option.bind_some]
                dsimp only
                rw [if_neg (by decide), g15, g16, pk_sub (by omega), Nat.add_sub_cancel_left]
                by_cases c : 2 ≤ j
                · rw [if_pos (nI_le c (by omega)), g18, w201, Nat.min_eq_right c, Nat.min_eq_right (show 2 ≤ j + 1 by omega)]
                · rw [if_neg (nI_ge (by omega) (by omega)), e, Option.bind_some]
                  dsimp only
                  have hlk : tx_lk n tp (tx_F n tp p + j) = nI (tp (tx_F n tp p + j)) := by unfold tx_lk; rw [if_pos d1]
                  rw [Nat.min_eq_left (by omega)] at g18
                  rw [hlk, g18, pk_mul, nI_add, pk_sub (by omega), w201, Nat.min_eq_left (show j + 1 ≤ 2 by omega), show 10 * tx_num tp (tx_F n tp p) j + tp (tx_F n tp p + j) - 48 = 10 * tx_num tp (tx_F n tp p) j + (tp (tx_F n tp p + j) - 48) by omega]
                  rfl
              refine Or.inr ⟨tx_E n tp p - (tx_F n tp p + (j + 1)), _, by omega, ⟨j + 1, by omega, rfl, (f.put (by omega)).put (by omega), ?_, ?_, ?_, ?_, ?_⟩, st⟩
              · rw [nx_get, if_neg (by omega), nx_get, if_neg (by omega)]; exact g19
              · rw [nx_get, if_pos ⟨rfl, rfl, rfl⟩]; rfl
              · rw [nx_get, if_neg (by omega), nx_get, if_neg (by omega)]; exact g16
              · rw [nx_get, if_neg (by omega), nx_get, if_neg (by omega)]; exact g17
              · rw [nx_get, if_neg (by omega), nx_get, if_pos ⟨rfl, rfl, rfl⟩]
            · have eE : tx_F n tp p + j = tx_E n tp p := by omega
              have st : hb_161_140 k G = if nI 2 < nI j then hb_161_236 (nI 0) G else hb_161_236 (nI 1) G := by
                unfold hb_161_140
                rw [g15, e, Option.bind_some]
                dsimp only
                rw [j1, tx_l2 hb, eE, decide_eq_false b4, Option.bind_some]
                dsimp only
                rw [if_pos (by decide), g15, g16, pk_sub (by omega), Nat.add_sub_cancel_left]
              by_cases c : 2 < j
              · have hB : tx_B n tp p = true := by unfold tx_B; exact decide_eq_true (Or.inr ⟨c2, by omega⟩)
                refine Or.inl ⟨hs_put (hs_put G 12 0 19 (nI 1)) 12 0 20 (nI (tx_F n tp p)), ?_, tx_mG_f f, fun _ => tx_mX_f, fun w => (by rw [hB] at w; cases w)⟩
                show hb_161_140 k G = _
                rw [st, if_pos (nI_lt c (by omega))]
                unfold hb_161_236 hb_161_274
                rw [sp_157f g19, Option.bind_some, g16]
              · have hB : tx_B n tp p = false := by unfold tx_B; exact decide_eq_false (by omega)
                refine Or.inl ⟨G, ?_, f, fun w => (by rw [hB] at w; cases w), fun _ => ⟨g19, by rw [← eE]; exact g15, g16, by rw [c2]; exact g17, fun _ => ?_⟩⟩
                · show hb_161_140 k G = _
                  rw [st, if_neg (nI_nlt (by omega) (by omega))]
                  unfold hb_161_236 hb_161_274
                  rw [sp_157t, Option.bind_some]
                · rw [g18, Nat.min_eq_left (by omega)]
                  unfold tx_V
                  rw [if_pos c2, ← eE, Nat.add_sub_cancel_left]
          · rw [nx_get, if_neg (by omega), nx_get, if_neg (by omega)]; exact r19
          · rw [nx_get, if_neg (by omega), nx_get, if_neg (by omega)]; exact r15
          · rw [nx_get, if_neg (by omega), nx_get, if_neg (by omega)]; exact r16
          · rw [nx_get, if_neg (by omega), nx_get, if_pos ⟨rfl, rfl, rfl⟩]
          · rw [nx_get, if_pos ⟨rfl, rfl, rfl⟩]; rfl
        · -- a sign, or none
          have hE : tx_E n tp p = tx_F n tp p + 1 := by unfold tx_E; rw [if_neg c0, if_neg (by omega)]
          have r17 : (hs_put G1 12 0 17 (nI 3)).1 12 0 17 = nI 3 := by rw [nx_get, if_pos ⟨rfl, rfl, rfl⟩]
          have s15 : (hs_put G1 12 0 17 (nI 3)).1 12 0 15 = nI (tx_F n tp p) := by rw [nx_get, if_neg (by omega)]; exact r15
          have s16 : (hs_put G1 12 0 17 (nI 3)).1 12 0 16 = nI (tx_F n tp p) := by rw [nx_get, if_neg (by omega)]; exact r16
          have s19 : (hs_put G1 12 0 17 (nI 3)).1 12 0 19 = nI 0 := by rw [nx_get, if_neg (by omega)]; exact r19
          have f2 : tx_mG h (hs_put G1 12 0 17 (nI 3)) := f1.put (by omega)
          rw [decide_eq_false c2, if_pos (by decide)]
          generalize hs_put G1 12 0 17 (nI 3) = G2 at r17 s15 s16 s19 f2
          unfold hb_161_260 hb_161_274
          by_cases c3 : tx_K n tp p = 3
          · have hB : tx_B n tp p = false := by unfold tx_B; exact decide_eq_false (by omega)
            rw [if_neg (fun w => w ((tx_l3 hb).mpr c3)), sp_157t, Option.bind_some, s15, nI_add]
            refine ⟨_, rfl, f2.put (by omega), fun w => (by rw [hB] at w; cases w), fun _ => ⟨?_, ?_, ?_, ?_, fun w => by omega⟩⟩
            · rw [nx_get, if_neg (by omega)]; exact s19
            · rw [nx_get, if_pos ⟨rfl, rfl, rfl⟩, hE]
            · rw [nx_get, if_neg (by omega)]; exact s16
            · rw [nx_get, if_neg (by omega), c3]; exact r17
          · have hB : tx_B n tp p = true := by unfold tx_B; exact decide_eq_true (by omega)
            rw [if_pos (fun w => c3 ((tx_l3 hb).mp w)), sp_157f s19, Option.bind_some, s16]
            refine ⟨_, rfl, (tx_mG_f f2).put (by omega), fun _ => ⟨?_, ?_⟩, fun w => (by rw [hB] at w; cases w)⟩
            · rw [nx_get, if_neg (by omega)]; exact tx_mX_f.1
            · rw [nx_get, if_neg (by omega)]; exact tx_mX_f.2
  unfold hf_161
  rw [h19, if_pos (by decide)]
  refine lp_q2 (f := fun k s => hb_161_8 k s) (I := fun d G => ∃ q, p ≤ q ∧ q ≤ tx_F n tp p ∧ d = tx_F n tp p - q ∧ tx_mG h G ∧ G.1 12 0 19 = nI 0 ∧ G.1 12 0 15 = nI q) (Q := fun o => ∃ H, o = some H ∧ tx_mG h H ∧ tx_mQ n tp p H) (fun d G hI k => ?_) (tx_F n tp p - p) h hs_big ⟨p, Nat.le_refl _, a1, rfl, tx_mG.rf, h19, h15⟩ (lp_big (by omega))
  obtain ⟨q, q1, q2, rfl, f, g19, g15⟩ := hI
  by_cases hqF : q < tx_F n tp p
  · refine Or.inr ⟨tx_F n tp p - (q + 1), hs_put G 12 0 15 (nI (q + 1)), by omega, ⟨q + 1, by omega, by omega, rfl, f.put (by omega), ?_, ?_⟩, ?_⟩
    · rw [nx_get, if_neg (by omega)]; exact g19
    · rw [nx_get, if_pos ⟨rfl, rfl, rfl⟩]
    · show hb_161_8 k G = _
      unfold hb_161_8
      rw [g15, sp_158 (p := q) hn (by omega) (tx_mT_fr f t), Option.bind_some]
      dsimp only
      rw [if_neg (fun w => w ((tx_l4 hb).mpr (a3 q q1 hqF))), g15, nI_add]
  · have e : q = tx_F n tp p := by omega
    rw [e] at g15
    exact Or.inl (mid G f g19 g15 k)
end TM
