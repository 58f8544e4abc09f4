/-! The text: how the class takes lines. -/
theorem tx_up_ne {σ : Nat → Nat} {i v k : Nat} (h : k ≠ i) : tx_up σ i v k = σ k := if_neg h
theorem tx_up_eq {σ : Nat → Nat} {i v : Nat} : tx_up σ i v i = v := if_pos rfl
/-- where the class holds it -/
def tx_lc (k : Nat) : Nat × Nat × Nat := if k < 10 then ([(4, 1, 1), (4, 1, 2), (4, 1, 4), (4, 1, 5), (5, 1, 3), (6, 0, 8), (6, 0, 9), (4, 1, 3), (98, 0, 0), (98, 0, 1)] : List (Nat × Nat × Nat)).getD k (99, 0, 0) else if k < 30 then (27, 1, k - 10) else (28 + (k - 30) % 3, 1, (k - 30) / 3)
theorem tx_lc_inj : ∀ k, k < 60 → ∀ i, i < 60 → tx_lc k = tx_lc i → k = i := by decide +kernel
theorem tx_lc_out : ∀ k, k < 60 → (tx_lc k = (6, 0, 8) → k = 5) ∧ (tx_lc k = (6, 0, 9) → k = 6) ∧ ((tx_lc k).1 = 6 → (tx_lc k).2.2 = 8 ∨ (tx_lc k).2.2 = 9) ∧ (tx_lc k).1 ≠ 31 ∧ ((tx_lc k).1 = 4 → (tx_lc k).2.2 ≠ 6) ∧ ((tx_lc k).1 = 5 → (tx_lc k).2.2 ≠ 4) ∧ ((tx_lc k).1 = 6 → (tx_lc k).2.1 = 0) := by decide +kernel
def tx_va (Z k : Nat) : Prop := k < 60 ∧ (k < 8 ∨ (10 ≤ k ∧ k < 20) ∨ (30 ≤ k ∧ k < 30 + 3 * Z))
def tx_cZ (Z : Nat) (σ : Nat → Nat) (h : hs_H) : Prop := ∀ k, tx_va Z k → h.1 (tx_lc k).1 (tx_lc k).2.1 (tx_lc k).2.2 = nI (σ k)
def tx_cS (σ : Nat → Nat) (h : hs_H) : Prop := tx_cZ (σ 4) σ h
def tx_cL : List (Nat × Option Nat) := [(6, some 0), (4, some 1), (27, some 1), (5, some 1), (28, some 1), (29, some 1), (30, some 1)]
def tx_cH (h0 h : hs_H) : Prop := hs_fr tx_cL h0 h ∧ h.1 6 0 3 = h0.1 6 0 3
section TC
variable {n : Nat} {tp : Nat → Nat} {σ : Nat → Nat} {Z : Nat} {h0 h : hs_H}
theorem tx_cH.rf : tx_cH h h := ⟨hs_fr.rf, rfl⟩
theorem tx_cH.tr {h1 h2 : hs_H} (f : tx_cH h0 h1) (g : tx_cH h1 h2) : tx_cH h0 h2 := ⟨f.1.tr g.1, g.2.trans f.2⟩
theorem tx_cF.H (f : tx_cF h0 h) : tx_cH h0 h := ⟨f.1.sub (by unfold tx_cL; exact hs_sub_cons (.inl (.head _)) hs_sub_nil), f.2 3 (by omega) (by omega) (by omega) (by omega) (by omega) (by omega)⟩
theorem tx_cT_H (f : tx_cH h0 h) (t : tx_cT n tp h0) : tx_cT n tp h := by
  unfold tx_cT at t ⊢
  rw [f.2, (f.1 31 0 (by unfold tx_cL; intro q hq; revert q; simp)).1]
  exact t
theorem tx_cZ_F (f : tx_cF h0 h) (s : tx_cZ Z σ h0) : tx_cZ Z σ h := fun k hk => by
  obtain ⟨q1, q2, q3, q4, -, -, q7⟩ := tx_lc_out k hk.1
  have e := s k hk
  by_cases c : (tx_lc k).1 = 6
  · rw [c, q7 c] at e ⊢
    rw [f.2 _ (by have := q3 c; omega) (by have := q3 c; omega) (by have := q3 c; omega) (by have := q3 c; omega) (by have := q3 c; omega) (by have := q3 c; omega)]
    exact e
  · rw [(f.1 (tx_lc k).1 (tx_lc k).2.1 (by intro q hq hh; rcases hh with rfl | rfl <;> simp at hq; exact c hq.1)).1]
    exact e
/-- one of the places is written -/
theorem tx_cZ_put {i v : Nat} {c o p : Nat} (hi : i < 60) (hl : tx_lc i = (c, o, p)) (s : tx_cZ Z σ h) : tx_cZ Z (tx_up σ i v) (hs_put h c o p (nI v)) := fun k hk => by
  rw [nx_get]
  by_cases e : k = i
  · rw [e, hl, if_pos ⟨rfl, rfl, rfl⟩, tx_up_eq]
  · rw [if_neg (fun q => e (tx_lc_inj k hk.1 i hi (by rw [hl]; exact Prod.ext q.1 (Prod.ext q.2.1 q.2.2)))), tx_up_ne e]
    exact s k hk
/-- a place that is none of them is written -/
theorem tx_cZ_o {c o p : Nat} {v : Int32} (hc : (c = 4 ∧ p = 6) ∨ (c = 5 ∧ p = 4)) (s : tx_cZ Z σ h) : tx_cZ Z σ (hs_put h c o p v) := fun k hk => by
  obtain ⟨-, -, -, -, q5, q6, -⟩ := tx_lc_out k hk.1
  rw [nx_get, if_neg (fun q => by rcases hc with w | w; exact q5 (by rw [q.1, w.1]) (by rw [q.2.2, w.2]); exact q6 (by rw [q.1, w.1]) (by rw [q.2.2, w.2]))]
  exact s k hk
theorem tx_cZ_g {k : Nat} (s : tx_cZ Z σ h) (hk : tx_va Z k) {c o p : Nat} (hl : tx_lc k = (c, o, p)) : h.1 c o p = nI (σ k) := by
  have := s k hk
  rw [hl] at this
  exact this
theorem tx_cH_put {c o p : Nat} {v : Int32} (f : tx_cH h0 h) (hc : (c, some o) ∈ tx_cL) (h3 : ¬ (c = 6 ∧ p = 3)) : tx_cH h0 (hs_put h c o p v) := ⟨f.1.put (.inl hc), by rw [nx_get, if_neg (fun q => h3 ⟨q.1.symm, q.2.2.symm⟩)]; exact f.2⟩
theorem tx_V_b (hn : n ≤ 320) (hb : ∀ q, tp q < 256) {p : Nat} (hB : tx_B n tp p = false) : tx_V n tp p < 3000 := by
  unfold tx_V
  by_cases c : tx_K n tp p = 2
  · rw [if_pos c]
    refine tx_num_b hb _ ?_
    unfold tx_B at hB
    rw [decide_eq_false_iff_not] at hB
    apply Classical.byContradiction
    intro w
    exact hB (Or.inr ⟨c, by omega⟩)
  · rw [if_neg c]; omega
/-- what a fault leaves -/
def tx_cX (c w : Nat) (h : hs_H) : Prop := h.1 6 0 10 = nI c ∧ h.1 6 0 11 = nI w
theorem sp_54 {c w : Nat} : hf_54 (nI c) (nI w) h = some (nI 0, hs_put (hs_put h 6 0 10 (nI c)) 6 0 11 (nI w)) := rfl
theorem tx_cX_p {c w : Nat} : tx_cX c w (hs_put (hs_put h 6 0 10 (nI c)) 6 0 11 (nI w)) := ⟨by rw [nx_get, if_neg (by omega), nx_get, if_pos ⟨rfl, rfl, rfl⟩], by rw [nx_get, if_pos ⟨rfl, rfl, rfl⟩]⟩
theorem tx_cF_p {c w : Nat} (f : tx_cF h0 h) : tx_cF h0 (hs_put (hs_put h 6 0 10 (nI c)) 6 0 11 (nI w)) := (f.put (by omega)).put (by omega)
/-- a number is asked for where a token has been taken -/
theorem tx_c65 {p lo hi : Nat} (hn : n ≤ 320) (hb : ∀ q, tp q < 256) (hlo : lo < 1000) (hhi : hi < 1000) (hB : tx_B n tp p = false) (m : tx_cK n tp p h) : (∀ e, ab_num n tp lo hi p = .inl e → hf_65 (nI lo) (nI hi) h = some (nI 0, hs_put (hs_put h 6 0 10 (nI e.1)) 6 0 11 (nI e.2))) ∧ ∀ v, ab_num n tp lo hi p = .inr v → tx_V n tp p = v ∧ hf_65 (nI lo) (nI hi) h = some (nI 1, h) := by
  obtain ⟨m4, m5, m6, m7⟩ := m
  have hV := tx_V_b hn hb hB
  have hKb : tx_K n tp p ≤ 5 := tx_at_b
  have hnum : ab_num n tp lo hi p = if tx_K n tp p = 2 then (if lo ≤ tx_V n tp p ∧ tx_V n tp p ≤ hi then .inr (tx_V n tp p) else .inl (3, tx_F n tp p)) else .inl (2, tx_F n tp p) := by
    unfold ab_num
    rw [hB, if_neg Bool.false_ne_true]
  rw [hnum]
  unfold hf_65 hb_65_34 hb_65_46 hb_65_51
  rw [m5, m6, m7, sp_54, sp_54]
  by_cases c2 : tx_K n tp p = 2
  · rw [if_pos c2, if_pos (show nI (tx_K n tp p) = nI 2 by rw [c2])]
    by_cases c3 : lo ≤ tx_V n tp p ∧ tx_V n tp p ≤ hi
    · rw [if_pos c3, if_neg (nI_nlt c3.1 (by omega)), if_pos (nI_le c3.2 (by omega))]
      refine ⟨fun e q => (by cases q), fun v q => ?_⟩
      injection q with q
      exact ⟨q, rfl⟩
    · rw [if_neg c3]
      refine ⟨fun e q => ?_, fun v q => by cases q⟩
      injection q with q
      rw [← q]
      by_cases c4 : tx_V n tp p < lo
      · rw [if_pos (nI_lt c4 (by omega)), Option.bind_some]
        rfl
      · rw [if_neg (nI_nlt (by omega) (by omega)), if_neg (nI_ge (by omega) (by omega)), Option.bind_some]
        rfl
  · rw [if_neg c2, if_neg (fun q => c2 (nI_inj (by omega) (by omega) q))]
    refine ⟨fun e q => ?_, fun v q => by cases q⟩
    injection q with q
    rw [← q]
    rfl
theorem tx_c64 {p lo hi : Nat} (hn : n ≤ 320) (hb : ∀ q, tp q < 256) (hlo : lo < 1000) (hhi : hi < 1000) (hp : p ≤ n) (t : tx_cT n tp h) (h4 : h.1 6 0 4 = nI p) : (∀ e, ab_num n tp lo hi p = .inl e → ∃ H, hf_64 (nI lo) (nI hi) h = some (nI 0, H) ∧ tx_cF h H ∧ tx_cX e.1 e.2 H) ∧ ∀ v, ab_num n tp lo hi p = .inr v → ∃ H, hf_64 (nI lo) (nI hi) h = some (nI 1, H) ∧ tx_cF h H ∧ H.1 6 0 10 = h.1 6 0 10 ∧ tx_cK n tp p H ∧ tx_V n tp p = v := by
  obtain ⟨H, s1, s2, s3, s4⟩ := sp_69 hn hb hp t h4
  have e64 : hf_64 (nI lo) (nI hi) h = if bI (!tx_B n tp p) = 0 then hb_64_20 H else (hf_65 (nI lo) (nI hi) H).bind (fun q4 => if q4.1 = 0 then (hb_64_20 q4.2) else (hb_64_21 (nI 1) q4.2)) := by
    unfold hf_64
    rw [s1, Option.bind_some]
  rw [e64]
  cases hB : tx_B n tp p with
  | true =>
    have hnum : ab_num n tp lo hi p = .inl (1, tx_F n tp p) := by unfold ab_num; rw [hB, if_pos rfl]
    rw [hnum, if_pos (by decide)]
    refine ⟨fun e q => ?_, fun v q => by cases q⟩
    injection q with q
    rw [← q]
    exact ⟨H, rfl, s2, s3 hB⟩
  | false =>
    obtain ⟨⟨w1, w2⟩, w3⟩ := s4 hB
    obtain ⟨r1, r2⟩ := tx_c65 hn hb hlo hhi hB w3
    rw [if_neg (by decide)]
    refine ⟨fun e q => ?_, fun v q => ?_⟩
    · rw [r1 e q, Option.bind_some]
      exact ⟨_, rfl, tx_cF_p s2, tx_cX_p⟩
    · obtain ⟨r3, r4⟩ := r2 v q
      rw [r4, Option.bind_some]
      exact ⟨H, rfl, s2, w1, w3, r3⟩
/-- a node is asked for where a token has been taken -/
theorem tx_c67 {p : Nat} (hn : n ≤ 320) (hb : ∀ q, tp q < 256) (hB : tx_B n tp p = false) (m : tx_cK n tp p h) (h9 : h.1 6 0 9 = nI (σ 6)) : (∀ e, ab_num n tp 0 9 p = .inl e → hf_67 h = some (nI 0, hs_put (hs_put h 6 0 10 (nI e.1)) 6 0 11 (nI e.2))) ∧ ∀ v, ab_num n tp 0 9 p = .inr v → (tx_V n tp p = v ∧ v ≤ 9) ∧ hf_67 h = some (nI 1, hs_put h 6 0 9 (nI (σ 6 ||| 2 ^ v))) := by
  obtain ⟨m4, m5, m6, m7⟩ := m
  have hV := tx_V_b hn hb hB
  have hKb : tx_K n tp p ≤ 5 := tx_at_b
  have hnum : ab_num n tp 0 9 p = if tx_K n tp p = 2 then (if 0 ≤ tx_V n tp p ∧ tx_V n tp p ≤ 9 then .inr (tx_V n tp p) else .inl (3, tx_F n tp p)) else .inl (2, tx_F n tp p) := by
    unfold ab_num
    rw [hB, if_neg Bool.false_ne_true]
  rw [hnum]
  unfold hf_67 hb_67_34
  rw [m5, m6, m7, sp_54, sp_54]
  by_cases c2 : tx_K n tp p = 2
  · rw [if_pos c2, if_pos (show nI (tx_K n tp p) = nI 2 by rw [c2]), if_neg (nI_pos (by omega))]
    by_cases c3 : tx_V n tp p ≤ 9
    · rw [if_pos ⟨Nat.zero_le _, c3⟩, if_pos (nI_lt (by omega) (by omega)), h9, nx_shl1 (by omega), nx_or]
      refine ⟨fun e q => (by cases q), fun v q => ?_⟩
      injection q with q
      rw [← q]
      exact ⟨⟨rfl, c3⟩, rfl⟩
    · rw [if_neg (fun q => c3 q.2), if_neg (nI_nlt (by omega) (by omega)), Option.bind_some]
      refine ⟨fun e q => ?_, fun v q => by cases q⟩
      injection q with q
      rw [← q]
      rfl
  · rw [if_neg c2, if_neg (fun q => c2 (nI_inj (by omega) (by omega) q)), Option.bind_some]
    refine ⟨fun e q => ?_, fun v q => by cases q⟩
    injection q with q
    rw [← q]
    rfl
theorem tx_cK_9 {p : Nat} {v : Int32} (m : tx_cK n tp p h) : tx_cK n tp p (hs_put h 6 0 9 v) := by
  unfold tx_cK
  rw [nx_get, if_neg (by omega), nx_get, if_neg (by omega), nx_get, if_neg (by omega), nx_get, if_neg (by omega)]
  exact m
theorem tx_c66 {p : Nat} (hn : n ≤ 320) (hb : ∀ q, tp q < 256) (hp : p ≤ n) (t : tx_cT n tp h) (h4 : h.1 6 0 4 = nI p) (s : tx_cS σ h) : (∀ e, ab_num n tp 0 9 p = .inl e → ∃ H, hf_66 h = some (nI 0, H) ∧ tx_cH h H ∧ tx_cX e.1 e.2 H) ∧ ∀ v, ab_num n tp 0 9 p = .inr v → ∃ H, hf_66 h = some (nI 1, H) ∧ tx_cH h H ∧ H.1 6 0 10 = h.1 6 0 10 ∧ tx_cK n tp p H ∧ (tx_V n tp p = v ∧ v ≤ 9) ∧ tx_cS (tx_nd σ v) H := by
  obtain ⟨H, s1, s2, s3, s4⟩ := sp_69 hn hb hp t h4
  have e66 : hf_66 h = if bI (!tx_B n tp p) = 0 then hb_66_18 H else (hf_67 H).bind (fun q4 => if q4.1 = 0 then (hb_66_18 q4.2) else (hb_66_19 (nI 1) q4.2)) := by
    unfold hf_66
    rw [s1, Option.bind_some]
  rw [e66]
  cases hB : tx_B n tp p with
  | true =>
    have hnum : ab_num n tp 0 9 p = .inl (1, tx_F n tp p) := by unfold ab_num; rw [hB, if_pos rfl]
    rw [hnum, if_pos (by decide)]
    refine ⟨fun e q => ?_, fun v q => by cases q⟩
    injection q with q
    rw [← q]
    exact ⟨H, rfl, s2.H, s3 hB⟩
  | false =>
    obtain ⟨⟨w1, w2⟩, w3⟩ := s4 hB
    have sH : tx_cS σ H := tx_cZ_F s2 s
    have h9 : H.1 6 0 9 = nI (σ 6) := tx_cZ_g sH ⟨by omega, Or.inl (by omega)⟩ rfl
    obtain ⟨r1, r2⟩ := tx_c67 (σ := σ) hn hb hB w3 h9
    rw [if_neg (by decide)]
    refine ⟨fun e q => ?_, fun v q => ?_⟩
    · rw [r1 e q, Option.bind_some]
      exact ⟨_, rfl, (tx_cF_p s2).H, tx_cX_p⟩
    · obtain ⟨r3, r4⟩ := r2 v q
      rw [r4, Option.bind_some]
      refine ⟨_, rfl, tx_cH_put s2.H (.head _) (by omega), ?_, tx_cK_9 w3, r3, ?_⟩
      · rw [nx_get, if_neg (by omega)]; exact w1
      · show tx_cZ (tx_nd σ v 4) (tx_nd σ v) _
        have e4 : tx_nd σ v 4 = σ 4 := tx_up_ne (by omega)
        rw [e4]
        exact tx_cZ_put (i := 6) (by omega) rfl sH
/-- what a method that says whether it went well owes -/
def tx_cO (r : tx_R (Nat × (Nat → Nat))) (h0 : hs_H) (o : Option (Int32 × hs_H)) : Prop := (∀ e, r = .inl e → ∃ H, o = some (nI 0, H) ∧ tx_cH h0 H ∧ tx_cX e.1 e.2 H) ∧ ∀ x, r = .inr x → ∃ H, o = some (nI 1, H) ∧ tx_cH h0 H ∧ tx_cS x.2 H ∧ H.1 6 0 4 = nI x.1 ∧ H.1 6 0 10 = h0.1 6 0 10
theorem tx_c68 {p : Nat} (hn : n ≤ 320) (hb : ∀ q, tp q < 256) (hp : p ≤ n) (t : tx_cT n tp h) (h4 : h.1 6 0 4 = nI p) (s : tx_cS σ h) : tx_cO (ab_sign n tp p σ) h (hf_68 h) := by
  obtain ⟨H, s1, s2, s3, s4⟩ := sp_69 hn hb hp t h4
  have hKb : tx_K n tp p ≤ 5 := tx_at_b
  have e68 : hf_68 h = if bI (!tx_B n tp p) = 0 then hb_68_31 H else (if (H.1 6 0 5) = (nI 3) then (hb_68_27 H) else ((hf_54 (nI 2) (H.1 6 0 6) H).bind (fun q5 => if q5.1 = 0 then (hb_68_31 q5.2) else (hb_68_27 q5.2)))) := by
    unfold hf_68
    rw [s1, Option.bind_some]
  rw [e68]
  unfold ab_sign
  cases hB : tx_B n tp p with
  | true =>
    rw [if_pos rfl, if_pos (by decide)]
    refine ⟨fun e q => ?_, fun v q => by cases q⟩
    injection q with q
    rw [← q]
    exact ⟨H, rfl, s2.H, s3 hB⟩
  | false =>
    obtain ⟨⟨w1, w2⟩, w4, w5, w6, w7⟩ := s4 hB
    rw [if_neg Bool.false_ne_true, if_neg (show ¬ bI (!false) = 0 by decide), w5, w6, sp_54]
    by_cases c : tx_K n tp p = 3
    · rw [if_pos c, if_pos (show nI (tx_K n tp p) = nI 3 by rw [c])]
      refine ⟨fun e q => (by cases q), fun x q => ?_⟩
      injection q with q
      rw [← q]
      exact ⟨H, rfl, s2.H, tx_cZ_F s2 s, w4, w1⟩
    · rw [if_neg c, if_neg (fun q => c (nI_inj (by omega) (by omega) q)), Option.bind_some]
      refine ⟨fun e q => ?_, fun v q => by cases q⟩
      injection q with q
      rw [← q]
      exact ⟨_, rfl, (tx_cF_p s2).H, tx_cX_p⟩
theorem tx_cO.tr {r : tx_R (Nat × (Nat → Nat))} {h1 : hs_H} {o : Option (Int32 × hs_H)} (f : tx_cH h0 h1) (e : h1.1 6 0 10 = h0.1 6 0 10) (p : tx_cO r h1 o) : tx_cO r h0 o := ⟨fun e q => by
  obtain ⟨H, p1, p2, p3⟩ := p.1 e q
  exact ⟨H, p1, f.tr p2, p3⟩, fun x q => by
  obtain ⟨H, p1, p2, p3, p4, p5⟩ := p.2 x q
  exact ⟨H, p1, f.tr p2, p3, p4, p5.trans e⟩⟩
theorem tx_cO_l {e : Nat × Nat} {H : hs_H} {o : Option (Int32 × hs_H)} (h1 : o = some (nI 0, H)) (f : tx_cH h0 H) (x : tx_cX e.1 e.2 H) : tx_cO (.inl e) h0 o := ⟨fun e' q => by
  injection q with q
  rw [← q]
  exact ⟨H, h1, f, x⟩, fun _ q => by cases q⟩
theorem bool_id {o : Option (Int32 × hs_H)} {r : tx_R (Nat × (Nat → Nat))} (p : tx_cO r h0 o) : tx_cO r h0 (o.bind (fun q5 => hs_ck (hs_b01 q5.1) (some (q5.1, q5.2)))) := ⟨fun e q => by
  obtain ⟨H, p1, p2⟩ := p.1 e q
  exact ⟨H, by rw [p1]; rfl, p2⟩, fun x q => by
  obtain ⟨H, p1, p2⟩ := p.2 x q
  exact ⟨H, by rw [p1]; rfl, p2⟩⟩
/-- for the first time? -/
theorem tx_c63 {p k : Nat} (hk : k < 3) (s : tx_cS σ h) (h5 : σ 5 < 8) (m : tx_cK n tp p h) : ((σ 5).testBit k = true → hf_63 (nI (2 ^ k)) h = some (nI 0, hs_put (hs_put h 6 0 10 (nI 4)) 6 0 11 (nI (tx_F n tp p)))) ∧ ((σ 5).testBit k = false → hf_63 (nI (2 ^ k)) h = some (nI 1, hs_put h 6 0 8 (nI (σ 5 ||| 2 ^ k)))) := by
  have h8 : h.1 6 0 8 = nI (σ 5) := tx_cZ_g s ⟨by omega, Or.inl (by omega)⟩ rfl
  have hbit : ∀ k, k < 3 → ∀ x, x < 8 → (x &&& 2 ^ k = 0 ↔ x.testBit k = false) ∧ x &&& 2 ^ k < 8 := by decide
  obtain ⟨b1, b2⟩ := hbit k hk (σ 5) h5
  unfold hf_63
  rw [h8, nx_and, m.2.2.1, sp_54, nx_or]
  constructor
  · intro q
    have : ¬ σ 5 &&& 2 ^ k = 0 := fun w => by rw [b1.mp w] at q; cases q
    rw [if_neg (nI_ne0 (by omega) (by omega))]
    rfl
  · intro q
    rw [b1.mpr q, if_pos (by rfl)]
end TC
