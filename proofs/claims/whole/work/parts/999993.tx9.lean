/-! The text: how the model reads numbers, nodes. -/
/-- where the model holds it -/
def tx_lm (k : Nat) : Nat × Nat × Nat := if k < 10 then ([(12, 0, 7), (12, 0, 8), (12, 0, 9), (12, 0, 10), (46, 0, 23), (12, 0, 12), (97, 0, 0), (46, 0, 10), (98, 0, 0), (98, 0, 1)] : List (Nat × Nat × Nat)).getD k (99, 0, 0) else if k < 20 then (46, 0, k - 10) else if k < 30 then (96, 0, k) else (46, 0, 24 + (k - 30))
theorem tx_lm_inj : ∀ k, k < 60 → ∀ i, i < 60 → tx_lm k = tx_lm i → k = i := by decide +kernel
theorem tx_lm_out : ∀ k, k < 60 → ((tx_lm k).1 = 12 → (tx_lm k).2.1 = 0 ∧ 7 ≤ (tx_lm k).2.2 ∧ (tx_lm k).2.2 ≤ 12 ∧ (tx_lm k).2.2 ≠ 11) ∧ ((tx_lm k).1 = 46 → (tx_lm k).2.2 ≤ 10 ∨ 23 ≤ (tx_lm k).2.2) := by decide +kernel
def tx_mZ (Z : Nat) (σ : Nat → Nat) (h : hs_H) : Prop := ∀ k, tx_va Z k → k ≠ 6 → h.1 (tx_lm k).1 (tx_lm k).2.1 (tx_lm k).2.2 = nI (σ k)
/-- the highest of some nodes -/
def tx_hi (m : Nat) (x : Int32) : Prop := (m = 0 ∧ x = nI 4294967292) ∨ ∃ i, i < 10 ∧ x = nI i ∧ m.testBit i = true ∧ ∀ j, i < j → m.testBit j = false
def tx_m0 (h : hs_H) : Prop := h.1 46 0 11 = nI 4294967292 ∧ ∀ k, 12 ≤ k → k < 23 → h.1 46 0 k = nI 0
def tx_mS (σ : Nat → Nat) (h : hs_H) : Prop := tx_mZ (σ 4) σ h ∧ tx_hi (σ 6) (h.1 12 0 11) ∧ tx_m0 h
def tx_mF (h0 h : hs_H) : Prop := hs_fr [(12, some 0), (46, some 0)] h0 h ∧ ∀ x, ¬ (7 ≤ x ∧ x ≤ 12) → ¬ (15 ≤ x ∧ x ≤ 20) → h.1 12 0 x = h0.1 12 0 x
section TP
variable {n : Nat} {tp : Nat → Nat} {σ : Nat → Nat} {Z : Nat} {h0 h : hs_H}
theorem tx_mF.rf : tx_mF h h := ⟨hs_fr.rf, fun _ _ _ => rfl⟩
theorem tx_mF.tr {h1 h2 : hs_H} (f : tx_mF h0 h1) (g : tx_mF h1 h2) : tx_mF h0 h2 := ⟨f.1.tr g.1, fun x a b => (g.2 x a b).trans (f.2 x a b)⟩
theorem tx_mG.F (f : tx_mG h0 h) : tx_mF h0 h := ⟨f.1.sub (hs_sub_cons (.inl (.head _)) hs_sub_nil), fun x _ b => f.2 x b⟩
theorem tx_mF_12 {x : Nat} {v : Int32} (f : tx_mF h0 h) (hx : 7 ≤ x ∧ x ≤ 12) : tx_mF h0 (hs_put h 12 0 x v) := ⟨f.1.put (.inl (.head _)), fun y a b => by rw [nx_get, if_neg (by omega)]; exact f.2 y a b⟩
theorem tx_mF_46 {x : Nat} {v : Int32} (f : tx_mF h0 h) : tx_mF h0 (hs_put h 46 0 x v) := ⟨f.1.put (.inl (.tail _ (.head _))), fun y a b => by rw [nx_get, if_neg (by omega)]; exact f.2 y a b⟩
theorem tx_mT_F (f : tx_mF h0 h) (t : tx_mT n tp h0) : tx_mT n tp h := by
  unfold tx_mT at t ⊢
  rw [f.2 14 (by omega) (by omega), (f.1 47 0 (by intro q hq; revert q; simp)).1]
  exact t
theorem tx_mZ_G (f : tx_mG h0 h) (s : tx_mZ Z σ h0) : tx_mZ Z σ h := fun k hk h6 => by
  obtain ⟨q1, -⟩ := tx_lm_out k hk.1
  have e := s k hk h6
  by_cases c : (tx_lm k).1 = 12
  · have := q1 c
    rw [c, this.1] at e ⊢
    rw [f.2 _ (by omega)]
    exact e
  · rw [(f.1 (tx_lm k).1 (tx_lm k).2.1 (by intro q hq hh; rcases hh with rfl | rfl <;> simp at hq; exact c hq.1)).1]
    exact e
theorem tx_mS_G (f : tx_mG h0 h) (s : tx_mS σ h0) : tx_mS σ h := by
  refine ⟨tx_mZ_G f s.1, ?_, ?_⟩
  · rw [f.2 11 (by omega)]; exact s.2.1
  · unfold tx_m0
    rw [(f.1 46 0 (by intro q hq; revert q; simp)).1]
    exact s.2.2
theorem tx_mZ_put {i v : Nat} {c o p : Nat} (hi : i < 60) (hl : tx_lm i = (c, o, p)) (s : tx_mZ Z σ h) : tx_mZ Z (tx_up σ i v) (hs_put h c o p (nI v)) := fun k hk h6 => by
  rw [nx_get]
  by_cases e : k = i
  · rw [e, hl, if_pos ⟨rfl, rfl, rfl⟩, tx_up_eq]
  · rw [if_neg (fun q => e (tx_lm_inj k hk.1 i hi (by rw [hl]; exact Prod.ext q.1 (Prod.ext q.2.1 q.2.2)))), tx_up_ne e]
    exact s k hk h6
theorem tx_mZ_g {k : Nat} (s : tx_mZ Z σ h) (hk : tx_va Z k) (h6 : k ≠ 6) {c o p : Nat} (hl : tx_lm k = (c, o, p)) : h.1 c o p = nI (σ k) := by
  have := s k hk h6
  rw [hl] at this
  exact this
/-- the mark of nodes named changes, the model's highest with it -/
theorem tx_mS_hi {v : Nat} (hv : v < 10) (s : tx_mS σ h) : tx_mS (tx_nd σ v) (hs_put h 12 0 11 (if nI v ≤ h.1 12 0 11 then h.1 12 0 11 else nI v)) := by
  obtain ⟨s1, s2, s3⟩ := s
  have e4 : tx_nd σ v 4 = σ 4 := tx_nd_n (by omega)
  refine ⟨?_, ?_, ?_⟩
  · rw [e4]
    intro k hk h6
    obtain ⟨q1, -⟩ := tx_lm_out k hk.1
    rw [nx_get, if_neg (fun q => (q1 q.1).2.2.2 q.2.2), tx_nd_n h6]
    exact s1 k hk h6
  · rw [nx_get, if_pos ⟨rfl, rfl, rfl⟩, tx_nd_6]
    have hneg : ∀ v, v < 10 → ¬ nI v ≤ nI 4294967292 := by decide
    rcases s2 with ⟨m0, m1⟩ | ⟨i, m1, m2, m3, m4⟩
    · rw [m1, if_neg (hneg v hv), m0]
      refine Or.inr ⟨v, hv, rfl, by rw [tb_or1]; exact Or.inr rfl, fun j hj => eq_false_of_ne_true (fun q => ?_)⟩
      rcases tb_or1.mp q with w | w
      · rw [Nat.zero_testBit] at w; cases w
      · omega
    · rw [m2]
      by_cases c : v ≤ i
      · rw [if_pos (nI_le c (by omega))]
        refine Or.inr ⟨i, m1, rfl, by rw [tb_or1]; exact Or.inl m3, fun j hj => eq_false_of_ne_true (fun q => ?_)⟩
        rcases tb_or1.mp q with w | w
        · rw [m4 j hj] at w; cases w
        · omega
      · rw [if_neg (nI_ge (by omega) (by omega))]
        refine Or.inr ⟨v, hv, rfl, by rw [tb_or1]; exact Or.inr rfl, fun j hj => eq_false_of_ne_true (fun q => ?_)⟩
        rcases tb_or1.mp q with w | w
        · rw [m4 j (by omega)] at w; cases w
        · omega
  · unfold tx_m0
    refine ⟨by rw [nx_get, if_neg (by omega)]; exact s3.1, fun k h1 h2 => by rw [nx_get, if_neg (by omega)]; exact s3.2 k h1 h2⟩
theorem rg_nI {lo hi v : Nat} (hv : v < 2147483648) : rg lo hi (nI v) = decide (lo ≤ v ∧ v ≤ hi) := by
  unfold rg
  rw [i32_toInt_nI hv]
  exact decide_eq_decide.mpr ⟨fun q => ⟨by omega, by omega⟩, fun q => ⟨by omega, by omega⟩⟩
theorem tx_m162x {c w : Nat} {a b : Int32} (hc : 0 < c ∧ c < 100) (x : tx_mX c w h) : hf_162 a b h = some (nI 0, h) := by
  have e : ¬ h.1 12 0 19 = 0 := by rw [x.1]; exact nI_ne0 hc.1 (by omega)
  unfold hf_162 hb_162_25 hb_162_49 hb_162_64
  rw [if_pos e, if_pos e, if_pos e]
theorem tx_m162 {p lo hi : Nat} (hn : n ≤ 320) (hb : ∀ q, tp q < 256) (hlo : lo < 1000) (hhi : hi < 1000) (q : tx_mQ n tp p h) : (∀ e, ab_num n tp lo hi p = .inl e → ∃ H, hf_162 (nI lo) (nI hi) h = some (nI 0, H) ∧ tx_mG h H ∧ tx_mX e.1 e.2 H) ∧ ∀ v, ab_num n tp lo hi p = .inr v → hf_162 (nI lo) (nI hi) h = some (nI v, h) := by
  have hKb : tx_K n tp p ≤ 5 := tx_at_b
  cases hB : tx_B n tp p with
  | true =>
    have hnum : ab_num n tp lo hi p = .inl (1, tx_F n tp p) := by unfold ab_num; rw [hB, if_pos rfl]
    rw [hnum]
    refine ⟨fun e w => ?_, fun v w => by cases w⟩
    injection w with w
    rw [← w]
    exact ⟨h, tx_m162x (by omega) (q.1 hB), tx_mG.rf, q.1 hB⟩
  | false =>
    obtain ⟨m0, m1, m2, m3, m4⟩ := q.2 hB
    have hV := tx_V_b hn hb hB
    have hnum : ab_num n tp lo hi p = if tx_K n tp p = 2 then (if lo ≤ tx_V n tp p ∧ tx_V n tp p ≤ hi then .inr (tx_V n tp p) else .inl (3, tx_F n tp p)) else .inl (2, tx_F n tp p) := by
      unfold ab_num
      rw [hB, if_neg Bool.false_ne_true]
    rw [hnum]
    have fx : ∀ c, 0 < c ∧ c < 100 → tx_mX c (tx_F n tp p) (hs_put (hs_put h 12 0 19 (nI c)) 12 0 20 (nI (tx_F n tp p))) := fun c _ => tx_mX_f
    have e49 : ∀ c G, 0 < c ∧ c < 100 → tx_mX c (tx_F n tp p) G → hb_162_49 G = some (nI 0, G) := fun c G hc x => by
      unfold hb_162_49 hb_162_64
      rw [x.1, if_pos (nI_ne0 hc.1 (by omega))]
    by_cases c2 : tx_K n tp p = 2
    · have e18 := m4 c2
      have e25 : hf_162 (nI lo) (nI hi) h = (hf_157 (bI (decide (lo ≤ tx_V n tp p ∧ tx_V n tp p ≤ hi))) (nI 3) h).bind (fun q5 => hb_162_49 q5) := by
        unfold hf_162 hb_162_21 hb_162_25
        rw [m0, if_neg (show ¬ ¬ nI 0 = 0 by decide), m3, if_neg (show ¬ ¬ nI (tx_K n tp p) = nI 2 from fun w => w (by rw [c2])), sp_157t, Option.bind_some, m0, if_neg (show ¬ ¬ nI 0 = 0 by decide), e18, sp_150r (nI_64 (by omega)) (nI_64 (by omega)), Option.bind_some, rg_nI (by omega)]
      rw [e25, if_pos c2]
      by_cases c3 : lo ≤ tx_V n tp p ∧ tx_V n tp p ≤ hi
      · rw [if_pos c3, decide_eq_true c3]
        refine ⟨fun e w => (by cases w), fun v w => ?_⟩
        injection w with w
        have : hf_157 (bI true) (nI 3) h = some h := sp_157t
        rw [this, Option.bind_some]
        unfold hb_162_49 hb_162_64
        rw [m0, if_neg (show ¬ ¬ nI 0 = 0 by decide), e18, w]
      · rw [if_neg c3, decide_eq_false c3]
        refine ⟨fun e w => ?_, fun v w => by cases w⟩
        injection w with w
        rw [← w]
        have : hf_157 (bI false) (nI 3) h = _ := sp_157f m0
        rw [this, Option.bind_some, m2, e49 3 _ (by omega) (fx 3 (by omega))]
        exact ⟨_, rfl, tx_mG_f tx_mG.rf, fx 3 (by omega)⟩
    · rw [if_neg c2]
      refine ⟨fun e w => ?_, fun v w => by cases w⟩
      injection w with w
      rw [← w]
      refine ⟨hs_put (hs_put h 12 0 19 (nI 2)) 12 0 20 (nI (tx_F n tp p)), ?_, tx_mG_f tx_mG.rf, fx 2 (by omega)⟩
      unfold hf_162 hb_162_21
      rw [m0, if_neg (show ¬ ¬ nI 0 = 0 by decide), m3, if_pos (show ¬ nI (tx_K n tp p) = nI 2 from fun w => c2 (nI_inj (by omega) (by omega) w)), sp_157f m0, Option.bind_some, m2]
      unfold hb_162_25
      rw [(fx 2 (by omega)).1, if_pos (show ¬ nI 2 = 0 by decide)]
      exact e49 2 _ (by omega) (fx 2 (by omega))
theorem tx_m163x {c w : Nat} {a b : Int32} (hc : 0 < c ∧ c < 100) (x : tx_mX c w h) : hf_163 a b h = some (nI 0, h) := by
  unfold hf_163
  rw [tx_m162x hc x, Option.bind_some]
  dsimp only
  rw [sp_161x hc x, Option.bind_some]
theorem tx_m163 {p lo hi : Nat} (hn : n ≤ 320) (hb : ∀ q, tp q < 256) (hlo : lo < 1000) (hhi : hi < 1000) (hp : p ≤ n) (t : tx_mT n tp h) (q : tx_mQ n tp p h) : (∀ e, ab_num n tp lo hi p = .inl e → ∃ H, hf_163 (nI lo) (nI hi) h = some (nI 0, H) ∧ tx_mG h H ∧ tx_mX e.1 e.2 H) ∧ ∀ v, ab_num n tp lo hi p = .inr v → ∃ H, hf_163 (nI lo) (nI hi) h = some (nI v, H) ∧ tx_mG h H ∧ tx_mQ n tp (tx_E n tp p) H := by
  obtain ⟨r1, r2⟩ := tx_m162 hn hb hlo hhi q
  refine ⟨fun e w => ?_, fun v w => ?_⟩
  · obtain ⟨H, s1, s2, s3⟩ := r1 e w
    obtain ⟨g1, g2, g3⟩ := ab_num_l w
    refine ⟨H, ?_, s2, s3⟩
    unfold hf_163
    rw [s1, Option.bind_some]
    dsimp only
    rw [sp_161x (by omega) s3, Option.bind_some]
  · obtain ⟨hB, -, -, -⟩ := ab_num_r w
    obtain ⟨m0, m1, m2, m3, m4⟩ := q.2 hB
    have a6 := (tx_spec (tp := tp) hn hp).2.2.2.1.2
    obtain ⟨H, s1, s2, s3⟩ := sp_161 hn hb a6 t m1 m0
    refine ⟨H, ?_, s2, s3⟩
    unfold hf_163
    rw [r2 v w, Option.bind_some]
    dsimp only
    rw [s1, Option.bind_some]
theorem tx_m164_33 {x : Int32} {G : hs_H} : hb_164_33 x G = (hf_161 (hs_put G 12 0 11 (if x ≤ G.1 12 0 11 then G.1 12 0 11 else x))).bind (fun q4 => some (x, q4)) := by
  unfold hb_164_33 hb_164_50
  by_cases c : x ≤ G.1 12 0 11
  · rw [if_pos c, if_pos c]
  · rw [if_neg c, if_neg c]
theorem tx_m164_33x {c w : Nat} {x : Int32} {G : hs_H} (hc : 0 < c ∧ c < 100) (X : tx_mX c w G) : ∃ H, hb_164_33 x G = some (x, H) ∧ tx_mF G H ∧ tx_mX c w H := by
  have X' : tx_mX c w (hs_put G 12 0 11 (if x ≤ G.1 12 0 11 then G.1 12 0 11 else x)) := ⟨by rw [nx_get, if_neg (by omega)]; exact X.1, by rw [nx_get, if_neg (by omega)]; exact X.2⟩
  rw [tx_m164_33, sp_161x hc X', Option.bind_some]
  exact ⟨_, rfl, tx_mF_12 tx_mF.rf (by omega), X'⟩
theorem tx_m164x {c w : Nat} {b : Int32} (hc : 0 < c ∧ c < 100) (x : tx_mX c w h) : ∃ H, hf_164 b h = some (nI 0, H) ∧ tx_mF h H ∧ tx_mX c w H := by
  have e : ¬ h.1 12 0 19 = 0 := by rw [x.1]; exact nI_ne0 hc.1 (by omega)
  obtain ⟨H, s1, s2, s3⟩ := tx_m164_33x (x := nI 0) hc x
  refine ⟨H, ?_, s2, s3⟩
  unfold hf_164
  rw [tx_m162x hc x, Option.bind_some]
  dsimp only
  rw [if_pos e, s1]
theorem tx_m164 {p b : Nat} (hn : n ≤ 320) (hb : ∀ q, tp q < 256) (hp : p ≤ n) (hbb : b < 2147483648) (t : tx_mT n tp h) (q : tx_mQ n tp p h) (s : tx_mS σ h) : (∀ e, ab_num n tp 0 9 p = .inl e → ∃ H, hf_164 (nI b) h = some (nI 0, H) ∧ tx_mF h H ∧ tx_mX e.1 e.2 H) ∧ ∀ v, ab_num n tp 0 9 p = .inr v → (b.testBit v = true → ∃ H, hf_164 (nI b) h = some (nI v, H) ∧ tx_mF h H ∧ tx_mX 4 (tx_F n tp p) H) ∧ (b.testBit v = false → ∃ H, hf_164 (nI b) h = some (nI v, H) ∧ tx_mF h H ∧ tx_mQ n tp (tx_E n tp p) H ∧ tx_mS (tx_nd σ v) H ∧ H.1 46 0 = h.1 46 0) := by
  obtain ⟨r1, r2⟩ := tx_m162 (lo := 0) (hi := 9) hn hb (by omega) (by omega) q
  refine ⟨fun e w => ?_, fun v w => ?_⟩
  · obtain ⟨G, s1, s2, s3⟩ := r1 e w
    obtain ⟨g1, g2, g3⟩ := ab_num_l w
    have e0 : ¬ G.1 12 0 19 = 0 := by rw [s3.1]; exact nI_ne0 g1 (by omega)
    obtain ⟨H, u1, u2, u3⟩ := tx_m164_33x (x := nI 0) (by omega) s3
    refine ⟨H, ?_, s2.F.tr u2, u3⟩
    unfold hf_164
    rw [s1, Option.bind_some]
    dsimp only
    rw [if_pos e0, u1]
  · obtain ⟨hB, -, ⟨-, hv⟩, -⟩ := ab_num_r w
    obtain ⟨m0, m1, m2, m3, m4⟩ := q.2 hB
    have a6 := (tx_spec (tp := tp) hn hp).2.2.2.1.2
    have e164 : hf_164 (nI b) h = hb_164_29 (nI v) (bI (!b.testBit v)) h := by
      unfold hf_164
      rw [r2 v w, Option.bind_some]
      dsimp only
      rw [m0, if_neg (show ¬ ¬ nI 0 = 0 by decide), nx_bit hbb (by omega)]
      cases b.testBit v with
      | true => rw [if_pos (show ¬ bI true = 0 by decide)]; rfl
      | false => rw [if_neg (show ¬ ¬ bI false = 0 by decide)]; rfl
    rw [e164]
    refine ⟨fun c => ?_, fun c => ?_⟩
    · obtain ⟨H, u1, u2, u3⟩ := tx_m164_33x (x := nI v) (c := 4) (w := tx_F n tp p) (by omega) (tx_mX_f (h := h))
      refine ⟨H, ?_, (tx_mG_f tx_mG.rf).F.tr u2, u3⟩
      unfold hb_164_29
      have : hf_157 (bI (!b.testBit v)) (nI 4) h = some (hs_put (hs_put h 12 0 19 (nI 4)) 12 0 20 (h.1 12 0 16)) := by rw [c]; exact sp_157f m0
      rw [this, Option.bind_some, m2, u1]
    · have e1 : hf_157 (bI (!b.testBit v)) (nI 4) h = some h := by rw [c]; exact sp_157t
      have f1 : tx_mF h (hs_put h 12 0 11 (if nI v ≤ h.1 12 0 11 then h.1 12 0 11 else nI v)) := tx_mF_12 tx_mF.rf (by omega)
      have sN := tx_mS_hi (v := v) (by omega) s
      have p15 : (hs_put h 12 0 11 (if nI v ≤ h.1 12 0 11 then h.1 12 0 11 else nI v)).1 12 0 15 = nI (tx_E n tp p) := by rw [nx_get, if_neg (by omega)]; exact m1
      have p19 : (hs_put h 12 0 11 (if nI v ≤ h.1 12 0 11 then h.1 12 0 11 else nI v)).1 12 0 19 = nI 0 := by rw [nx_get, if_neg (by omega)]; exact m0
      obtain ⟨H, u1, u2, u3⟩ := sp_161 hn hb a6 (tx_mT_F f1 t) p15 p19
      refine ⟨H, ?_, f1.tr u2.F, u3, tx_mS_G u2 sN, ?_⟩
      · unfold hb_164_29
        rw [e1, Option.bind_some, tx_m164_33, u1, Option.bind_some]
      · rw [(u2.1 46 0 (by intro q hq; revert q; simp)).1]
        funext k
        rw [nx_get, if_neg (by omega)]
end TP
