/-! The text: the model reads lines, all. -/
section TR
variable {n : Nat} {tp : Nat → Nat} {σ : Nat → Nat} {h0 h : hs_H}
theorem tx_m165l {q : Nat} (hn : n ≤ 320) (hb : ∀ q, tp q < 256) (hq : q ≤ n) (t : tx_mT n tp h) (Q : tx_mQ n tp q h) (s : tx_mS σ h) (ok : tx_ok σ) : tx_mB n tp (ab_body n tp 3 q σ) h (hf_165 h) := by
  have a6 := (tx_spec (tp := tp) hn hq).2.2.2.1.2
  obtain ⟨r1, r2⟩ := tx_m164 (b := 0) hn hb hq (by omega) t Q s
  show tx_mB n tp (tx_sb (ab_num n tp 0 9 q) _) h _
  unfold hf_165
  cases hN : ab_num n tp 0 9 q with
  | inl e =>
    obtain ⟨G, s1, s2, s3⟩ := r1 e hN
    obtain ⟨g1, g2, g3⟩ := ab_num_l hN
    rw [s1, Option.bind_some]
    exact tx_mB_l (tx_m165e (M := hs_big) (by unfold hs_big; omega) (Or.inl (by rw [s3.1]; exact nI_ne0 g1 (by omega)))) s2 s3
  | inr a =>
    obtain ⟨-, -, ⟨-, ha⟩, -⟩ := ab_num_r hN
    obtain ⟨G, s1, s2, s3, s4, s5⟩ := (r2 a hN).2 (Nat.zero_testBit _)
    rw [s1, Option.bind_some]
    exact (tx_m165 hn hb 400 a (tx_E n tp q) (tx_nd σ a) G (by omega) a6 (tx_mT_F s2 t) s3 (fun _ => s4) (tx_ok_nd ok (by omega)) (by omega) tx_nd_b hs_big (by unfold hs_big; omega)).tr s2
/-- a line behind its name -/
theorem tx_m167 {k q : Nat} (hk : k ≤ 6) (hn : n ≤ 320) (hb : ∀ q, tp q < 256) (hq : q ≤ n) (t : tx_mT n tp h) (Q : tx_mQ n tp q h) (s : tx_mS σ h) (ok : tx_ok σ) (h4 : k = 6 → σ 4 < 10) : tx_mB n tp (ab_body n tp k q σ) h (hf_167 (nI k) h) := by
  have water : ∀ x i, ((x = 9 ∧ i = 2) ∨ (x = 10 ∧ i = 3)) → tx_mB n tp (tx_sb (ab_num n tp 0 9 q) (fun v => if (σ i).testBit v = true then .inl (4, tx_F n tp q) else .inr (tx_E n tp q, tx_up (tx_nd σ v) i (σ i ||| 2 ^ v)))) h ((hf_164 (h.1 12 0 x) h).bind (fun q10 => hb_167_132 (hs_put q10.2 12 0 x ((h.1 12 0 x) ||| ((nI 1) <<< (q10.1 &&& 31)))))) := fun x i hx => by
    have hlm : tx_lm i = (12, 0, x) := by rcases hx with ⟨rfl, rfl⟩ | ⟨rfl, rfl⟩ <;> rfl
    have hi : i = 2 ∨ i = 3 := hx.imp (fun q => q.2) (fun q => q.2)
    have hx' : x = 9 ∨ x = 10 := hx.imp (fun q => q.1) (fun q => q.1)
    have hlt : σ i < 1024 := by
      rcases hi with e | e
      · rw [e]; exact ok.2.2.1.1
      · rw [e]; exact ok.2.2.2.1.1
    have ex : h.1 12 0 x = nI (σ i) := tx_mZ_g s.1 (k := i) ⟨by omega, Or.inl (by omega)⟩ (by omega) hlm
    obtain ⟨r1, r2⟩ := tx_m164 (b := σ i) hn hb hq (by omega) t Q s
    rw [ex]
    unfold hb_167_132
    cases hN : ab_num n tp 0 9 q with
    | inl e =>
      obtain ⟨G, s1, s2, s3⟩ := r1 e hN
      rw [s1, Option.bind_some]
      exact tx_mB_l rfl (tx_mF_12 s2 (by omega)) (tx_mX_12 (by omega) s3)
    | inr v =>
      obtain ⟨-, -, ⟨-, hv⟩, -⟩ := ab_num_r hN
      show tx_mB n tp (if (σ i).testBit v = true then _ else _) h _
      by_cases c : (σ i).testBit v = true
      · obtain ⟨G, s1, s2, s3⟩ := (r2 v hN).1 c
        rw [if_pos c, s1, Option.bind_some]
        exact tx_mB_l rfl (tx_mF_12 s2 (by omega)) (tx_mX_12 (by omega) s3)
      · obtain ⟨G, s1, s2, s3, s4, s5⟩ := (r2 v hN).2 (eq_false_of_ne_true c)
        rw [if_neg c, s1, Option.bind_some]
        dsimp only
        rw [nx_shl1 (by omega), nx_or]
        exact tx_mB_r rfl (tx_mF_12 s2 (by omega)) (fun _ => tx_mS_up s4 (by omega) (by omega) (by omega) hlm (Or.inl rfl)) (tx_mQ_12 (by omega) s3)
  match k, hk, h4 with
  | 0, _, _ =>
    obtain ⟨r1, r2⟩ := tx_m163 (lo := 2) (hi := 10) hn hb (by omega) (by omega) hq t Q
    show tx_mB n tp (tx_sb (ab_num n tp 2 10 q) _) h _
    unfold hf_167 hb_167_132
    rw [if_pos rfl]
    cases hN : ab_num n tp 2 10 q with
    | inl e =>
      obtain ⟨G, s1, s2, s3⟩ := r1 e hN
      rw [s1, Option.bind_some]
      exact tx_mB_l rfl (tx_mF_12 s2.F (by omega)) (tx_mX_12 (by omega) s3)
    | inr v =>
      obtain ⟨G, s1, s2, s3⟩ := r2 v hN
      rw [s1, Option.bind_some]
      exact tx_mB_r rfl (tx_mF_12 s2.F (by omega)) (fun _ => tx_mS_up (tx_mS_G s2 s) (by omega) (by omega) (by omega) rfl (Or.inl rfl)) (tx_mQ_12 (by omega) s3)
  | 1, _, _ =>
    show tx_mB n tp (.inr (q, tx_up σ 1 1)) h _
    unfold hf_167 hb_167_132
    rw [if_neg (show ¬ nI 1 = nI 0 by decide), if_pos rfl]
    exact tx_mB_r rfl (tx_mF_12 tx_mF.rf (by omega)) (fun _ => tx_mS_up s (by omega) (by omega) (by omega) rfl (Or.inl rfl)) (tx_mQ_12 (by omega) Q)
  | 2, _, _ =>
    obtain ⟨r1, r2⟩ := tx_m164 (b := 0) hn hb hq (by omega) t Q s
    show tx_mB n tp (tx_sb (ab_num n tp 0 9 q) _) h _
    unfold hf_167 hb_167_132
    rw [if_neg (show ¬ nI 2 = nI 0 by decide), if_neg (show ¬ nI 2 = nI 1 by decide), if_pos rfl]
    cases hN : ab_num n tp 0 9 q with
    | inl e =>
      obtain ⟨G, s1, s2, s3⟩ := r1 e hN
      rw [s1, Option.bind_some, nx_inb (show 10 < 54 by omega) (by omega), nx_ck, nI_clamp (show 10 < 2147483648 by omega)]
      exact tx_mB_l rfl (tx_mF_46 s2) (tx_mX_46 s3)
    | inr v =>
      obtain ⟨G, s1, s2, s3, s4, s5⟩ := (r2 v hN).2 (Nat.zero_testBit _)
      rw [s1, Option.bind_some, nx_inb (show 10 < 54 by omega) (by omega), nx_ck, nI_clamp (show 10 < 2147483648 by omega)]
      exact tx_mB_r rfl (tx_mF_46 s2) (fun _ => tx_mS_up s4 (by omega) (by omega) (by omega) rfl (Or.inr rfl)) (tx_mQ_46 s3)
  | 3, _, _ =>
    have z := tx_m165l hn hb hq t Q s ok
    unfold hf_167 hb_167_132
    rw [if_neg (show ¬ nI 3 = nI 0 by decide), if_neg (show ¬ nI 3 = nI 1 by decide), if_neg (show ¬ nI 3 = nI 2 by decide), if_pos rfl]
    refine ⟨fun e w => ?_, fun x w => ?_⟩
    · obtain ⟨H, z1, z2⟩ := z.1 e w
      exact ⟨H, by rw [z1]; rfl, z2⟩
    · obtain ⟨H, z1, z2⟩ := z.2 x w
      exact ⟨H, by rw [z1]; rfl, z2⟩
  | 4, _, _ =>
    have z := water 9 2 (Or.inl ⟨rfl, rfl⟩)
    unfold hf_167
    rw [if_neg (show ¬ nI 4 = nI 0 by decide), if_neg (show ¬ nI 4 = nI 1 by decide), if_neg (show ¬ nI 4 = nI 2 by decide), if_neg (show ¬ nI 4 = nI 3 by decide), if_pos rfl]
    exact z
  | 5, _, _ =>
    have z := water 10 3 (Or.inr ⟨rfl, rfl⟩)
    unfold hf_167
    rw [if_neg (show ¬ nI 5 = nI 0 by decide), if_neg (show ¬ nI 5 = nI 1 by decide), if_neg (show ¬ nI 5 = nI 2 by decide), if_neg (show ¬ nI 5 = nI 3 by decide), if_neg (show ¬ nI 5 = nI 4 by decide), if_pos rfl]
    exact z
  | 6, _, h4 =>
    have z := tx_m166 hn hb hq (h4 rfl) t Q s
    unfold hf_167 hb_167_132
    rw [if_neg (show ¬ nI 6 = nI 0 by decide), if_neg (show ¬ nI 6 = nI 1 by decide), if_neg (show ¬ nI 6 = nI 2 by decide), if_neg (show ¬ nI 6 = nI 3 by decide), if_neg (show ¬ nI 6 = nI 4 by decide), if_neg (show ¬ nI 6 = nI 5 by decide)]
    refine ⟨fun e w => ?_, fun x w => ?_⟩
    · obtain ⟨H, z1, z2⟩ := z.1 e w
      exact ⟨H, by rw [z1]; rfl, z2⟩
    · obtain ⟨H, z1, z2⟩ := z.2 x w
      exact ⟨H, by rw [z1]; rfl, z2⟩
def tx_mL (n : Nat) (tp : Nat → Nat) (r : tx_R (Nat × (Nat → Nat))) (h0 : hs_H) (o : Option hs_H) : Prop := (∀ e, r = .inl e → ∃ H, o = some H ∧ tx_mF h0 H ∧ tx_mX e.1 e.2 H) ∧ ∀ x, r = .inr x → ∃ H, o = some H ∧ tx_mF h0 H ∧ tx_mS x.2 H ∧ tx_mQ n tp x.1 H
theorem tx_mL_l {e : Nat × Nat} {H : hs_H} {o : Option hs_H} (h1 : o = some H) (f : tx_mF h0 H) (x : tx_mX e.1 e.2 H) : tx_mL n tp (.inl e) h0 o := ⟨fun e' q => by
  injection q with q
  rw [← q]
  exact ⟨H, h1, f, x⟩, fun _ q => by cases q⟩
theorem tx_m149x {c w : Nat} {G : hs_H} (hc : 0 < c ∧ c < 100) (X : tx_mX c w G) : hb_168_149 G = some G := by
  unfold hb_168_149
  rw [sp_161x hc X, Option.bind_some]
theorem tx_m107t {r : tx_R (Nat × (Nat → Nat))} {G : hs_H} {o : Option hs_H} {p : Nat} (hn : n ≤ 320) (hb : ∀ q, tp q < 256) (t : tx_mT n tp G) (g : tx_g n p r) (z : tx_mB n tp r G o) : tx_mL n tp (tx_sb r (fun x => ab_sign n tp x.1 x.2)) G (o.bind (fun q9 => if ¬ (q9.1 12 0 19) = 0 then (hb_168_149 q9) else (if ¬ (q9.1 12 0 17) = (nI 3) then (hb_168_145 (nI 0) q9) else (hb_168_145 (nI 1) q9)))) := by
  cases hr : r with
  | inl e =>
    obtain ⟨H, z1, z2, z3⟩ := z.1 e hr
    obtain ⟨⟨g1, g2⟩, g3⟩ := g.1 e hr
    rw [z1, Option.bind_some, if_pos (by rw [z3.1]; exact nI_ne0 g1 (by omega)), tx_m149x (by omega) z3]
    exact tx_mL_l rfl z2 z3
  | inr x =>
    obtain ⟨H, z1, z2, z3, z4⟩ := z.2 x hr
    obtain ⟨⟨g1, g2⟩, g3⟩ := g.2 x hr
    have hKb : tx_K n tp x.1 ≤ 5 := tx_at_b
    have a6 := (tx_spec (tp := tp) hn g2).2.2.2.1.2
    show tx_mL n tp (ab_sign n tp x.1 x.2) G _
    unfold ab_sign
    rw [z1, Option.bind_some]
    cases hB : tx_B n tp x.1 with
    | true =>
      have X := z4.1 hB
      rw [if_pos rfl, if_pos (by rw [X.1]; decide), tx_m149x (by omega) X]
      exact tx_mL_l rfl z2 X
    | false =>
      obtain ⟨m0, m1, m2, m3, m4⟩ := z4.2 hB
      rw [if_neg Bool.false_ne_true, m0, if_neg (show ¬ ¬ nI 0 = 0 by decide), m3]
      unfold hb_168_145
      by_cases c : tx_K n tp x.1 = 3
      · obtain ⟨K, k1, k2, k3⟩ := sp_161 hn hb a6 (tx_mT_F z2 t) m1 m0
        rw [if_pos c, if_neg (show ¬ ¬ nI (tx_K n tp x.1) = nI 3 from fun w => w (by rw [c])), sp_157t, Option.bind_some]
        unfold hb_168_149
        rw [k1, Option.bind_some]
        refine ⟨fun e w => (by cases w), fun x' w => ?_⟩
        injection w with w
        rw [← w]
        exact ⟨K, rfl, z2.tr k2.F, tx_mS_G k2 (z3 hB), k3⟩
      · rw [if_neg c, if_pos (show ¬ nI (tx_K n tp x.1) = nI 3 from fun w => c (nI_inj (by omega) (by omega) w)), sp_157f m0, Option.bind_some, m2, tx_m149x (c := 2) (w := tx_F n tp x.1) (by omega) tx_mX_f]
        exact tx_mL_l rfl (z2.tr (tx_mG_f tx_mG.rf).F) tx_mX_f
theorem ab_dead {k q : Nat} (hk : k ≤ 6) (hB : tx_B n tp q = true) : tx_sb (ab_body n tp k q σ) (fun x => ab_sign n tp x.1 x.2) = .inl (1, tx_F n tp q) := by
  have e : ∀ lo hi, ab_num n tp lo hi q = .inl (1, tx_F n tp q) := fun lo hi => by unfold ab_num; rw [hB, if_pos rfl]
  match k, hk with
  | 0, _ => show tx_sb (tx_sb (ab_num n tp 2 10 q) _) _ = _; rw [e]; rfl
  | 1, _ => show ab_sign n tp q (tx_up σ 1 1) = _; unfold ab_sign; rw [hB, if_pos rfl]
  | 2, _ => show tx_sb (tx_sb (ab_num n tp 0 9 q) _) _ = _; rw [e]; rfl
  | 3, _ => show tx_sb (tx_sb (ab_num n tp 0 9 q) _) _ = _; rw [e]; rfl
  | 4, _ => show tx_sb (tx_sb (ab_num n tp 0 9 q) _) _ = _; rw [e]; rfl
  | 5, _ => show tx_sb (tx_sb (ab_num n tp 0 9 q) _) _ = _; rw [e]; rfl
  | 6, _ => show tx_sb (tx_sb (ab_num n tp 0 5 q) _) _ = _; rw [e]; rfl
theorem tx_m107x {c w : Nat} {x : Int32} {G : hs_H} (hc : 0 < c ∧ c < 100) (X : tx_mX c w G) : hb_168_107 x G = some G := by
  unfold hb_168_107
  rw [sp_161x hc X, Option.bind_some, X.1, if_neg (nI_nle hc.1 (by omega))]
theorem tx_m58x {c w : Nat} {x b : Int32} {G : hs_H} (hc : 0 < c ∧ c < 100) (X : tx_mX c w G) : hb_168_58 x b G = some G := by
  have ne : ¬ G.1 12 0 19 = 0 := by rw [X.1]; exact nI_ne0 hc.1 (by omega)
  unfold hb_168_58
  rw [sp_157x ne, Option.bind_some, if_pos ne]
  exact tx_m107x hc X
theorem tx_m107 {k p : Nat} {G : hs_H} (hk : k ≤ 6) (hn : n ≤ 320) (hb : ∀ q, tp q < 256) (hp : p ≤ n) (t : tx_mT n tp G) (m0 : G.1 12 0 19 = nI 0) (m : tx_mK n tp p G) (s : tx_mS σ G) (ok : tx_ok σ) (h4 : k = 6 → σ 4 < 10) : tx_mL n tp (tx_sb (ab_body n tp k (tx_E n tp p) σ) (fun x => ab_sign n tp x.1 x.2)) G (hb_168_107 (nI k) G) := by
  have a6 := (tx_spec (tp := tp) hn hp).2.2.2.1.2
  obtain ⟨H, s1, s2, s3⟩ := sp_161 hn hb a6 t m.1 m0
  unfold hb_168_107
  rw [s1, Option.bind_some]
  cases hB : tx_B n tp (tx_E n tp p) with
  | true =>
    have X := s3.1 hB
    rw [ab_dead hk hB, X.1, if_neg (show ¬ nI 1 ≤ 0 by decide)]
    exact tx_mL_l rfl s2.F X
  | false =>
    rw [(s3.2 hB).1, if_pos (show nI 0 ≤ 0 by decide)]
    have z := tx_m167 hk hn hb a6 (tx_mT_fr s2 t) s3 (tx_mS_G s2 s) ok h4
    have g := ab_body_g (tp := tp) (k := k) (q := tx_E n tp p) (σ := σ) hn a6 ok h4 hk
    have y := tx_m107t hn hb (tx_mT_fr s2 t) g z
    refine ⟨fun e w => ?_, fun x w => ?_⟩
    · obtain ⟨K, y1, y2, y3⟩ := y.1 e w
      exact ⟨K, y1, s2.F.tr y2, y3⟩
    · obtain ⟨K, y1, y2, y3⟩ := y.2 x w
      exact ⟨K, y1, s2.F.tr y2, y3⟩
/-- a line -/
theorem tx_m168 {p : Nat} (hn : n ≤ 320) (hb : ∀ q, tp q < 256) (hp : p ≤ n) (t : tx_mT n tp h) (m0 : h.1 12 0 19 = nI 0) (m : tx_mK n tp p h) (s : tx_mS σ h) (ok : tx_ok σ) : tx_mL n tp (ab_line n tp p σ) h (hf_168 h) := by
  have hKb : tx_K n tp p ≤ 5 := tx_at_b
  have e17 := m.2.2.1
  -- no such line
  have none : hb_168_17 (nI 4294967292) h = some (hs_put (hs_put h 12 0 19 (nI 2)) 12 0 20 (nI (tx_F n tp p))) := by
    unfold hb_168_17 hb_168_30 hb_168_53
    rw [if_pos rfl, sp_157f m0, Option.bind_some, if_pos (show ¬ nI 4294967292 = nI 6 by decide), m.2.1]
    exact tx_m58x (c := 2) (w := tx_F n tp p) (by omega) tx_mX_f
  unfold hf_168 ab_line
  rw [e17]
  by_cases c1 : tx_K n tp p = 1
  · rw [if_pos c1, if_neg (show ¬ ¬ nI (tx_K n tp p) = nI 1 from fun w => w (by rw [c1])), sp_160 hn hb hp t m, Option.bind_some]
    dsimp only
    by_cases c7 : tx_nm n tp p = 7
    · rw [if_pos c7, if_pos c7, none]
      exact tx_mL_l rfl (tx_mG_f tx_mG.rf).F tx_mX_f
    · have hk : tx_nm n tp p ≤ 6 := by
        have hnm : tx_nm n tp p ≤ 7 := by
          unfold tx_nm
          repeat' split
          all_goals omega
        omega
      rw [if_neg c7, if_neg c7]
      generalize tx_nm n tp p = k at hk
      have hk4 : ¬ nI k = nI 4294967292 := fun w => by have := nI_inj (by omega) (by omega) w; omega
      have e17 : hb_168_17 (nI k) h = if ¬ nI k = nI 6 then hb_168_58 (nI k) (nI 1) h else (if (nI 10) ≤ nI (σ 4) then (hb_168_58 (nI k) (nI 0) h) else (hb_168_58 (nI k) (nI 1) h)) := by
        have e23 : h.1 46 0 23 = nI (σ 4) := tx_mZ_g s.1 (k := 4) ⟨by omega, Or.inl (by omega)⟩ (by omega) rfl
        unfold hb_168_17 hb_168_30 hb_168_53
        rw [if_neg hk4, sp_157t, Option.bind_some, nx_inb (show 23 < 54 by omega) (by omega), nx_ck, nI_clamp (show 23 < 2147483648 by omega), e23]
      have h4 := ok.2.2.2.2.2.2.2.1
      rw [e17]
      by_cases c6 : k = 6 ∧ 10 ≤ σ 4
      · rw [if_pos c6, if_neg (show ¬ ¬ nI k = nI 6 from fun w => w (by rw [c6.1])), if_pos (nI_le c6.2 (by omega))]
        refine tx_mL_l ?_ (tx_mG_f tx_mG.rf).F tx_mX_f
        have X : tx_mX 5 (tx_F n tp p) (hs_put (hs_put h 12 0 19 (nI 5)) 12 0 20 (nI (tx_F n tp p))) := tx_mX_f
        unfold hb_168_58
        rw [sp_157f m0, Option.bind_some, m.2.1, X.1, if_pos (show ¬ nI 5 = 0 by decide)]
        exact tx_m107x (by omega) X
      · rw [if_neg c6]
        have e58 : (if ¬ nI k = nI 6 then hb_168_58 (nI k) (nI 1) h else (if (nI 10) ≤ nI (σ 4) then (hb_168_58 (nI k) (nI 0) h) else (hb_168_58 (nI k) (nI 1) h))) = hb_168_58 (nI k) (nI 1) h := by
          by_cases c : nI k = nI 6
          · have e6 : k = 6 := nI_inj (by omega) (by omega) c
            rw [if_neg (fun w => w c), if_neg (nI_ge (by omega) (by omega))]
          · rw [if_pos c]
        rw [e58]
        unfold hb_168_58
        rw [sp_157t, Option.bind_some, m0, if_neg (show ¬ ¬ nI 0 = 0 by decide)]
        by_cases c2 : 2 < k
        · rw [if_pos (nI_lt c2 (by omega)), if_neg (fun w => by omega)]
          have et : ab_told σ k = σ := by unfold ab_told; rw [if_neg (by omega)]
          rw [et]
          exact tx_m107 hk hn hb hp t m0 m s ok (fun w => by omega)
        · have e12 : h.1 12 0 12 = nI (σ 5) := tx_mZ_g s.1 (k := 5) ⟨by omega, Or.inl (by omega)⟩ (by omega) rfl
          have h5 := ok.2.2.2.2.1.1
          rw [if_neg (nI_nlt (by omega) (by omega)), e12, nx_bit (by omega) (by omega)]
          unfold hb_168_91
          cases ht : (σ 5).testBit k with
          | true =>
            have X : tx_mX 4 (tx_F n tp p) (hs_put (hs_put h 12 0 19 (nI 4)) 12 0 20 (nI (tx_F n tp p))) := tx_mX_f
            rw [if_pos ⟨by omega, rfl⟩, if_pos (show ¬ bI true = 0 by decide), sp_157f m0, Option.bind_some, m.2.1]
            exact tx_mL_l (tx_m107x (c := 4) (by omega) (tx_mX_12 (by omega) X)) (tx_mF_12 (tx_mG_f tx_mG.rf).F (by omega)) (tx_mX_12 (by omega) X)
          | false =>
            rw [if_neg (fun w => by cases w.2), if_neg (show ¬ ¬ bI false = 0 by decide), sp_157t, Option.bind_some, e12, nx_shl1 (by omega), nx_or]
            have et : ab_told σ k = tx_up σ 5 (σ 5 ||| 2 ^ k) := by unfold ab_told; rw [if_pos (by omega)]
            have sU : tx_mS (ab_told σ k) (hs_put h 12 0 12 (nI (σ 5 ||| 2 ^ k))) := by
              rw [et]
              exact tx_mS_up s (by omega) (by omega) (by omega) rfl (Or.inl rfl)
            have fU : tx_mF h (hs_put h 12 0 12 (nI (σ 5 ||| 2 ^ k))) := tx_mF_12 tx_mF.rf (by omega)
            have mU : tx_mK n tp p (hs_put h 12 0 12 (nI (σ 5 ||| 2 ^ k))) := by
              unfold tx_mK
              rw [nx_get, if_neg (by omega), nx_get, if_neg (by omega), nx_get, if_neg (by omega), nx_get, if_neg (by omega)]
              exact m
            have y := tx_m107 hk hn hb hp (tx_mT_F fU t) (by rw [nx_get, if_neg (by omega)]; exact m0) mU sU (tx_ok_told ok) (fun w => by omega)
            refine ⟨fun e w => ?_, fun x w => ?_⟩
            · obtain ⟨K, y1, y2, y3⟩ := y.1 e w
              exact ⟨K, y1, fU.tr y2, y3⟩
            · obtain ⟨K, y1, y2, y3⟩ := y.2 x w
              exact ⟨K, y1, fU.tr y2, y3⟩
  · rw [if_neg c1, if_pos (show ¬ nI (tx_K n tp p) = nI 1 from fun w => c1 (nI_inj (by omega) (by omega) w)), none]
    exact tx_mL_l rfl (tx_mG_f tx_mG.rf).F tx_mX_f
end TR
