/-! The text: the class takes a line. -/
section TL
variable {n : Nat} {tp : Nat → Nat} {σ : Nat → Nat} {h0 h : hs_H}
theorem tx_cO_sb {α : Type} {a : tx_R α} {f : α → tx_R (Nat × (Nat → Nat))} {o : Option (Int32 × hs_H)} (hl : ∀ e, a = .inl e → tx_cO (.inl e) h0 o) (hr : ∀ v, a = .inr v → tx_cO (f v) h0 o) : tx_cO (tx_sb a f) h0 o := by
  cases ha : a with
  | inl e => exact hl e ha
  | inr v => exact hr v ha
theorem tx_sb_sb {α β γ : Type} {a : tx_R α} {f : α → tx_R β} {g : β → tx_R γ} : tx_sb (tx_sb a f) g = tx_sb a (fun v => tx_sb (f v) g) := by
  cases a <;> rfl
/-- the lines that come once: behind the asking -/
theorem tx_once {p k : Nat} (hk : k < 3) (s : tx_cS σ h) (ok : tx_ok σ) (m : tx_cK n tp p h) (t : tx_cT n tp h) {r : tx_R (Nat × (Nat → Nat))} {o : Option (Int32 × hs_H)} (h1 : hf_63 (nI (2 ^ k)) h = some (nI 0, hs_put (hs_put h 6 0 10 (nI 4)) 6 0 11 (nI (tx_F n tp p))) → o = some (nI 0, hs_put (hs_put h 6 0 10 (nI 4)) 6 0 11 (nI (tx_F n tp p)))) (h2 : ∀ G, hf_63 (nI (2 ^ k)) h = some (nI 1, G) → tx_cH h G → tx_cS (ab_told σ k) G → tx_cK n tp p G → G.1 6 0 10 = h.1 6 0 10 → tx_cO r h o) : tx_cO (if (σ 5).testBit k = true then .inl (4, tx_F n tp p) else r) h o := by
  obtain ⟨w1, w2⟩ := tx_c63 hk s ok.2.2.2.2.1.1 m
  by_cases c : (σ 5).testBit k = true
  · rw [if_pos c]
    exact tx_cO_l (h1 (w1 c)) (tx_cF_p tx_cF.rf).H tx_cX_p
  · rw [if_neg c]
    have hG : tx_cH h (hs_put h 6 0 8 (nI (σ 5 ||| 2 ^ k))) := tx_cH_put tx_cH.rf (.head _) (by omega)
    refine h2 _ (w2 (eq_false_of_ne_true c)) hG ?_ ?_ ?_
    · unfold ab_told
      rw [if_pos (by omega)]
      show tx_cZ (tx_up σ 5 (σ 5 ||| 2 ^ k) 4) (tx_up σ 5 (σ 5 ||| 2 ^ k)) _
      rw [tx_up_ne (by omega)]
      exact tx_cZ_put (i := 5) (by omega) rfl s
    · unfold tx_cK
      rw [nx_get, if_neg (by omega), nx_get, if_neg (by omega), nx_get, if_neg (by omega), nx_get, if_neg (by omega)]
      exact m
    · rw [nx_get, if_neg (by omega)]
theorem tx_cS_up {i v c o p : Nat} (s : tx_cS σ h) (hi : i < 60) (h4 : i ≠ 4) (hl : tx_lc i = (c, o, p)) : tx_cS (tx_up σ i v) (hs_put h c o p (nI v)) := by
  show tx_cZ (tx_up σ i v 4) (tx_up σ i v) _
  rw [tx_up_ne (fun q => h4 q.symm)]
  exact tx_cZ_put hi hl s
theorem tx_c56 {p : Nat} (hn : n ≤ 320) (hb : ∀ q, tp q < 256) (hp : p ≤ n) (s : tx_cS σ h) (ok : tx_ok σ) (m : tx_cK n tp p h) (t : tx_cT n tp h) : tx_cO (if (σ 5).testBit 0 = true then .inl (4, tx_F n tp p) else tx_sb (ab_body n tp 0 (tx_E n tp p) (ab_told σ 0)) (fun x => ab_sign n tp x.1 x.2)) h (hf_56 h) := by
  have a6 := (tx_spec (tp := tp) hn hp).2.2.2.1.2
  refine tx_once (k := 0) (by omega) s ok m t (fun e => ?_) (fun G e f sG mG g10 => ?_)
  · have e' : hf_63 (nI 1) h = _ := e
    unfold hf_56 hb_56_18
    rw [e', Option.bind_some]
    rfl
  · have e' : hf_63 (nI 1) h = _ := e
    obtain ⟨r1, r2⟩ := tx_c64 (h := G) (p := tx_E n tp p) (lo := 2) (hi := 10) hn hb (by omega) (by omega) a6 (tx_cT_H f t) mG.1
    show tx_cO (tx_sb (tx_sb (ab_num n tp 2 10 (tx_E n tp p)) _) _) h _
    rw [tx_sb_sb]
    have st : hf_56 h = (hf_64 (nI 2) (nI 10) G).bind (fun q3 => if ¬ q3.1 = 0 then ((hf_68 (hs_put q3.2 4 1 1 (q3.2.1 6 0 7))).bind (fun q5 => hs_ck (hs_b01 q5.1) (some (q5.1, q5.2)))) else (hb_56_18 q3.2)) := by
      unfold hf_56
      rw [e', Option.bind_some]
      rfl
    rw [st]
    refine tx_cO_sb (fun e q => ?_) (fun v q => ?_)
    · obtain ⟨H, s1, s2, s3⟩ := r1 e q
      rw [s1, Option.bind_some]
      exact tx_cO_l rfl (f.tr s2.H) s3
    · obtain ⟨H, s1, s2, s3, s4, s5⟩ := r2 v q
      have a6' := (tx_spec (tp := tp) hn a6).2.2.2.1.2
      rw [s1, Option.bind_some]
      have fH : tx_cH h (hs_put H 4 1 1 (nI v)) := tx_cH_put (f.tr s2.H) (.tail _ (.head _)) (by omega)
      have z := tx_c68 (h := hs_put H 4 1 1 (nI v)) (σ := tx_up (ab_told σ 0) 0 v) (p := tx_E n tp (tx_E n tp p)) hn hb a6' (tx_cT_H fH t) (by rw [nx_get, if_neg (by omega)]; exact s4.1) (tx_cS_up (tx_cZ_F s2 sG) (by omega) (by omega) rfl)
      have : H.1 6 0 7 = nI v := by rw [s4.2.2.2, s5]
      dsimp only
      rw [if_pos (show ¬ nI 1 = 0 by decide), this]
      exact bool_id (z.tr fH (by rw [nx_get, if_neg (by omega), s3, g10]))
theorem tx_c57 {p : Nat} (hn : n ≤ 320) (hb : ∀ q, tp q < 256) (hp : p ≤ n) (s : tx_cS σ h) (ok : tx_ok σ) (m : tx_cK n tp p h) (t : tx_cT n tp h) : tx_cO (if (σ 5).testBit 1 = true then .inl (4, tx_F n tp p) else tx_sb (ab_body n tp 1 (tx_E n tp p) (ab_told σ 1)) (fun x => ab_sign n tp x.1 x.2)) h (hf_57 h) := by
  have a6 := (tx_spec (tp := tp) hn hp).2.2.2.1.2
  refine tx_once (k := 1) (by omega) s ok m t (fun e => ?_) (fun G e f sG mG g10 => ?_)
  · have e' : hf_63 (nI 2) h = _ := e
    unfold hf_57
    rw [e', Option.bind_some]
    rfl
  · have e' : hf_63 (nI 2) h = _ := e
    have fH : tx_cH h (hs_put G 4 1 2 (nI 1)) := tx_cH_put f (.tail _ (.head _)) (by omega)
    have z := tx_c68 (h := hs_put G 4 1 2 (nI 1)) (σ := tx_up (ab_told σ 1) 1 1) (p := tx_E n tp p) hn hb a6 (tx_cT_H fH t) (by rw [nx_get, if_neg (by omega)]; exact mG.1) (tx_cS_up sG (by omega) (by omega) rfl)
    show tx_cO (ab_sign n tp (tx_E n tp p) (tx_up (ab_told σ 1) 1 1)) h _
    unfold hf_57
    rw [e', Option.bind_some]
    dsimp only
    rw [if_pos (by decide)]
    exact bool_id (z.tr fH (by rw [nx_get, if_neg (by omega), g10]))
theorem tx_c58 {p : Nat} (hn : n ≤ 320) (hb : ∀ q, tp q < 256) (hp : p ≤ n) (s : tx_cS σ h) (ok : tx_ok σ) (m : tx_cK n tp p h) (t : tx_cT n tp h) : tx_cO (if (σ 5).testBit 2 = true then .inl (4, tx_F n tp p) else tx_sb (ab_body n tp 2 (tx_E n tp p) (ab_told σ 2)) (fun x => ab_sign n tp x.1 x.2)) h (hf_58 h) := by
  have a6 := (tx_spec (tp := tp) hn hp).2.2.2.1.2
  refine tx_once (k := 2) (by omega) s ok m t (fun e => ?_) (fun G e f sG mG g10 => ?_)
  · have e' : hf_63 (nI 4) h = _ := e
    unfold hf_58 hb_58_15
    rw [e', Option.bind_some]
    rfl
  · have e' : hf_63 (nI 4) h = _ := e
    obtain ⟨r1, r2⟩ := tx_c66 (h := G) (p := tx_E n tp p) hn hb a6 (tx_cT_H f t) mG.1 sG
    show tx_cO (tx_sb (tx_sb (ab_num n tp 0 9 (tx_E n tp p)) _) _) h _
    rw [tx_sb_sb]
    have st : hf_58 h = (hf_66 G).bind (fun q3 => if ¬ q3.1 = 0 then ((hf_68 (hs_put q3.2 4 1 3 (q3.2.1 6 0 7))).bind (fun q5 => hs_ck (hs_b01 q5.1) (some (q5.1, q5.2)))) else (hb_58_15 q3.2)) := by
      unfold hf_58
      rw [e', Option.bind_some]
      rfl
    rw [st]
    refine tx_cO_sb (fun e q => ?_) (fun v q => ?_)
    · obtain ⟨H, s1, s2, s3⟩ := r1 e q
      rw [s1, Option.bind_some]
      exact tx_cO_l rfl (f.tr s2) s3
    · obtain ⟨H, s1, s2, s3, s4, ⟨s5, s6⟩, s7⟩ := r2 v q
      have a6' := (tx_spec (tp := tp) hn a6).2.2.2.1.2
      rw [s1, Option.bind_some]
      have fH : tx_cH h (hs_put H 4 1 3 (nI v)) := tx_cH_put (f.tr s2) (.tail _ (.head _)) (by omega)
      have z := tx_c68 (h := hs_put H 4 1 3 (nI v)) (σ := tx_up (tx_nd (ab_told σ 2) v) 7 v) (p := tx_E n tp (tx_E n tp p)) hn hb a6' (tx_cT_H fH t) (by rw [nx_get, if_neg (by omega)]; exact s4.1) (tx_cS_up s7 (by omega) (by omega) rfl)
      have : H.1 6 0 7 = nI v := by rw [s4.2.2.2, s5]
      dsimp only
      rw [if_pos (show ¬ nI 1 = 0 by decide), this]
      exact bool_id (z.tr fH (by rw [nx_get, if_neg (by omega), s3, g10]))
/-- water, holes -/
theorem tx_c60 {p i w : Nat} (hiw : (i = 2 ∧ w = 4) ∨ (i = 3 ∧ w = 5)) (hn : n ≤ 320) (hb : ∀ q, tp q < 256) (hp : p ≤ n) (s : tx_cS σ h) (ok : tx_ok σ) (m : tx_cK n tp p h) (t : tx_cT n tp h) : tx_cO (tx_sb (tx_sb (ab_num n tp 0 9 (tx_E n tp p)) (fun v => if (σ i).testBit v = true then .inl (4, tx_F n tp (tx_E n tp p)) else .inr (tx_E n tp (tx_E n tp p), tx_up (tx_nd σ v) i (σ i ||| 2 ^ v)))) (fun x => ab_sign n tp x.1 x.2)) h ((hf_66 h).bind (fun q1 => if ¬ q1.1 = 0 then ((hf_147 (q1.2.1 4 1 w) (q1.2.1 6 0 7) q1.2).bind (fun q3 => if q3.1 = 0 then ((hf_68 (hs_put q3.2 4 1 w ((q3.2.1 4 1 w) ||| ((nI 1) <<< ((q3.2.1 6 0 7) &&& 31))))).bind (fun q5 => hs_ck (hs_b01 q5.1) (some (q5.1, q5.2)))) else ((hf_54 (nI 4) (q3.2.1 6 0 6) q3.2).bind (fun q7 => hs_ck (hs_b01 q7.1) (some (q7.1, q7.2)))))) else (some (nI 0, q1.2)))) := by
  have a6 := (tx_spec (tp := tp) hn hp).2.2.2.1.2
  have hlc : tx_lc i = (4, 1, w) := by rcases hiw with ⟨rfl, rfl⟩ | ⟨rfl, rfl⟩ <;> rfl
  have hi : i = 2 ∨ i = 3 := hiw.imp (fun q => q.1) (fun q => q.1)
  have hlt : σ i < 1024 := by
    rcases hi with e | e
    · rw [e]; exact ok.2.2.1.1
    · rw [e]; exact ok.2.2.2.1.1
  obtain ⟨r1, r2⟩ := tx_c66 (h := h) (p := tx_E n tp p) hn hb a6 t m.1 s
  rw [tx_sb_sb]
  refine tx_cO_sb (fun e q => ?_) (fun v q => ?_)
  · obtain ⟨H, s1, s2, s3⟩ := r1 e q
    rw [s1, Option.bind_some]
    exact tx_cO_l rfl s2 s3
  · obtain ⟨H, s1, s2, s3, s4, ⟨s5, s6⟩, s7⟩ := r2 v q
    have a6' := (tx_spec (tp := tp) hn a6).2.2.2.1.2
    have e7 : H.1 6 0 7 = nI v := by rw [s4.2.2.2, s5]
    have eW : H.1 4 1 w = nI (σ i) := by
      rw [tx_cZ_g s7 (k := i) ⟨by omega, Or.inl (by omega)⟩ hlc, tx_nd_n (by omega)]
    rw [s1, Option.bind_some]
    dsimp only
    rw [if_pos (show ¬ nI 1 = 0 by decide), e7, eW, sp_147 (by omega) (by omega), Option.bind_some]
    dsimp only
    cases hbit : (σ i).testBit v with
    | true =>
      rw [if_pos rfl, if_neg (by decide), s4.2.2.1, sp_54, Option.bind_some]
      exact tx_cO_l rfl ((s2.tr (tx_cF_p tx_cF.rf).H)) tx_cX_p
    | false =>
      rw [if_neg Bool.false_ne_true, if_pos (by decide), e7, eW, nx_shl1 (by omega), nx_or]
      have fH : tx_cH h (hs_put H 4 1 w (nI (σ i ||| 2 ^ v))) := tx_cH_put s2 (.tail _ (.head _)) (by omega)
      have z := tx_c68 (h := hs_put H 4 1 w (nI (σ i ||| 2 ^ v))) (σ := tx_up (tx_nd σ v) i (σ i ||| 2 ^ v)) (p := tx_E n tp (tx_E n tp p)) hn hb a6' (tx_cT_H fH t) (by rw [nx_get, if_neg (by omega)]; exact s4.1) (tx_cS_up s7 (by omega) (by omega) hlc)
      exact bool_id (z.tr fH (by rw [nx_get, if_neg (by omega), s3]))
theorem tx_lc_s : ∀ z, z < 10 → tx_lc (30 + 3 * z) = (28, 1, z) ∧ tx_lc (31 + 3 * z) = (29, 1, z) ∧ tx_lc (32 + 3 * z) = (30, 1, z) := by decide
theorem tx_cS_sm {t v g : Nat} (h4 : σ 4 < 10) (s : tx_cS σ h) : tx_cS (tx_sm σ t v g) (add_c h 1 (σ 4) (nI t) (nI v) (nI g)) := by
  obtain ⟨l1, l2, l3⟩ := tx_lc_s (σ 4) h4
  have q1 := tx_cZ_put (i := 30 + 3 * σ 4) (v := t) (by omega) l1 s
  have q2 := tx_cZ_put (i := 31 + 3 * σ 4) (v := v) (by omega) l2 q1
  have q3 := tx_cZ_put (i := 32 + 3 * σ 4) (v := g) (by omega) l3 q2
  have q4 := tx_cZ_put (i := 4) (v := σ 4 + 1) (by omega) (show tx_lc 4 = (5, 1, 3) from rfl) q3
  have q5 := tx_cZ_o (c := 5) (o := 1) (p := 4) (v := h.1 5 1 4 + nI 1) (Or.inr ⟨rfl, rfl⟩) q4
  obtain ⟨e4, f1, f2, f3⟩ := tx_sm_e (σ := σ) (t := t) (v := v) (g := g)
  have q6 : tx_cZ (σ 4) (tx_sm σ t v g) (add_c h 1 (σ 4) (nI t) (nI v) (nI g)) := q5
  show tx_cZ (tx_sm σ t v g 4) (tx_sm σ t v g) _
  rw [e4]
  intro k hk
  by_cases c : k < 30 + 3 * σ 4 ∨ k < 30
  · exact q6 k ⟨hk.1, by have := hk.2; omega⟩
  · have hk2 := hk.2
    have : k = 30 + 3 * σ 4 ∨ k = 31 + 3 * σ 4 ∨ k = 32 + 3 * σ 4 := by omega
    unfold add_c
    rcases this with e | e | e
    · rw [e, l1, f1, nx_get, if_neg (by omega), nx_get, if_neg (by omega), nx_get, if_neg (by omega), nx_get, if_neg (by omega), nx_get, if_pos ⟨rfl, rfl, rfl⟩]
    · rw [e, l2, f2, nx_get, if_neg (by omega), nx_get, if_neg (by omega), nx_get, if_neg (by omega), nx_get, if_pos ⟨rfl, rfl, rfl⟩]
    · rw [e, l3, f3, nx_get, if_neg (by omega), nx_get, if_neg (by omega), nx_get, if_pos ⟨rfl, rfl, rfl⟩]
theorem tx_c62 {p : Nat} (hn : n ≤ 320) (hb : ∀ q, tp q < 256) (hp : p ≤ n) (s : tx_cS σ h) (ok : tx_ok σ) (m : tx_cK n tp p h) (t : tx_cT n tp h) : tx_cO (if 10 ≤ σ 4 then .inl (5, tx_F n tp p) else tx_sb (ab_body n tp 6 (tx_E n tp p) σ) (fun x => ab_sign n tp x.1 x.2)) h (hf_62 h) := by
  have a6 := (tx_spec (tp := tp) hn hp).2.2.2.1.2
  have b6 := (tx_spec (tp := tp) hn a6).2.2.2.1.2
  have c6 := (tx_spec (tp := tp) hn b6).2.2.2.1.2
  have e3 : h.1 5 1 3 = nI (σ 4) := tx_cZ_g s (k := 4) ⟨by omega, Or.inl (by omega)⟩ rfl
  have h4 := ok.2.2.2.2.2.2.2.1
  unfold hf_62
  rw [e3]
  by_cases c : 10 ≤ σ 4
  · rw [if_pos c, if_neg (nI_nlt c (by omega)), m.2.2.1, sp_54, Option.bind_some]
    exact tx_cO_l rfl (tx_cF_p tx_cF.rf).H tx_cX_p
  · rw [if_neg c, if_pos (nI_lt (by omega) (by omega))]
    obtain ⟨r1, r2⟩ := tx_c64 (h := h) (p := tx_E n tp p) (lo := 0) (hi := 5) hn hb (by omega) (by omega) a6 t m.1
    show tx_cO (tx_sb (tx_sb (ab_num n tp 0 5 (tx_E n tp p)) _) _) h _
    rw [tx_sb_sb]
    refine tx_cO_sb (fun e q => ?_) (fun v q => ?_)
    · obtain ⟨H, s1, s2, s3⟩ := r1 e q
      rw [s1, Option.bind_some]
      exact tx_cO_l rfl s2.H s3
    · obtain ⟨H, s1, s2, s3, s4, s5⟩ := r2 v q
      have sH : tx_cS σ H := tx_cZ_F s2 s
      have e7 : H.1 6 0 7 = nI v := by rw [s4.2.2.2, s5]
      rw [s1, Option.bind_some]
      dsimp only
      rw [if_pos (show ¬ nI 1 = 0 by decide)]
      obtain ⟨r3, r4⟩ := tx_c66 (h := H) (p := tx_E n tp (tx_E n tp p)) hn hb b6 (tx_cT_H s2.H t) s4.1 sH
      rw [tx_sb_sb]
      refine tx_cO_sb (fun e q => ?_) (fun v2 q2 => ?_)
      · obtain ⟨H2, u1, u2, u3⟩ := r3 e q
        rw [u1, Option.bind_some]
        exact tx_cO_l rfl (s2.H.tr u2) u3
      · obtain ⟨H2, u1, u2, u3, u4, ⟨u5, u6⟩, u7⟩ := r4 v2 q2
        have e7' : H2.1 6 0 7 = nI v2 := by rw [u4.2.2.2, u5]
        rw [u1, Option.bind_some]
        dsimp only
        rw [if_pos (show ¬ nI 1 = 0 by decide)]
        obtain ⟨r5, r6⟩ := tx_c64 (h := H2) (p := tx_E n tp (tx_E n tp (tx_E n tp p))) (lo := 0) (hi := 18) hn hb (by omega) (by omega) c6 (tx_cT_H (s2.H.tr u2) t) u4.1
        rw [tx_sb_sb]
        refine tx_cO_sb (fun e q => ?_) (fun v3 q3 => ?_)
        · obtain ⟨H3, w1, w2, w3⟩ := r5 e q
          rw [w1, Option.bind_some]
          exact tx_cO_l rfl ((s2.H.tr u2).tr w2.H) w3
        · obtain ⟨H3, w1, w2, w3, w4, w5⟩ := r6 v3 q3
          have d6 := (tx_spec (tp := tp) hn c6).2.2.2.1.2
          have e7'' : H3.1 6 0 7 = nI v3 := by rw [w4.2.2.2, w5]
          have sH3 : tx_cS (tx_nd σ v2) H3 := tx_cZ_F w2 u7
          have n4 : tx_nd σ v2 4 = σ 4 := tx_nd_n (by omega)
          have e3' : H3.1 5 1 3 = nI (σ 4) := by rw [tx_cZ_g sH3 (k := 4) ⟨by omega, Or.inl (by omega)⟩ rfl, n4]
          have sA : tx_cS (tx_sm (tx_nd σ v2) v v2 v3) (add_c H3 1 (σ 4) (nI v) (nI v2) (nI v3)) := by
            have := tx_cS_sm (σ := tx_nd σ v2) (t := v) (v := v2) (g := v3) (h := H3) (by rw [n4]; omega) sH3
            rw [n4] at this
            exact this
          have fA : tx_cH h (add_c H3 1 (σ 4) (nI v) (nI v2) (nI v3)) := by
            have f3 := (s2.H.tr u2).tr w2.H
            unfold add_c
            exact tx_cH_put (tx_cH_put (tx_cH_put (tx_cH_put (tx_cH_put f3 (by unfold tx_cL; simp) (by omega)) (by unfold tx_cL; simp) (by omega)) (by unfold tx_cL; simp) (by omega)) (by unfold tx_cL; simp) (by omega)) (by unfold tx_cL; simp) (by omega)
          have a6x : ∀ x, (add_c H3 1 (σ 4) (nI v) (nI v2) (nI v3)).1 6 0 x = H3.1 6 0 x := fun x => by
            unfold add_c
            rw [nx_get, if_neg (by omega), nx_get, if_neg (by omega), nx_get, if_neg (by omega), nx_get, if_neg (by omega), nx_get, if_neg (by omega)]
          have z := tx_c68 (h := add_c H3 1 (σ 4) (nI v) (nI v2) (nI v3)) (σ := tx_sm (tx_nd σ v2) v v2 v3) (p := tx_E n tp (tx_E n tp (tx_E n tp (tx_E n tp p)))) hn hb d6 (tx_cT_H fA t) (by rw [a6x]; exact w4.1) sA
          rw [w1, Option.bind_some]
          dsimp only
          rw [if_neg (show ¬ nI 1 = 0 by decide), e7, e7', e7'', sp_46 e3' (by omega), if_pos (by omega), Option.bind_some]
          dsimp only
          rw [if_neg (show ¬ nI 1 = 0 by decide)]
          have z' := z.tr fA (by rw [a6x, w3, u3, s3])
          refine ⟨fun e q => ?_, fun x q => ?_⟩
          · obtain ⟨K, k1, k2⟩ := z'.1 e q
            exact ⟨K, by rw [k1]; rfl, k2⟩
          · obtain ⟨K, k1, k2⟩ := z'.2 x q
            exact ⟨K, by rw [k1]; rfl, k2⟩
end TL
