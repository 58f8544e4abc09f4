/-! Frames: which kinds and instances a function writes; by gen7.py. -/
theorem hz_g25 {self : Int32 → Int32 → Int32 → Int32 → hs_H → Option (hs_H)} {a1 : Int32} {a2 : Int32} {a3 : Int32} {a4 : Int32} {h : hs_H} {r : hs_H} (hself : ∀ a1 a2 a3 a4 h r, self a1 a2 a3 a4 h = some r → hs_fr [(2, some 0)] h r) (e : hg_25 self a1 a2 a3 a4 h = some r) : hs_fr [(2, some 0)] h r := by
  unfold hg_25 at e
  rcases hz_if e with e | e
  · have fk := hz_b25_13 hself e
    exact (hs_fr.rf (K := [(2, some 0)]) (h := h)).tr fk
  · rcases hz_if e with e | e
    · obtain ⟨q4, eq4, e⟩ := hs_bind_some e
      have fq4 := (hs_fr.rf (K := [(2, some 0)]) (h := h)).tr ((hz_38 eq4).sub hs_sub_nil)
      obtain ⟨q5, eq5, e⟩ := hs_bind_some e
      have fq5 := fq4.tr ((hz_39 eq5).sub hs_sub_nil)
      have fl := hz_lp6 (f := fun k s => hb_25_51 self k s.1 s.2.1 s.2.2.1 s.2.2.2.1 s.2.2.2.2.1 s.2.2.2.2.2) (G := fun r => r) (fun k hk y1 y2 y3 y4 y5 h r e => hz_b25_51 hk hself e) e
      exact fq5.tr fl
    · have fk := hz_b25_13 hself e
      exact (hs_fr.rf (K := [(2, some 0)]) (h := h)).tr fk
theorem hz_25 : ∀ (m : Nat) {a1 : Int32} {a2 : Int32} {a3 : Int32} {a4 : Int32} {h : hs_H} {r : hs_H}, hf_25 m a1 a2 a3 a4 h = some r → hs_fr [(2, some 0)] h r := by
  intro m
  induction m with
  | zero => intro a1 a2 a3 a4 h r e; cases e
  | succ m ih => intro a1 a2 a3 a4 h r e; exact hz_g25 (fun a1 a2 a3 a4 h r e => ih e) e
theorem hz_23 {a1 : Int32} {a2 : Int32} {a3 : Int32} {h : hs_H} {r : hs_H} (e : hf_23 a1 a2 a3 h = some r) : hs_fr [(2, some 0)] h r := by
  unfold hf_23 at e
  obtain ⟨q1, eq1, e⟩ := hs_bind_some e
  have fq1 := (((((hs_fr.rf (K := [(2, some 0)]) (h := h)).put (.inl (.head _))).put (.inl (.head _))).put (.inl (.head _))).put (.inl (.head _))).tr ((hz_25 _ eq1).sub (hs_sub_cons (.inl (.head _)) hs_sub_nil))
  obtain rfl := Option.some.inj e
  exact fq1
theorem hz_24 {a1 : Int32} {h : hs_H} {r : Int32 × hs_H} (e : hf_24 a1 h = some r) : hs_fr [] h r.2 := by
  unfold hf_24 at e
  obtain rfl := Option.some.inj e
  exact (hs_fr.rf (K := []) (h := h))
theorem hz_b125_29 {h : hs_H} {r : Int32 × hs_H} (e : hb_125_29 h = some r) : hs_fr [(2, some 0)] h r.2 := by
  unfold hb_125_29 at e
  obtain rfl := Option.some.inj e
  exact (hs_fr.rf (K := [(2, some 0)]) (h := h))
theorem hz_b125_81 {s0 : Int32} {h : hs_H} {r : Int32 × hs_H} (e : hb_125_81 s0 h = some r) : hs_fr [(2, some 0)] h r.2 := by
  unfold hb_125_81 at e
  obtain rfl := Option.some.inj e
  exact (hs_fr.rf (K := [(2, some 0)]) (h := h))
theorem hz_b125_31 {x1 : Int32} {x2 : Int32} {x3 : Int32} {x4 : Int32} {h : hs_H} {r : Int32 × hs_H} (e : hb_125_31 x1 x2 x3 x4 h = some r) : hs_fr [(2, some 0)] h r.2 := by
  unfold hb_125_31 at e
  obtain ⟨q4, eq4, e⟩ := hs_bind_some e
  have fq4 := (hs_fr.rf (K := [(2, some 0)]) (h := h)).tr ((hz_23 eq4).sub (hs_sub_cons (.inl (.head _)) hs_sub_nil))
  rcases hz_if e with e | e
  · rcases hz_if e with e | e
    · have fk := hz_b125_81  e
      exact fq4.tr fk
    · obtain ⟨q7, eq7, e⟩ := hs_bind_some e
      have fq7 := fq4.tr ((hz_24 eq7).sub hs_sub_nil)
      have fk := hz_b125_81  e
      exact fq7.tr fk
  · obtain rfl := Option.some.inj e
    exact fq4
theorem hz_125 {a1 : Int32} {a2 : Int32} {a3 : Int32} {a4 : Int32} {h : hs_H} {r : Int32 × hs_H} (e : hf_125 a1 a2 a3 a4 h = some r) : hs_fr [(2, some 0)] h r.2 := by
  unfold hf_125 at e
  obtain ⟨q1, eq1, e⟩ := hs_bind_some e
  have fq1 := (hs_fr.rf (K := [(2, some 0)]) (h := h)).tr ((hz_127 eq1).sub hs_sub_nil)
  rcases hz_if e with e | e
  · have fk := hz_b125_29  e
    exact fq1.tr fk
  · rcases hz_if e with e | e
    · have fk := hz_b125_31  e
      exact fq1.tr fk
    · obtain ⟨q8, eq8, e⟩ := hs_bind_some e
      have fq8 := fq1.tr ((hz_146 eq8).sub hs_sub_nil)
      rcases hz_if e with e | e
      · have fk := hz_b125_31  e
        exact fq8.tr fk
      · have fk := hz_b125_29  e
        exact fq8.tr fk
theorem hz_b126_21 {h : hs_H} {r : Int32 × hs_H} (e : hb_126_21 h = some r) : hs_fr [(2, some 0)] h r.2 := by
  unfold hb_126_21 at e
  obtain rfl := Option.some.inj e
  exact (hs_fr.rf (K := [(2, some 0)]) (h := h))
theorem hz_b126_120 {s0 : Int32} {h : hs_H} {r : Int32 × hs_H} (e : hb_126_120 s0 h = some r) : hs_fr [(2, some 0)] h r.2 := by
  unfold hb_126_120 at e
  obtain rfl := Option.some.inj e
  exact (hs_fr.rf (K := [(2, some 0)]) (h := h))
theorem hz_b126_102 {k34 : Int32 × Int32 × Int32 × Int32 × Int32 × Int32 × Int32 × hs_H → Option (Int32 × hs_H)} {x1 : Int32} {x2 : Int32} {x3 : Int32} {x4 : Int32} {x5 : Int32} {x6 : Int32} {x7 : Int32} {h : hs_H} {r : Int32 × hs_H} (hk34 : ∀ y1 y2 y3 y4 y5 y6 y7 h r, k34 (y1, y2, y3, y4, y5, y6, y7, h) = some r → hs_fr [(2, some 0)] h r.2) (e : hb_126_102 k34 x1 x2 x3 x4 x5 x6 x7 h = some r) : hs_fr [(2, some 0)] h r.2 := by
  unfold hb_126_102 at e
  have fk := hk34 _ _ _ _ _ _ _ _ _ e
  exact (hs_fr.rf (K := [(2, some 0)]) (h := h)).tr fk
theorem hz_b126_89 {k34 : Int32 × Int32 × Int32 × Int32 × Int32 × Int32 × Int32 × hs_H → Option (Int32 × hs_H)} {x1 : Int32} {x2 : Int32} {x3 : Int32} {x4 : Int32} {x7 : Int32} {h : hs_H} {r : Int32 × hs_H} (hk34 : ∀ y1 y2 y3 y4 y5 y6 y7 h r, k34 (y1, y2, y3, y4, y5, y6, y7, h) = some r → hs_fr [(2, some 0)] h r.2) (e : hb_126_89 k34 x1 x2 x3 x4 x7 h = some r) : hs_fr [(2, some 0)] h r.2 := by
  unfold hb_126_89 at e
  have fk := hz_b126_102 hk34 e
  exact (hs_fr.rf (K := [(2, some 0)]) (h := h)).tr fk
theorem hz_b126_34 {k34 : Int32 × Int32 × Int32 × Int32 × Int32 × Int32 × Int32 × hs_H → Option (Int32 × hs_H)} {x1 : Int32} {x2 : Int32} {x3 : Int32} {x4 : Int32} {x5 : Int32} {x6 : Int32} {x7 : Int32} {h : hs_H} {r : Int32 × hs_H} (hk34 : ∀ y1 y2 y3 y4 y5 y6 y7 h r, k34 (y1, y2, y3, y4, y5, y6, y7, h) = some r → hs_fr [(2, some 0)] h r.2) (e : hb_126_34 k34 x1 x2 x3 x4 x5 x6 x7 h = some r) : hs_fr [(2, some 0)] h r.2 := by
  unfold hb_126_34 at e
  rcases hz_if e with e | e
  · rcases hz_if e with e | e
    · have fk := hz_b126_120  e
      exact (hs_fr.rf (K := [(2, some 0)]) (h := h)).tr fk
    · have fk := hz_b126_120  e
      exact (hs_fr.rf (K := [(2, some 0)]) (h := h)).tr fk
  · obtain ⟨q7, eq7, e⟩ := hs_bind_some e
    have fq7 := (hs_fr.rf (K := [(2, some 0)]) (h := h)).tr ((hz_147 eq7).sub hs_sub_nil)
    rcases hz_if e with e | e
    · have fk := hz_b126_102 hk34 e
      exact fq7.tr fk
    · obtain ⟨q9, eq9, e⟩ := hs_bind_some e
      have fq9 := fq7.tr ((hz_23 eq9).sub (hs_sub_cons (.inl (.head _)) hs_sub_nil))
      rcases hz_if e with e | e
      · have fk := hz_b126_89 hk34 e
        exact fq9.tr fk
      · rcases hz_if e with e | e
        · have fk := hz_b126_102 hk34 e
          exact fq9.tr fk
        · have fk := hz_b126_89 hk34 e
          exact fq9.tr fk
theorem hz_126 {a1 : Int32} {a2 : Int32} {a3 : Int32} {a4 : Int32} {h : hs_H} {r : Int32 × hs_H} (e : hf_126 a1 a2 a3 a4 h = some r) : hs_fr [(2, some 0)] h r.2 := by
  unfold hf_126 at e
  obtain ⟨q1, eq1, e⟩ := hs_bind_some e
  have fq1 := (hs_fr.rf (K := [(2, some 0)]) (h := h)).tr ((hz_127 eq1).sub hs_sub_nil)
  rcases hz_if e with e | e
  · have fk := hz_b126_21  e
    exact fq1.tr fk
  · rcases hz_if e with e | e
    · have fk := hz_b126_21  e
      exact fq1.tr fk
    · rcases hz_if e with e | e
      · have fl := hz_lp8 (f := fun k s => hb_126_34 k s.1 s.2.1 s.2.2.1 s.2.2.2.1 s.2.2.2.2.1 s.2.2.2.2.2.1 s.2.2.2.2.2.2.1 s.2.2.2.2.2.2.2) (G := fun r => r.2) (fun k hk y1 y2 y3 y4 y5 y6 y7 h r e => hz_b126_34 hk e) e
        exact fq1.tr fl
      · have fk := hz_b126_21  e
        exact fq1.tr fk
theorem hz_b1_59 {k7 : Int32 × hs_H → Option (hs_H)} {x1 : Int32} {h : hs_H} {r : hs_H} (hk7 : ∀ y1 h r, k7 (y1, h) = some r → hs_fr [(0, some 0), (23, some 0)] h r) (e : hb_1_59 k7 x1 h = some r) : hs_fr [(0, some 0), (23, some 0)] h r := by
  unfold hb_1_59 at e
  have fk := hk7 _ _ _ e
  exact (hs_fr.rf (K := [(0, some 0), (23, some 0)]) (h := h)).tr fk
theorem hz_b1_7 {k7 : Int32 × hs_H → Option (hs_H)} {x1 : Int32} {h : hs_H} {r : hs_H} (hk7 : ∀ y1 h r, k7 (y1, h) = some r → hs_fr [(0, some 0), (23, some 0)] h r) (e : hb_1_7 k7 x1 h = some r) : hs_fr [(0, some 0), (23, some 0)] h r := by
  unfold hb_1_7 at e
  obtain ⟨q1, eq1, e⟩ := hs_bind_some e
  have fq1 := (hs_fr.rf (K := [(0, some 0), (23, some 0)]) (h := h)).tr ((hz_31 eq1).sub hs_sub_nil)
  rcases hz_if e with e | e
  · obtain rfl := Option.some.inj e
    exact fq1
  · obtain ⟨q3, eq3, e⟩ := hs_bind_some e
    have fq3 := fq1.tr ((hz_240 eq3).sub hs_sub_nil)
    rcases hz_if e with e | e
    · have fk := hz_b1_59 hk7 e
      exact fq3.tr fk
    · rcases hz_if e with e | e
      · have fk := hz_b1_59 hk7 e
        exact fq3.tr fk
      · replace e := (hs_ck_some e).2
        have fk := hz_b1_59 hk7 e
        exact ((fq3.put (.inl (.tail _ (.head _)))).put (.inl (.head _))).tr fk
theorem hz_1 {h : hs_H} {r : hs_H} (e : hf_1 h = some r) : hs_fr [(0, some 0), (23, some 0)] h r := by
  unfold hf_1 at e
  have fl := hz_lp2 (f := fun k s => hb_1_7 k s.1 s.2) (G := fun r => r) (fun k hk y1 h r e => hz_b1_7 hk e) e
  exact ((hs_fr.rf (K := [(0, some 0), (23, some 0)]) (h := h)).put (.inl (.head _))).tr fl
theorem hz_b40_25 {o : Nat} {s0 : Int32} {h : hs_H} {r : Int32 × hs_H} (e : hb_40_25 o s0 h = some r) : hs_fr [] h r.2 := by
  unfold hb_40_25 at e
  obtain rfl := Option.some.inj e
  exact (hs_fr.rf (K := []) (h := h))
theorem hz_b40_18 {o : Nat} {x2 : Int32} {h : hs_H} {r : Int32 × hs_H} (e : hb_40_18 o x2 h = some r) : hs_fr [] h r.2 := by
  unfold hb_40_18 at e
  have fk := hz_b40_25  e
  exact (hs_fr.rf (K := []) (h := h)).tr fk
theorem hz_40 {o : Nat} {a1 : Int32} {h : hs_H} {r : Int32 × hs_H} (e : hf_40 o a1 h = some r) : hs_fr [] h r.2 := by
  unfold hf_40 at e
  obtain ⟨q1, eq1, e⟩ := hs_bind_some e
  have fq1 := (hs_fr.rf (K := []) (h := h)).tr ((hz_38 eq1).sub hs_sub_nil)
  rcases hz_if e with e | e
  · have fk := hz_b40_18  e
    exact fq1.tr fk
  · obtain ⟨q3, eq3, e⟩ := hs_bind_some e
    have fq3 := fq1.tr ((hz_29 eq3).sub hs_sub_nil)
    rcases hz_if e with e | e
    · have fk := hz_b40_25  e
      exact fq3.tr fk
    · have fk := hz_b40_18  e
      exact fq3.tr fk
theorem hz_b2_70 {h : hs_H} {r : hs_H} (e : hb_2_70 h = some r) : hs_fr [(20, some 0), (21, some 0)] h r := by
  unfold hb_2_70 at e
  obtain rfl := Option.some.inj e
  exact (hs_fr.rf (K := [(20, some 0), (21, some 0)]) (h := h))
theorem hz_b2_9 {k9 : Int32 × hs_H → Option (hs_H)} {x1 : Int32} {h : hs_H} {r : hs_H} (hk9 : ∀ y1 h r, k9 (y1, h) = some r → hs_fr [(20, some 0), (21, some 0)] h r) (e : hb_2_9 k9 x1 h = some r) : hs_fr [(20, some 0), (21, some 0)] h r := by
  unfold hb_2_9 at e
  obtain ⟨q2, eq2, e⟩ := hs_bind_some e
  have fq2 := (hs_fr.rf (K := [(20, some 0), (21, some 0)]) (h := h)).tr ((hz_31 eq2).sub hs_sub_nil)
  rcases hz_if e with e | e
  · have fk := hz_b2_70  e
    exact fq2.tr fk
  · rcases hz_if e with e | e
    · have fk := hz_b2_70  e
      exact fq2.tr fk
    · replace e := (hs_ck_some e).2
      obtain ⟨q6, eq6, e⟩ := hs_bind_some e
      have fq6 := fq2.tr ((hz_148 eq6).sub hs_sub_nil)
      obtain ⟨q7, eq7, e⟩ := hs_bind_some e
      have fq7 := fq6.tr ((hz_40 eq7).sub hs_sub_nil)
      replace e := (hs_ck_some e).2
      replace e := (hs_ck_some e).2
      have fk := hk9 _ _ _ e
      exact ((fq7.put (.inl (.head _))).put (.inl (.tail _ (.head _)))).tr fk
theorem hz_2 {h : hs_H} {r : hs_H} (e : hf_2 h = some r) : hs_fr [(20, some 0), (21, some 0)] h r := by
  unfold hf_2 at e
  replace e := (hs_ck_some e).2
  have fl := hz_lp2 (f := fun k s => hb_2_9 k s.1 s.2) (G := fun r => r) (fun k hk y1 h r e => hz_b2_9 hk e) e
  exact ((hs_fr.rf (K := [(20, some 0), (21, some 0)]) (h := h)).put (.inl (.head _))).tr fl
theorem hz_b5_21 {s0 : Int32} {h : hs_H} {r : Int32 × hs_H} (e : hb_5_21 s0 h = some r) : hs_fr [] h r.2 := by
  unfold hb_5_21 at e
  obtain rfl := Option.some.inj e
  exact (hs_fr.rf (K := []) (h := h))
theorem hz_b5_20 {h : hs_H} {r : Int32 × hs_H} (e : hb_5_20 h = some r) : hs_fr [] h r.2 := by
  unfold hb_5_20 at e
  have fk := hz_b5_21  e
  exact (hs_fr.rf (K := []) (h := h)).tr fk
theorem hz_5 {a1 : Int32} {h : hs_H} {r : Int32 × hs_H} (e : hf_5 a1 h = some r) : hs_fr [] h r.2 := by
  unfold hf_5 at e
  rcases hz_if e with e | e
  · have fk := hz_b5_20  e
    exact (hs_fr.rf (K := []) (h := h)).tr fk
  · rcases hz_if e with e | e
    · have fk := hz_b5_20  e
      exact (hs_fr.rf (K := []) (h := h)).tr fk
    · replace e := (hs_ck_some e).2
      have fk := hz_b5_21  e
      exact (hs_fr.rf (K := []) (h := h)).tr fk
theorem hz_b4_107 {x3 : Int32} {h : hs_H} {r : Int32 × hs_H} (e : hb_4_107 x3 h = some r) : hs_fr [(21, some 0), (22, some 0)] h r.2 := by
  unfold hb_4_107 at e
  obtain rfl := Option.some.inj e
  exact (hs_fr.rf (K := [(21, some 0), (22, some 0)]) (h := h))
theorem hz_b4_101 {k5 : Int32 × Int32 × Int32 × hs_H → Option (Int32 × hs_H)} {x1 : Int32} {x3 : Int32} {x4 : Int32} {h : hs_H} {r : Int32 × hs_H} (hk5 : ∀ y1 y2 y3 h r, k5 (y1, y2, y3, h) = some r → hs_fr [(21, some 0), (22, some 0)] h r.2) (e : hb_4_101 k5 x1 x3 x4 h = some r) : hs_fr [(21, some 0), (22, some 0)] h r.2 := by
  unfold hb_4_101 at e
  have fk := hk5 _ _ _ _ _ e
  exact (hs_fr.rf (K := [(21, some 0), (22, some 0)]) (h := h)).tr fk
theorem hz_b4_5 {k5 : Int32 × Int32 × Int32 × hs_H → Option (Int32 × hs_H)} {x1 : Int32} {x3 : Int32} {x4 : Int32} {h : hs_H} {r : Int32 × hs_H} (hk5 : ∀ y1 y2 y3 h r, k5 (y1, y2, y3, h) = some r → hs_fr [(21, some 0), (22, some 0)] h r.2) (e : hb_4_5 k5 x1 x3 x4 h = some r) : hs_fr [(21, some 0), (22, some 0)] h r.2 := by
  unfold hb_4_5 at e
  rcases hz_if e with e | e
  · have fk := hz_b4_107  e
    exact (hs_fr.rf (K := [(21, some 0), (22, some 0)]) (h := h)).tr fk
  · rcases hz_if e with e | e
    · have fk := hz_b4_107  e
      exact (hs_fr.rf (K := [(21, some 0), (22, some 0)]) (h := h)).tr fk
    · replace e := (hs_ck_some e).2
      obtain ⟨q4, eq4, e⟩ := hs_bind_some e
      have fq4 := (hs_fr.rf (K := [(21, some 0), (22, some 0)]) (h := h)).tr ((hz_5 eq4).sub hs_sub_nil)
      rcases hz_if e with e | e
      · have fk := hz_b4_101 hk5 e
        exact fq4.tr fk
      · rcases hz_if e with e | e
        · have fk := hz_b4_101 hk5 e
          exact fq4.tr fk
        · replace e := (hs_ck_some e).2
          rcases hz_if e with e | e
          · have fk := hz_b4_101 hk5 e
            exact fq4.tr fk
          · rcases hz_if e with e | e
            · have fk := hz_b4_101 hk5 e
              exact fq4.tr fk
            · replace e := (hs_ck_some e).2
              replace e := (hs_ck_some e).2
              replace e := (hs_ck_some e).2
              have fk := hz_b4_101 hk5 e
              exact ((fq4.put (.inl (.head _))).put (.inl (.tail _ (.head _)))).tr fk
theorem hz_4 {a1 : Int32} {a2 : Int32} {h : hs_H} {r : Int32 × hs_H} (e : hf_4 a1 a2 h = some r) : hs_fr [(21, some 0), (22, some 0)] h r.2 := by
  unfold hf_4 at e
  have fl := hz_lp4 (f := fun k s => hb_4_5 k s.1 s.2.1 s.2.2.1 s.2.2.2) (G := fun r => r.2) (fun k hk y1 y2 y3 h r e => hz_b4_5 hk e) e
  exact (hs_fr.rf (K := [(21, some 0), (22, some 0)]) (h := h)).tr fl
theorem hz_b6_21 {s0 : Int32} {h : hs_H} {r : Int32 × hs_H} (e : hb_6_21 s0 h = some r) : hs_fr [] h r.2 := by
  unfold hb_6_21 at e
  obtain rfl := Option.some.inj e
  exact (hs_fr.rf (K := []) (h := h))
theorem hz_b6_20 {h : hs_H} {r : Int32 × hs_H} (e : hb_6_20 h = some r) : hs_fr [] h r.2 := by
  unfold hb_6_20 at e
  have fk := hz_b6_21  e
  exact (hs_fr.rf (K := []) (h := h)).tr fk
theorem hz_6 {a1 : Int32} {h : hs_H} {r : Int32 × hs_H} (e : hf_6 a1 h = some r) : hs_fr [] h r.2 := by
  unfold hf_6 at e
  rcases hz_if e with e | e
  · have fk := hz_b6_20  e
    exact (hs_fr.rf (K := []) (h := h)).tr fk
  · rcases hz_if e with e | e
    · have fk := hz_b6_20  e
      exact (hs_fr.rf (K := []) (h := h)).tr fk
    · replace e := (hs_ck_some e).2
      have fk := hz_b6_21  e
      exact (hs_fr.rf (K := []) (h := h)).tr fk
theorem hz_b8_35 {x2 : Int32} {h : hs_H} {r : Int32 × hs_H} (e : hb_8_35 x2 h = some r) : hs_fr [] h r.2 := by
  unfold hb_8_35 at e
  obtain rfl := Option.some.inj e
  exact (hs_fr.rf (K := []) (h := h))
theorem hz_b8_4 {k4 : Int32 × Int32 × hs_H → Option (Int32 × hs_H)} {x2 : Int32} {x3 : Int32} {h : hs_H} {r : Int32 × hs_H} (hk4 : ∀ y1 y2 h r, k4 (y1, y2, h) = some r → hs_fr [] h r.2) (e : hb_8_4 k4 x2 x3 h = some r) : hs_fr [] h r.2 := by
  unfold hb_8_4 at e
  rcases hz_if e with e | e
  · have fk := hz_b8_35  e
    exact (hs_fr.rf (K := []) (h := h)).tr fk
  · obtain ⟨q2, eq2, e⟩ := hs_bind_some e
    have fq2 := (hs_fr.rf (K := []) (h := h)).tr ((hz_6 eq2).sub hs_sub_nil)
    rcases hz_if e with e | e
    · have fk := hz_b8_35  e
      exact fq2.tr fk
    · obtain ⟨q4, eq4, e⟩ := hs_bind_some e
      have fq4 := fq2.tr ((hz_6 eq4).sub hs_sub_nil)
      have fk := hk4 _ _ _ _ e
      exact fq4.tr fk
theorem hz_8 {a1 : Int32} {h : hs_H} {r : Int32 × hs_H} (e : hf_8 a1 h = some r) : hs_fr [] h r.2 := by
  unfold hf_8 at e
  have fl := hz_lp3 (f := fun k s => hb_8_4 k s.1 s.2.1 s.2.2) (G := fun r => r.2) (fun k hk y1 y2 h r e => hz_b8_4 hk e) e
  exact (hs_fr.rf (K := []) (h := h)).tr fl
theorem hz_b3_99 {h : hs_H} {r : hs_H} (e : hb_3_99 h = some r) : hs_fr [(0, some 0), (21, some 0), (22, some 0)] h r := by
  unfold hb_3_99 at e
  obtain rfl := Option.some.inj e
  exact (hs_fr.rf (K := [(0, some 0), (21, some 0), (22, some 0)]) (h := h))
theorem hz_b3_36 {k36 : Int32 × Int32 × hs_H → Option (hs_H)} {x2 : Int32} {x3 : Int32} {h : hs_H} {r : hs_H} (hk36 : ∀ y1 y2 h r, k36 (y1, y2, h) = some r → hs_fr [(0, some 0), (21, some 0), (22, some 0)] h r) (e : hb_3_36 k36 x2 x3 h = some r) : hs_fr [(0, some 0), (21, some 0), (22, some 0)] h r := by
  unfold hb_3_36 at e
  rcases hz_if e with e | e
  · have fk := hz_b3_99  e
    exact (hs_fr.rf (K := [(0, some 0), (21, some 0), (22, some 0)]) (h := h)).tr fk
  · rcases hz_if e with e | e
    · have fk := hz_b3_99  e
      exact (hs_fr.rf (K := [(0, some 0), (21, some 0), (22, some 0)]) (h := h)).tr fk
    · replace e := (hs_ck_some e).2
      obtain ⟨q5, eq5, e⟩ := hs_bind_some e
      have fq5 := (hs_fr.rf (K := [(0, some 0), (21, some 0), (22, some 0)]) (h := h)).tr ((hz_240 eq5).sub hs_sub_nil)
      rcases hz_if e with e | e
      · obtain ⟨q7, eq7, e⟩ := hs_bind_some e
        have fq7 := fq5.tr ((hz_4 eq7).sub (hs_sub_cons (.inl (.tail _ (.head _))) (hs_sub_cons (.inl (.tail _ (.tail _ (.head _)))) hs_sub_nil)))
        have fk := hk36 _ _ _ _ e
        exact fq7.tr fk
      · obtain ⟨q8, eq8, e⟩ := hs_bind_some e
        have fq8 := (fq5.put (.inl (.head _))).tr ((hz_8 eq8).sub hs_sub_nil)
        obtain rfl := Option.some.inj e
        exact (fq8.put (.inl (.head _)))
theorem hz_b3_34 {x2 : Int32} {h : hs_H} {r : hs_H} (e : hb_3_34 x2 h = some r) : hs_fr [(0, some 0), (21, some 0), (22, some 0)] h r := by
  unfold hb_3_34 at e
  have fl := hz_lp3 (f := fun k s => hb_3_36 k s.1 s.2.1 s.2.2) (G := fun r => r) (fun k hk y1 y2 h r e => hz_b3_36 hk e) e
  exact (hs_fr.rf (K := [(0, some 0), (21, some 0), (22, some 0)]) (h := h)).tr fl
theorem hz_3 {a1 : Int32} {h : hs_H} {r : hs_H} (e : hf_3 a1 h = some r) : hs_fr [(0, some 0), (21, some 0), (22, some 0)] h r := by
  unfold hf_3 at e
  rcases hz_if e with e | e
  · have fk := hz_b3_34  e
    exact ((hs_fr.rf (K := [(0, some 0), (21, some 0), (22, some 0)]) (h := h)).put (.inl (.head _))).tr fk
  · rcases hz_if e with e | e
    · have fk := hz_b3_34  e
      exact ((hs_fr.rf (K := [(0, some 0), (21, some 0), (22, some 0)]) (h := h)).put (.inl (.head _))).tr fk
    · replace e := (hs_ck_some e).2
      replace e := (hs_ck_some e).2
      have fk := hz_b3_34  e
      exact ((((hs_fr.rf (K := [(0, some 0), (21, some 0), (22, some 0)]) (h := h)).put (.inl (.head _))).put (.inl (.tail _ (.tail _ (.head _))))).put (.inl (.tail _ (.head _)))).tr fk
theorem hz_b0_79 {h : hs_H} {r : hs_H} (e : hb_0_79 h = some r) : hs_fr [(0, some 0), (20, some 0), (21, some 0), (22, some 0), (23, some 0)] h r := by
  unfold hb_0_79 at e
  obtain rfl := Option.some.inj e
  exact (hs_fr.rf (K := [(0, some 0), (20, some 0), (21, some 0), (22, some 0), (23, some 0)]) (h := h))
theorem hz_b0_30 {x1 : Int32} {x2 : Int32} {h : hs_H} {r : hs_H} (e : hb_0_30 x1 x2 h = some r) : hs_fr [(0, some 0), (20, some 0), (21, some 0), (22, some 0), (23, some 0)] h r := by
  unfold hb_0_30 at e
  obtain ⟨q2, eq2, e⟩ := hs_bind_some e
  have fq2 := ((((hs_fr.rf (K := [(0, some 0), (20, some 0), (21, some 0), (22, some 0), (23, some 0)]) (h := h)).put (.inl (.head _))).put (.inl (.head _))).put (.inl (.head _))).tr ((hz_243 eq2).sub hs_sub_nil)
  obtain ⟨q3, eq3, e⟩ := hs_bind_some e
  have fq3 := (fq2.put (.inl (.head _))).tr ((hz_1 eq3).sub (hs_sub_cons (.inl (.head _)) (hs_sub_cons (.inl (.tail _ (.tail _ (.tail _ (.tail _ (.head _)))))) hs_sub_nil)))
  obtain ⟨q4, eq4, e⟩ := hs_bind_some e
  have fq4 := fq3.tr ((hz_2 eq4).sub (hs_sub_cons (.inl (.tail _ (.head _))) (hs_sub_cons (.inl (.tail _ (.tail _ (.head _)))) hs_sub_nil)))
  obtain ⟨q5, eq5, e⟩ := hs_bind_some e
  have fq5 := fq4.tr ((hz_3 eq5).sub (hs_sub_cons (.inl (.head _)) (hs_sub_cons (.inl (.tail _ (.tail _ (.head _)))) (hs_sub_cons (.inl (.tail _ (.tail _ (.tail _ (.head _))))) hs_sub_nil))))
  have fk := hz_b0_79  e
  exact fq5.tr fk
theorem hz_0 {a1 : Int32} {a2 : Int32} {h : hs_H} {r : hs_H} (e : hf_0 a1 a2 h = some r) : hs_fr [(0, some 0), (20, some 0), (21, some 0), (22, some 0), (23, some 0)] h r := by
  unfold hf_0 at e
  rcases hz_if e with e | e
  · have fk := hz_b0_30  e
    exact (hs_fr.rf (K := [(0, some 0), (20, some 0), (21, some 0), (22, some 0), (23, some 0)]) (h := h)).tr fk
  · rcases hz_if e with e | e
    · have fk := hz_b0_30  e
      exact (hs_fr.rf (K := [(0, some 0), (20, some 0), (21, some 0), (22, some 0), (23, some 0)]) (h := h)).tr fk
    · rcases hz_if e with e | e
      · have fk := hz_b0_79  e
        exact (hs_fr.rf (K := [(0, some 0), (20, some 0), (21, some 0), (22, some 0), (23, some 0)]) (h := h)).tr fk
      · have fk := hz_b0_30  e
        exact (hs_fr.rf (K := [(0, some 0), (20, some 0), (21, some 0), (22, some 0), (23, some 0)]) (h := h)).tr fk
theorem hz_b7_43 {h : hs_H} {r : Int32 × hs_H} (e : hb_7_43 h = some r) : hs_fr [] h r.2 := by
  unfold hb_7_43 at e
  obtain rfl := Option.some.inj e
  exact (hs_fr.rf (K := []) (h := h))
theorem hz_b7_2 {k2 : Int32 × Int32 × hs_H → Option (Int32 × hs_H)} {x1 : Int32} {x2 : Int32} {h : hs_H} {r : Int32 × hs_H} (hk2 : ∀ y1 y2 h r, k2 (y1, y2, h) = some r → hs_fr [] h r.2) (e : hb_7_2 k2 x1 x2 h = some r) : hs_fr [] h r.2 := by
  unfold hb_7_2 at e
  rcases hz_if e with e | e
  · have fk := hz_b7_43  e
    exact (hs_fr.rf (K := []) (h := h)).tr fk
  · rcases hz_if e with e | e
    · have fk := hz_b7_43  e
      exact (hs_fr.rf (K := []) (h := h)).tr fk
    · replace e := (hs_ck_some e).2
      rcases hz_if e with e | e
      · have fk := hk2 _ _ _ _ e
        exact (hs_fr.rf (K := []) (h := h)).tr fk
      · replace e := (hs_ck_some e).2
        obtain rfl := Option.some.inj e
        exact (hs_fr.rf (K := []) (h := h))
theorem hz_7 {a1 : Int32} {h : hs_H} {r : Int32 × hs_H} (e : hf_7 a1 h = some r) : hs_fr [] h r.2 := by
  unfold hf_7 at e
  have fl := hz_lp3 (f := fun k s => hb_7_2 k s.1 s.2.1 s.2.2) (G := fun r => r.2) (fun k hk y1 y2 h r e => hz_b7_2 hk e) e
  exact (hs_fr.rf (K := []) (h := h)).tr fl
theorem hz_b9_12 {h : hs_H} {r : Int32 × hs_H} (e : hb_9_12 h = some r) : hs_fr [] h r.2 := by
  unfold hb_9_12 at e
  obtain rfl := Option.some.inj e
  exact (hs_fr.rf (K := []) (h := h))
theorem hz_b9_46 {k46 : Int32 × Int32 × Int32 × hs_H → Option (Int32 × hs_H)} {x1 : Int32} {x2 : Int32} {x3 : Int32} {h : hs_H} {r : Int32 × hs_H} (hk46 : ∀ y1 y2 y3 h r, k46 (y1, y2, y3, h) = some r → hs_fr [] h r.2) (e : hb_9_46 k46 x1 x2 x3 h = some r) : hs_fr [] h r.2 := by
  unfold hb_9_46 at e
  rcases hz_if e with e | e
  · obtain ⟨q5, eq5, e⟩ := hs_bind_some e
    have fq5 := (hs_fr.rf (K := []) (h := h)).tr ((hz_6 eq5).sub hs_sub_nil)
    obtain rfl := Option.some.inj e
    exact fq5
  · obtain ⟨q6, eq6, e⟩ := hs_bind_some e
    have fq6 := (hs_fr.rf (K := []) (h := h)).tr ((hz_6 eq6).sub hs_sub_nil)
    have fk := hk46 _ _ _ _ _ e
    exact fq6.tr fk
theorem hz_9 {a1 : Int32} {h : hs_H} {r : Int32 × hs_H} (e : hf_9 a1 h = some r) : hs_fr [] h r.2 := by
  unfold hf_9 at e
  rcases hz_if e with e | e
  · have fk := hz_b9_12  e
    exact (hs_fr.rf (K := []) (h := h)).tr fk
  · rcases hz_if e with e | e
    · rcases hz_if e with e | e
      · have fl := hz_lp4 (f := fun k s => hb_9_46 k s.1 s.2.1 s.2.2.1 s.2.2.2) (G := fun r => r.2) (fun k hk y1 y2 y3 h r e => hz_b9_46 hk e) e
        exact (hs_fr.rf (K := []) (h := h)).tr fl
      · obtain ⟨q7, eq7, e⟩ := hs_bind_some e
        have fq7 := (hs_fr.rf (K := []) (h := h)).tr ((hz_7 eq7).sub hs_sub_nil)
        obtain rfl := Option.some.inj e
        exact fq7
    · have fk := hz_b9_12  e
      exact (hs_fr.rf (K := []) (h := h)).tr fk
theorem hz_b128_48 {h : hs_H} {r : Int32 × hs_H} (e : hb_128_48 h = some r) : hs_fr [(0, some 0), (20, some 0), (21, some 0), (22, some 0), (23, some 0)] h r.2 := by
  unfold hb_128_48 at e
  obtain rfl := Option.some.inj e
  exact (hs_fr.rf (K := [(0, some 0), (20, some 0), (21, some 0), (22, some 0), (23, some 0)]) (h := h))
theorem hz_b128_85 {s0 : Int32} {h : hs_H} {r : Int32 × hs_H} (e : hb_128_85 s0 h = some r) : hs_fr [(0, some 0), (20, some 0), (21, some 0), (22, some 0), (23, some 0)] h r.2 := by
  unfold hb_128_85 at e
  obtain rfl := Option.some.inj e
  exact (hs_fr.rf (K := [(0, some 0), (20, some 0), (21, some 0), (22, some 0), (23, some 0)]) (h := h))
theorem hz_b128_50 {x1 : Int32} {x2 : Int32} {x3 : Int32} {h : hs_H} {r : Int32 × hs_H} (e : hb_128_50 x1 x2 x3 h = some r) : hs_fr [(0, some 0), (20, some 0), (21, some 0), (22, some 0), (23, some 0)] h r.2 := by
  unfold hb_128_50 at e
  obtain ⟨q8, eq8, e⟩ := hs_bind_some e
  have fq8 := (hs_fr.rf (K := [(0, some 0), (20, some 0), (21, some 0), (22, some 0), (23, some 0)]) (h := h)).tr ((hz_0 eq8).sub (hs_sub_cons (.inl (.head _)) (hs_sub_cons (.inl (.tail _ (.head _))) (hs_sub_cons (.inl (.tail _ (.tail _ (.head _)))) (hs_sub_cons (.inl (.tail _ (.tail _ (.tail _ (.head _))))) (hs_sub_cons (.inl (.tail _ (.tail _ (.tail _ (.tail _ (.head _)))))) hs_sub_nil))))))
  rcases hz_if e with e | e
  · obtain ⟨q10, eq10, e⟩ := hs_bind_some e
    have fq10 := fq8.tr ((hz_9 eq10).sub hs_sub_nil)
    obtain rfl := Option.some.inj e
    exact fq10
  · rcases hz_if e with e | e
    · have fk := hz_b128_85  e
      exact fq8.tr fk
    · have fk := hz_b128_85  e
      exact fq8.tr fk
theorem hz_128 {a1 : Int32} {a2 : Int32} {a3 : Int32} {h : hs_H} {r : Int32 × hs_H} (e : hf_128 a1 a2 a3 h = some r) : hs_fr [(0, some 0), (20, some 0), (21, some 0), (22, some 0), (23, some 0)] h r.2 := by
  unfold hf_128 at e
  obtain ⟨q1, eq1, e⟩ := hs_bind_some e
  have fq1 := (hs_fr.rf (K := [(0, some 0), (20, some 0), (21, some 0), (22, some 0), (23, some 0)]) (h := h)).tr ((hz_146 eq1).sub hs_sub_nil)
  rcases hz_if e with e | e
  · have fk := hz_b128_48  e
    exact fq1.tr fk
  · rcases hz_if e with e | e
    · have fk := hz_b128_48  e
      exact fq1.tr fk
    · rcases hz_if e with e | e
      · have fk := hz_b128_48  e
        exact fq1.tr fk
      · obtain ⟨q5, eq5, e⟩ := hs_bind_some e
        have fq5 := fq1.tr ((hz_30 eq5).sub hs_sub_nil)
        rcases hz_if e with e | e
        · have fk := hz_b128_48  e
          exact fq5.tr fk
        · rcases hz_if e with e | e
          · have fk := hz_b128_50  e
            exact fq5.tr fk
          · rcases hz_if e with e | e
            · have fk := hz_b128_50  e
              exact fq5.tr fk
            · have fk := hz_b128_48  e
              exact fq5.tr fk
theorem hz_b129_2 {k2 : Int32 × hs_H → Option (Int32 × hs_H)} {x1 : Int32} {h : hs_H} {r : Int32 × hs_H} (hk2 : ∀ y1 h r, k2 (y1, h) = some r → hs_fr [(0, some 0), (20, some 0), (21, some 0), (22, some 0), (23, some 0)] h r.2) (e : hb_129_2 k2 x1 h = some r) : hs_fr [(0, some 0), (20, some 0), (21, some 0), (22, some 0), (23, some 0)] h r.2 := by
  unfold hb_129_2 at e
  rcases hz_if e with e | e
  · obtain rfl := Option.some.inj e
    exact (hs_fr.rf (K := [(0, some 0), (20, some 0), (21, some 0), (22, some 0), (23, some 0)]) (h := h))
  · obtain ⟨q2, eq2, e⟩ := hs_bind_some e
    have fq2 := (hs_fr.rf (K := [(0, some 0), (20, some 0), (21, some 0), (22, some 0), (23, some 0)]) (h := h)).tr ((hz_31 eq2).sub hs_sub_nil)
    obtain ⟨q3, eq3, e⟩ := hs_bind_some e
    have fq3 := fq2.tr ((hz_0 eq3).sub (hs_sub_cons (.inl (.head _)) (hs_sub_cons (.inl (.tail _ (.head _))) (hs_sub_cons (.inl (.tail _ (.tail _ (.head _)))) (hs_sub_cons (.inl (.tail _ (.tail _ (.tail _ (.head _))))) (hs_sub_cons (.inl (.tail _ (.tail _ (.tail _ (.tail _ (.head _)))))) hs_sub_nil))))))
    rcases hz_if e with e | e
    · have fk := hk2 _ _ _ e
      exact fq3.tr fk
    · obtain rfl := Option.some.inj e
      exact fq3
theorem hz_129 {h : hs_H} {r : Int32 × hs_H} (e : hf_129 h = some r) : hs_fr [(0, some 0), (20, some 0), (21, some 0), (22, some 0), (23, some 0)] h r.2 := by
  unfold hf_129 at e
  have fl := hz_lp2 (f := fun k s => hb_129_2 k s.1 s.2) (G := fun r => r.2) (fun k hk y1 h r e => hz_b129_2 hk e) e
  exact (hs_fr.rf (K := [(0, some 0), (20, some 0), (21, some 0), (22, some 0), (23, some 0)]) (h := h)).tr fl
theorem hz_b41_30 {o : Nat} {k4 : Int32 × Int32 × Int32 × hs_H → Option (Int32 × hs_H)} {x1 : Int32} {x3 : Int32} {s0 : Int32} {s1 : Int32} {h : hs_H} {r : Int32 × hs_H} (hk4 : ∀ y1 y2 y3 h r, k4 (y1, y2, y3, h) = some r → hs_fr [] h r.2) (e : hb_41_30 o k4 x1 x3 s0 s1 h = some r) : hs_fr [] h r.2 := by
  unfold hb_41_30 at e
  have fk := hk4 _ _ _ _ _ e
  exact (hs_fr.rf (K := []) (h := h)).tr fk
theorem hz_b41_4 {o : Nat} {k4 : Int32 × Int32 × Int32 × hs_H → Option (Int32 × hs_H)} {x1 : Int32} {x2 : Int32} {x3 : Int32} {h : hs_H} {r : Int32 × hs_H} (hk4 : ∀ y1 y2 y3 h r, k4 (y1, y2, y3, h) = some r → hs_fr [] h r.2) (e : hb_41_4 o k4 x1 x2 x3 h = some r) : hs_fr [] h r.2 := by
  unfold hb_41_4 at e
  rcases hz_if e with e | e
  · obtain rfl := Option.some.inj e
    exact (hs_fr.rf (K := []) (h := h))
  · obtain ⟨q2, eq2, e⟩ := hs_bind_some e
    have fq2 := (hs_fr.rf (K := []) (h := h)).tr ((hz_147 eq2).sub hs_sub_nil)
    rcases hz_if e with e | e
    · have fk := hz_b41_30 hk4 e
      exact fq2.tr fk
    · obtain ⟨q4, eq4, e⟩ := hs_bind_some e
      have fq4 := fq2.tr ((hz_40 eq4).sub hs_sub_nil)
      have fk := hz_b41_30 hk4 e
      exact fq4.tr fk
theorem hz_41 {o : Nat} {a1 : Int32} {h : hs_H} {r : Int32 × hs_H} (e : hf_41 o a1 h = some r) : hs_fr [] h r.2 := by
  unfold hf_41 at e
  have fl := hz_lp4 (f := fun k s => hb_41_4 o k s.1 s.2.1 s.2.2.1 s.2.2.2) (G := fun r => r.2) (fun k hk y1 y2 y3 h r e => hz_b41_4 hk e) e
  exact (hs_fr.rf (K := []) (h := h)).tr fl
theorem hz_b130_38 {s0 : Int32} {h : hs_H} {r : Int32 × hs_H} (e : hb_130_38 s0 h = some r) : hs_fr [] h r.2 := by
  unfold hb_130_38 at e
  obtain rfl := Option.some.inj e
  exact (hs_fr.rf (K := []) (h := h))
theorem hz_b130_37 {h : hs_H} {r : Int32 × hs_H} (e : hb_130_37 h = some r) : hs_fr [] h r.2 := by
  unfold hb_130_37 at e
  have fk := hz_b130_38  e
  exact (hs_fr.rf (K := []) (h := h)).tr fk
theorem hz_130 {a1 : Int32} {a2 : Int32} {h : hs_H} {r : Int32 × hs_H} (e : hf_130 a1 a2 h = some r) : hs_fr [] h r.2 := by
  unfold hf_130 at e
  obtain ⟨q1, eq1, e⟩ := hs_bind_some e
  have fq1 := (hs_fr.rf (K := []) (h := h)).tr ((hz_30 eq1).sub hs_sub_nil)
  rcases hz_if e with e | e
  · have fk := hz_b130_37  e
    exact fq1.tr fk
  · obtain ⟨q3, eq3, e⟩ := hs_bind_some e
    have fq3 := fq1.tr ((hz_30 eq3).sub hs_sub_nil)
    rcases hz_if e with e | e
    · have fk := hz_b130_37  e
      exact fq3.tr fk
    · obtain ⟨q5, eq5, e⟩ := hs_bind_some e
      have fq5 := fq3.tr ((hz_41 eq5).sub hs_sub_nil)
      have fk := hz_b130_38  e
      exact fq5.tr fk
theorem hz_b241_18 {x2 : Int32} {h : hs_H} {r : Int32 × hs_H} (e : hb_241_18 x2 h = some r) : hs_fr [] h r.2 := by
  unfold hb_241_18 at e
  obtain rfl := Option.some.inj e
  exact (hs_fr.rf (K := []) (h := h))
theorem hz_241 {a0 : Int32} {a1 : Int32} {h : hs_H} {r : Int32 × hs_H} (e : hf_241 a0 a1 h = some r) : hs_fr [] h r.2 := by
  unfold hf_241 at e
  replace e := (hs_ck_some e).2
  rcases hz_if e with e | e
  · have fk := hz_b241_18  e
    exact (hs_fr.rf (K := []) (h := h)).tr fk
  · rcases hz_if e with e | e
    · have fk := hz_b241_18  e
      exact (hs_fr.rf (K := []) (h := h)).tr fk
    · obtain rfl := Option.some.inj e
      exact (hs_fr.rf (K := []) (h := h))
theorem hz_21 {a0 : Int32} {a1 : Int32} {h : hs_H} {r : Int32 × hs_H} (e : hf_21 a0 a1 h = some r) : hs_fr [] h r.2 := by
  unfold hf_21 at e
  obtain ⟨q1, eq1, e⟩ := hs_bind_some e
  have fq1 := (hs_fr.rf (K := []) (h := h)).tr ((hz_241 eq1).sub hs_sub_nil)
  obtain rfl := Option.some.inj e
  exact fq1
theorem hz_22 {a0 : Int32} {a1 : Int32} {a2 : Int32} {h : hs_H} {r : Int32 × hs_H} (e : hf_22 a0 a1 a2 h = some r) : hs_fr [] h r.2 := by
  unfold hf_22 at e
  obtain ⟨q1, eq1, e⟩ := hs_bind_some e
  have fq1 := (hs_fr.rf (K := []) (h := h)).tr ((hz_241 eq1).sub hs_sub_nil)
  obtain rfl := Option.some.inj e
  exact fq1
theorem hz_b11_38 {k25 : Int32 × hs_H → Option (hs_H)} {k38 : Int32 × Int32 × hs_H → Option (hs_H)} {x1 : Int32} {x2 : Int32} {h : hs_H} {r : hs_H} (hk25 : ∀ y1 h r, k25 (y1, h) = some r → hs_fr [(24, some 0), (25, some 0)] h r) (hk38 : ∀ y1 y2 h r, k38 (y1, y2, h) = some r → hs_fr [(24, some 0), (25, some 0)] h r) (e : hb_11_38 k25 k38 x1 x2 h = some r) : hs_fr [(24, some 0), (25, some 0)] h r := by
  unfold hb_11_38 at e
  rcases hz_if e with e | e
  · have fk := hk25 _ _ _ e
    exact (hs_fr.rf (K := [(24, some 0), (25, some 0)]) (h := h)).tr fk
  · obtain ⟨q4, eq4, e⟩ := hs_bind_some e
    have fq4 := (hs_fr.rf (K := [(24, some 0), (25, some 0)]) (h := h)).tr ((hz_21 eq4).sub hs_sub_nil)
    replace e := (hs_ck_some e).2
    obtain ⟨q6, eq6, e⟩ := hs_bind_some e
    have fq6 := (fq4.put (.inl (.tail _ (.head _)))).tr ((hz_22 eq6).sub hs_sub_nil)
    replace e := (hs_ck_some e).2
    obtain ⟨q8, eq8, e⟩ := hs_bind_some e
    have fq8 := (fq6.put (.inl (.head _))).tr ((hz_22 eq8).sub hs_sub_nil)
    replace e := (hs_ck_some e).2
    have fk := hk38 _ _ _ _ e
    exact (fq8.put (.inl (.head _))).tr fk
theorem hz_b11_25 {k25 : Int32 × hs_H → Option (hs_H)} {x1 : Int32} {h : hs_H} {r : hs_H} (hk25 : ∀ y1 h r, k25 (y1, h) = some r → hs_fr [(24, some 0), (25, some 0)] h r) (e : hb_11_25 k25 x1 h = some r) : hs_fr [(24, some 0), (25, some 0)] h r := by
  unfold hb_11_25 at e
  rcases hz_if e with e | e
  · obtain rfl := Option.some.inj e
    exact (hs_fr.rf (K := [(24, some 0), (25, some 0)]) (h := h))
  · have fl := hz_lp3 (f := fun k s => hb_11_38 k25 k s.1 s.2.1 s.2.2) (G := fun r => r) (fun k hk y1 y2 h r e => hz_b11_38 hk25 hk e) e
    exact (hs_fr.rf (K := [(24, some 0), (25, some 0)]) (h := h)).tr fl
theorem hz_b11_2 {k2 : Int32 × hs_H → Option (hs_H)} {x1 : Int32} {h : hs_H} {r : hs_H} (hk2 : ∀ y1 h r, k2 (y1, h) = some r → hs_fr [(24, some 0), (25, some 0)] h r) (e : hb_11_2 k2 x1 h = some r) : hs_fr [(24, some 0), (25, some 0)] h r := by
  unfold hb_11_2 at e
  rcases hz_if e with e | e
  · have fl := hz_lp2 (f := fun k s => hb_11_25 k s.1 s.2) (G := fun r => r) (fun k hk y1 h r e => hz_b11_25 hk e) e
    exact (hs_fr.rf (K := [(24, some 0), (25, some 0)]) (h := h)).tr fl
  · replace e := (hs_ck_some e).2
    have fk := hk2 _ _ _ e
    exact ((hs_fr.rf (K := [(24, some 0), (25, some 0)]) (h := h)).put (.inl (.head _))).tr fk
theorem hz_11 {h : hs_H} {r : hs_H} (e : hf_11 h = some r) : hs_fr [(24, some 0), (25, some 0)] h r := by
  unfold hf_11 at e
  have fl := hz_lp2 (f := fun k s => hb_11_2 k s.1 s.2) (G := fun r => r) (fun k hk y1 h r e => hz_b11_2 hk e) e
  exact (hs_fr.rf (K := [(24, some 0), (25, some 0)]) (h := h)).tr fl
theorem hz_20 {a1 : Int32} {h : hs_H} {r : Int32 × hs_H} (e : hf_20 a1 h = some r) : hs_fr [] h r.2 := by
  unfold hf_20 at e
  obtain ⟨q1, eq1, e⟩ := hs_bind_some e
  have fq1 := (hs_fr.rf (K := []) (h := h)).tr ((hz_32 eq1).sub hs_sub_nil)
  obtain rfl := Option.some.inj e
  exact fq1
theorem hz_b14_92 {k19 : Int32 × Int32 × Int32 × Int32 × hs_H → Option (Int32 × hs_H)} {x3 : Int32} {x4 : Int32} {x5 : Int32} {x6 : Int32} {h : hs_H} {r : Int32 × hs_H} (hk19 : ∀ y1 y2 y3 y4 h r, k19 (y1, y2, y3, y4, h) = some r → hs_fr [] h r.2) (e : hb_14_92 k19 x3 x4 x5 x6 h = some r) : hs_fr [] h r.2 := by
  unfold hb_14_92 at e
  have fk := hk19 _ _ _ _ _ _ e
  exact (hs_fr.rf (K := []) (h := h)).tr fk
theorem hz_b14_83 {k19 : Int32 × Int32 × Int32 × Int32 × hs_H → Option (Int32 × hs_H)} {k34 : Int32 × Int32 × Int32 × Int32 × Int32 × hs_H → Option (Int32 × hs_H)} {x3 : Int32} {x4 : Int32} {x6 : Int32} {x7 : Int32} {s0 : Int32} {s1 : Int32} {h : hs_H} {r : Int32 × hs_H} (hk19 : ∀ y1 y2 y3 y4 h r, k19 (y1, y2, y3, y4, h) = some r → hs_fr [] h r.2) (hk34 : ∀ y1 y2 y3 y4 y5 h r, k34 (y1, y2, y3, y4, y5, h) = some r → hs_fr [] h r.2) (e : hb_14_83 k19 k34 x3 x4 x6 x7 s0 s1 h = some r) : hs_fr [] h r.2 := by
  unfold hb_14_83 at e
  have fk := hk34 _ _ _ _ _ _ _ e
  exact (hs_fr.rf (K := []) (h := h)).tr fk
theorem hz_b14_34 {k19 : Int32 × Int32 × Int32 × Int32 × hs_H → Option (Int32 × hs_H)} {k34 : Int32 × Int32 × Int32 × Int32 × Int32 × hs_H → Option (Int32 × hs_H)} {x3 : Int32} {x4 : Int32} {x5 : Int32} {x6 : Int32} {x7 : Int32} {h : hs_H} {r : Int32 × hs_H} (hk19 : ∀ y1 y2 y3 y4 h r, k19 (y1, y2, y3, y4, h) = some r → hs_fr [] h r.2) (hk34 : ∀ y1 y2 y3 y4 y5 h r, k34 (y1, y2, y3, y4, y5, h) = some r → hs_fr [] h r.2) (e : hb_14_34 k19 k34 x3 x4 x5 x6 x7 h = some r) : hs_fr [] h r.2 := by
  unfold hb_14_34 at e
  rcases hz_if e with e | e
  · have fk := hz_b14_92 hk19 e
    exact (hs_fr.rf (K := []) (h := h)).tr fk
  · obtain ⟨q5, eq5, e⟩ := hs_bind_some e
    have fq5 := (hs_fr.rf (K := []) (h := h)).tr ((hz_147 eq5).sub hs_sub_nil)
    rcases hz_if e with e | e
    · have fk := hz_b14_92 hk19 e
      exact fq5.tr fk
    · obtain ⟨q7, eq7, e⟩ := hs_bind_some e
      have fq7 := fq5.tr ((hz_147 eq7).sub hs_sub_nil)
      rcases hz_if e with e | e
      · have fk := hz_b14_83 hk19 hk34 e
        exact fq7.tr fk
      · obtain ⟨q9, eq9, e⟩ := hs_bind_some e
        have fq9 := fq7.tr ((hz_21 eq9).sub hs_sub_nil)
        replace e := (hs_ck_some e).2
        have fk := hz_b14_83 hk19 hk34 e
        exact fq9.tr fk
theorem hz_b14_19 {k19 : Int32 × Int32 × Int32 × Int32 × hs_H → Option (Int32 × hs_H)} {x3 : Int32} {x4 : Int32} {x5 : Int32} {x6 : Int32} {h : hs_H} {r : Int32 × hs_H} (hk19 : ∀ y1 y2 y3 y4 h r, k19 (y1, y2, y3, y4, h) = some r → hs_fr [] h r.2) (e : hb_14_19 k19 x3 x4 x5 x6 h = some r) : hs_fr [] h r.2 := by
  unfold hb_14_19 at e
  rcases hz_if e with e | e
  · obtain rfl := Option.some.inj e
    exact (hs_fr.rf (K := []) (h := h))
  · have fl := hz_lp6 (f := fun k s => hb_14_34 k19 k s.1 s.2.1 s.2.2.1 s.2.2.2.1 s.2.2.2.2.1 s.2.2.2.2.2) (G := fun r => r.2) (fun k hk y1 y2 y3 y4 y5 h r e => hz_b14_34 hk19 hk e) e
    exact (hs_fr.rf (K := []) (h := h)).tr fl
theorem hz_14 {a1 : Int32} {a2 : Int32} {h : hs_H} {r : Int32 × hs_H} (e : hf_14 a1 a2 h = some r) : hs_fr [] h r.2 := by
  unfold hf_14 at e
  obtain ⟨q1, eq1, e⟩ := hs_bind_some e
  have fq1 := (hs_fr.rf (K := []) (h := h)).tr ((hz_20 eq1).sub hs_sub_nil)
  obtain ⟨q2, eq2, e⟩ := hs_bind_some e
  have fq2 := fq1.tr ((hz_20 eq2).sub hs_sub_nil)
  have fl := hz_lp5 (f := fun k s => hb_14_19 k s.1 s.2.1 s.2.2.1 s.2.2.2.1 s.2.2.2.2) (G := fun r => r.2) (fun k hk y1 y2 y3 y4 h r e => hz_b14_19 hk e) e
  exact fq2.tr fl
theorem hz_b13_61 {k14 : Int32 × Int32 × Int32 × Int32 × hs_H → Option (Int32 × hs_H)} {x3 : Int32} {x4 : Int32} {x5 : Int32} {x6 : Int32} {h : hs_H} {r : Int32 × hs_H} (hk14 : ∀ y1 y2 y3 y4 h r, k14 (y1, y2, y3, y4, h) = some r → hs_fr [] h r.2) (e : hb_13_61 k14 x3 x4 x5 x6 h = some r) : hs_fr [] h r.2 := by
  unfold hb_13_61 at e
  have fk := hk14 _ _ _ _ _ _ e
  exact (hs_fr.rf (K := []) (h := h)).tr fk
theorem hz_b13_14 {k14 : Int32 × Int32 × Int32 × Int32 × hs_H → Option (Int32 × hs_H)} {x3 : Int32} {x4 : Int32} {x5 : Int32} {x6 : Int32} {h : hs_H} {r : Int32 × hs_H} (hk14 : ∀ y1 y2 y3 y4 h r, k14 (y1, y2, y3, y4, h) = some r → hs_fr [] h r.2) (e : hb_13_14 k14 x3 x4 x5 x6 h = some r) : hs_fr [] h r.2 := by
  unfold hb_13_14 at e
  rcases hz_if e with e | e
  · obtain rfl := Option.some.inj e
    exact (hs_fr.rf (K := []) (h := h))
  · obtain ⟨q3, eq3, e⟩ := hs_bind_some e
    have fq3 := (hs_fr.rf (K := []) (h := h)).tr ((hz_147 eq3).sub hs_sub_nil)
    rcases hz_if e with e | e
    · have fk := hz_b13_61 hk14 e
      exact fq3.tr fk
    · obtain ⟨q5, eq5, e⟩ := hs_bind_some e
      have fq5 := fq3.tr ((hz_40 eq5).sub hs_sub_nil)
      rcases hz_if e with e | e
      · have fk := hz_b13_61 hk14 e
        exact fq5.tr fk
      · have fk := hz_b13_61 hk14 e
        exact fq5.tr fk
theorem hz_13 {a1 : Int32} {a2 : Int32} {a3 : Int32} {h : hs_H} {r : Int32 × hs_H} (e : hf_13 a1 a2 a3 h = some r) : hs_fr [] h r.2 := by
  unfold hf_13 at e
  obtain ⟨q1, eq1, e⟩ := hs_bind_some e
  have fq1 := (hs_fr.rf (K := []) (h := h)).tr ((hz_14 eq1).sub hs_sub_nil)
  have fl := hz_lp5 (f := fun k s => hb_13_14 k s.1 s.2.1 s.2.2.1 s.2.2.2.1 s.2.2.2.2) (G := fun r => r.2) (fun k hk y1 y2 y3 y4 h r e => hz_b13_14 hk e) e
  exact fq1.tr fl
theorem hz_b15_52 {k3 : Int32 × Int32 × Int32 × Int32 × Int32 × hs_H → Option (hs_H)} {x1 : Int32} {x2 : Int32} {x3 : Int32} {x4 : Int32} {x5 : Int32} {h : hs_H} {r : hs_H} (hk3 : ∀ y1 y2 y3 y4 y5 h r, k3 (y1, y2, y3, y4, y5, h) = some r → hs_fr [(24, some 0)] h r) (e : hb_15_52 k3 x1 x2 x3 x4 x5 h = some r) : hs_fr [(24, some 0)] h r := by
  unfold hb_15_52 at e
  have fk := hk3 _ _ _ _ _ _ _ e
  exact (hs_fr.rf (K := [(24, some 0)]) (h := h)).tr fk
theorem hz_b15_3 {k3 : Int32 × Int32 × Int32 × Int32 × Int32 × hs_H → Option (hs_H)} {x1 : Int32} {x2 : Int32} {x3 : Int32} {x4 : Int32} {x5 : Int32} {h : hs_H} {r : hs_H} (hk3 : ∀ y1 y2 y3 y4 y5 h r, k3 (y1, y2, y3, y4, y5, h) = some r → hs_fr [(24, some 0)] h r) (e : hb_15_3 k3 x1 x2 x3 x4 x5 h = some r) : hs_fr [(24, some 0)] h r := by
  unfold hb_15_3 at e
  rcases hz_if e with e | e
  · obtain rfl := Option.some.inj e
    exact (hs_fr.rf (K := [(24, some 0)]) (h := h))
  · obtain ⟨q2, eq2, e⟩ := hs_bind_some e
    have fq2 := (hs_fr.rf (K := [(24, some 0)]) (h := h)).tr ((hz_147 eq2).sub hs_sub_nil)
    rcases hz_if e with e | e
    · have fk := hz_b15_52 hk3 e
      exact fq2.tr fk
    · obtain ⟨q4, eq4, e⟩ := hs_bind_some e
      have fq4 := fq2.tr ((hz_22 eq4).sub hs_sub_nil)
      replace e := (hs_ck_some e).2
      obtain ⟨q6, eq6, e⟩ := hs_bind_some e
      have fq6 := (fq4.put (.inl (.head _))).tr ((hz_22 eq6).sub hs_sub_nil)
      replace e := (hs_ck_some e).2
      have fk := hz_b15_52 hk3 e
      exact (fq6.put (.inl (.head _))).tr fk
theorem hz_15 {a1 : Int32} {a2 : Int32} {a3 : Int32} {a4 : Int32} {h : hs_H} {r : hs_H} (e : hf_15 a1 a2 a3 a4 h = some r) : hs_fr [(24, some 0)] h r := by
  unfold hf_15 at e
  have fl := hz_lp6 (f := fun k s => hb_15_3 k s.1 s.2.1 s.2.2.1 s.2.2.2.1 s.2.2.2.2.1 s.2.2.2.2.2) (G := fun r => r) (fun k hk y1 y2 y3 y4 y5 h r e => hz_b15_3 hk e) e
  exact (hs_fr.rf (K := [(24, some 0)]) (h := h)).tr fl
theorem hz_b12_127 {k127 : Int32 × Int32 × hs_H → Option (Int32 × hs_H)} {x2 : Int32} {x3 : Int32} {h : hs_H} {r : Int32 × hs_H} (hk127 : ∀ y1 y2 h r, k127 (y1, y2, h) = some r → hs_fr [(24, some 0), (25, some 0), (26, some 0)] h r.2) (e : hb_12_127 k127 x2 x3 h = some r) : hs_fr [(24, some 0), (25, some 0), (26, some 0)] h r.2 := by
  unfold hb_12_127 at e
  rcases hz_if e with e | e
  · replace e := (hs_ck_some e).2
    obtain rfl := Option.some.inj e
    exact (hs_fr.rf (K := [(24, some 0), (25, some 0), (26, some 0)]) (h := h))
  · replace e := (hs_ck_some e).2
    replace e := (hs_ck_some e).2
    have fk := hk127 _ _ _ _ e
    exact ((hs_fr.rf (K := [(24, some 0), (25, some 0), (26, some 0)]) (h := h)).put (.inl (.tail _ (.head _)))).tr fk
