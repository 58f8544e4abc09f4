/-! Frames: which kinds and instances a function writes; by gen7.py. -/
theorem hz_b12_111 {k4 : Int32 × Int32 × Int32 × hs_H → Option (Int32 × hs_H)} {k18 : Int32 × Int32 × Int32 × Int32 × hs_H → Option (Int32 × hs_H)} {x1 : Int32} {x3 : Int32} {x4 : Int32} {s0 : Int32} {s1 : Int32} {h : hs_H} {r : Int32 × hs_H} (hk4 : ∀ y1 y2 y3 h r, k4 (y1, y2, y3, h) = some r → hs_fr [(24, some 0), (25, some 0), (26, some 0)] h r.2) (hk18 : ∀ y1 y2 y3 y4 h r, k18 (y1, y2, y3, y4, h) = some r → hs_fr [(24, some 0), (25, some 0), (26, some 0)] h r.2) (e : hb_12_111 k4 k18 x1 x3 x4 s0 s1 h = some r) : hs_fr [(24, some 0), (25, some 0), (26, some 0)] h r.2 := by
  unfold hb_12_111 at e
  have fk := hk18 _ _ _ _ _ _ e
  exact (hs_fr.rf (K := [(24, some 0), (25, some 0), (26, some 0)]) (h := h)).tr fk
theorem hz_b12_18 {k4 : Int32 × Int32 × Int32 × hs_H → Option (Int32 × hs_H)} {k18 : Int32 × Int32 × Int32 × Int32 × hs_H → Option (Int32 × hs_H)} {x1 : Int32} {x2 : Int32} {x3 : Int32} {x4 : Int32} {h : hs_H} {r : Int32 × hs_H} (hk4 : ∀ y1 y2 y3 h r, k4 (y1, y2, y3, h) = some r → hs_fr [(24, some 0), (25, some 0), (26, some 0)] h r.2) (hk18 : ∀ y1 y2 y3 y4 h r, k18 (y1, y2, y3, y4, h) = some r → hs_fr [(24, some 0), (25, some 0), (26, some 0)] h r.2) (e : hb_12_18 k4 k18 x1 x2 x3 x4 h = some r) : hs_fr [(24, some 0), (25, some 0), (26, some 0)] h r.2 := by
  unfold hb_12_18 at e
  rcases hz_if e with e | e
  · have fk := hk4 _ _ _ _ _ e
    exact (hs_fr.rf (K := [(24, some 0), (25, some 0), (26, some 0)]) (h := h)).tr fk
  · obtain ⟨q7, eq7, e⟩ := hs_bind_some e
    have fq7 := (hs_fr.rf (K := [(24, some 0), (25, some 0), (26, some 0)]) (h := h)).tr ((hz_21 eq7).sub hs_sub_nil)
    replace e := (hs_ck_some e).2
    obtain ⟨q9, eq9, e⟩ := hs_bind_some e
    have fq9 := fq7.tr ((hz_13 eq9).sub hs_sub_nil)
    obtain ⟨q10, eq10, e⟩ := hs_bind_some e
    have fq10 := fq9.tr ((hz_21 eq10).sub hs_sub_nil)
    replace e := (hs_ck_some e).2
    obtain ⟨q12, eq12, e⟩ := hs_bind_some e
    have fq12 := (fq10.put (.inl (.tail _ (.tail _ (.head _))))).tr ((hz_21 eq12).sub hs_sub_nil)
    replace e := (hs_ck_some e).2
    obtain ⟨q14, eq14, e⟩ := hs_bind_some e
    have fq14 := (fq12.put (.inl (.tail _ (.tail _ (.head _))))).tr ((hz_15 eq14).sub (hs_sub_cons (.inl (.head _)) hs_sub_nil))
    rcases hz_if e with e | e
    · have fk := hz_b12_111 hk4 hk18 e
      exact fq14.tr fk
    · have fk := hz_b12_111 hk4 hk18 e
      exact fq14.tr fk
theorem hz_b12_4 {k4 : Int32 × Int32 × Int32 × hs_H → Option (Int32 × hs_H)} {x1 : Int32} {x2 : Int32} {x3 : Int32} {h : hs_H} {r : Int32 × hs_H} (hk4 : ∀ y1 y2 y3 h r, k4 (y1, y2, y3, h) = some r → hs_fr [(24, some 0), (25, some 0), (26, some 0)] h r.2) (e : hb_12_4 k4 x1 x2 x3 h = some r) : hs_fr [(24, some 0), (25, some 0), (26, some 0)] h r.2 := by
  unfold hb_12_4 at e
  rcases hz_if e with e | e
  · have fl := hz_lp3 (f := fun k s => hb_12_127 k s.1 s.2.1 s.2.2) (G := fun r => r.2) (fun k hk y1 y2 h r e => hz_b12_127 hk e) e
    exact (hs_fr.rf (K := [(24, some 0), (25, some 0), (26, some 0)]) (h := h)).tr fl
  · have fl := hz_lp5 (f := fun k s => hb_12_18 k4 k s.1 s.2.1 s.2.2.1 s.2.2.2.1 s.2.2.2.2) (G := fun r => r.2) (fun k hk y1 y2 y3 y4 h r e => hz_b12_18 hk4 hk e) e
    exact (hs_fr.rf (K := [(24, some 0), (25, some 0), (26, some 0)]) (h := h)).tr fl
theorem hz_12 {a1 : Int32} {h : hs_H} {r : Int32 × hs_H} (e : hf_12 a1 h = some r) : hs_fr [(24, some 0), (25, some 0), (26, some 0)] h r.2 := by
  unfold hf_12 at e
  have fl := hz_lp4 (f := fun k s => hb_12_4 k s.1 s.2.1 s.2.2.1 s.2.2.2) (G := fun r => r.2) (fun k hk y1 y2 y3 h r e => hz_b12_4 hk e) e
  exact (hs_fr.rf (K := [(24, some 0), (25, some 0), (26, some 0)]) (h := h)).tr fl
theorem hz_b10_65 {h : hs_H} {r : hs_H} (e : hb_10_65 h = some r) : hs_fr [(1, some 0), (24, some 0), (25, some 0), (26, some 0)] h r := by
  unfold hb_10_65 at e
  obtain rfl := Option.some.inj e
  exact (hs_fr.rf (K := [(1, some 0), (24, some 0), (25, some 0), (26, some 0)]) (h := h))
theorem hz_b10_44 {k44 : Int32 × hs_H → Option (hs_H)} {x1 : Int32} {h : hs_H} {r : hs_H} (hk44 : ∀ y1 h r, k44 (y1, h) = some r → hs_fr [(1, some 0), (24, some 0), (25, some 0), (26, some 0)] h r) (e : hb_10_44 k44 x1 h = some r) : hs_fr [(1, some 0), (24, some 0), (25, some 0), (26, some 0)] h r := by
  unfold hb_10_44 at e
  rcases hz_if e with e | e
  · have fk := hz_b10_65  e
    exact (hs_fr.rf (K := [(1, some 0), (24, some 0), (25, some 0), (26, some 0)]) (h := h)).tr fk
  · obtain ⟨q4, eq4, e⟩ := hs_bind_some e
    have fq4 := (hs_fr.rf (K := [(1, some 0), (24, some 0), (25, some 0), (26, some 0)]) (h := h)).tr ((hz_12 eq4).sub (hs_sub_cons (.inl (.tail _ (.head _))) (hs_sub_cons (.inl (.tail _ (.tail _ (.head _)))) (hs_sub_cons (.inl (.tail _ (.tail _ (.tail _ (.head _))))) hs_sub_nil))))
    rcases hz_if e with e | e
    · have fk := hz_b10_65  e
      exact fq4.tr fk
    · have fk := hk44 _ _ _ e
      exact fq4.tr fk
theorem hz_b10_22 {h : hs_H} {r : hs_H} (e : hb_10_22 h = some r) : hs_fr [(1, some 0), (24, some 0), (25, some 0), (26, some 0)] h r := by
  unfold hb_10_22 at e
  obtain ⟨q2, eq2, e⟩ := hs_bind_some e
  have fq2 := (((hs_fr.rf (K := [(1, some 0), (24, some 0), (25, some 0), (26, some 0)]) (h := h)).put (.inl (.head _))).put (.inl (.head _))).tr ((hz_11 eq2).sub (hs_sub_cons (.inl (.tail _ (.head _))) (hs_sub_cons (.inl (.tail _ (.tail _ (.head _)))) hs_sub_nil)))
  have fl := hz_lp2 (f := fun k s => hb_10_44 k s.1 s.2) (G := fun r => r) (fun k hk y1 h r e => hz_b10_44 hk e) e
  exact fq2.tr fl
theorem hz_10 {h : hs_H} {r : hs_H} (e : hf_10 h = some r) : hs_fr [(1, some 0), (24, some 0), (25, some 0), (26, some 0)] h r := by
  unfold hf_10 at e
  rcases hz_if e with e | e
  · have fk := hz_b10_22  e
    exact (hs_fr.rf (K := [(1, some 0), (24, some 0), (25, some 0), (26, some 0)]) (h := h)).tr fk
  · rcases hz_if e with e | e
    · have fk := hz_b10_22  e
      exact (hs_fr.rf (K := [(1, some 0), (24, some 0), (25, some 0), (26, some 0)]) (h := h)).tr fk
    · obtain rfl := Option.some.inj e
      exact (hs_fr.rf (K := [(1, some 0), (24, some 0), (25, some 0), (26, some 0)]) (h := h))
theorem hz_b16_27 {s0 : Int32} {h : hs_H} {r : Int32 × hs_H} (e : hb_16_27 s0 h = some r) : hs_fr [] h r.2 := by
  unfold hb_16_27 at e
  obtain rfl := Option.some.inj e
  exact (hs_fr.rf (K := []) (h := h))
theorem hz_16 {a1 : Int32} {a2 : Int32} {a3 : Int32} {h : hs_H} {r : Int32 × hs_H} (e : hf_16 a1 a2 a3 h = some r) : hs_fr [] h r.2 := by
  unfold hf_16 at e
  obtain ⟨q1, eq1, e⟩ := hs_bind_some e
  have fq1 := (hs_fr.rf (K := []) (h := h)).tr ((hz_22 eq1).sub hs_sub_nil)
  replace e := (hs_ck_some e).2
  rcases hz_if e with e | e
  · have fk := hz_b16_27  e
    exact fq1.tr fk
  · have fk := hz_b16_27  e
    exact fq1.tr fk
theorem hz_b131_33 {h : hs_H} {r : Int32 × hs_H} (e : hb_131_33 h = some r) : hs_fr [(1, some 0), (24, some 0), (25, some 0), (26, some 0)] h r.2 := by
  unfold hb_131_33 at e
  obtain rfl := Option.some.inj e
  exact (hs_fr.rf (K := [(1, some 0), (24, some 0), (25, some 0), (26, some 0)]) (h := h))
theorem hz_131 {a1 : Int32} {a2 : Int32} {a3 : Int32} {h : hs_H} {r : Int32 × hs_H} (e : hf_131 a1 a2 a3 h = some r) : hs_fr [(1, some 0), (24, some 0), (25, some 0), (26, some 0)] h r.2 := by
  unfold hf_131 at e
  obtain ⟨q1, eq1, e⟩ := hs_bind_some e
  have fq1 := (hs_fr.rf (K := [(1, some 0), (24, some 0), (25, some 0), (26, some 0)]) (h := h)).tr ((hz_29 eq1).sub hs_sub_nil)
  rcases hz_if e with e | e
  · have fk := hz_b131_33  e
    exact fq1.tr fk
  · obtain ⟨q3, eq3, e⟩ := hs_bind_some e
    have fq3 := fq1.tr ((hz_29 eq3).sub hs_sub_nil)
    rcases hz_if e with e | e
    · have fk := hz_b131_33  e
      exact fq3.tr fk
    · obtain ⟨q5, eq5, e⟩ := hs_bind_some e
      have fq5 := fq3.tr ((hz_29 eq5).sub hs_sub_nil)
      rcases hz_if e with e | e
      · obtain ⟨q7, eq7, e⟩ := hs_bind_some e
        have fq7 := fq5.tr ((hz_10 eq7).sub (hs_sub_cons (.inl (.head _)) (hs_sub_cons (.inl (.tail _ (.head _))) (hs_sub_cons (.inl (.tail _ (.tail _ (.head _)))) (hs_sub_cons (.inl (.tail _ (.tail _ (.tail _ (.head _))))) hs_sub_nil)))))
        obtain ⟨q8, eq8, e⟩ := hs_bind_some e
        have fq8 := fq7.tr ((hz_16 eq8).sub hs_sub_nil)
        obtain rfl := Option.some.inj e
        exact fq8
      · have fk := hz_b131_33  e
        exact fq5.tr fk
theorem hz_b18_94 {k21 : Int32 × Int32 × Int32 × Int32 × Int32 × hs_H → Option (Int32 × hs_H)} {x1 : Int32} {x4 : Int32} {x5 : Int32} {x6 : Int32} {x7 : Int32} {h : hs_H} {r : Int32 × hs_H} (hk21 : ∀ y1 y2 y3 y4 y5 h r, k21 (y1, y2, y3, y4, y5, h) = some r → hs_fr [] h r.2) (e : hb_18_94 k21 x1 x4 x5 x6 x7 h = some r) : hs_fr [] h r.2 := by
  unfold hb_18_94 at e
  have fk := hk21 _ _ _ _ _ _ _ e
  exact (hs_fr.rf (K := []) (h := h)).tr fk
theorem hz_b18_88 {k21 : Int32 × Int32 × Int32 × Int32 × Int32 × hs_H → Option (Int32 × hs_H)} {k36 : Int32 × Int32 × Int32 × Int32 × Int32 × Int32 × hs_H → Option (Int32 × hs_H)} {x1 : Int32} {x4 : Int32} {x5 : Int32} {x6 : Int32} {x7 : Int32} {x8 : Int32} {h : hs_H} {r : Int32 × hs_H} (hk21 : ∀ y1 y2 y3 y4 y5 h r, k21 (y1, y2, y3, y4, y5, h) = some r → hs_fr [] h r.2) (hk36 : ∀ y1 y2 y3 y4 y5 y6 h r, k36 (y1, y2, y3, y4, y5, y6, h) = some r → hs_fr [] h r.2) (e : hb_18_88 k21 k36 x1 x4 x5 x6 x7 x8 h = some r) : hs_fr [] h r.2 := by
  unfold hb_18_88 at e
  have fk := hk36 _ _ _ _ _ _ _ _ e
  exact (hs_fr.rf (K := []) (h := h)).tr fk
theorem hz_b18_36 {k21 : Int32 × Int32 × Int32 × Int32 × Int32 × hs_H → Option (Int32 × hs_H)} {k36 : Int32 × Int32 × Int32 × Int32 × Int32 × Int32 × hs_H → Option (Int32 × hs_H)} {x1 : Int32} {x4 : Int32} {x5 : Int32} {x6 : Int32} {x7 : Int32} {x8 : Int32} {h : hs_H} {r : Int32 × hs_H} (hk21 : ∀ y1 y2 y3 y4 y5 h r, k21 (y1, y2, y3, y4, y5, h) = some r → hs_fr [] h r.2) (hk36 : ∀ y1 y2 y3 y4 y5 y6 h r, k36 (y1, y2, y3, y4, y5, y6, h) = some r → hs_fr [] h r.2) (e : hb_18_36 k21 k36 x1 x4 x5 x6 x7 x8 h = some r) : hs_fr [] h r.2 := by
  unfold hb_18_36 at e
  rcases hz_if e with e | e
  · have fk := hz_b18_94 hk21 e
    exact (hs_fr.rf (K := []) (h := h)).tr fk
  · obtain ⟨q5, eq5, e⟩ := hs_bind_some e
    have fq5 := (hs_fr.rf (K := []) (h := h)).tr ((hz_147 eq5).sub hs_sub_nil)
    rcases hz_if e with e | e
    · have fk := hz_b18_94 hk21 e
      exact fq5.tr fk
    · obtain ⟨q7, eq7, e⟩ := hs_bind_some e
      have fq7 := fq5.tr ((hz_147 eq7).sub hs_sub_nil)
      rcases hz_if e with e | e
      · have fk := hz_b18_88 hk21 hk36 e
        exact fq7.tr fk
      · obtain ⟨q9, eq9, e⟩ := hs_bind_some e
        have fq9 := fq7.tr ((hz_22 eq9).sub hs_sub_nil)
        replace e := (hs_ck_some e).2
        obtain ⟨q11, eq11, e⟩ := hs_bind_some e
        have fq11 := fq9.tr ((hz_243 eq11).sub hs_sub_nil)
        have fk := hz_b18_88 hk21 hk36 e
        exact fq11.tr fk
theorem hz_b18_21 {k21 : Int32 × Int32 × Int32 × Int32 × Int32 × hs_H → Option (Int32 × hs_H)} {x1 : Int32} {x4 : Int32} {x5 : Int32} {x6 : Int32} {x7 : Int32} {h : hs_H} {r : Int32 × hs_H} (hk21 : ∀ y1 y2 y3 y4 y5 h r, k21 (y1, y2, y3, y4, y5, h) = some r → hs_fr [] h r.2) (e : hb_18_21 k21 x1 x4 x5 x6 x7 h = some r) : hs_fr [] h r.2 := by
  unfold hb_18_21 at e
  rcases hz_if e with e | e
  · obtain rfl := Option.some.inj e
    exact (hs_fr.rf (K := []) (h := h))
  · have fl := hz_lp7 (f := fun k s => hb_18_36 k21 k s.1 s.2.1 s.2.2.1 s.2.2.2.1 s.2.2.2.2.1 s.2.2.2.2.2.1 s.2.2.2.2.2.2) (G := fun r => r.2) (fun k hk y1 y2 y3 y4 y5 y6 h r e => hz_b18_36 hk21 hk e) e
    exact (hs_fr.rf (K := []) (h := h)).tr fl
theorem hz_18 {a1 : Int32} {a2 : Int32} {a3 : Int32} {h : hs_H} {r : Int32 × hs_H} (e : hf_18 a1 a2 a3 h = some r) : hs_fr [] h r.2 := by
  unfold hf_18 at e
  obtain ⟨q1, eq1, e⟩ := hs_bind_some e
  have fq1 := (hs_fr.rf (K := []) (h := h)).tr ((hz_20 eq1).sub hs_sub_nil)
  obtain ⟨q2, eq2, e⟩ := hs_bind_some e
  have fq2 := fq1.tr ((hz_20 eq2).sub hs_sub_nil)
  have fl := hz_lp6 (f := fun k s => hb_18_21 k s.1 s.2.1 s.2.2.1 s.2.2.2.1 s.2.2.2.2.1 s.2.2.2.2.2) (G := fun r => r.2) (fun k hk y1 y2 y3 y4 y5 h r e => hz_b18_21 hk e) e
  exact fq2.tr fl
theorem hz_b17_68 {k21 : Int32 × Int32 × Int32 × Int32 × Int32 × Int32 × hs_H → Option (Int32 × hs_H)} {x2 : Int32} {x3 : Int32} {x4 : Int32} {x5 : Int32} {x6 : Int32} {x7 : Int32} {h : hs_H} {r : Int32 × hs_H} (hk21 : ∀ y1 y2 y3 y4 y5 y6 h r, k21 (y1, y2, y3, y4, y5, y6, h) = some r → hs_fr [] h r.2) (e : hb_17_68 k21 x2 x3 x4 x5 x6 x7 h = some r) : hs_fr [] h r.2 := by
  unfold hb_17_68 at e
  have fk := hk21 _ _ _ _ _ _ _ _ e
  exact (hs_fr.rf (K := []) (h := h)).tr fk
theorem hz_b17_21 {k21 : Int32 × Int32 × Int32 × Int32 × Int32 × Int32 × hs_H → Option (Int32 × hs_H)} {x2 : Int32} {x3 : Int32} {x4 : Int32} {x5 : Int32} {x6 : Int32} {x7 : Int32} {h : hs_H} {r : Int32 × hs_H} (hk21 : ∀ y1 y2 y3 y4 y5 y6 h r, k21 (y1, y2, y3, y4, y5, y6, h) = some r → hs_fr [] h r.2) (e : hb_17_21 k21 x2 x3 x4 x5 x6 x7 h = some r) : hs_fr [] h r.2 := by
  unfold hb_17_21 at e
  rcases hz_if e with e | e
  · obtain rfl := Option.some.inj e
    exact (hs_fr.rf (K := []) (h := h))
  · obtain ⟨q3, eq3, e⟩ := hs_bind_some e
    have fq3 := (hs_fr.rf (K := []) (h := h)).tr ((hz_147 eq3).sub hs_sub_nil)
    rcases hz_if e with e | e
    · have fk := hz_b17_68 hk21 e
      exact fq3.tr fk
    · obtain ⟨q5, eq5, e⟩ := hs_bind_some e
      have fq5 := fq3.tr ((hz_18 eq5).sub hs_sub_nil)
      rcases hz_if e with e | e
      · have fk := hz_b17_68 hk21 e
        exact fq5.tr fk
      · have fk := hz_b17_68 hk21 e
        exact fq5.tr fk
theorem hz_17 {a1 : Int32} {a2 : Int32} {a3 : Int32} {h : hs_H} {r : Int32 × hs_H} (e : hf_17 a1 a2 a3 h = some r) : hs_fr [] h r.2 := by
  unfold hf_17 at e
  obtain ⟨q1, eq1, e⟩ := hs_bind_some e
  have fq1 := (hs_fr.rf (K := []) (h := h)).tr ((hz_40 eq1).sub hs_sub_nil)
  have fl := hz_lp7 (f := fun k s => hb_17_21 k s.1 s.2.1 s.2.2.1 s.2.2.2.1 s.2.2.2.2.1 s.2.2.2.2.2.1 s.2.2.2.2.2.2) (G := fun r => r.2) (fun k hk y1 y2 y3 y4 y5 y6 h r e => hz_b17_21 hk e) e
  exact fq1.tr fl
theorem hz_b132_33 {h : hs_H} {r : Int32 × hs_H} (e : hb_132_33 h = some r) : hs_fr [(1, some 0), (24, some 0), (25, some 0), (26, some 0)] h r.2 := by
  unfold hb_132_33 at e
  obtain rfl := Option.some.inj e
  exact (hs_fr.rf (K := [(1, some 0), (24, some 0), (25, some 0), (26, some 0)]) (h := h))
theorem hz_b132_45 {h : hs_H} {r : Int32 × hs_H} (e : hb_132_45 h = some r) : hs_fr [(1, some 0), (24, some 0), (25, some 0), (26, some 0)] h r.2 := by
  unfold hb_132_45 at e
  obtain rfl := Option.some.inj e
  exact (hs_fr.rf (K := [(1, some 0), (24, some 0), (25, some 0), (26, some 0)]) (h := h))
theorem hz_132 {a1 : Int32} {a2 : Int32} {a3 : Int32} {h : hs_H} {r : Int32 × hs_H} (e : hf_132 a1 a2 a3 h = some r) : hs_fr [(1, some 0), (24, some 0), (25, some 0), (26, some 0)] h r.2 := by
  unfold hf_132 at e
  obtain ⟨q1, eq1, e⟩ := hs_bind_some e
  have fq1 := (hs_fr.rf (K := [(1, some 0), (24, some 0), (25, some 0), (26, some 0)]) (h := h)).tr ((hz_29 eq1).sub hs_sub_nil)
  rcases hz_if e with e | e
  · have fk := hz_b132_33  e
    exact fq1.tr fk
  · obtain ⟨q3, eq3, e⟩ := hs_bind_some e
    have fq3 := fq1.tr ((hz_29 eq3).sub hs_sub_nil)
    rcases hz_if e with e | e
    · have fk := hz_b132_33  e
      exact fq3.tr fk
    · obtain ⟨q5, eq5, e⟩ := hs_bind_some e
      have fq5 := fq3.tr ((hz_29 eq5).sub hs_sub_nil)
      rcases hz_if e with e | e
      · rcases hz_if e with e | e
        · have fk := hz_b132_45  e
          exact fq5.tr fk
        · rcases hz_if e with e | e
          · obtain ⟨q9, eq9, e⟩ := hs_bind_some e
            have fq9 := fq5.tr ((hz_10 eq9).sub (hs_sub_cons (.inl (.head _)) (hs_sub_cons (.inl (.tail _ (.head _))) (hs_sub_cons (.inl (.tail _ (.tail _ (.head _)))) (hs_sub_cons (.inl (.tail _ (.tail _ (.tail _ (.head _))))) hs_sub_nil)))))
            obtain ⟨q10, eq10, e⟩ := hs_bind_some e
            have fq10 := fq9.tr ((hz_17 eq10).sub hs_sub_nil)
            obtain rfl := Option.some.inj e
            exact fq10
          · have fk := hz_b132_45  e
            exact fq5.tr fk
      · have fk := hz_b132_33  e
        exact fq5.tr fk
theorem hz_b242_10 {s0 : Int32} {h : hs_H} {r : Int32 × hs_H} (e : hb_242_10 s0 h = some r) : hs_fr [] h r.2 := by
  unfold hb_242_10 at e
  obtain rfl := Option.some.inj e
  exact (hs_fr.rf (K := []) (h := h))
theorem hz_242 {a0 : Int32} {a1 : Int32} {h : hs_H} {r : Int32 × hs_H} (e : hf_242 a0 a1 h = some r) : hs_fr [] h r.2 := by
  unfold hf_242 at e
  rcases hz_if e with e | e
  · have fk := hz_b242_10  e
    exact (hs_fr.rf (K := []) (h := h)).tr fk
  · have fk := hz_b242_10  e
    exact (hs_fr.rf (K := []) (h := h)).tr fk
theorem hz_b19_52 {s0 : Int32} {h : hs_H} {r : Int32 × hs_H} (e : hb_19_52 s0 h = some r) : hs_fr [] h r.2 := by
  unfold hb_19_52 at e
  obtain rfl := Option.some.inj e
  exact (hs_fr.rf (K := []) (h := h))
theorem hz_b19_5 {k5 : Int32 × Int32 × Int32 × Int32 × hs_H → Option (Int32 × hs_H)} {x1 : Int32} {x2 : Int32} {x3 : Int32} {x4 : Int32} {h : hs_H} {r : Int32 × hs_H} (hk5 : ∀ y1 y2 y3 y4 h r, k5 (y1, y2, y3, y4, h) = some r → hs_fr [] h r.2) (e : hb_19_5 k5 x1 x2 x3 x4 h = some r) : hs_fr [] h r.2 := by
  unfold hb_19_5 at e
  rcases hz_if e with e | e
  · rcases hz_if e with e | e
    · have fk := hz_b19_52  e
      exact (hs_fr.rf (K := []) (h := h)).tr fk
    · have fk := hz_b19_52  e
      exact (hs_fr.rf (K := []) (h := h)).tr fk
  · obtain ⟨q3, eq3, e⟩ := hs_bind_some e
    have fq3 := (hs_fr.rf (K := []) (h := h)).tr ((hz_22 eq3).sub hs_sub_nil)
    replace e := (hs_ck_some e).2
    obtain ⟨q5, eq5, e⟩ := hs_bind_some e
    have fq5 := fq3.tr ((hz_242 eq5).sub hs_sub_nil)
    have fk := hk5 _ _ _ _ _ _ e
    exact fq5.tr fk
theorem hz_19 {a1 : Int32} {a2 : Int32} {h : hs_H} {r : Int32 × hs_H} (e : hf_19 a1 a2 h = some r) : hs_fr [] h r.2 := by
  unfold hf_19 at e
  have fl := hz_lp5 (f := fun k s => hb_19_5 k s.1 s.2.1 s.2.2.1 s.2.2.2.1 s.2.2.2.2) (G := fun r => r.2) (fun k hk y1 y2 y3 y4 h r e => hz_b19_5 hk e) e
  exact (hs_fr.rf (K := []) (h := h)).tr fl
theorem hz_149 {a0 : Int32} {a1 : Int32} {h : hs_H} {r : Int32 × hs_H} (e : hf_149 a0 a1 h = some r) : hs_fr [] h r.2 := by
  unfold hf_149 at e
  obtain rfl := Option.some.inj e
  exact (hs_fr.rf (K := []) (h := h))
theorem hz_b133_9 {h : hs_H} {r : Int32 × hs_H} (e : hb_133_9 h = some r) : hs_fr [(1, some 0), (24, some 0), (25, some 0), (26, some 0)] h r.2 := by
  unfold hb_133_9 at e
  obtain rfl := Option.some.inj e
  exact (hs_fr.rf (K := [(1, some 0), (24, some 0), (25, some 0), (26, some 0)]) (h := h))
theorem hz_b133_119 {s0 : Int32} {h : hs_H} {r : Int32 × hs_H} (e : hb_133_119 s0 h = some r) : hs_fr [(1, some 0), (24, some 0), (25, some 0), (26, some 0)] h r.2 := by
  unfold hb_133_119 at e
  obtain rfl := Option.some.inj e
  exact (hs_fr.rf (K := [(1, some 0), (24, some 0), (25, some 0), (26, some 0)]) (h := h))
theorem hz_b133_98 {k27 : Int32 × Int32 × Int32 × Int32 × hs_H → Option (Int32 × hs_H)} {k43 : Int32 × Int32 × Int32 × Int32 × Int32 × hs_H → Option (Int32 × hs_H)} {x1 : Int32} {x2 : Int32} {x3 : Int32} {x4 : Int32} {x5 : Int32} {h : hs_H} {r : Int32 × hs_H} (hk27 : ∀ y1 y2 y3 y4 h r, k27 (y1, y2, y3, y4, h) = some r → hs_fr [(1, some 0), (24, some 0), (25, some 0), (26, some 0)] h r.2) (hk43 : ∀ y1 y2 y3 y4 y5 h r, k43 (y1, y2, y3, y4, y5, h) = some r → hs_fr [(1, some 0), (24, some 0), (25, some 0), (26, some 0)] h r.2) (e : hb_133_98 k27 k43 x1 x2 x3 x4 x5 h = some r) : hs_fr [(1, some 0), (24, some 0), (25, some 0), (26, some 0)] h r.2 := by
  unfold hb_133_98 at e
  have fk := hk43 _ _ _ _ _ _ _ e
  exact (hs_fr.rf (K := [(1, some 0), (24, some 0), (25, some 0), (26, some 0)]) (h := h)).tr fk
theorem hz_b133_87 {k27 : Int32 × Int32 × Int32 × Int32 × hs_H → Option (Int32 × hs_H)} {k43 : Int32 × Int32 × Int32 × Int32 × Int32 × hs_H → Option (Int32 × hs_H)} {x1 : Int32} {x4 : Int32} {x5 : Int32} {x6 : Int32} {h : hs_H} {r : Int32 × hs_H} (hk27 : ∀ y1 y2 y3 y4 h r, k27 (y1, y2, y3, y4, h) = some r → hs_fr [(1, some 0), (24, some 0), (25, some 0), (26, some 0)] h r.2) (hk43 : ∀ y1 y2 y3 y4 y5 h r, k43 (y1, y2, y3, y4, y5, h) = some r → hs_fr [(1, some 0), (24, some 0), (25, some 0), (26, some 0)] h r.2) (e : hb_133_87 k27 k43 x1 x4 x5 x6 h = some r) : hs_fr [(1, some 0), (24, some 0), (25, some 0), (26, some 0)] h r.2 := by
  unfold hb_133_87 at e
  obtain ⟨q10, eq10, e⟩ := hs_bind_some e
  have fq10 := (hs_fr.rf (K := [(1, some 0), (24, some 0), (25, some 0), (26, some 0)]) (h := h)).tr ((hz_149 eq10).sub hs_sub_nil)
  have fk := hz_b133_98 hk27 hk43 e
  exact fq10.tr fk
theorem hz_b133_43 {k27 : Int32 × Int32 × Int32 × Int32 × hs_H → Option (Int32 × hs_H)} {k43 : Int32 × Int32 × Int32 × Int32 × Int32 × hs_H → Option (Int32 × hs_H)} {x1 : Int32} {x2 : Int32} {x3 : Int32} {x4 : Int32} {x5 : Int32} {h : hs_H} {r : Int32 × hs_H} (hk27 : ∀ y1 y2 y3 y4 h r, k27 (y1, y2, y3, y4, h) = some r → hs_fr [(1, some 0), (24, some 0), (25, some 0), (26, some 0)] h r.2) (hk43 : ∀ y1 y2 y3 y4 y5 h r, k43 (y1, y2, y3, y4, y5, h) = some r → hs_fr [(1, some 0), (24, some 0), (25, some 0), (26, some 0)] h r.2) (e : hb_133_43 k27 k43 x1 x2 x3 x4 x5 h = some r) : hs_fr [(1, some 0), (24, some 0), (25, some 0), (26, some 0)] h r.2 := by
  unfold hb_133_43 at e
  rcases hz_if e with e | e
  · have fk := hk27 _ _ _ _ _ _ e
    exact (hs_fr.rf (K := [(1, some 0), (24, some 0), (25, some 0), (26, some 0)]) (h := h)).tr fk
  · obtain ⟨q7, eq7, e⟩ := hs_bind_some e
    have fq7 := (hs_fr.rf (K := [(1, some 0), (24, some 0), (25, some 0), (26, some 0)]) (h := h)).tr ((hz_19 eq7).sub hs_sub_nil)
    rcases hz_if e with e | e
    · have fk := hz_b133_98 hk27 hk43 e
      exact fq7.tr fk
    · rcases hz_if e with e | e
      · have fk := hz_b133_87 hk27 hk43 e
        exact fq7.tr fk
      · rcases hz_if e with e | e
        · have fk := hz_b133_98 hk27 hk43 e
          exact fq7.tr fk
        · have fk := hz_b133_87 hk27 hk43 e
          exact fq7.tr fk
theorem hz_b133_27 {k27 : Int32 × Int32 × Int32 × Int32 × hs_H → Option (Int32 × hs_H)} {x1 : Int32} {x2 : Int32} {x3 : Int32} {x4 : Int32} {h : hs_H} {r : Int32 × hs_H} (hk27 : ∀ y1 y2 y3 y4 h r, k27 (y1, y2, y3, y4, h) = some r → hs_fr [(1, some 0), (24, some 0), (25, some 0), (26, some 0)] h r.2) (e : hb_133_27 k27 x1 x2 x3 x4 h = some r) : hs_fr [(1, some 0), (24, some 0), (25, some 0), (26, some 0)] h r.2 := by
  unfold hb_133_27 at e
  rcases hz_if e with e | e
  · rcases hz_if e with e | e
    · have fk := hz_b133_119  e
      exact (hs_fr.rf (K := [(1, some 0), (24, some 0), (25, some 0), (26, some 0)]) (h := h)).tr fk
    · have fk := hz_b133_119  e
      exact (hs_fr.rf (K := [(1, some 0), (24, some 0), (25, some 0), (26, some 0)]) (h := h)).tr fk
  · have fl := hz_lp6 (f := fun k s => hb_133_43 k27 k s.1 s.2.1 s.2.2.1 s.2.2.2.1 s.2.2.2.2.1 s.2.2.2.2.2) (G := fun r => r.2) (fun k hk y1 y2 y3 y4 y5 h r e => hz_b133_43 hk27 hk e) e
    exact (hs_fr.rf (K := [(1, some 0), (24, some 0), (25, some 0), (26, some 0)]) (h := h)).tr fl
theorem hz_133 {a1 : Int32} {h : hs_H} {r : Int32 × hs_H} (e : hf_133 a1 h = some r) : hs_fr [(1, some 0), (24, some 0), (25, some 0), (26, some 0)] h r.2 := by
  unfold hf_133 at e
  rcases hz_if e with e | e
  · have fk := hz_b133_9  e
    exact (hs_fr.rf (K := [(1, some 0), (24, some 0), (25, some 0), (26, some 0)]) (h := h)).tr fk
  · rcases hz_if e with e | e
    · obtain ⟨q3, eq3, e⟩ := hs_bind_some e
      have fq3 := (hs_fr.rf (K := [(1, some 0), (24, some 0), (25, some 0), (26, some 0)]) (h := h)).tr ((hz_10 eq3).sub (hs_sub_cons (.inl (.head _)) (hs_sub_cons (.inl (.tail _ (.head _))) (hs_sub_cons (.inl (.tail _ (.tail _ (.head _)))) (hs_sub_cons (.inl (.tail _ (.tail _ (.tail _ (.head _))))) hs_sub_nil)))))
      have fl := hz_lp5 (f := fun k s => hb_133_27 k s.1 s.2.1 s.2.2.1 s.2.2.2.1 s.2.2.2.2) (G := fun r => r.2) (fun k hk y1 y2 y3 y4 h r e => hz_b133_27 hk e) e
      exact fq3.tr fl
    · have fk := hz_b133_9  e
      exact (hs_fr.rf (K := [(1, some 0), (24, some 0), (25, some 0), (26, some 0)]) (h := h)).tr fk
theorem hz_b44_70 {o : Nat} {x5 : Int32} {h : hs_H} {r : Int32 × hs_H} (e : hb_44_70 o x5 h = some r) : hs_fr [] h r.2 := by
  unfold hb_44_70 at e
  obtain rfl := Option.some.inj e
  exact (hs_fr.rf (K := []) (h := h))
theorem hz_b44_18 {o : Nat} {k18 : Int32 × Int32 × Int32 × Int32 × hs_H → Option (Int32 × hs_H)} {x3 : Int32} {x4 : Int32} {x5 : Int32} {x6 : Int32} {h : hs_H} {r : Int32 × hs_H} (hk18 : ∀ y1 y2 y3 y4 h r, k18 (y1, y2, y3, y4, h) = some r → hs_fr [] h r.2) (e : hb_44_18 o k18 x3 x4 x5 x6 h = some r) : hs_fr [] h r.2 := by
  unfold hb_44_18 at e
  rcases hz_if e with e | e
  · have fk := hz_b44_70  e
    exact (hs_fr.rf (K := []) (h := h)).tr fk
  · rcases hz_if e with e | e
    · have fk := hz_b44_70  e
      exact (hs_fr.rf (K := []) (h := h)).tr fk
    · obtain ⟨q3, eq3, e⟩ := hs_bind_some e
      have fq3 := (hs_fr.rf (K := []) (h := h)).tr ((hz_42 eq3).sub hs_sub_nil)
      obtain ⟨q4, eq4, e⟩ := hs_bind_some e
      have fq4 := fq3.tr ((hz_42 eq4).sub hs_sub_nil)
      have fk := hk18 _ _ _ _ _ _ e
      exact fq4.tr fk
theorem hz_44 {o : Nat} {a1 : Int32} {a2 : Int32} {h : hs_H} {r : Int32 × hs_H} (e : hf_44 o a1 a2 h = some r) : hs_fr [] h r.2 := by
  unfold hf_44 at e
  have fl := hz_lp5 (f := fun k s => hb_44_18 o k s.1 s.2.1 s.2.2.1 s.2.2.2.1 s.2.2.2.2) (G := fun r => r.2) (fun k hk y1 y2 y3 y4 h r e => hz_b44_18 hk e) e
  exact (hs_fr.rf (K := []) (h := h)).tr fl
theorem hz_b134_35 {s0 : Int32} {h : hs_H} {r : Int32 × hs_H} (e : hb_134_35 s0 h = some r) : hs_fr [] h r.2 := by
  unfold hb_134_35 at e
  obtain rfl := Option.some.inj e
  exact (hs_fr.rf (K := []) (h := h))
theorem hz_b134_34 {h : hs_H} {r : Int32 × hs_H} (e : hb_134_34 h = some r) : hs_fr [] h r.2 := by
  unfold hb_134_34 at e
  have fk := hz_b134_35  e
  exact (hs_fr.rf (K := []) (h := h)).tr fk
theorem hz_134 {a1 : Int32} {a2 : Int32} {h : hs_H} {r : Int32 × hs_H} (e : hf_134 a1 a2 h = some r) : hs_fr [] h r.2 := by
  unfold hf_134 at e
  obtain ⟨q1, eq1, e⟩ := hs_bind_some e
  have fq1 := (hs_fr.rf (K := []) (h := h)).tr ((hz_29 eq1).sub hs_sub_nil)
  rcases hz_if e with e | e
  · have fk := hz_b134_34  e
    exact fq1.tr fk
  · obtain ⟨q3, eq3, e⟩ := hs_bind_some e
    have fq3 := fq1.tr ((hz_30 eq3).sub hs_sub_nil)
    rcases hz_if e with e | e
    · have fk := hz_b134_34  e
      exact fq3.tr fk
    · obtain ⟨q5, eq5, e⟩ := hs_bind_some e
      have fq5 := fq3.tr ((hz_44 eq5).sub hs_sub_nil)
      have fk := hz_b134_35  e
      exact fq5.tr fk
theorem hz_45 {o : Nat} {a1 : Int32} {a2 : Int32} {a3 : Int32} {a4 : Int32} {h : hs_H} {r : Int32 × hs_H} (e : hf_45 o a1 a2 a3 a4 h = some r) : hs_fr [(4, some o), (27, none)] h r.2 := by
  unfold hf_45 at e
  obtain ⟨q1, eq1, e⟩ := hs_bind_some e
  have fq1 := (hs_fr.rf (K := [(4, some o), (27, none)]) (h := h)).tr ((hz_34 eq1).sub (hs_sub_cons (.inl (.head _)) (hs_sub_cons (.inl (.tail _ (.head _))) hs_sub_nil)))
  obtain ⟨q2, eq2, e⟩ := hs_bind_some e
  have fq2 := fq1.tr ((hz_44 eq2).sub hs_sub_nil)
  obtain ⟨q3, eq3, e⟩ := hs_bind_some e
  have fq3 := fq2.tr ((hz_34 eq3).sub (hs_sub_cons (.inl (.head _)) (hs_sub_cons (.inl (.tail _ (.head _))) hs_sub_nil)))
  obtain rfl := Option.some.inj e
  exact fq3
theorem hz_b135_31 {h : hs_H} {r : Int32 × hs_H} (e : hb_135_31 h = some r) : hs_fr [(4, some 0), (27, none)] h r.2 := by
  unfold hb_135_31 at e
  obtain rfl := Option.some.inj e
  exact (hs_fr.rf (K := [(4, some 0), (27, none)]) (h := h))
theorem hz_b135_166 {s0 : Int32} {h : hs_H} {r : Int32 × hs_H} (e : hb_135_166 s0 h = some r) : hs_fr [(4, some 0), (27, none)] h r.2 := by
  unfold hb_135_166 at e
  obtain rfl := Option.some.inj e
  exact (hs_fr.rf (K := [(4, some 0), (27, none)]) (h := h))
theorem hz_b135_159 {x4 : Int32} {h : hs_H} {r : Int32 × hs_H} (e : hb_135_159 x4 h = some r) : hs_fr [(4, some 0), (27, none)] h r.2 := by
  unfold hb_135_159 at e
  have fk := hz_b135_166  e
  exact (hs_fr.rf (K := [(4, some 0), (27, none)]) (h := h)).tr fk
theorem hz_b135_136 {k54 : Int32 × Int32 × Int32 × Int32 × Int32 × Int32 × hs_H → Option (Int32 × hs_H)} {k72 : Int32 × Int32 × Int32 × Int32 × Int32 × Int32 × Int32 × hs_H → Option (Int32 × hs_H)} {x1 : Int32} {x2 : Int32} {x3 : Int32} {x4 : Int32} {x5 : Int32} {x6 : Int32} {x7 : Int32} {h : hs_H} {r : Int32 × hs_H} (hk54 : ∀ y1 y2 y3 y4 y5 y6 h r, k54 (y1, y2, y3, y4, y5, y6, h) = some r → hs_fr [(4, some 0), (27, none)] h r.2) (hk72 : ∀ y1 y2 y3 y4 y5 y6 y7 h r, k72 (y1, y2, y3, y4, y5, y6, y7, h) = some r → hs_fr [(4, some 0), (27, none)] h r.2) (e : hb_135_136 k54 k72 x1 x2 x3 x4 x5 x6 x7 h = some r) : hs_fr [(4, some 0), (27, none)] h r.2 := by
  unfold hb_135_136 at e
  have fk := hk72 _ _ _ _ _ _ _ _ _ e
  exact (hs_fr.rf (K := [(4, some 0), (27, none)]) (h := h)).tr fk
theorem hz_b135_72 {k54 : Int32 × Int32 × Int32 × Int32 × Int32 × Int32 × hs_H → Option (Int32 × hs_H)} {k72 : Int32 × Int32 × Int32 × Int32 × Int32 × Int32 × Int32 × hs_H → Option (Int32 × hs_H)} {x1 : Int32} {x2 : Int32} {x3 : Int32} {x4 : Int32} {x5 : Int32} {x6 : Int32} {x7 : Int32} {h : hs_H} {r : Int32 × hs_H} (hk54 : ∀ y1 y2 y3 y4 y5 y6 h r, k54 (y1, y2, y3, y4, y5, y6, h) = some r → hs_fr [(4, some 0), (27, none)] h r.2) (hk72 : ∀ y1 y2 y3 y4 y5 y6 y7 h r, k72 (y1, y2, y3, y4, y5, y6, y7, h) = some r → hs_fr [(4, some 0), (27, none)] h r.2) (e : hb_135_72 k54 k72 x1 x2 x3 x4 x5 x6 x7 h = some r) : hs_fr [(4, some 0), (27, none)] h r.2 := by
  unfold hb_135_72 at e
  rcases hz_if e with e | e
  · have fk := hk54 _ _ _ _ _ _ _ _ e
    exact (hs_fr.rf (K := [(4, some 0), (27, none)]) (h := h)).tr fk
  · obtain ⟨q13, eq13, e⟩ := hs_bind_some e
    have fq13 := (hs_fr.rf (K := [(4, some 0), (27, none)]) (h := h)).tr ((hz_33 eq13).sub hs_sub_nil)
    rcases hz_if e with e | e
    · have fk := hz_b135_136 hk54 hk72 e
      exact fq13.tr fk
    · obtain ⟨q15, eq15, e⟩ := hs_bind_some e
      have fq15 := fq13.tr ((hz_45 eq15).sub (hs_sub_cons (.inl (.head _)) (hs_sub_cons (.inl (.tail _ (.head _))) hs_sub_nil)))
      obtain ⟨q16, eq16, e⟩ := hs_bind_some e
      have fq16 := fq15.tr ((hz_240 eq16).sub hs_sub_nil)
      rcases hz_if e with e | e
      · have fk := hz_b135_136 hk54 hk72 e
        exact fq16.tr fk
      · obtain ⟨q18, eq18, e⟩ := hs_bind_some e
        have fq18 := fq16.tr ((hz_149 eq18).sub hs_sub_nil)
        have fk := hz_b135_136 hk54 hk72 e
        exact fq18.tr fk
theorem hz_b135_54 {k54 : Int32 × Int32 × Int32 × Int32 × Int32 × Int32 × hs_H → Option (Int32 × hs_H)} {x1 : Int32} {x2 : Int32} {x3 : Int32} {x4 : Int32} {x5 : Int32} {x6 : Int32} {h : hs_H} {r : Int32 × hs_H} (hk54 : ∀ y1 y2 y3 y4 y5 y6 h r, k54 (y1, y2, y3, y4, y5, y6, h) = some r → hs_fr [(4, some 0), (27, none)] h r.2) (e : hb_135_54 k54 x1 x2 x3 x4 x5 x6 h = some r) : hs_fr [(4, some 0), (27, none)] h r.2 := by
  unfold hb_135_54 at e
  rcases hz_if e with e | e
  · rcases hz_if e with e | e
    · have fk := hz_b135_159  e
      exact (hs_fr.rf (K := [(4, some 0), (27, none)]) (h := h)).tr fk
    · rcases hz_if e with e | e
      · have fk := hz_b135_166  e
        exact (hs_fr.rf (K := [(4, some 0), (27, none)]) (h := h)).tr fk
      · have fk := hz_b135_159  e
        exact (hs_fr.rf (K := [(4, some 0), (27, none)]) (h := h)).tr fk
  · have fl := hz_lp8 (f := fun k s => hb_135_72 k54 k s.1 s.2.1 s.2.2.1 s.2.2.2.1 s.2.2.2.2.1 s.2.2.2.2.2.1 s.2.2.2.2.2.2.1 s.2.2.2.2.2.2.2) (G := fun r => r.2) (fun k hk y1 y2 y3 y4 y5 y6 y7 h r e => hz_b135_72 hk54 hk e) e
    exact (hs_fr.rf (K := [(4, some 0), (27, none)]) (h := h)).tr fl
theorem hz_135 {a1 : Int32} {a2 : Int32} {a3 : Int32} {h : hs_H} {r : Int32 × hs_H} (e : hf_135 a1 a2 a3 h = some r) : hs_fr [(4, some 0), (27, none)] h r.2 := by
  unfold hf_135 at e
  obtain ⟨q1, eq1, e⟩ := hs_bind_some e
  have fq1 := (hs_fr.rf (K := [(4, some 0), (27, none)]) (h := h)).tr ((hz_29 eq1).sub hs_sub_nil)
  rcases hz_if e with e | e
  · have fk := hz_b135_31  e
    exact fq1.tr fk
  · obtain ⟨q3, eq3, e⟩ := hs_bind_some e
    have fq3 := fq1.tr ((hz_30 eq3).sub hs_sub_nil)
    rcases hz_if e with e | e
    · have fk := hz_b135_31  e
      exact fq3.tr fk
    · rcases hz_if e with e | e
      · have fk := hz_b135_31  e
        exact fq3.tr fk
      · rcases hz_if e with e | e
        · obtain ⟨q7, eq7, e⟩ := hs_bind_some e
          have fq7 := fq3.tr ((hz_44 eq7).sub hs_sub_nil)
          obtain ⟨q8, eq8, e⟩ := hs_bind_some e
          have fq8 := fq7.tr ((hz_240 eq8).sub hs_sub_nil)
          have fl := hz_lp7 (f := fun k s => hb_135_54 k s.1 s.2.1 s.2.2.1 s.2.2.2.1 s.2.2.2.2.1 s.2.2.2.2.2.1 s.2.2.2.2.2.2) (G := fun r => r.2) (fun k hk y1 y2 y3 y4 y5 y6 h r e => hz_b135_54 hk e) e
          exact fq8.tr fl
        · have fk := hz_b135_31  e
          exact fq3.tr fk
theorem hz_b77_36 {s0 : Int32} {h : hs_H} {r : Int32 × hs_H} (e : hb_77_36 s0 h = some r) : hs_fr [(7, some 0)] h r.2 := by
  unfold hb_77_36 at e
  obtain rfl := Option.some.inj e
  exact (hs_fr.rf (K := [(7, some 0)]) (h := h))
theorem hz_77 {a1 : Int32} {h : hs_H} {r : Int32 × hs_H} (e : hf_77 a1 h = some r) : hs_fr [(7, some 0)] h r.2 := by
  unfold hf_77 at e
  rcases hz_if e with e | e
  · have fk := hz_b77_36  e
    exact ((hs_fr.rf (K := [(7, some 0)]) (h := h)).put (.inl (.head _))).tr fk
  · replace e := (hs_ck_some e).2
    have fk := hz_b77_36  e
    exact ((hs_fr.rf (K := [(7, some 0)]) (h := h)).put (.inl (.head _))).tr fk
theorem hz_b76_11 {k11 : Int32 × Int32 × hs_H → Option (Int32 × hs_H)} {x2 : Int32} {x3 : Int32} {h : hs_H} {r : Int32 × hs_H} (hk11 : ∀ y1 y2 h r, k11 (y1, y2, h) = some r → hs_fr [(7, some 0)] h r.2) (e : hb_76_11 k11 x2 x3 h = some r) : hs_fr [(7, some 0)] h r.2 := by
  unfold hb_76_11 at e
  rcases hz_if e with e | e
  · obtain ⟨q4, eq4, e⟩ := hs_bind_some e
    have fq4 := (hs_fr.rf (K := [(7, some 0)]) (h := h)).tr ((hz_148 eq4).sub hs_sub_nil)
    obtain rfl := Option.some.inj e
    exact fq4
  · have fk := hk11 _ _ _ _ e
    exact (hs_fr.rf (K := [(7, some 0)]) (h := h)).tr fk
theorem hz_76 {a1 : Int32} {h : hs_H} {r : Int32 × hs_H} (e : hf_76 a1 h = some r) : hs_fr [(7, some 0)] h r.2 := by
  unfold hf_76 at e
  obtain ⟨q1, eq1, e⟩ := hs_bind_some e
  have fq1 := (hs_fr.rf (K := [(7, some 0)]) (h := h)).tr ((hz_240 eq1).sub hs_sub_nil)
  obtain ⟨q2, eq2, e⟩ := hs_bind_some e
  have fq2 := fq1.tr ((hz_77 eq2).sub (hs_sub_cons (.inl (.head _)) hs_sub_nil))
  have fl := hz_lp3 (f := fun k s => hb_76_11 k s.1 s.2.1 s.2.2) (G := fun r => r.2) (fun k hk y1 y2 h r e => hz_b76_11 hk e) e
  exact fq2.tr fl
theorem hz_b75_39 {s0 : Int32} {h : hs_H} {r : Int32 × hs_H} (e : hb_75_39 s0 h = some r) : hs_fr [(7, some 0)] h r.2 := by
  unfold hb_75_39 at e
  obtain rfl := Option.some.inj e
  exact (hs_fr.rf (K := [(7, some 0)]) (h := h))
theorem hz_75 {a1 : Int32} {h : hs_H} {r : Int32 × hs_H} (e : hf_75 a1 h = some r) : hs_fr [(7, some 0)] h r.2 := by
  unfold hf_75 at e
  obtain ⟨q1, eq1, e⟩ := hs_bind_some e
  have fq1 := (hs_fr.rf (K := [(7, some 0)]) (h := h)).tr ((hz_32 eq1).sub hs_sub_nil)
  obtain ⟨q2, eq2, e⟩ := hs_bind_some e
  have fq2 := fq1.tr ((hz_92 eq2).sub hs_sub_nil)
  rcases hz_if e with e | e
  · rcases hz_if e with e | e
    · obtain ⟨q5, eq5, e⟩ := hs_bind_some e
      have fq5 := fq2.tr ((hz_76 eq5).sub (hs_sub_cons (.inl (.head _)) hs_sub_nil))
      have fk := hz_b75_39  e
      exact fq5.tr fk
    · have fk := hz_b75_39  e
      exact fq2.tr fk
  · obtain rfl := Option.some.inj e
    exact fq2
theorem hz_b74_120 {k39 : Int32 × Int32 × hs_H → Option (hs_H)} {x1 : Int32} {x2 : Int32} {h : hs_H} {r : hs_H} (hk39 : ∀ y1 y2 h r, k39 (y1, y2, h) = some r → hs_fr [(7, some 0), (9, none), (33, none)] h r) (e : hb_74_120 k39 x1 x2 h = some r) : hs_fr [(7, some 0), (9, none), (33, none)] h r := by
  unfold hb_74_120 at e
  rcases hz_if e with e | e
  · have fk := hk39 _ _ _ _ e
    exact (hs_fr.rf (K := [(7, some 0), (9, none), (33, none)]) (h := h)).tr fk
  · obtain rfl := Option.some.inj e
    exact ((hs_fr.rf (K := [(7, some 0), (9, none), (33, none)]) (h := h)).put (.inl (.head _)))
theorem hz_b74_93 {k39 : Int32 × Int32 × hs_H → Option (hs_H)} {x1 : Int32} {x2 : Int32} {s0 : Int32} {s1 : Nat} {h : hs_H} {r : hs_H} (hk39 : ∀ y1 y2 h r, k39 (y1, y2, h) = some r → hs_fr [(7, some 0), (9, none), (33, none)] h r) (e : hb_74_93 k39 x1 x2 s0 s1 h = some r) : hs_fr [(7, some 0), (9, none), (33, none)] h r := by
  unfold hb_74_93 at e
  obtain ⟨q8, eq8, e⟩ := hs_bind_some e
  have fq8 := (hs_fr.rf (K := [(7, some 0), (9, none), (33, none)]) (h := h)).tr ((hz_90 eq8).sub (hs_sub_cons (.inr (.tail _ (.head _))) (hs_sub_cons (.inr (.tail _ (.tail _ (.head _)))) hs_sub_nil)))
  rcases hz_if e with e | e
  · have fk := hz_b74_120 hk39 e
    exact fq8.tr fk
  · obtain ⟨q11, eq11, e⟩ := hs_bind_some e
    have fq11 := fq8.tr ((hz_75 eq11).sub (hs_sub_cons (.inl (.head _)) hs_sub_nil))
    have fk := hz_b74_120 hk39 e
    exact fq11.tr fk
theorem hz_b74_39 {k39 : Int32 × Int32 × hs_H → Option (hs_H)} {x1 : Int32} {x2 : Int32} {h : hs_H} {r : hs_H} (hk39 : ∀ y1 y2 h r, k39 (y1, y2, h) = some r → hs_fr [(7, some 0), (9, none), (33, none)] h r) (e : hb_74_39 k39 x1 x2 h = some r) : hs_fr [(7, some 0), (9, none), (33, none)] h r := by
  unfold hb_74_39 at e
  rcases hz_if e with e | e
  · obtain rfl := Option.some.inj e
    exact (hs_fr.rf (K := [(7, some 0), (9, none), (33, none)]) (h := h))
  · obtain ⟨q5, eq5, e⟩ := hs_bind_some e
    have fq5 := ((hs_fr.rf (K := [(7, some 0), (9, none), (33, none)]) (h := h)).put (.inl (.head _))).tr ((hz_38 eq5).sub hs_sub_nil)
    rcases hz_if e with e | e
    · obtain ⟨q7, eq7, e⟩ := hs_bind_some e
      have fq7 := fq5.tr ((hz_76 eq7).sub (hs_sub_cons (.inl (.head _)) hs_sub_nil))
      have fk := hz_b74_93 hk39 e
      exact fq7.tr fk
    · have fk := hz_b74_93 hk39 e
      exact fq5.tr fk
theorem hz_74 {h : hs_H} {r : hs_H} (e : hf_74 h = some r) : hs_fr [(7, some 0), (9, none), (33, none)] h r := by
  unfold hf_74 at e
  obtain ⟨q1, eq1, e⟩ := hs_bind_some e
  have fq1 := (hs_fr.rf (K := [(7, some 0), (9, none), (33, none)]) (h := h)).tr ((hz_77 eq1).sub (hs_sub_cons (.inl (.head _)) hs_sub_nil))
  obtain ⟨q2, eq2, e⟩ := hs_bind_some e
  have fq2 := fq1.tr ((hz_89 eq2).sub (hs_sub_cons (.inr (.tail _ (.head _))) (hs_sub_cons (.inr (.tail _ (.tail _ (.head _)))) hs_sub_nil)))
  obtain ⟨q3, eq3, e⟩ := hs_bind_some e
  have fq3 := fq2.tr ((hz_77 eq3).sub (hs_sub_cons (.inl (.head _)) hs_sub_nil))
  have fl := hz_lp3 (f := fun k s => hb_74_39 k s.1 s.2.1 s.2.2) (G := fun r => r) (fun k hk y1 y2 h r e => hz_b74_39 hk e) e
  exact fq3.tr fl
theorem hz_b73_17 {k17 : Int32 × Int32 × hs_H → Option (hs_H)} {x2 : Int32} {x3 : Int32} {h : hs_H} {r : hs_H} (hk17 : ∀ y1 y2 h r, k17 (y1, y2, h) = some r → hs_fr [(7, some 0), (9, none), (33, none)] h r) (e : hb_73_17 k17 x2 x3 h = some r) : hs_fr [(7, some 0), (9, none), (33, none)] h r := by
  unfold hb_73_17 at e
  rcases hz_if e with e | e
  · obtain rfl := Option.some.inj e
    exact (hs_fr.rf (K := [(7, some 0), (9, none), (33, none)]) (h := h))
  · obtain ⟨q2, eq2, e⟩ := hs_bind_some e
    have fq2 := (hs_fr.rf (K := [(7, some 0), (9, none), (33, none)]) (h := h)).tr ((hz_74 eq2).sub (hs_sub_cons (.inl (.head _)) (hs_sub_cons (.inl (.tail _ (.head _))) (hs_sub_cons (.inl (.tail _ (.tail _ (.head _)))) hs_sub_nil))))
    have fk := hk17 _ _ _ _ e
    exact fq2.tr fk
theorem hz_73 {a1 : Int32} {a2 : Int32} {h : hs_H} {r : hs_H} (e : hf_73 a1 a2 h = some r) : hs_fr [(7, some 0), (9, none), (33, none)] h r := by
  unfold hf_73 at e
  have fl := hz_lp3 (f := fun k s => hb_73_17 k s.1 s.2.1 s.2.2) (G := fun r => r) (fun k hk y1 y2 h r e => hz_b73_17 hk e) e
  exact ((((hs_fr.rf (K := [(7, some 0), (9, none), (33, none)]) (h := h)).put (.inl (.head _))).put (.inl (.head _))).put (.inl (.head _))).tr fl
theorem hz_b136_20 {h : hs_H} {r : Int32 × hs_H} (e : hb_136_20 h = some r) : hs_fr [(7, some 0), (9, none), (33, none)] h r.2 := by
  unfold hb_136_20 at e
  obtain rfl := Option.some.inj e
  exact (hs_fr.rf (K := [(7, some 0), (9, none), (33, none)]) (h := h))
theorem hz_b136_52 {s0 : Int32} {h : hs_H} {r : Int32 × hs_H} (e : hb_136_52 s0 h = some r) : hs_fr [(7, some 0), (9, none), (33, none)] h r.2 := by
  unfold hb_136_52 at e
  obtain rfl := Option.some.inj e
  exact (hs_fr.rf (K := [(7, some 0), (9, none), (33, none)]) (h := h))
theorem hz_136 {a1 : Int32} {a2 : Int32} {a3 : Int32} {h : hs_H} {r : Int32 × hs_H} (e : hf_136 a1 a2 a3 h = some r) : hs_fr [(7, some 0), (9, none), (33, none)] h r.2 := by
  unfold hf_136 at e
  rcases hz_if e with e | e
  · have fk := hz_b136_20  e
    exact (hs_fr.rf (K := [(7, some 0), (9, none), (33, none)]) (h := h)).tr fk
  · rcases hz_if e with e | e
    · have fk := hz_b136_20  e
      exact (hs_fr.rf (K := [(7, some 0), (9, none), (33, none)]) (h := h)).tr fk
    · rcases hz_if e with e | e
      · have fk := hz_b136_20  e
        exact (hs_fr.rf (K := [(7, some 0), (9, none), (33, none)]) (h := h)).tr fk
      · rcases hz_if e with e | e
        · obtain ⟨q5, eq5, e⟩ := hs_bind_some e
          have fq5 := (hs_fr.rf (K := [(7, some 0), (9, none), (33, none)]) (h := h)).tr ((hz_73 eq5).sub (hs_sub_cons (.inl (.head _)) (hs_sub_cons (.inl (.tail _ (.head _))) (hs_sub_cons (.inl (.tail _ (.tail _ (.head _)))) hs_sub_nil))))
          rcases hz_if e with e | e
          · have fk := hz_b136_52  e
            exact fq5.tr fk
          · have fk := hz_b136_52  e
            exact fq5.tr fk
        · have fk := hz_b136_20  e
          exact (hs_fr.rf (K := [(7, some 0), (9, none), (33, none)]) (h := h)).tr fk
theorem hz_b88_9_2 {o : Nat} {p1 : Nat} {k2 : Int32 × hs_H → Option (hs_H)} {x2 : Int32} {h : hs_H} {r : hs_H} (hk2 : ∀ y1 h r, k2 (y1, h) = some r → hs_fr [(9, some o), (33, some o)] h r) (e : hb_88_9_2 o p1 k2 x2 h = some r) : hs_fr [(9, some o), (33, some o)] h r := by
  unfold hb_88_9_2 at e
  rcases hz_if e with e | e
  · obtain rfl := Option.some.inj e
    exact (((hs_fr.rf (K := [(9, some o), (33, some o)]) (h := h)).put (.inl (.head _))).put (.inl (.head _)))
  · replace e := (hs_ck_some e).2
    replace e := (hs_ck_some e).2
    have fk := hk2 _ _ _ e
    exact ((hs_fr.rf (K := [(9, some o), (33, some o)]) (h := h)).put (.inl (.tail _ (.head _)))).tr fk
theorem hz_88_9 {o : Nat} {p1 : Nat} {h : hs_H} {r : hs_H} (e : hf_88_9 o p1 h = some r) : hs_fr [(9, some o), (33, some o)] h r := by
  unfold hf_88_9 at e
  have fl := hz_lp2 (f := fun k s => hb_88_9_2 o p1 k s.1 s.2) (G := fun r => r) (fun k hk y1 h r e => hz_b88_9_2 hk e) e
  exact (hs_fr.rf (K := [(9, some o), (33, some o)]) (h := h)).tr fl
theorem hz_b137_9 {h : hs_H} {r : Int32 × hs_H} (e : hb_137_9 h = some r) : hs_fr [(3, none), (4, none), (5, none), (9, none), (27, none), (28, none), (29, none), (30, none), (33, none)] h r.2 := by
  unfold hb_137_9 at e
  obtain rfl := Option.some.inj e
  exact (hs_fr.rf (K := [(3, none), (4, none), (5, none), (9, none), (27, none), (28, none), (29, none), (30, none), (33, none)]) (h := h))
theorem hz_b137_30 {x2 : Nat} {s0 : Int32} {h : hs_H} {r : Int32 × hs_H} (e : hb_137_30 x2 s0 h = some r) : hs_fr [(3, none), (4, none), (5, none), (9, none), (27, none), (28, none), (29, none), (30, none), (33, none)] h r.2 := by
  unfold hb_137_30 at e
  obtain ⟨q5, eq5, e⟩ := hs_bind_some e
  have fq5 := ((hs_fr.rf (K := [(3, none), (4, none), (5, none), (9, none), (27, none), (28, none), (29, none), (30, none), (33, none)]) (h := h)).put (.inr (.head _))).tr ((hz_28_4 eq5).sub (hs_sub_cons (.inr (.tail _ (.head _))) (hs_sub_cons (.inr (.tail _ (.tail _ (.tail _ (.tail _ (.head _)))))) hs_sub_nil)))
  obtain ⟨q6, eq6, e⟩ := hs_bind_some e
  have fq6 := fq5.tr ((hz_88_9 eq6).sub (hs_sub_cons (.inr (.tail _ (.tail _ (.tail _ (.head _))))) (hs_sub_cons (.inr (.tail _ (.tail _ (.tail _ (.tail _ (.tail _ (.tail _ (.tail _ (.tail _ (.head _)))))))))) hs_sub_nil)))
  obtain ⟨q7, eq7, e⟩ := hs_bind_some e
  have fq7 := fq6.tr ((hz_48_5 eq7).sub (hs_sub_cons (.inr (.tail _ (.tail _ (.head _)))) (hs_sub_cons (.inr (.tail _ (.tail _ (.tail _ (.tail _ (.tail _ (.head _))))))) (hs_sub_cons (.inr (.tail _ (.tail _ (.tail _ (.tail _ (.tail _ (.tail _ (.head _)))))))) (hs_sub_cons (.inr (.tail _ (.tail _ (.tail _ (.tail _ (.tail _ (.tail _ (.tail _ (.head _))))))))) hs_sub_nil)))))
  obtain rfl := Option.some.inj e
  exact fq7
theorem hz_137 {a1 : Int32} {h : hs_H} {r : Int32 × hs_H} (e : hf_137 a1 h = some r) : hs_fr [(3, none), (4, none), (5, none), (9, none), (27, none), (28, none), (29, none), (30, none), (33, none)] h r.2 := by
  unfold hf_137 at e
  rcases hz_if e with e | e
  · have fk := hz_b137_9  e
    exact (hs_fr.rf (K := [(3, none), (4, none), (5, none), (9, none), (27, none), (28, none), (29, none), (30, none), (33, none)]) (h := h)).tr fk
  · rcases hz_if e with e | e
    · replace e := (hs_ck_some e).2
      rcases hz_if e with e | e
      · have fk := hz_b137_30  e
        exact (hs_fr.rf (K := [(3, none), (4, none), (5, none), (9, none), (27, none), (28, none), (29, none), (30, none), (33, none)]) (h := h)).tr fk
      · have fk := hz_b137_30  e
        exact (hs_fr.rf (K := [(3, none), (4, none), (5, none), (9, none), (27, none), (28, none), (29, none), (30, none), (33, none)]) (h := h)).tr fk
    · have fk := hz_b137_9  e
      exact (hs_fr.rf (K := [(3, none), (4, none), (5, none), (9, none), (27, none), (28, none), (29, none), (30, none), (33, none)]) (h := h)).tr fk
theorem hz_b138_9 {h : hs_H} {r : Int32 × hs_H} (e : hb_138_9 h = some r) : hs_fr [(4, some 0), (5, some 0), (9, some 0), (27, some 0), (28, some 0), (29, some 0), (30, some 0), (33, some 0)] h r.2 := by
  unfold hb_138_9 at e
  obtain rfl := Option.some.inj e
  exact (hs_fr.rf (K := [(4, some 0), (5, some 0), (9, some 0), (27, some 0), (28, some 0), (29, some 0), (30, some 0), (33, some 0)]) (h := h))
theorem hz_138 {a1 : Int32} {h : hs_H} {r : Int32 × hs_H} (e : hf_138 a1 h = some r) : hs_fr [(4, some 0), (5, some 0), (9, some 0), (27, some 0), (28, some 0), (29, some 0), (30, some 0), (33, some 0)] h r.2 := by
  unfold hf_138 at e
  rcases hz_if e with e | e
  · have fk := hz_b138_9  e
    exact (hs_fr.rf (K := [(4, some 0), (5, some 0), (9, some 0), (27, some 0), (28, some 0), (29, some 0), (30, some 0), (33, some 0)]) (h := h)).tr fk
  · rcases hz_if e with e | e
    · replace e := (hs_ck_some e).2
      rcases hz_if e with e | e
      · obtain ⟨q5, eq5, e⟩ := hs_bind_some e
        have fq5 := (hs_fr.rf (K := [(4, some 0), (5, some 0), (9, some 0), (27, some 0), (28, some 0), (29, some 0), (30, some 0), (33, some 0)]) (h := h)).tr ((hz_28_4 eq5).sub (hs_sub_cons (.inl (.head _)) (hs_sub_cons (.inl (.tail _ (.tail _ (.tail _ (.head _))))) hs_sub_nil)))
        obtain ⟨q6, eq6, e⟩ := hs_bind_some e
        have fq6 := fq5.tr ((hz_88_9 eq6).sub (hs_sub_cons (.inl (.tail _ (.tail _ (.head _)))) (hs_sub_cons (.inl (.tail _ (.tail _ (.tail _ (.tail _ (.tail _ (.tail _ (.tail _ (.head _))))))))) hs_sub_nil)))
        obtain ⟨q7, eq7, e⟩ := hs_bind_some e
        have fq7 := fq6.tr ((hz_48_5 eq7).sub (hs_sub_cons (.inl (.tail _ (.head _))) (hs_sub_cons (.inl (.tail _ (.tail _ (.tail _ (.tail _ (.head _)))))) (hs_sub_cons (.inl (.tail _ (.tail _ (.tail _ (.tail _ (.tail _ (.head _))))))) (hs_sub_cons (.inl (.tail _ (.tail _ (.tail _ (.tail _ (.tail _ (.tail _ (.head _)))))))) hs_sub_nil)))))
        obtain rfl := Option.some.inj e
        exact fq7
      · obtain rfl := Option.some.inj e
        exact (hs_fr.rf (K := [(4, some 0), (5, some 0), (9, some 0), (27, some 0), (28, some 0), (29, some 0), (30, some 0), (33, some 0)]) (h := h))
    · have fk := hz_b138_9  e
      exact (hs_fr.rf (K := [(4, some 0), (5, some 0), (9, some 0), (27, some 0), (28, some 0), (29, some 0), (30, some 0), (33, some 0)]) (h := h)).tr fk
theorem hz_b145_19 {s0 : Int32} {h : hs_H} {r : Int32 × hs_H} (e : hb_145_19 s0 h = some r) : hs_fr [] h r.2 := by
  unfold hb_145_19 at e
  replace e := (hs_ck_some e).2
  obtain rfl := Option.some.inj e
  exact (hs_fr.rf (K := []) (h := h))
theorem hz_b145_14 {h : hs_H} {r : Int32 × hs_H} (e : hb_145_14 h = some r) : hs_fr [] h r.2 := by
  unfold hb_145_14 at e
  have fk := hz_b145_19  e
  exact (hs_fr.rf (K := []) (h := h)).tr fk
theorem hz_145 {a0 : Int32} {h : hs_H} {r : Int32 × hs_H} (e : hf_145 a0 h = some r) : hs_fr [] h r.2 := by
  unfold hf_145 at e
  rcases hz_if e with e | e
  · have fk := hz_b145_14  e
    exact (hs_fr.rf (K := []) (h := h)).tr fk
  · rcases hz_if e with e | e
    · have fk := hz_b145_14  e
      exact (hs_fr.rf (K := []) (h := h)).tr fk
    · rcases hz_if e with e | e
      · have fk := hz_b145_19  e
        exact (hs_fr.rf (K := []) (h := h)).tr fk
      · have fk := hz_b145_14  e
        exact (hs_fr.rf (K := []) (h := h)).tr fk
theorem hz_b78_2 {o : Nat} {k2 : Int32 × Int32 × Int32 × hs_H → Option (hs_H)} {x1 : Int32} {x2 : Int32} {x3 : Int32} {h : hs_H} {r : hs_H} (hk2 : ∀ y1 y2 y3 h r, k2 (y1, y2, y3, h) = some r → hs_fr [(8, some o), (32, some o)] h r) (e : hb_78_2 o k2 x1 x2 x3 h = some r) : hs_fr [(8, some o), (32, some o)] h r := by
  unfold hb_78_2 at e
  rcases hz_if e with e | e
  · obtain rfl := Option.some.inj e
    exact (((hs_fr.rf (K := [(8, some o), (32, some o)]) (h := h)).put (.inl (.head _))).put (.inl (.head _)))
  · replace e := (hs_ck_some e).2
    have fk := hk2 _ _ _ _ _ e
    exact ((hs_fr.rf (K := [(8, some o), (32, some o)]) (h := h)).put (.inl (.tail _ (.head _)))).tr fk
theorem hz_78 {o : Nat} {a1 : Int32} {a2 : Int32} {h : hs_H} {r : hs_H} (e : hf_78 o a1 a2 h = some r) : hs_fr [(8, some o), (32, some o)] h r := by
  unfold hf_78 at e
  have fl := hz_lp4 (f := fun k s => hb_78_2 o k s.1 s.2.1 s.2.2.1 s.2.2.2) (G := fun r => r) (fun k hk y1 y2 y3 h r e => hz_b78_2 hk e) e
  exact (hs_fr.rf (K := [(8, some o), (32, some o)]) (h := h)).tr fl
theorem hz_b139_22 {h : hs_H} {r : Int32 × hs_H} (e : hb_139_22 h = some r) : hs_fr [(8, none), (32, none)] h r.2 := by
  unfold hb_139_22 at e
  obtain rfl := Option.some.inj e
  exact (hs_fr.rf (K := [(8, none), (32, none)]) (h := h))
theorem hz_139 {a1 : Int32} {a2 : Int32} {a3 : Int32} {h : hs_H} {r : Int32 × hs_H} (e : hf_139 a1 a2 a3 h = some r) : hs_fr [(8, none), (32, none)] h r.2 := by
  unfold hf_139 at e
  rcases hz_if e with e | e
  · have fk := hz_b139_22  e
    exact (hs_fr.rf (K := [(8, none), (32, none)]) (h := h)).tr fk
  · rcases hz_if e with e | e
    · have fk := hz_b139_22  e
      exact (hs_fr.rf (K := [(8, none), (32, none)]) (h := h)).tr fk
    · obtain ⟨q3, eq3, e⟩ := hs_bind_some e
      have fq3 := (hs_fr.rf (K := [(8, none), (32, none)]) (h := h)).tr ((hz_145 eq3).sub hs_sub_nil)
      rcases hz_if e with e | e
      · have fk := hz_b139_22  e
        exact fq3.tr fk
      · rcases hz_if e with e | e
        · rcases hz_if e with e | e
          · replace e := (hs_ck_some e).2
            obtain ⟨q8, eq8, e⟩ := hs_bind_some e
            have fq8 := fq3.tr ((hz_78 eq8).sub (hs_sub_cons (.inr (.head _)) (hs_sub_cons (.inr (.tail _ (.head _))) hs_sub_nil)))
            obtain rfl := Option.some.inj e
            exact fq8
          · obtain rfl := Option.some.inj e
            exact fq3
        · have fk := hz_b139_22  e
          exact fq3.tr fk
