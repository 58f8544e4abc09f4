/-! Frames: which kinds and instances a function writes; by gen7.py. -/
theorem hz_b210_42 {h : hs_H} {r : Int32 × hs_H} (e : hb_210_42 h = some r) : hs_fr [(57, some 0), (58, some 0)] h r.2 := by
  unfold hb_210_42 at e
  obtain rfl := Option.some.inj e
  exact (hs_fr.rf (K := [(57, some 0), (58, some 0)]) (h := h))
theorem hz_b210_235 {k102 : Int32 × Int32 × Int32 × Int32 × Int32 × hs_H → Option (Int32 × hs_H)} {x3 : Int32} {x4 : Int32} {x6 : Int32} {x7 : Int32} {s0 : Int32} {h : hs_H} {r : Int32 × hs_H} (hk102 : ∀ y1 y2 y3 y4 y5 h r, k102 (y1, y2, y3, y4, y5, h) = some r → hs_fr [(57, some 0), (58, some 0)] h r.2) (e : hb_210_235 k102 x3 x4 x6 x7 s0 h = some r) : hs_fr [(57, some 0), (58, some 0)] h r.2 := by
  unfold hb_210_235 at e
  have fk := hk102 _ _ _ _ _ _ _ e
  exact (hs_fr.rf (K := [(57, some 0), (58, some 0)]) (h := h)).tr fk
theorem hz_b210_201 {k102 : Int32 × Int32 × Int32 × Int32 × Int32 × hs_H → Option (Int32 × hs_H)} {k133 : Int32 × Int32 × Int32 × Int32 × Int32 × Int32 × hs_H → Option (Int32 × hs_H)} {x3 : Int32} {x4 : Int32} {x5 : Int32} {x7 : Int32} {x8 : Int32} {s0 : Int32} {h : hs_H} {r : Int32 × hs_H} (hk102 : ∀ y1 y2 y3 y4 y5 h r, k102 (y1, y2, y3, y4, y5, h) = some r → hs_fr [(57, some 0), (58, some 0)] h r.2) (hk133 : ∀ y1 y2 y3 y4 y5 y6 h r, k133 (y1, y2, y3, y4, y5, y6, h) = some r → hs_fr [(57, some 0), (58, some 0)] h r.2) (e : hb_210_201 k102 k133 x3 x4 x5 x7 x8 s0 h = some r) : hs_fr [(57, some 0), (58, some 0)] h r.2 := by
  unfold hb_210_201 at e
  have fk := hk133 _ _ _ _ _ _ _ _ e
  exact (hs_fr.rf (K := [(57, some 0), (58, some 0)]) (h := h)).tr fk
theorem hz_b210_199 {k102 : Int32 × Int32 × Int32 × Int32 × Int32 × hs_H → Option (Int32 × hs_H)} {k133 : Int32 × Int32 × Int32 × Int32 × Int32 × Int32 × hs_H → Option (Int32 × hs_H)} {x3 : Int32} {x4 : Int32} {x5 : Int32} {x6 : Int32} {x7 : Int32} {x8 : Int32} {h : hs_H} {r : Int32 × hs_H} (hk102 : ∀ y1 y2 y3 y4 y5 h r, k102 (y1, y2, y3, y4, y5, h) = some r → hs_fr [(57, some 0), (58, some 0)] h r.2) (hk133 : ∀ y1 y2 y3 y4 y5 y6 h r, k133 (y1, y2, y3, y4, y5, y6, h) = some r → hs_fr [(57, some 0), (58, some 0)] h r.2) (e : hb_210_199 k102 k133 x3 x4 x5 x6 x7 x8 h = some r) : hs_fr [(57, some 0), (58, some 0)] h r.2 := by
  unfold hb_210_199 at e
  have fk := hz_b210_201 hk102 hk133 e
  exact (hs_fr.rf (K := [(57, some 0), (58, some 0)]) (h := h)).tr fk
theorem hz_b210_168 {k102 : Int32 × Int32 × Int32 × Int32 × Int32 × hs_H → Option (Int32 × hs_H)} {k133 : Int32 × Int32 × Int32 × Int32 × Int32 × Int32 × hs_H → Option (Int32 × hs_H)} {x3 : Int32} {x4 : Int32} {x5 : Int32} {x6 : Int32} {x7 : Int32} {x8 : Int32} {s0 : Int32} {h : hs_H} {r : Int32 × hs_H} (hk102 : ∀ y1 y2 y3 y4 y5 h r, k102 (y1, y2, y3, y4, y5, h) = some r → hs_fr [(57, some 0), (58, some 0)] h r.2) (hk133 : ∀ y1 y2 y3 y4 y5 y6 h r, k133 (y1, y2, y3, y4, y5, y6, h) = some r → hs_fr [(57, some 0), (58, some 0)] h r.2) (e : hb_210_168 k102 k133 x3 x4 x5 x6 x7 x8 s0 h = some r) : hs_fr [(57, some 0), (58, some 0)] h r.2 := by
  unfold hb_210_168 at e
  obtain ⟨q20, eq20, e⟩ := hs_bind_some e
  have fq20 := (hs_fr.rf (K := [(57, some 0), (58, some 0)]) (h := h)).tr ((hz_152 eq20).sub hs_sub_nil)
  rcases hz_if e with e | e
  · have fk := hz_b210_199 hk102 hk133 e
    exact fq20.tr fk
  · replace e := (hs_ck_some e).2
    rcases hz_if e with e | e
    · have fk := hz_b210_199 hk102 hk133 e
      exact fq20.tr fk
    · have fk := hz_b210_201 hk102 hk133 e
      exact fq20.tr fk
theorem hz_b210_133 {k102 : Int32 × Int32 × Int32 × Int32 × Int32 × hs_H → Option (Int32 × hs_H)} {k133 : Int32 × Int32 × Int32 × Int32 × Int32 × Int32 × hs_H → Option (Int32 × hs_H)} {x3 : Int32} {x4 : Int32} {x5 : Int32} {x6 : Int32} {x7 : Int32} {x8 : Int32} {h : hs_H} {r : Int32 × hs_H} (hk102 : ∀ y1 y2 y3 y4 y5 h r, k102 (y1, y2, y3, y4, y5, h) = some r → hs_fr [(57, some 0), (58, some 0)] h r.2) (hk133 : ∀ y1 y2 y3 y4 y5 y6 h r, k133 (y1, y2, y3, y4, y5, y6, h) = some r → hs_fr [(57, some 0), (58, some 0)] h r.2) (e : hb_210_133 k102 k133 x3 x4 x5 x6 x7 x8 h = some r) : hs_fr [(57, some 0), (58, some 0)] h r.2 := by
  unfold hb_210_133 at e
  rcases hz_if e with e | e
  · rcases hz_if e with e | e
    · replace e := (hs_ck_some e).2
      have fk := hz_b210_235 hk102 e
      exact (hs_fr.rf (K := [(57, some 0), (58, some 0)]) (h := h)).tr fk
    · have fk := hz_b210_235 hk102 e
      exact (hs_fr.rf (K := [(57, some 0), (58, some 0)]) (h := h)).tr fk
  · rcases hz_if e with e | e
    · replace e := (hs_ck_some e).2
      replace e := (hs_ck_some e).2
      have fk := hz_b210_168 hk102 hk133 e
      exact (hs_fr.rf (K := [(57, some 0), (58, some 0)]) (h := h)).tr fk
    · have fk := hz_b210_168 hk102 hk133 e
      exact (hs_fr.rf (K := [(57, some 0), (58, some 0)]) (h := h)).tr fk
theorem hz_b210_102 {k102 : Int32 × Int32 × Int32 × Int32 × Int32 × hs_H → Option (Int32 × hs_H)} {x3 : Int32} {x4 : Int32} {x5 : Int32} {x6 : Int32} {x7 : Int32} {h : hs_H} {r : Int32 × hs_H} (hk102 : ∀ y1 y2 y3 y4 y5 h r, k102 (y1, y2, y3, y4, y5, h) = some r → hs_fr [(57, some 0), (58, some 0)] h r.2) (e : hb_210_102 k102 x3 x4 x5 x6 x7 h = some r) : hs_fr [(57, some 0), (58, some 0)] h r.2 := by
  unfold hb_210_102 at e
  rcases hz_if e with e | e
  · obtain rfl := Option.some.inj e
    exact (hs_fr.rf (K := [(57, some 0), (58, some 0)]) (h := h))
  · rcases hz_if e with e | e
    · have fl := hz_lp7 (f := fun k s => hb_210_133 k102 k s.1 s.2.1 s.2.2.1 s.2.2.2.1 s.2.2.2.2.1 s.2.2.2.2.2.1 s.2.2.2.2.2.2) (G := fun r => r.2) (fun k hk y1 y2 y3 y4 y5 y6 h r e => hz_b210_133 hk102 hk e) e
      exact (hs_fr.rf (K := [(57, some 0), (58, some 0)]) (h := h)).tr fl
    · obtain rfl := Option.some.inj e
      exact (hs_fr.rf (K := [(57, some 0), (58, some 0)]) (h := h))
theorem hz_b210_90 {x2 : Int32} {x3 : Int32} {s0 : Int32} {h : hs_H} {r : Int32 × hs_H} (e : hb_210_90 x2 x3 s0 h = some r) : hs_fr [(57, some 0), (58, some 0)] h r.2 := by
  unfold hb_210_90 at e
  have fl := hz_lp6 (f := fun k s => hb_210_102 k s.1 s.2.1 s.2.2.1 s.2.2.2.1 s.2.2.2.2.1 s.2.2.2.2.2) (G := fun r => r.2) (fun k hk y1 y2 y3 y4 y5 h r e => hz_b210_102 hk e) e
  exact (hs_fr.rf (K := [(57, some 0), (58, some 0)]) (h := h)).tr fl
theorem hz_b210_44 {x1 : Int32} {x2 : Int32} {x3 : Int32} {h : hs_H} {r : Int32 × hs_H} (e : hb_210_44 x1 x2 x3 h = some r) : hs_fr [(57, some 0), (58, some 0)] h r.2 := by
  unfold hb_210_44 at e
  obtain ⟨q7, eq7, e⟩ := hs_bind_some e
  have fq7 := (hs_fr.rf (K := [(57, some 0), (58, some 0)]) (h := h)).tr ((hz_208 eq7).sub (hs_sub_cons (.inl (.head _)) (hs_sub_cons (.inl (.tail _ (.head _))) hs_sub_nil)))
  replace e := (hs_ck_some e).2
  rcases hz_if e with e | e
  · rcases hz_if e with e | e
    · rcases hz_if e with e | e
      · have fk := hz_b210_90  e
        exact fq7.tr fk
      · have fk := hz_b210_90  e
        exact fq7.tr fk
    · replace e := (hs_ck_some e).2
      obtain rfl := Option.some.inj e
      exact fq7
  · obtain rfl := Option.some.inj e
    exact fq7
theorem hz_210 {a1 : Int32} {a2 : Int32} {a3 : Int32} {h : hs_H} {r : Int32 × hs_H} (e : hf_210 a1 a2 a3 h = some r) : hs_fr [(57, some 0), (58, some 0)] h r.2 := by
  unfold hf_210 at e
  obtain ⟨q1, eq1, e⟩ := hs_bind_some e
  have fq1 := (hs_fr.rf (K := [(57, some 0), (58, some 0)]) (h := h)).tr ((hz_150 eq1).sub hs_sub_nil)
  rcases hz_if e with e | e
  · have fk := hz_b210_42  e
    exact fq1.tr fk
  · obtain ⟨q3, eq3, e⟩ := hs_bind_some e
    have fq3 := fq1.tr ((hz_204 eq3).sub hs_sub_nil)
    rcases hz_if e with e | e
    · have fk := hz_b210_42  e
      exact fq3.tr fk
    · rcases hz_if e with e | e
      · have fk := hz_b210_42  e
        exact fq3.tr fk
      · rcases hz_if e with e | e
        · have fk := hz_b210_44  e
          exact fq3.tr fk
        · obtain ⟨q25, eq25, e⟩ := hs_bind_some e
          have fq25 := fq3.tr ((hz_150 eq25).sub hs_sub_nil)
          rcases hz_if e with e | e
          · have fk := hz_b210_44  e
            exact fq25.tr fk
          · have fk := hz_b210_42  e
            exact fq25.tr fk
theorem hz_b211_2 {k2 : Int32 × hs_H → Option (Int32 × hs_H)} {x1 : Int32} {h : hs_H} {r : Int32 × hs_H} (hk2 : ∀ y1 h r, k2 (y1, h) = some r → hs_fr [(57, some 0), (58, some 0)] h r.2) (e : hb_211_2 k2 x1 h = some r) : hs_fr [(57, some 0), (58, some 0)] h r.2 := by
  unfold hb_211_2 at e
  rcases hz_if e with e | e
  · obtain rfl := Option.some.inj e
    exact (hs_fr.rf (K := [(57, some 0), (58, some 0)]) (h := h))
  · obtain ⟨q2, eq2, e⟩ := hs_bind_some e
    have fq2 := (hs_fr.rf (K := [(57, some 0), (58, some 0)]) (h := h)).tr ((hz_208 eq2).sub (hs_sub_cons (.inl (.head _)) (hs_sub_cons (.inl (.tail _ (.head _))) hs_sub_nil)))
    replace e := (hs_ck_some e).2
    rcases hz_if e with e | e
    · have fk := hk2 _ _ _ e
      exact fq2.tr fk
    · obtain rfl := Option.some.inj e
      exact fq2
theorem hz_211 {h : hs_H} {r : Int32 × hs_H} (e : hf_211 h = some r) : hs_fr [(57, some 0), (58, some 0)] h r.2 := by
  unfold hf_211 at e
  have fl := hz_lp2 (f := fun k s => hb_211_2 k s.1 s.2) (G := fun r => r.2) (fun k hk y1 h r e => hz_b211_2 hk e) e
  exact (hs_fr.rf (K := [(57, some 0), (58, some 0)]) (h := h)).tr fl
theorem hz_b212_16 {h : hs_H} {r : Int32 × hs_H} (e : hb_212_16 h = some r) : hs_fr [(57, some 0)] h r.2 := by
  unfold hb_212_16 at e
  obtain rfl := Option.some.inj e
  exact (hs_fr.rf (K := [(57, some 0)]) (h := h))
theorem hz_212 {a1 : Int32} {a2 : Int32} {h : hs_H} {r : Int32 × hs_H} (e : hf_212 a1 a2 h = some r) : hs_fr [(57, some 0)] h r.2 := by
  unfold hf_212 at e
  obtain ⟨q1, eq1, e⟩ := hs_bind_some e
  have fq1 := (hs_fr.rf (K := [(57, some 0)]) (h := h)).tr ((hz_204 eq1).sub hs_sub_nil)
  rcases hz_if e with e | e
  · have fk := hz_b212_16  e
    exact fq1.tr fk
  · obtain ⟨q3, eq3, e⟩ := hs_bind_some e
    have fq3 := fq1.tr ((hz_204 eq3).sub hs_sub_nil)
    rcases hz_if e with e | e
    · obtain ⟨q5, eq5, e⟩ := hs_bind_some e
      have fq5 := fq3.tr ((hz_207 eq5).sub (hs_sub_cons (.inl (.head _)) hs_sub_nil))
      replace e := (hs_ck_some e).2
      obtain rfl := Option.some.inj e
      exact fq5
    · have fk := hz_b212_16  e
      exact fq3.tr fk
theorem hz_213 {a0 : Int32} {a1 : Int32} {a2 : Int32} {h : hs_H} {r : Int32 × hs_H} (e : hf_213 a0 a1 a2 h = some r) : hs_fr [] h r.2 := by
  unfold hf_213 at e
  obtain rfl := Option.some.inj e
  exact (hs_fr.rf (K := []) (h := h))
theorem hz_b214_107 {k7 : Int32 × Int32 × Int32 × Int32 × Int32 × hs_H → Option (Int32 × hs_H)} {k19 : Int32 × Int32 × Int32 × Int32 × Int32 × Int32 × hs_H → Option (Int32 × hs_H)} {x1 : Int32} {x2 : Int32} {x3 : Int32} {x4 : Int32} {x5 : Int32} {x6 : Int32} {h : hs_H} {r : Int32 × hs_H} (hk7 : ∀ y1 y2 y3 y4 y5 h r, k7 (y1, y2, y3, y4, y5, h) = some r → hs_fr [] h r.2) (hk19 : ∀ y1 y2 y3 y4 y5 y6 h r, k19 (y1, y2, y3, y4, y5, y6, h) = some r → hs_fr [] h r.2) (e : hb_214_107 k7 k19 x1 x2 x3 x4 x5 x6 h = some r) : hs_fr [] h r.2 := by
  unfold hb_214_107 at e
  have fk := hk19 _ _ _ _ _ _ _ _ e
  exact (hs_fr.rf (K := []) (h := h)).tr fk
theorem hz_b214_105 {k7 : Int32 × Int32 × Int32 × Int32 × Int32 × hs_H → Option (Int32 × hs_H)} {k19 : Int32 × Int32 × Int32 × Int32 × Int32 × Int32 × hs_H → Option (Int32 × hs_H)} {x1 : Int32} {x2 : Int32} {x3 : Int32} {x5 : Int32} {x6 : Int32} {s0 : Int32} {h : hs_H} {r : Int32 × hs_H} (hk7 : ∀ y1 y2 y3 y4 y5 h r, k7 (y1, y2, y3, y4, y5, h) = some r → hs_fr [] h r.2) (hk19 : ∀ y1 y2 y3 y4 y5 y6 h r, k19 (y1, y2, y3, y4, y5, y6, h) = some r → hs_fr [] h r.2) (e : hb_214_105 k7 k19 x1 x2 x3 x5 x6 s0 h = some r) : hs_fr [] h r.2 := by
  unfold hb_214_105 at e
  have fk := hz_b214_107 hk7 hk19 e
  exact (hs_fr.rf (K := []) (h := h)).tr fk
theorem hz_b214_89 {k7 : Int32 × Int32 × Int32 × Int32 × Int32 × hs_H → Option (Int32 × hs_H)} {k19 : Int32 × Int32 × Int32 × Int32 × Int32 × Int32 × hs_H → Option (Int32 × hs_H)} {x1 : Int32} {x2 : Int32} {x3 : Int32} {x4 : Int32} {x5 : Int32} {x6 : Int32} {s0 : Int32} {h : hs_H} {r : Int32 × hs_H} (hk7 : ∀ y1 y2 y3 y4 y5 h r, k7 (y1, y2, y3, y4, y5, h) = some r → hs_fr [] h r.2) (hk19 : ∀ y1 y2 y3 y4 y5 y6 h r, k19 (y1, y2, y3, y4, y5, y6, h) = some r → hs_fr [] h r.2) (e : hb_214_89 k7 k19 x1 x2 x3 x4 x5 x6 s0 h = some r) : hs_fr [] h r.2 := by
  unfold hb_214_89 at e
  rcases hz_if e with e | e
  · have fk := hz_b214_105 hk7 hk19 e
    exact (hs_fr.rf (K := []) (h := h)).tr fk
  · have fk := hz_b214_105 hk7 hk19 e
    exact (hs_fr.rf (K := []) (h := h)).tr fk
theorem hz_b214_72 {k7 : Int32 × Int32 × Int32 × Int32 × Int32 × hs_H → Option (Int32 × hs_H)} {k19 : Int32 × Int32 × Int32 × Int32 × Int32 × Int32 × hs_H → Option (Int32 × hs_H)} {x1 : Int32} {x2 : Int32} {x3 : Int32} {x4 : Int32} {x5 : Int32} {x6 : Int32} {h : hs_H} {r : Int32 × hs_H} (hk7 : ∀ y1 y2 y3 y4 y5 h r, k7 (y1, y2, y3, y4, y5, h) = some r → hs_fr [] h r.2) (hk19 : ∀ y1 y2 y3 y4 y5 y6 h r, k19 (y1, y2, y3, y4, y5, y6, h) = some r → hs_fr [] h r.2) (e : hb_214_72 k7 k19 x1 x2 x3 x4 x5 x6 h = some r) : hs_fr [] h r.2 := by
  unfold hb_214_72 at e
  have fk := hz_b214_89 hk7 hk19 e
  exact (hs_fr.rf (K := []) (h := h)).tr fk
theorem hz_b214_60 {k7 : Int32 × Int32 × Int32 × Int32 × Int32 × hs_H → Option (Int32 × hs_H)} {k19 : Int32 × Int32 × Int32 × Int32 × Int32 × Int32 × hs_H → Option (Int32 × hs_H)} {x1 : Int32} {x2 : Int32} {x3 : Int32} {x4 : Int32} {x5 : Int32} {x6 : Int32} {h : hs_H} {r : Int32 × hs_H} (hk7 : ∀ y1 y2 y3 y4 y5 h r, k7 (y1, y2, y3, y4, y5, h) = some r → hs_fr [] h r.2) (hk19 : ∀ y1 y2 y3 y4 y5 y6 h r, k19 (y1, y2, y3, y4, y5, y6, h) = some r → hs_fr [] h r.2) (e : hb_214_60 k7 k19 x1 x2 x3 x4 x5 x6 h = some r) : hs_fr [] h r.2 := by
  unfold hb_214_60 at e
  rcases hz_if e with e | e
  · have fk := hz_b214_72 hk7 hk19 e
    exact (hs_fr.rf (K := []) (h := h)).tr fk
  · rcases hz_if e with e | e
    · obtain ⟨q8, eq8, e⟩ := hs_bind_some e
      have fq8 := (hs_fr.rf (K := []) (h := h)).tr ((hz_213 eq8).sub hs_sub_nil)
      replace e := (hs_ck_some e).2
      have fk := hz_b214_89 hk7 hk19 e
      exact fq8.tr fk
    · have fk := hz_b214_72 hk7 hk19 e
      exact (hs_fr.rf (K := []) (h := h)).tr fk
theorem hz_b214_44 {k7 : Int32 × Int32 × Int32 × Int32 × Int32 × hs_H → Option (Int32 × hs_H)} {k19 : Int32 × Int32 × Int32 × Int32 × Int32 × Int32 × hs_H → Option (Int32 × hs_H)} {x1 : Int32} {x2 : Int32} {x3 : Int32} {x4 : Int32} {x5 : Int32} {x6 : Int32} {h : hs_H} {r : Int32 × hs_H} (hk7 : ∀ y1 y2 y3 y4 y5 h r, k7 (y1, y2, y3, y4, y5, h) = some r → hs_fr [] h r.2) (hk19 : ∀ y1 y2 y3 y4 y5 y6 h r, k19 (y1, y2, y3, y4, y5, y6, h) = some r → hs_fr [] h r.2) (e : hb_214_44 k7 k19 x1 x2 x3 x4 x5 x6 h = some r) : hs_fr [] h r.2 := by
  unfold hb_214_44 at e
  rcases hz_if e with e | e
  · have fk := hz_b214_60 hk7 hk19 e
    exact (hs_fr.rf (K := []) (h := h)).tr fk
  · obtain ⟨q10, eq10, e⟩ := hs_bind_some e
    have fq10 := (hs_fr.rf (K := []) (h := h)).tr ((hz_172 eq10).sub hs_sub_nil)
    rcases hz_if e with e | e
    · have fk := hz_b214_107 hk7 hk19 e
      exact fq10.tr fk
    · have fk := hz_b214_60 hk7 hk19 e
      exact fq10.tr fk
theorem hz_b214_19 {k7 : Int32 × Int32 × Int32 × Int32 × Int32 × hs_H → Option (Int32 × hs_H)} {k19 : Int32 × Int32 × Int32 × Int32 × Int32 × Int32 × hs_H → Option (Int32 × hs_H)} {x1 : Int32} {x2 : Int32} {x3 : Int32} {x4 : Int32} {x5 : Int32} {x6 : Int32} {h : hs_H} {r : Int32 × hs_H} (hk7 : ∀ y1 y2 y3 y4 y5 h r, k7 (y1, y2, y3, y4, y5, h) = some r → hs_fr [] h r.2) (hk19 : ∀ y1 y2 y3 y4 y5 y6 h r, k19 (y1, y2, y3, y4, y5, y6, h) = some r → hs_fr [] h r.2) (e : hb_214_19 k7 k19 x1 x2 x3 x4 x5 x6 h = some r) : hs_fr [] h r.2 := by
  unfold hb_214_19 at e
  rcases hz_if e with e | e
  · have fk := hk7 _ _ _ _ _ _ _ e
    exact (hs_fr.rf (K := []) (h := h)).tr fk
  · rcases hz_if e with e | e
    · have fk := hz_b214_44 hk7 hk19 e
      exact (hs_fr.rf (K := []) (h := h)).tr fk
    · obtain ⟨q12, eq12, e⟩ := hs_bind_some e
      have fq12 := (hs_fr.rf (K := []) (h := h)).tr ((hz_172 eq12).sub hs_sub_nil)
      rcases hz_if e with e | e
      · have fk := hz_b214_107 hk7 hk19 e
        exact fq12.tr fk
      · have fk := hz_b214_44 hk7 hk19 e
        exact fq12.tr fk
theorem hz_b214_7 {k7 : Int32 × Int32 × Int32 × Int32 × Int32 × hs_H → Option (Int32 × hs_H)} {x1 : Int32} {x2 : Int32} {x3 : Int32} {x4 : Int32} {x5 : Int32} {h : hs_H} {r : Int32 × hs_H} (hk7 : ∀ y1 y2 y3 y4 y5 h r, k7 (y1, y2, y3, y4, y5, h) = some r → hs_fr [] h r.2) (e : hb_214_7 k7 x1 x2 x3 x4 x5 h = some r) : hs_fr [] h r.2 := by
  unfold hb_214_7 at e
  rcases hz_if e with e | e
  · obtain rfl := Option.some.inj e
    exact (hs_fr.rf (K := []) (h := h))
  · have fl := hz_lp7 (f := fun k s => hb_214_19 k7 k s.1 s.2.1 s.2.2.1 s.2.2.2.1 s.2.2.2.2.1 s.2.2.2.2.2.1 s.2.2.2.2.2.2) (G := fun r => r.2) (fun k hk y1 y2 y3 y4 y5 y6 h r e => hz_b214_19 hk7 hk e) e
    exact (hs_fr.rf (K := []) (h := h)).tr fl
theorem hz_214 {a1 : Int32} {a2 : Int32} {a3 : Int32} {h : hs_H} {r : Int32 × hs_H} (e : hf_214 a1 a2 a3 h = some r) : hs_fr [] h r.2 := by
  unfold hf_214 at e
  have fl := hz_lp6 (f := fun k s => hb_214_7 k s.1 s.2.1 s.2.2.1 s.2.2.2.1 s.2.2.2.2.1 s.2.2.2.2.2) (G := fun r => r.2) (fun k hk y1 y2 y3 y4 y5 h r e => hz_b214_7 hk e) e
  exact (hs_fr.rf (K := []) (h := h)).tr fl
theorem hz_b215_43 {s0 : Int32} {h : hs_H} {r : Int32 × hs_H} (e : hb_215_43 s0 h = some r) : hs_fr [] h r.2 := by
  unfold hb_215_43 at e
  obtain rfl := Option.some.inj e
  exact (hs_fr.rf (K := []) (h := h))
theorem hz_b215_25 {s0 : Int32} {h : hs_H} {r : Int32 × hs_H} (e : hb_215_25 s0 h = some r) : hs_fr [] h r.2 := by
  unfold hb_215_25 at e
  rcases hz_if e with e | e
  · have fk := hz_b215_43  e
    exact (hs_fr.rf (K := []) (h := h)).tr fk
  · have fk := hz_b215_43  e
    exact (hs_fr.rf (K := []) (h := h)).tr fk
theorem hz_b215_10 {h : hs_H} {r : Int32 × hs_H} (e : hb_215_10 h = some r) : hs_fr [] h r.2 := by
  unfold hb_215_10 at e
  have fk := hz_b215_25  e
  exact (hs_fr.rf (K := []) (h := h)).tr fk
theorem hz_215 {a1 : Int32} {a2 : Int32} {a3 : Int32} {h : hs_H} {r : Int32 × hs_H} (e : hf_215 a1 a2 a3 h = some r) : hs_fr [] h r.2 := by
  unfold hf_215 at e
  rcases hz_if e with e | e
  · have fk := hz_b215_10  e
    exact (hs_fr.rf (K := []) (h := h)).tr fk
  · rcases hz_if e with e | e
    · obtain ⟨q4, eq4, e⟩ := hs_bind_some e
      have fq4 := (hs_fr.rf (K := []) (h := h)).tr ((hz_213 eq4).sub hs_sub_nil)
      replace e := (hs_ck_some e).2
      have fk := hz_b215_25  e
      exact fq4.tr fk
    · have fk := hz_b215_10  e
      exact (hs_fr.rf (K := []) (h := h)).tr fk
theorem hz_b216_35 {s0 : Int32} {h : hs_H} {r : Int32 × hs_H} (e : hb_216_35 s0 h = some r) : hs_fr [] h r.2 := by
  unfold hb_216_35 at e
  replace e := (hs_ck_some e).2
  obtain rfl := Option.some.inj e
  exact (hs_fr.rf (K := []) (h := h))
theorem hz_216 {a1 : Int32} {a2 : Int32} {h : hs_H} {r : Int32 × hs_H} (e : hf_216 a1 a2 h = some r) : hs_fr [] h r.2 := by
  unfold hf_216 at e
  replace e := (hs_ck_some e).2
  rcases hz_if e with e | e
  · obtain ⟨q3, eq3, e⟩ := hs_bind_some e
    have fq3 := (hs_fr.rf (K := []) (h := h)).tr ((hz_181 eq3).sub hs_sub_nil)
    have fk := hz_b216_35  e
    exact fq3.tr fk
  · rcases hz_if e with e | e
    · have fk := hz_b216_35  e
      exact (hs_fr.rf (K := []) (h := h)).tr fk
    · have fk := hz_b216_35  e
      exact (hs_fr.rf (K := []) (h := h)).tr fk
theorem hz_b217_51 {k6 : Int32 × Int32 × Int32 × Int32 × Int32 × hs_H → Option (Int32 × hs_H)} {x1 : Int32} {x2 : Int32} {x3 : Int32} {x4 : Int32} {x5 : Int32} {h : hs_H} {r : Int32 × hs_H} (hk6 : ∀ y1 y2 y3 y4 y5 h r, k6 (y1, y2, y3, y4, y5, h) = some r → hs_fr [] h r.2) (e : hb_217_51 k6 x1 x2 x3 x4 x5 h = some r) : hs_fr [] h r.2 := by
  unfold hb_217_51 at e
  have fk := hk6 _ _ _ _ _ _ _ e
  exact (hs_fr.rf (K := []) (h := h)).tr fk
theorem hz_b217_49 {k6 : Int32 × Int32 × Int32 × Int32 × Int32 × hs_H → Option (Int32 × hs_H)} {x1 : Int32} {x2 : Int32} {x3 : Int32} {x5 : Int32} {s0 : Int32} {h : hs_H} {r : Int32 × hs_H} (hk6 : ∀ y1 y2 y3 y4 y5 h r, k6 (y1, y2, y3, y4, y5, h) = some r → hs_fr [] h r.2) (e : hb_217_49 k6 x1 x2 x3 x5 s0 h = some r) : hs_fr [] h r.2 := by
  unfold hb_217_49 at e
  have fk := hz_b217_51 hk6 e
  exact (hs_fr.rf (K := []) (h := h)).tr fk
theorem hz_b217_6 {k6 : Int32 × Int32 × Int32 × Int32 × Int32 × hs_H → Option (Int32 × hs_H)} {x1 : Int32} {x2 : Int32} {x3 : Int32} {x4 : Int32} {x5 : Int32} {h : hs_H} {r : Int32 × hs_H} (hk6 : ∀ y1 y2 y3 y4 y5 h r, k6 (y1, y2, y3, y4, y5, h) = some r → hs_fr [] h r.2) (e : hb_217_6 k6 x1 x2 x3 x4 x5 h = some r) : hs_fr [] h r.2 := by
  unfold hb_217_6 at e
  rcases hz_if e with e | e
  · obtain rfl := Option.some.inj e
    exact (hs_fr.rf (K := []) (h := h))
  · obtain ⟨q2, eq2, e⟩ := hs_bind_some e
    have fq2 := (hs_fr.rf (K := []) (h := h)).tr ((hz_216 eq2).sub hs_sub_nil)
    rcases hz_if e with e | e
    · have fk := hz_b217_51 hk6 e
      exact fq2.tr fk
    · obtain ⟨q4, eq4, e⟩ := hs_bind_some e
      have fq4 := fq2.tr ((hz_215 eq4).sub hs_sub_nil)
      rcases hz_if e with e | e
      · have fk := hz_b217_49 hk6 e
        exact fq4.tr fk
      · have fk := hz_b217_49 hk6 e
        exact fq4.tr fk
theorem hz_217 {a1 : Int32} {a2 : Int32} {a3 : Int32} {h : hs_H} {r : Int32 × hs_H} (e : hf_217 a1 a2 a3 h = some r) : hs_fr [] h r.2 := by
  unfold hf_217 at e
  have fl := hz_lp6 (f := fun k s => hb_217_6 k s.1 s.2.1 s.2.2.1 s.2.2.2.1 s.2.2.2.2.1 s.2.2.2.2.2) (G := fun r => r.2) (fun k hk y1 y2 y3 y4 y5 h r e => hz_b217_6 hk e) e
  exact (hs_fr.rf (K := []) (h := h)).tr fl
theorem hz_b218_224 {k54 : Int32 × hs_H → Option (hs_H)} {k131 : Int32 × Int32 × hs_H → Option (hs_H)} {x1 : Int32} {x2 : Int32} {h : hs_H} {r : hs_H} (hk54 : ∀ y1 h r, k54 (y1, h) = some r → hs_fr [(59, some 0), (60, some 0)] h r) (hk131 : ∀ y1 y2 h r, k131 (y1, y2, h) = some r → hs_fr [(59, some 0), (60, some 0)] h r) (e : hb_218_224 k54 k131 x1 x2 h = some r) : hs_fr [(59, some 0), (60, some 0)] h r := by
  unfold hb_218_224 at e
  have fk := hk131 _ _ _ _ e
  exact (hs_fr.rf (K := [(59, some 0), (60, some 0)]) (h := h)).tr fk
theorem hz_b218_223 {k54 : Int32 × hs_H → Option (hs_H)} {k131 : Int32 × Int32 × hs_H → Option (hs_H)} {x2 : Int32} {s0 : Int32} {h : hs_H} {r : hs_H} (hk54 : ∀ y1 h r, k54 (y1, h) = some r → hs_fr [(59, some 0), (60, some 0)] h r) (hk131 : ∀ y1 y2 h r, k131 (y1, y2, h) = some r → hs_fr [(59, some 0), (60, some 0)] h r) (e : hb_218_223 k54 k131 x2 s0 h = some r) : hs_fr [(59, some 0), (60, some 0)] h r := by
  unfold hb_218_223 at e
  have fk := hz_b218_224 hk54 hk131 e
  exact (hs_fr.rf (K := [(59, some 0), (60, some 0)]) (h := h)).tr fk
theorem hz_b218_218 {k54 : Int32 × hs_H → Option (hs_H)} {k131 : Int32 × Int32 × hs_H → Option (hs_H)} {x2 : Int32} {h : hs_H} {r : hs_H} (hk54 : ∀ y1 h r, k54 (y1, h) = some r → hs_fr [(59, some 0), (60, some 0)] h r) (hk131 : ∀ y1 y2 h r, k131 (y1, y2, h) = some r → hs_fr [(59, some 0), (60, some 0)] h r) (e : hb_218_218 k54 k131 x2 h = some r) : hs_fr [(59, some 0), (60, some 0)] h r := by
  unfold hb_218_218 at e
  have fk := hz_b218_223 hk54 hk131 e
  exact (hs_fr.rf (K := [(59, some 0), (60, some 0)]) (h := h)).tr fk
theorem hz_b218_131 {k54 : Int32 × hs_H → Option (hs_H)} {k131 : Int32 × Int32 × hs_H → Option (hs_H)} {x1 : Int32} {x2 : Int32} {h : hs_H} {r : hs_H} (hk54 : ∀ y1 h r, k54 (y1, h) = some r → hs_fr [(59, some 0), (60, some 0)] h r) (hk131 : ∀ y1 y2 h r, k131 (y1, y2, h) = some r → hs_fr [(59, some 0), (60, some 0)] h r) (e : hb_218_131 k54 k131 x1 x2 h = some r) : hs_fr [(59, some 0), (60, some 0)] h r := by
  unfold hb_218_131 at e
  rcases hz_if e with e | e
  · have fk := hk54 _ _ _ e
    exact (hs_fr.rf (K := [(59, some 0), (60, some 0)]) (h := h)).tr fk
  · rcases hz_if e with e | e
    · have fk := hz_b218_224 hk54 hk131 e
      exact (hs_fr.rf (K := [(59, some 0), (60, some 0)]) (h := h)).tr fk
    · rcases hz_if e with e | e
      · have fk := hz_b218_224 hk54 hk131 e
        exact (hs_fr.rf (K := [(59, some 0), (60, some 0)]) (h := h)).tr fk
      · replace e := (hs_ck_some e).2
        rcases hz_if e with e | e
        · have fk := hz_b218_224 hk54 hk131 e
          exact (hs_fr.rf (K := [(59, some 0), (60, some 0)]) (h := h)).tr fk
        · obtain ⟨q9, eq9, e⟩ := hs_bind_some e
          have fq9 := (hs_fr.rf (K := [(59, some 0), (60, some 0)]) (h := h)).tr ((hz_217 eq9).sub hs_sub_nil)
          replace e := (hs_ck_some e).2
          rcases hz_if e with e | e
          · have fk := hz_b218_218 hk54 hk131 e
            exact (fq9.put (.inl (.head _))).tr fk
          · replace e := (hs_ck_some e).2
            rcases hz_if e with e | e
            · have fk := hz_b218_223 hk54 hk131 e
              exact (fq9.put (.inl (.head _))).tr fk
            · have fk := hz_b218_218 hk54 hk131 e
              exact (fq9.put (.inl (.head _))).tr fk
theorem hz_b218_123 {k54 : Int32 × hs_H → Option (hs_H)} {k62 : Int32 × Int32 × hs_H → Option (hs_H)} {x1 : Int32} {x2 : Int32} {h : hs_H} {r : hs_H} (hk54 : ∀ y1 h r, k54 (y1, h) = some r → hs_fr [(59, some 0), (60, some 0)] h r) (hk62 : ∀ y1 y2 h r, k62 (y1, y2, h) = some r → hs_fr [(59, some 0), (60, some 0)] h r) (e : hb_218_123 k54 k62 x1 x2 h = some r) : hs_fr [(59, some 0), (60, some 0)] h r := by
  unfold hb_218_123 at e
  have fk := hk62 _ _ _ _ e
  exact (hs_fr.rf (K := [(59, some 0), (60, some 0)]) (h := h)).tr fk
theorem hz_b218_62 {k54 : Int32 × hs_H → Option (hs_H)} {k62 : Int32 × Int32 × hs_H → Option (hs_H)} {x1 : Int32} {x2 : Int32} {h : hs_H} {r : hs_H} (hk54 : ∀ y1 h r, k54 (y1, h) = some r → hs_fr [(59, some 0), (60, some 0)] h r) (hk62 : ∀ y1 y2 h r, k62 (y1, y2, h) = some r → hs_fr [(59, some 0), (60, some 0)] h r) (e : hb_218_62 k54 k62 x1 x2 h = some r) : hs_fr [(59, some 0), (60, some 0)] h r := by
  unfold hb_218_62 at e
  rcases hz_if e with e | e
  · have fl := hz_lp3 (f := fun k s => hb_218_131 k54 k s.1 s.2.1 s.2.2) (G := fun r => r) (fun k hk y1 y2 h r e => hz_b218_131 hk54 hk e) e
    exact (hs_fr.rf (K := [(59, some 0), (60, some 0)]) (h := h)).tr fl
  · rcases hz_if e with e | e
    · have fk := hz_b218_123 hk54 hk62 e
      exact (hs_fr.rf (K := [(59, some 0), (60, some 0)]) (h := h)).tr fk
    · rcases hz_if e with e | e
      · have fk := hz_b218_123 hk54 hk62 e
        exact (hs_fr.rf (K := [(59, some 0), (60, some 0)]) (h := h)).tr fk
      · obtain ⟨q16, eq16, e⟩ := hs_bind_some e
        have fq16 := (hs_fr.rf (K := [(59, some 0), (60, some 0)]) (h := h)).tr ((hz_214 eq16).sub hs_sub_nil)
        replace e := (hs_ck_some e).2
        have fk := hz_b218_123 hk54 hk62 e
        exact (fq16.put (.inl (.tail _ (.head _)))).tr fk
theorem hz_b218_54 {k54 : Int32 × hs_H → Option (hs_H)} {x1 : Int32} {h : hs_H} {r : hs_H} (hk54 : ∀ y1 h r, k54 (y1, h) = some r → hs_fr [(59, some 0), (60, some 0)] h r) (e : hb_218_54 k54 x1 h = some r) : hs_fr [(59, some 0), (60, some 0)] h r := by
  unfold hb_218_54 at e
  rcases hz_if e with e | e
  · obtain rfl := Option.some.inj e
    exact (hs_fr.rf (K := [(59, some 0), (60, some 0)]) (h := h))
  · have fl := hz_lp3 (f := fun k s => hb_218_62 k54 k s.1 s.2.1 s.2.2) (G := fun r => r) (fun k hk y1 y2 h r e => hz_b218_62 hk54 hk e) e
    exact (hs_fr.rf (K := [(59, some 0), (60, some 0)]) (h := h)).tr fl
theorem hz_b218_45 {k2 : Int32 × hs_H → Option (hs_H)} {x1 : Int32} {s0 : Int32} {s1 : Int32} {h : hs_H} {r : hs_H} (hk2 : ∀ y1 h r, k2 (y1, h) = some r → hs_fr [(59, some 0), (60, some 0)] h r) (e : hb_218_45 k2 x1 s0 s1 h = some r) : hs_fr [(59, some 0), (60, some 0)] h r := by
  unfold hb_218_45 at e
  replace e := (hs_ck_some e).2
  have fk := hk2 _ _ _ e
  exact ((hs_fr.rf (K := [(59, some 0), (60, some 0)]) (h := h)).put (.inl (.head _))).tr fk
theorem hz_b218_39 {k2 : Int32 × hs_H → Option (hs_H)} {x1 : Int32} {s0 : Int32} {h : hs_H} {r : hs_H} (hk2 : ∀ y1 h r, k2 (y1, h) = some r → hs_fr [(59, some 0), (60, some 0)] h r) (e : hb_218_39 k2 x1 s0 h = some r) : hs_fr [(59, some 0), (60, some 0)] h r := by
  unfold hb_218_39 at e
  have fk := hz_b218_45 hk2 e
  exact (hs_fr.rf (K := [(59, some 0), (60, some 0)]) (h := h)).tr fk
theorem hz_b218_2 {k2 : Int32 × hs_H → Option (hs_H)} {x1 : Int32} {h : hs_H} {r : hs_H} (hk2 : ∀ y1 h r, k2 (y1, h) = some r → hs_fr [(59, some 0), (60, some 0)] h r) (e : hb_218_2 k2 x1 h = some r) : hs_fr [(59, some 0), (60, some 0)] h r := by
  unfold hb_218_2 at e
  rcases hz_if e with e | e
  · have fl := hz_lp2 (f := fun k s => hb_218_54 k s.1 s.2) (G := fun r => r) (fun k hk y1 h r e => hz_b218_54 hk e) e
    exact (hs_fr.rf (K := [(59, some 0), (60, some 0)]) (h := h)).tr fl
  · rcases hz_if e with e | e
    · have fk := hz_b218_39 hk2 e
      exact (hs_fr.rf (K := [(59, some 0), (60, some 0)]) (h := h)).tr fk
    · rcases hz_if e with e | e
      · have fk := hz_b218_45 hk2 e
        exact (hs_fr.rf (K := [(59, some 0), (60, some 0)]) (h := h)).tr fk
      · have fk := hz_b218_39 hk2 e
        exact (hs_fr.rf (K := [(59, some 0), (60, some 0)]) (h := h)).tr fk
theorem hz_218 {h : hs_H} {r : hs_H} (e : hf_218 h = some r) : hs_fr [(59, some 0), (60, some 0)] h r := by
  unfold hf_218 at e
  have fl := hz_lp2 (f := fun k s => hb_218_2 k s.1 s.2) (G := fun r => r) (fun k hk y1 h r e => hz_b218_2 hk e) e
  exact (hs_fr.rf (K := [(59, some 0), (60, some 0)]) (h := h)).tr fl
theorem hz_b219_29 {s0 : Int32} {h : hs_H} {r : Int32 × hs_H} (e : hb_219_29 s0 h = some r) : hs_fr [] h r.2 := by
  unfold hb_219_29 at e
  replace e := (hs_ck_some e).2
  obtain rfl := Option.some.inj e
  exact (hs_fr.rf (K := []) (h := h))
theorem hz_b219_28 {h : hs_H} {r : Int32 × hs_H} (e : hb_219_28 h = some r) : hs_fr [] h r.2 := by
  unfold hb_219_28 at e
  have fk := hz_b219_29  e
  exact (hs_fr.rf (K := []) (h := h)).tr fk
theorem hz_219 {a1 : Int32} {a2 : Int32} {a3 : Int32} {h : hs_H} {r : Int32 × hs_H} (e : hf_219 a1 a2 a3 h = some r) : hs_fr [] h r.2 := by
  unfold hf_219 at e
  obtain ⟨q1, eq1, e⟩ := hs_bind_some e
  have fq1 := (hs_fr.rf (K := []) (h := h)).tr ((hz_171 eq1).sub hs_sub_nil)
  rcases hz_if e with e | e
  · have fk := hz_b219_28  e
    exact fq1.tr fk
  · obtain ⟨q4, eq4, e⟩ := hs_bind_some e
    have fq4 := fq1.tr ((hz_171 eq4).sub hs_sub_nil)
    rcases hz_if e with e | e
    · have fk := hz_b219_28  e
      exact fq4.tr fk
    · obtain ⟨q6, eq6, e⟩ := hs_bind_some e
      have fq6 := fq4.tr ((hz_171 eq6).sub hs_sub_nil)
      rcases hz_if e with e | e
      · have fk := hz_b219_28  e
        exact fq6.tr fk
      · have fk := hz_b219_29  e
        exact fq6.tr fk
theorem hz_b220_43 {s0 : Int32} {h : hs_H} {r : Int32 × hs_H} (e : hb_220_43 s0 h = some r) : hs_fr [(59, some 0), (60, some 0)] h r.2 := by
  unfold hb_220_43 at e
  obtain rfl := Option.some.inj e
  exact (hs_fr.rf (K := [(59, some 0), (60, some 0)]) (h := h))
theorem hz_220 {a1 : Int32} {a2 : Int32} {a3 : Int32} {h : hs_H} {r : Int32 × hs_H} (e : hf_220 a1 a2 a3 h = some r) : hs_fr [(59, some 0), (60, some 0)] h r.2 := by
  unfold hf_220 at e
  obtain ⟨q1, eq1, e⟩ := hs_bind_some e
  have fq1 := (hs_fr.rf (K := [(59, some 0), (60, some 0)]) (h := h)).tr ((hz_219 eq1).sub hs_sub_nil)
  rcases hz_if e with e | e
  · obtain ⟨q3, eq3, e⟩ := hs_bind_some e
    have fq3 := fq1.tr ((hz_218 eq3).sub (hs_sub_cons (.inl (.head _)) (hs_sub_cons (.inl (.tail _ (.head _))) hs_sub_nil)))
    obtain ⟨q4, eq4, e⟩ := hs_bind_some e
    have fq4 := fq3.tr ((hz_213 eq4).sub hs_sub_nil)
    replace e := (hs_ck_some e).2
    rcases hz_if e with e | e
    · have fk := hz_b220_43  e
      exact fq4.tr fk
    · have fk := hz_b220_43  e
      exact fq4.tr fk
  · obtain rfl := Option.some.inj e
    exact fq1
theorem hz_b221_22 {h : hs_H} {r : Int32 × hs_H} (e : hb_221_22 h = some r) : hs_fr [(59, some 0), (60, some 0)] h r.2 := by
  unfold hb_221_22 at e
  obtain rfl := Option.some.inj e
  exact (hs_fr.rf (K := [(59, some 0), (60, some 0)]) (h := h))
theorem hz_b221_102 {k39 : Int32 × Int32 × Int32 × Int32 × Int32 × Int32 × hs_H → Option (Int32 × hs_H)} {x1 : Int32} {x2 : Int32} {x3 : Int32} {x4 : Int32} {x6 : Int32} {s0 : Int32} {h : hs_H} {r : Int32 × hs_H} (hk39 : ∀ y1 y2 y3 y4 y5 y6 h r, k39 (y1, y2, y3, y4, y5, y6, h) = some r → hs_fr [(59, some 0), (60, some 0)] h r.2) (e : hb_221_102 k39 x1 x2 x3 x4 x6 s0 h = some r) : hs_fr [(59, some 0), (60, some 0)] h r.2 := by
  unfold hb_221_102 at e
  have fk := hk39 _ _ _ _ _ _ _ _ e
  exact (hs_fr.rf (K := [(59, some 0), (60, some 0)]) (h := h)).tr fk
theorem hz_b221_86 {k39 : Int32 × Int32 × Int32 × Int32 × Int32 × Int32 × hs_H → Option (Int32 × hs_H)} {x1 : Int32} {x2 : Int32} {x3 : Int32} {x5 : Int32} {x6 : Int32} {x7 : Int32} {s0 : Int32} {h : hs_H} {r : Int32 × hs_H} (hk39 : ∀ y1 y2 y3 y4 y5 y6 h r, k39 (y1, y2, y3, y4, y5, y6, h) = some r → hs_fr [(59, some 0), (60, some 0)] h r.2) (e : hb_221_86 k39 x1 x2 x3 x5 x6 x7 s0 h = some r) : hs_fr [(59, some 0), (60, some 0)] h r.2 := by
  unfold hb_221_86 at e
  rcases hz_if e with e | e
  · have fk := hz_b221_102 hk39 e
    exact (hs_fr.rf (K := [(59, some 0), (60, some 0)]) (h := h)).tr fk
  · have fk := hz_b221_102 hk39 e
    exact (hs_fr.rf (K := [(59, some 0), (60, some 0)]) (h := h)).tr fk
theorem hz_b221_70 {k39 : Int32 × Int32 × Int32 × Int32 × Int32 × Int32 × hs_H → Option (Int32 × hs_H)} {x1 : Int32} {x2 : Int32} {x3 : Int32} {x4 : Int32} {x5 : Int32} {x6 : Int32} {s0 : Int32} {h : hs_H} {r : Int32 × hs_H} (hk39 : ∀ y1 y2 y3 y4 y5 y6 h r, k39 (y1, y2, y3, y4, y5, y6, h) = some r → hs_fr [(59, some 0), (60, some 0)] h r.2) (e : hb_221_70 k39 x1 x2 x3 x4 x5 x6 s0 h = some r) : hs_fr [(59, some 0), (60, some 0)] h r.2 := by
  unfold hb_221_70 at e
  rcases hz_if e with e | e
  · have fk := hz_b221_86 hk39 e
    exact (hs_fr.rf (K := [(59, some 0), (60, some 0)]) (h := h)).tr fk
  · have fk := hz_b221_86 hk39 e
    exact (hs_fr.rf (K := [(59, some 0), (60, some 0)]) (h := h)).tr fk
theorem hz_b221_39 {k39 : Int32 × Int32 × Int32 × Int32 × Int32 × Int32 × hs_H → Option (Int32 × hs_H)} {x1 : Int32} {x2 : Int32} {x3 : Int32} {x4 : Int32} {x5 : Int32} {x6 : Int32} {h : hs_H} {r : Int32 × hs_H} (hk39 : ∀ y1 y2 y3 y4 y5 y6 h r, k39 (y1, y2, y3, y4, y5, y6, h) = some r → hs_fr [(59, some 0), (60, some 0)] h r.2) (e : hb_221_39 k39 x1 x2 x3 x4 x5 x6 h = some r) : hs_fr [(59, some 0), (60, some 0)] h r.2 := by
  unfold hb_221_39 at e
  rcases hz_if e with e | e
  · obtain rfl := Option.some.inj e
    exact (hs_fr.rf (K := [(59, some 0), (60, some 0)]) (h := h))
  · obtain ⟨q7, eq7, e⟩ := hs_bind_some e
    have fq7 := (hs_fr.rf (K := [(59, some 0), (60, some 0)]) (h := h)).tr ((hz_216 eq7).sub hs_sub_nil)
    rcases hz_if e with e | e
    · have fk := hz_b221_70 hk39 e
      exact fq7.tr fk
    · obtain ⟨q11, eq11, e⟩ := hs_bind_some e
      have fq11 := fq7.tr ((hz_215 eq11).sub hs_sub_nil)
      have fk := hz_b221_70 hk39 e
      exact fq11.tr fk
theorem hz_221 {a1 : Int32} {a2 : Int32} {a3 : Int32} {h : hs_H} {r : Int32 × hs_H} (e : hf_221 a1 a2 a3 h = some r) : hs_fr [(59, some 0), (60, some 0)] h r.2 := by
  unfold hf_221 at e
  obtain ⟨q1, eq1, e⟩ := hs_bind_some e
  have fq1 := (hs_fr.rf (K := [(59, some 0), (60, some 0)]) (h := h)).tr ((hz_219 eq1).sub hs_sub_nil)
  rcases hz_if e with e | e
  · rcases hz_if e with e | e
    · have fk := hz_b221_22  e
      exact fq1.tr fk
    · rcases hz_if e with e | e
      · obtain ⟨q5, eq5, e⟩ := hs_bind_some e
        have fq5 := fq1.tr ((hz_218 eq5).sub (hs_sub_cons (.inl (.head _)) (hs_sub_cons (.inl (.tail _ (.head _))) hs_sub_nil)))
        have fl := hz_lp7 (f := fun k s => hb_221_39 k s.1 s.2.1 s.2.2.1 s.2.2.2.1 s.2.2.2.2.1 s.2.2.2.2.2.1 s.2.2.2.2.2.2) (G := fun r => r.2) (fun k hk y1 y2 y3 y4 y5 y6 h r e => hz_b221_39 hk e) e
        exact fq5.tr fl
      · have fk := hz_b221_22  e
        exact fq1.tr fk
  · obtain rfl := Option.some.inj e
    exact fq1
theorem hz_b222_164 {s0 : Int32} {h : hs_H} {r : Int32 × hs_H} (e : hb_222_164 s0 h = some r) : hs_fr [(59, some 0), (60, some 0)] h r.2 := by
  unfold hb_222_164 at e
  obtain rfl := Option.some.inj e
  exact (hs_fr.rf (K := [(59, some 0), (60, some 0)]) (h := h))
theorem hz_b222_131 {k25 : Int32 × Int32 × Int32 × Int32 × hs_H → Option (Int32 × hs_H)} {k38 : Int32 × Int32 × Int32 × Int32 × Int32 × hs_H → Option (Int32 × hs_H)} {x1 : Int32} {x2 : Int32} {x4 : Int32} {x5 : Int32} {s0 : Int32} {h : hs_H} {r : Int32 × hs_H} (hk25 : ∀ y1 y2 y3 y4 h r, k25 (y1, y2, y3, y4, h) = some r → hs_fr [(59, some 0), (60, some 0)] h r.2) (hk38 : ∀ y1 y2 y3 y4 y5 h r, k38 (y1, y2, y3, y4, y5, h) = some r → hs_fr [(59, some 0), (60, some 0)] h r.2) (e : hb_222_131 k25 k38 x1 x2 x4 x5 s0 h = some r) : hs_fr [(59, some 0), (60, some 0)] h r.2 := by
  unfold hb_222_131 at e
  have fk := hk38 _ _ _ _ _ _ _ e
  exact (hs_fr.rf (K := [(59, some 0), (60, some 0)]) (h := h)).tr fk
theorem hz_b222_118 {k25 : Int32 × Int32 × Int32 × Int32 × hs_H → Option (Int32 × hs_H)} {k38 : Int32 × Int32 × Int32 × Int32 × Int32 × hs_H → Option (Int32 × hs_H)} {x1 : Int32} {x3 : Int32} {x4 : Int32} {x5 : Int32} {x6 : Int32} {s0 : Int32} {h : hs_H} {r : Int32 × hs_H} (hk25 : ∀ y1 y2 y3 y4 h r, k25 (y1, y2, y3, y4, h) = some r → hs_fr [(59, some 0), (60, some 0)] h r.2) (hk38 : ∀ y1 y2 y3 y4 y5 h r, k38 (y1, y2, y3, y4, y5, h) = some r → hs_fr [(59, some 0), (60, some 0)] h r.2) (e : hb_222_118 k25 k38 x1 x3 x4 x5 x6 s0 h = some r) : hs_fr [(59, some 0), (60, some 0)] h r.2 := by
  unfold hb_222_118 at e
  rcases hz_if e with e | e
  · have fk := hz_b222_131 hk25 hk38 e
    exact (hs_fr.rf (K := [(59, some 0), (60, some 0)]) (h := h)).tr fk
  · have fk := hz_b222_131 hk25 hk38 e
    exact (hs_fr.rf (K := [(59, some 0), (60, some 0)]) (h := h)).tr fk
theorem hz_b222_92 {k25 : Int32 × Int32 × Int32 × Int32 × hs_H → Option (Int32 × hs_H)} {k38 : Int32 × Int32 × Int32 × Int32 × Int32 × hs_H → Option (Int32 × hs_H)} {k53 : Int32 × Int32 × Int32 × Int32 × Int32 × Int32 × Int32 × hs_H → Option (Int32 × hs_H)} {x1 : Int32} {x2 : Int32} {x3 : Int32} {x4 : Int32} {x5 : Int32} {x7 : Int32} {s0 : Int32} {h : hs_H} {r : Int32 × hs_H} (hk25 : ∀ y1 y2 y3 y4 h r, k25 (y1, y2, y3, y4, h) = some r → hs_fr [(59, some 0), (60, some 0)] h r.2) (hk38 : ∀ y1 y2 y3 y4 y5 h r, k38 (y1, y2, y3, y4, y5, h) = some r → hs_fr [(59, some 0), (60, some 0)] h r.2) (hk53 : ∀ y1 y2 y3 y4 y5 y6 y7 h r, k53 (y1, y2, y3, y4, y5, y6, y7, h) = some r → hs_fr [(59, some 0), (60, some 0)] h r.2) (e : hb_222_92 k25 k38 k53 x1 x2 x3 x4 x5 x7 s0 h = some r) : hs_fr [(59, some 0), (60, some 0)] h r.2 := by
  unfold hb_222_92 at e
  have fk := hk53 _ _ _ _ _ _ _ _ _ e
  exact (hs_fr.rf (K := [(59, some 0), (60, some 0)]) (h := h)).tr fk
theorem hz_b222_53 {k25 : Int32 × Int32 × Int32 × Int32 × hs_H → Option (Int32 × hs_H)} {k38 : Int32 × Int32 × Int32 × Int32 × Int32 × hs_H → Option (Int32 × hs_H)} {k53 : Int32 × Int32 × Int32 × Int32 × Int32 × Int32 × Int32 × hs_H → Option (Int32 × hs_H)} {x1 : Int32} {x2 : Int32} {x3 : Int32} {x4 : Int32} {x5 : Int32} {x6 : Int32} {x7 : Int32} {h : hs_H} {r : Int32 × hs_H} (hk25 : ∀ y1 y2 y3 y4 h r, k25 (y1, y2, y3, y4, h) = some r → hs_fr [(59, some 0), (60, some 0)] h r.2) (hk38 : ∀ y1 y2 y3 y4 y5 h r, k38 (y1, y2, y3, y4, y5, h) = some r → hs_fr [(59, some 0), (60, some 0)] h r.2) (hk53 : ∀ y1 y2 y3 y4 y5 y6 y7 h r, k53 (y1, y2, y3, y4, y5, y6, y7, h) = some r → hs_fr [(59, some 0), (60, some 0)] h r.2) (e : hb_222_53 k25 k38 k53 x1 x2 x3 x4 x5 x6 x7 h = some r) : hs_fr [(59, some 0), (60, some 0)] h r.2 := by
  unfold hb_222_53 at e
  rcases hz_if e with e | e
  · rcases hz_if e with e | e
    · have fk := hz_b222_118 hk25 hk38 e
      exact (hs_fr.rf (K := [(59, some 0), (60, some 0)]) (h := h)).tr fk
    · have fk := hz_b222_118 hk25 hk38 e
      exact (hs_fr.rf (K := [(59, some 0), (60, some 0)]) (h := h)).tr fk
  · obtain ⟨q11, eq11, e⟩ := hs_bind_some e
    have fq11 := (hs_fr.rf (K := [(59, some 0), (60, some 0)]) (h := h)).tr ((hz_213 eq11).sub hs_sub_nil)
    replace e := (hs_ck_some e).2
    rcases hz_if e with e | e
    · have fk := hz_b222_92 hk25 hk38 hk53 e
      exact fq11.tr fk
    · have fk := hz_b222_92 hk25 hk38 hk53 e
      exact fq11.tr fk
theorem hz_b222_38 {k25 : Int32 × Int32 × Int32 × Int32 × hs_H → Option (Int32 × hs_H)} {k38 : Int32 × Int32 × Int32 × Int32 × Int32 × hs_H → Option (Int32 × hs_H)} {x1 : Int32} {x2 : Int32} {x3 : Int32} {x4 : Int32} {x5 : Int32} {h : hs_H} {r : Int32 × hs_H} (hk25 : ∀ y1 y2 y3 y4 h r, k25 (y1, y2, y3, y4, h) = some r → hs_fr [(59, some 0), (60, some 0)] h r.2) (hk38 : ∀ y1 y2 y3 y4 y5 h r, k38 (y1, y2, y3, y4, y5, h) = some r → hs_fr [(59, some 0), (60, some 0)] h r.2) (e : hb_222_38 k25 k38 x1 x2 x3 x4 x5 h = some r) : hs_fr [(59, some 0), (60, some 0)] h r.2 := by
  unfold hb_222_38 at e
  rcases hz_if e with e | e
  · have fk := hk25 _ _ _ _ _ _ e
    exact (hs_fr.rf (K := [(59, some 0), (60, some 0)]) (h := h)).tr fk
  · have fl := hz_lp8 (f := fun k s => hb_222_53 k25 k38 k s.1 s.2.1 s.2.2.1 s.2.2.2.1 s.2.2.2.2.1 s.2.2.2.2.2.1 s.2.2.2.2.2.2.1 s.2.2.2.2.2.2.2) (G := fun r => r.2) (fun k hk y1 y2 y3 y4 y5 y6 y7 h r e => hz_b222_53 hk25 hk38 hk e) e
    exact (hs_fr.rf (K := [(59, some 0), (60, some 0)]) (h := h)).tr fl
theorem hz_b222_25 {k25 : Int32 × Int32 × Int32 × Int32 × hs_H → Option (Int32 × hs_H)} {x1 : Int32} {x2 : Int32} {x3 : Int32} {x4 : Int32} {h : hs_H} {r : Int32 × hs_H} (hk25 : ∀ y1 y2 y3 y4 h r, k25 (y1, y2, y3, y4, h) = some r → hs_fr [(59, some 0), (60, some 0)] h r.2) (e : hb_222_25 k25 x1 x2 x3 x4 h = some r) : hs_fr [(59, some 0), (60, some 0)] h r.2 := by
  unfold hb_222_25 at e
  rcases hz_if e with e | e
  · rcases hz_if e with e | e
    · rcases hz_if e with e | e
      · have fk := hz_b222_164  e
        exact (hs_fr.rf (K := [(59, some 0), (60, some 0)]) (h := h)).tr fk
      · have fk := hz_b222_164  e
        exact (hs_fr.rf (K := [(59, some 0), (60, some 0)]) (h := h)).tr fk
    · have fk := hz_b222_164  e
      exact (hs_fr.rf (K := [(59, some 0), (60, some 0)]) (h := h)).tr fk
  · have fl := hz_lp6 (f := fun k s => hb_222_38 k25 k s.1 s.2.1 s.2.2.1 s.2.2.2.1 s.2.2.2.2.1 s.2.2.2.2.2) (G := fun r => r.2) (fun k hk y1 y2 y3 y4 y5 h r e => hz_b222_38 hk25 hk e) e
    exact (hs_fr.rf (K := [(59, some 0), (60, some 0)]) (h := h)).tr fl
theorem hz_222 {a1 : Int32} {h : hs_H} {r : Int32 × hs_H} (e : hf_222 a1 h = some r) : hs_fr [(59, some 0), (60, some 0)] h r.2 := by
  unfold hf_222 at e
  obtain ⟨q1, eq1, e⟩ := hs_bind_some e
  have fq1 := (hs_fr.rf (K := [(59, some 0), (60, some 0)]) (h := h)).tr ((hz_150 eq1).sub hs_sub_nil)
  rcases hz_if e with e | e
  · obtain ⟨q3, eq3, e⟩ := hs_bind_some e
    have fq3 := fq1.tr ((hz_218 eq3).sub (hs_sub_cons (.inl (.head _)) (hs_sub_cons (.inl (.tail _ (.head _))) hs_sub_nil)))
    have fl := hz_lp5 (f := fun k s => hb_222_25 k s.1 s.2.1 s.2.2.1 s.2.2.2.1 s.2.2.2.2) (G := fun r => r.2) (fun k hk y1 y2 y3 y4 h r e => hz_b222_25 hk e) e
    exact fq3.tr fl
  · obtain rfl := Option.some.inj e
    exact fq1
theorem hz_b223_138 {k28 : Int32 × Int32 × Int32 × hs_H → Option (Int32 × hs_H)} {k87 : Int32 × Int32 × Int32 × Int32 × Int32 × hs_H → Option (Int32 × hs_H)} {x4 : Int32} {x5 : Int32} {x6 : Int32} {x7 : Int32} {s0 : Int32} {s1 : Int32} {h : hs_H} {r : Int32 × hs_H} (hk28 : ∀ y1 y2 y3 h r, k28 (y1, y2, y3, h) = some r → hs_fr [(48, some 0)] h r.2) (hk87 : ∀ y1 y2 y3 y4 y5 h r, k87 (y1, y2, y3, y4, y5, h) = some r → hs_fr [(48, some 0)] h r.2) (e : hb_223_138 k28 k87 x4 x5 x6 x7 s0 s1 h = some r) : hs_fr [(48, some 0)] h r.2 := by
  unfold hb_223_138 at e
  have fk := hk87 _ _ _ _ _ _ _ e
  exact (hs_fr.rf (K := [(48, some 0)]) (h := h)).tr fk
theorem hz_b223_137 {k28 : Int32 × Int32 × Int32 × hs_H → Option (Int32 × hs_H)} {k87 : Int32 × Int32 × Int32 × Int32 × Int32 × hs_H → Option (Int32 × hs_H)} {x4 : Int32} {x5 : Int32} {x6 : Int32} {x7 : Int32} {s0 : Int32} {h : hs_H} {r : Int32 × hs_H} (hk28 : ∀ y1 y2 y3 h r, k28 (y1, y2, y3, h) = some r → hs_fr [(48, some 0)] h r.2) (hk87 : ∀ y1 y2 y3 y4 y5 h r, k87 (y1, y2, y3, y4, y5, h) = some r → hs_fr [(48, some 0)] h r.2) (e : hb_223_137 k28 k87 x4 x5 x6 x7 s0 h = some r) : hs_fr [(48, some 0)] h r.2 := by
  unfold hb_223_137 at e
  have fk := hz_b223_138 hk28 hk87 e
  exact (hs_fr.rf (K := [(48, some 0)]) (h := h)).tr fk
theorem hz_b223_87 {k28 : Int32 × Int32 × Int32 × hs_H → Option (Int32 × hs_H)} {k87 : Int32 × Int32 × Int32 × Int32 × Int32 × hs_H → Option (Int32 × hs_H)} {x3 : Int32} {x4 : Int32} {x5 : Int32} {x6 : Int32} {x7 : Int32} {h : hs_H} {r : Int32 × hs_H} (hk28 : ∀ y1 y2 y3 h r, k28 (y1, y2, y3, h) = some r → hs_fr [(48, some 0)] h r.2) (hk87 : ∀ y1 y2 y3 y4 y5 h r, k87 (y1, y2, y3, y4, y5, h) = some r → hs_fr [(48, some 0)] h r.2) (e : hb_223_87 k28 k87 x3 x4 x5 x6 x7 h = some r) : hs_fr [(48, some 0)] h r.2 := by
  unfold hb_223_87 at e
  rcases hz_if e with e | e
  · have fk := hk28 _ _ _ _ _ e
    exact (hs_fr.rf (K := [(48, some 0)]) (h := h)).tr fk
  · rcases hz_if e with e | e
    · have fk := hz_b223_137 hk28 hk87 e
      exact (hs_fr.rf (K := [(48, some 0)]) (h := h)).tr fk
    · rcases hz_if e with e | e
      · have fk := hz_b223_137 hk28 hk87 e
        exact (hs_fr.rf (K := [(48, some 0)]) (h := h)).tr fk
      · replace e := (hs_ck_some e).2
        rcases hz_if e with e | e
        · have fk := hz_b223_137 hk28 hk87 e
          exact (hs_fr.rf (K := [(48, some 0)]) (h := h)).tr fk
        · have fk := hz_b223_138 hk28 hk87 e
          exact (hs_fr.rf (K := [(48, some 0)]) (h := h)).tr fk
theorem hz_b223_73 {k28 : Int32 × Int32 × Int32 × hs_H → Option (Int32 × hs_H)} {k41 : Int32 × Int32 × Int32 × Int32 × Int32 × hs_H → Option (Int32 × hs_H)} {x3 : Int32} {x4 : Int32} {x5 : Int32} {x7 : Int32} {s0 : Int32} {s1 : Int32} {h : hs_H} {r : Int32 × hs_H} (hk28 : ∀ y1 y2 y3 h r, k28 (y1, y2, y3, h) = some r → hs_fr [(48, some 0)] h r.2) (hk41 : ∀ y1 y2 y3 y4 y5 h r, k41 (y1, y2, y3, y4, y5, h) = some r → hs_fr [(48, some 0)] h r.2) (e : hb_223_73 k28 k41 x3 x4 x5 x7 s0 s1 h = some r) : hs_fr [(48, some 0)] h r.2 := by
  unfold hb_223_73 at e
  have fk := hk41 _ _ _ _ _ _ _ e
  exact (hs_fr.rf (K := [(48, some 0)]) (h := h)).tr fk
theorem hz_b223_41 {k28 : Int32 × Int32 × Int32 × hs_H → Option (Int32 × hs_H)} {k41 : Int32 × Int32 × Int32 × Int32 × Int32 × hs_H → Option (Int32 × hs_H)} {x3 : Int32} {x4 : Int32} {x5 : Int32} {x6 : Int32} {x7 : Int32} {h : hs_H} {r : Int32 × hs_H} (hk28 : ∀ y1 y2 y3 h r, k28 (y1, y2, y3, h) = some r → hs_fr [(48, some 0)] h r.2) (hk41 : ∀ y1 y2 y3 y4 y5 h r, k41 (y1, y2, y3, y4, y5, h) = some r → hs_fr [(48, some 0)] h r.2) (e : hb_223_41 k28 k41 x3 x4 x5 x6 x7 h = some r) : hs_fr [(48, some 0)] h r.2 := by
  unfold hb_223_41 at e
  rcases hz_if e with e | e
  · have fl := hz_lp6 (f := fun k s => hb_223_87 k28 k s.1 s.2.1 s.2.2.1 s.2.2.2.1 s.2.2.2.2.1 s.2.2.2.2.2) (G := fun r => r.2) (fun k hk y1 y2 y3 y4 y5 h r e => hz_b223_87 hk28 hk e) e
    exact (hs_fr.rf (K := [(48, some 0)]) (h := h)).tr fl
  · rcases hz_if e with e | e
    · have fk := hz_b223_73 hk28 hk41 e
      exact (hs_fr.rf (K := [(48, some 0)]) (h := h)).tr fk
    · replace e := (hs_ck_some e).2
      have fk := hz_b223_73 hk28 hk41 e
      exact (hs_fr.rf (K := [(48, some 0)]) (h := h)).tr fk
theorem hz_b223_28 {k28 : Int32 × Int32 × Int32 × hs_H → Option (Int32 × hs_H)} {x3 : Int32} {x4 : Int32} {x5 : Int32} {h : hs_H} {r : Int32 × hs_H} (hk28 : ∀ y1 y2 y3 h r, k28 (y1, y2, y3, h) = some r → hs_fr [(48, some 0)] h r.2) (e : hb_223_28 k28 x3 x4 x5 h = some r) : hs_fr [(48, some 0)] h r.2 := by
  unfold hb_223_28 at e
  rcases hz_if e with e | e
  · obtain rfl := Option.some.inj e
    exact (hs_fr.rf (K := [(48, some 0)]) (h := h))
  · have fl := hz_lp6 (f := fun k s => hb_223_41 k28 k s.1 s.2.1 s.2.2.1 s.2.2.2.1 s.2.2.2.2.1 s.2.2.2.2.2) (G := fun r => r.2) (fun k hk y1 y2 y3 y4 y5 h r e => hz_b223_41 hk28 hk e) e
    exact (hs_fr.rf (K := [(48, some 0)]) (h := h)).tr fl
theorem hz_b223_21 {s0 : Int32} {h : hs_H} {r : Int32 × hs_H} (e : hb_223_21 s0 h = some r) : hs_fr [(48, some 0)] h r.2 := by
  unfold hb_223_21 at e
  have fl := hz_lp4 (f := fun k s => hb_223_28 k s.1 s.2.1 s.2.2.1 s.2.2.2) (G := fun r => r.2) (fun k hk y1 y2 y3 h r e => hz_b223_28 hk e) e
  exact (hs_fr.rf (K := [(48, some 0)]) (h := h)).tr fl
theorem hz_223 {a1 : Int32} {a2 : Int32} {h : hs_H} {r : Int32 × hs_H} (e : hf_223 a1 a2 h = some r) : hs_fr [(48, some 0)] h r.2 := by
  unfold hf_223 at e
  obtain ⟨q1, eq1, e⟩ := hs_bind_some e
  have fq1 := (hs_fr.rf (K := [(48, some 0)]) (h := h)).tr ((hz_178 eq1).sub (hs_sub_cons (.inl (.head _)) hs_sub_nil))
  replace e := (hs_ck_some e).2
  rcases hz_if e with e | e
  · have fk := hz_b223_21  e
    exact fq1.tr fk
  · have fk := hz_b223_21  e
    exact fq1.tr fk
theorem hz_b224_26 {s0 : Int32} {h : hs_H} {r : Int32 × hs_H} (e : hb_224_26 s0 h = some r) : hs_fr [(48, some 0)] h r.2 := by
  unfold hb_224_26 at e
  obtain rfl := Option.some.inj e
  exact (hs_fr.rf (K := [(48, some 0)]) (h := h))
theorem hz_b224_25 {h : hs_H} {r : Int32 × hs_H} (e : hb_224_25 h = some r) : hs_fr [(48, some 0)] h r.2 := by
  unfold hb_224_25 at e
  have fk := hz_b224_26  e
  exact (hs_fr.rf (K := [(48, some 0)]) (h := h)).tr fk
theorem hz_224 {a1 : Int32} {a2 : Int32} {h : hs_H} {r : Int32 × hs_H} (e : hf_224 a1 a2 h = some r) : hs_fr [(48, some 0)] h r.2 := by
  unfold hf_224 at e
  obtain ⟨q1, eq1, e⟩ := hs_bind_some e
  have fq1 := (hs_fr.rf (K := [(48, some 0)]) (h := h)).tr ((hz_171 eq1).sub hs_sub_nil)
  rcases hz_if e with e | e
  · have fk := hz_b224_25  e
    exact fq1.tr fk
  · obtain ⟨q3, eq3, e⟩ := hs_bind_some e
    have fq3 := fq1.tr ((hz_204 eq3).sub hs_sub_nil)
    rcases hz_if e with e | e
    · have fk := hz_b224_25  e
      exact fq3.tr fk
    · obtain ⟨q5, eq5, e⟩ := hs_bind_some e
      have fq5 := fq3.tr ((hz_223 eq5).sub (hs_sub_cons (.inl (.head _)) hs_sub_nil))
      have fk := hz_b224_26  e
      exact fq5.tr fk
theorem hz_b225_26 {h : hs_H} {r : Int32 × hs_H} (e : hb_225_26 h = some r) : hs_fr [(44, some 0), (48, some 0)] h r.2 := by
  unfold hb_225_26 at e
  obtain rfl := Option.some.inj e
  exact (hs_fr.rf (K := [(44, some 0), (48, some 0)]) (h := h))
theorem hz_b225_183 {s0 : Int32} {h : hs_H} {r : Int32 × hs_H} (e : hb_225_183 s0 h = some r) : hs_fr [(44, some 0), (48, some 0)] h r.2 := by
  unfold hb_225_183 at e
  obtain rfl := Option.some.inj e
  exact (hs_fr.rf (K := [(44, some 0), (48, some 0)]) (h := h))
theorem hz_b225_148 {k46 : Int32 × Int32 × Int32 × Int32 × Int32 × Int32 × hs_H → Option (Int32 × hs_H)} {k61 : Int32 × Int32 × Int32 × Int32 × Int32 × Int32 × Int32 × hs_H → Option (Int32 × hs_H)} {x1 : Int32} {x2 : Int32} {x3 : Int32} {x4 : Int32} {x5 : Int32} {x6 : Int32} {x7 : Int32} {h : hs_H} {r : Int32 × hs_H} (hk46 : ∀ y1 y2 y3 y4 y5 y6 h r, k46 (y1, y2, y3, y4, y5, y6, h) = some r → hs_fr [(44, some 0), (48, some 0)] h r.2) (hk61 : ∀ y1 y2 y3 y4 y5 y6 y7 h r, k61 (y1, y2, y3, y4, y5, y6, y7, h) = some r → hs_fr [(44, some 0), (48, some 0)] h r.2) (e : hb_225_148 k46 k61 x1 x2 x3 x4 x5 x6 x7 h = some r) : hs_fr [(44, some 0), (48, some 0)] h r.2 := by
  unfold hb_225_148 at e
  have fk := hk61 _ _ _ _ _ _ _ _ _ e
  exact (hs_fr.rf (K := [(44, some 0), (48, some 0)]) (h := h)).tr fk
theorem hz_b225_146 {k46 : Int32 × Int32 × Int32 × Int32 × Int32 × Int32 × hs_H → Option (Int32 × hs_H)} {k61 : Int32 × Int32 × Int32 × Int32 × Int32 × Int32 × Int32 × hs_H → Option (Int32 × hs_H)} {x1 : Int32} {x2 : Int32} {x3 : Int32} {x4 : Int32} {x6 : Int32} {x7 : Int32} {s0 : Int32} {h : hs_H} {r : Int32 × hs_H} (hk46 : ∀ y1 y2 y3 y4 y5 y6 h r, k46 (y1, y2, y3, y4, y5, y6, h) = some r → hs_fr [(44, some 0), (48, some 0)] h r.2) (hk61 : ∀ y1 y2 y3 y4 y5 y6 y7 h r, k61 (y1, y2, y3, y4, y5, y6, y7, h) = some r → hs_fr [(44, some 0), (48, some 0)] h r.2) (e : hb_225_146 k46 k61 x1 x2 x3 x4 x6 x7 s0 h = some r) : hs_fr [(44, some 0), (48, some 0)] h r.2 := by
  unfold hb_225_146 at e
  have fk := hz_b225_148 hk46 hk61 e
  exact (hs_fr.rf (K := [(44, some 0), (48, some 0)]) (h := h)).tr fk
theorem hz_b225_130 {k46 : Int32 × Int32 × Int32 × Int32 × Int32 × Int32 × hs_H → Option (Int32 × hs_H)} {k61 : Int32 × Int32 × Int32 × Int32 × Int32 × Int32 × Int32 × hs_H → Option (Int32 × hs_H)} {x1 : Int32} {x2 : Int32} {x3 : Int32} {x5 : Int32} {x6 : Int32} {x7 : Int32} {x8 : Int32} {s0 : Int32} {h : hs_H} {r : Int32 × hs_H} (hk46 : ∀ y1 y2 y3 y4 y5 y6 h r, k46 (y1, y2, y3, y4, y5, y6, h) = some r → hs_fr [(44, some 0), (48, some 0)] h r.2) (hk61 : ∀ y1 y2 y3 y4 y5 y6 y7 h r, k61 (y1, y2, y3, y4, y5, y6, y7, h) = some r → hs_fr [(44, some 0), (48, some 0)] h r.2) (e : hb_225_130 k46 k61 x1 x2 x3 x5 x6 x7 x8 s0 h = some r) : hs_fr [(44, some 0), (48, some 0)] h r.2 := by
  unfold hb_225_130 at e
  rcases hz_if e with e | e
  · have fk := hz_b225_146 hk46 hk61 e
    exact (hs_fr.rf (K := [(44, some 0), (48, some 0)]) (h := h)).tr fk
  · have fk := hz_b225_146 hk46 hk61 e
    exact (hs_fr.rf (K := [(44, some 0), (48, some 0)]) (h := h)).tr fk
theorem hz_b225_61 {k46 : Int32 × Int32 × Int32 × Int32 × Int32 × Int32 × hs_H → Option (Int32 × hs_H)} {k61 : Int32 × Int32 × Int32 × Int32 × Int32 × Int32 × Int32 × hs_H → Option (Int32 × hs_H)} {x1 : Int32} {x2 : Int32} {x3 : Int32} {x4 : Int32} {x5 : Int32} {x6 : Int32} {x7 : Int32} {h : hs_H} {r : Int32 × hs_H} (hk46 : ∀ y1 y2 y3 y4 y5 y6 h r, k46 (y1, y2, y3, y4, y5, y6, h) = some r → hs_fr [(44, some 0), (48, some 0)] h r.2) (hk61 : ∀ y1 y2 y3 y4 y5 y6 y7 h r, k61 (y1, y2, y3, y4, y5, y6, y7, h) = some r → hs_fr [(44, some 0), (48, some 0)] h r.2) (e : hb_225_61 k46 k61 x1 x2 x3 x4 x5 x6 x7 h = some r) : hs_fr [(44, some 0), (48, some 0)] h r.2 := by
  unfold hb_225_61 at e
  rcases hz_if e with e | e
  · have fk := hk46 _ _ _ _ _ _ _ _ e
    exact (hs_fr.rf (K := [(44, some 0), (48, some 0)]) (h := h)).tr fk
  · obtain ⟨q13, eq13, e⟩ := hs_bind_some e
    have fq13 := (hs_fr.rf (K := [(44, some 0), (48, some 0)]) (h := h)).tr ((hz_172 eq13).sub hs_sub_nil)
    rcases hz_if e with e | e
    · have fk := hz_b225_148 hk46 hk61 e
      exact fq13.tr fk
    · obtain ⟨q15, eq15, e⟩ := hs_bind_some e
      have fq15 := fq13.tr ((hz_175 eq15).sub (hs_sub_cons (.inl (.head _)) hs_sub_nil))
      obtain ⟨q16, eq16, e⟩ := hs_bind_some e
      have fq16 := fq15.tr ((hz_223 eq16).sub (hs_sub_cons (.inl (.tail _ (.head _))) hs_sub_nil))
      obtain ⟨q17, eq17, e⟩ := hs_bind_some e
      have fq17 := fq16.tr ((hz_152 eq17).sub hs_sub_nil)
      obtain ⟨q18, eq18, e⟩ := hs_bind_some e
      have fq18 := fq17.tr ((hz_175 eq18).sub (hs_sub_cons (.inl (.head _)) hs_sub_nil))
      rcases hz_if e with e | e
      · have fk := hz_b225_130 hk46 hk61 e
        exact fq18.tr fk
      · have fk := hz_b225_130 hk46 hk61 e
        exact fq18.tr fk
theorem hz_b225_46 {k46 : Int32 × Int32 × Int32 × Int32 × Int32 × Int32 × hs_H → Option (Int32 × hs_H)} {x1 : Int32} {x2 : Int32} {x3 : Int32} {x4 : Int32} {x5 : Int32} {x6 : Int32} {h : hs_H} {r : Int32 × hs_H} (hk46 : ∀ y1 y2 y3 y4 y5 y6 h r, k46 (y1, y2, y3, y4, y5, y6, h) = some r → hs_fr [(44, some 0), (48, some 0)] h r.2) (e : hb_225_46 k46 x1 x2 x3 x4 x5 x6 h = some r) : hs_fr [(44, some 0), (48, some 0)] h r.2 := by
  unfold hb_225_46 at e
  rcases hz_if e with e | e
  · rcases hz_if e with e | e
    · rcases hz_if e with e | e
      · have fk := hz_b225_183  e
        exact (hs_fr.rf (K := [(44, some 0), (48, some 0)]) (h := h)).tr fk
      · have fk := hz_b225_183  e
        exact (hs_fr.rf (K := [(44, some 0), (48, some 0)]) (h := h)).tr fk
    · have fk := hz_b225_183  e
      exact (hs_fr.rf (K := [(44, some 0), (48, some 0)]) (h := h)).tr fk
  · have fl := hz_lp8 (f := fun k s => hb_225_61 k46 k s.1 s.2.1 s.2.2.1 s.2.2.2.1 s.2.2.2.2.1 s.2.2.2.2.2.1 s.2.2.2.2.2.2.1 s.2.2.2.2.2.2.2) (G := fun r => r.2) (fun k hk y1 y2 y3 y4 y5 y6 y7 h r e => hz_b225_61 hk46 hk e) e
    exact (hs_fr.rf (K := [(44, some 0), (48, some 0)]) (h := h)).tr fl
theorem hz_225 {a1 : Int32} {a2 : Int32} {a3 : Int32} {h : hs_H} {r : Int32 × hs_H} (e : hf_225 a1 a2 a3 h = some r) : hs_fr [(44, some 0), (48, some 0)] h r.2 := by
  unfold hf_225 at e
  obtain ⟨q1, eq1, e⟩ := hs_bind_some e
  have fq1 := (hs_fr.rf (K := [(44, some 0), (48, some 0)]) (h := h)).tr ((hz_171 eq1).sub hs_sub_nil)
  rcases hz_if e with e | e
  · have fk := hz_b225_26  e
    exact fq1.tr fk
  · obtain ⟨q3, eq3, e⟩ := hs_bind_some e
    have fq3 := fq1.tr ((hz_204 eq3).sub hs_sub_nil)
    rcases hz_if e with e | e
    · have fk := hz_b225_26  e
      exact fq3.tr fk
    · obtain ⟨q5, eq5, e⟩ := hs_bind_some e
      have fq5 := fq3.tr ((hz_150 eq5).sub hs_sub_nil)
      rcases hz_if e with e | e
      · obtain ⟨q7, eq7, e⟩ := hs_bind_some e
        have fq7 := fq5.tr ((hz_223 eq7).sub (hs_sub_cons (.inl (.tail _ (.head _))) hs_sub_nil))
        obtain ⟨q8, eq8, e⟩ := hs_bind_some e
        have fq8 := fq7.tr ((hz_152 eq8).sub hs_sub_nil)
        have fl := hz_lp7 (f := fun k s => hb_225_46 k s.1 s.2.1 s.2.2.1 s.2.2.2.1 s.2.2.2.2.1 s.2.2.2.2.2.1 s.2.2.2.2.2.2) (G := fun r => r.2) (fun k hk y1 y2 y3 y4 y5 y6 h r e => hz_b225_46 hk e) e
        exact fq8.tr fl
      · have fk := hz_b225_26  e
        exact fq5.tr fk
