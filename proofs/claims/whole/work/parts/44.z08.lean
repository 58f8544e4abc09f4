/-! Frames: which kinds and instances a function writes; by gen7.py. -/
theorem hz_b193_200 {h : hs_H} {r : hs_H} (e : hb_193_200 h = some r) : hs_fr [(12, some 0), (49, some 0), (50, some 0), (51, some 0), (52, some 0)] h r := by
  unfold hb_193_200 at e
  obtain rfl := Option.some.inj e
  exact (hs_fr.rf (K := [(12, some 0), (49, some 0), (50, some 0), (51, some 0), (52, some 0)]) (h := h))
theorem hz_b193_197 {k34 : Int32 × Int32 × Int32 × Int32 × Int32 × hs_H → Option (hs_H)} {x1 : Int32} {x2 : Int32} {x3 : Int32} {x4 : Int32} {x5 : Int32} {h : hs_H} {r : hs_H} (hk34 : ∀ y1 y2 y3 y4 y5 h r, k34 (y1, y2, y3, y4, y5, h) = some r → hs_fr [(12, some 0), (49, some 0), (50, some 0), (51, some 0), (52, some 0)] h r) (e : hb_193_197 k34 x1 x2 x3 x4 x5 h = some r) : hs_fr [(12, some 0), (49, some 0), (50, some 0), (51, some 0), (52, some 0)] h r := by
  unfold hb_193_197 at e
  have fk := hk34 _ _ _ _ _ _ _ e
  exact (hs_fr.rf (K := [(12, some 0), (49, some 0), (50, some 0), (51, some 0), (52, some 0)]) (h := h)).tr fk
theorem hz_b193_195 {k34 : Int32 × Int32 × Int32 × Int32 × Int32 × hs_H → Option (hs_H)} {x1 : Int32} {x2 : Int32} {x3 : Int32} {x4 : Int32} {s0 : Int32} {h : hs_H} {r : hs_H} (hk34 : ∀ y1 y2 y3 y4 y5 h r, k34 (y1, y2, y3, y4, y5, h) = some r → hs_fr [(12, some 0), (49, some 0), (50, some 0), (51, some 0), (52, some 0)] h r) (e : hb_193_195 k34 x1 x2 x3 x4 s0 h = some r) : hs_fr [(12, some 0), (49, some 0), (50, some 0), (51, some 0), (52, some 0)] h r := by
  unfold hb_193_195 at e
  have fk := hz_b193_197 hk34 e
  exact (hs_fr.rf (K := [(12, some 0), (49, some 0), (50, some 0), (51, some 0), (52, some 0)]) (h := h)).tr fk
theorem hz_b193_145 {k34 : Int32 × Int32 × Int32 × Int32 × Int32 × hs_H → Option (hs_H)} {x1 : Int32} {x2 : Int32} {x3 : Int32} {x4 : Int32} {x5 : Int32} {x6 : Int32} {h : hs_H} {r : hs_H} (hk34 : ∀ y1 y2 y3 y4 y5 h r, k34 (y1, y2, y3, y4, y5, h) = some r → hs_fr [(12, some 0), (49, some 0), (50, some 0), (51, some 0), (52, some 0)] h r) (e : hb_193_145 k34 x1 x2 x3 x4 x5 x6 h = some r) : hs_fr [(12, some 0), (49, some 0), (50, some 0), (51, some 0), (52, some 0)] h r := by
  unfold hb_193_145 at e
  rcases hz_if e with e | e
  · rcases hz_if e with e | e
    · rcases hz_if e with e | e
      · replace e := (hs_ck_some e).2
        have fk := hz_b193_195 hk34 e
        exact (hs_fr.rf (K := [(12, some 0), (49, some 0), (50, some 0), (51, some 0), (52, some 0)]) (h := h)).tr fk
      · have fk := hz_b193_195 hk34 e
        exact (hs_fr.rf (K := [(12, some 0), (49, some 0), (50, some 0), (51, some 0), (52, some 0)]) (h := h)).tr fk
    · have fk := hz_b193_197 hk34 e
      exact (hs_fr.rf (K := [(12, some 0), (49, some 0), (50, some 0), (51, some 0), (52, some 0)]) (h := h)).tr fk
  · have fk := hz_b193_197 hk34 e
    exact (hs_fr.rf (K := [(12, some 0), (49, some 0), (50, some 0), (51, some 0), (52, some 0)]) (h := h)).tr fk
theorem hz_b193_123 {k34 : Int32 × Int32 × Int32 × Int32 × Int32 × hs_H → Option (hs_H)} {x1 : Int32} {x2 : Int32} {x3 : Int32} {x4 : Int32} {x5 : Int32} {x6 : Int32} {h : hs_H} {r : hs_H} (hk34 : ∀ y1 y2 y3 y4 y5 h r, k34 (y1, y2, y3, y4, y5, h) = some r → hs_fr [(12, some 0), (49, some 0), (50, some 0), (51, some 0), (52, some 0)] h r) (e : hb_193_123 k34 x1 x2 x3 x4 x5 x6 h = some r) : hs_fr [(12, some 0), (49, some 0), (50, some 0), (51, some 0), (52, some 0)] h r := by
  unfold hb_193_123 at e
  rcases hz_if e with e | e
  · have fk := hz_b193_145 hk34 e
    exact (hs_fr.rf (K := [(12, some 0), (49, some 0), (50, some 0), (51, some 0), (52, some 0)]) (h := h)).tr fk
  · rcases hz_if e with e | e
    · have fk := hz_b193_145 hk34 e
      exact (hs_fr.rf (K := [(12, some 0), (49, some 0), (50, some 0), (51, some 0), (52, some 0)]) (h := h)).tr fk
    · obtain ⟨q12, eq12, e⟩ := hs_bind_some e
      have fq12 := (hs_fr.rf (K := [(12, some 0), (49, some 0), (50, some 0), (51, some 0), (52, some 0)]) (h := h)).tr ((hz_192 eq12).sub (hs_sub_cons (.inl (.head _)) (hs_sub_cons (.inl (.tail _ (.tail _ (.tail _ (.head _))))) (hs_sub_cons (.inl (.tail _ (.tail _ (.tail _ (.tail _ (.head _)))))) hs_sub_nil))))
      have fk := hz_b193_197 hk34 e
      exact fq12.tr fk
theorem hz_b193_99 {k34 : Int32 × Int32 × Int32 × Int32 × Int32 × hs_H → Option (hs_H)} {x1 : Int32} {x2 : Int32} {x3 : Int32} {x4 : Int32} {x5 : Int32} {s0 : Int32} {h : hs_H} {r : hs_H} (hk34 : ∀ y1 y2 y3 y4 y5 h r, k34 (y1, y2, y3, y4, y5, h) = some r → hs_fr [(12, some 0), (49, some 0), (50, some 0), (51, some 0), (52, some 0)] h r) (e : hb_193_99 k34 x1 x2 x3 x4 x5 s0 h = some r) : hs_fr [(12, some 0), (49, some 0), (50, some 0), (51, some 0), (52, some 0)] h r := by
  unfold hb_193_99 at e
  rcases hz_if e with e | e
  · have fk := hz_b193_123 hk34 e
    exact (hs_fr.rf (K := [(12, some 0), (49, some 0), (50, some 0), (51, some 0), (52, some 0)]) (h := h)).tr fk
  · obtain ⟨q13, eq13, e⟩ := hs_bind_some e
    have fq13 := (hs_fr.rf (K := [(12, some 0), (49, some 0), (50, some 0), (51, some 0), (52, some 0)]) (h := h)).tr ((hz_189 eq13).sub (hs_sub_cons (.inl (.tail _ (.head _))) (hs_sub_cons (.inl (.tail _ (.tail _ (.head _)))) hs_sub_nil)))
    obtain ⟨q14, eq14, e⟩ := hs_bind_some e
    have fq14 := fq13.tr ((hz_190 eq14).sub hs_sub_nil)
    have fk := hz_b193_123 hk34 e
    exact fq14.tr fk
theorem hz_b193_98 {k34 : Int32 × Int32 × Int32 × Int32 × Int32 × hs_H → Option (hs_H)} {x1 : Int32} {x2 : Int32} {x3 : Int32} {x4 : Int32} {x5 : Int32} {h : hs_H} {r : hs_H} (hk34 : ∀ y1 y2 y3 y4 y5 h r, k34 (y1, y2, y3, y4, y5, h) = some r → hs_fr [(12, some 0), (49, some 0), (50, some 0), (51, some 0), (52, some 0)] h r) (e : hb_193_98 k34 x1 x2 x3 x4 x5 h = some r) : hs_fr [(12, some 0), (49, some 0), (50, some 0), (51, some 0), (52, some 0)] h r := by
  unfold hb_193_98 at e
  have fk := hz_b193_99 hk34 e
  exact (hs_fr.rf (K := [(12, some 0), (49, some 0), (50, some 0), (51, some 0), (52, some 0)]) (h := h)).tr fk
theorem hz_b193_94 {k34 : Int32 × Int32 × Int32 × Int32 × Int32 × hs_H → Option (hs_H)} {x1 : Int32} {x2 : Int32} {x3 : Int32} {x4 : Int32} {x5 : Int32} {h : hs_H} {r : hs_H} (hk34 : ∀ y1 y2 y3 y4 y5 h r, k34 (y1, y2, y3, y4, y5, h) = some r → hs_fr [(12, some 0), (49, some 0), (50, some 0), (51, some 0), (52, some 0)] h r) (e : hb_193_94 k34 x1 x2 x3 x4 x5 h = some r) : hs_fr [(12, some 0), (49, some 0), (50, some 0), (51, some 0), (52, some 0)] h r := by
  unfold hb_193_94 at e
  have fk := hz_b193_99 hk34 e
  exact (hs_fr.rf (K := [(12, some 0), (49, some 0), (50, some 0), (51, some 0), (52, some 0)]) (h := h)).tr fk
theorem hz_b193_50 {k34 : Int32 × Int32 × Int32 × Int32 × Int32 × hs_H → Option (hs_H)} {x1 : Int32} {x2 : Int32} {x3 : Int32} {x4 : Int32} {x5 : Int32} {h : hs_H} {r : hs_H} (hk34 : ∀ y1 y2 y3 y4 y5 h r, k34 (y1, y2, y3, y4, y5, h) = some r → hs_fr [(12, some 0), (49, some 0), (50, some 0), (51, some 0), (52, some 0)] h r) (e : hb_193_50 k34 x1 x2 x3 x4 x5 h = some r) : hs_fr [(12, some 0), (49, some 0), (50, some 0), (51, some 0), (52, some 0)] h r := by
  unfold hb_193_50 at e
  rcases hz_if e with e | e
  · have fk := hz_b193_98 hk34 e
    exact (hs_fr.rf (K := [(12, some 0), (49, some 0), (50, some 0), (51, some 0), (52, some 0)]) (h := h)).tr fk
  · rcases hz_if e with e | e
    · replace e := (hs_ck_some e).2
      obtain ⟨q17, eq17, e⟩ := hs_bind_some e
      have fq17 := (hs_fr.rf (K := [(12, some 0), (49, some 0), (50, some 0), (51, some 0), (52, some 0)]) (h := h)).tr ((hz_181 eq17).sub hs_sub_nil)
      rcases hz_if e with e | e
      · have fk := hz_b193_98 hk34 e
        exact fq17.tr fk
      · have fk := hz_b193_94 hk34 e
        exact fq17.tr fk
    · obtain ⟨q19, eq19, e⟩ := hs_bind_some e
      have fq19 := (hs_fr.rf (K := [(12, some 0), (49, some 0), (50, some 0), (51, some 0), (52, some 0)]) (h := h)).tr ((hz_191 eq19).sub hs_sub_nil)
      rcases hz_if e with e | e
      · have fk := hz_b193_98 hk34 e
        exact fq19.tr fk
      · have fk := hz_b193_94 hk34 e
        exact fq19.tr fk
theorem hz_b193_34 {k34 : Int32 × Int32 × Int32 × Int32 × Int32 × hs_H → Option (hs_H)} {x1 : Int32} {x2 : Int32} {x3 : Int32} {x4 : Int32} {x5 : Int32} {h : hs_H} {r : hs_H} (hk34 : ∀ y1 y2 y3 y4 y5 h r, k34 (y1, y2, y3, y4, y5, h) = some r → hs_fr [(12, some 0), (49, some 0), (50, some 0), (51, some 0), (52, some 0)] h r) (e : hb_193_34 k34 x1 x2 x3 x4 x5 h = some r) : hs_fr [(12, some 0), (49, some 0), (50, some 0), (51, some 0), (52, some 0)] h r := by
  unfold hb_193_34 at e
  rcases hz_if e with e | e
  · have fk := hz_b193_200  e
    exact (hs_fr.rf (K := [(12, some 0), (49, some 0), (50, some 0), (51, some 0), (52, some 0)]) (h := h)).tr fk
  · rcases hz_if e with e | e
    · have fk := hz_b193_50 hk34 e
      exact (hs_fr.rf (K := [(12, some 0), (49, some 0), (50, some 0), (51, some 0), (52, some 0)]) (h := h)).tr fk
    · rcases hz_if e with e | e
      · have fk := hz_b193_200  e
        exact (hs_fr.rf (K := [(12, some 0), (49, some 0), (50, some 0), (51, some 0), (52, some 0)]) (h := h)).tr fk
      · have fk := hz_b193_50 hk34 e
        exact (hs_fr.rf (K := [(12, some 0), (49, some 0), (50, some 0), (51, some 0), (52, some 0)]) (h := h)).tr fk
theorem hz_b193_8 {k8 : Int32 × Int32 × Int32 × Int32 × hs_H → Option (hs_H)} {x1 : Int32} {x2 : Int32} {x3 : Int32} {x4 : Int32} {h : hs_H} {r : hs_H} (hk8 : ∀ y1 y2 y3 y4 h r, k8 (y1, y2, y3, y4, h) = some r → hs_fr [(12, some 0), (49, some 0), (50, some 0), (51, some 0), (52, some 0)] h r) (e : hb_193_8 k8 x1 x2 x3 x4 h = some r) : hs_fr [(12, some 0), (49, some 0), (50, some 0), (51, some 0), (52, some 0)] h r := by
  unfold hb_193_8 at e
  rcases hz_if e with e | e
  · have fl := hz_lp6 (f := fun k s => hb_193_34 k s.1 s.2.1 s.2.2.1 s.2.2.2.1 s.2.2.2.2.1 s.2.2.2.2.2) (G := fun r => r) (fun k hk y1 y2 y3 y4 y5 h r e => hz_b193_34 hk e) e
    exact (hs_fr.rf (K := [(12, some 0), (49, some 0), (50, some 0), (51, some 0), (52, some 0)]) (h := h)).tr fl
  · replace e := (hs_ck_some e).2
    have fk := hk8 _ _ _ _ _ _ e
    exact ((hs_fr.rf (K := [(12, some 0), (49, some 0), (50, some 0), (51, some 0), (52, some 0)]) (h := h)).put (.inl (.tail _ (.tail _ (.tail _ (.head _)))))).tr fk
theorem hz_193 {a1 : Int32} {a2 : Int32} {a3 : Int32} {h : hs_H} {r : hs_H} (e : hf_193 a1 a2 a3 h = some r) : hs_fr [(12, some 0), (49, some 0), (50, some 0), (51, some 0), (52, some 0)] h r := by
  unfold hf_193 at e
  have fl := hz_lp5 (f := fun k s => hb_193_8 k s.1 s.2.1 s.2.2.1 s.2.2.2.1 s.2.2.2.2) (G := fun r => r) (fun k hk y1 y2 y3 y4 h r e => hz_b193_8 hk e) e
  exact ((hs_fr.rf (K := [(12, some 0), (49, some 0), (50, some 0), (51, some 0), (52, some 0)]) (h := h)).put (.inl (.head _))).tr fl
theorem hz_194 {a0 : Int32} {h : hs_H} {r : Int32 × hs_H} (e : hf_194 a0 h = some r) : hs_fr [] h r.2 := by
  unfold hf_194 at e
  obtain ⟨q1, eq1, e⟩ := hs_bind_some e
  have fq1 := (hs_fr.rf (K := []) (h := h)).tr ((hz_150 eq1).sub hs_sub_nil)
  replace e := (hs_ck_some e).2
  obtain rfl := Option.some.inj e
  exact fq1
theorem hz_195 {a1 : Int32} {h : hs_H} {r : Int32 × hs_H} (e : hf_195 a1 h = some r) : hs_fr [(12, some 0), (49, some 0), (50, some 0), (51, some 0), (52, some 0)] h r.2 := by
  unfold hf_195 at e
  obtain ⟨q1, eq1, e⟩ := hs_bind_some e
  have fq1 := (hs_fr.rf (K := [(12, some 0), (49, some 0), (50, some 0), (51, some 0), (52, some 0)]) (h := h)).tr ((hz_194 eq1).sub hs_sub_nil)
  rcases hz_if e with e | e
  · replace e := (hs_ck_some e).2
    obtain ⟨q4, eq4, e⟩ := hs_bind_some e
    have fq4 := fq1.tr ((hz_193 eq4).sub (hs_sub_cons (.inl (.head _)) (hs_sub_cons (.inl (.tail _ (.head _))) (hs_sub_cons (.inl (.tail _ (.tail _ (.head _)))) (hs_sub_cons (.inl (.tail _ (.tail _ (.tail _ (.head _))))) (hs_sub_cons (.inl (.tail _ (.tail _ (.tail _ (.tail _ (.head _)))))) hs_sub_nil))))))
    obtain rfl := Option.some.inj e
    exact fq4
  · obtain rfl := Option.some.inj e
    exact fq1
theorem hz_b196_18 {h : hs_H} {r : Int32 × hs_H} (e : hb_196_18 h = some r) : hs_fr [(12, some 0), (49, some 0), (50, some 0), (51, some 0), (52, some 0)] h r.2 := by
  unfold hb_196_18 at e
  obtain rfl := Option.some.inj e
  exact (hs_fr.rf (K := [(12, some 0), (49, some 0), (50, some 0), (51, some 0), (52, some 0)]) (h := h))
theorem hz_196 {a1 : Int32} {a2 : Int32} {h : hs_H} {r : Int32 × hs_H} (e : hf_196 a1 a2 h = some r) : hs_fr [(12, some 0), (49, some 0), (50, some 0), (51, some 0), (52, some 0)] h r.2 := by
  unfold hf_196 at e
  obtain ⟨q1, eq1, e⟩ := hs_bind_some e
  have fq1 := (hs_fr.rf (K := [(12, some 0), (49, some 0), (50, some 0), (51, some 0), (52, some 0)]) (h := h)).tr ((hz_194 eq1).sub hs_sub_nil)
  rcases hz_if e with e | e
  · have fk := hz_b196_18  e
    exact fq1.tr fk
  · obtain ⟨q3, eq3, e⟩ := hs_bind_some e
    have fq3 := fq1.tr ((hz_150 eq3).sub hs_sub_nil)
    rcases hz_if e with e | e
    · replace e := (hs_ck_some e).2
      obtain ⟨q6, eq6, e⟩ := hs_bind_some e
      have fq6 := fq3.tr ((hz_193 eq6).sub (hs_sub_cons (.inl (.head _)) (hs_sub_cons (.inl (.tail _ (.head _))) (hs_sub_cons (.inl (.tail _ (.tail _ (.head _)))) (hs_sub_cons (.inl (.tail _ (.tail _ (.tail _ (.head _))))) (hs_sub_cons (.inl (.tail _ (.tail _ (.tail _ (.tail _ (.head _)))))) hs_sub_nil))))))
      replace e := (hs_ck_some e).2
      obtain rfl := Option.some.inj e
      exact fq6
    · have fk := hz_b196_18  e
      exact fq3.tr fk
theorem hz_b197_18 {h : hs_H} {r : Int32 × hs_H} (e : hb_197_18 h = some r) : hs_fr [(12, some 0), (49, some 0), (50, some 0), (51, some 0), (52, some 0)] h r.2 := by
  unfold hb_197_18 at e
  obtain rfl := Option.some.inj e
  exact (hs_fr.rf (K := [(12, some 0), (49, some 0), (50, some 0), (51, some 0), (52, some 0)]) (h := h))
theorem hz_b197_68 {s0 : Int32} {h : hs_H} {r : Int32 × hs_H} (e : hb_197_68 s0 h = some r) : hs_fr [(12, some 0), (49, some 0), (50, some 0), (51, some 0), (52, some 0)] h r.2 := by
  unfold hb_197_68 at e
  obtain rfl := Option.some.inj e
  exact (hs_fr.rf (K := [(12, some 0), (49, some 0), (50, some 0), (51, some 0), (52, some 0)]) (h := h))
theorem hz_b197_66 {h : hs_H} {r : Int32 × hs_H} (e : hb_197_66 h = some r) : hs_fr [(12, some 0), (49, some 0), (50, some 0), (51, some 0), (52, some 0)] h r.2 := by
  unfold hb_197_66 at e
  have fk := hz_b197_68  e
  exact (hs_fr.rf (K := [(12, some 0), (49, some 0), (50, some 0), (51, some 0), (52, some 0)]) (h := h)).tr fk
theorem hz_197 {a1 : Int32} {a2 : Int32} {h : hs_H} {r : Int32 × hs_H} (e : hf_197 a1 a2 h = some r) : hs_fr [(12, some 0), (49, some 0), (50, some 0), (51, some 0), (52, some 0)] h r.2 := by
  unfold hf_197 at e
  obtain ⟨q1, eq1, e⟩ := hs_bind_some e
  have fq1 := (hs_fr.rf (K := [(12, some 0), (49, some 0), (50, some 0), (51, some 0), (52, some 0)]) (h := h)).tr ((hz_194 eq1).sub hs_sub_nil)
  rcases hz_if e with e | e
  · have fk := hz_b197_18  e
    exact fq1.tr fk
  · obtain ⟨q3, eq3, e⟩ := hs_bind_some e
    have fq3 := fq1.tr ((hz_150 eq3).sub hs_sub_nil)
    rcases hz_if e with e | e
    · replace e := (hs_ck_some e).2
      obtain ⟨q6, eq6, e⟩ := hs_bind_some e
      have fq6 := fq3.tr ((hz_193 eq6).sub (hs_sub_cons (.inl (.head _)) (hs_sub_cons (.inl (.tail _ (.head _))) (hs_sub_cons (.inl (.tail _ (.tail _ (.head _)))) (hs_sub_cons (.inl (.tail _ (.tail _ (.tail _ (.head _))))) (hs_sub_cons (.inl (.tail _ (.tail _ (.tail _ (.tail _ (.head _)))))) hs_sub_nil))))))
      rcases hz_if e with e | e
      · have fk := hz_b197_66  e
        exact fq6.tr fk
      · replace e := (hs_ck_some e).2
        replace e := (hs_ck_some e).2
        rcases hz_if e with e | e
        · have fk := hz_b197_66  e
          exact fq6.tr fk
        · replace e := (hs_ck_some e).2
          have fk := hz_b197_68  e
          exact fq6.tr fk
    · have fk := hz_b197_18  e
      exact fq3.tr fk
theorem hz_b198_18 {h : hs_H} {r : Int32 × hs_H} (e : hb_198_18 h = some r) : hs_fr [(12, some 0), (49, some 0), (50, some 0), (51, some 0), (52, some 0)] h r.2 := by
  unfold hb_198_18 at e
  obtain rfl := Option.some.inj e
  exact (hs_fr.rf (K := [(12, some 0), (49, some 0), (50, some 0), (51, some 0), (52, some 0)]) (h := h))
theorem hz_b198_51 {s0 : Int32} {h : hs_H} {r : Int32 × hs_H} (e : hb_198_51 s0 h = some r) : hs_fr [(12, some 0), (49, some 0), (50, some 0), (51, some 0), (52, some 0)] h r.2 := by
  unfold hb_198_51 at e
  obtain rfl := Option.some.inj e
  exact (hs_fr.rf (K := [(12, some 0), (49, some 0), (50, some 0), (51, some 0), (52, some 0)]) (h := h))
theorem hz_198 {a1 : Int32} {a2 : Int32} {h : hs_H} {r : Int32 × hs_H} (e : hf_198 a1 a2 h = some r) : hs_fr [(12, some 0), (49, some 0), (50, some 0), (51, some 0), (52, some 0)] h r.2 := by
  unfold hf_198 at e
  obtain ⟨q1, eq1, e⟩ := hs_bind_some e
  have fq1 := (hs_fr.rf (K := [(12, some 0), (49, some 0), (50, some 0), (51, some 0), (52, some 0)]) (h := h)).tr ((hz_194 eq1).sub hs_sub_nil)
  rcases hz_if e with e | e
  · have fk := hz_b198_18  e
    exact fq1.tr fk
  · obtain ⟨q3, eq3, e⟩ := hs_bind_some e
    have fq3 := fq1.tr ((hz_150 eq3).sub hs_sub_nil)
    rcases hz_if e with e | e
    · replace e := (hs_ck_some e).2
      obtain ⟨q6, eq6, e⟩ := hs_bind_some e
      have fq6 := fq3.tr ((hz_193 eq6).sub (hs_sub_cons (.inl (.head _)) (hs_sub_cons (.inl (.tail _ (.head _))) (hs_sub_cons (.inl (.tail _ (.tail _ (.head _)))) (hs_sub_cons (.inl (.tail _ (.tail _ (.tail _ (.head _))))) (hs_sub_cons (.inl (.tail _ (.tail _ (.tail _ (.tail _ (.head _)))))) hs_sub_nil))))))
      rcases hz_if e with e | e
      · have fk := hz_b198_51  e
        exact fq6.tr fk
      · replace e := (hs_ck_some e).2
        have fk := hz_b198_51  e
        exact fq6.tr fk
    · have fk := hz_b198_18  e
      exact fq3.tr fk
theorem hz_b199_2 {k2 : Int32 × hs_H → Option (Int32 × hs_H)} {x1 : Int32} {h : hs_H} {r : Int32 × hs_H} (hk2 : ∀ y1 h r, k2 (y1, h) = some r → hs_fr [(12, some 0), (49, some 0), (50, some 0), (51, some 0), (52, some 0)] h r.2) (e : hb_199_2 k2 x1 h = some r) : hs_fr [(12, some 0), (49, some 0), (50, some 0), (51, some 0), (52, some 0)] h r.2 := by
  unfold hb_199_2 at e
  replace e := (hs_ck_some e).2
  rcases hz_if e with e | e
  · obtain rfl := Option.some.inj e
    exact (hs_fr.rf (K := [(12, some 0), (49, some 0), (50, some 0), (51, some 0), (52, some 0)]) (h := h))
  · obtain ⟨q3, eq3, e⟩ := hs_bind_some e
    have fq3 := (hs_fr.rf (K := [(12, some 0), (49, some 0), (50, some 0), (51, some 0), (52, some 0)]) (h := h)).tr ((hz_193 eq3).sub (hs_sub_cons (.inl (.head _)) (hs_sub_cons (.inl (.tail _ (.head _))) (hs_sub_cons (.inl (.tail _ (.tail _ (.head _)))) (hs_sub_cons (.inl (.tail _ (.tail _ (.tail _ (.head _))))) (hs_sub_cons (.inl (.tail _ (.tail _ (.tail _ (.tail _ (.head _)))))) hs_sub_nil))))))
    rcases hz_if e with e | e
    · have fk := hk2 _ _ _ e
      exact fq3.tr fk
    · obtain rfl := Option.some.inj e
      exact fq3
theorem hz_199 {h : hs_H} {r : Int32 × hs_H} (e : hf_199 h = some r) : hs_fr [(12, some 0), (49, some 0), (50, some 0), (51, some 0), (52, some 0)] h r.2 := by
  unfold hf_199 at e
  have fl := hz_lp2 (f := fun k s => hb_199_2 k s.1 s.2) (G := fun r => r.2) (fun k hk y1 h r e => hz_b199_2 hk e) e
  exact (hs_fr.rf (K := [(12, some 0), (49, some 0), (50, some 0), (51, some 0), (52, some 0)]) (h := h)).tr fl
theorem hz_b200_47 {k5 : Int32 × Int32 × Int64 × Int32 × hs_H → Option (Int64 × hs_H)} {x1 : Int32} {x2 : Int32} {x5 : Int32} {s0 : Int64} {h : hs_H} {r : Int64 × hs_H} (hk5 : ∀ y1 y2 y3 y4 h r, k5 (y1, y2, y3, y4, h) = some r → hs_fr [] h r.2) (e : hb_200_47 k5 x1 x2 x5 s0 h = some r) : hs_fr [] h r.2 := by
  unfold hb_200_47 at e
  have fk := hk5 _ _ _ _ _ _ e
  exact (hs_fr.rf (K := []) (h := h)).tr fk
theorem hz_b200_5 {k5 : Int32 × Int32 × Int64 × Int32 × hs_H → Option (Int64 × hs_H)} {x1 : Int32} {x2 : Int32} {x3 : Int64} {x5 : Int32} {h : hs_H} {r : Int64 × hs_H} (hk5 : ∀ y1 y2 y3 y4 h r, k5 (y1, y2, y3, y4, h) = some r → hs_fr [] h r.2) (e : hb_200_5 k5 x1 x2 x3 x5 h = some r) : hs_fr [] h r.2 := by
  unfold hb_200_5 at e
  rcases hz_if e with e | e
  · obtain rfl := Option.some.inj e
    exact (hs_fr.rf (K := []) (h := h))
  · rcases hz_if e with e | e
    · have fk := hz_b200_47 hk5 e
      exact (hs_fr.rf (K := []) (h := h)).tr fk
    · replace e := (hs_ck_some e).2
      have fk := hz_b200_47 hk5 e
      exact (hs_fr.rf (K := []) (h := h)).tr fk
theorem hz_200 {a1 : Int32} {a2 : Int32} {h : hs_H} {r : Int64 × hs_H} (e : hf_200 a1 a2 h = some r) : hs_fr [] h r.2 := by
  unfold hf_200 at e
  have fl := hz_lp5 (f := fun k s => hb_200_5 k s.1 s.2.1 s.2.2.1 s.2.2.2.1 s.2.2.2.2) (G := fun r => r.2) (fun k hk y1 y2 y3 y4 h r e => hz_b200_5 hk e) e
  exact (hs_fr.rf (K := []) (h := h)).tr fl
theorem hz_b201_101 {x1 : Int64} {x3 : Int64} {x5 : Int64} {x9 : Int32} {h : hs_H} {r : Int32 × hs_H} (e : hb_201_101 x1 x3 x5 x9 h = some r) : hs_fr [(53, some 0)] h r.2 := by
  unfold hb_201_101 at e
  replace e := (hs_ck_some e).2
  replace e := (hs_ck_some e).2
  replace e := (hs_ck_some e).2
  obtain rfl := Option.some.inj e
  exact ((((hs_fr.rf (K := [(53, some 0)]) (h := h)).putL (.inl (.head _))).putL (.inl (.head _))).putL (.inl (.head _)))
theorem hz_b201_88 {k31 : Int64 × Int64 × Int64 × Int32 × hs_H → Option (Int32 × hs_H)} {x1 : Int64} {x3 : Int64} {x5 : Int64} {x9 : Int32} {h : hs_H} {r : Int32 × hs_H} (hk31 : ∀ y1 y2 y3 y4 h r, k31 (y1, y2, y3, y4, h) = some r → hs_fr [(53, some 0)] h r.2) (e : hb_201_88 k31 x1 x3 x5 x9 h = some r) : hs_fr [(53, some 0)] h r.2 := by
  unfold hb_201_88 at e
  have fk := hk31 _ _ _ _ _ _ e
  exact (hs_fr.rf (K := [(53, some 0)]) (h := h)).tr fk
theorem hz_b201_31 {k31 : Int64 × Int64 × Int64 × Int32 × hs_H → Option (Int32 × hs_H)} {x1 : Int64} {x3 : Int64} {x5 : Int64} {x9 : Int32} {h : hs_H} {r : Int32 × hs_H} (hk31 : ∀ y1 y2 y3 y4 h r, k31 (y1, y2, y3, y4, h) = some r → hs_fr [(53, some 0)] h r.2) (e : hb_201_31 k31 x1 x3 x5 x9 h = some r) : hs_fr [(53, some 0)] h r.2 := by
  unfold hb_201_31 at e
  replace e := (hs_ck_some e).2
  rcases hz_if e with e | e
  · have fk := hz_b201_101  e
    exact (hs_fr.rf (K := [(53, some 0)]) (h := h)).tr fk
  · replace e := (hs_ck_some e).2
    rcases hz_if e with e | e
    · have fk := hz_b201_88 hk31 e
      exact (hs_fr.rf (K := [(53, some 0)]) (h := h)).tr fk
    · replace e := (hs_ck_some e).2
      rcases hz_if e with e | e
      · have fk := hz_b201_88 hk31 e
        exact (hs_fr.rf (K := [(53, some 0)]) (h := h)).tr fk
      · replace e := (hs_ck_some e).2
        rcases hz_if e with e | e
        · have fk := hz_b201_101  e
          exact (hs_fr.rf (K := [(53, some 0)]) (h := h)).tr fk
        · have fk := hz_b201_88 hk31 e
          exact (hs_fr.rf (K := [(53, some 0)]) (h := h)).tr fk
theorem hz_201 {a1 : Int64} {a3 : Int64} {a5 : Int64} {h : hs_H} {r : Int32 × hs_H} (e : hf_201 a1 a3 a5 h = some r) : hs_fr [(53, some 0)] h r.2 := by
  unfold hf_201 at e
  have fl := hz_lp5 (f := fun k s => hb_201_31 k s.1 s.2.1 s.2.2.1 s.2.2.2.1 s.2.2.2.2) (G := fun r => r.2) (fun k hk y1 y2 y3 y4 h r e => hz_b201_31 hk e) e
  exact (hs_fr.rf (K := [(53, some 0)]) (h := h)).tr fl
theorem hz_b202_79 {k79 : Int32 × Int32 × hs_H → Option (hs_H)} {x1 : Int32} {x4 : Int32} {h : hs_H} {r : hs_H} (hk79 : ∀ y1 y2 h r, k79 (y1, y2, h) = some r → hs_fr [(12, some 0), (53, some 0), (54, some 0), (55, some 0), (56, some 0)] h r) (e : hb_202_79 k79 x1 x4 h = some r) : hs_fr [(12, some 0), (53, some 0), (54, some 0), (55, some 0), (56, some 0)] h r := by
  unfold hb_202_79 at e
  rcases hz_if e with e | e
  · obtain rfl := Option.some.inj e
    exact ((hs_fr.rf (K := [(12, some 0), (53, some 0), (54, some 0), (55, some 0), (56, some 0)]) (h := h)).put (.inl (.head _)))
  · replace e := (hs_ck_some e).2
    replace e := (hs_ck_some e).2
    have fk := hk79 _ _ _ _ e
    exact ((hs_fr.rf (K := [(12, some 0), (53, some 0), (54, some 0), (55, some 0), (56, some 0)]) (h := h)).put (.inl (.tail _ (.tail _ (.tail _ (.tail _ (.head _))))))).tr fk
theorem hz_b202_45 {x1 : Int32} {s0 : Int64} {s1 : Int64} {s2 : Int64} {h : hs_H} {r : hs_H} (e : hb_202_45 x1 s0 s1 s2 h = some r) : hs_fr [(12, some 0), (53, some 0), (54, some 0), (55, some 0), (56, some 0)] h r := by
  unfold hb_202_45 at e
  obtain ⟨q4, eq4, e⟩ := hs_bind_some e
  have fq4 := (hs_fr.rf (K := [(12, some 0), (53, some 0), (54, some 0), (55, some 0), (56, some 0)]) (h := h)).tr ((hz_201 eq4).sub (hs_sub_cons (.inl (.tail _ (.head _))) hs_sub_nil))
  replace e := (hs_ck_some e).2
  replace e := (hs_ck_some e).2
  replace e := (hs_ck_some e).2
  replace e := (hs_ck_some e).2
  have fl := hz_lp3 (f := fun k s => hb_202_79 k s.1 s.2.1 s.2.2) (G := fun r => r) (fun k hk y1 y2 h r e => hz_b202_79 hk e) e
  exact ((fq4.put (.inl (.tail _ (.tail _ (.head _))))).put (.inl (.tail _ (.tail _ (.tail _ (.head _)))))).tr fl
theorem hz_b202_30 {x1 : Int32} {x2 : Int32} {s0 : Int64} {s1 : Int64} {h : hs_H} {r : hs_H} (e : hb_202_30 x1 x2 s0 s1 h = some r) : hs_fr [(12, some 0), (53, some 0), (54, some 0), (55, some 0), (56, some 0)] h r := by
  unfold hb_202_30 at e
  rcases hz_if e with e | e
  · have fk := hz_b202_45  e
    exact (hs_fr.rf (K := [(12, some 0), (53, some 0), (54, some 0), (55, some 0), (56, some 0)]) (h := h)).tr fk
  · obtain ⟨q12, eq12, e⟩ := hs_bind_some e
    have fq12 := (hs_fr.rf (K := [(12, some 0), (53, some 0), (54, some 0), (55, some 0), (56, some 0)]) (h := h)).tr ((hz_200 eq12).sub hs_sub_nil)
    have fk := hz_b202_45  e
    exact fq12.tr fk
theorem hz_b202_15 {x1 : Int32} {x2 : Int32} {s0 : Int64} {h : hs_H} {r : hs_H} (e : hb_202_15 x1 x2 s0 h = some r) : hs_fr [(12, some 0), (53, some 0), (54, some 0), (55, some 0), (56, some 0)] h r := by
  unfold hb_202_15 at e
  rcases hz_if e with e | e
  · have fk := hz_b202_30  e
    exact (hs_fr.rf (K := [(12, some 0), (53, some 0), (54, some 0), (55, some 0), (56, some 0)]) (h := h)).tr fk
  · obtain ⟨q13, eq13, e⟩ := hs_bind_some e
    have fq13 := (hs_fr.rf (K := [(12, some 0), (53, some 0), (54, some 0), (55, some 0), (56, some 0)]) (h := h)).tr ((hz_200 eq13).sub hs_sub_nil)
    have fk := hz_b202_30  e
    exact fq13.tr fk
theorem hz_202 {a1 : Int32} {a2 : Int32} {h : hs_H} {r : hs_H} (e : hf_202 a1 a2 h = some r) : hs_fr [(12, some 0), (53, some 0), (54, some 0), (55, some 0), (56, some 0)] h r := by
  unfold hf_202 at e
  rcases hz_if e with e | e
  · have fk := hz_b202_15  e
    exact (hs_fr.rf (K := [(12, some 0), (53, some 0), (54, some 0), (55, some 0), (56, some 0)]) (h := h)).tr fk
  · obtain ⟨q14, eq14, e⟩ := hs_bind_some e
    have fq14 := (hs_fr.rf (K := [(12, some 0), (53, some 0), (54, some 0), (55, some 0), (56, some 0)]) (h := h)).tr ((hz_200 eq14).sub hs_sub_nil)
    have fk := hz_b202_15  e
    exact fq14.tr fk
theorem hz_b203_225 {k157 : Int32 × Int32 × hs_H → Option (Int32 × hs_H)} {x7 : Int32} {s0 : Int32} {h : hs_H} {r : Int32 × hs_H} (hk157 : ∀ y1 y2 h r, k157 (y1, y2, h) = some r → hs_fr [(12, some 0), (49, some 0), (50, some 0), (53, some 0), (54, some 0), (55, some 0), (56, some 0)] h r.2) (e : hb_203_225 k157 x7 s0 h = some r) : hs_fr [(12, some 0), (49, some 0), (50, some 0), (53, some 0), (54, some 0), (55, some 0), (56, some 0)] h r.2 := by
  unfold hb_203_225 at e
  have fk := hk157 _ _ _ _ e
  exact (hs_fr.rf (K := [(12, some 0), (49, some 0), (50, some 0), (53, some 0), (54, some 0), (55, some 0), (56, some 0)]) (h := h)).tr fk
theorem hz_b203_211 {k157 : Int32 × Int32 × hs_H → Option (Int32 × hs_H)} {x6 : Int32} {x7 : Int32} {s0 : Int32} {h : hs_H} {r : Int32 × hs_H} (hk157 : ∀ y1 y2 h r, k157 (y1, y2, h) = some r → hs_fr [(12, some 0), (49, some 0), (50, some 0), (53, some 0), (54, some 0), (55, some 0), (56, some 0)] h r.2) (e : hb_203_211 k157 x6 x7 s0 h = some r) : hs_fr [(12, some 0), (49, some 0), (50, some 0), (53, some 0), (54, some 0), (55, some 0), (56, some 0)] h r.2 := by
  unfold hb_203_211 at e
  rcases hz_if e with e | e
  · have fk := hz_b203_225 hk157 e
    exact (hs_fr.rf (K := [(12, some 0), (49, some 0), (50, some 0), (53, some 0), (54, some 0), (55, some 0), (56, some 0)]) (h := h)).tr fk
  · have fk := hz_b203_225 hk157 e
    exact (hs_fr.rf (K := [(12, some 0), (49, some 0), (50, some 0), (53, some 0), (54, some 0), (55, some 0), (56, some 0)]) (h := h)).tr fk
theorem hz_b203_206 {k157 : Int32 × Int32 × hs_H → Option (Int32 × hs_H)} {x6 : Int32} {x7 : Int32} {h : hs_H} {r : Int32 × hs_H} (hk157 : ∀ y1 y2 h r, k157 (y1, y2, h) = some r → hs_fr [(12, some 0), (49, some 0), (50, some 0), (53, some 0), (54, some 0), (55, some 0), (56, some 0)] h r.2) (e : hb_203_206 k157 x6 x7 h = some r) : hs_fr [(12, some 0), (49, some 0), (50, some 0), (53, some 0), (54, some 0), (55, some 0), (56, some 0)] h r.2 := by
  unfold hb_203_206 at e
  have fk := hz_b203_211 hk157 e
  exact (hs_fr.rf (K := [(12, some 0), (49, some 0), (50, some 0), (53, some 0), (54, some 0), (55, some 0), (56, some 0)]) (h := h)).tr fk
theorem hz_b203_157 {k157 : Int32 × Int32 × hs_H → Option (Int32 × hs_H)} {x6 : Int32} {x7 : Int32} {h : hs_H} {r : Int32 × hs_H} (hk157 : ∀ y1 y2 h r, k157 (y1, y2, h) = some r → hs_fr [(12, some 0), (49, some 0), (50, some 0), (53, some 0), (54, some 0), (55, some 0), (56, some 0)] h r.2) (e : hb_203_157 k157 x6 x7 h = some r) : hs_fr [(12, some 0), (49, some 0), (50, some 0), (53, some 0), (54, some 0), (55, some 0), (56, some 0)] h r.2 := by
  unfold hb_203_157 at e
  rcases hz_if e with e | e
  · obtain rfl := Option.some.inj e
    exact (hs_fr.rf (K := [(12, some 0), (49, some 0), (50, some 0), (53, some 0), (54, some 0), (55, some 0), (56, some 0)]) (h := h))
  · rcases hz_if e with e | e
    · have fk := hz_b203_206 hk157 e
      exact (hs_fr.rf (K := [(12, some 0), (49, some 0), (50, some 0), (53, some 0), (54, some 0), (55, some 0), (56, some 0)]) (h := h)).tr fk
    · replace e := (hs_ck_some e).2
      replace e := (hs_ck_some e).2
      obtain ⟨q11, eq11, e⟩ := hs_bind_some e
      have fq11 := (hs_fr.rf (K := [(12, some 0), (49, some 0), (50, some 0), (53, some 0), (54, some 0), (55, some 0), (56, some 0)]) (h := h)).tr ((hz_152 eq11).sub hs_sub_nil)
      replace e := (hs_ck_some e).2
      replace e := (hs_ck_some e).2
      obtain ⟨q14, eq14, e⟩ := hs_bind_some e
      have fq14 := fq11.tr ((hz_152 eq14).sub hs_sub_nil)
      rcases hz_if e with e | e
      · have fk := hz_b203_211 hk157 e
        exact fq14.tr fk
      · have fk := hz_b203_206 hk157 e
        exact fq14.tr fk
theorem hz_b203_60 {k60 : Int32 × Int32 × Int32 × Int32 × hs_H → Option (Int32 × hs_H)} {x2 : Int32} {x3 : Int32} {x4 : Int32} {x5 : Int32} {h : hs_H} {r : Int32 × hs_H} (hk60 : ∀ y1 y2 y3 y4 h r, k60 (y1, y2, y3, y4, h) = some r → hs_fr [(12, some 0), (49, some 0), (50, some 0), (53, some 0), (54, some 0), (55, some 0), (56, some 0)] h r.2) (e : hb_203_60 k60 x2 x3 x4 x5 h = some r) : hs_fr [(12, some 0), (49, some 0), (50, some 0), (53, some 0), (54, some 0), (55, some 0), (56, some 0)] h r.2 := by
  unfold hb_203_60 at e
  rcases hz_if e with e | e
  · have fl := hz_lp3 (f := fun k s => hb_203_157 k s.1 s.2.1 s.2.2) (G := fun r => r.2) (fun k hk y1 y2 h r e => hz_b203_157 hk e) e
    exact (hs_fr.rf (K := [(12, some 0), (49, some 0), (50, some 0), (53, some 0), (54, some 0), (55, some 0), (56, some 0)]) (h := h)).tr fl
  · rcases hz_if e with e | e
    · replace e := (hs_ck_some e).2
      obtain ⟨q18, eq18, e⟩ := hs_bind_some e
      have fq18 := (hs_fr.rf (K := [(12, some 0), (49, some 0), (50, some 0), (53, some 0), (54, some 0), (55, some 0), (56, some 0)]) (h := h)).tr ((hz_181 eq18).sub hs_sub_nil)
      rcases hz_if e with e | e
      · obtain ⟨q20, eq20, e⟩ := hs_bind_some e
        have fq20 := fq18.tr ((hz_189 eq20).sub (hs_sub_cons (.inl (.tail _ (.head _))) (hs_sub_cons (.inl (.tail _ (.tail _ (.head _)))) hs_sub_nil)))
        rcases hz_if e with e | e
        · have fk := hk60 _ _ _ _ _ _ e
          exact fq20.tr fk
        · obtain ⟨q22, eq22, e⟩ := hs_bind_some e
          have fq22 := fq20.tr ((hz_202 eq22).sub (hs_sub_cons (.inl (.head _)) (hs_sub_cons (.inl (.tail _ (.tail _ (.tail _ (.head _))))) (hs_sub_cons (.inl (.tail _ (.tail _ (.tail _ (.tail _ (.head _)))))) (hs_sub_cons (.inl (.tail _ (.tail _ (.tail _ (.tail _ (.tail _ (.head _))))))) (hs_sub_cons (.inl (.tail _ (.tail _ (.tail _ (.tail _ (.tail _ (.tail _ (.head _)))))))) hs_sub_nil))))))
          have fk := hk60 _ _ _ _ _ _ e
          exact fq22.tr fk
      · have fk := hk60 _ _ _ _ _ _ e
        exact fq18.tr fk
    · replace e := (hs_ck_some e).2
      have fk := hk60 _ _ _ _ _ _ e
      exact (hs_fr.rf (K := [(12, some 0), (49, some 0), (50, some 0), (53, some 0), (54, some 0), (55, some 0), (56, some 0)]) (h := h)).tr fk
theorem hz_b203_45 {x2 : Int32} {x3 : Int32} {s0 : Int32} {h : hs_H} {r : Int32 × hs_H} (e : hb_203_45 x2 x3 s0 h = some r) : hs_fr [(12, some 0), (49, some 0), (50, some 0), (53, some 0), (54, some 0), (55, some 0), (56, some 0)] h r.2 := by
  unfold hb_203_45 at e
  rcases hz_if e with e | e
  · have fl := hz_lp5 (f := fun k s => hb_203_60 k s.1 s.2.1 s.2.2.1 s.2.2.2.1 s.2.2.2.2) (G := fun r => r.2) (fun k hk y1 y2 y3 y4 h r e => hz_b203_60 hk e) e
    exact (hs_fr.rf (K := [(12, some 0), (49, some 0), (50, some 0), (53, some 0), (54, some 0), (55, some 0), (56, some 0)]) (h := h)).tr fl
  · obtain ⟨q24, eq24, e⟩ := hs_bind_some e
    have fq24 := (hs_fr.rf (K := [(12, some 0), (49, some 0), (50, some 0), (53, some 0), (54, some 0), (55, some 0), (56, some 0)]) (h := h)).tr ((hz_202 eq24).sub (hs_sub_cons (.inl (.head _)) (hs_sub_cons (.inl (.tail _ (.tail _ (.tail _ (.head _))))) (hs_sub_cons (.inl (.tail _ (.tail _ (.tail _ (.tail _ (.head _)))))) (hs_sub_cons (.inl (.tail _ (.tail _ (.tail _ (.tail _ (.tail _ (.head _))))))) (hs_sub_cons (.inl (.tail _ (.tail _ (.tail _ (.tail _ (.tail _ (.tail _ (.head _)))))))) hs_sub_nil))))))
    have fl := hz_lp5 (f := fun k s => hb_203_60 k s.1 s.2.1 s.2.2.1 s.2.2.2.1 s.2.2.2.2) (G := fun r => r.2) (fun k hk y1 y2 y3 y4 h r e => hz_b203_60 hk e) e
    exact fq24.tr fl
theorem hz_b203_3 {k3 : Int32 × Int32 × Int32 × Int32 × hs_H → Option (Int32 × hs_H)} {x1 : Int32} {x2 : Int32} {x3 : Int32} {x4 : Int32} {h : hs_H} {r : Int32 × hs_H} (hk3 : ∀ y1 y2 y3 y4 h r, k3 (y1, y2, y3, y4, h) = some r → hs_fr [(12, some 0), (49, some 0), (50, some 0), (53, some 0), (54, some 0), (55, some 0), (56, some 0)] h r.2) (e : hb_203_3 k3 x1 x2 x3 x4 h = some r) : hs_fr [(12, some 0), (49, some 0), (50, some 0), (53, some 0), (54, some 0), (55, some 0), (56, some 0)] h r.2 := by
  unfold hb_203_3 at e
  rcases hz_if e with e | e
  · obtain ⟨q2, eq2, e⟩ := hs_bind_some e
    have fq2 := ((hs_fr.rf (K := [(12, some 0), (49, some 0), (50, some 0), (53, some 0), (54, some 0), (55, some 0), (56, some 0)]) (h := h)).put (.inl (.head _))).tr ((hz_189 eq2).sub (hs_sub_cons (.inl (.tail _ (.head _))) (hs_sub_cons (.inl (.tail _ (.tail _ (.head _)))) hs_sub_nil)))
    rcases hz_if e with e | e
    · have fk := hz_b203_45  e
      exact fq2.tr fk
    · have fk := hz_b203_45  e
      exact fq2.tr fk
  · replace e := (hs_ck_some e).2
    have fk := hk3 _ _ _ _ _ _ e
    exact ((hs_fr.rf (K := [(12, some 0), (49, some 0), (50, some 0), (53, some 0), (54, some 0), (55, some 0), (56, some 0)]) (h := h)).put (.inl (.tail _ (.tail _ (.tail _ (.tail _ (.head _))))))).tr fk
theorem hz_203 {a1 : Int32} {a2 : Int32} {a3 : Int32} {h : hs_H} {r : Int32 × hs_H} (e : hf_203 a1 a2 a3 h = some r) : hs_fr [(12, some 0), (49, some 0), (50, some 0), (53, some 0), (54, some 0), (55, some 0), (56, some 0)] h r.2 := by
  unfold hf_203 at e
  have fl := hz_lp5 (f := fun k s => hb_203_3 k s.1 s.2.1 s.2.2.1 s.2.2.2.1 s.2.2.2.2) (G := fun r => r.2) (fun k hk y1 y2 y3 y4 h r e => hz_b203_3 hk e) e
  exact (hs_fr.rf (K := [(12, some 0), (49, some 0), (50, some 0), (53, some 0), (54, some 0), (55, some 0), (56, some 0)]) (h := h)).tr fl
theorem hz_204 {a1 : Int32} {h : hs_H} {r : Int32 × hs_H} (e : hf_204 a1 h = some r) : hs_fr [] h r.2 := by
  unfold hf_204 at e
  obtain ⟨q1, eq1, e⟩ := hs_bind_some e
  have fq1 := (hs_fr.rf (K := []) (h := h)).tr ((hz_150 eq1).sub hs_sub_nil)
  replace e := (hs_ck_some e).2
  obtain rfl := Option.some.inj e
  exact fq1
theorem hz_b205_50 {h : hs_H} {r : Int32 × hs_H} (e : hb_205_50 h = some r) : hs_fr [(12, some 0), (49, some 0), (50, some 0), (53, some 0), (54, some 0), (55, some 0), (56, some 0)] h r.2 := by
  unfold hb_205_50 at e
  obtain rfl := Option.some.inj e
  exact (hs_fr.rf (K := [(12, some 0), (49, some 0), (50, some 0), (53, some 0), (54, some 0), (55, some 0), (56, some 0)]) (h := h))
theorem hz_b205_122 {s0 : Int32} {h : hs_H} {r : Int32 × hs_H} (e : hb_205_122 s0 h = some r) : hs_fr [(12, some 0), (49, some 0), (50, some 0), (53, some 0), (54, some 0), (55, some 0), (56, some 0)] h r.2 := by
  unfold hb_205_122 at e
  obtain rfl := Option.some.inj e
  exact (hs_fr.rf (K := [(12, some 0), (49, some 0), (50, some 0), (53, some 0), (54, some 0), (55, some 0), (56, some 0)]) (h := h))
theorem hz_b205_52 {x1 : Int32} {x2 : Int32} {x3 : Int32} {x4 : Int32} {h : hs_H} {r : Int32 × hs_H} (e : hb_205_52 x1 x2 x3 x4 h = some r) : hs_fr [(12, some 0), (49, some 0), (50, some 0), (53, some 0), (54, some 0), (55, some 0), (56, some 0)] h r.2 := by
  unfold hb_205_52 at e
  obtain ⟨q8, eq8, e⟩ := hs_bind_some e
  have fq8 := (hs_fr.rf (K := [(12, some 0), (49, some 0), (50, some 0), (53, some 0), (54, some 0), (55, some 0), (56, some 0)]) (h := h)).tr ((hz_203 eq8).sub (hs_sub_cons (.inl (.head _)) (hs_sub_cons (.inl (.tail _ (.head _))) (hs_sub_cons (.inl (.tail _ (.tail _ (.head _)))) (hs_sub_cons (.inl (.tail _ (.tail _ (.tail _ (.head _))))) (hs_sub_cons (.inl (.tail _ (.tail _ (.tail _ (.tail _ (.head _)))))) (hs_sub_cons (.inl (.tail _ (.tail _ (.tail _ (.tail _ (.tail _ (.head _))))))) (hs_sub_cons (.inl (.tail _ (.tail _ (.tail _ (.tail _ (.tail _ (.tail _ (.head _)))))))) hs_sub_nil))))))))
  rcases hz_if e with e | e
  · rcases hz_if e with e | e
    · replace e := (hs_ck_some e).2
      have fk := hz_b205_122  e
      exact fq8.tr fk
    · have fk := hz_b205_122  e
      exact fq8.tr fk
  · rcases hz_if e with e | e
    · replace e := (hs_ck_some e).2
      replace e := (hs_ck_some e).2
      obtain ⟨q15, eq15, e⟩ := hs_bind_some e
      have fq15 := fq8.tr ((hz_152 eq15).sub hs_sub_nil)
      have fk := hz_b205_122  e
      exact fq15.tr fk
    · have fk := hz_b205_122  e
      exact fq8.tr fk
theorem hz_205 {a1 : Int32} {a2 : Int32} {a3 : Int32} {a4 : Int32} {h : hs_H} {r : Int32 × hs_H} (e : hf_205 a1 a2 a3 a4 h = some r) : hs_fr [(12, some 0), (49, some 0), (50, some 0), (53, some 0), (54, some 0), (55, some 0), (56, some 0)] h r.2 := by
  unfold hf_205 at e
  obtain ⟨q1, eq1, e⟩ := hs_bind_some e
  have fq1 := (hs_fr.rf (K := [(12, some 0), (49, some 0), (50, some 0), (53, some 0), (54, some 0), (55, some 0), (56, some 0)]) (h := h)).tr ((hz_171 eq1).sub hs_sub_nil)
  rcases hz_if e with e | e
  · have fk := hz_b205_50  e
    exact fq1.tr fk
  · obtain ⟨q3, eq3, e⟩ := hs_bind_some e
    have fq3 := fq1.tr ((hz_150 eq3).sub hs_sub_nil)
    rcases hz_if e with e | e
    · have fk := hz_b205_50  e
      exact fq3.tr fk
    · obtain ⟨q5, eq5, e⟩ := hs_bind_some e
      have fq5 := fq3.tr ((hz_204 eq5).sub hs_sub_nil)
      rcases hz_if e with e | e
      · have fk := hz_b205_50  e
        exact fq5.tr fk
      · rcases hz_if e with e | e
        · have fk := hz_b205_52  e
          exact fq5.tr fk
        · obtain ⟨q16, eq16, e⟩ := hs_bind_some e
          have fq16 := fq5.tr ((hz_150 eq16).sub hs_sub_nil)
          rcases hz_if e with e | e
          · have fk := hz_b205_52  e
            exact fq16.tr fk
          · have fk := hz_b205_50  e
            exact fq16.tr fk
theorem hz_b206_39 {h : hs_H} {r : Int32 × hs_H} (e : hb_206_39 h = some r) : hs_fr [(12, some 0), (49, some 0), (50, some 0), (53, some 0), (54, some 0), (55, some 0), (56, some 0)] h r.2 := by
  unfold hb_206_39 at e
  obtain rfl := Option.some.inj e
  exact (hs_fr.rf (K := [(12, some 0), (49, some 0), (50, some 0), (53, some 0), (54, some 0), (55, some 0), (56, some 0)]) (h := h))
theorem hz_b206_190 {s0 : Int32} {h : hs_H} {r : Int32 × hs_H} (e : hb_206_190 s0 h = some r) : hs_fr [(12, some 0), (49, some 0), (50, some 0), (53, some 0), (54, some 0), (55, some 0), (56, some 0)] h r.2 := by
  unfold hb_206_190 at e
  obtain rfl := Option.some.inj e
  exact (hs_fr.rf (K := [(12, some 0), (49, some 0), (50, some 0), (53, some 0), (54, some 0), (55, some 0), (56, some 0)]) (h := h))
theorem hz_b206_160 {k51 : Int32 × Int32 × Int32 × Int32 × Int32 × Int32 × Int32 × hs_H → Option (Int32 × hs_H)} {x1 : Int32} {x2 : Int32} {x3 : Int32} {x4 : Int32} {x5 : Int32} {x6 : Int32} {x7 : Int32} {h : hs_H} {r : Int32 × hs_H} (hk51 : ∀ y1 y2 y3 y4 y5 y6 y7 h r, k51 (y1, y2, y3, y4, y5, y6, y7, h) = some r → hs_fr [(12, some 0), (49, some 0), (50, some 0), (53, some 0), (54, some 0), (55, some 0), (56, some 0)] h r.2) (e : hb_206_160 k51 x1 x2 x3 x4 x5 x6 x7 h = some r) : hs_fr [(12, some 0), (49, some 0), (50, some 0), (53, some 0), (54, some 0), (55, some 0), (56, some 0)] h r.2 := by
  unfold hb_206_160 at e
  have fk := hk51 _ _ _ _ _ _ _ _ _ e
  exact (hs_fr.rf (K := [(12, some 0), (49, some 0), (50, some 0), (53, some 0), (54, some 0), (55, some 0), (56, some 0)]) (h := h)).tr fk
theorem hz_b206_158 {k51 : Int32 × Int32 × Int32 × Int32 × Int32 × Int32 × Int32 × hs_H → Option (Int32 × hs_H)} {x1 : Int32} {x2 : Int32} {x3 : Int32} {x4 : Int32} {x5 : Int32} {x7 : Int32} {s0 : Int32} {h : hs_H} {r : Int32 × hs_H} (hk51 : ∀ y1 y2 y3 y4 y5 y6 y7 h r, k51 (y1, y2, y3, y4, y5, y6, y7, h) = some r → hs_fr [(12, some 0), (49, some 0), (50, some 0), (53, some 0), (54, some 0), (55, some 0), (56, some 0)] h r.2) (e : hb_206_158 k51 x1 x2 x3 x4 x5 x7 s0 h = some r) : hs_fr [(12, some 0), (49, some 0), (50, some 0), (53, some 0), (54, some 0), (55, some 0), (56, some 0)] h r.2 := by
  unfold hb_206_158 at e
  have fk := hz_b206_160 hk51 e
  exact (hs_fr.rf (K := [(12, some 0), (49, some 0), (50, some 0), (53, some 0), (54, some 0), (55, some 0), (56, some 0)]) (h := h)).tr fk
theorem hz_b206_144 {k51 : Int32 × Int32 × Int32 × Int32 × Int32 × Int32 × Int32 × hs_H → Option (Int32 × hs_H)} {x1 : Int32} {x2 : Int32} {x3 : Int32} {x4 : Int32} {x6 : Int32} {x7 : Int32} {x9 : Int32} {x10 : Int32} {s0 : Int32} {h : hs_H} {r : Int32 × hs_H} (hk51 : ∀ y1 y2 y3 y4 y5 y6 y7 h r, k51 (y1, y2, y3, y4, y5, y6, y7, h) = some r → hs_fr [(12, some 0), (49, some 0), (50, some 0), (53, some 0), (54, some 0), (55, some 0), (56, some 0)] h r.2) (e : hb_206_144 k51 x1 x2 x3 x4 x6 x7 x9 x10 s0 h = some r) : hs_fr [(12, some 0), (49, some 0), (50, some 0), (53, some 0), (54, some 0), (55, some 0), (56, some 0)] h r.2 := by
  unfold hb_206_144 at e
  rcases hz_if e with e | e
  · have fk := hz_b206_158 hk51 e
    exact (hs_fr.rf (K := [(12, some 0), (49, some 0), (50, some 0), (53, some 0), (54, some 0), (55, some 0), (56, some 0)]) (h := h)).tr fk
  · have fk := hz_b206_158 hk51 e
    exact (hs_fr.rf (K := [(12, some 0), (49, some 0), (50, some 0), (53, some 0), (54, some 0), (55, some 0), (56, some 0)]) (h := h)).tr fk
theorem hz_b206_130 {k51 : Int32 × Int32 × Int32 × Int32 × Int32 × Int32 × Int32 × hs_H → Option (Int32 × hs_H)} {x1 : Int32} {x2 : Int32} {x3 : Int32} {x4 : Int32} {x5 : Int32} {x6 : Int32} {x7 : Int32} {x9 : Int32} {s0 : Int32} {h : hs_H} {r : Int32 × hs_H} (hk51 : ∀ y1 y2 y3 y4 y5 y6 y7 h r, k51 (y1, y2, y3, y4, y5, y6, y7, h) = some r → hs_fr [(12, some 0), (49, some 0), (50, some 0), (53, some 0), (54, some 0), (55, some 0), (56, some 0)] h r.2) (e : hb_206_130 k51 x1 x2 x3 x4 x5 x6 x7 x9 s0 h = some r) : hs_fr [(12, some 0), (49, some 0), (50, some 0), (53, some 0), (54, some 0), (55, some 0), (56, some 0)] h r.2 := by
  unfold hb_206_130 at e
  rcases hz_if e with e | e
  · have fk := hz_b206_144 hk51 e
    exact (hs_fr.rf (K := [(12, some 0), (49, some 0), (50, some 0), (53, some 0), (54, some 0), (55, some 0), (56, some 0)]) (h := h)).tr fk
  · have fk := hz_b206_144 hk51 e
    exact (hs_fr.rf (K := [(12, some 0), (49, some 0), (50, some 0), (53, some 0), (54, some 0), (55, some 0), (56, some 0)]) (h := h)).tr fk
theorem hz_b206_125 {k51 : Int32 × Int32 × Int32 × Int32 × Int32 × Int32 × Int32 × hs_H → Option (Int32 × hs_H)} {x1 : Int32} {x2 : Int32} {x3 : Int32} {x4 : Int32} {x5 : Int32} {x6 : Int32} {x7 : Int32} {x9 : Int32} {h : hs_H} {r : Int32 × hs_H} (hk51 : ∀ y1 y2 y3 y4 y5 y6 y7 h r, k51 (y1, y2, y3, y4, y5, y6, y7, h) = some r → hs_fr [(12, some 0), (49, some 0), (50, some 0), (53, some 0), (54, some 0), (55, some 0), (56, some 0)] h r.2) (e : hb_206_125 k51 x1 x2 x3 x4 x5 x6 x7 x9 h = some r) : hs_fr [(12, some 0), (49, some 0), (50, some 0), (53, some 0), (54, some 0), (55, some 0), (56, some 0)] h r.2 := by
  unfold hb_206_125 at e
  have fk := hz_b206_130 hk51 e
  exact (hs_fr.rf (K := [(12, some 0), (49, some 0), (50, some 0), (53, some 0), (54, some 0), (55, some 0), (56, some 0)]) (h := h)).tr fk
theorem hz_b206_109 {k51 : Int32 × Int32 × Int32 × Int32 × Int32 × Int32 × Int32 × hs_H → Option (Int32 × hs_H)} {x1 : Int32} {x2 : Int32} {x3 : Int32} {x4 : Int32} {x5 : Int32} {x6 : Int32} {x7 : Int32} {s0 : Int32} {h : hs_H} {r : Int32 × hs_H} (hk51 : ∀ y1 y2 y3 y4 y5 y6 y7 h r, k51 (y1, y2, y3, y4, y5, y6, y7, h) = some r → hs_fr [(12, some 0), (49, some 0), (50, some 0), (53, some 0), (54, some 0), (55, some 0), (56, some 0)] h r.2) (e : hb_206_109 k51 x1 x2 x3 x4 x5 x6 x7 s0 h = some r) : hs_fr [(12, some 0), (49, some 0), (50, some 0), (53, some 0), (54, some 0), (55, some 0), (56, some 0)] h r.2 := by
  unfold hb_206_109 at e
  rcases hz_if e with e | e
  · have fk := hz_b206_125 hk51 e
    exact (hs_fr.rf (K := [(12, some 0), (49, some 0), (50, some 0), (53, some 0), (54, some 0), (55, some 0), (56, some 0)]) (h := h)).tr fk
  · rcases hz_if e with e | e
    · have fk := hz_b206_130 hk51 e
      exact (hs_fr.rf (K := [(12, some 0), (49, some 0), (50, some 0), (53, some 0), (54, some 0), (55, some 0), (56, some 0)]) (h := h)).tr fk
    · have fk := hz_b206_125 hk51 e
      exact (hs_fr.rf (K := [(12, some 0), (49, some 0), (50, some 0), (53, some 0), (54, some 0), (55, some 0), (56, some 0)]) (h := h)).tr fk
theorem hz_b206_51 {k51 : Int32 × Int32 × Int32 × Int32 × Int32 × Int32 × Int32 × hs_H → Option (Int32 × hs_H)} {x1 : Int32} {x2 : Int32} {x3 : Int32} {x4 : Int32} {x5 : Int32} {x6 : Int32} {x7 : Int32} {h : hs_H} {r : Int32 × hs_H} (hk51 : ∀ y1 y2 y3 y4 y5 y6 y7 h r, k51 (y1, y2, y3, y4, y5, y6, y7, h) = some r → hs_fr [(12, some 0), (49, some 0), (50, some 0), (53, some 0), (54, some 0), (55, some 0), (56, some 0)] h r.2) (e : hb_206_51 k51 x1 x2 x3 x4 x5 x6 x7 h = some r) : hs_fr [(12, some 0), (49, some 0), (50, some 0), (53, some 0), (54, some 0), (55, some 0), (56, some 0)] h r.2 := by
  unfold hb_206_51 at e
  rcases hz_if e with e | e
  · rcases hz_if e with e | e
    · rcases hz_if e with e | e
      · have fk := hz_b206_190  e
        exact (hs_fr.rf (K := [(12, some 0), (49, some 0), (50, some 0), (53, some 0), (54, some 0), (55, some 0), (56, some 0)]) (h := h)).tr fk
      · have fk := hz_b206_190  e
        exact (hs_fr.rf (K := [(12, some 0), (49, some 0), (50, some 0), (53, some 0), (54, some 0), (55, some 0), (56, some 0)]) (h := h)).tr fk
    · have fk := hz_b206_190  e
      exact (hs_fr.rf (K := [(12, some 0), (49, some 0), (50, some 0), (53, some 0), (54, some 0), (55, some 0), (56, some 0)]) (h := h)).tr fk
  · rcases hz_if e with e | e
    · have fk := hz_b206_160 hk51 e
      exact (hs_fr.rf (K := [(12, some 0), (49, some 0), (50, some 0), (53, some 0), (54, some 0), (55, some 0), (56, some 0)]) (h := h)).tr fk
    · obtain ⟨q13, eq13, e⟩ := hs_bind_some e
      have fq13 := (hs_fr.rf (K := [(12, some 0), (49, some 0), (50, some 0), (53, some 0), (54, some 0), (55, some 0), (56, some 0)]) (h := h)).tr ((hz_203 eq13).sub (hs_sub_cons (.inl (.head _)) (hs_sub_cons (.inl (.tail _ (.head _))) (hs_sub_cons (.inl (.tail _ (.tail _ (.head _)))) (hs_sub_cons (.inl (.tail _ (.tail _ (.tail _ (.head _))))) (hs_sub_cons (.inl (.tail _ (.tail _ (.tail _ (.tail _ (.head _)))))) (hs_sub_cons (.inl (.tail _ (.tail _ (.tail _ (.tail _ (.tail _ (.head _))))))) (hs_sub_cons (.inl (.tail _ (.tail _ (.tail _ (.tail _ (.tail _ (.tail _ (.head _)))))))) hs_sub_nil))))))))
      rcases hz_if e with e | e
      · replace e := (hs_ck_some e).2
        replace e := (hs_ck_some e).2
        obtain ⟨q17, eq17, e⟩ := hs_bind_some e
        have fq17 := fq13.tr ((hz_152 eq17).sub hs_sub_nil)
        have fk := hz_b206_109 hk51 e
        exact fq17.tr fk
      · have fk := hz_b206_109 hk51 e
        exact fq13.tr fk
theorem hz_206 {a1 : Int32} {a2 : Int32} {a3 : Int32} {a4 : Int32} {h : hs_H} {r : Int32 × hs_H} (e : hf_206 a1 a2 a3 a4 h = some r) : hs_fr [(12, some 0), (49, some 0), (50, some 0), (53, some 0), (54, some 0), (55, some 0), (56, some 0)] h r.2 := by
  unfold hf_206 at e
  obtain ⟨q1, eq1, e⟩ := hs_bind_some e
  have fq1 := (hs_fr.rf (K := [(12, some 0), (49, some 0), (50, some 0), (53, some 0), (54, some 0), (55, some 0), (56, some 0)]) (h := h)).tr ((hz_171 eq1).sub hs_sub_nil)
  rcases hz_if e with e | e
  · have fk := hz_b206_39  e
    exact fq1.tr fk
  · obtain ⟨q3, eq3, e⟩ := hs_bind_some e
    have fq3 := fq1.tr ((hz_150 eq3).sub hs_sub_nil)
    rcases hz_if e with e | e
    · have fk := hz_b206_39  e
      exact fq3.tr fk
    · obtain ⟨q5, eq5, e⟩ := hs_bind_some e
      have fq5 := fq3.tr ((hz_204 eq5).sub hs_sub_nil)
      rcases hz_if e with e | e
      · have fk := hz_b206_39  e
        exact fq5.tr fk
      · obtain ⟨q7, eq7, e⟩ := hs_bind_some e
        have fq7 := fq5.tr ((hz_150 eq7).sub hs_sub_nil)
        rcases hz_if e with e | e
        · have fl := hz_lp8 (f := fun k s => hb_206_51 k s.1 s.2.1 s.2.2.1 s.2.2.2.1 s.2.2.2.2.1 s.2.2.2.2.2.1 s.2.2.2.2.2.2.1 s.2.2.2.2.2.2.2) (G := fun r => r.2) (fun k hk y1 y2 y3 y4 y5 y6 y7 h r e => hz_b206_51 hk e) e
          exact fq7.tr fl
        · have fk := hz_b206_39  e
          exact fq7.tr fk
theorem hz_b207_64 {k2 : Int32 × hs_H → Option (hs_H)} {k16 : Int32 × Int32 × Int32 × hs_H → Option (hs_H)} {x1 : Int32} {x2 : Int32} {x3 : Int32} {h : hs_H} {r : hs_H} (hk2 : ∀ y1 h r, k2 (y1, h) = some r → hs_fr [(57, some 0)] h r) (hk16 : ∀ y1 y2 y3 h r, k16 (y1, y2, y3, h) = some r → hs_fr [(57, some 0)] h r) (e : hb_207_64 k2 k16 x1 x2 x3 h = some r) : hs_fr [(57, some 0)] h r := by
  unfold hb_207_64 at e
  have fk := hk16 _ _ _ _ _ e
  exact (hs_fr.rf (K := [(57, some 0)]) (h := h)).tr fk
theorem hz_b207_62 {k2 : Int32 × hs_H → Option (hs_H)} {k16 : Int32 × Int32 × Int32 × hs_H → Option (hs_H)} {x1 : Int32} {x3 : Int32} {s0 : Int32} {s1 : Int32} {h : hs_H} {r : hs_H} (hk2 : ∀ y1 h r, k2 (y1, h) = some r → hs_fr [(57, some 0)] h r) (hk16 : ∀ y1 y2 y3 h r, k16 (y1, y2, y3, h) = some r → hs_fr [(57, some 0)] h r) (e : hb_207_62 k2 k16 x1 x3 s0 s1 h = some r) : hs_fr [(57, some 0)] h r := by
  unfold hb_207_62 at e
  have fk := hz_b207_64 hk2 hk16 e
  exact (hs_fr.rf (K := [(57, some 0)]) (h := h)).tr fk
theorem hz_b207_16 {k2 : Int32 × hs_H → Option (hs_H)} {k16 : Int32 × Int32 × Int32 × hs_H → Option (hs_H)} {x1 : Int32} {x2 : Int32} {x3 : Int32} {h : hs_H} {r : hs_H} (hk2 : ∀ y1 h r, k2 (y1, h) = some r → hs_fr [(57, some 0)] h r) (hk16 : ∀ y1 y2 y3 h r, k16 (y1, y2, y3, h) = some r → hs_fr [(57, some 0)] h r) (e : hb_207_16 k2 k16 x1 x2 x3 h = some r) : hs_fr [(57, some 0)] h r := by
  unfold hb_207_16 at e
  rcases hz_if e with e | e
  · replace e := (hs_ck_some e).2
    have fk := hk2 _ _ _ e
    exact ((hs_fr.rf (K := [(57, some 0)]) (h := h)).put (.inl (.head _))).tr fk
  · rcases hz_if e with e | e
    · have fk := hz_b207_64 hk2 hk16 e
      exact (hs_fr.rf (K := [(57, some 0)]) (h := h)).tr fk
    · replace e := (hs_ck_some e).2
      rcases hz_if e with e | e
      · have fk := hz_b207_62 hk2 hk16 e
        exact (hs_fr.rf (K := [(57, some 0)]) (h := h)).tr fk
      · have fk := hz_b207_62 hk2 hk16 e
        exact (hs_fr.rf (K := [(57, some 0)]) (h := h)).tr fk
theorem hz_b207_2 {k2 : Int32 × hs_H → Option (hs_H)} {x1 : Int32} {h : hs_H} {r : hs_H} (hk2 : ∀ y1 h r, k2 (y1, h) = some r → hs_fr [(57, some 0)] h r) (e : hb_207_2 k2 x1 h = some r) : hs_fr [(57, some 0)] h r := by
  unfold hb_207_2 at e
  rcases hz_if e with e | e
  · obtain rfl := Option.some.inj e
    exact (hs_fr.rf (K := [(57, some 0)]) (h := h))
  · have fl := hz_lp4 (f := fun k s => hb_207_16 k2 k s.1 s.2.1 s.2.2.1 s.2.2.2) (G := fun r => r) (fun k hk y1 y2 y3 h r e => hz_b207_16 hk2 hk e) e
    exact (hs_fr.rf (K := [(57, some 0)]) (h := h)).tr fl
theorem hz_207 {h : hs_H} {r : hs_H} (e : hf_207 h = some r) : hs_fr [(57, some 0)] h r := by
  unfold hf_207 at e
  have fl := hz_lp2 (f := fun k s => hb_207_2 k s.1 s.2) (G := fun r => r) (fun k hk y1 h r e => hz_b207_2 hk e) e
  exact (hs_fr.rf (K := [(57, some 0)]) (h := h)).tr fl
theorem hz_b209_63 {x4 : Int32} {h : hs_H} {r : Int32 × hs_H} (e : hb_209_63 x4 h = some r) : hs_fr [] h r.2 := by
  unfold hb_209_63 at e
  replace e := (hs_ck_some e).2
  obtain rfl := Option.some.inj e
  exact (hs_fr.rf (K := []) (h := h))
theorem hz_b209_50 {k6 : Int32 × Int32 × Int32 × Int32 × Int32 × hs_H → Option (Int32 × hs_H)} {x1 : Int32} {x2 : Int32} {x3 : Int32} {x5 : Int32} {s0 : Int32} {h : hs_H} {r : Int32 × hs_H} (hk6 : ∀ y1 y2 y3 y4 y5 h r, k6 (y1, y2, y3, y4, y5, h) = some r → hs_fr [] h r.2) (e : hb_209_50 k6 x1 x2 x3 x5 s0 h = some r) : hs_fr [] h r.2 := by
  unfold hb_209_50 at e
  have fk := hk6 _ _ _ _ _ _ _ e
  exact (hs_fr.rf (K := []) (h := h)).tr fk
theorem hz_b209_49 {k6 : Int32 × Int32 × Int32 × Int32 × Int32 × hs_H → Option (Int32 × hs_H)} {x1 : Int32} {x2 : Int32} {x3 : Int32} {x5 : Int32} {h : hs_H} {r : Int32 × hs_H} (hk6 : ∀ y1 y2 y3 y4 y5 h r, k6 (y1, y2, y3, y4, y5, h) = some r → hs_fr [] h r.2) (e : hb_209_49 k6 x1 x2 x3 x5 h = some r) : hs_fr [] h r.2 := by
  unfold hb_209_49 at e
  have fk := hz_b209_50 hk6 e
  exact (hs_fr.rf (K := []) (h := h)).tr fk
theorem hz_b209_6 {k6 : Int32 × Int32 × Int32 × Int32 × Int32 × hs_H → Option (Int32 × hs_H)} {x1 : Int32} {x2 : Int32} {x3 : Int32} {x4 : Int32} {x5 : Int32} {h : hs_H} {r : Int32 × hs_H} (hk6 : ∀ y1 y2 y3 y4 y5 h r, k6 (y1, y2, y3, y4, y5, h) = some r → hs_fr [] h r.2) (e : hb_209_6 k6 x1 x2 x3 x4 x5 h = some r) : hs_fr [] h r.2 := by
  unfold hb_209_6 at e
  rcases hz_if e with e | e
  · have fk := hz_b209_63  e
    exact (hs_fr.rf (K := []) (h := h)).tr fk
  · rcases hz_if e with e | e
    · have fk := hz_b209_63  e
      exact (hs_fr.rf (K := []) (h := h)).tr fk
    · obtain ⟨q4, eq4, e⟩ := hs_bind_some e
      have fq4 := (hs_fr.rf (K := []) (h := h)).tr ((hz_152 eq4).sub hs_sub_nil)
      rcases hz_if e with e | e
      · have fk := hz_b209_49 hk6 e
        exact fq4.tr fk
      · replace e := (hs_ck_some e).2
        replace e := (hs_ck_some e).2
        rcases hz_if e with e | e
        · have fk := hz_b209_49 hk6 e
          exact fq4.tr fk
        · have fk := hz_b209_50 hk6 e
          exact fq4.tr fk
theorem hz_209 {a1 : Int32} {a2 : Int32} {a3 : Int32} {h : hs_H} {r : Int32 × hs_H} (e : hf_209 a1 a2 a3 h = some r) : hs_fr [] h r.2 := by
  unfold hf_209 at e
  have fl := hz_lp6 (f := fun k s => hb_209_6 k s.1 s.2.1 s.2.2.1 s.2.2.2.1 s.2.2.2.2.1 s.2.2.2.2.2) (G := fun r => r.2) (fun k hk y1 y2 y3 y4 y5 h r e => hz_b209_6 hk e) e
  exact (hs_fr.rf (K := []) (h := h)).tr fl
theorem hz_b208_129 {k72 : Int32 × Int32 × Int32 × hs_H → Option (hs_H)} {k81 : Int32 × Int32 × Int32 × Int32 × hs_H → Option (hs_H)} {x2 : Int32} {x3 : Int32} {x4 : Int32} {x5 : Int32} {h : hs_H} {r : hs_H} (hk72 : ∀ y1 y2 y3 h r, k72 (y1, y2, y3, h) = some r → hs_fr [(57, some 0), (58, some 0)] h r) (hk81 : ∀ y1 y2 y3 y4 h r, k81 (y1, y2, y3, y4, h) = some r → hs_fr [(57, some 0), (58, some 0)] h r) (e : hb_208_129 k72 k81 x2 x3 x4 x5 h = some r) : hs_fr [(57, some 0), (58, some 0)] h r := by
  unfold hb_208_129 at e
  have fk := hk81 _ _ _ _ _ _ e
  exact (hs_fr.rf (K := [(57, some 0), (58, some 0)]) (h := h)).tr fk
theorem hz_b208_81 {k72 : Int32 × Int32 × Int32 × hs_H → Option (hs_H)} {k81 : Int32 × Int32 × Int32 × Int32 × hs_H → Option (hs_H)} {x2 : Int32} {x3 : Int32} {x4 : Int32} {x5 : Int32} {h : hs_H} {r : hs_H} (hk72 : ∀ y1 y2 y3 h r, k72 (y1, y2, y3, h) = some r → hs_fr [(57, some 0), (58, some 0)] h r) (hk81 : ∀ y1 y2 y3 y4 h r, k81 (y1, y2, y3, y4, h) = some r → hs_fr [(57, some 0), (58, some 0)] h r) (e : hb_208_81 k72 k81 x2 x3 x4 x5 h = some r) : hs_fr [(57, some 0), (58, some 0)] h r := by
  unfold hb_208_81 at e
  rcases hz_if e with e | e
  · have fk := hk72 _ _ _ _ _ e
    exact (hs_fr.rf (K := [(57, some 0), (58, some 0)]) (h := h)).tr fk
  · replace e := (hs_ck_some e).2
    rcases hz_if e with e | e
    · have fk := hz_b208_129 hk72 hk81 e
      exact (hs_fr.rf (K := [(57, some 0), (58, some 0)]) (h := h)).tr fk
    · obtain ⟨q8, eq8, e⟩ := hs_bind_some e
      have fq8 := (hs_fr.rf (K := [(57, some 0), (58, some 0)]) (h := h)).tr ((hz_209 eq8).sub hs_sub_nil)
      rcases hz_if e with e | e
      · have fk := hz_b208_129 hk72 hk81 e
        exact fq8.tr fk
      · replace e := (hs_ck_some e).2
        have fk := hz_b208_129 hk72 hk81 e
        exact (fq8.put (.inl (.tail _ (.head _)))).tr fk
theorem hz_b208_72 {k72 : Int32 × Int32 × Int32 × hs_H → Option (hs_H)} {x2 : Int32} {x3 : Int32} {x4 : Int32} {h : hs_H} {r : hs_H} (hk72 : ∀ y1 y2 y3 h r, k72 (y1, y2, y3, h) = some r → hs_fr [(57, some 0), (58, some 0)] h r) (e : hb_208_72 k72 x2 x3 x4 h = some r) : hs_fr [(57, some 0), (58, some 0)] h r := by
  unfold hb_208_72 at e
  rcases hz_if e with e | e
  · obtain rfl := Option.some.inj e
    exact (hs_fr.rf (K := [(57, some 0), (58, some 0)]) (h := h))
  · have fl := hz_lp5 (f := fun k s => hb_208_81 k72 k s.1 s.2.1 s.2.2.1 s.2.2.2.1 s.2.2.2.2) (G := fun r => r) (fun k hk y1 y2 y3 y4 h r e => hz_b208_81 hk72 hk e) e
    exact (hs_fr.rf (K := [(57, some 0), (58, some 0)]) (h := h)).tr fl
theorem hz_b208_60 {k23 : Int32 × Int32 × hs_H → Option (hs_H)} {x2 : Int32} {x3 : Int32} {s0 : Int32} {s1 : Int32} {h : hs_H} {r : hs_H} (hk23 : ∀ y1 y2 h r, k23 (y1, y2, h) = some r → hs_fr [(57, some 0), (58, some 0)] h r) (e : hb_208_60 k23 x2 x3 s0 s1 h = some r) : hs_fr [(57, some 0), (58, some 0)] h r := by
  unfold hb_208_60 at e
  replace e := (hs_ck_some e).2
  have fk := hk23 _ _ _ _ e
  exact ((hs_fr.rf (K := [(57, some 0), (58, some 0)]) (h := h)).put (.inl (.tail _ (.head _)))).tr fk
theorem hz_b208_23 {k23 : Int32 × Int32 × hs_H → Option (hs_H)} {x2 : Int32} {x3 : Int32} {h : hs_H} {r : hs_H} (hk23 : ∀ y1 y2 h r, k23 (y1, y2, h) = some r → hs_fr [(57, some 0), (58, some 0)] h r) (e : hb_208_23 k23 x2 x3 h = some r) : hs_fr [(57, some 0), (58, some 0)] h r := by
  unfold hb_208_23 at e
  rcases hz_if e with e | e
  · have fl := hz_lp4 (f := fun k s => hb_208_72 k s.1 s.2.1 s.2.2.1 s.2.2.2) (G := fun r => r) (fun k hk y1 y2 y3 h r e => hz_b208_72 hk e) e
    exact (hs_fr.rf (K := [(57, some 0), (58, some 0)]) (h := h)).tr fl
  · rcases hz_if e with e | e
    · obtain ⟨q12, eq12, e⟩ := hs_bind_some e
      have fq12 := (hs_fr.rf (K := [(57, some 0), (58, some 0)]) (h := h)).tr ((hz_152 eq12).sub hs_sub_nil)
      rcases hz_if e with e | e
      · have fk := hz_b208_60 hk23 e
        exact fq12.tr fk
      · have fk := hz_b208_60 hk23 e
        exact fq12.tr fk
    · have fk := hz_b208_60 hk23 e
      exact (hs_fr.rf (K := [(57, some 0), (58, some 0)]) (h := h)).tr fk
theorem hz_b208_16 {s0 : Int32} {h : hs_H} {r : hs_H} (e : hb_208_16 s0 h = some r) : hs_fr [(57, some 0), (58, some 0)] h r := by
  unfold hb_208_16 at e
  obtain ⟨q2, eq2, e⟩ := hs_bind_some e
  have fq2 := (hs_fr.rf (K := [(57, some 0), (58, some 0)]) (h := h)).tr ((hz_207 eq2).sub (hs_sub_cons (.inl (.head _)) hs_sub_nil))
  have fl := hz_lp3 (f := fun k s => hb_208_23 k s.1 s.2.1 s.2.2) (G := fun r => r) (fun k hk y1 y2 h r e => hz_b208_23 hk e) e
  exact fq2.tr fl
theorem hz_208 {a1 : Int32} {h : hs_H} {r : hs_H} (e : hf_208 a1 h = some r) : hs_fr [(57, some 0), (58, some 0)] h r := by
  unfold hf_208 at e
  rcases hz_if e with e | e
  · have fk := hz_b208_16  e
    exact (hs_fr.rf (K := [(57, some 0), (58, some 0)]) (h := h)).tr fk
  · have fk := hz_b208_16  e
    exact (hs_fr.rf (K := [(57, some 0), (58, some 0)]) (h := h)).tr fk
