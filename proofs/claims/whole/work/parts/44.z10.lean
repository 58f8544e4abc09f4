/-! Frames: which kinds and instances a function writes; by gen7.py. -/
theorem hz_226 {a1 : Int32} {h : hs_H} {r : Int32 × hs_H} (e : hf_226 a1 h = some r) : hs_fr [(12, some 0)] h r.2 := by
  unfold hf_226 at e
  replace e := (hs_ck_some e).2
  obtain rfl := Option.some.inj e
  exact ((hs_fr.rf (K := [(12, some 0)]) (h := h)).put (.inl (.head _)))
theorem hz_b227_48 {k15 : Int32 × Int32 × Int32 × Int32 × hs_H → Option (Int32 × hs_H)} {x1 : Int32} {x2 : Int32} {x3 : Int32} {x4 : Int32} {h : hs_H} {r : Int32 × hs_H} (hk15 : ∀ y1 y2 y3 y4 h r, k15 (y1, y2, y3, y4, h) = some r → hs_fr [(12, some 0)] h r.2) (e : hb_227_48 k15 x1 x2 x3 x4 h = some r) : hs_fr [(12, some 0)] h r.2 := by
  unfold hb_227_48 at e
  have fk := hk15 _ _ _ _ _ _ e
  exact (hs_fr.rf (K := [(12, some 0)]) (h := h)).tr fk
theorem hz_b227_44 {k15 : Int32 × Int32 × Int32 × Int32 × hs_H → Option (Int32 × hs_H)} {x1 : Int32} {x2 : Int32} {x4 : Int32} {s0 : Int32} {h : hs_H} {r : Int32 × hs_H} (hk15 : ∀ y1 y2 y3 y4 h r, k15 (y1, y2, y3, y4, h) = some r → hs_fr [(12, some 0)] h r.2) (e : hb_227_44 k15 x1 x2 x4 s0 h = some r) : hs_fr [(12, some 0)] h r.2 := by
  unfold hb_227_44 at e
  have fk := hz_b227_48 hk15 e
  exact (hs_fr.rf (K := [(12, some 0)]) (h := h)).tr fk
theorem hz_b227_15 {k15 : Int32 × Int32 × Int32 × Int32 × hs_H → Option (Int32 × hs_H)} {x1 : Int32} {x2 : Int32} {x3 : Int32} {x4 : Int32} {h : hs_H} {r : Int32 × hs_H} (hk15 : ∀ y1 y2 y3 y4 h r, k15 (y1, y2, y3, y4, h) = some r → hs_fr [(12, some 0)] h r.2) (e : hb_227_15 k15 x1 x2 x3 x4 h = some r) : hs_fr [(12, some 0)] h r.2 := by
  unfold hb_227_15 at e
  rcases hz_if e with e | e
  · obtain rfl := Option.some.inj e
    exact (hs_fr.rf (K := [(12, some 0)]) (h := h))
  · rcases hz_if e with e | e
    · have fk := hz_b227_48 hk15 e
      exact (hs_fr.rf (K := [(12, some 0)]) (h := h)).tr fk
    · rcases hz_if e with e | e
      · have fk := hz_b227_44 hk15 e
        exact (hs_fr.rf (K := [(12, some 0)]) (h := h)).tr fk
      · have fk := hz_b227_44 hk15 e
        exact (hs_fr.rf (K := [(12, some 0)]) (h := h)).tr fk
theorem hz_227 {a1 : Int32} {h : hs_H} {r : Int32 × hs_H} (e : hf_227 a1 h = some r) : hs_fr [(12, some 0)] h r.2 := by
  unfold hf_227 at e
  obtain ⟨q1, eq1, e⟩ := hs_bind_some e
  have fq1 := (hs_fr.rf (K := [(12, some 0)]) (h := h)).tr ((hz_152 eq1).sub hs_sub_nil)
  obtain ⟨q2, eq2, e⟩ := hs_bind_some e
  have fq2 := fq1.tr ((hz_226 eq2).sub (hs_sub_cons (.inl (.head _)) hs_sub_nil))
  have fl := hz_lp5 (f := fun k s => hb_227_15 k s.1 s.2.1 s.2.2.1 s.2.2.2.1 s.2.2.2.2) (G := fun r => r.2) (fun k hk y1 y2 y3 y4 h r e => hz_b227_15 hk e) e
  exact fq2.tr fl
theorem hz_b228_73 {k8 : Int32 × Int32 × Int32 × Int32 × hs_H → Option (Int32 × hs_H)} {x1 : Int32} {x2 : Int32} {x4 : Int32} {s0 : Int32} {h : hs_H} {r : Int32 × hs_H} (hk8 : ∀ y1 y2 y3 y4 h r, k8 (y1, y2, y3, y4, h) = some r → hs_fr [] h r.2) (e : hb_228_73 k8 x1 x2 x4 s0 h = some r) : hs_fr [] h r.2 := by
  unfold hb_228_73 at e
  have fk := hk8 _ _ _ _ _ _ e
  exact (hs_fr.rf (K := []) (h := h)).tr fk
theorem hz_b228_56 {k8 : Int32 × Int32 × Int32 × Int32 × hs_H → Option (Int32 × hs_H)} {x1 : Int32} {x3 : Int32} {x4 : Int32} {x5 : Int32} {s0 : Int32} {h : hs_H} {r : Int32 × hs_H} (hk8 : ∀ y1 y2 y3 y4 h r, k8 (y1, y2, y3, y4, h) = some r → hs_fr [] h r.2) (e : hb_228_56 k8 x1 x3 x4 x5 s0 h = some r) : hs_fr [] h r.2 := by
  unfold hb_228_56 at e
  rcases hz_if e with e | e
  · have fk := hz_b228_73 hk8 e
    exact (hs_fr.rf (K := []) (h := h)).tr fk
  · replace e := (hs_ck_some e).2
    have fk := hz_b228_73 hk8 e
    exact (hs_fr.rf (K := []) (h := h)).tr fk
theorem hz_b228_43 {k8 : Int32 × Int32 × Int32 × Int32 × hs_H → Option (Int32 × hs_H)} {x1 : Int32} {x2 : Int32} {x3 : Int32} {x4 : Int32} {s0 : Int32} {h : hs_H} {r : Int32 × hs_H} (hk8 : ∀ y1 y2 y3 y4 h r, k8 (y1, y2, y3, y4, h) = some r → hs_fr [] h r.2) (e : hb_228_43 k8 x1 x2 x3 x4 s0 h = some r) : hs_fr [] h r.2 := by
  unfold hb_228_43 at e
  rcases hz_if e with e | e
  · have fk := hz_b228_56 hk8 e
    exact (hs_fr.rf (K := []) (h := h)).tr fk
  · have fk := hz_b228_56 hk8 e
    exact (hs_fr.rf (K := []) (h := h)).tr fk
theorem hz_b228_42 {k8 : Int32 × Int32 × Int32 × Int32 × hs_H → Option (Int32 × hs_H)} {x1 : Int32} {x2 : Int32} {x3 : Int32} {x4 : Int32} {h : hs_H} {r : Int32 × hs_H} (hk8 : ∀ y1 y2 y3 y4 h r, k8 (y1, y2, y3, y4, h) = some r → hs_fr [] h r.2) (e : hb_228_42 k8 x1 x2 x3 x4 h = some r) : hs_fr [] h r.2 := by
  unfold hb_228_42 at e
  have fk := hz_b228_43 hk8 e
  exact (hs_fr.rf (K := []) (h := h)).tr fk
theorem hz_b228_8 {k8 : Int32 × Int32 × Int32 × Int32 × hs_H → Option (Int32 × hs_H)} {x1 : Int32} {x2 : Int32} {x3 : Int32} {x4 : Int32} {h : hs_H} {r : Int32 × hs_H} (hk8 : ∀ y1 y2 y3 y4 h r, k8 (y1, y2, y3, y4, h) = some r → hs_fr [] h r.2) (e : hb_228_8 k8 x1 x2 x3 x4 h = some r) : hs_fr [] h r.2 := by
  unfold hb_228_8 at e
  rcases hz_if e with e | e
  · obtain rfl := Option.some.inj e
    exact (hs_fr.rf (K := []) (h := h))
  · rcases hz_if e with e | e
    · have fk := hz_b228_42 hk8 e
      exact (hs_fr.rf (K := []) (h := h)).tr fk
    · replace e := (hs_ck_some e).2
      rcases hz_if e with e | e
      · have fk := hz_b228_42 hk8 e
        exact (hs_fr.rf (K := []) (h := h)).tr fk
      · have fk := hz_b228_43 hk8 e
        exact (hs_fr.rf (K := []) (h := h)).tr fk
theorem hz_228 {a1 : Int32} {h : hs_H} {r : Int32 × hs_H} (e : hf_228 a1 h = some r) : hs_fr [] h r.2 := by
  unfold hf_228 at e
  have fl := hz_lp5 (f := fun k s => hb_228_8 k s.1 s.2.1 s.2.2.1 s.2.2.2.1 s.2.2.2.2) (G := fun r => r.2) (fun k hk y1 y2 y3 y4 h r e => hz_b228_8 hk e) e
  exact (hs_fr.rf (K := []) (h := h)).tr fl
theorem hz_b229_236 {x3 : Int32} {h : hs_H} {r : Int32 × hs_H} (e : hb_229_236 x3 h = some r) : hs_fr [(12, some 0), (50, some 0)] h r.2 := by
  unfold hb_229_236 at e
  replace e := (hs_ck_some e).2
  obtain rfl := Option.some.inj e
  exact (hs_fr.rf (K := [(12, some 0), (50, some 0)]) (h := h))
theorem hz_b229_220 {k69 : Int32 × Int32 × Int32 × Int32 × hs_H → Option (Int32 × hs_H)} {x1 : Int32} {x2 : Int32} {x3 : Int32} {x4 : Int32} {h : hs_H} {r : Int32 × hs_H} (hk69 : ∀ y1 y2 y3 y4 h r, k69 (y1, y2, y3, y4, h) = some r → hs_fr [(12, some 0), (50, some 0)] h r.2) (e : hb_229_220 k69 x1 x2 x3 x4 h = some r) : hs_fr [(12, some 0), (50, some 0)] h r.2 := by
  unfold hb_229_220 at e
  have fk := hk69 _ _ _ _ _ _ e
  exact ((hs_fr.rf (K := [(12, some 0), (50, some 0)]) (h := h)).put (.inl (.head _))).tr fk
theorem hz_b229_219 {k69 : Int32 × Int32 × Int32 × Int32 × hs_H → Option (Int32 × hs_H)} {x1 : Int32} {x2 : Int32} {x4 : Int32} {s0 : Int32} {h : hs_H} {r : Int32 × hs_H} (hk69 : ∀ y1 y2 y3 y4 h r, k69 (y1, y2, y3, y4, h) = some r → hs_fr [(12, some 0), (50, some 0)] h r.2) (e : hb_229_219 k69 x1 x2 x4 s0 h = some r) : hs_fr [(12, some 0), (50, some 0)] h r.2 := by
  unfold hb_229_219 at e
  have fk := hz_b229_220 hk69 e
  exact (hs_fr.rf (K := [(12, some 0), (50, some 0)]) (h := h)).tr fk
theorem hz_b229_208 {k69 : Int32 × Int32 × Int32 × Int32 × hs_H → Option (Int32 × hs_H)} {x1 : Int32} {x4 : Int32} {s0 : Int32} {h : hs_H} {r : Int32 × hs_H} (hk69 : ∀ y1 y2 y3 y4 h r, k69 (y1, y2, y3, y4, h) = some r → hs_fr [(12, some 0), (50, some 0)] h r.2) (e : hb_229_208 k69 x1 x4 s0 h = some r) : hs_fr [(12, some 0), (50, some 0)] h r.2 := by
  unfold hb_229_208 at e
  rcases hz_if e with e | e
  · have fk := hz_b229_219 hk69 e
    exact (hs_fr.rf (K := [(12, some 0), (50, some 0)]) (h := h)).tr fk
  · have fk := hz_b229_219 hk69 e
    exact (hs_fr.rf (K := [(12, some 0), (50, some 0)]) (h := h)).tr fk
theorem hz_b229_160 {k69 : Int32 × Int32 × Int32 × Int32 × hs_H → Option (Int32 × hs_H)} {x1 : Int32} {x2 : Int32} {x4 : Int32} {s0 : Int32} {h : hs_H} {r : Int32 × hs_H} (hk69 : ∀ y1 y2 y3 y4 h r, k69 (y1, y2, y3, y4, h) = some r → hs_fr [(12, some 0), (50, some 0)] h r.2) (e : hb_229_160 k69 x1 x2 x4 s0 h = some r) : hs_fr [(12, some 0), (50, some 0)] h r.2 := by
  unfold hb_229_160 at e
  rcases hz_if e with e | e
  · have fk := hz_b229_220 hk69 e
    exact (hs_fr.rf (K := [(12, some 0), (50, some 0)]) (h := h)).tr fk
  · replace e := (hs_ck_some e).2
    rcases hz_if e with e | e
    · have fk := hz_b229_220 hk69 e
      exact (hs_fr.rf (K := [(12, some 0), (50, some 0)]) (h := h)).tr fk
    · replace e := (hs_ck_some e).2
      obtain ⟨q16, eq16, e⟩ := hs_bind_some e
      have fq16 := (hs_fr.rf (K := [(12, some 0), (50, some 0)]) (h := h)).tr ((hz_228 eq16).sub hs_sub_nil)
      rcases hz_if e with e | e
      · have fk := hz_b229_208 hk69 e
        exact fq16.tr fk
      · replace e := (hs_ck_some e).2
        obtain ⟨q20, eq20, e⟩ := hs_bind_some e
        have fq20 := fq16.tr ((hz_227 eq20).sub (hs_sub_cons (.inl (.head _)) hs_sub_nil))
        have fk := hz_b229_208 hk69 e
        exact fq20.tr fk
theorem hz_b229_114 {k69 : Int32 × Int32 × Int32 × Int32 × hs_H → Option (Int32 × hs_H)} {k114 : Int32 × Int32 × Int32 × Int32 × hs_H → Option (Int32 × hs_H)} {x1 : Int32} {x2 : Int32} {x4 : Int32} {x6 : Int32} {h : hs_H} {r : Int32 × hs_H} (hk69 : ∀ y1 y2 y3 y4 h r, k69 (y1, y2, y3, y4, h) = some r → hs_fr [(12, some 0), (50, some 0)] h r.2) (hk114 : ∀ y1 y2 y3 y4 h r, k114 (y1, y2, y3, y4, h) = some r → hs_fr [(12, some 0), (50, some 0)] h r.2) (e : hb_229_114 k69 k114 x1 x2 x4 x6 h = some r) : hs_fr [(12, some 0), (50, some 0)] h r.2 := by
  unfold hb_229_114 at e
  rcases hz_if e with e | e
  · rcases hz_if e with e | e
    · have fk := hz_b229_160 hk69 e
      exact (hs_fr.rf (K := [(12, some 0), (50, some 0)]) (h := h)).tr fk
    · have fk := hz_b229_160 hk69 e
      exact (hs_fr.rf (K := [(12, some 0), (50, some 0)]) (h := h)).tr fk
  · replace e := (hs_ck_some e).2
    obtain ⟨q22, eq22, e⟩ := hs_bind_some e
    have fq22 := (hs_fr.rf (K := [(12, some 0), (50, some 0)]) (h := h)).tr ((hz_183 eq22).sub hs_sub_nil)
    replace e := (hs_ck_some e).2
    have fk := hk114 _ _ _ _ _ _ e
    exact (fq22.put (.inl (.tail _ (.head _)))).tr fk
theorem hz_b229_110 {k69 : Int32 × Int32 × Int32 × Int32 × hs_H → Option (Int32 × hs_H)} {x2 : Int32} {x4 : Int32} {s0 : Int32} {h : hs_H} {r : Int32 × hs_H} (hk69 : ∀ y1 y2 y3 y4 h r, k69 (y1, y2, y3, y4, h) = some r → hs_fr [(12, some 0), (50, some 0)] h r.2) (e : hb_229_110 k69 x2 x4 s0 h = some r) : hs_fr [(12, some 0), (50, some 0)] h r.2 := by
  unfold hb_229_110 at e
  have fl := hz_lp5 (f := fun k s => hb_229_114 k69 k s.1 s.2.1 s.2.2.1 s.2.2.2.1 s.2.2.2.2) (G := fun r => r.2) (fun k hk y1 y2 y3 y4 h r e => hz_b229_114 hk69 hk e) e
  exact (hs_fr.rf (K := [(12, some 0), (50, some 0)]) (h := h)).tr fl
theorem hz_b229_69 {k69 : Int32 × Int32 × Int32 × Int32 × hs_H → Option (Int32 × hs_H)} {x1 : Int32} {x2 : Int32} {x3 : Int32} {x4 : Int32} {h : hs_H} {r : Int32 × hs_H} (hk69 : ∀ y1 y2 y3 y4 h r, k69 (y1, y2, y3, y4, h) = some r → hs_fr [(12, some 0), (50, some 0)] h r.2) (e : hb_229_69 k69 x1 x2 x3 x4 h = some r) : hs_fr [(12, some 0), (50, some 0)] h r.2 := by
  unfold hb_229_69 at e
  rcases hz_if e with e | e
  · have fk := hz_b229_236  e
    exact (hs_fr.rf (K := [(12, some 0), (50, some 0)]) (h := h)).tr fk
  · rcases hz_if e with e | e
    · have fk := hz_b229_236  e
      exact (hs_fr.rf (K := [(12, some 0), (50, some 0)]) (h := h)).tr fk
    · replace e := (hs_ck_some e).2
      rcases hz_if e with e | e
      · obtain ⟨q9, eq9, e⟩ := hs_bind_some e
        have fq9 := (hs_fr.rf (K := [(12, some 0), (50, some 0)]) (h := h)).tr ((hz_227 eq9).sub (hs_sub_cons (.inl (.head _)) hs_sub_nil))
        have fk := hz_b229_110 hk69 e
        exact fq9.tr fk
      · have fk := hz_b229_110 hk69 e
        exact (hs_fr.rf (K := [(12, some 0), (50, some 0)]) (h := h)).tr fk
theorem hz_b229_59 {k23 : Int32 × Int32 × Int32 × Int32 × hs_H → Option (Int32 × hs_H)} {x1 : Int32} {x2 : Int32} {x3 : Int32} {x4 : Int32} {s0 : Int32} {s1 : Int32} {h : hs_H} {r : Int32 × hs_H} (hk23 : ∀ y1 y2 y3 y4 h r, k23 (y1, y2, y3, y4, h) = some r → hs_fr [(12, some 0), (50, some 0)] h r.2) (e : hb_229_59 k23 x1 x2 x3 x4 s0 s1 h = some r) : hs_fr [(12, some 0), (50, some 0)] h r.2 := by
  unfold hb_229_59 at e
  replace e := (hs_ck_some e).2
  have fk := hk23 _ _ _ _ _ _ e
  exact ((hs_fr.rf (K := [(12, some 0), (50, some 0)]) (h := h)).put (.inl (.tail _ (.head _)))).tr fk
theorem hz_b229_58 {k23 : Int32 × Int32 × Int32 × Int32 × hs_H → Option (Int32 × hs_H)} {x1 : Int32} {x2 : Int32} {x3 : Int32} {x4 : Int32} {s0 : Int32} {h : hs_H} {r : Int32 × hs_H} (hk23 : ∀ y1 y2 y3 y4 h r, k23 (y1, y2, y3, y4, h) = some r → hs_fr [(12, some 0), (50, some 0)] h r.2) (e : hb_229_58 k23 x1 x2 x3 x4 s0 h = some r) : hs_fr [(12, some 0), (50, some 0)] h r.2 := by
  unfold hb_229_58 at e
  have fk := hz_b229_59 hk23 e
  exact (hs_fr.rf (K := [(12, some 0), (50, some 0)]) (h := h)).tr fk
theorem hz_b229_23 {k23 : Int32 × Int32 × Int32 × Int32 × hs_H → Option (Int32 × hs_H)} {x1 : Int32} {x2 : Int32} {x3 : Int32} {x4 : Int32} {h : hs_H} {r : Int32 × hs_H} (hk23 : ∀ y1 y2 y3 y4 h r, k23 (y1, y2, y3, y4, h) = some r → hs_fr [(12, some 0), (50, some 0)] h r.2) (e : hb_229_23 k23 x1 x2 x3 x4 h = some r) : hs_fr [(12, some 0), (50, some 0)] h r.2 := by
  unfold hb_229_23 at e
  rcases hz_if e with e | e
  · have fl := hz_lp5 (f := fun k s => hb_229_69 k s.1 s.2.1 s.2.2.1 s.2.2.2.1 s.2.2.2.2) (G := fun r => r.2) (fun k hk y1 y2 y3 y4 h r e => hz_b229_69 hk e) e
    exact (hs_fr.rf (K := [(12, some 0), (50, some 0)]) (h := h)).tr fl
  · rcases hz_if e with e | e
    · have fk := hz_b229_58 hk23 e
      exact (hs_fr.rf (K := [(12, some 0), (50, some 0)]) (h := h)).tr fk
    · obtain ⟨q26, eq26, e⟩ := hs_bind_some e
      have fq26 := (hs_fr.rf (K := [(12, some 0), (50, some 0)]) (h := h)).tr ((hz_180 eq26).sub hs_sub_nil)
      rcases hz_if e with e | e
      · have fk := hz_b229_58 hk23 e
        exact fq26.tr fk
      · have fk := hz_b229_59 hk23 e
        exact fq26.tr fk
theorem hz_229 {h : hs_H} {r : Int32 × hs_H} (e : hf_229 h = some r) : hs_fr [(12, some 0), (50, some 0)] h r.2 := by
  unfold hf_229 at e
  obtain ⟨q1, eq1, e⟩ := hs_bind_some e
  have fq1 := (hs_fr.rf (K := [(12, some 0), (50, some 0)]) (h := h)).tr ((hz_226 eq1).sub (hs_sub_cons (.inl (.head _)) hs_sub_nil))
  obtain ⟨q2, eq2, e⟩ := hs_bind_some e
  have fq2 := fq1.tr ((hz_226 eq2).sub (hs_sub_cons (.inl (.head _)) hs_sub_nil))
  have fl := hz_lp5 (f := fun k s => hb_229_23 k s.1 s.2.1 s.2.2.1 s.2.2.2.1 s.2.2.2.2) (G := fun r => r.2) (fun k hk y1 y2 y3 y4 h r e => hz_b229_23 hk e) e
  exact fq2.tr fl
theorem hz_b230_22 {h : hs_H} {r : Int32 × hs_H} (e : hb_230_22 h = some r) : hs_fr [(12, some 0), (50, some 0)] h r.2 := by
  unfold hb_230_22 at e
  obtain rfl := Option.some.inj e
  exact (hs_fr.rf (K := [(12, some 0), (50, some 0)]) (h := h))
theorem hz_b230_77 {s0 : Int32} {h : hs_H} {r : Int32 × hs_H} (e : hb_230_77 s0 h = some r) : hs_fr [(12, some 0), (50, some 0)] h r.2 := by
  unfold hb_230_77 at e
  obtain rfl := Option.some.inj e
  exact (hs_fr.rf (K := [(12, some 0), (50, some 0)]) (h := h))
theorem hz_b230_40 {k40 : Int32 × Int32 × Int32 × Int32 × hs_H → Option (Int32 × hs_H)} {x2 : Int32} {x3 : Int32} {x4 : Int32} {x5 : Int32} {h : hs_H} {r : Int32 × hs_H} (hk40 : ∀ y1 y2 y3 y4 h r, k40 (y1, y2, y3, y4, h) = some r → hs_fr [(12, some 0), (50, some 0)] h r.2) (e : hb_230_40 k40 x2 x3 x4 x5 h = some r) : hs_fr [(12, some 0), (50, some 0)] h r.2 := by
  unfold hb_230_40 at e
  rcases hz_if e with e | e
  · rcases hz_if e with e | e
    · have fk := hz_b230_77  e
      exact (hs_fr.rf (K := [(12, some 0), (50, some 0)]) (h := h)).tr fk
    · have fk := hz_b230_77  e
      exact (hs_fr.rf (K := [(12, some 0), (50, some 0)]) (h := h)).tr fk
  · obtain ⟨q7, eq7, e⟩ := hs_bind_some e
    have fq7 := (hs_fr.rf (K := [(12, some 0), (50, some 0)]) (h := h)).tr ((hz_229 eq7).sub (hs_sub_cons (.inl (.head _)) (hs_sub_cons (.inl (.tail _ (.head _))) hs_sub_nil)))
    obtain ⟨q8, eq8, e⟩ := hs_bind_some e
    have fq8 := fq7.tr ((hz_151 eq8).sub hs_sub_nil)
    have fk := hk40 _ _ _ _ _ _ e
    exact fq8.tr fk
theorem hz_230 {a1 : Int32} {a2 : Int32} {a3 : Int32} {h : hs_H} {r : Int32 × hs_H} (e : hf_230 a1 a2 a3 h = some r) : hs_fr [(12, some 0), (50, some 0)] h r.2 := by
  unfold hf_230 at e
  obtain ⟨q1, eq1, e⟩ := hs_bind_some e
  have fq1 := (hs_fr.rf (K := [(12, some 0), (50, some 0)]) (h := h)).tr ((hz_150 eq1).sub hs_sub_nil)
  rcases hz_if e with e | e
  · have fk := hz_b230_22  e
    exact fq1.tr fk
  · obtain ⟨q3, eq3, e⟩ := hs_bind_some e
    have fq3 := fq1.tr ((hz_150 eq3).sub hs_sub_nil)
    rcases hz_if e with e | e
    · have fl := hz_lp5 (f := fun k s => hb_230_40 k s.1 s.2.1 s.2.2.1 s.2.2.2.1 s.2.2.2.2) (G := fun r => r.2) (fun k hk y1 y2 y3 y4 h r e => hz_b230_40 hk e) e
      exact ((fq3.put (.inl (.head _))).put (.inl (.head _))).tr fl
    · have fk := hz_b230_22  e
      exact fq3.tr fk
theorem hz_b231_2 {k2 : Int32 × Int32 × Int32 × hs_H → Option (hs_H)} {x1 : Int32} {x2 : Int32} {x3 : Int32} {h : hs_H} {r : hs_H} (hk2 : ∀ y1 y2 y3 h r, k2 (y1, y2, y3, h) = some r → hs_fr [(44, some 0)] h r) (e : hb_231_2 k2 x1 x2 x3 h = some r) : hs_fr [(44, some 0)] h r := by
  unfold hb_231_2 at e
  rcases hz_if e with e | e
  · obtain rfl := Option.some.inj e
    exact (hs_fr.rf (K := [(44, some 0)]) (h := h))
  · replace e := (hs_ck_some e).2
    replace e := (hs_ck_some e).2
    have fk := hk2 _ _ _ _ _ e
    exact ((hs_fr.rf (K := [(44, some 0)]) (h := h)).put (.inl (.head _))).tr fk
theorem hz_231 {a1 : Int32} {a2 : Int32} {h : hs_H} {r : hs_H} (e : hf_231 a1 a2 h = some r) : hs_fr [(44, some 0)] h r := by
  unfold hf_231 at e
  have fl := hz_lp4 (f := fun k s => hb_231_2 k s.1 s.2.1 s.2.2.1 s.2.2.2) (G := fun r => r) (fun k hk y1 y2 y3 h r e => hz_b231_2 hk e) e
  exact (hs_fr.rf (K := [(44, some 0)]) (h := h)).tr fl
theorem hz_232 {a1 : Int32} {h : hs_H} {r : Int32 × hs_H} (e : hf_232 a1 h = some r) : hs_fr [(44, some 0), (45, some 0)] h r.2 := by
  unfold hf_232 at e
  obtain ⟨q1, eq1, e⟩ := hs_bind_some e
  have fq1 := (hs_fr.rf (K := [(44, some 0), (45, some 0)]) (h := h)).tr ((hz_150 eq1).sub hs_sub_nil)
  rcases hz_if e with e | e
  · replace e := (hs_ck_some e).2
    obtain ⟨q4, eq4, e⟩ := hs_bind_some e
    have fq4 := fq1.tr ((hz_151 eq4).sub hs_sub_nil)
    replace e := (hs_ck_some e).2
    obtain ⟨q6, eq6, e⟩ := hs_bind_some e
    have fq6 := (fq4.put (.inl (.tail _ (.head _)))).tr ((hz_231 eq6).sub (hs_sub_cons (.inl (.head _)) hs_sub_nil))
    obtain rfl := Option.some.inj e
    exact fq6
  · obtain rfl := Option.some.inj e
    exact fq1
theorem hz_233 {a1 : Int32} {h : hs_H} {r : Int32 × hs_H} (e : hf_233 a1 h = some r) : hs_fr [(44, some 0)] h r.2 := by
  unfold hf_233 at e
  obtain ⟨q1, eq1, e⟩ := hs_bind_some e
  have fq1 := (hs_fr.rf (K := [(44, some 0)]) (h := h)).tr ((hz_150 eq1).sub hs_sub_nil)
  rcases hz_if e with e | e
  · replace e := (hs_ck_some e).2
    rcases hz_if e with e | e
    · obtain ⟨q5, eq5, e⟩ := hs_bind_some e
      have fq5 := fq1.tr ((hz_231 eq5).sub (hs_sub_cons (.inl (.head _)) hs_sub_nil))
      replace e := (hs_ck_some e).2
      obtain rfl := Option.some.inj e
      exact fq5
    · obtain rfl := Option.some.inj e
      exact fq1
  · obtain rfl := Option.some.inj e
    exact fq1
theorem hz_b234_29 {s0 : Int32} {h : hs_H} {r : Int32 × hs_H} (e : hb_234_29 s0 h = some r) : hs_fr [] h r.2 := by
  unfold hb_234_29 at e
  replace e := (hs_ck_some e).2
  obtain rfl := Option.some.inj e
  exact (hs_fr.rf (K := []) (h := h))
theorem hz_b234_28 {h : hs_H} {r : Int32 × hs_H} (e : hb_234_28 h = some r) : hs_fr [] h r.2 := by
  unfold hb_234_28 at e
  have fk := hz_b234_29  e
  exact (hs_fr.rf (K := []) (h := h)).tr fk
theorem hz_234 {a0 : Int32} {a1 : Int32} {h : hs_H} {r : Int32 × hs_H} (e : hf_234 a0 a1 h = some r) : hs_fr [] h r.2 := by
  unfold hf_234 at e
  obtain ⟨q1, eq1, e⟩ := hs_bind_some e
  have fq1 := (hs_fr.rf (K := []) (h := h)).tr ((hz_150 eq1).sub hs_sub_nil)
  rcases hz_if e with e | e
  · have fk := hz_b234_28  e
    exact fq1.tr fk
  · obtain ⟨q4, eq4, e⟩ := hs_bind_some e
    have fq4 := fq1.tr ((hz_150 eq4).sub hs_sub_nil)
    rcases hz_if e with e | e
    · have fk := hz_b234_28  e
      exact fq4.tr fk
    · have fk := hz_b234_29  e
      exact fq4.tr fk
theorem hz_b235_14 {h : hs_H} {r : Int32 × hs_H} (e : hb_235_14 h = some r) : hs_fr [(61, some 0), (62, some 0), (63, some 0)] h r.2 := by
  unfold hb_235_14 at e
  obtain rfl := Option.some.inj e
  exact (hs_fr.rf (K := [(61, some 0), (62, some 0), (63, some 0)]) (h := h))
theorem hz_b235_40 {k40 : Int32 × Int32 × hs_H → Option (Int32 × hs_H)} {x1 : Int32} {x4 : Int32} {h : hs_H} {r : Int32 × hs_H} (hk40 : ∀ y1 y2 h r, k40 (y1, y2, h) = some r → hs_fr [(61, some 0), (62, some 0), (63, some 0)] h r.2) (e : hb_235_40 k40 x1 x4 h = some r) : hs_fr [(61, some 0), (62, some 0), (63, some 0)] h r.2 := by
  unfold hb_235_40 at e
  rcases hz_if e with e | e
  · obtain rfl := Option.some.inj e
    exact (hs_fr.rf (K := [(61, some 0), (62, some 0), (63, some 0)]) (h := h))
  · replace e := (hs_ck_some e).2
    have fk := hk40 _ _ _ _ e
    exact ((hs_fr.rf (K := [(61, some 0), (62, some 0), (63, some 0)]) (h := h)).put (.inl (.tail _ (.tail _ (.head _))))).tr fk
theorem hz_235 {a1 : Int32} {a2 : Int32} {a3 : Int32} {h : hs_H} {r : Int32 × hs_H} (e : hf_235 a1 a2 a3 h = some r) : hs_fr [(61, some 0), (62, some 0), (63, some 0)] h r.2 := by
  unfold hf_235 at e
  obtain ⟨q1, eq1, e⟩ := hs_bind_some e
  have fq1 := (hs_fr.rf (K := [(61, some 0), (62, some 0), (63, some 0)]) (h := h)).tr ((hz_234 eq1).sub hs_sub_nil)
  rcases hz_if e with e | e
  · have fk := hz_b235_14  e
    exact fq1.tr fk
  · rcases hz_if e with e | e
    · rcases hz_if e with e | e
      · replace e := (hs_ck_some e).2
        replace e := (hs_ck_some e).2
        have fl := hz_lp3 (f := fun k s => hb_235_40 k s.1 s.2.1 s.2.2) (G := fun r => r.2) (fun k hk y1 y2 h r e => hz_b235_40 hk e) e
        exact ((fq1.put (.inl (.head _))).put (.inl (.tail _ (.head _)))).tr fl
      · obtain rfl := Option.some.inj e
        exact fq1
    · have fk := hz_b235_14  e
      exact fq1.tr fk
theorem hz_b236_85 {s0 : Int32} {s1 : Int32} {h : hs_H} {r : Int32 × hs_H} (e : hb_236_85 s0 s1 h = some r) : hs_fr [(63, some 0)] h r.2 := by
  unfold hb_236_85 at e
  replace e := (hs_ck_some e).2
  obtain rfl := Option.some.inj e
  exact ((hs_fr.rf (K := [(63, some 0)]) (h := h)).put (.inl (.head _)))
theorem hz_236 {a1 : Int32} {a2 : Int32} {a3 : Int32} {h : hs_H} {r : Int32 × hs_H} (e : hf_236 a1 a2 a3 h = some r) : hs_fr [(63, some 0)] h r.2 := by
  unfold hf_236 at e
  obtain ⟨q1, eq1, e⟩ := hs_bind_some e
  have fq1 := (hs_fr.rf (K := [(63, some 0)]) (h := h)).tr ((hz_234 eq1).sub hs_sub_nil)
  rcases hz_if e with e | e
  · replace e := (hs_ck_some e).2
    rcases hz_if e with e | e
    · replace e := (hs_ck_some e).2
      obtain ⟨q6, eq6, e⟩ := hs_bind_some e
      have fq6 := fq1.tr ((hz_150 eq6).sub hs_sub_nil)
      rcases hz_if e with e | e
      · replace e := (hs_ck_some e).2
        rcases hz_if e with e | e
        · replace e := (hs_ck_some e).2
          rcases hz_if e with e | e
          · have fk := hz_b236_85  e
            exact fq6.tr fk
          · have fk := hz_b236_85  e
            exact fq6.tr fk
        · have fk := hz_b236_85  e
          exact fq6.tr fk
      · obtain rfl := Option.some.inj e
        exact fq6
    · obtain rfl := Option.some.inj e
      exact fq1
  · obtain rfl := Option.some.inj e
    exact fq1
theorem hz_b237_21 {h : hs_H} {r : Int32 × hs_H} (e : hb_237_21 h = some r) : hs_fr [(12, some 0), (44, some 0)] h r.2 := by
  unfold hb_237_21 at e
  obtain rfl := Option.some.inj e
  exact (hs_fr.rf (K := [(12, some 0), (44, some 0)]) (h := h))
theorem hz_b237_217 {x6 : Int32} {x7 : Int32} {h : hs_H} {r : Int32 × hs_H} (e : hb_237_217 x6 x7 h = some r) : hs_fr [(12, some 0), (44, some 0)] h r.2 := by
  unfold hb_237_217 at e
  obtain rfl := Option.some.inj e
  exact ((hs_fr.rf (K := [(12, some 0), (44, some 0)]) (h := h)).put (.inl (.head _)))
theorem hz_b237_211 {k41 : Int32 × Int32 × Int32 × Int32 × Int32 × Int32 × Int32 × Int32 × hs_H → Option (Int32 × hs_H)} {x1 : Int32} {x2 : Int32} {x3 : Int32} {x4 : Int32} {x5 : Int32} {x6 : Int32} {x7 : Int32} {x8 : Int32} {h : hs_H} {r : Int32 × hs_H} (hk41 : ∀ y1 y2 y3 y4 y5 y6 y7 y8 h r, k41 (y1, y2, y3, y4, y5, y6, y7, y8, h) = some r → hs_fr [(12, some 0), (44, some 0)] h r.2) (e : hb_237_211 k41 x1 x2 x3 x4 x5 x6 x7 x8 h = some r) : hs_fr [(12, some 0), (44, some 0)] h r.2 := by
  unfold hb_237_211 at e
  have fk := hk41 _ _ _ _ _ _ _ _ _ _ e
  exact (hs_fr.rf (K := [(12, some 0), (44, some 0)]) (h := h)).tr fk
theorem hz_b237_143 {k41 : Int32 × Int32 × Int32 × Int32 × Int32 × Int32 × Int32 × Int32 × hs_H → Option (Int32 × hs_H)} {x1 : Int32} {x2 : Int32} {x3 : Int32} {x4 : Int32} {x5 : Int32} {x6 : Int32} {x7 : Int32} {x8 : Int32} {h : hs_H} {r : Int32 × hs_H} (hk41 : ∀ y1 y2 y3 y4 y5 y6 y7 y8 h r, k41 (y1, y2, y3, y4, y5, y6, y7, y8, h) = some r → hs_fr [(12, some 0), (44, some 0)] h r.2) (e : hb_237_143 k41 x1 x2 x3 x4 x5 x6 x7 x8 h = some r) : hs_fr [(12, some 0), (44, some 0)] h r.2 := by
  unfold hb_237_143 at e
  rcases hz_if e with e | e
  · have fk := hz_b237_211 hk41 e
    exact (hs_fr.rf (K := [(12, some 0), (44, some 0)]) (h := h)).tr fk
  · replace e := (hs_ck_some e).2
    replace e := (hs_ck_some e).2
    replace e := (hs_ck_some e).2
    obtain ⟨q13, eq13, e⟩ := hs_bind_some e
    have fq13 := (hs_fr.rf (K := [(12, some 0), (44, some 0)]) (h := h)).tr ((hz_187 eq13).sub (hs_sub_cons (.inl (.tail _ (.head _))) hs_sub_nil))
    rcases hz_if e with e | e
    · have fk := hz_b237_211 hk41 e
      exact fq13.tr fk
    · replace e := (hs_ck_some e).2
      obtain rfl := Option.some.inj e
      exact (fq13.put (.inl (.tail _ (.head _))))
theorem hz_b237_135 {k41 : Int32 × Int32 × Int32 × Int32 × Int32 × Int32 × Int32 × Int32 × hs_H → Option (Int32 × hs_H)} {k56 : Int32 × Int32 × Int32 × Int32 × Int32 × Int32 × Int32 × Int32 × Int32 × hs_H → Option (Int32 × hs_H)} {x1 : Int32} {x2 : Int32} {x3 : Int32} {x4 : Int32} {x5 : Int32} {x7 : Int32} {x8 : Int32} {x9 : Int32} {s0 : Int32} {h : hs_H} {r : Int32 × hs_H} (hk41 : ∀ y1 y2 y3 y4 y5 y6 y7 y8 h r, k41 (y1, y2, y3, y4, y5, y6, y7, y8, h) = some r → hs_fr [(12, some 0), (44, some 0)] h r.2) (hk56 : ∀ y1 y2 y3 y4 y5 y6 y7 y8 y9 h r, k56 (y1, y2, y3, y4, y5, y6, y7, y8, y9, h) = some r → hs_fr [(12, some 0), (44, some 0)] h r.2) (e : hb_237_135 k41 k56 x1 x2 x3 x4 x5 x7 x8 x9 s0 h = some r) : hs_fr [(12, some 0), (44, some 0)] h r.2 := by
  unfold hb_237_135 at e
  have fk := hk56 _ _ _ _ _ _ _ _ _ _ _ e
  exact (hs_fr.rf (K := [(12, some 0), (44, some 0)]) (h := h)).tr fk
theorem hz_b237_130 {k41 : Int32 × Int32 × Int32 × Int32 × Int32 × Int32 × Int32 × Int32 × hs_H → Option (Int32 × hs_H)} {k56 : Int32 × Int32 × Int32 × Int32 × Int32 × Int32 × Int32 × Int32 × Int32 × hs_H → Option (Int32 × hs_H)} {x1 : Int32} {x2 : Int32} {x3 : Int32} {x4 : Int32} {x5 : Int32} {x7 : Int32} {x8 : Int32} {x9 : Int32} {h : hs_H} {r : Int32 × hs_H} (hk41 : ∀ y1 y2 y3 y4 y5 y6 y7 y8 h r, k41 (y1, y2, y3, y4, y5, y6, y7, y8, h) = some r → hs_fr [(12, some 0), (44, some 0)] h r.2) (hk56 : ∀ y1 y2 y3 y4 y5 y6 y7 y8 y9 h r, k56 (y1, y2, y3, y4, y5, y6, y7, y8, y9, h) = some r → hs_fr [(12, some 0), (44, some 0)] h r.2) (e : hb_237_130 k41 k56 x1 x2 x3 x4 x5 x7 x8 x9 h = some r) : hs_fr [(12, some 0), (44, some 0)] h r.2 := by
  unfold hb_237_130 at e
  have fk := hz_b237_135 hk41 hk56 e
  exact (hs_fr.rf (K := [(12, some 0), (44, some 0)]) (h := h)).tr fk
theorem hz_b237_56 {k41 : Int32 × Int32 × Int32 × Int32 × Int32 × Int32 × Int32 × Int32 × hs_H → Option (Int32 × hs_H)} {k56 : Int32 × Int32 × Int32 × Int32 × Int32 × Int32 × Int32 × Int32 × Int32 × hs_H → Option (Int32 × hs_H)} {x1 : Int32} {x2 : Int32} {x3 : Int32} {x4 : Int32} {x5 : Int32} {x6 : Int32} {x7 : Int32} {x8 : Int32} {x9 : Int32} {h : hs_H} {r : Int32 × hs_H} (hk41 : ∀ y1 y2 y3 y4 y5 y6 y7 y8 h r, k41 (y1, y2, y3, y4, y5, y6, y7, y8, h) = some r → hs_fr [(12, some 0), (44, some 0)] h r.2) (hk56 : ∀ y1 y2 y3 y4 y5 y6 y7 y8 y9 h r, k56 (y1, y2, y3, y4, y5, y6, y7, y8, y9, h) = some r → hs_fr [(12, some 0), (44, some 0)] h r.2) (e : hb_237_56 k41 k56 x1 x2 x3 x4 x5 x6 x7 x8 x9 h = some r) : hs_fr [(12, some 0), (44, some 0)] h r.2 := by
  unfold hb_237_56 at e
  rcases hz_if e with e | e
  · have fk := hz_b237_143 hk41 e
    exact (hs_fr.rf (K := [(12, some 0), (44, some 0)]) (h := h)).tr fk
  · rcases hz_if e with e | e
    · have fk := hz_b237_143 hk41 e
      exact (hs_fr.rf (K := [(12, some 0), (44, some 0)]) (h := h)).tr fk
    · replace e := (hs_ck_some e).2
      rcases hz_if e with e | e
      · replace e := (hs_ck_some e).2
        rcases hz_if e with e | e
        · rcases hz_if e with e | e
          · have fk := hz_b237_130 hk41 hk56 e
            exact (hs_fr.rf (K := [(12, some 0), (44, some 0)]) (h := h)).tr fk
          · replace e := (hs_ck_some e).2
            rcases hz_if e with e | e
            · have fk := hz_b237_135 hk41 hk56 e
              exact (hs_fr.rf (K := [(12, some 0), (44, some 0)]) (h := h)).tr fk
            · have fk := hz_b237_130 hk41 hk56 e
              exact (hs_fr.rf (K := [(12, some 0), (44, some 0)]) (h := h)).tr fk
        · have fk := hz_b237_135 hk41 hk56 e
          exact (hs_fr.rf (K := [(12, some 0), (44, some 0)]) (h := h)).tr fk
      · have fk := hz_b237_135 hk41 hk56 e
        exact (hs_fr.rf (K := [(12, some 0), (44, some 0)]) (h := h)).tr fk
theorem hz_b237_41 {k41 : Int32 × Int32 × Int32 × Int32 × Int32 × Int32 × Int32 × Int32 × hs_H → Option (Int32 × hs_H)} {x1 : Int32} {x2 : Int32} {x3 : Int32} {x4 : Int32} {x5 : Int32} {x6 : Int32} {x7 : Int32} {x8 : Int32} {h : hs_H} {r : Int32 × hs_H} (hk41 : ∀ y1 y2 y3 y4 y5 y6 y7 y8 h r, k41 (y1, y2, y3, y4, y5, y6, y7, y8, h) = some r → hs_fr [(12, some 0), (44, some 0)] h r.2) (e : hb_237_41 k41 x1 x2 x3 x4 x5 x6 x7 x8 h = some r) : hs_fr [(12, some 0), (44, some 0)] h r.2 := by
  unfold hb_237_41 at e
  rcases hz_if e with e | e
  · have fk := hz_b237_217  e
    exact (hs_fr.rf (K := [(12, some 0), (44, some 0)]) (h := h)).tr fk
  · rcases hz_if e with e | e
    · have fk := hz_b237_217  e
      exact (hs_fr.rf (K := [(12, some 0), (44, some 0)]) (h := h)).tr fk
    · have fl := hz_lp10 (f := fun k s => hb_237_56 k41 k s.1 s.2.1 s.2.2.1 s.2.2.2.1 s.2.2.2.2.1 s.2.2.2.2.2.1 s.2.2.2.2.2.2.1 s.2.2.2.2.2.2.2.1 s.2.2.2.2.2.2.2.2.1 s.2.2.2.2.2.2.2.2.2) (G := fun r => r.2) (fun k hk y1 y2 y3 y4 y5 y6 y7 y8 y9 h r e => hz_b237_56 hk41 hk e) e
      exact (hs_fr.rf (K := [(12, some 0), (44, some 0)]) (h := h)).tr fl
theorem hz_237 {a1 : Int32} {a2 : Int32} {a3 : Int32} {a4 : Int32} {h : hs_H} {r : Int32 × hs_H} (e : hf_237 a1 a2 a3 a4 h = some r) : hs_fr [(12, some 0), (44, some 0)] h r.2 := by
  unfold hf_237 at e
  obtain ⟨q1, eq1, e⟩ := hs_bind_some e
  have fq1 := (hs_fr.rf (K := [(12, some 0), (44, some 0)]) (h := h)).tr ((hz_234 eq1).sub hs_sub_nil)
  rcases hz_if e with e | e
  · have fk := hz_b237_21  e
    exact fq1.tr fk
  · obtain ⟨q3, eq3, e⟩ := hs_bind_some e
    have fq3 := fq1.tr ((hz_150 eq3).sub hs_sub_nil)
    rcases hz_if e with e | e
    · replace e := (hs_ck_some e).2
      have fl := hz_lp9 (f := fun k s => hb_237_41 k s.1 s.2.1 s.2.2.1 s.2.2.2.1 s.2.2.2.2.1 s.2.2.2.2.2.1 s.2.2.2.2.2.2.1 s.2.2.2.2.2.2.2.1 s.2.2.2.2.2.2.2.2) (G := fun r => r.2) (fun k hk y1 y2 y3 y4 y5 y6 y7 y8 h r e => hz_b237_41 hk e) e
      exact fq3.tr fl
    · have fk := hz_b237_21  e
      exact fq3.tr fk
theorem hz_238 {h : hs_H} {r : Int32 × hs_H} (e : hf_238 h = some r) : hs_fr [] h r.2 := by
  unfold hf_238 at e
  obtain rfl := Option.some.inj e
  exact (hs_fr.rf (K := []) (h := h))
theorem hz_b239_133 {s0 : Int32} {h : hs_H} {r : Int32 × hs_H} (e : hb_239_133 s0 h = some r) : hs_fr [] h r.2 := by
  unfold hb_239_133 at e
  obtain rfl := Option.some.inj e
  exact (hs_fr.rf (K := []) (h := h))
theorem hz_b239_30 {k4 : Int32 × Int32 × Int32 × hs_H → Option (Int32 × hs_H)} {x1 : Int32} {x3 : Int32} {s0 : Int32} {s1 : Int32} {h : hs_H} {r : Int32 × hs_H} (hk4 : ∀ y1 y2 y3 h r, k4 (y1, y2, y3, h) = some r → hs_fr [] h r.2) (e : hb_239_30 k4 x1 x3 s0 s1 h = some r) : hs_fr [] h r.2 := by
  unfold hb_239_30 at e
  obtain ⟨q17, eq17, e⟩ := hs_bind_some e
  have fq17 := (hs_fr.rf (K := []) (h := h)).tr ((hz_151 eq17).sub hs_sub_nil)
  have fk := hk4 _ _ _ _ _ e
  exact fq17.tr fk
theorem hz_b239_4 {k4 : Int32 × Int32 × Int32 × hs_H → Option (Int32 × hs_H)} {x1 : Int32} {x2 : Int32} {x3 : Int32} {h : hs_H} {r : Int32 × hs_H} (hk4 : ∀ y1 y2 y3 h r, k4 (y1, y2, y3, h) = some r → hs_fr [] h r.2) (e : hb_239_4 k4 x1 x2 x3 h = some r) : hs_fr [] h r.2 := by
  unfold hb_239_4 at e
  rcases hz_if e with e | e
  · rcases hz_if e with e | e
    · replace e := (hs_ck_some e).2
      obtain rfl := Option.some.inj e
      exact (hs_fr.rf (K := []) (h := h))
    · rcases hz_if e with e | e
      · obtain rfl := Option.some.inj e
        exact (hs_fr.rf (K := []) (h := h))
      · rcases hz_if e with e | e
        · replace e := (hs_ck_some e).2
          obtain ⟨q7, eq7, e⟩ := hs_bind_some e
          have fq7 := (hs_fr.rf (K := []) (h := h)).tr ((hz_151 eq7).sub hs_sub_nil)
          replace e := (hs_ck_some e).2
          obtain ⟨q9, eq9, e⟩ := hs_bind_some e
          have fq9 := fq7.tr ((hz_151 eq9).sub hs_sub_nil)
          obtain rfl := Option.some.inj e
          exact fq9
        · rcases hz_if e with e | e
          · obtain rfl := Option.some.inj e
            exact (hs_fr.rf (K := []) (h := h))
          · rcases hz_if e with e | e
            · replace e := (hs_ck_some e).2
              rcases hz_if e with e | e
              · replace e := (hs_ck_some e).2
                have fk := hz_b239_133  e
                exact (hs_fr.rf (K := []) (h := h)).tr fk
              · have fk := hz_b239_133  e
                exact (hs_fr.rf (K := []) (h := h)).tr fk
            · obtain rfl := Option.some.inj e
              exact (hs_fr.rf (K := []) (h := h))
  · replace e := (hs_ck_some e).2
    rcases hz_if e with e | e
    · have fk := hz_b239_30 hk4 e
      exact (hs_fr.rf (K := []) (h := h)).tr fk
    · have fk := hz_b239_30 hk4 e
      exact (hs_fr.rf (K := []) (h := h)).tr fk
theorem hz_239 {a1 : Int32} {h : hs_H} {r : Int32 × hs_H} (e : hf_239 a1 h = some r) : hs_fr [] h r.2 := by
  unfold hf_239 at e
  have fl := hz_lp4 (f := fun k s => hb_239_4 k s.1 s.2.1 s.2.2.1 s.2.2.2) (G := fun r => r.2) (fun k hk y1 y2 y3 h r e => hz_b239_4 hk e) e
  exact (hs_fr.rf (K := []) (h := h)).tr fl
