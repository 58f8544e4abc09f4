/-! Frames: which kinds and instances a function writes; by gen7.py. -/
theorem hz_b168_145 {s0 : Int32} {h : hs_H} {r : hs_H} (e : hb_168_145 s0 h = some r) : hs_fr [(12, some 0), (46, some 0)] h r := by
  unfold hb_168_145 at e
  obtain ⟨q13, eq13, e⟩ := hs_bind_some e
  have fq13 := (hs_fr.rf (K := [(12, some 0), (46, some 0)]) (h := h)).tr ((hz_157 eq13).sub (hs_sub_cons (.inl (.head _)) hs_sub_nil))
  have fk := hz_b168_149  e
  exact fq13.tr fk
theorem hz_b168_107 {x1 : Int32} {h : hs_H} {r : hs_H} (e : hb_168_107 x1 h = some r) : hs_fr [(12, some 0), (46, some 0)] h r := by
  unfold hb_168_107 at e
  obtain ⟨q7, eq7, e⟩ := hs_bind_some e
  have fq7 := (hs_fr.rf (K := [(12, some 0), (46, some 0)]) (h := h)).tr ((hz_161 eq7).sub (hs_sub_cons (.inl (.head _)) hs_sub_nil))
  rcases hz_if e with e | e
  · obtain ⟨q9, eq9, e⟩ := hs_bind_some e
    have fq9 := fq7.tr ((hz_167 eq9).sub (hs_sub_cons (.inl (.head _)) (hs_sub_cons (.inl (.tail _ (.head _))) hs_sub_nil)))
    rcases hz_if e with e | e
    · have fk := hz_b168_149  e
      exact fq9.tr fk
    · rcases hz_if e with e | e
      · have fk := hz_b168_145  e
        exact fq9.tr fk
      · have fk := hz_b168_145  e
        exact fq9.tr fk
  · obtain rfl := Option.some.inj e
    exact fq7
theorem hz_b168_91 {x1 : Int32} {s0 : Int32} {h : hs_H} {r : hs_H} (e : hb_168_91 x1 s0 h = some r) : hs_fr [(12, some 0), (46, some 0)] h r := by
  unfold hb_168_91 at e
  obtain ⟨q16, eq16, e⟩ := hs_bind_some e
  have fq16 := (hs_fr.rf (K := [(12, some 0), (46, some 0)]) (h := h)).tr ((hz_157 eq16).sub (hs_sub_cons (.inl (.head _)) hs_sub_nil))
  have fk := hz_b168_107  e
  exact (fq16.put (.inl (.head _))).tr fk
theorem hz_b168_58 {x1 : Int32} {s0 : Int32} {h : hs_H} {r : hs_H} (e : hb_168_58 x1 s0 h = some r) : hs_fr [(12, some 0), (46, some 0)] h r := by
  unfold hb_168_58 at e
  obtain ⟨q5, eq5, e⟩ := hs_bind_some e
  have fq5 := (hs_fr.rf (K := [(12, some 0), (46, some 0)]) (h := h)).tr ((hz_157 eq5).sub (hs_sub_cons (.inl (.head _)) hs_sub_nil))
  rcases hz_if e with e | e
  · have fk := hz_b168_107  e
    exact fq5.tr fk
  · rcases hz_if e with e | e
    · have fk := hz_b168_107  e
      exact fq5.tr fk
    · rcases hz_if e with e | e
      · have fk := hz_b168_91  e
        exact fq5.tr fk
      · have fk := hz_b168_91  e
        exact fq5.tr fk
theorem hz_b168_53 {x1 : Int32} {h : hs_H} {r : hs_H} (e : hb_168_53 x1 h = some r) : hs_fr [(12, some 0), (46, some 0)] h r := by
  unfold hb_168_53 at e
  have fk := hz_b168_58  e
  exact (hs_fr.rf (K := [(12, some 0), (46, some 0)]) (h := h)).tr fk
theorem hz_b168_30 {x1 : Int32} {s0 : Int32} {h : hs_H} {r : hs_H} (e : hb_168_30 x1 s0 h = some r) : hs_fr [(12, some 0), (46, some 0)] h r := by
  unfold hb_168_30 at e
  obtain ⟨q3, eq3, e⟩ := hs_bind_some e
  have fq3 := (hs_fr.rf (K := [(12, some 0), (46, some 0)]) (h := h)).tr ((hz_157 eq3).sub (hs_sub_cons (.inl (.head _)) hs_sub_nil))
  rcases hz_if e with e | e
  · have fk := hz_b168_53  e
    exact fq3.tr fk
  · replace e := (hs_ck_some e).2
    rcases hz_if e with e | e
    · have fk := hz_b168_58  e
      exact fq3.tr fk
    · have fk := hz_b168_53  e
      exact fq3.tr fk
theorem hz_b168_17 {s0 : Int32} {h : hs_H} {r : hs_H} (e : hb_168_17 s0 h = some r) : hs_fr [(12, some 0), (46, some 0)] h r := by
  unfold hb_168_17 at e
  rcases hz_if e with e | e
  · have fk := hz_b168_30  e
    exact (hs_fr.rf (K := [(12, some 0), (46, some 0)]) (h := h)).tr fk
  · have fk := hz_b168_30  e
    exact (hs_fr.rf (K := [(12, some 0), (46, some 0)]) (h := h)).tr fk
theorem hz_168 {h : hs_H} {r : hs_H} (e : hf_168 h = some r) : hs_fr [(12, some 0), (46, some 0)] h r := by
  unfold hf_168 at e
  rcases hz_if e with e | e
  · have fk := hz_b168_17  e
    exact (hs_fr.rf (K := [(12, some 0), (46, some 0)]) (h := h)).tr fk
  · obtain ⟨q19, eq19, e⟩ := hs_bind_some e
    have fq19 := (hs_fr.rf (K := [(12, some 0), (46, some 0)]) (h := h)).tr ((hz_160 eq19).sub hs_sub_nil)
    have fk := hz_b168_17  e
    exact fq19.tr fk
theorem hz_b169_73 {x1 : Int32} {h : hs_H} {r : Int32 × hs_H} (e : hb_169_73 x1 h = some r) : hs_fr [(12, some 0), (44, some 0), (45, some 0), (46, some 0)] h r.2 := by
  unfold hb_169_73 at e
  rcases hz_if e with e | e
  · obtain ⟨q6, eq6, e⟩ := hs_bind_some e
    have fq6 := ((hs_fr.rf (K := [(12, some 0), (44, some 0), (45, some 0), (46, some 0)]) (h := h)).put (.inl (.head _))).tr ((hz_154 eq6).sub (hs_sub_cons (.inl (.head _)) (hs_sub_cons (.inl (.tail _ (.head _))) (hs_sub_cons (.inl (.tail _ (.tail _ (.head _)))) hs_sub_nil))))
    obtain rfl := Option.some.inj e
    exact fq6
  · obtain rfl := Option.some.inj e
    exact ((hs_fr.rf (K := [(12, some 0), (44, some 0), (45, some 0), (46, some 0)]) (h := h)).put (.inl (.head _)))
theorem hz_b169_68 {x1 : Int32} {s0 : Int32} {h : hs_H} {r : Int32 × hs_H} (e : hb_169_68 x1 s0 h = some r) : hs_fr [(12, some 0), (44, some 0), (45, some 0), (46, some 0)] h r.2 := by
  unfold hb_169_68 at e
  obtain ⟨q8, eq8, e⟩ := hs_bind_some e
  have fq8 := (hs_fr.rf (K := [(12, some 0), (44, some 0), (45, some 0), (46, some 0)]) (h := h)).tr ((hz_157 eq8).sub (hs_sub_cons (.inl (.head _)) hs_sub_nil))
  have fk := hz_b169_73  e
  exact fq8.tr fk
theorem hz_b169_44 {x1 : Int32} {h : hs_H} {r : Int32 × hs_H} (e : hb_169_44 x1 h = some r) : hs_fr [(12, some 0), (44, some 0), (45, some 0), (46, some 0)] h r.2 := by
  unfold hb_169_44 at e
  rcases hz_if e with e | e
  · have fk := hz_b169_73  e
    exact (hs_fr.rf (K := [(12, some 0), (44, some 0), (45, some 0), (46, some 0)]) (h := h)).tr fk
  · rcases hz_if e with e | e
    · have fk := hz_b169_68  e
      exact (hs_fr.rf (K := [(12, some 0), (44, some 0), (45, some 0), (46, some 0)]) (h := h)).tr fk
    · have fk := hz_b169_68  e
      exact (hs_fr.rf (K := [(12, some 0), (44, some 0), (45, some 0), (46, some 0)]) (h := h)).tr fk
theorem hz_b169_20 {k20 : Int32 × hs_H → Option (Int32 × hs_H)} {x1 : Int32} {h : hs_H} {r : Int32 × hs_H} (hk20 : ∀ y1 h r, k20 (y1, h) = some r → hs_fr [(12, some 0), (44, some 0), (45, some 0), (46, some 0)] h r.2) (e : hb_169_20 k20 x1 h = some r) : hs_fr [(12, some 0), (44, some 0), (45, some 0), (46, some 0)] h r.2 := by
  unfold hb_169_20 at e
  rcases hz_if e with e | e
  · have fk := hz_b169_44  e
    exact (hs_fr.rf (K := [(12, some 0), (44, some 0), (45, some 0), (46, some 0)]) (h := h)).tr fk
  · rcases hz_if e with e | e
    · have fk := hz_b169_44  e
      exact (hs_fr.rf (K := [(12, some 0), (44, some 0), (45, some 0), (46, some 0)]) (h := h)).tr fk
    · obtain ⟨q10, eq10, e⟩ := hs_bind_some e
      have fq10 := (hs_fr.rf (K := [(12, some 0), (44, some 0), (45, some 0), (46, some 0)]) (h := h)).tr ((hz_168 eq10).sub (hs_sub_cons (.inl (.head _)) (hs_sub_cons (.inl (.tail _ (.tail _ (.tail _ (.head _))))) hs_sub_nil)))
      have fk := hk20 _ _ _ e
      exact fq10.tr fk
theorem hz_169 {h : hs_H} {r : Int32 × hs_H} (e : hf_169 h = some r) : hs_fr [(12, some 0), (44, some 0), (45, some 0), (46, some 0)] h r.2 := by
  unfold hf_169 at e
  obtain ⟨q1, eq1, e⟩ := hs_bind_some e
  have fq1 := (((hs_fr.rf (K := [(12, some 0), (44, some 0), (45, some 0), (46, some 0)]) (h := h)).put (.inl (.head _))).put (.inl (.head _))).tr ((hz_153 eq1).sub (hs_sub_cons (.inl (.head _)) (hs_sub_cons (.inl (.tail _ (.tail _ (.tail _ (.head _))))) hs_sub_nil)))
  obtain ⟨q2, eq2, e⟩ := hs_bind_some e
  have fq2 := fq1.tr ((hz_161 eq2).sub (hs_sub_cons (.inl (.head _)) hs_sub_nil))
  have fl := hz_lp2 (f := fun k s => hb_169_20 k s.1 s.2) (G := fun r => r.2) (fun k hk y1 h r e => hz_b169_20 hk e) e
  exact fq2.tr fl
theorem hz_170 {h : hs_H} {r : Int32 × hs_H} (e : hf_170 h = some r) : hs_fr [] h r.2 := by
  unfold hf_170 at e
  obtain rfl := Option.some.inj e
  exact (hs_fr.rf (K := []) (h := h))
theorem hz_171 {a1 : Int32} {h : hs_H} {r : Int32 × hs_H} (e : hf_171 a1 h = some r) : hs_fr [] h r.2 := by
  unfold hf_171 at e
  obtain ⟨q1, eq1, e⟩ := hs_bind_some e
  have fq1 := (hs_fr.rf (K := []) (h := h)).tr ((hz_150 eq1).sub hs_sub_nil)
  replace e := (hs_ck_some e).2
  obtain rfl := Option.some.inj e
  exact fq1
theorem hz_b172_19 {s0 : Int32} {h : hs_H} {r : Int32 × hs_H} (e : hb_172_19 s0 h = some r) : hs_fr [] h r.2 := by
  unfold hb_172_19 at e
  replace e := (hs_ck_some e).2
  obtain rfl := Option.some.inj e
  exact (hs_fr.rf (K := []) (h := h))
theorem hz_172 {a1 : Int32} {a2 : Int32} {h : hs_H} {r : Int32 × hs_H} (e : hf_172 a1 a2 h = some r) : hs_fr [] h r.2 := by
  unfold hf_172 at e
  replace e := (hs_ck_some e).2
  rcases hz_if e with e | e
  · have fk := hz_b172_19  e
    exact (hs_fr.rf (K := []) (h := h)).tr fk
  · have fk := hz_b172_19  e
    exact (hs_fr.rf (K := []) (h := h)).tr fk
theorem hz_b173_4 {k4 : Int32 × Int32 × Int32 × hs_H → Option (Int32 × hs_H)} {x1 : Int32} {x2 : Int32} {x3 : Int32} {h : hs_H} {r : Int32 × hs_H} (hk4 : ∀ y1 y2 y3 h r, k4 (y1, y2, y3, h) = some r → hs_fr [] h r.2) (e : hb_173_4 k4 x1 x2 x3 h = some r) : hs_fr [] h r.2 := by
  unfold hb_173_4 at e
  rcases hz_if e with e | e
  · rcases hz_if e with e | e
    · obtain rfl := Option.some.inj e
      exact (hs_fr.rf (K := []) (h := h))
    · rcases hz_if e with e | e
      · obtain rfl := Option.some.inj e
        exact (hs_fr.rf (K := []) (h := h))
      · rcases hz_if e with e | e
        · obtain rfl := Option.some.inj e
          exact (hs_fr.rf (K := []) (h := h))
        · rcases hz_if e with e | e
          · replace e := (hs_ck_some e).2
            obtain rfl := Option.some.inj e
            exact (hs_fr.rf (K := []) (h := h))
          · rcases hz_if e with e | e
            · obtain rfl := Option.some.inj e
              exact (hs_fr.rf (K := []) (h := h))
            · rcases hz_if e with e | e
              · obtain rfl := Option.some.inj e
                exact (hs_fr.rf (K := []) (h := h))
              · obtain rfl := Option.some.inj e
                exact (hs_fr.rf (K := []) (h := h))
  · replace e := (hs_ck_some e).2
    obtain ⟨q10, eq10, e⟩ := hs_bind_some e
    have fq10 := (hs_fr.rf (K := []) (h := h)).tr ((hz_152 eq10).sub hs_sub_nil)
    have fk := hk4 _ _ _ _ _ e
    exact fq10.tr fk
theorem hz_173 {a1 : Int32} {h : hs_H} {r : Int32 × hs_H} (e : hf_173 a1 h = some r) : hs_fr [] h r.2 := by
  unfold hf_173 at e
  have fl := hz_lp4 (f := fun k s => hb_173_4 k s.1 s.2.1 s.2.2.1 s.2.2.2) (G := fun r => r.2) (fun k hk y1 y2 y3 h r e => hz_b173_4 hk e) e
  exact (hs_fr.rf (K := []) (h := h)).tr fl
theorem hz_b174_18 {s0 : Int32} {h : hs_H} {r : Int32 × hs_H} (e : hb_174_18 s0 h = some r) : hs_fr [] h r.2 := by
  unfold hb_174_18 at e
  obtain rfl := Option.some.inj e
  exact (hs_fr.rf (K := []) (h := h))
theorem hz_174 {a1 : Int32} {h : hs_H} {r : Int32 × hs_H} (e : hf_174 a1 h = some r) : hs_fr [] h r.2 := by
  unfold hf_174 at e
  obtain ⟨q1, eq1, e⟩ := hs_bind_some e
  have fq1 := (hs_fr.rf (K := []) (h := h)).tr ((hz_171 eq1).sub hs_sub_nil)
  rcases hz_if e with e | e
  · have fk := hz_b174_18  e
    exact fq1.tr fk
  · replace e := (hs_ck_some e).2
    have fk := hz_b174_18  e
    exact fq1.tr fk
theorem hz_b175_69 {s0 : Int32} {s1 : Int32} {h : hs_H} {r : hs_H} (e : hb_175_69 s0 s1 h = some r) : hs_fr [(44, some 0)] h r := by
  unfold hb_175_69 at e
  replace e := (hs_ck_some e).2
  obtain rfl := Option.some.inj e
  exact ((hs_fr.rf (K := [(44, some 0)]) (h := h)).put (.inl (.head _)))
theorem hz_b175_34 {x1 : Int32} {x2 : Int32} {x3 : Int32} {s0 : Int32} {s1 : Int32} {h : hs_H} {r : hs_H} (e : hb_175_34 x1 x2 x3 s0 s1 h = some r) : hs_fr [(44, some 0)] h r := by
  unfold hb_175_34 at e
  replace e := (hs_ck_some e).2
  rcases hz_if e with e | e
  · replace e := (hs_ck_some e).2
    have fk := hz_b175_69  e
    exact ((hs_fr.rf (K := [(44, some 0)]) (h := h)).put (.inl (.head _))).tr fk
  · replace e := (hs_ck_some e).2
    have fk := hz_b175_69  e
    exact ((hs_fr.rf (K := [(44, some 0)]) (h := h)).put (.inl (.head _))).tr fk
theorem hz_175 {a1 : Int32} {a2 : Int32} {a3 : Int32} {h : hs_H} {r : hs_H} (e : hf_175 a1 a2 a3 h = some r) : hs_fr [(44, some 0)] h r := by
  unfold hf_175 at e
  rcases hz_if e with e | e
  · replace e := (hs_ck_some e).2
    have fk := hz_b175_34  e
    exact (hs_fr.rf (K := [(44, some 0)]) (h := h)).tr fk
  · replace e := (hs_ck_some e).2
    have fk := hz_b175_34  e
    exact (hs_fr.rf (K := [(44, some 0)]) (h := h)).tr fk
theorem hz_b176_21 {h : hs_H} {r : Int32 × hs_H} (e : hb_176_21 h = some r) : hs_fr [(44, some 0)] h r.2 := by
  unfold hb_176_21 at e
  obtain rfl := Option.some.inj e
  exact (hs_fr.rf (K := [(44, some 0)]) (h := h))
theorem hz_176 {a1 : Int32} {a2 : Int32} {a3 : Int32} {h : hs_H} {r : Int32 × hs_H} (e : hf_176 a1 a2 a3 h = some r) : hs_fr [(44, some 0)] h r.2 := by
  unfold hf_176 at e
  obtain ⟨q1, eq1, e⟩ := hs_bind_some e
  have fq1 := (hs_fr.rf (K := [(44, some 0)]) (h := h)).tr ((hz_171 eq1).sub hs_sub_nil)
  rcases hz_if e with e | e
  · have fk := hz_b176_21  e
    exact fq1.tr fk
  · obtain ⟨q3, eq3, e⟩ := hs_bind_some e
    have fq3 := fq1.tr ((hz_171 eq3).sub hs_sub_nil)
    rcases hz_if e with e | e
    · have fk := hz_b176_21  e
      exact fq3.tr fk
    · rcases hz_if e with e | e
      · obtain ⟨q6, eq6, e⟩ := hs_bind_some e
        have fq6 := fq3.tr ((hz_172 eq6).sub hs_sub_nil)
        obtain ⟨q7, eq7, e⟩ := hs_bind_some e
        have fq7 := fq6.tr ((hz_151 eq7).sub hs_sub_nil)
        obtain ⟨q8, eq8, e⟩ := hs_bind_some e
        have fq8 := fq7.tr ((hz_175 eq8).sub (hs_sub_cons (.inl (.head _)) hs_sub_nil))
        obtain rfl := Option.some.inj e
        exact fq8
      · have fk := hz_b176_21  e
        exact fq3.tr fk
theorem hz_b177_16 {x1 : Int32} {h : hs_H} {r : Int32 × hs_H} (e : hb_177_16 x1 h = some r) : hs_fr [(44, some 0)] h r.2 := by
  unfold hb_177_16 at e
  replace e := (hs_ck_some e).2
  replace e := (hs_ck_some e).2
  obtain rfl := Option.some.inj e
  exact ((hs_fr.rf (K := [(44, some 0)]) (h := h)).put (.inl (.head _)))
theorem hz_177 {a1 : Int32} {h : hs_H} {r : Int32 × hs_H} (e : hf_177 a1 h = some r) : hs_fr [(44, some 0)] h r.2 := by
  unfold hf_177 at e
  rcases hz_if e with e | e
  · have fk := hz_b177_16  e
    exact (hs_fr.rf (K := [(44, some 0)]) (h := h)).tr fk
  · obtain ⟨q4, eq4, e⟩ := hs_bind_some e
    have fq4 := (hs_fr.rf (K := [(44, some 0)]) (h := h)).tr ((hz_171 eq4).sub hs_sub_nil)
    rcases hz_if e with e | e
    · have fk := hz_b177_16  e
      exact fq4.tr fk
    · obtain rfl := Option.some.inj e
      exact fq4
theorem hz_b178_107 {k37 : Int32 × hs_H → Option (hs_H)} {k45 : Int32 × Int32 × hs_H → Option (hs_H)} {k56 : Int32 × Int32 × Int32 × hs_H → Option (hs_H)} {x2 : Int32} {x3 : Int32} {x4 : Int32} {h : hs_H} {r : hs_H} (hk37 : ∀ y1 h r, k37 (y1, h) = some r → hs_fr [(48, some 0)] h r) (hk45 : ∀ y1 y2 h r, k45 (y1, y2, h) = some r → hs_fr [(48, some 0)] h r) (hk56 : ∀ y1 y2 y3 h r, k56 (y1, y2, y3, h) = some r → hs_fr [(48, some 0)] h r) (e : hb_178_107 k37 k45 k56 x2 x3 x4 h = some r) : hs_fr [(48, some 0)] h r := by
  unfold hb_178_107 at e
  have fk := hk56 _ _ _ _ _ e
  exact (hs_fr.rf (K := [(48, some 0)]) (h := h)).tr fk
theorem hz_b178_56 {k37 : Int32 × hs_H → Option (hs_H)} {k45 : Int32 × Int32 × hs_H → Option (hs_H)} {k56 : Int32 × Int32 × Int32 × hs_H → Option (hs_H)} {x2 : Int32} {x3 : Int32} {x4 : Int32} {h : hs_H} {r : hs_H} (hk37 : ∀ y1 h r, k37 (y1, h) = some r → hs_fr [(48, some 0)] h r) (hk45 : ∀ y1 y2 h r, k45 (y1, y2, h) = some r → hs_fr [(48, some 0)] h r) (hk56 : ∀ y1 y2 y3 h r, k56 (y1, y2, y3, h) = some r → hs_fr [(48, some 0)] h r) (e : hb_178_56 k37 k45 k56 x2 x3 x4 h = some r) : hs_fr [(48, some 0)] h r := by
  unfold hb_178_56 at e
  rcases hz_if e with e | e
  · have fk := hk45 _ _ _ _ e
    exact (hs_fr.rf (K := [(48, some 0)]) (h := h)).tr fk
  · replace e := (hs_ck_some e).2
    rcases hz_if e with e | e
    · have fk := hz_b178_107 hk37 hk45 hk56 e
      exact (hs_fr.rf (K := [(48, some 0)]) (h := h)).tr fk
    · obtain ⟨q7, eq7, e⟩ := hs_bind_some e
      have fq7 := (hs_fr.rf (K := [(48, some 0)]) (h := h)).tr ((hz_172 eq7).sub hs_sub_nil)
      rcases hz_if e with e | e
      · have fk := hz_b178_107 hk37 hk45 hk56 e
        exact fq7.tr fk
      · replace e := (hs_ck_some e).2
        rcases hz_if e with e | e
        · have fk := hz_b178_107 hk37 hk45 hk56 e
          exact fq7.tr fk
        · replace e := (hs_ck_some e).2
          have fk := hz_b178_107 hk37 hk45 hk56 e
          exact (fq7.put (.inl (.head _))).tr fk
theorem hz_b178_45 {k37 : Int32 × hs_H → Option (hs_H)} {k45 : Int32 × Int32 × hs_H → Option (hs_H)} {x2 : Int32} {x3 : Int32} {h : hs_H} {r : hs_H} (hk37 : ∀ y1 h r, k37 (y1, h) = some r → hs_fr [(48, some 0)] h r) (hk45 : ∀ y1 y2 h r, k45 (y1, y2, h) = some r → hs_fr [(48, some 0)] h r) (e : hb_178_45 k37 k45 x2 x3 h = some r) : hs_fr [(48, some 0)] h r := by
  unfold hb_178_45 at e
  rcases hz_if e with e | e
  · have fk := hk37 _ _ _ e
    exact (hs_fr.rf (K := [(48, some 0)]) (h := h)).tr fk
  · have fl := hz_lp4 (f := fun k s => hb_178_56 k37 k45 k s.1 s.2.1 s.2.2.1 s.2.2.2) (G := fun r => r) (fun k hk y1 y2 y3 h r e => hz_b178_56 hk37 hk45 hk e) e
    exact (hs_fr.rf (K := [(48, some 0)]) (h := h)).tr fl
theorem hz_b178_37 {k37 : Int32 × hs_H → Option (hs_H)} {x2 : Int32} {h : hs_H} {r : hs_H} (hk37 : ∀ y1 h r, k37 (y1, h) = some r → hs_fr [(48, some 0)] h r) (e : hb_178_37 k37 x2 h = some r) : hs_fr [(48, some 0)] h r := by
  unfold hb_178_37 at e
  rcases hz_if e with e | e
  · obtain rfl := Option.some.inj e
    exact (hs_fr.rf (K := [(48, some 0)]) (h := h))
  · have fl := hz_lp3 (f := fun k s => hb_178_45 k37 k s.1 s.2.1 s.2.2) (G := fun r => r) (fun k hk y1 y2 h r e => hz_b178_45 hk37 hk e) e
    exact (hs_fr.rf (K := [(48, some 0)]) (h := h)).tr fl
theorem hz_b178_28 {k2 : Int32 × Int32 × hs_H → Option (hs_H)} {x1 : Int32} {x2 : Int32} {s0 : Int32} {s1 : Int32} {h : hs_H} {r : hs_H} (hk2 : ∀ y1 y2 h r, k2 (y1, y2, h) = some r → hs_fr [(48, some 0)] h r) (e : hb_178_28 k2 x1 x2 s0 s1 h = some r) : hs_fr [(48, some 0)] h r := by
  unfold hb_178_28 at e
  replace e := (hs_ck_some e).2
  have fk := hk2 _ _ _ _ e
  exact ((hs_fr.rf (K := [(48, some 0)]) (h := h)).put (.inl (.head _))).tr fk
theorem hz_b178_2 {k2 : Int32 × Int32 × hs_H → Option (hs_H)} {x1 : Int32} {x2 : Int32} {h : hs_H} {r : hs_H} (hk2 : ∀ y1 y2 h r, k2 (y1, y2, h) = some r → hs_fr [(48, some 0)] h r) (e : hb_178_2 k2 x1 x2 h = some r) : hs_fr [(48, some 0)] h r := by
  unfold hb_178_2 at e
  rcases hz_if e with e | e
  · have fl := hz_lp2 (f := fun k s => hb_178_37 k s.1 s.2) (G := fun r => r) (fun k hk y1 h r e => hz_b178_37 hk e) e
    exact (hs_fr.rf (K := [(48, some 0)]) (h := h)).tr fl
  · rcases hz_if e with e | e
    · have fk := hz_b178_28 hk2 e
      exact (hs_fr.rf (K := [(48, some 0)]) (h := h)).tr fk
    · have fk := hz_b178_28 hk2 e
      exact (hs_fr.rf (K := [(48, some 0)]) (h := h)).tr fk
theorem hz_178 {a1 : Int32} {h : hs_H} {r : hs_H} (e : hf_178 a1 h = some r) : hs_fr [(48, some 0)] h r := by
  unfold hf_178 at e
  have fl := hz_lp3 (f := fun k s => hb_178_2 k s.1 s.2.1 s.2.2) (G := fun r => r) (fun k hk y1 y2 h r e => hz_b178_2 hk e) e
  exact (hs_fr.rf (K := [(48, some 0)]) (h := h)).tr fl
theorem hz_b179_16 {h : hs_H} {r : Int32 × hs_H} (e : hb_179_16 h = some r) : hs_fr [(48, some 0)] h r.2 := by
  unfold hb_179_16 at e
  obtain rfl := Option.some.inj e
  exact (hs_fr.rf (K := [(48, some 0)]) (h := h))
theorem hz_b179_47 {s0 : Int32} {h : hs_H} {r : Int32 × hs_H} (e : hb_179_47 s0 h = some r) : hs_fr [(48, some 0)] h r.2 := by
  unfold hb_179_47 at e
  obtain rfl := Option.some.inj e
  exact (hs_fr.rf (K := [(48, some 0)]) (h := h))
theorem hz_179 {a1 : Int32} {a2 : Int32} {h : hs_H} {r : Int32 × hs_H} (e : hf_179 a1 a2 h = some r) : hs_fr [(48, some 0)] h r.2 := by
  unfold hf_179 at e
  obtain ⟨q1, eq1, e⟩ := hs_bind_some e
  have fq1 := (hs_fr.rf (K := [(48, some 0)]) (h := h)).tr ((hz_171 eq1).sub hs_sub_nil)
  rcases hz_if e with e | e
  · have fk := hz_b179_16  e
    exact fq1.tr fk
  · obtain ⟨q3, eq3, e⟩ := hs_bind_some e
    have fq3 := fq1.tr ((hz_171 eq3).sub hs_sub_nil)
    rcases hz_if e with e | e
    · obtain ⟨q5, eq5, e⟩ := hs_bind_some e
      have fq5 := fq3.tr ((hz_178 eq5).sub (hs_sub_cons (.inl (.head _)) hs_sub_nil))
      replace e := (hs_ck_some e).2
      rcases hz_if e with e | e
      · replace e := (hs_ck_some e).2
        have fk := hz_b179_47  e
        exact fq5.tr fk
      · have fk := hz_b179_47  e
        exact fq5.tr fk
    · have fk := hz_b179_16  e
      exact fq3.tr fk
theorem hz_b180_17 {s0 : Int32} {h : hs_H} {r : Int32 × hs_H} (e : hb_180_17 s0 h = some r) : hs_fr [] h r.2 := by
  unfold hb_180_17 at e
  replace e := (hs_ck_some e).2
  obtain rfl := Option.some.inj e
  exact (hs_fr.rf (K := []) (h := h))
theorem hz_180 {a1 : Int32} {h : hs_H} {r : Int32 × hs_H} (e : hf_180 a1 h = some r) : hs_fr [] h r.2 := by
  unfold hf_180 at e
  rcases hz_if e with e | e
  · have fk := hz_b180_17  e
    exact (hs_fr.rf (K := []) (h := h)).tr fk
  · have fk := hz_b180_17  e
    exact (hs_fr.rf (K := []) (h := h)).tr fk
theorem hz_b181_27 {s0 : Int32} {h : hs_H} {r : Int32 × hs_H} (e : hb_181_27 s0 h = some r) : hs_fr [] h r.2 := by
  unfold hb_181_27 at e
  replace e := (hs_ck_some e).2
  obtain rfl := Option.some.inj e
  exact (hs_fr.rf (K := []) (h := h))
theorem hz_181 {a1 : Int32} {a2 : Int32} {h : hs_H} {r : Int32 × hs_H} (e : hf_181 a1 a2 h = some r) : hs_fr [] h r.2 := by
  unfold hf_181 at e
  rcases hz_if e with e | e
  · obtain ⟨q2, eq2, e⟩ := hs_bind_some e
    have fq2 := (hs_fr.rf (K := []) (h := h)).tr ((hz_172 eq2).sub hs_sub_nil)
    have fk := hz_b181_27  e
    exact fq2.tr fk
  · rcases hz_if e with e | e
    · have fk := hz_b181_27  e
      exact (hs_fr.rf (K := []) (h := h)).tr fk
    · have fk := hz_b181_27  e
      exact (hs_fr.rf (K := []) (h := h)).tr fk
theorem hz_b182_45 {k12 : Int32 × Int32 × hs_H → Option (Int32 × hs_H)} {x1 : Int32} {x2 : Int32} {s0 : Int32} {s1 : Int32} {h : hs_H} {r : Int32 × hs_H} (hk12 : ∀ y1 y2 h r, k12 (y1, y2, h) = some r → hs_fr [(44, some 0)] h r.2) (e : hb_182_45 k12 x1 x2 s0 s1 h = some r) : hs_fr [(44, some 0)] h r.2 := by
  unfold hb_182_45 at e
  replace e := (hs_ck_some e).2
  have fk := hk12 _ _ _ _ e
  exact ((hs_fr.rf (K := [(44, some 0)]) (h := h)).put (.inl (.head _))).tr fk
theorem hz_b182_44 {k12 : Int32 × Int32 × hs_H → Option (Int32 × hs_H)} {x1 : Int32} {x2 : Int32} {s0 : Int32} {h : hs_H} {r : Int32 × hs_H} (hk12 : ∀ y1 y2 h r, k12 (y1, y2, h) = some r → hs_fr [(44, some 0)] h r.2) (e : hb_182_44 k12 x1 x2 s0 h = some r) : hs_fr [(44, some 0)] h r.2 := by
  unfold hb_182_44 at e
  have fk := hz_b182_45 hk12 e
  exact (hs_fr.rf (K := [(44, some 0)]) (h := h)).tr fk
theorem hz_b182_12 {k12 : Int32 × Int32 × hs_H → Option (Int32 × hs_H)} {x1 : Int32} {x2 : Int32} {h : hs_H} {r : Int32 × hs_H} (hk12 : ∀ y1 y2 h r, k12 (y1, y2, h) = some r → hs_fr [(44, some 0)] h r.2) (e : hb_182_12 k12 x1 x2 h = some r) : hs_fr [(44, some 0)] h r.2 := by
  unfold hb_182_12 at e
  rcases hz_if e with e | e
  · replace e := (hs_ck_some e).2
    replace e := (hs_ck_some e).2
    replace e := (hs_ck_some e).2
    obtain rfl := Option.some.inj e
    exact (((hs_fr.rf (K := [(44, some 0)]) (h := h)).put (.inl (.head _))).put (.inl (.head _)))
  · rcases hz_if e with e | e
    · have fk := hz_b182_44 hk12 e
      exact (hs_fr.rf (K := [(44, some 0)]) (h := h)).tr fk
    · obtain ⟨q9, eq9, e⟩ := hs_bind_some e
      have fq9 := (hs_fr.rf (K := [(44, some 0)]) (h := h)).tr ((hz_180 eq9).sub hs_sub_nil)
      rcases hz_if e with e | e
      · have fk := hz_b182_44 hk12 e
        exact fq9.tr fk
      · have fk := hz_b182_45 hk12 e
        exact fq9.tr fk
theorem hz_182 {a1 : Int32} {h : hs_H} {r : Int32 × hs_H} (e : hf_182 a1 h = some r) : hs_fr [(44, some 0)] h r.2 := by
  unfold hf_182 at e
  obtain ⟨q1, eq1, e⟩ := hs_bind_some e
  have fq1 := (hs_fr.rf (K := [(44, some 0)]) (h := h)).tr ((hz_171 eq1).sub hs_sub_nil)
  rcases hz_if e with e | e
  · have fl := hz_lp3 (f := fun k s => hb_182_12 k s.1 s.2.1 s.2.2) (G := fun r => r.2) (fun k hk y1 y2 h r e => hz_b182_12 hk e) e
    exact fq1.tr fl
  · obtain rfl := Option.some.inj e
    exact fq1
theorem hz_b183_56 {s0 : Int32} {h : hs_H} {r : Int32 × hs_H} (e : hb_183_56 s0 h = some r) : hs_fr [] h r.2 := by
  unfold hb_183_56 at e
  obtain rfl := Option.some.inj e
  exact (hs_fr.rf (K := []) (h := h))
theorem hz_b183_28 {x2 : Int32} {s0 : Int32} {h : hs_H} {r : Int32 × hs_H} (e : hb_183_28 x2 s0 h = some r) : hs_fr [] h r.2 := by
  unfold hb_183_28 at e
  obtain ⟨q3, eq3, e⟩ := hs_bind_some e
  have fq3 := (hs_fr.rf (K := []) (h := h)).tr ((hz_180 eq3).sub hs_sub_nil)
  rcases hz_if e with e | e
  · rcases hz_if e with e | e
    · have fk := hz_b183_56  e
      exact fq3.tr fk
    · have fk := hz_b183_56  e
      exact fq3.tr fk
  · have fk := hz_b183_56  e
    exact fq3.tr fk
theorem hz_b183_11 {x2 : Int32} {x3 : Int32} {s0 : Int32} {h : hs_H} {r : Int32 × hs_H} (e : hb_183_11 x2 x3 s0 h = some r) : hs_fr [] h r.2 := by
  unfold hb_183_11 at e
  rcases hz_if e with e | e
  · have fk := hz_b183_28  e
    exact (hs_fr.rf (K := []) (h := h)).tr fk
  · have fk := hz_b183_28  e
    exact (hs_fr.rf (K := []) (h := h)).tr fk
theorem hz_183 {a1 : Int32} {a2 : Int32} {a3 : Int32} {h : hs_H} {r : Int32 × hs_H} (e : hf_183 a1 a2 a3 h = some r) : hs_fr [] h r.2 := by
  unfold hf_183 at e
  rcases hz_if e with e | e
  · have fk := hz_b183_11  e
    exact (hs_fr.rf (K := []) (h := h)).tr fk
  · have fk := hz_b183_11  e
    exact (hs_fr.rf (K := []) (h := h)).tr fk
theorem hz_b184_45 {k45 : Int32 × Int32 × hs_H → Option (Int32 × hs_H)} {x1 : Int32} {x2 : Int32} {h : hs_H} {r : Int32 × hs_H} (hk45 : ∀ y1 y2 h r, k45 (y1, y2, h) = some r → hs_fr [(44, some 0)] h r.2) (e : hb_184_45 k45 x1 x2 h = some r) : hs_fr [(44, some 0)] h r.2 := by
  unfold hb_184_45 at e
  rcases hz_if e with e | e
  · replace e := (hs_ck_some e).2
    replace e := (hs_ck_some e).2
    replace e := (hs_ck_some e).2
    replace e := (hs_ck_some e).2
    obtain rfl := Option.some.inj e
    exact (((hs_fr.rf (K := [(44, some 0)]) (h := h)).put (.inl (.head _))).put (.inl (.head _)))
  · replace e := (hs_ck_some e).2
    obtain ⟨q14, eq14, e⟩ := hs_bind_some e
    have fq14 := (hs_fr.rf (K := [(44, some 0)]) (h := h)).tr ((hz_183 eq14).sub hs_sub_nil)
    replace e := (hs_ck_some e).2
    have fk := hk45 _ _ _ _ e
    exact (fq14.put (.inl (.head _))).tr fk
theorem hz_184 {a1 : Int32} {h : hs_H} {r : Int32 × hs_H} (e : hf_184 a1 h = some r) : hs_fr [(44, some 0)] h r.2 := by
  unfold hf_184 at e
  obtain ⟨q1, eq1, e⟩ := hs_bind_some e
  have fq1 := (hs_fr.rf (K := [(44, some 0)]) (h := h)).tr ((hz_171 eq1).sub hs_sub_nil)
  rcases hz_if e with e | e
  · replace e := (hs_ck_some e).2
    rcases hz_if e with e | e
    · replace e := (hs_ck_some e).2
      obtain ⟨q6, eq6, e⟩ := hs_bind_some e
      have fq6 := fq1.tr ((hz_181 eq6).sub hs_sub_nil)
      rcases hz_if e with e | e
      · have fl := hz_lp3 (f := fun k s => hb_184_45 k s.1 s.2.1 s.2.2) (G := fun r => r.2) (fun k hk y1 y2 h r e => hz_b184_45 hk e) e
        exact fq6.tr fl
      · obtain rfl := Option.some.inj e
        exact fq6
    · obtain rfl := Option.some.inj e
      exact fq1
  · obtain rfl := Option.some.inj e
    exact fq1
theorem hz_b185_21 {s0 : Int32} {h : hs_H} {r : Int32 × hs_H} (e : hb_185_21 s0 h = some r) : hs_fr [] h r.2 := by
  unfold hb_185_21 at e
  obtain rfl := Option.some.inj e
  exact (hs_fr.rf (K := []) (h := h))
theorem hz_185 {a1 : Int32} {h : hs_H} {r : Int32 × hs_H} (e : hf_185 a1 h = some r) : hs_fr [] h r.2 := by
  unfold hf_185 at e
  obtain ⟨q1, eq1, e⟩ := hs_bind_some e
  have fq1 := (hs_fr.rf (K := []) (h := h)).tr ((hz_171 eq1).sub hs_sub_nil)
  rcases hz_if e with e | e
  · have fk := hz_b185_21  e
    exact fq1.tr fk
  · replace e := (hs_ck_some e).2
    have fk := hz_b185_21  e
    exact fq1.tr fk
theorem hz_b186_134 {s0 : Int32} {h : hs_H} {r : Int32 × hs_H} (e : hb_186_134 s0 h = some r) : hs_fr [] h r.2 := by
  unfold hb_186_134 at e
  obtain rfl := Option.some.inj e
  exact (hs_fr.rf (K := []) (h := h))
theorem hz_b186_79 {k11 : Int32 × Int32 × Int32 × Int32 × Int32 × hs_H → Option (Int32 × hs_H)} {x1 : Int32} {x2 : Int32} {x3 : Int32} {x4 : Int32} {x5 : Int32} {h : hs_H} {r : Int32 × hs_H} (hk11 : ∀ y1 y2 y3 y4 y5 h r, k11 (y1, y2, y3, y4, y5, h) = some r → hs_fr [] h r.2) (e : hb_186_79 k11 x1 x2 x3 x4 x5 h = some r) : hs_fr [] h r.2 := by
  unfold hb_186_79 at e
  have fk := hk11 _ _ _ _ _ _ _ e
  exact (hs_fr.rf (K := []) (h := h)).tr fk
theorem hz_b186_11 {k11 : Int32 × Int32 × Int32 × Int32 × Int32 × hs_H → Option (Int32 × hs_H)} {x1 : Int32} {x2 : Int32} {x3 : Int32} {x4 : Int32} {x5 : Int32} {h : hs_H} {r : Int32 × hs_H} (hk11 : ∀ y1 y2 y3 y4 y5 h r, k11 (y1, y2, y3, y4, y5, h) = some r → hs_fr [] h r.2) (e : hb_186_11 k11 x1 x2 x3 x4 x5 h = some r) : hs_fr [] h r.2 := by
  unfold hb_186_11 at e
  rcases hz_if e with e | e
  · rcases hz_if e with e | e
    · rcases hz_if e with e | e
      · rcases hz_if e with e | e
        · rcases hz_if e with e | e
          · have fk := hz_b186_134  e
            exact (hs_fr.rf (K := []) (h := h)).tr fk
          · have fk := hz_b186_134  e
            exact (hs_fr.rf (K := []) (h := h)).tr fk
        · have fk := hz_b186_134  e
          exact (hs_fr.rf (K := []) (h := h)).tr fk
      · replace e := (hs_ck_some e).2
        have fk := hz_b186_134  e
        exact (hs_fr.rf (K := []) (h := h)).tr fk
    · replace e := (hs_ck_some e).2
      have fk := hz_b186_134  e
      exact (hs_fr.rf (K := []) (h := h)).tr fk
  · replace e := (hs_ck_some e).2
    replace e := (hs_ck_some e).2
    rcases hz_if e with e | e
    · have fk := hz_b186_79 hk11 e
      exact (hs_fr.rf (K := []) (h := h)).tr fk
    · replace e := (hs_ck_some e).2
      obtain ⟨q12, eq12, e⟩ := hs_bind_some e
      have fq12 := (hs_fr.rf (K := []) (h := h)).tr ((hz_172 eq12).sub hs_sub_nil)
      rcases hz_if e with e | e
      · have fk := hz_b186_79 hk11 e
        exact fq12.tr fk
      · rcases hz_if e with e | e
        · have fk := hz_b186_79 hk11 e
          exact fq12.tr fk
        · have fk := hz_b186_79 hk11 e
          exact fq12.tr fk
theorem hz_186 {a1 : Int32} {h : hs_H} {r : Int32 × hs_H} (e : hf_186 a1 h = some r) : hs_fr [] h r.2 := by
  unfold hf_186 at e
  have fl := hz_lp6 (f := fun k s => hb_186_11 k s.1 s.2.1 s.2.2.1 s.2.2.2.1 s.2.2.2.2.1 s.2.2.2.2.2) (G := fun r => r.2) (fun k hk y1 y2 y3 y4 y5 h r e => hz_b186_11 hk e) e
  exact (hs_fr.rf (K := []) (h := h)).tr fl
theorem hz_b187_32 {h : hs_H} {r : Int32 × hs_H} (e : hb_187_32 h = some r) : hs_fr [(44, some 0)] h r.2 := by
  unfold hb_187_32 at e
  obtain rfl := Option.some.inj e
  exact (hs_fr.rf (K := [(44, some 0)]) (h := h))
theorem hz_187 {a1 : Int32} {a2 : Int32} {a3 : Int32} {h : hs_H} {r : Int32 × hs_H} (e : hf_187 a1 a2 a3 h = some r) : hs_fr [(44, some 0)] h r.2 := by
  unfold hf_187 at e
  obtain ⟨q1, eq1, e⟩ := hs_bind_some e
  have fq1 := (hs_fr.rf (K := [(44, some 0)]) (h := h)).tr ((hz_150 eq1).sub hs_sub_nil)
  rcases hz_if e with e | e
  · have fk := hz_b187_32  e
    exact fq1.tr fk
  · obtain ⟨q3, eq3, e⟩ := hs_bind_some e
    have fq3 := fq1.tr ((hz_171 eq3).sub hs_sub_nil)
    rcases hz_if e with e | e
    · have fk := hz_b187_32  e
      exact fq3.tr fk
    · obtain ⟨q5, eq5, e⟩ := hs_bind_some e
      have fq5 := fq3.tr ((hz_150 eq5).sub hs_sub_nil)
      rcases hz_if e with e | e
      · replace e := (hs_ck_some e).2
        rcases hz_if e with e | e
        · replace e := (hs_ck_some e).2
          replace e := (hs_ck_some e).2
          replace e := (hs_ck_some e).2
          replace e := (hs_ck_some e).2
          replace e := (hs_ck_some e).2
          replace e := (hs_ck_some e).2
          replace e := (hs_ck_some e).2
          obtain rfl := Option.some.inj e
          exact ((((fq5.put (.inl (.head _))).put (.inl (.head _))).put (.inl (.head _))).put (.inl (.head _)))
        · obtain rfl := Option.some.inj e
          exact fq5
      · have fk := hz_b187_32  e
        exact fq5.tr fk
theorem hz_188 {a1 : Int32} {h : hs_H} {r : Int32 × hs_H} (e : hf_188 a1 h = some r) : hs_fr [(44, some 0)] h r.2 := by
  unfold hf_188 at e
  replace e := (hs_ck_some e).2
  obtain ⟨q2, eq2, e⟩ := hs_bind_some e
  have fq2 := (hs_fr.rf (K := [(44, some 0)]) (h := h)).tr ((hz_150 eq2).sub hs_sub_nil)
  rcases hz_if e with e | e
  · replace e := (hs_ck_some e).2
    replace e := (hs_ck_some e).2
    obtain rfl := Option.some.inj e
    exact (fq2.put (.inl (.head _)))
  · obtain rfl := Option.some.inj e
    exact fq2
theorem hz_b189_73 {k9 : Int32 × Int32 × Int32 × hs_H → Option (hs_H)} {x1 : Int32} {x2 : Int32} {x3 : Int32} {s0 : Int32} {s1 : Int32} {h : hs_H} {r : hs_H} (hk9 : ∀ y1 y2 y3 h r, k9 (y1, y2, y3, h) = some r → hs_fr [(49, some 0), (50, some 0)] h r) (e : hb_189_73 k9 x1 x2 x3 s0 s1 h = some r) : hs_fr [(49, some 0), (50, some 0)] h r := by
  unfold hb_189_73 at e
  replace e := (hs_ck_some e).2
  have fk := hk9 _ _ _ _ _ e
  exact ((hs_fr.rf (K := [(49, some 0), (50, some 0)]) (h := h)).put (.inl (.tail _ (.head _)))).tr fk
theorem hz_b189_72 {k9 : Int32 × Int32 × Int32 × hs_H → Option (hs_H)} {x1 : Int32} {x2 : Int32} {x3 : Int32} {s0 : Int32} {h : hs_H} {r : hs_H} (hk9 : ∀ y1 y2 y3 h r, k9 (y1, y2, y3, h) = some r → hs_fr [(49, some 0), (50, some 0)] h r) (e : hb_189_72 k9 x1 x2 x3 s0 h = some r) : hs_fr [(49, some 0), (50, some 0)] h r := by
  unfold hb_189_72 at e
  have fk := hz_b189_73 hk9 e
  exact (hs_fr.rf (K := [(49, some 0), (50, some 0)]) (h := h)).tr fk
theorem hz_b189_9 {k9 : Int32 × Int32 × Int32 × hs_H → Option (hs_H)} {x1 : Int32} {x2 : Int32} {x3 : Int32} {h : hs_H} {r : hs_H} (hk9 : ∀ y1 y2 y3 h r, k9 (y1, y2, y3, h) = some r → hs_fr [(49, some 0), (50, some 0)] h r) (e : hb_189_9 k9 x1 x2 x3 h = some r) : hs_fr [(49, some 0), (50, some 0)] h r := by
  unfold hb_189_9 at e
  rcases hz_if e with e | e
  · obtain rfl := Option.some.inj e
    exact (hs_fr.rf (K := [(49, some 0), (50, some 0)]) (h := h))
  · rcases hz_if e with e | e
    · rcases hz_if e with e | e
      · have fk := hz_b189_72 hk9 e
        exact (hs_fr.rf (K := [(49, some 0), (50, some 0)]) (h := h)).tr fk
      · obtain ⟨q6, eq6, e⟩ := hs_bind_some e
        have fq6 := (hs_fr.rf (K := [(49, some 0), (50, some 0)]) (h := h)).tr ((hz_180 eq6).sub hs_sub_nil)
        rcases hz_if e with e | e
        · have fk := hz_b189_72 hk9 e
          exact fq6.tr fk
        · have fk := hz_b189_73 hk9 e
          exact fq6.tr fk
    · replace e := (hs_ck_some e).2
      obtain ⟨q9, eq9, e⟩ := hs_bind_some e
      have fq9 := (hs_fr.rf (K := [(49, some 0), (50, some 0)]) (h := h)).tr ((hz_183 eq9).sub hs_sub_nil)
      have fk := hz_b189_73 hk9 e
      exact fq9.tr fk
theorem hz_189 {a1 : Int32} {a2 : Int32} {h : hs_H} {r : hs_H} (e : hf_189 a1 a2 h = some r) : hs_fr [(49, some 0), (50, some 0)] h r := by
  unfold hf_189 at e
  replace e := (hs_ck_some e).2
  have fl := hz_lp4 (f := fun k s => hb_189_9 k s.1 s.2.1 s.2.2.1 s.2.2.2) (G := fun r => r) (fun k hk y1 y2 y3 h r e => hz_b189_9 hk e) e
  exact ((hs_fr.rf (K := [(49, some 0), (50, some 0)]) (h := h)).put (.inl (.head _))).tr fl
theorem hz_b190_71 {k5 : Int32 × Int32 × Int32 × Int32 × hs_H → Option (Int32 × hs_H)} {x1 : Int32} {x2 : Int32} {x4 : Int32} {s0 : Int32} {h : hs_H} {r : Int32 × hs_H} (hk5 : ∀ y1 y2 y3 y4 h r, k5 (y1, y2, y3, y4, h) = some r → hs_fr [] h r.2) (e : hb_190_71 k5 x1 x2 x4 s0 h = some r) : hs_fr [] h r.2 := by
  unfold hb_190_71 at e
  have fk := hk5 _ _ _ _ _ _ e
  exact (hs_fr.rf (K := []) (h := h)).tr fk
theorem hz_b190_70 {k5 : Int32 × Int32 × Int32 × Int32 × hs_H → Option (Int32 × hs_H)} {x1 : Int32} {x2 : Int32} {x4 : Int32} {h : hs_H} {r : Int32 × hs_H} (hk5 : ∀ y1 y2 y3 y4 h r, k5 (y1, y2, y3, y4, h) = some r → hs_fr [] h r.2) (e : hb_190_70 k5 x1 x2 x4 h = some r) : hs_fr [] h r.2 := by
  unfold hb_190_70 at e
  have fk := hz_b190_71 hk5 e
  exact (hs_fr.rf (K := []) (h := h)).tr fk
theorem hz_b190_66 {k5 : Int32 × Int32 × Int32 × Int32 × hs_H → Option (Int32 × hs_H)} {x1 : Int32} {x2 : Int32} {x4 : Int32} {h : hs_H} {r : Int32 × hs_H} (hk5 : ∀ y1 y2 y3 y4 h r, k5 (y1, y2, y3, y4, h) = some r → hs_fr [] h r.2) (e : hb_190_66 k5 x1 x2 x4 h = some r) : hs_fr [] h r.2 := by
  unfold hb_190_66 at e
  have fk := hz_b190_71 hk5 e
  exact (hs_fr.rf (K := []) (h := h)).tr fk
theorem hz_b190_5 {k5 : Int32 × Int32 × Int32 × Int32 × hs_H → Option (Int32 × hs_H)} {x1 : Int32} {x2 : Int32} {x3 : Int32} {x4 : Int32} {h : hs_H} {r : Int32 × hs_H} (hk5 : ∀ y1 y2 y3 y4 h r, k5 (y1, y2, y3, y4, h) = some r → hs_fr [] h r.2) (e : hb_190_5 k5 x1 x2 x3 x4 h = some r) : hs_fr [] h r.2 := by
  unfold hb_190_5 at e
  rcases hz_if e with e | e
  · replace e := (hs_ck_some e).2
    obtain rfl := Option.some.inj e
    exact (hs_fr.rf (K := []) (h := h))
  · rcases hz_if e with e | e
    · have fk := hz_b190_70 hk5 e
      exact (hs_fr.rf (K := []) (h := h)).tr fk
    · replace e := (hs_ck_some e).2
      rcases hz_if e with e | e
      · have fk := hz_b190_66 hk5 e
        exact (hs_fr.rf (K := []) (h := h)).tr fk
      · replace e := (hs_ck_some e).2
        replace e := (hs_ck_some e).2
        replace e := (hs_ck_some e).2
        rcases hz_if e with e | e
        · have fk := hz_b190_70 hk5 e
          exact (hs_fr.rf (K := []) (h := h)).tr fk
        · have fk := hz_b190_66 hk5 e
          exact (hs_fr.rf (K := []) (h := h)).tr fk
theorem hz_190 {a1 : Int32} {a2 : Int32} {h : hs_H} {r : Int32 × hs_H} (e : hf_190 a1 a2 h = some r) : hs_fr [] h r.2 := by
  unfold hf_190 at e
  have fl := hz_lp5 (f := fun k s => hb_190_5 k s.1 s.2.1 s.2.2.1 s.2.2.2.1 s.2.2.2.2) (G := fun r => r.2) (fun k hk y1 y2 y3 y4 h r e => hz_b190_5 hk e) e
  exact (hs_fr.rf (K := []) (h := h)).tr fl
theorem hz_b191_28 {s0 : Int32} {h : hs_H} {r : Int32 × hs_H} (e : hb_191_28 s0 h = some r) : hs_fr [] h r.2 := by
  unfold hb_191_28 at e
  replace e := (hs_ck_some e).2
  obtain rfl := Option.some.inj e
  exact (hs_fr.rf (K := []) (h := h))
theorem hz_b191_23 {h : hs_H} {r : Int32 × hs_H} (e : hb_191_23 h = some r) : hs_fr [] h r.2 := by
  unfold hb_191_23 at e
  have fk := hz_b191_28  e
  exact (hs_fr.rf (K := []) (h := h)).tr fk
theorem hz_191 {a1 : Int32} {h : hs_H} {r : Int32 × hs_H} (e : hf_191 a1 h = some r) : hs_fr [] h r.2 := by
  unfold hf_191 at e
  replace e := (hs_ck_some e).2
  rcases hz_if e with e | e
  · have fk := hz_b191_23  e
    exact (hs_fr.rf (K := []) (h := h)).tr fk
  · replace e := (hs_ck_some e).2
    rcases hz_if e with e | e
    · have fk := hz_b191_28  e
      exact (hs_fr.rf (K := []) (h := h)).tr fk
    · have fk := hz_b191_23  e
      exact (hs_fr.rf (K := []) (h := h)).tr fk
theorem hz_b192_51 {k2 : Int32 × Int32 × hs_H → Option (hs_H)} {x1 : Int32} {x2 : Int32} {s0 : Int32} {s1 : Int32} {h : hs_H} {r : hs_H} (hk2 : ∀ y1 y2 h r, k2 (y1, y2, h) = some r → hs_fr [(12, some 0), (51, some 0), (52, some 0)] h r) (e : hb_192_51 k2 x1 x2 s0 s1 h = some r) : hs_fr [(12, some 0), (51, some 0), (52, some 0)] h r := by
  unfold hb_192_51 at e
  replace e := (hs_ck_some e).2
  have fk := hk2 _ _ _ _ e
  exact ((hs_fr.rf (K := [(12, some 0), (51, some 0), (52, some 0)]) (h := h)).put (.inl (.tail _ (.tail _ (.head _))))).tr fk
theorem hz_b192_2 {k2 : Int32 × Int32 × hs_H → Option (hs_H)} {x1 : Int32} {x2 : Int32} {h : hs_H} {r : hs_H} (hk2 : ∀ y1 y2 h r, k2 (y1, y2, h) = some r → hs_fr [(12, some 0), (51, some 0), (52, some 0)] h r) (e : hb_192_2 k2 x1 x2 h = some r) : hs_fr [(12, some 0), (51, some 0), (52, some 0)] h r := by
  unfold hb_192_2 at e
  rcases hz_if e with e | e
  · obtain rfl := Option.some.inj e
    exact ((hs_fr.rf (K := [(12, some 0), (51, some 0), (52, some 0)]) (h := h)).put (.inl (.head _)))
  · replace e := (hs_ck_some e).2
    replace e := (hs_ck_some e).2
    replace e := (hs_ck_some e).2
    rcases hz_if e with e | e
    · replace e := (hs_ck_some e).2
      have fk := hz_b192_51 hk2 e
      exact ((hs_fr.rf (K := [(12, some 0), (51, some 0), (52, some 0)]) (h := h)).put (.inl (.tail _ (.head _)))).tr fk
    · replace e := (hs_ck_some e).2
      have fk := hz_b192_51 hk2 e
      exact ((hs_fr.rf (K := [(12, some 0), (51, some 0), (52, some 0)]) (h := h)).put (.inl (.tail _ (.head _)))).tr fk
theorem hz_192 {a1 : Int32} {h : hs_H} {r : hs_H} (e : hf_192 a1 h = some r) : hs_fr [(12, some 0), (51, some 0), (52, some 0)] h r := by
  unfold hf_192 at e
  have fl := hz_lp3 (f := fun k s => hb_192_2 k s.1 s.2.1 s.2.2) (G := fun r => r) (fun k hk y1 y2 h r e => hz_b192_2 hk e) e
  exact (hs_fr.rf (K := [(12, some 0), (51, some 0), (52, some 0)]) (h := h)).tr fl
