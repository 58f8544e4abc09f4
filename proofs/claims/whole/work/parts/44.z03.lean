/-! Frames: which kinds and instances a function writes; by gen7.py. -/
theorem hz_b49_5 {o : Nat} {k5 : Int32 × Int32 × Int32 × Int32 × hs_H → Option (Int32 × hs_H)} {x1 : Int32} {x2 : Int32} {x3 : Int32} {x4 : Int32} {h : hs_H} {r : Int32 × hs_H} (hk5 : ∀ y1 y2 y3 y4 h r, k5 (y1, y2, y3, y4, h) = some r → hs_fr [] h r.2) (e : hb_49_5 o k5 x1 x2 x3 x4 h = some r) : hs_fr [] h r.2 := by
  unfold hb_49_5 at e
  rcases hz_if e with e | e
  · have fk := hz_b49_56  e
    exact (hs_fr.rf (K := []) (h := h)).tr fk
  · rcases hz_if e with e | e
    · have fk := hz_b49_56  e
      exact (hs_fr.rf (K := []) (h := h)).tr fk
    · replace e := (hs_ck_some e).2
      rcases hz_if e with e | e
      · have fk := hz_b49_50 hk5 e
        exact (hs_fr.rf (K := []) (h := h)).tr fk
      · replace e := (hs_ck_some e).2
        rcases hz_if e with e | e
        · have fk := hz_b49_50 hk5 e
          exact (hs_fr.rf (K := []) (h := h)).tr fk
        · replace e := (hs_ck_some e).2
          have fk := hz_b49_50 hk5 e
          exact (hs_fr.rf (K := []) (h := h)).tr fk
theorem hz_49 {o : Nat} {a1 : Int32} {a2 : Int32} {h : hs_H} {r : Int32 × hs_H} (e : hf_49 o a1 a2 h = some r) : hs_fr [] h r.2 := by
  unfold hf_49 at e
  have fl := hz_lp5 (f := fun k s => hb_49_5 o k s.1 s.2.1 s.2.2.1 s.2.2.2.1 s.2.2.2.2) (G := fun r => r.2) (fun k hk y1 y2 y3 y4 h r e => hz_b49_5 hk e) e
  exact (hs_fr.rf (K := []) (h := h)).tr fl
theorem hz_b99_52 {x3 : Int32} {h : hs_H} {r : Int32 × hs_H} (e : hb_99_52 x3 h = some r) : hs_fr [] h r.2 := by
  unfold hb_99_52 at e
  obtain rfl := Option.some.inj e
  exact (hs_fr.rf (K := []) (h := h))
theorem hz_b99_44 {k5 : Int32 × Int32 × Int32 × Int32 × hs_H → Option (Int32 × hs_H)} {x1 : Int32} {x2 : Int32} {x4 : Int32} {s0 : Int32} {s1 : Int32} {h : hs_H} {r : Int32 × hs_H} (hk5 : ∀ y1 y2 y3 y4 h r, k5 (y1, y2, y3, y4, h) = some r → hs_fr [] h r.2) (e : hb_99_44 k5 x1 x2 x4 s0 s1 h = some r) : hs_fr [] h r.2 := by
  unfold hb_99_44 at e
  have fk := hk5 _ _ _ _ _ _ e
  exact (hs_fr.rf (K := []) (h := h)).tr fk
theorem hz_b99_5 {k5 : Int32 × Int32 × Int32 × Int32 × hs_H → Option (Int32 × hs_H)} {x1 : Int32} {x2 : Int32} {x3 : Int32} {x4 : Int32} {h : hs_H} {r : Int32 × hs_H} (hk5 : ∀ y1 y2 y3 y4 h r, k5 (y1, y2, y3, y4, h) = some r → hs_fr [] h r.2) (e : hb_99_5 k5 x1 x2 x3 x4 h = some r) : hs_fr [] h r.2 := by
  unfold hb_99_5 at e
  rcases hz_if e with e | e
  · have fk := hz_b99_52  e
    exact (hs_fr.rf (K := []) (h := h)).tr fk
  · rcases hz_if e with e | e
    · have fk := hz_b99_52  e
      exact (hs_fr.rf (K := []) (h := h)).tr fk
    · rcases hz_if e with e | e
      · have fk := hz_b99_52  e
        exact (hs_fr.rf (K := []) (h := h)).tr fk
      · obtain ⟨q4, eq4, e⟩ := hs_bind_some e
        have fq4 := (hs_fr.rf (K := []) (h := h)).tr ((hz_147 eq4).sub hs_sub_nil)
        rcases hz_if e with e | e
        · have fk := hz_b99_44 hk5 e
          exact fq4.tr fk
        · replace e := (hs_ck_some e).2
          replace e := (hs_ck_some e).2
          have fk := hz_b99_44 hk5 e
          exact fq4.tr fk
theorem hz_99 {a1 : Int32} {a2 : Int32} {h : hs_H} {r : Int32 × hs_H} (e : hf_99 a1 a2 h = some r) : hs_fr [] h r.2 := by
  unfold hf_99 at e
  have fl := hz_lp5 (f := fun k s => hb_99_5 k s.1 s.2.1 s.2.2.1 s.2.2.2.1 s.2.2.2.2) (G := fun r => r.2) (fun k hk y1 y2 y3 y4 h r e => hz_b99_5 hk e) e
  exact (hs_fr.rf (K := []) (h := h)).tr fl
theorem hz_b98_139 {h : hs_H} {r : hs_H} (e : hb_98_139 h = some r) : hs_fr [(37, none), (38, some 0)] h r := by
  unfold hb_98_139 at e
  obtain rfl := Option.some.inj e
  exact (hs_fr.rf (K := [(37, none), (38, some 0)]) (h := h))
theorem hz_b98_133 {k38 : Int32 × hs_H → Option (hs_H)} {x1 : Int32} {h : hs_H} {r : hs_H} (hk38 : ∀ y1 h r, k38 (y1, h) = some r → hs_fr [(37, none), (38, some 0)] h r) (e : hb_98_133 k38 x1 h = some r) : hs_fr [(37, none), (38, some 0)] h r := by
  unfold hb_98_133 at e
  have fk := hk38 _ _ _ e
  exact (hs_fr.rf (K := [(37, none), (38, some 0)]) (h := h)).tr fk
theorem hz_b98_125 {k38 : Int32 × hs_H → Option (hs_H)} {k60 : Int32 × Int32 × hs_H → Option (hs_H)} {x1 : Int32} {x2 : Int32} {s0 : Int32} {s1 : Int32} {s2 : Int32} {h : hs_H} {r : hs_H} (hk38 : ∀ y1 h r, k38 (y1, h) = some r → hs_fr [(37, none), (38, some 0)] h r) (hk60 : ∀ y1 y2 h r, k60 (y1, y2, h) = some r → hs_fr [(37, none), (38, some 0)] h r) (e : hb_98_125 k38 k60 x1 x2 s0 s1 s2 h = some r) : hs_fr [(37, none), (38, some 0)] h r := by
  unfold hb_98_125 at e
  replace e := (hs_ck_some e).2
  have fk := hk60 _ _ _ _ e
  exact ((hs_fr.rf (K := [(37, none), (38, some 0)]) (h := h)).put (.inl (.tail _ (.head _)))).tr fk
theorem hz_b98_60 {k38 : Int32 × hs_H → Option (hs_H)} {k60 : Int32 × Int32 × hs_H → Option (hs_H)} {x1 : Int32} {x2 : Int32} {h : hs_H} {r : hs_H} (hk38 : ∀ y1 h r, k38 (y1, h) = some r → hs_fr [(37, none), (38, some 0)] h r) (hk60 : ∀ y1 y2 h r, k60 (y1, y2, h) = some r → hs_fr [(37, none), (38, some 0)] h r) (e : hb_98_60 k38 k60 x1 x2 h = some r) : hs_fr [(37, none), (38, some 0)] h r := by
  unfold hb_98_60 at e
  rcases hz_if e with e | e
  · have fk := hz_b98_133 hk38 e
    exact (hs_fr.rf (K := [(37, none), (38, some 0)]) (h := h)).tr fk
  · rcases hz_if e with e | e
    · have fk := hz_b98_133 hk38 e
      exact (hs_fr.rf (K := [(37, none), (38, some 0)]) (h := h)).tr fk
    · replace e := (hs_ck_some e).2
      obtain ⟨q10, eq10, e⟩ := hs_bind_some e
      have fq10 := (hs_fr.rf (K := [(37, none), (38, some 0)]) (h := h)).tr ((hz_38 eq10).sub hs_sub_nil)
      obtain ⟨q11, eq11, e⟩ := hs_bind_some e
      have fq11 := fq10.tr ((hz_99 eq11).sub hs_sub_nil)
      replace e := (hs_ck_some e).2
      replace e := (hs_ck_some e).2
      replace e := (hs_ck_some e).2
      replace e := (hs_ck_some e).2
      rcases hz_if e with e | e
      · have fk := hz_b98_125 hk38 hk60 e
        exact (fq11.put (.inr (.head _))).tr fk
      · have fk := hz_b98_125 hk38 hk60 e
        exact (fq11.put (.inr (.head _))).tr fk
theorem hz_b98_38 {k38 : Int32 × hs_H → Option (hs_H)} {x1 : Int32} {h : hs_H} {r : hs_H} (hk38 : ∀ y1 h r, k38 (y1, h) = some r → hs_fr [(37, none), (38, some 0)] h r) (e : hb_98_38 k38 x1 h = some r) : hs_fr [(37, none), (38, some 0)] h r := by
  unfold hb_98_38 at e
  rcases hz_if e with e | e
  · have fk := hz_b98_139  e
    exact (hs_fr.rf (K := [(37, none), (38, some 0)]) (h := h)).tr fk
  · rcases hz_if e with e | e
    · have fk := hz_b98_139  e
      exact (hs_fr.rf (K := [(37, none), (38, some 0)]) (h := h)).tr fk
    · replace e := (hs_ck_some e).2
      have fl := hz_lp3 (f := fun k s => hb_98_60 k38 k s.1 s.2.1 s.2.2) (G := fun r => r) (fun k hk y1 y2 h r e => hz_b98_60 hk38 hk e) e
      exact ((hs_fr.rf (K := [(37, none), (38, some 0)]) (h := h)).put (.inl (.tail _ (.head _)))).tr fl
theorem hz_b98_15 {k15 : Int32 × hs_H → Option (hs_H)} {x1 : Int32} {h : hs_H} {r : hs_H} (hk15 : ∀ y1 h r, k15 (y1, h) = some r → hs_fr [(37, none), (38, some 0)] h r) (e : hb_98_15 k15 x1 h = some r) : hs_fr [(37, none), (38, some 0)] h r := by
  unfold hb_98_15 at e
  rcases hz_if e with e | e
  · have fl := hz_lp2 (f := fun k s => hb_98_38 k s.1 s.2) (G := fun r => r) (fun k hk y1 h r e => hz_b98_38 hk e) e
    exact (hs_fr.rf (K := [(37, none), (38, some 0)]) (h := h)).tr fl
  · replace e := (hs_ck_some e).2
    replace e := (hs_ck_some e).2
    have fk := hk15 _ _ _ e
    exact ((hs_fr.rf (K := [(37, none), (38, some 0)]) (h := h)).put (.inr (.head _))).tr fk
theorem hz_98 {h : hs_H} {r : hs_H} (e : hf_98 h = some r) : hs_fr [(37, none), (38, some 0)] h r := by
  unfold hf_98 at e
  obtain ⟨q1, eq1, e⟩ := hs_bind_some e
  have fq1 := (hs_fr.rf (K := [(37, none), (38, some 0)]) (h := h)).tr ((hz_31 eq1).sub hs_sub_nil)
  replace e := (hs_ck_some e).2
  have fl := hz_lp2 (f := fun k s => hb_98_15 k s.1 s.2) (G := fun r => r) (fun k hk y1 h r e => hz_b98_15 hk e) e
  exact (fq1.put (.inl (.tail _ (.head _)))).tr fl
theorem hz_b100_19 {s0 : Int32} {h : hs_H} {r : Int32 × hs_H} (e : hb_100_19 s0 h = some r) : hs_fr [] h r.2 := by
  unfold hb_100_19 at e
  obtain rfl := Option.some.inj e
  exact (hs_fr.rf (K := []) (h := h))
theorem hz_b100_18 {h : hs_H} {r : Int32 × hs_H} (e : hb_100_18 h = some r) : hs_fr [] h r.2 := by
  unfold hb_100_18 at e
  have fk := hz_b100_19  e
  exact (hs_fr.rf (K := []) (h := h)).tr fk
theorem hz_100 {a1 : Int32} {h : hs_H} {r : Int32 × hs_H} (e : hf_100 a1 h = some r) : hs_fr [] h r.2 := by
  unfold hf_100 at e
  rcases hz_if e with e | e
  · have fk := hz_b100_18  e
    exact (hs_fr.rf (K := []) (h := h)).tr fk
  · rcases hz_if e with e | e
    · have fk := hz_b100_18  e
      exact (hs_fr.rf (K := []) (h := h)).tr fk
    · replace e := (hs_ck_some e).2
      have fk := hz_b100_19  e
      exact (hs_fr.rf (K := []) (h := h)).tr fk
theorem hz_b50_35_140 {o : Nat} {p3 : Nat} {x5 : Int32} {h : hs_H} {r : Int32 × hs_H} (e : hb_50_35_140 o p3 x5 h = some r) : hs_fr [] h r.2 := by
  unfold hb_50_35_140 at e
  obtain rfl := Option.some.inj e
  exact (hs_fr.rf (K := []) (h := h))
theorem hz_b50_35_134 {o : Nat} {p3 : Nat} {k8 : Int32 × Int32 × Int32 × Int32 × Int32 × hs_H → Option (Int32 × hs_H)} {x1 : Int32} {x2 : Int32} {x4 : Int32} {x5 : Int32} {x6 : Int32} {h : hs_H} {r : Int32 × hs_H} (hk8 : ∀ y1 y2 y3 y4 y5 h r, k8 (y1, y2, y3, y4, y5, h) = some r → hs_fr [] h r.2) (e : hb_50_35_134 o p3 k8 x1 x2 x4 x5 x6 h = some r) : hs_fr [] h r.2 := by
  unfold hb_50_35_134 at e
  have fk := hk8 _ _ _ _ _ _ _ e
  exact (hs_fr.rf (K := []) (h := h)).tr fk
theorem hz_b50_35_122 {o : Nat} {p3 : Nat} {k8 : Int32 × Int32 × Int32 × Int32 × Int32 × hs_H → Option (Int32 × hs_H)} {x1 : Int32} {x2 : Int32} {x4 : Int32} {x5 : Int32} {x6 : Int32} {x10 : Int32} {s0 : Int32} {h : hs_H} {r : Int32 × hs_H} (hk8 : ∀ y1 y2 y3 y4 y5 h r, k8 (y1, y2, y3, y4, y5, h) = some r → hs_fr [] h r.2) (e : hb_50_35_122 o p3 k8 x1 x2 x4 x5 x6 x10 s0 h = some r) : hs_fr [] h r.2 := by
  unfold hb_50_35_122 at e
  have fk := hz_b50_35_134 hk8 e
  exact (hs_fr.rf (K := []) (h := h)).tr fk
theorem hz_b50_35_98 {o : Nat} {p3 : Nat} {k8 : Int32 × Int32 × Int32 × Int32 × Int32 × hs_H → Option (Int32 × hs_H)} {x1 : Int32} {x2 : Int32} {x4 : Int32} {x5 : Int32} {x6 : Int32} {x7 : Int32} {x8 : Int32} {s0 : Int32} {h : hs_H} {r : Int32 × hs_H} (hk8 : ∀ y1 y2 y3 y4 y5 h r, k8 (y1, y2, y3, y4, y5, h) = some r → hs_fr [] h r.2) (e : hb_50_35_98 o p3 k8 x1 x2 x4 x5 x6 x7 x8 s0 h = some r) : hs_fr [] h r.2 := by
  unfold hb_50_35_98 at e
  replace e := (hs_ck_some e).2
  rcases hz_if e with e | e
  · have fk := hz_b50_35_122 hk8 e
    exact (hs_fr.rf (K := []) (h := h)).tr fk
  · have fk := hz_b50_35_122 hk8 e
    exact (hs_fr.rf (K := []) (h := h)).tr fk
theorem hz_b50_35_8 {o : Nat} {p3 : Nat} {k8 : Int32 × Int32 × Int32 × Int32 × Int32 × hs_H → Option (Int32 × hs_H)} {x1 : Int32} {x2 : Int32} {x4 : Int32} {x5 : Int32} {x6 : Int32} {h : hs_H} {r : Int32 × hs_H} (hk8 : ∀ y1 y2 y3 y4 y5 h r, k8 (y1, y2, y3, y4, y5, h) = some r → hs_fr [] h r.2) (e : hb_50_35_8 o p3 k8 x1 x2 x4 x5 x6 h = some r) : hs_fr [] h r.2 := by
  unfold hb_50_35_8 at e
  rcases hz_if e with e | e
  · have fk := hz_b50_35_140  e
    exact (hs_fr.rf (K := []) (h := h)).tr fk
  · rcases hz_if e with e | e
    · have fk := hz_b50_35_140  e
      exact (hs_fr.rf (K := []) (h := h)).tr fk
    · replace e := (hs_ck_some e).2
      replace e := (hs_ck_some e).2
      rcases hz_if e with e | e
      · have fk := hz_b50_35_134 hk8 e
        exact (hs_fr.rf (K := []) (h := h)).tr fk
      · rcases hz_if e with e | e
        · have fk := hz_b50_35_134 hk8 e
          exact (hs_fr.rf (K := []) (h := h)).tr fk
        · rcases hz_if e with e | e
          · have fk := hz_b50_35_134 hk8 e
            exact (hs_fr.rf (K := []) (h := h)).tr fk
          · replace e := (hs_ck_some e).2
            obtain ⟨q9, eq9, e⟩ := hs_bind_some e
            have fq9 := (hs_fr.rf (K := []) (h := h)).tr ((hz_85 eq9).sub hs_sub_nil)
            obtain ⟨q10, eq10, e⟩ := hs_bind_some e
            have fq10 := fq9.tr ((hz_147 eq10).sub hs_sub_nil)
            obtain ⟨q11, eq11, e⟩ := hs_bind_some e
            have fq11 := fq10.tr ((hz_86 eq11).sub hs_sub_nil)
            replace e := (hs_ck_some e).2
            rcases hz_if e with e | e
            · have fk := hz_b50_35_98 hk8 e
              exact fq11.tr fk
            · have fk := hz_b50_35_98 hk8 e
              exact fq11.tr fk
theorem hz_50_35 {o : Nat} {a1 : Int32} {a2 : Int32} {p3 : Nat} {a4 : Int32} {h : hs_H} {r : Int32 × hs_H} (e : hf_50_35 o a1 a2 p3 a4 h = some r) : hs_fr [] h r.2 := by
  unfold hf_50_35 at e
  have fl := hz_lp6 (f := fun k s => hb_50_35_8 o p3 k s.1 s.2.1 s.2.2.1 s.2.2.2.1 s.2.2.2.2.1 s.2.2.2.2.2) (G := fun r => r.2) (fun k hk y1 y2 y3 y4 y5 h r e => hz_b50_35_8 hk e) e
  exact (hs_fr.rf (K := []) (h := h)).tr fl
theorem hz_b37_24 {o : Nat} {s0 : Int32} {h : hs_H} {r : Int32 × hs_H} (e : hb_37_24 o s0 h = some r) : hs_fr [] h r.2 := by
  unfold hb_37_24 at e
  obtain rfl := Option.some.inj e
  exact (hs_fr.rf (K := []) (h := h))
theorem hz_37 {o : Nat} {h : hs_H} {r : Int32 × hs_H} (e : hf_37 o h = some r) : hs_fr [] h r.2 := by
  unfold hf_37 at e
  obtain ⟨q1, eq1, e⟩ := hs_bind_some e
  have fq1 := (hs_fr.rf (K := []) (h := h)).tr ((hz_29 eq1).sub hs_sub_nil)
  rcases hz_if e with e | e
  · obtain ⟨q3, eq3, e⟩ := hs_bind_some e
    have fq3 := fq1.tr ((hz_31 eq3).sub hs_sub_nil)
    have fk := hz_b37_24  e
    exact fq3.tr fk
  · have fk := hz_b37_24  e
    exact fq1.tr fk
theorem hz_b102_9 {h : hs_H} {r : Int32 × hs_H} (e : hb_102_9 h = some r) : hs_fr [] h r.2 := by
  unfold hb_102_9 at e
  obtain rfl := Option.some.inj e
  exact (hs_fr.rf (K := []) (h := h))
theorem hz_b102_40 {x1 : Int32} {s0 : Int32} {h : hs_H} {r : Int32 × hs_H} (e : hb_102_40 x1 s0 h = some r) : hs_fr [] h r.2 := by
  unfold hb_102_40 at e
  obtain ⟨q6, eq6, e⟩ := hs_bind_some e
  have fq6 := (hs_fr.rf (K := []) (h := h)).tr ((hz_100 eq6).sub hs_sub_nil)
  replace e := (hs_ck_some e).2
  obtain ⟨q8, eq8, e⟩ := hs_bind_some e
  have fq8 := fq6.tr ((hz_50_35 eq8).sub hs_sub_nil)
  obtain rfl := Option.some.inj e
  exact fq8
theorem hz_102 {a1 : Int32} {h : hs_H} {r : Int32 × hs_H} (e : hf_102 a1 h = some r) : hs_fr [] h r.2 := by
  unfold hf_102 at e
  rcases hz_if e with e | e
  · have fk := hz_b102_9  e
    exact (hs_fr.rf (K := []) (h := h)).tr fk
  · rcases hz_if e with e | e
    · rcases hz_if e with e | e
      · replace e := (hs_ck_some e).2
        obtain ⟨q5, eq5, e⟩ := hs_bind_some e
        have fq5 := (hs_fr.rf (K := []) (h := h)).tr ((hz_38 eq5).sub hs_sub_nil)
        have fk := hz_b102_40  e
        exact fq5.tr fk
      · obtain ⟨q9, eq9, e⟩ := hs_bind_some e
        have fq9 := (hs_fr.rf (K := []) (h := h)).tr ((hz_37 eq9).sub hs_sub_nil)
        have fk := hz_b102_40  e
        exact fq9.tr fk
    · have fk := hz_b102_9  e
      exact (hs_fr.rf (K := []) (h := h)).tr fk
theorem hz_b148_2 {k2 : Int32 × Int32 × hs_H → Option (Int32 × hs_H)} {x0 : Int32} {x1 : Int32} {h : hs_H} {r : Int32 × hs_H} (hk2 : ∀ y1 y2 h r, k2 (y1, y2, h) = some r → hs_fr [] h r.2) (e : hb_148_2 k2 x0 x1 h = some r) : hs_fr [] h r.2 := by
  unfold hb_148_2 at e
  rcases hz_if e with e | e
  · obtain rfl := Option.some.inj e
    exact (hs_fr.rf (K := []) (h := h))
  · rcases hz_if e with e | e
    · have fk := hk2 _ _ _ _ e
      exact (hs_fr.rf (K := []) (h := h)).tr fk
    · obtain rfl := Option.some.inj e
      exact (hs_fr.rf (K := []) (h := h))
theorem hz_148 {a0 : Int32} {h : hs_H} {r : Int32 × hs_H} (e : hf_148 a0 h = some r) : hs_fr [] h r.2 := by
  unfold hf_148 at e
  have fl := hz_lp3 (f := fun k s => hb_148_2 k s.1 s.2.1 s.2.2) (G := fun r => r.2) (fun k hk y1 y2 h r e => hz_b148_2 hk e) e
  exact (hs_fr.rf (K := []) (h := h)).tr fl
theorem hz_b104_96 {h : hs_H} {r : hs_H} (e : hb_104_96 h = some r) : hs_fr [(41, some 0)] h r := by
  unfold hb_104_96 at e
  obtain rfl := Option.some.inj e
  exact (hs_fr.rf (K := [(41, some 0)]) (h := h))
theorem hz_b104_35 {k35 : Int32 × Int32 × hs_H → Option (hs_H)} {x3 : Int32} {x4 : Int32} {h : hs_H} {r : hs_H} (hk35 : ∀ y1 y2 h r, k35 (y1, y2, h) = some r → hs_fr [(41, some 0)] h r) (e : hb_104_35 k35 x3 x4 h = some r) : hs_fr [(41, some 0)] h r := by
  unfold hb_104_35 at e
  rcases hz_if e with e | e
  · have fk := hz_b104_96  e
    exact (hs_fr.rf (K := [(41, some 0)]) (h := h)).tr fk
  · rcases hz_if e with e | e
    · have fk := hz_b104_96  e
      exact (hs_fr.rf (K := [(41, some 0)]) (h := h)).tr fk
    · obtain ⟨q4, eq4, e⟩ := hs_bind_some e
      have fq4 := (hs_fr.rf (K := [(41, some 0)]) (h := h)).tr ((hz_148 eq4).sub hs_sub_nil)
      replace e := (hs_ck_some e).2
      replace e := (hs_ck_some e).2
      obtain ⟨q7, eq7, e⟩ := hs_bind_some e
      have fq7 := (fq4.put (.inl (.head _))).tr ((hz_38 eq7).sub hs_sub_nil)
      obtain ⟨q8, eq8, e⟩ := hs_bind_some e
      have fq8 := fq7.tr ((hz_100 eq8).sub hs_sub_nil)
      have fk := hk35 _ _ _ _ e
      exact fq8.tr fk
theorem hz_b104_30 {x1 : Int32} {x2 : Int32} {h : hs_H} {r : hs_H} (e : hb_104_30 x1 x2 h = some r) : hs_fr [(41, some 0)] h r := by
  unfold hb_104_30 at e
  have fl := hz_lp3 (f := fun k s => hb_104_35 k s.1 s.2.1 s.2.2) (G := fun r => r) (fun k hk y1 y2 h r e => hz_b104_35 hk e) e
  exact (hs_fr.rf (K := [(41, some 0)]) (h := h)).tr fl
theorem hz_b104_2 {k2 : Int32 × Int32 × Int32 × hs_H → Option (hs_H)} {x1 : Int32} {x2 : Int32} {x3 : Int32} {h : hs_H} {r : hs_H} (hk2 : ∀ y1 y2 y3 h r, k2 (y1, y2, y3, h) = some r → hs_fr [(41, some 0)] h r) (e : hb_104_2 k2 x1 x2 x3 h = some r) : hs_fr [(41, some 0)] h r := by
  unfold hb_104_2 at e
  rcases hz_if e with e | e
  · have fk := hz_b104_30  e
    exact (hs_fr.rf (K := [(41, some 0)]) (h := h)).tr fk
  · rcases hz_if e with e | e
    · have fk := hz_b104_30  e
      exact (hs_fr.rf (K := [(41, some 0)]) (h := h)).tr fk
    · replace e := (hs_ck_some e).2
      replace e := (hs_ck_some e).2
      have fk := hk2 _ _ _ _ _ e
      exact ((hs_fr.rf (K := [(41, some 0)]) (h := h)).put (.inl (.head _))).tr fk
theorem hz_104 {a1 : Int32} {a2 : Int32} {h : hs_H} {r : hs_H} (e : hf_104 a1 a2 h = some r) : hs_fr [(41, some 0)] h r := by
  unfold hf_104 at e
  have fl := hz_lp4 (f := fun k s => hb_104_2 k s.1 s.2.1 s.2.2.1 s.2.2.2) (G := fun r => r) (fun k hk y1 y2 y3 h r e => hz_b104_2 hk e) e
  exact (hs_fr.rf (K := [(41, some 0)]) (h := h)).tr fl
theorem hz_b103_13 {h : hs_H} {r : Int32 × hs_H} (e : hb_103_13 h = some r) : hs_fr [(10, some 0), (40, some 0), (41, some 0)] h r.2 := by
  unfold hb_103_13 at e
  obtain rfl := Option.some.inj e
  exact (hs_fr.rf (K := [(10, some 0), (40, some 0), (41, some 0)]) (h := h))
theorem hz_b103_33 {x1 : Int32} {x2 : Int32} {h : hs_H} {r : Int32 × hs_H} (e : hb_103_33 x1 x2 h = some r) : hs_fr [(10, some 0), (40, some 0), (41, some 0)] h r.2 := by
  unfold hb_103_33 at e
  replace e := (hs_ck_some e).2
  replace e := (hs_ck_some e).2
  obtain ⟨q7, eq7, e⟩ := hs_bind_some e
  have fq7 := ((hs_fr.rf (K := [(10, some 0), (40, some 0), (41, some 0)]) (h := h)).put (.inl (.tail _ (.head _)))).tr ((hz_99 eq7).sub hs_sub_nil)
  obtain rfl := Option.some.inj e
  exact fq7
theorem hz_103 {a1 : Int32} {a2 : Int32} {h : hs_H} {r : Int32 × hs_H} (e : hf_103 a1 a2 h = some r) : hs_fr [(10, some 0), (40, some 0), (41, some 0)] h r.2 := by
  unfold hf_103 at e
  rcases hz_if e with e | e
  · have fk := hz_b103_13  e
    exact (hs_fr.rf (K := [(10, some 0), (40, some 0), (41, some 0)]) (h := h)).tr fk
  · rcases hz_if e with e | e
    · have fk := hz_b103_13  e
      exact (hs_fr.rf (K := [(10, some 0), (40, some 0), (41, some 0)]) (h := h)).tr fk
    · rcases hz_if e with e | e
      · rcases hz_if e with e | e
        · have fk := hz_b103_33  e
          exact (hs_fr.rf (K := [(10, some 0), (40, some 0), (41, some 0)]) (h := h)).tr fk
        · obtain ⟨q8, eq8, e⟩ := hs_bind_some e
          have fq8 := ((hs_fr.rf (K := [(10, some 0), (40, some 0), (41, some 0)]) (h := h)).put (.inl (.head _))).tr ((hz_104 eq8).sub (hs_sub_cons (.inl (.tail _ (.tail _ (.head _)))) hs_sub_nil))
          have fk := hz_b103_33  e
          exact fq8.tr fk
      · have fk := hz_b103_13  e
        exact (hs_fr.rf (K := [(10, some 0), (40, some 0), (41, some 0)]) (h := h)).tr fk
theorem hz_b84_35_35_65 {p0 : Nat} {p1 : Nat} {h : hs_H} {r : hs_H} (e : hb_84_35_35_65 p0 p1 h = some r) : hs_fr [(35, some p1)] h r := by
  unfold hb_84_35_35_65 at e
  obtain rfl := Option.some.inj e
  exact (hs_fr.rf (K := [(35, some p1)]) (h := h))
theorem hz_b84_35_35_41 {p0 : Nat} {p1 : Nat} {x2 : Int32} {x3 : Int32} {h : hs_H} {r : hs_H} (e : hb_84_35_35_41 p0 p1 x2 x3 h = some r) : hs_fr [(35, some p1)] h r := by
  unfold hb_84_35_35_41 at e
  rcases hz_if e with e | e
  · have fk := hz_b84_35_35_65  e
    exact (hs_fr.rf (K := [(35, some p1)]) (h := h)).tr fk
  · rcases hz_if e with e | e
    · have fk := hz_b84_35_35_65  e
      exact (hs_fr.rf (K := [(35, some p1)]) (h := h)).tr fk
    · replace e := (hs_ck_some e).2
      obtain ⟨q5, eq5, e⟩ := hs_bind_some e
      have fq5 := (hs_fr.rf (K := [(35, some p1)]) (h := h)).tr ((hz_147 eq5).sub hs_sub_nil)
      obtain ⟨q6, eq6, e⟩ := hs_bind_some e
      have fq6 := fq5.tr ((hz_86 eq6).sub hs_sub_nil)
      replace e := (hs_ck_some e).2
      have fk := hz_b84_35_35_65  e
      exact (fq6.put (.inl (.head _))).tr fk
theorem hz_b84_35_35_3 {p0 : Nat} {p1 : Nat} {k3 : Int32 × Int32 × Int32 × hs_H → Option (hs_H)} {x2 : Int32} {x3 : Int32} {x4 : Int32} {h : hs_H} {r : hs_H} (hk3 : ∀ y1 y2 y3 h r, k3 (y1, y2, y3, h) = some r → hs_fr [(35, some p1)] h r) (e : hb_84_35_35_3 p0 p1 k3 x2 x3 x4 h = some r) : hs_fr [(35, some p1)] h r := by
  unfold hb_84_35_35_3 at e
  rcases hz_if e with e | e
  · have fk := hz_b84_35_35_41  e
    exact (hs_fr.rf (K := [(35, some p1)]) (h := h)).tr fk
  · rcases hz_if e with e | e
    · have fk := hz_b84_35_35_41  e
      exact (hs_fr.rf (K := [(35, some p1)]) (h := h)).tr fk
    · rcases hz_if e with e | e
      · have fk := hz_b84_35_35_41  e
        exact (hs_fr.rf (K := [(35, some p1)]) (h := h)).tr fk
      · replace e := (hs_ck_some e).2
        obtain ⟨q11, eq11, e⟩ := hs_bind_some e
        have fq11 := (hs_fr.rf (K := [(35, some p1)]) (h := h)).tr ((hz_85 eq11).sub hs_sub_nil)
        replace e := (hs_ck_some e).2
        have fk := hk3 _ _ _ _ _ e
        exact (fq11.put (.inl (.head _))).tr fk
theorem hz_84_35_35 {p0 : Nat} {p1 : Nat} {a2 : Int32} {a3 : Int32} {h : hs_H} {r : hs_H} (e : hf_84_35_35 p0 p1 a2 a3 h = some r) : hs_fr [(35, some p1)] h r := by
  unfold hf_84_35_35 at e
  have fl := hz_lp4 (f := fun k s => hb_84_35_35_3 p0 p1 k s.1 s.2.1 s.2.2.1 s.2.2.2) (G := fun r => r) (fun k hk y1 y2 y3 h r e => hz_b84_35_35_3 hk e) e
  exact (hs_fr.rf (K := [(35, some p1)]) (h := h)).tr fl
theorem hz_b101_19 {self : Int32 → hs_H → Option (Int32 × hs_H)} {x1 : Int32} {x2 : Int32} {h : hs_H} {r : Int32 × hs_H} (hself : ∀ a1 h r, self a1 h = some r → hs_fr [(10, some 0), (35, none), (39, some 0), (40, some 0), (41, some 0)] h r.2) (e : hb_101_19 self x1 x2 h = some r) : hs_fr [(10, some 0), (35, none), (39, some 0), (40, some 0), (41, some 0)] h r.2 := by
  unfold hb_101_19 at e
  obtain ⟨q3, eq3, e⟩ := hs_bind_some e
  have fq3 := (hs_fr.rf (K := [(10, some 0), (35, none), (39, some 0), (40, some 0), (41, some 0)]) (h := h)).tr ((hz_103 eq3).sub (hs_sub_cons (.inl (.head _)) (hs_sub_cons (.inl (.tail _ (.tail _ (.tail _ (.head _))))) (hs_sub_cons (.inl (.tail _ (.tail _ (.tail _ (.tail _ (.head _)))))) hs_sub_nil))))
  obtain rfl := Option.some.inj e
  exact fq3
theorem hz_b101_142 {self : Int32 → hs_H → Option (Int32 × hs_H)} {x3 : Int32} {h : hs_H} {r : Int32 × hs_H} (hself : ∀ a1 h r, self a1 h = some r → hs_fr [(10, some 0), (35, none), (39, some 0), (40, some 0), (41, some 0)] h r.2) (e : hb_101_142 self x3 h = some r) : hs_fr [(10, some 0), (35, none), (39, some 0), (40, some 0), (41, some 0)] h r.2 := by
  unfold hb_101_142 at e
  obtain rfl := Option.some.inj e
  exact (hs_fr.rf (K := [(10, some 0), (35, none), (39, some 0), (40, some 0), (41, some 0)]) (h := h))
theorem hz_b101_136 {self : Int32 → hs_H → Option (Int32 × hs_H)} {k31 : Int32 × Int32 × Int32 × Int32 × hs_H → Option (Int32 × hs_H)} {x1 : Int32} {x2 : Int32} {x3 : Int32} {x4 : Int32} {h : hs_H} {r : Int32 × hs_H} (hk31 : ∀ y1 y2 y3 y4 h r, k31 (y1, y2, y3, y4, h) = some r → hs_fr [(10, some 0), (35, none), (39, some 0), (40, some 0), (41, some 0)] h r.2) (hself : ∀ a1 h r, self a1 h = some r → hs_fr [(10, some 0), (35, none), (39, some 0), (40, some 0), (41, some 0)] h r.2) (e : hb_101_136 self k31 x1 x2 x3 x4 h = some r) : hs_fr [(10, some 0), (35, none), (39, some 0), (40, some 0), (41, some 0)] h r.2 := by
  unfold hb_101_136 at e
  have fk := hk31 _ _ _ _ _ _ e
  exact (hs_fr.rf (K := [(10, some 0), (35, none), (39, some 0), (40, some 0), (41, some 0)]) (h := h)).tr fk
theorem hz_b101_129 {self : Int32 → hs_H → Option (Int32 × hs_H)} {k31 : Int32 × Int32 × Int32 × Int32 × hs_H → Option (Int32 × hs_H)} {x1 : Int32} {x2 : Int32} {x3 : Int32} {x4 : Int32} {x5 : Int32} {s0 : Int32} {s1 : Int32} {s2 : Int32} {h : hs_H} {r : Int32 × hs_H} (hk31 : ∀ y1 y2 y3 y4 h r, k31 (y1, y2, y3, y4, h) = some r → hs_fr [(10, some 0), (35, none), (39, some 0), (40, some 0), (41, some 0)] h r.2) (hself : ∀ a1 h r, self a1 h = some r → hs_fr [(10, some 0), (35, none), (39, some 0), (40, some 0), (41, some 0)] h r.2) (e : hb_101_129 self k31 x1 x2 x3 x4 x5 s0 s1 s2 h = some r) : hs_fr [(10, some 0), (35, none), (39, some 0), (40, some 0), (41, some 0)] h r.2 := by
  unfold hb_101_129 at e
  replace e := (hs_ck_some e).2
  have fk := hz_b101_136 hk31 hself e
  exact ((hs_fr.rf (K := [(10, some 0), (35, none), (39, some 0), (40, some 0), (41, some 0)]) (h := h)).put (.inl (.tail _ (.tail _ (.tail _ (.head _)))))).tr fk
theorem hz_b101_57 {self : Int32 → hs_H → Option (Int32 × hs_H)} {k31 : Int32 × Int32 × Int32 × Int32 × hs_H → Option (Int32 × hs_H)} {x1 : Int32} {x2 : Int32} {x3 : Int32} {x4 : Int32} {h : hs_H} {r : Int32 × hs_H} (hk31 : ∀ y1 y2 y3 y4 h r, k31 (y1, y2, y3, y4, h) = some r → hs_fr [(10, some 0), (35, none), (39, some 0), (40, some 0), (41, some 0)] h r.2) (hself : ∀ a1 h r, self a1 h = some r → hs_fr [(10, some 0), (35, none), (39, some 0), (40, some 0), (41, some 0)] h r.2) (e : hb_101_57 self k31 x1 x2 x3 x4 h = some r) : hs_fr [(10, some 0), (35, none), (39, some 0), (40, some 0), (41, some 0)] h r.2 := by
  unfold hb_101_57 at e
  obtain ⟨q7, eq7, e⟩ := hs_bind_some e
  have fq7 := (hs_fr.rf (K := [(10, some 0), (35, none), (39, some 0), (40, some 0), (41, some 0)]) (h := h)).tr ((hz_147 eq7).sub hs_sub_nil)
  rcases hz_if e with e | e
  · have fk := hz_b101_136 hk31 hself e
    exact fq7.tr fk
  · replace e := (hs_ck_some e).2
    replace e := (hs_ck_some e).2
    replace e := (hs_ck_some e).2
    obtain ⟨q12, eq12, e⟩ := hs_bind_some e
    have fq12 := (fq7.put (.inl (.tail _ (.tail _ (.head _))))).tr ((hz_84_35_35 eq12).sub (hs_sub_cons (.inr (.tail _ (.head _))) hs_sub_nil))
    obtain ⟨q13, eq13, e⟩ := hs_bind_some e
    have fq13 := fq12.tr (hself _ _ _ eq13)
    replace e := (hs_ck_some e).2
    rcases hz_if e with e | e
    · have fk := hz_b101_129 hk31 hself e
      exact fq13.tr fk
    · have fk := hz_b101_129 hk31 hself e
      exact fq13.tr fk
theorem hz_b101_31 {self : Int32 → hs_H → Option (Int32 × hs_H)} {k31 : Int32 × Int32 × Int32 × Int32 × hs_H → Option (Int32 × hs_H)} {x1 : Int32} {x2 : Int32} {x3 : Int32} {x4 : Int32} {h : hs_H} {r : Int32 × hs_H} (hk31 : ∀ y1 y2 y3 y4 h r, k31 (y1, y2, y3, y4, h) = some r → hs_fr [(10, some 0), (35, none), (39, some 0), (40, some 0), (41, some 0)] h r.2) (hself : ∀ a1 h r, self a1 h = some r → hs_fr [(10, some 0), (35, none), (39, some 0), (40, some 0), (41, some 0)] h r.2) (e : hb_101_31 self k31 x1 x2 x3 x4 h = some r) : hs_fr [(10, some 0), (35, none), (39, some 0), (40, some 0), (41, some 0)] h r.2 := by
  unfold hb_101_31 at e
  rcases hz_if e with e | e
  · have fk := hz_b101_142 hself e
    exact (hs_fr.rf (K := [(10, some 0), (35, none), (39, some 0), (40, some 0), (41, some 0)]) (h := h)).tr fk
  · rcases hz_if e with e | e
    · have fk := hz_b101_57 hk31 hself e
      exact (hs_fr.rf (K := [(10, some 0), (35, none), (39, some 0), (40, some 0), (41, some 0)]) (h := h)).tr fk
    · rcases hz_if e with e | e
      · have fk := hz_b101_142 hself e
        exact (hs_fr.rf (K := [(10, some 0), (35, none), (39, some 0), (40, some 0), (41, some 0)]) (h := h)).tr fk
      · have fk := hz_b101_57 hk31 hself e
        exact (hs_fr.rf (K := [(10, some 0), (35, none), (39, some 0), (40, some 0), (41, some 0)]) (h := h)).tr fk
theorem hz_g101 {self : Int32 → hs_H → Option (Int32 × hs_H)} {a1 : Int32} {h : hs_H} {r : Int32 × hs_H} (hself : ∀ a1 h r, self a1 h = some r → hs_fr [(10, some 0), (35, none), (39, some 0), (40, some 0), (41, some 0)] h r.2) (e : hg_101 self a1 h = some r) : hs_fr [(10, some 0), (35, none), (39, some 0), (40, some 0), (41, some 0)] h r.2 := by
  unfold hg_101 at e
  obtain ⟨q1, eq1, e⟩ := hs_bind_some e
  have fq1 := (hs_fr.rf (K := [(10, some 0), (35, none), (39, some 0), (40, some 0), (41, some 0)]) (h := h)).tr ((hz_102 eq1).sub hs_sub_nil)
  rcases hz_if e with e | e
  · have fk := hz_b101_19 hself e
    exact fq1.tr fk
  · rcases hz_if e with e | e
    · have fl := hz_lp5 (f := fun k s => hb_101_31 self k s.1 s.2.1 s.2.2.1 s.2.2.2.1 s.2.2.2.2) (G := fun r => r.2) (fun k hk y1 y2 y3 y4 h r e => hz_b101_31 hk hself e) e
      exact fq1.tr fl
    · have fk := hz_b101_19 hself e
      exact fq1.tr fk
theorem hz_101 : ∀ (m : Nat) {a1 : Int32} {h : hs_H} {r : Int32 × hs_H}, hf_101 m a1 h = some r → hs_fr [(10, some 0), (35, none), (39, some 0), (40, some 0), (41, some 0)] h r.2 := by
  intro m
  induction m with
  | zero => intro a1 h r e; cases e
  | succ m ih => intro a1 h r e; exact hz_g101 (fun a1 h r e => ih e) e
theorem hz_b39_30 {o : Nat} {k4 : Int32 × Int32 × Int32 × hs_H → Option (Int32 × hs_H)} {x1 : Int32} {x3 : Int32} {s0 : Int32} {s1 : Int32} {h : hs_H} {r : Int32 × hs_H} (hk4 : ∀ y1 y2 y3 h r, k4 (y1, y2, y3, h) = some r → hs_fr [] h r.2) (e : hb_39_30 o k4 x1 x3 s0 s1 h = some r) : hs_fr [] h r.2 := by
  unfold hb_39_30 at e
  have fk := hk4 _ _ _ _ _ e
  exact (hs_fr.rf (K := []) (h := h)).tr fk
theorem hz_b39_4 {o : Nat} {k4 : Int32 × Int32 × Int32 × hs_H → Option (Int32 × hs_H)} {x1 : Int32} {x2 : Int32} {x3 : Int32} {h : hs_H} {r : Int32 × hs_H} (hk4 : ∀ y1 y2 y3 h r, k4 (y1, y2, y3, h) = some r → hs_fr [] h r.2) (e : hb_39_4 o k4 x1 x2 x3 h = some r) : hs_fr [] h r.2 := by
  unfold hb_39_4 at e
  rcases hz_if e with e | e
  · obtain rfl := Option.some.inj e
    exact (hs_fr.rf (K := []) (h := h))
  · obtain ⟨q2, eq2, e⟩ := hs_bind_some e
    have fq2 := (hs_fr.rf (K := []) (h := h)).tr ((hz_147 eq2).sub hs_sub_nil)
    rcases hz_if e with e | e
    · have fk := hz_b39_30 hk4 e
      exact fq2.tr fk
    · obtain ⟨q4, eq4, e⟩ := hs_bind_some e
      have fq4 := fq2.tr ((hz_38 eq4).sub hs_sub_nil)
      have fk := hz_b39_30 hk4 e
      exact fq4.tr fk
theorem hz_39 {o : Nat} {a1 : Int32} {h : hs_H} {r : Int32 × hs_H} (e : hf_39 o a1 h = some r) : hs_fr [] h r.2 := by
  unfold hf_39 at e
  have fl := hz_lp4 (f := fun k s => hb_39_4 o k s.1 s.2.1 s.2.2.1 s.2.2.2) (G := fun r => r.2) (fun k hk y1 y2 y3 h r e => hz_b39_4 hk e) e
  exact (hs_fr.rf (K := []) (h := h)).tr fl
theorem hz_b97_136 {h : hs_H} {r : hs_H} (e : hb_97_136 h = some r) : hs_fr [(10, some 0), (35, none), (37, none), (38, some 0), (39, some 0), (40, some 0), (41, some 0)] h r := by
  unfold hb_97_136 at e
  obtain rfl := Option.some.inj e
  exact (hs_fr.rf (K := [(10, some 0), (35, none), (37, none), (38, some 0), (39, some 0), (40, some 0), (41, some 0)]) (h := h))
theorem hz_b97_80 {k80 : Int32 × hs_H → Option (hs_H)} {x4 : Int32} {h : hs_H} {r : hs_H} (hk80 : ∀ y1 h r, k80 (y1, h) = some r → hs_fr [(10, some 0), (35, none), (37, none), (38, some 0), (39, some 0), (40, some 0), (41, some 0)] h r) (e : hb_97_80 k80 x4 h = some r) : hs_fr [(10, some 0), (35, none), (37, none), (38, some 0), (39, some 0), (40, some 0), (41, some 0)] h r := by
  unfold hb_97_80 at e
  rcases hz_if e with e | e
  · have fk := hz_b97_136  e
    exact (hs_fr.rf (K := [(10, some 0), (35, none), (37, none), (38, some 0), (39, some 0), (40, some 0), (41, some 0)]) (h := h)).tr fk
  · rcases hz_if e with e | e
    · have fk := hz_b97_136  e
      exact (hs_fr.rf (K := [(10, some 0), (35, none), (37, none), (38, some 0), (39, some 0), (40, some 0), (41, some 0)]) (h := h)).tr fk
    · replace e := (hs_ck_some e).2
      obtain ⟨q9, eq9, e⟩ := hs_bind_some e
      have fq9 := (hs_fr.rf (K := [(10, some 0), (35, none), (37, none), (38, some 0), (39, some 0), (40, some 0), (41, some 0)]) (h := h)).tr ((hz_39 eq9).sub hs_sub_nil)
      obtain ⟨q10, eq10, e⟩ := hs_bind_some e
      have fq10 := fq9.tr ((hz_100 eq10).sub hs_sub_nil)
      replace e := (hs_ck_some e).2
      have fk := hk80 _ _ _ e
      exact (fq10.put (.inl (.tail _ (.tail _ (.tail _ (.tail _ (.tail _ (.head _)))))))).tr fk
theorem hz_b97_39 {k39 : Int32 × hs_H → Option (hs_H)} {x4 : Int32} {h : hs_H} {r : hs_H} (hk39 : ∀ y1 h r, k39 (y1, h) = some r → hs_fr [(10, some 0), (35, none), (37, none), (38, some 0), (39, some 0), (40, some 0), (41, some 0)] h r) (e : hb_97_39 k39 x4 h = some r) : hs_fr [(10, some 0), (35, none), (37, none), (38, some 0), (39, some 0), (40, some 0), (41, some 0)] h r := by
  unfold hb_97_39 at e
  rcases hz_if e with e | e
  · obtain ⟨q4, eq4, e⟩ := hs_bind_some e
    have fq4 := (hs_fr.rf (K := [(10, some 0), (35, none), (37, none), (38, some 0), (39, some 0), (40, some 0), (41, some 0)]) (h := h)).tr ((hz_98 eq4).sub (hs_sub_cons (.inl (.tail _ (.tail _ (.head _)))) (hs_sub_cons (.inl (.tail _ (.tail _ (.tail _ (.head _))))) hs_sub_nil)))
    obtain ⟨q5, eq5, e⟩ := hs_bind_some e
    have fq5 := fq4.tr ((hz_101 _ eq5).sub (hs_sub_cons (.inl (.head _)) (hs_sub_cons (.inl (.tail _ (.head _))) (hs_sub_cons (.inl (.tail _ (.tail _ (.tail _ (.tail _ (.head _)))))) (hs_sub_cons (.inl (.tail _ (.tail _ (.tail _ (.tail _ (.tail _ (.head _))))))) (hs_sub_cons (.inl (.tail _ (.tail _ (.tail _ (.tail _ (.tail _ (.tail _ (.head _)))))))) hs_sub_nil))))))
    have fl := hz_lp2 (f := fun k s => hb_97_80 k s.1 s.2) (G := fun r => r) (fun k hk y1 h r e => hz_b97_80 hk e) e
    exact (fq5.put (.inl (.head _))).tr fl
  · replace e := (hs_ck_some e).2
    have fk := hk39 _ _ _ e
    exact ((hs_fr.rf (K := [(10, some 0), (35, none), (37, none), (38, some 0), (39, some 0), (40, some 0), (41, some 0)]) (h := h)).put (.inl (.tail _ (.tail _ (.tail _ (.tail _ (.tail _ (.head _)))))))).tr fk
theorem hz_97 {a1 : Int32} {a2 : Int32} {a3 : Int32} {h : hs_H} {r : hs_H} (e : hf_97 a1 a2 a3 h = some r) : hs_fr [(10, some 0), (35, none), (37, none), (38, some 0), (39, some 0), (40, some 0), (41, some 0)] h r := by
  unfold hf_97 at e
  replace e := (hs_ck_some e).2
  obtain ⟨q2, eq2, e⟩ := hs_bind_some e
  have fq2 := (((((hs_fr.rf (K := [(10, some 0), (35, none), (37, none), (38, some 0), (39, some 0), (40, some 0), (41, some 0)]) (h := h)).put (.inl (.head _))).put (.inl (.head _))).put (.inl (.head _))).put (.inl (.head _))).tr ((hz_49 eq2).sub hs_sub_nil)
  have fl := hz_lp2 (f := fun k s => hb_97_39 k s.1 s.2) (G := fun r => r) (fun k hk y1 h r e => hz_b97_39 hk e) e
  exact (fq2.put (.inl (.head _))).tr fl
theorem hz_b95_76 {h : hs_H} {r : hs_H} (e : hb_95_76 h = some r) : hs_fr [(10, some 0), (35, none), (37, none), (38, some 0), (39, some 0), (40, some 0), (41, some 0)] h r := by
  unfold hb_95_76 at e
  obtain rfl := Option.some.inj e
  exact (hs_fr.rf (K := [(10, some 0), (35, none), (37, none), (38, some 0), (39, some 0), (40, some 0), (41, some 0)]) (h := h))
theorem hz_b95_36 {x1 : Int32} {h : hs_H} {r : hs_H} (e : hb_95_36 x1 h = some r) : hs_fr [(10, some 0), (35, none), (37, none), (38, some 0), (39, some 0), (40, some 0), (41, some 0)] h r := by
  unfold hb_95_36 at e
  obtain ⟨q2, eq2, e⟩ := hs_bind_some e
  have fq2 := (hs_fr.rf (K := [(10, some 0), (35, none), (37, none), (38, some 0), (39, some 0), (40, some 0), (41, some 0)]) (h := h)).tr ((hz_97 eq2).sub (hs_sub_cons (.inl (.head _)) (hs_sub_cons (.inl (.tail _ (.head _))) (hs_sub_cons (.inl (.tail _ (.tail _ (.head _)))) (hs_sub_cons (.inl (.tail _ (.tail _ (.tail _ (.head _))))) (hs_sub_cons (.inl (.tail _ (.tail _ (.tail _ (.tail _ (.head _)))))) (hs_sub_cons (.inl (.tail _ (.tail _ (.tail _ (.tail _ (.tail _ (.head _))))))) (hs_sub_cons (.inl (.tail _ (.tail _ (.tail _ (.tail _ (.tail _ (.tail _ (.head _)))))))) hs_sub_nil))))))))
  have fk := hz_b95_76  e
  exact (((fq2.put (.inl (.head _))).put (.inl (.head _))).put (.inl (.head _))).tr fk
theorem hz_95 {a1 : Int32} {h : hs_H} {r : hs_H} (e : hf_95 a1 h = some r) : hs_fr [(10, some 0), (35, none), (37, none), (38, some 0), (39, some 0), (40, some 0), (41, some 0)] h r := by
  unfold hf_95 at e
  rcases hz_if e with e | e
  · have fk := hz_b95_36  e
    exact (hs_fr.rf (K := [(10, some 0), (35, none), (37, none), (38, some 0), (39, some 0), (40, some 0), (41, some 0)]) (h := h)).tr fk
  · rcases hz_if e with e | e
    · have fk := hz_b95_36  e
      exact (hs_fr.rf (K := [(10, some 0), (35, none), (37, none), (38, some 0), (39, some 0), (40, some 0), (41, some 0)]) (h := h)).tr fk
    · rcases hz_if e with e | e
      · have fk := hz_b95_76  e
        exact (hs_fr.rf (K := [(10, some 0), (35, none), (37, none), (38, some 0), (39, some 0), (40, some 0), (41, some 0)]) (h := h)).tr fk
      · have fk := hz_b95_36  e
        exact (hs_fr.rf (K := [(10, some 0), (35, none), (37, none), (38, some 0), (39, some 0), (40, some 0), (41, some 0)]) (h := h)).tr fk
theorem hz_120 {a1 : Int32} {h : hs_H} {r : Int32 × hs_H} (e : hf_120 a1 h = some r) : hs_fr [(10, some 0), (35, none), (37, none), (38, some 0), (39, some 0), (40, some 0), (41, some 0)] h r.2 := by
  unfold hf_120 at e
  obtain ⟨q1, eq1, e⟩ := hs_bind_some e
  have fq1 := (hs_fr.rf (K := [(10, some 0), (35, none), (37, none), (38, some 0), (39, some 0), (40, some 0), (41, some 0)]) (h := h)).tr ((hz_146 eq1).sub hs_sub_nil)
  rcases hz_if e with e | e
  · obtain ⟨q3, eq3, e⟩ := hs_bind_some e
    have fq3 := fq1.tr ((hz_95 eq3).sub (hs_sub_cons (.inl (.head _)) (hs_sub_cons (.inl (.tail _ (.head _))) (hs_sub_cons (.inl (.tail _ (.tail _ (.head _)))) (hs_sub_cons (.inl (.tail _ (.tail _ (.tail _ (.head _))))) (hs_sub_cons (.inl (.tail _ (.tail _ (.tail _ (.tail _ (.head _)))))) (hs_sub_cons (.inl (.tail _ (.tail _ (.tail _ (.tail _ (.tail _ (.head _))))))) (hs_sub_cons (.inl (.tail _ (.tail _ (.tail _ (.tail _ (.tail _ (.tail _ (.head _)))))))) hs_sub_nil))))))))
    obtain rfl := Option.some.inj e
    exact fq3
  · obtain rfl := Option.some.inj e
    exact fq1
theorem hz_b121_18 {h : hs_H} {r : Int32 × hs_H} (e : hb_121_18 h = some r) : hs_fr [(10, some 0), (35, none), (37, none), (38, some 0), (39, some 0), (40, some 0), (41, some 0)] h r.2 := by
  unfold hb_121_18 at e
  obtain rfl := Option.some.inj e
  exact (hs_fr.rf (K := [(10, some 0), (35, none), (37, none), (38, some 0), (39, some 0), (40, some 0), (41, some 0)]) (h := h))
theorem hz_121 {a1 : Int32} {a2 : Int32} {h : hs_H} {r : Int32 × hs_H} (e : hf_121 a1 a2 h = some r) : hs_fr [(10, some 0), (35, none), (37, none), (38, some 0), (39, some 0), (40, some 0), (41, some 0)] h r.2 := by
  unfold hf_121 at e
  obtain ⟨q1, eq1, e⟩ := hs_bind_some e
  have fq1 := (hs_fr.rf (K := [(10, some 0), (35, none), (37, none), (38, some 0), (39, some 0), (40, some 0), (41, some 0)]) (h := h)).tr ((hz_146 eq1).sub hs_sub_nil)
  rcases hz_if e with e | e
  · have fk := hz_b121_18  e
    exact fq1.tr fk
  · obtain ⟨q3, eq3, e⟩ := hs_bind_some e
    have fq3 := fq1.tr ((hz_146 eq3).sub hs_sub_nil)
    rcases hz_if e with e | e
    · obtain ⟨q5, eq5, e⟩ := hs_bind_some e
      have fq5 := fq3.tr ((hz_95 eq5).sub (hs_sub_cons (.inl (.head _)) (hs_sub_cons (.inl (.tail _ (.head _))) (hs_sub_cons (.inl (.tail _ (.tail _ (.head _)))) (hs_sub_cons (.inl (.tail _ (.tail _ (.tail _ (.head _))))) (hs_sub_cons (.inl (.tail _ (.tail _ (.tail _ (.tail _ (.head _)))))) (hs_sub_cons (.inl (.tail _ (.tail _ (.tail _ (.tail _ (.tail _ (.head _))))))) (hs_sub_cons (.inl (.tail _ (.tail _ (.tail _ (.tail _ (.tail _ (.tail _ (.head _)))))))) hs_sub_nil))))))))
      replace e := (hs_ck_some e).2
      obtain rfl := Option.some.inj e
      exact fq5
    · have fk := hz_b121_18  e
      exact fq3.tr fk
theorem hz_b122_18 {h : hs_H} {r : Int32 × hs_H} (e : hb_122_18 h = some r) : hs_fr [(10, some 0), (35, none), (37, none), (38, some 0), (39, some 0), (40, some 0), (41, some 0)] h r.2 := by
  unfold hb_122_18 at e
  obtain rfl := Option.some.inj e
  exact (hs_fr.rf (K := [(10, some 0), (35, none), (37, none), (38, some 0), (39, some 0), (40, some 0), (41, some 0)]) (h := h))
theorem hz_b122_55 {s0 : Int32} {h : hs_H} {r : Int32 × hs_H} (e : hb_122_55 s0 h = some r) : hs_fr [(10, some 0), (35, none), (37, none), (38, some 0), (39, some 0), (40, some 0), (41, some 0)] h r.2 := by
  unfold hb_122_55 at e
  obtain rfl := Option.some.inj e
  exact (hs_fr.rf (K := [(10, some 0), (35, none), (37, none), (38, some 0), (39, some 0), (40, some 0), (41, some 0)]) (h := h))
theorem hz_122 {a1 : Int32} {a2 : Int32} {h : hs_H} {r : Int32 × hs_H} (e : hf_122 a1 a2 h = some r) : hs_fr [(10, some 0), (35, none), (37, none), (38, some 0), (39, some 0), (40, some 0), (41, some 0)] h r.2 := by
  unfold hf_122 at e
  obtain ⟨q1, eq1, e⟩ := hs_bind_some e
  have fq1 := (hs_fr.rf (K := [(10, some 0), (35, none), (37, none), (38, some 0), (39, some 0), (40, some 0), (41, some 0)]) (h := h)).tr ((hz_146 eq1).sub hs_sub_nil)
  rcases hz_if e with e | e
  · have fk := hz_b122_18  e
    exact fq1.tr fk
  · obtain ⟨q3, eq3, e⟩ := hs_bind_some e
    have fq3 := fq1.tr ((hz_146 eq3).sub hs_sub_nil)
    rcases hz_if e with e | e
    · obtain ⟨q5, eq5, e⟩ := hs_bind_some e
      have fq5 := fq3.tr ((hz_95 eq5).sub (hs_sub_cons (.inl (.head _)) (hs_sub_cons (.inl (.tail _ (.head _))) (hs_sub_cons (.inl (.tail _ (.tail _ (.head _)))) (hs_sub_cons (.inl (.tail _ (.tail _ (.tail _ (.head _))))) (hs_sub_cons (.inl (.tail _ (.tail _ (.tail _ (.tail _ (.head _)))))) (hs_sub_cons (.inl (.tail _ (.tail _ (.tail _ (.tail _ (.tail _ (.head _))))))) (hs_sub_cons (.inl (.tail _ (.tail _ (.tail _ (.tail _ (.tail _ (.tail _ (.head _)))))))) hs_sub_nil))))))))
      replace e := (hs_ck_some e).2
      obtain ⟨q7, eq7, e⟩ := hs_bind_some e
      have fq7 := fq5.tr ((hz_240 eq7).sub hs_sub_nil)
      rcases hz_if e with e | e
      · have fk := hz_b122_55  e
        exact fq7.tr fk
      · obtain ⟨q9, eq9, e⟩ := hs_bind_some e
        have fq9 := fq7.tr ((hz_148 eq9).sub hs_sub_nil)
        have fk := hz_b122_55  e
        exact fq9.tr fk
    · have fk := hz_b122_18  e
      exact fq3.tr fk
theorem hz_b123_18 {h : hs_H} {r : Int32 × hs_H} (e : hb_123_18 h = some r) : hs_fr [(10, some 0), (35, none), (37, none), (38, some 0), (39, some 0), (40, some 0), (41, some 0)] h r.2 := by
  unfold hb_123_18 at e
  obtain rfl := Option.some.inj e
  exact (hs_fr.rf (K := [(10, some 0), (35, none), (37, none), (38, some 0), (39, some 0), (40, some 0), (41, some 0)]) (h := h))
theorem hz_b123_52 {s0 : Int32} {h : hs_H} {r : Int32 × hs_H} (e : hb_123_52 s0 h = some r) : hs_fr [(10, some 0), (35, none), (37, none), (38, some 0), (39, some 0), (40, some 0), (41, some 0)] h r.2 := by
  unfold hb_123_52 at e
  obtain rfl := Option.some.inj e
  exact (hs_fr.rf (K := [(10, some 0), (35, none), (37, none), (38, some 0), (39, some 0), (40, some 0), (41, some 0)]) (h := h))
theorem hz_123 {a1 : Int32} {a2 : Int32} {h : hs_H} {r : Int32 × hs_H} (e : hf_123 a1 a2 h = some r) : hs_fr [(10, some 0), (35, none), (37, none), (38, some 0), (39, some 0), (40, some 0), (41, some 0)] h r.2 := by
  unfold hf_123 at e
  obtain ⟨q1, eq1, e⟩ := hs_bind_some e
  have fq1 := (hs_fr.rf (K := [(10, some 0), (35, none), (37, none), (38, some 0), (39, some 0), (40, some 0), (41, some 0)]) (h := h)).tr ((hz_146 eq1).sub hs_sub_nil)
  rcases hz_if e with e | e
  · have fk := hz_b123_18  e
    exact fq1.tr fk
  · obtain ⟨q3, eq3, e⟩ := hs_bind_some e
    have fq3 := fq1.tr ((hz_146 eq3).sub hs_sub_nil)
    rcases hz_if e with e | e
    · obtain ⟨q5, eq5, e⟩ := hs_bind_some e
      have fq5 := fq3.tr ((hz_95 eq5).sub (hs_sub_cons (.inl (.head _)) (hs_sub_cons (.inl (.tail _ (.head _))) (hs_sub_cons (.inl (.tail _ (.tail _ (.head _)))) (hs_sub_cons (.inl (.tail _ (.tail _ (.tail _ (.head _))))) (hs_sub_cons (.inl (.tail _ (.tail _ (.tail _ (.tail _ (.head _)))))) (hs_sub_cons (.inl (.tail _ (.tail _ (.tail _ (.tail _ (.tail _ (.head _))))))) (hs_sub_cons (.inl (.tail _ (.tail _ (.tail _ (.tail _ (.tail _ (.tail _ (.head _)))))))) hs_sub_nil))))))))
      rcases hz_if e with e | e
      · have fk := hz_b123_52  e
        exact fq5.tr fk
      · replace e := (hs_ck_some e).2
        have fk := hz_b123_52  e
        exact fq5.tr fk
    · have fk := hz_b123_18  e
      exact fq3.tr fk
theorem hz_b96_8 {k8 : Int32 × hs_H → Option (Int32 × hs_H)} {x1 : Int32} {h : hs_H} {r : Int32 × hs_H} (hk8 : ∀ y1 h r, k8 (y1, h) = some r → hs_fr [(10, some 0), (35, none), (37, none), (38, some 0), (39, some 0), (40, some 0), (41, some 0)] h r.2) (e : hb_96_8 k8 x1 h = some r) : hs_fr [(10, some 0), (35, none), (37, none), (38, some 0), (39, some 0), (40, some 0), (41, some 0)] h r.2 := by
  unfold hb_96_8 at e
  rcases hz_if e with e | e
  · obtain rfl := Option.some.inj e
    exact (hs_fr.rf (K := [(10, some 0), (35, none), (37, none), (38, some 0), (39, some 0), (40, some 0), (41, some 0)]) (h := h))
  · obtain ⟨q2, eq2, e⟩ := hs_bind_some e
    have fq2 := (hs_fr.rf (K := [(10, some 0), (35, none), (37, none), (38, some 0), (39, some 0), (40, some 0), (41, some 0)]) (h := h)).tr ((hz_97 eq2).sub (hs_sub_cons (.inl (.head _)) (hs_sub_cons (.inl (.tail _ (.head _))) (hs_sub_cons (.inl (.tail _ (.tail _ (.head _)))) (hs_sub_cons (.inl (.tail _ (.tail _ (.tail _ (.head _))))) (hs_sub_cons (.inl (.tail _ (.tail _ (.tail _ (.tail _ (.head _)))))) (hs_sub_cons (.inl (.tail _ (.tail _ (.tail _ (.tail _ (.tail _ (.head _))))))) (hs_sub_cons (.inl (.tail _ (.tail _ (.tail _ (.tail _ (.tail _ (.tail _ (.head _)))))))) hs_sub_nil))))))))
    rcases hz_if e with e | e
    · have fk := hk8 _ _ _ e
      exact fq2.tr fk
    · obtain rfl := Option.some.inj e
      exact fq2
theorem hz_96 {h : hs_H} {r : Int32 × hs_H} (e : hf_96 h = some r) : hs_fr [(10, some 0), (35, none), (37, none), (38, some 0), (39, some 0), (40, some 0), (41, some 0)] h r.2 := by
  unfold hf_96 at e
  have fl := hz_lp2 (f := fun k s => hb_96_8 k s.1 s.2) (G := fun r => r.2) (fun k hk y1 h r e => hz_b96_8 hk e) e
  exact ((hs_fr.rf (K := [(10, some 0), (35, none), (37, none), (38, some 0), (39, some 0), (40, some 0), (41, some 0)]) (h := h)).put (.inl (.head _))).tr fl
theorem hz_124 {h : hs_H} {r : Int32 × hs_H} (e : hf_124 h = some r) : hs_fr [(10, some 0), (35, none), (37, none), (38, some 0), (39, some 0), (40, some 0), (41, some 0)] h r.2 := by
  unfold hf_124 at e
  obtain ⟨q1, eq1, e⟩ := hs_bind_some e
  have fq1 := (hs_fr.rf (K := [(10, some 0), (35, none), (37, none), (38, some 0), (39, some 0), (40, some 0), (41, some 0)]) (h := h)).tr ((hz_96 eq1).sub (hs_sub_cons (.inl (.head _)) (hs_sub_cons (.inl (.tail _ (.head _))) (hs_sub_cons (.inl (.tail _ (.tail _ (.head _)))) (hs_sub_cons (.inl (.tail _ (.tail _ (.tail _ (.head _))))) (hs_sub_cons (.inl (.tail _ (.tail _ (.tail _ (.tail _ (.head _)))))) (hs_sub_cons (.inl (.tail _ (.tail _ (.tail _ (.tail _ (.tail _ (.head _))))))) (hs_sub_cons (.inl (.tail _ (.tail _ (.tail _ (.tail _ (.tail _ (.tail _ (.head _)))))))) hs_sub_nil))))))))
  obtain rfl := Option.some.inj e
  exact fq1
theorem hz_b127_36 {s0 : Int32} {h : hs_H} {r : Int32 × hs_H} (e : hb_127_36 s0 h = some r) : hs_fr [] h r.2 := by
  unfold hb_127_36 at e
  replace e := (hs_ck_some e).2
  obtain rfl := Option.some.inj e
  exact (hs_fr.rf (K := []) (h := h))
theorem hz_b127_35 {h : hs_H} {r : Int32 × hs_H} (e : hb_127_35 h = some r) : hs_fr [] h r.2 := by
  unfold hb_127_35 at e
  have fk := hz_b127_36  e
  exact (hs_fr.rf (K := []) (h := h)).tr fk
theorem hz_127 {a1 : Int32} {a2 : Int32} {a3 : Int32} {h : hs_H} {r : Int32 × hs_H} (e : hf_127 a1 a2 a3 h = some r) : hs_fr [] h r.2 := by
  unfold hf_127 at e
  obtain ⟨q1, eq1, e⟩ := hs_bind_some e
  have fq1 := (hs_fr.rf (K := []) (h := h)).tr ((hz_29 eq1).sub hs_sub_nil)
  rcases hz_if e with e | e
  · have fk := hz_b127_35  e
    exact fq1.tr fk
  · obtain ⟨q4, eq4, e⟩ := hs_bind_some e
    have fq4 := fq1.tr ((hz_146 eq4).sub hs_sub_nil)
    rcases hz_if e with e | e
    · have fk := hz_b127_35  e
      exact fq4.tr fk
    · obtain ⟨q6, eq6, e⟩ := hs_bind_some e
      have fq6 := fq4.tr ((hz_30 eq6).sub hs_sub_nil)
      rcases hz_if e with e | e
      · have fk := hz_b127_35  e
        exact fq6.tr fk
      · have fk := hz_b127_36  e
        exact fq6.tr fk
theorem hz_b26_23 {h : hs_H} {r : hs_H} (e : hb_26_23 h = some r) : hs_fr [(2, some 0)] h r := by
  unfold hb_26_23 at e
  obtain rfl := Option.some.inj e
  exact (hs_fr.rf (K := [(2, some 0)]) (h := h))
theorem hz_26 {a1 : Int32} {a2 : Int32} {h : hs_H} {r : hs_H} (e : hf_26 a1 a2 h = some r) : hs_fr [(2, some 0)] h r := by
  unfold hf_26 at e
  obtain ⟨q1, eq1, e⟩ := hs_bind_some e
  have fq1 := (hs_fr.rf (K := [(2, some 0)]) (h := h)).tr ((hz_240 eq1).sub hs_sub_nil)
  rcases hz_if e with e | e
  · have fk := hz_b26_23  e
    exact fq1.tr fk
  · have fk := hz_b26_23  e
    exact ((fq1.put (.inl (.head _))).put (.inl (.head _))).tr fk
theorem hz_b25_13 {self : Int32 → Int32 → Int32 → Int32 → hs_H → Option (hs_H)} {x3 : Int32} {x4 : Int32} {h : hs_H} {r : hs_H} (hself : ∀ a1 a2 a3 a4 h r, self a1 a2 a3 a4 h = some r → hs_fr [(2, some 0)] h r) (e : hb_25_13 self x3 x4 h = some r) : hs_fr [(2, some 0)] h r := by
  unfold hb_25_13 at e
  obtain ⟨q2, eq2, e⟩ := hs_bind_some e
  have fq2 := (hs_fr.rf (K := [(2, some 0)]) (h := h)).tr ((hz_26 eq2).sub (hs_sub_cons (.inl (.head _)) hs_sub_nil))
  obtain rfl := Option.some.inj e
  exact fq2
theorem hz_b25_118 {self : Int32 → Int32 → Int32 → Int32 → hs_H → Option (hs_H)} {k51 : Int32 × Int32 × Int32 × Int32 × Int32 × hs_H → Option (hs_H)} {x1 : Int32} {x4 : Int32} {x5 : Int32} {x6 : Int32} {x7 : Int32} {h : hs_H} {r : hs_H} (hk51 : ∀ y1 y2 y3 y4 y5 h r, k51 (y1, y2, y3, y4, y5, h) = some r → hs_fr [(2, some 0)] h r) (hself : ∀ a1 a2 a3 a4 h r, self a1 a2 a3 a4 h = some r → hs_fr [(2, some 0)] h r) (e : hb_25_118 self k51 x1 x4 x5 x6 x7 h = some r) : hs_fr [(2, some 0)] h r := by
  unfold hb_25_118 at e
  have fk := hk51 _ _ _ _ _ _ _ e
  exact (hs_fr.rf (K := [(2, some 0)]) (h := h)).tr fk
theorem hz_b25_94 {self : Int32 → Int32 → Int32 → Int32 → hs_H → Option (hs_H)} {k51 : Int32 × Int32 × Int32 × Int32 × Int32 × hs_H → Option (hs_H)} {x1 : Int32} {x4 : Int32} {x5 : Int32} {x6 : Int32} {x7 : Int32} {s0 : Int32} {h : hs_H} {r : hs_H} (hk51 : ∀ y1 y2 y3 y4 y5 h r, k51 (y1, y2, y3, y4, y5, h) = some r → hs_fr [(2, some 0)] h r) (hself : ∀ a1 a2 a3 a4 h r, self a1 a2 a3 a4 h = some r → hs_fr [(2, some 0)] h r) (e : hb_25_94 self k51 x1 x4 x5 x6 x7 s0 h = some r) : hs_fr [(2, some 0)] h r := by
  unfold hb_25_94 at e
  obtain ⟨q11, eq11, e⟩ := hs_bind_some e
  have fq11 := (hs_fr.rf (K := [(2, some 0)]) (h := h)).tr (hself _ _ _ _ _ _ eq11)
  have fk := hz_b25_118 hk51 hself e
  exact fq11.tr fk
theorem hz_b25_51 {self : Int32 → Int32 → Int32 → Int32 → hs_H → Option (hs_H)} {k51 : Int32 × Int32 × Int32 × Int32 × Int32 × hs_H → Option (hs_H)} {x1 : Int32} {x4 : Int32} {x5 : Int32} {x6 : Int32} {x7 : Int32} {h : hs_H} {r : hs_H} (hk51 : ∀ y1 y2 y3 y4 y5 h r, k51 (y1, y2, y3, y4, y5, h) = some r → hs_fr [(2, some 0)] h r) (hself : ∀ a1 a2 a3 a4 h r, self a1 a2 a3 a4 h = some r → hs_fr [(2, some 0)] h r) (e : hb_25_51 self k51 x1 x4 x5 x6 x7 h = some r) : hs_fr [(2, some 0)] h r := by
  unfold hb_25_51 at e
  rcases hz_if e with e | e
  · obtain rfl := Option.some.inj e
    exact (hs_fr.rf (K := [(2, some 0)]) (h := h))
  · obtain ⟨q7, eq7, e⟩ := hs_bind_some e
    have fq7 := (hs_fr.rf (K := [(2, some 0)]) (h := h)).tr ((hz_147 eq7).sub hs_sub_nil)
    rcases hz_if e with e | e
    · have fk := hz_b25_118 hk51 hself e
      exact fq7.tr fk
    · obtain ⟨q9, eq9, e⟩ := hs_bind_some e
      have fq9 := fq7.tr ((hz_147 eq9).sub hs_sub_nil)
      rcases hz_if e with e | e
      · have fk := hz_b25_94 hk51 hself e
        exact fq9.tr fk
      · have fk := hz_b25_94 hk51 hself e
        exact fq9.tr fk
