/-! Frames: which kinds and instances a function writes; by gen7.py. -/
theorem hz_b51_16 {k16 : Int64 × Int32 × hs_H → Option (Int32 × hs_H)} {x1 : Int64} {x3 : Int32} {h : hs_H} {r : Int32 × hs_H} (hk16 : ∀ y1 y2 h r, k16 (y1, y2, h) = some r → hs_fr [(6, some 0), (31, some 0)] h r.2) (e : hb_51_16 k16 x1 x3 h = some r) : hs_fr [(6, some 0), (31, some 0)] h r.2 := by
  unfold hb_51_16 at e
  rcases hz_if e with e | e
  · obtain rfl := Option.some.inj e
    exact (hs_fr.rf (K := [(6, some 0), (31, some 0)]) (h := h))
  · replace e := (hs_ck_some e).2
    have fk := hk16 _ _ _ _ e
    exact (((hs_fr.rf (K := [(6, some 0), (31, some 0)]) (h := h)).put (.inl (.tail _ (.head _)))).put (.inl (.head _))).tr fk
theorem hz_51 {a1 : Int64} {h : hs_H} {r : Int32 × hs_H} (e : hf_51 a1 h = some r) : hs_fr [(6, some 0), (31, some 0)] h r.2 := by
  unfold hf_51 at e
  rcases hz_if e with e | e
  · have fl := hz_lp3 (f := fun k s => hb_51_16 k s.1 s.2.1 s.2.2) (G := fun r => r.2) (fun k hk y1 y2 h r e => hz_b51_16 hk e) e
    exact (hs_fr.rf (K := [(6, some 0), (31, some 0)]) (h := h)).tr fl
  · obtain rfl := Option.some.inj e
    exact (hs_fr.rf (K := [(6, some 0), (31, some 0)]) (h := h))
theorem hz_105 {a1 : Int64} {h : hs_H} {r : Int32 × hs_H} (e : hf_105 a1 h = some r) : hs_fr [(6, some 0), (31, some 0)] h r.2 := by
  unfold hf_105 at e
  obtain ⟨q1, eq1, e⟩ := hs_bind_some e
  have fq1 := (hs_fr.rf (K := [(6, some 0), (31, some 0)]) (h := h)).tr ((hz_51 eq1).sub (hs_sub_cons (.inl (.head _)) (hs_sub_cons (.inl (.tail _ (.head _))) hs_sub_nil)))
  obtain rfl := Option.some.inj e
  exact fq1
theorem hz_b52_12 {h : hs_H} {r : Int32 × hs_H} (e : hb_52_12 h = some r) : hs_fr [(6, some 0)] h r.2 := by
  unfold hb_52_12 at e
  obtain rfl := Option.some.inj e
  exact (hs_fr.rf (K := [(6, some 0)]) (h := h))
theorem hz_52 {a1 : Int32} {h : hs_H} {r : Int32 × hs_H} (e : hf_52 a1 h = some r) : hs_fr [(6, some 0)] h r.2 := by
  unfold hf_52 at e
  rcases hz_if e with e | e
  · have fk := hz_b52_12  e
    exact (hs_fr.rf (K := [(6, some 0)]) (h := h)).tr fk
  · rcases hz_if e with e | e
    · obtain rfl := Option.some.inj e
      exact ((hs_fr.rf (K := [(6, some 0)]) (h := h)).put (.inl (.head _)))
    · have fk := hz_b52_12  e
      exact (hs_fr.rf (K := [(6, some 0)]) (h := h)).tr fk
theorem hz_106 {a1 : Int32} {h : hs_H} {r : Int32 × hs_H} (e : hf_106 a1 h = some r) : hs_fr [(6, some 0)] h r.2 := by
  unfold hf_106 at e
  obtain ⟨q1, eq1, e⟩ := hs_bind_some e
  have fq1 := (hs_fr.rf (K := [(6, some 0)]) (h := h)).tr ((hz_52 eq1).sub (hs_sub_cons (.inl (.head _)) hs_sub_nil))
  obtain rfl := Option.some.inj e
  exact fq1
theorem hz_b27_2 {o : Nat} {k2 : Int32 × hs_H → Option (hs_H)} {x1 : Int32} {h : hs_H} {r : hs_H} (hk2 : ∀ y1 h r, k2 (y1, h) = some r → hs_fr [(4, some o), (27, some o)] h r) (e : hb_27_2 o k2 x1 h = some r) : hs_fr [(4, some o), (27, some o)] h r := by
  unfold hb_27_2 at e
  rcases hz_if e with e | e
  · obtain rfl := Option.some.inj e
    exact (((((((hs_fr.rf (K := [(4, some o), (27, some o)]) (h := h)).put (.inl (.head _))).put (.inl (.head _))).put (.inl (.head _))).put (.inl (.head _))).put (.inl (.head _))).put (.inl (.head _)))
  · replace e := (hs_ck_some e).2
    have fk := hk2 _ _ _ e
    exact ((hs_fr.rf (K := [(4, some o), (27, some o)]) (h := h)).put (.inl (.tail _ (.head _)))).tr fk
theorem hz_27 {o : Nat} {h : hs_H} {r : hs_H} (e : hf_27 o h = some r) : hs_fr [(4, some o), (27, some o)] h r := by
  unfold hf_27 at e
  have fl := hz_lp2 (f := fun k s => hb_27_2 o k s.1 s.2) (G := fun r => r) (fun k hk y1 h r e => hz_b27_2 hk e) e
  exact (hs_fr.rf (K := [(4, some o), (27, some o)]) (h := h)).tr fl
theorem hz_b47_27 {o : Nat} {h : hs_H} {r : hs_H} (e : hb_47_27 o h = some r) : hs_fr [(5, some o)] h r := by
  unfold hb_47_27 at e
  obtain rfl := Option.some.inj e
  exact (hs_fr.rf (K := [(5, some o)]) (h := h))
theorem hz_47 {o : Nat} {a1 : Int32} {h : hs_H} {r : hs_H} (e : hf_47 o a1 h = some r) : hs_fr [(5, some o)] h r := by
  unfold hf_47 at e
  rcases hz_if e with e | e
  · have fk := hz_b47_27  e
    exact (hs_fr.rf (K := [(5, some o)]) (h := h)).tr fk
  · rcases hz_if e with e | e
    · have fk := hz_b47_27  e
      exact (hs_fr.rf (K := [(5, some o)]) (h := h)).tr fk
    · have fk := hz_b47_27  e
      exact (((hs_fr.rf (K := [(5, some o)]) (h := h)).put (.inl (.head _))).put (.inl (.head _))).tr fk
theorem hz_31 {o : Nat} {h : hs_H} {r : Int32 × hs_H} (e : hf_31 o h = some r) : hs_fr [] h r.2 := by
  unfold hf_31 at e
  obtain rfl := Option.some.inj e
  exact (hs_fr.rf (K := []) (h := h))
theorem hz_b30_16 {o : Nat} {s0 : Int32} {h : hs_H} {r : Int32 × hs_H} (e : hb_30_16 o s0 h = some r) : hs_fr [] h r.2 := by
  unfold hb_30_16 at e
  replace e := (hs_ck_some e).2
  obtain rfl := Option.some.inj e
  exact (hs_fr.rf (K := []) (h := h))
theorem hz_30 {o : Nat} {a1 : Int32} {h : hs_H} {r : Int32 × hs_H} (e : hf_30 o a1 h = some r) : hs_fr [] h r.2 := by
  unfold hf_30 at e
  obtain ⟨q1, eq1, e⟩ := hs_bind_some e
  have fq1 := (hs_fr.rf (K := []) (h := h)).tr ((hz_31 eq1).sub hs_sub_nil)
  rcases hz_if e with e | e
  · have fk := hz_b30_16  e
    exact fq1.tr fk
  · have fk := hz_b30_16  e
    exact fq1.tr fk
theorem hz_54 {a1 : Int32} {a2 : Int32} {h : hs_H} {r : Int32 × hs_H} (e : hf_54 a1 a2 h = some r) : hs_fr [(6, some 0)] h r.2 := by
  unfold hf_54 at e
  obtain rfl := Option.some.inj e
  exact (((hs_fr.rf (K := [(6, some 0)]) (h := h)).put (.inl (.head _))).put (.inl (.head _)))
theorem hz_b71_19 {h : hs_H} {r : Int32 × hs_H} (e : hb_71_19 h = some r) : hs_fr [] h r.2 := by
  unfold hb_71_19 at e
  obtain rfl := Option.some.inj e
  exact (hs_fr.rf (K := []) (h := h))
theorem hz_b71_98 {s0 : Int32} {h : hs_H} {r : Int32 × hs_H} (e : hb_71_98 s0 h = some r) : hs_fr [] h r.2 := by
  unfold hb_71_98 at e
  obtain rfl := Option.some.inj e
  exact (hs_fr.rf (K := []) (h := h))
theorem hz_b71_69 {x1 : Int32} {h : hs_H} {r : Int32 × hs_H} (e : hb_71_69 x1 h = some r) : hs_fr [] h r.2 := by
  unfold hb_71_69 at e
  replace e := (hs_ck_some e).2
  rcases hz_if e with e | e
  · replace e := (hs_ck_some e).2
    rcases hz_if e with e | e
    · have fk := hz_b71_98  e
      exact (hs_fr.rf (K := []) (h := h)).tr fk
    · have fk := hz_b71_98  e
      exact (hs_fr.rf (K := []) (h := h)).tr fk
  · obtain rfl := Option.some.inj e
    exact (hs_fr.rf (K := []) (h := h))
theorem hz_b71_45 {x1 : Int32} {h : hs_H} {r : Int32 × hs_H} (e : hb_71_45 x1 h = some r) : hs_fr [] h r.2 := by
  unfold hb_71_45 at e
  replace e := (hs_ck_some e).2
  rcases hz_if e with e | e
  · have fk := hz_b71_69  e
    exact (hs_fr.rf (K := []) (h := h)).tr fk
  · replace e := (hs_ck_some e).2
    rcases hz_if e with e | e
    · have fk := hz_b71_69  e
      exact (hs_fr.rf (K := []) (h := h)).tr fk
    · obtain rfl := Option.some.inj e
      exact (hs_fr.rf (K := []) (h := h))
theorem hz_71 {a1 : Int32} {h : hs_H} {r : Int32 × hs_H} (e : hf_71 a1 h = some r) : hs_fr [] h r.2 := by
  unfold hf_71 at e
  rcases hz_if e with e | e
  · have fk := hz_b71_19  e
    exact (hs_fr.rf (K := []) (h := h)).tr fk
  · rcases hz_if e with e | e
    · have fk := hz_b71_19  e
      exact (hs_fr.rf (K := []) (h := h)).tr fk
    · rcases hz_if e with e | e
      · replace e := (hs_ck_some e).2
        rcases hz_if e with e | e
        · have fk := hz_b71_45  e
          exact (hs_fr.rf (K := []) (h := h)).tr fk
        · replace e := (hs_ck_some e).2
          rcases hz_if e with e | e
          · have fk := hz_b71_45  e
            exact (hs_fr.rf (K := []) (h := h)).tr fk
          · obtain rfl := Option.some.inj e
            exact (hs_fr.rf (K := []) (h := h))
      · have fk := hz_b71_19  e
        exact (hs_fr.rf (K := []) (h := h)).tr fk
theorem hz_b70_43 {x1 : Int32} {h : hs_H} {r : Int32 × hs_H} (e : hb_70_43 x1 h = some r) : hs_fr [] h r.2 := by
  unfold hb_70_43 at e
  obtain rfl := Option.some.inj e
  exact (hs_fr.rf (K := []) (h := h))
theorem hz_b70_7 {k7 : Int32 × Int32 × hs_H → Option (Int32 × hs_H)} {x1 : Int32} {x2 : Int32} {h : hs_H} {r : Int32 × hs_H} (hk7 : ∀ y1 y2 h r, k7 (y1, y2, h) = some r → hs_fr [] h r.2) (e : hb_70_7 k7 x1 x2 h = some r) : hs_fr [] h r.2 := by
  unfold hb_70_7 at e
  rcases hz_if e with e | e
  · have fk := hz_b70_43  e
    exact (hs_fr.rf (K := []) (h := h)).tr fk
  · rcases hz_if e with e | e
    · have fk := hz_b70_43  e
      exact (hs_fr.rf (K := []) (h := h)).tr fk
    · replace e := (hs_ck_some e).2
      have fk := hk7 _ _ _ _ e
      exact (hs_fr.rf (K := []) (h := h)).tr fk
theorem hz_70 {h : hs_H} {r : Int32 × hs_H} (e : hf_70 h = some r) : hs_fr [] h r.2 := by
  unfold hf_70 at e
  have fl := hz_lp3 (f := fun k s => hb_70_7 k s.1 s.2.1 s.2.2) (G := fun r => r.2) (fun k hk y1 y2 h r e => hz_b70_7 hk e) e
  exact (hs_fr.rf (K := []) (h := h)).tr fl
theorem hz_b69_161 {h : hs_H} {r : Int32 × hs_H} (e : hb_69_161 h = some r) : hs_fr [(6, some 0)] h r.2 := by
  unfold hb_69_161 at e
  obtain ⟨q6, eq6, e⟩ := hs_bind_some e
  have fq6 := (hs_fr.rf (K := [(6, some 0)]) (h := h)).tr ((hz_54 eq6).sub (hs_sub_cons (.inl (.head _)) hs_sub_nil))
  replace e := (hs_ck_some e).2
  obtain rfl := Option.some.inj e
  exact fq6
theorem hz_b69_188 {s0 : Int32} {h : hs_H} {r : Int32 × hs_H} (e : hb_69_188 s0 h = some r) : hs_fr [(6, some 0)] h r.2 := by
  unfold hb_69_188 at e
  obtain rfl := Option.some.inj e
  exact ((hs_fr.rf (K := [(6, some 0)]) (h := h)).put (.inl (.head _)))
theorem hz_b69_171 {h : hs_H} {r : Int32 × hs_H} (e : hb_69_171 h = some r) : hs_fr [(6, some 0)] h r.2 := by
  unfold hb_69_171 at e
  rcases hz_if e with e | e
  · have fk := hz_b69_188  e
    exact (hs_fr.rf (K := [(6, some 0)]) (h := h)).tr fk
  · obtain ⟨q10, eq10, e⟩ := hs_bind_some e
    have fq10 := (hs_fr.rf (K := [(6, some 0)]) (h := h)).tr ((hz_70 eq10).sub hs_sub_nil)
    have fk := hz_b69_188  e
    exact fq10.tr fk
theorem hz_b69_132 {h : hs_H} {r : Int32 × hs_H} (e : hb_69_132 h = some r) : hs_fr [(6, some 0)] h r.2 := by
  unfold hb_69_132 at e
  rcases hz_if e with e | e
  · have fk := hz_b69_161  e
    exact (hs_fr.rf (K := [(6, some 0)]) (h := h)).tr fk
  · rcases hz_if e with e | e
    · have fk := hz_b69_171  e
      exact (hs_fr.rf (K := [(6, some 0)]) (h := h)).tr fk
    · rcases hz_if e with e | e
      · have fk := hz_b69_171  e
        exact (hs_fr.rf (K := [(6, some 0)]) (h := h)).tr fk
      · have fk := hz_b69_161  e
        exact (hs_fr.rf (K := [(6, some 0)]) (h := h)).tr fk
theorem hz_b69_104 {k77 : hs_H → Option (Int32 × hs_H)} {h : hs_H} {r : Int32 × hs_H} (hk77 : ∀  h r, k77 (h) = some r → hs_fr [(6, some 0)] h r.2) (e : hb_69_104 k77 h = some r) : hs_fr [(6, some 0)] h r.2 := by
  unfold hb_69_104 at e
  obtain ⟨q13, eq13, e⟩ := hs_bind_some e
  have fq13 := (hs_fr.rf (K := [(6, some 0)]) (h := h)).tr ((hz_71 eq13).sub hs_sub_nil)
  rcases hz_if e with e | e
  · have fk := hz_b69_132  e
    exact fq13.tr fk
  · have fk := hk77 _ _ e
    exact (fq13.put (.inl (.head _))).tr fk
theorem hz_b69_77 {k77 : hs_H → Option (Int32 × hs_H)} {h : hs_H} {r : Int32 × hs_H} (hk77 : ∀  h r, k77 (h) = some r → hs_fr [(6, some 0)] h r.2) (e : hb_69_77 k77 h = some r) : hs_fr [(6, some 0)] h r.2 := by
  unfold hb_69_77 at e
  rcases hz_if e with e | e
  · have fk := hz_b69_132  e
    exact (hs_fr.rf (K := [(6, some 0)]) (h := h)).tr fk
  · rcases hz_if e with e | e
    · have fk := hz_b69_104 hk77 e
      exact (hs_fr.rf (K := [(6, some 0)]) (h := h)).tr fk
    · rcases hz_if e with e | e
      · have fk := hz_b69_132  e
        exact (hs_fr.rf (K := [(6, some 0)]) (h := h)).tr fk
      · have fk := hz_b69_104 hk77 e
        exact (hs_fr.rf (K := [(6, some 0)]) (h := h)).tr fk
theorem hz_b69_73 {s0 : Int32} {s1 : Int32} {h : hs_H} {r : Int32 × hs_H} (e : hb_69_73 s0 s1 h = some r) : hs_fr [(6, some 0)] h r.2 := by
  unfold hb_69_73 at e
  have fl := hz_lp1 (f := fun k s => hb_69_77 k s) (G := fun r => r.2) (fun k hk  h r e => hz_b69_77 hk e) e
  exact ((hs_fr.rf (K := [(6, some 0)]) (h := h)).put (.inl (.head _))).tr fl
theorem hz_b69_36 {h : hs_H} {r : Int32 × hs_H} (e : hb_69_36 h = some r) : hs_fr [(6, some 0)] h r.2 := by
  unfold hb_69_36 at e
  obtain ⟨q2, eq2, e⟩ := hs_bind_some e
  have fq2 := ((hs_fr.rf (K := [(6, some 0)]) (h := h)).put (.inl (.head _))).tr ((hz_71 eq2).sub hs_sub_nil)
  rcases hz_if e with e | e
  · have fk := hz_b69_73  e
    exact (fq2.put (.inl (.head _))).tr fk
  · have fk := hz_b69_73  e
    exact (fq2.put (.inl (.head _))).tr fk
theorem hz_b69_0 {k0 : hs_H → Option (Int32 × hs_H)} {h : hs_H} {r : Int32 × hs_H} (hk0 : ∀  h r, k0 (h) = some r → hs_fr [(6, some 0)] h r.2) (e : hb_69_0 k0 h = some r) : hs_fr [(6, some 0)] h r.2 := by
  unfold hb_69_0 at e
  rcases hz_if e with e | e
  · have fk := hz_b69_36  e
    exact (hs_fr.rf (K := [(6, some 0)]) (h := h)).tr fk
  · obtain ⟨q16, eq16, e⟩ := hs_bind_some e
    have fq16 := (hs_fr.rf (K := [(6, some 0)]) (h := h)).tr ((hz_71 eq16).sub hs_sub_nil)
    rcases hz_if e with e | e
    · have fk := hz_b69_36  e
      exact fq16.tr fk
    · have fk := hk0 _ _ e
      exact (fq16.put (.inl (.head _))).tr fk
theorem hz_69 {h : hs_H} {r : Int32 × hs_H} (e : hf_69 h = some r) : hs_fr [(6, some 0)] h r.2 := by
  unfold hf_69 at e
  have fl := hz_lp1 (f := fun k s => hb_69_0 k s) (G := fun r => r.2) (fun k hk  h r e => hz_b69_0 hk e) e
  exact (hs_fr.rf (K := [(6, some 0)]) (h := h)).tr fl
theorem hz_b72_64_67 {p1 : Nat} {h : hs_H} {r : Int32 × hs_H} (e : hb_72_64_67 p1 h = some r) : hs_fr [] h r.2 := by
  unfold hb_72_64_67 at e
  obtain rfl := Option.some.inj e
  exact (hs_fr.rf (K := []) (h := h))
theorem hz_b72_64_20 {p1 : Nat} {k20 : Int32 × hs_H → Option (Int32 × hs_H)} {x2 : Int32} {h : hs_H} {r : Int32 × hs_H} (hk20 : ∀ y1 h r, k20 (y1, h) = some r → hs_fr [] h r.2) (e : hb_72_64_20 p1 k20 x2 h = some r) : hs_fr [] h r.2 := by
  unfold hb_72_64_20 at e
  replace e := (hs_ck_some e).2
  rcases hz_if e with e | e
  · have fk := hz_b72_64_67  e
    exact (hs_fr.rf (K := []) (h := h)).tr fk
  · rcases hz_if e with e | e
    · have fk := hz_b72_64_67  e
      exact (hs_fr.rf (K := []) (h := h)).tr fk
    · replace e := (hs_ck_some e).2
      replace e := (hs_ck_some e).2
      replace e := (hs_ck_some e).2
      rcases hz_if e with e | e
      · have fk := hk20 _ _ _ e
        exact (hs_fr.rf (K := []) (h := h)).tr fk
      · obtain rfl := Option.some.inj e
        exact (hs_fr.rf (K := []) (h := h))
theorem hz_72_64 {p1 : Nat} {h : hs_H} {r : Int32 × hs_H} (e : hf_72_64 p1 h = some r) : hs_fr [] h r.2 := by
  unfold hf_72_64 at e
  replace e := (hs_ck_some e).2
  rcases hz_if e with e | e
  · have fl := hz_lp2 (f := fun k s => hb_72_64_20 p1 k s.1 s.2) (G := fun r => r.2) (fun k hk y1 h r e => hz_b72_64_20 hk e) e
    exact (hs_fr.rf (K := []) (h := h)).tr fl
  · obtain rfl := Option.some.inj e
    exact (hs_fr.rf (K := []) (h := h))
theorem hz_b65_51 {s0 : Int32} {h : hs_H} {r : Int32 × hs_H} (e : hb_65_51 s0 h = some r) : hs_fr [(6, some 0)] h r.2 := by
  unfold hb_65_51 at e
  replace e := (hs_ck_some e).2
  obtain rfl := Option.some.inj e
  exact (hs_fr.rf (K := [(6, some 0)]) (h := h))
theorem hz_b65_46 {h : hs_H} {r : Int32 × hs_H} (e : hb_65_46 h = some r) : hs_fr [(6, some 0)] h r.2 := by
  unfold hb_65_46 at e
  have fk := hz_b65_51  e
  exact (hs_fr.rf (K := [(6, some 0)]) (h := h)).tr fk
theorem hz_b65_34 {h : hs_H} {r : Int32 × hs_H} (e : hb_65_34 h = some r) : hs_fr [(6, some 0)] h r.2 := by
  unfold hb_65_34 at e
  obtain ⟨q3, eq3, e⟩ := hs_bind_some e
  have fq3 := (hs_fr.rf (K := [(6, some 0)]) (h := h)).tr ((hz_54 eq3).sub (hs_sub_cons (.inl (.head _)) hs_sub_nil))
  rcases hz_if e with e | e
  · have fk := hz_b65_51  e
    exact fq3.tr fk
  · have fk := hz_b65_46  e
    exact fq3.tr fk
theorem hz_65 {a1 : Int32} {a2 : Int32} {h : hs_H} {r : Int32 × hs_H} (e : hf_65 a1 a2 h = some r) : hs_fr [(6, some 0)] h r.2 := by
  unfold hf_65 at e
  rcases hz_if e with e | e
  · rcases hz_if e with e | e
    · have fk := hz_b65_34  e
      exact (hs_fr.rf (K := [(6, some 0)]) (h := h)).tr fk
    · rcases hz_if e with e | e
      · have fk := hz_b65_46  e
        exact (hs_fr.rf (K := [(6, some 0)]) (h := h)).tr fk
      · have fk := hz_b65_34  e
        exact (hs_fr.rf (K := [(6, some 0)]) (h := h)).tr fk
  · obtain ⟨q7, eq7, e⟩ := hs_bind_some e
    have fq7 := (hs_fr.rf (K := [(6, some 0)]) (h := h)).tr ((hz_54 eq7).sub (hs_sub_cons (.inl (.head _)) hs_sub_nil))
    replace e := (hs_ck_some e).2
    obtain rfl := Option.some.inj e
    exact fq7
theorem hz_b64_21 {s0 : Int32} {h : hs_H} {r : Int32 × hs_H} (e : hb_64_21 s0 h = some r) : hs_fr [(6, some 0)] h r.2 := by
  unfold hb_64_21 at e
  replace e := (hs_ck_some e).2
  obtain rfl := Option.some.inj e
  exact (hs_fr.rf (K := [(6, some 0)]) (h := h))
theorem hz_b64_20 {h : hs_H} {r : Int32 × hs_H} (e : hb_64_20 h = some r) : hs_fr [(6, some 0)] h r.2 := by
  unfold hb_64_20 at e
  have fk := hz_b64_21  e
  exact (hs_fr.rf (K := [(6, some 0)]) (h := h)).tr fk
theorem hz_64 {a1 : Int32} {a2 : Int32} {h : hs_H} {r : Int32 × hs_H} (e : hf_64 a1 a2 h = some r) : hs_fr [(6, some 0)] h r.2 := by
  unfold hf_64 at e
  obtain ⟨q1, eq1, e⟩ := hs_bind_some e
  have fq1 := (hs_fr.rf (K := [(6, some 0)]) (h := h)).tr ((hz_69 eq1).sub (hs_sub_cons (.inl (.head _)) hs_sub_nil))
  rcases hz_if e with e | e
  · have fk := hz_b64_20  e
    exact fq1.tr fk
  · obtain ⟨q4, eq4, e⟩ := hs_bind_some e
    have fq4 := fq1.tr ((hz_65 eq4).sub (hs_sub_cons (.inl (.head _)) hs_sub_nil))
    rcases hz_if e with e | e
    · have fk := hz_b64_20  e
      exact fq4.tr fk
    · have fk := hz_b64_21  e
      exact fq4.tr fk
theorem hz_b67_34 {h : hs_H} {r : Int32 × hs_H} (e : hb_67_34 h = some r) : hs_fr [(6, some 0)] h r.2 := by
  unfold hb_67_34 at e
  obtain ⟨q3, eq3, e⟩ := hs_bind_some e
  have fq3 := (hs_fr.rf (K := [(6, some 0)]) (h := h)).tr ((hz_54 eq3).sub (hs_sub_cons (.inl (.head _)) hs_sub_nil))
  replace e := (hs_ck_some e).2
  obtain rfl := Option.some.inj e
  exact fq3
theorem hz_67 {h : hs_H} {r : Int32 × hs_H} (e : hf_67 h = some r) : hs_fr [(6, some 0)] h r.2 := by
  unfold hf_67 at e
  rcases hz_if e with e | e
  · rcases hz_if e with e | e
    · have fk := hz_b67_34  e
      exact (hs_fr.rf (K := [(6, some 0)]) (h := h)).tr fk
    · rcases hz_if e with e | e
      · obtain rfl := Option.some.inj e
        exact ((hs_fr.rf (K := [(6, some 0)]) (h := h)).put (.inl (.head _)))
      · have fk := hz_b67_34  e
        exact (hs_fr.rf (K := [(6, some 0)]) (h := h)).tr fk
  · obtain ⟨q6, eq6, e⟩ := hs_bind_some e
    have fq6 := (hs_fr.rf (K := [(6, some 0)]) (h := h)).tr ((hz_54 eq6).sub (hs_sub_cons (.inl (.head _)) hs_sub_nil))
    replace e := (hs_ck_some e).2
    obtain rfl := Option.some.inj e
    exact fq6
theorem hz_b66_19 {s0 : Int32} {h : hs_H} {r : Int32 × hs_H} (e : hb_66_19 s0 h = some r) : hs_fr [(6, some 0)] h r.2 := by
  unfold hb_66_19 at e
  replace e := (hs_ck_some e).2
  obtain rfl := Option.some.inj e
  exact (hs_fr.rf (K := [(6, some 0)]) (h := h))
theorem hz_b66_18 {h : hs_H} {r : Int32 × hs_H} (e : hb_66_18 h = some r) : hs_fr [(6, some 0)] h r.2 := by
  unfold hb_66_18 at e
  have fk := hz_b66_19  e
  exact (hs_fr.rf (K := [(6, some 0)]) (h := h)).tr fk
theorem hz_66 {h : hs_H} {r : Int32 × hs_H} (e : hf_66 h = some r) : hs_fr [(6, some 0)] h r.2 := by
  unfold hf_66 at e
  obtain ⟨q1, eq1, e⟩ := hs_bind_some e
  have fq1 := (hs_fr.rf (K := [(6, some 0)]) (h := h)).tr ((hz_69 eq1).sub (hs_sub_cons (.inl (.head _)) hs_sub_nil))
  rcases hz_if e with e | e
  · have fk := hz_b66_18  e
    exact fq1.tr fk
  · obtain ⟨q4, eq4, e⟩ := hs_bind_some e
    have fq4 := fq1.tr ((hz_67 eq4).sub (hs_sub_cons (.inl (.head _)) hs_sub_nil))
    rcases hz_if e with e | e
    · have fk := hz_b66_18  e
      exact fq4.tr fk
    · have fk := hz_b66_19  e
      exact fq4.tr fk
theorem hz_46 {o : Nat} {a1 : Int32} {a2 : Int32} {a3 : Int32} {h : hs_H} {r : Int32 × hs_H} (e : hf_46 o a1 a2 a3 h = some r) : hs_fr [(5, some o), (28, some o), (29, some o), (30, some o)] h r.2 := by
  unfold hf_46 at e
  rcases hz_if e with e | e
  · replace e := (hs_ck_some e).2
    replace e := (hs_ck_some e).2
    replace e := (hs_ck_some e).2
    obtain rfl := Option.some.inj e
    exact ((((((hs_fr.rf (K := [(5, some o), (28, some o), (29, some o), (30, some o)]) (h := h)).put (.inl (.tail _ (.head _)))).put (.inl (.tail _ (.tail _ (.head _))))).put (.inl (.tail _ (.tail _ (.tail _ (.head _)))))).put (.inl (.head _))).put (.inl (.head _)))
  · obtain rfl := Option.some.inj e
    exact (hs_fr.rf (K := [(5, some o), (28, some o), (29, some o), (30, some o)]) (h := h))
theorem hz_b68_32 {s0 : Int32} {h : hs_H} {r : Int32 × hs_H} (e : hb_68_32 s0 h = some r) : hs_fr [(6, some 0)] h r.2 := by
  unfold hb_68_32 at e
  replace e := (hs_ck_some e).2
  obtain rfl := Option.some.inj e
  exact (hs_fr.rf (K := [(6, some 0)]) (h := h))
theorem hz_b68_31 {h : hs_H} {r : Int32 × hs_H} (e : hb_68_31 h = some r) : hs_fr [(6, some 0)] h r.2 := by
  unfold hb_68_31 at e
  have fk := hz_b68_32  e
  exact (hs_fr.rf (K := [(6, some 0)]) (h := h)).tr fk
theorem hz_b68_27 {h : hs_H} {r : Int32 × hs_H} (e : hb_68_27 h = some r) : hs_fr [(6, some 0)] h r.2 := by
  unfold hb_68_27 at e
  have fk := hz_b68_32  e
  exact (hs_fr.rf (K := [(6, some 0)]) (h := h)).tr fk
theorem hz_68 {h : hs_H} {r : Int32 × hs_H} (e : hf_68 h = some r) : hs_fr [(6, some 0)] h r.2 := by
  unfold hf_68 at e
  obtain ⟨q1, eq1, e⟩ := hs_bind_some e
  have fq1 := (hs_fr.rf (K := [(6, some 0)]) (h := h)).tr ((hz_69 eq1).sub (hs_sub_cons (.inl (.head _)) hs_sub_nil))
  rcases hz_if e with e | e
  · have fk := hz_b68_31  e
    exact fq1.tr fk
  · rcases hz_if e with e | e
    · have fk := hz_b68_27  e
      exact fq1.tr fk
    · obtain ⟨q5, eq5, e⟩ := hs_bind_some e
      have fq5 := fq1.tr ((hz_54 eq5).sub (hs_sub_cons (.inl (.head _)) hs_sub_nil))
      rcases hz_if e with e | e
      · have fk := hz_b68_31  e
        exact fq5.tr fk
      · have fk := hz_b68_27  e
        exact fq5.tr fk
theorem hz_b62_90 {s0 : Int32} {h : hs_H} {r : Int32 × hs_H} (e : hb_62_90 s0 h = some r) : hs_fr [(5, some 1), (6, some 0), (28, some 1), (29, some 1), (30, some 1)] h r.2 := by
  unfold hb_62_90 at e
  replace e := (hs_ck_some e).2
  obtain rfl := Option.some.inj e
  exact (hs_fr.rf (K := [(5, some 1), (6, some 0), (28, some 1), (29, some 1), (30, some 1)]) (h := h))
theorem hz_b62_89 {h : hs_H} {r : Int32 × hs_H} (e : hb_62_89 h = some r) : hs_fr [(5, some 1), (6, some 0), (28, some 1), (29, some 1), (30, some 1)] h r.2 := by
  unfold hb_62_89 at e
  have fk := hz_b62_90  e
  exact (hs_fr.rf (K := [(5, some 1), (6, some 0), (28, some 1), (29, some 1), (30, some 1)]) (h := h)).tr fk
theorem hz_62 {h : hs_H} {r : Int32 × hs_H} (e : hf_62 h = some r) : hs_fr [(5, some 1), (6, some 0), (28, some 1), (29, some 1), (30, some 1)] h r.2 := by
  unfold hf_62 at e
  rcases hz_if e with e | e
  · obtain ⟨q2, eq2, e⟩ := hs_bind_some e
    have fq2 := (hs_fr.rf (K := [(5, some 1), (6, some 0), (28, some 1), (29, some 1), (30, some 1)]) (h := h)).tr ((hz_64 eq2).sub (hs_sub_cons (.inl (.tail _ (.head _))) hs_sub_nil))
    rcases hz_if e with e | e
    · obtain ⟨q4, eq4, e⟩ := hs_bind_some e
      have fq4 := fq2.tr ((hz_66 eq4).sub (hs_sub_cons (.inl (.tail _ (.head _))) hs_sub_nil))
      rcases hz_if e with e | e
      · obtain ⟨q6, eq6, e⟩ := hs_bind_some e
        have fq6 := fq4.tr ((hz_64 eq6).sub (hs_sub_cons (.inl (.tail _ (.head _))) hs_sub_nil))
        rcases hz_if e with e | e
        · have fk := hz_b62_89  e
          exact fq6.tr fk
        · obtain ⟨q9, eq9, e⟩ := hs_bind_some e
          have fq9 := fq6.tr ((hz_46 eq9).sub (hs_sub_cons (.inl (.head _)) (hs_sub_cons (.inl (.tail _ (.tail _ (.head _)))) (hs_sub_cons (.inl (.tail _ (.tail _ (.tail _ (.head _))))) (hs_sub_cons (.inl (.tail _ (.tail _ (.tail _ (.tail _ (.head _)))))) hs_sub_nil)))))
          rcases hz_if e with e | e
          · have fk := hz_b62_89  e
            exact fq9.tr fk
          · obtain ⟨q11, eq11, e⟩ := hs_bind_some e
            have fq11 := fq9.tr ((hz_68 eq11).sub (hs_sub_cons (.inl (.tail _ (.head _))) hs_sub_nil))
            rcases hz_if e with e | e
            · have fk := hz_b62_89  e
              exact fq11.tr fk
            · have fk := hz_b62_90  e
              exact fq11.tr fk
      · obtain rfl := Option.some.inj e
        exact fq4
    · obtain rfl := Option.some.inj e
      exact fq2
  · obtain ⟨q13, eq13, e⟩ := hs_bind_some e
    have fq13 := (hs_fr.rf (K := [(5, some 1), (6, some 0), (28, some 1), (29, some 1), (30, some 1)]) (h := h)).tr ((hz_54 eq13).sub (hs_sub_cons (.inl (.tail _ (.head _))) hs_sub_nil))
    replace e := (hs_ck_some e).2
    obtain rfl := Option.some.inj e
    exact fq13
theorem hz_b147_13 {s0 : Int32} {h : hs_H} {r : Int32 × hs_H} (e : hb_147_13 s0 h = some r) : hs_fr [] h r.2 := by
  unfold hb_147_13 at e
  replace e := (hs_ck_some e).2
  obtain rfl := Option.some.inj e
  exact (hs_fr.rf (K := []) (h := h))
theorem hz_147 {a0 : Int32} {a1 : Int32} {h : hs_H} {r : Int32 × hs_H} (e : hf_147 a0 a1 h = some r) : hs_fr [] h r.2 := by
  unfold hf_147 at e
  rcases hz_if e with e | e
  · have fk := hz_b147_13  e
    exact (hs_fr.rf (K := []) (h := h)).tr fk
  · have fk := hz_b147_13  e
    exact (hs_fr.rf (K := []) (h := h)).tr fk
theorem hz_61 {h : hs_H} {r : Int32 × hs_H} (e : hf_61 h = some r) : hs_fr [(4, some 1), (6, some 0)] h r.2 := by
  unfold hf_61 at e
  obtain ⟨q1, eq1, e⟩ := hs_bind_some e
  have fq1 := (hs_fr.rf (K := [(4, some 1), (6, some 0)]) (h := h)).tr ((hz_66 eq1).sub (hs_sub_cons (.inl (.tail _ (.head _))) hs_sub_nil))
  rcases hz_if e with e | e
  · obtain ⟨q3, eq3, e⟩ := hs_bind_some e
    have fq3 := fq1.tr ((hz_147 eq3).sub hs_sub_nil)
    rcases hz_if e with e | e
    · obtain ⟨q5, eq5, e⟩ := hs_bind_some e
      have fq5 := (fq3.put (.inl (.head _))).tr ((hz_68 eq5).sub (hs_sub_cons (.inl (.tail _ (.head _))) hs_sub_nil))
      replace e := (hs_ck_some e).2
      obtain rfl := Option.some.inj e
      exact fq5
    · obtain ⟨q7, eq7, e⟩ := hs_bind_some e
      have fq7 := fq3.tr ((hz_54 eq7).sub (hs_sub_cons (.inl (.tail _ (.head _))) hs_sub_nil))
      replace e := (hs_ck_some e).2
      obtain rfl := Option.some.inj e
      exact fq7
  · obtain rfl := Option.some.inj e
    exact fq1
theorem hz_60 {h : hs_H} {r : Int32 × hs_H} (e : hf_60 h = some r) : hs_fr [(4, some 1), (6, some 0)] h r.2 := by
  unfold hf_60 at e
  obtain ⟨q1, eq1, e⟩ := hs_bind_some e
  have fq1 := (hs_fr.rf (K := [(4, some 1), (6, some 0)]) (h := h)).tr ((hz_66 eq1).sub (hs_sub_cons (.inl (.tail _ (.head _))) hs_sub_nil))
  rcases hz_if e with e | e
  · obtain ⟨q3, eq3, e⟩ := hs_bind_some e
    have fq3 := fq1.tr ((hz_147 eq3).sub hs_sub_nil)
    rcases hz_if e with e | e
    · obtain ⟨q5, eq5, e⟩ := hs_bind_some e
      have fq5 := (fq3.put (.inl (.head _))).tr ((hz_68 eq5).sub (hs_sub_cons (.inl (.tail _ (.head _))) hs_sub_nil))
      replace e := (hs_ck_some e).2
      obtain rfl := Option.some.inj e
      exact fq5
    · obtain ⟨q7, eq7, e⟩ := hs_bind_some e
      have fq7 := fq3.tr ((hz_54 eq7).sub (hs_sub_cons (.inl (.tail _ (.head _))) hs_sub_nil))
      replace e := (hs_ck_some e).2
      obtain rfl := Option.some.inj e
      exact fq7
  · obtain rfl := Option.some.inj e
    exact fq1
theorem hz_b32_20 {o : Nat} {s0 : Int32} {h : hs_H} {r : Int32 × hs_H} (e : hb_32_20 o s0 h = some r) : hs_fr [] h r.2 := by
  unfold hb_32_20 at e
  obtain rfl := Option.some.inj e
  exact (hs_fr.rf (K := []) (h := h))
theorem hz_b32_19 {o : Nat} {h : hs_H} {r : Int32 × hs_H} (e : hb_32_19 o h = some r) : hs_fr [] h r.2 := by
  unfold hb_32_19 at e
  have fk := hz_b32_20  e
  exact (hs_fr.rf (K := []) (h := h)).tr fk
theorem hz_32 {o : Nat} {a1 : Int32} {h : hs_H} {r : Int32 × hs_H} (e : hf_32 o a1 h = some r) : hs_fr [] h r.2 := by
  unfold hf_32 at e
  rcases hz_if e with e | e
  · have fk := hz_b32_19  e
    exact (hs_fr.rf (K := []) (h := h)).tr fk
  · rcases hz_if e with e | e
    · have fk := hz_b32_19  e
      exact (hs_fr.rf (K := []) (h := h)).tr fk
    · replace e := (hs_ck_some e).2
      have fk := hz_b32_20  e
      exact (hs_fr.rf (K := []) (h := h)).tr fk
theorem hz_33 {o : Nat} {a1 : Int32} {a2 : Int32} {h : hs_H} {r : Int32 × hs_H} (e : hf_33 o a1 a2 h = some r) : hs_fr [] h r.2 := by
  unfold hf_33 at e
  obtain ⟨q1, eq1, e⟩ := hs_bind_some e
  have fq1 := (hs_fr.rf (K := []) (h := h)).tr ((hz_32 eq1).sub hs_sub_nil)
  obtain ⟨q2, eq2, e⟩ := hs_bind_some e
  have fq2 := fq1.tr ((hz_147 eq2).sub hs_sub_nil)
  replace e := (hs_ck_some e).2
  obtain rfl := Option.some.inj e
  exact fq2
theorem hz_b34_20 {o : Nat} {h : hs_H} {r : hs_H} (e : hb_34_20 o h = some r) : hs_fr [(4, some o), (27, none)] h r := by
  unfold hb_34_20 at e
  obtain rfl := Option.some.inj e
  exact (hs_fr.rf (K := [(4, some o), (27, none)]) (h := h))
theorem hz_b34_90 {o : Nat} {s0 : Int32} {s1 : Int32} {s2 : Nat} {h : hs_H} {r : hs_H} (e : hb_34_90 o s0 s1 s2 h = some r) : hs_fr [(4, some o), (27, none)] h r := by
  unfold hb_34_90 at e
  replace e := (hs_ck_some e).2
  obtain rfl := Option.some.inj e
  exact (((hs_fr.rf (K := [(4, some o), (27, none)]) (h := h)).put (.inr (.tail _ (.head _)))).put (.inl (.head _)))
theorem hz_b34_55 {o : Nat} {x1 : Int32} {x2 : Int32} {x3 : Int32} {s0 : Int32} {s1 : Int32} {s2 : Nat} {h : hs_H} {r : hs_H} (e : hb_34_55 o x1 x2 x3 s0 s1 s2 h = some r) : hs_fr [(4, some o), (27, none)] h r := by
  unfold hb_34_55 at e
  replace e := (hs_ck_some e).2
  rcases hz_if e with e | e
  · replace e := (hs_ck_some e).2
    have fk := hz_b34_90  e
    exact ((hs_fr.rf (K := [(4, some o), (27, none)]) (h := h)).put (.inr (.tail _ (.head _)))).tr fk
  · replace e := (hs_ck_some e).2
    have fk := hz_b34_90  e
    exact ((hs_fr.rf (K := [(4, some o), (27, none)]) (h := h)).put (.inr (.tail _ (.head _)))).tr fk
theorem hz_34 {o : Nat} {a1 : Int32} {a2 : Int32} {a3 : Int32} {h : hs_H} {r : hs_H} (e : hf_34 o a1 a2 a3 h = some r) : hs_fr [(4, some o), (27, none)] h r := by
  unfold hf_34 at e
  rcases hz_if e with e | e
  · have fk := hz_b34_20  e
    exact (hs_fr.rf (K := [(4, some o), (27, none)]) (h := h)).tr fk
  · rcases hz_if e with e | e
    · have fk := hz_b34_20  e
      exact (hs_fr.rf (K := [(4, some o), (27, none)]) (h := h)).tr fk
    · rcases hz_if e with e | e
      · have fk := hz_b34_20  e
        exact (hs_fr.rf (K := [(4, some o), (27, none)]) (h := h)).tr fk
      · rcases hz_if e with e | e
        · rcases hz_if e with e | e
          · replace e := (hs_ck_some e).2
            have fk := hz_b34_55  e
            exact (hs_fr.rf (K := [(4, some o), (27, none)]) (h := h)).tr fk
          · replace e := (hs_ck_some e).2
            have fk := hz_b34_55  e
            exact (hs_fr.rf (K := [(4, some o), (27, none)]) (h := h)).tr fk
        · have fk := hz_b34_20  e
          exact (hs_fr.rf (K := [(4, some o), (27, none)]) (h := h)).tr fk
theorem hz_b59_113 {h : hs_H} {r : Int32 × hs_H} (e : hb_59_113 h = some r) : hs_fr [(4, some 1), (6, some 0), (27, none)] h r.2 := by
  unfold hb_59_113 at e
  obtain rfl := Option.some.inj e
  exact (hs_fr.rf (K := [(4, some 1), (6, some 0), (27, none)]) (h := h))
theorem hz_b59_55 {h : hs_H} {r : Int32 × hs_H} (e : hb_59_55 h = some r) : hs_fr [(4, some 1), (6, some 0), (27, none)] h r.2 := by
  unfold hb_59_55 at e
  obtain ⟨q7, eq7, e⟩ := hs_bind_some e
  have fq7 := (hs_fr.rf (K := [(4, some 1), (6, some 0), (27, none)]) (h := h)).tr ((hz_54 eq7).sub (hs_sub_cons (.inl (.tail _ (.head _))) hs_sub_nil))
  replace e := (hs_ck_some e).2
  obtain rfl := Option.some.inj e
  exact fq7
theorem hz_b59_21 {k21 : Int32 × Int32 × Int32 × hs_H → Option (Int32 × hs_H)} {x1 : Int32} {x2 : Int32} {x3 : Int32} {h : hs_H} {r : Int32 × hs_H} (hk21 : ∀ y1 y2 y3 h r, k21 (y1, y2, y3, h) = some r → hs_fr [(4, some 1), (6, some 0), (27, none)] h r.2) (e : hb_59_21 k21 x1 x2 x3 h = some r) : hs_fr [(4, some 1), (6, some 0), (27, none)] h r.2 := by
  unfold hb_59_21 at e
  rcases hz_if e with e | e
  · have fk := hz_b59_113  e
    exact (hs_fr.rf (K := [(4, some 1), (6, some 0), (27, none)]) (h := h)).tr fk
  · rcases hz_if e with e | e
    · have fk := hz_b59_113  e
      exact (hs_fr.rf (K := [(4, some 1), (6, some 0), (27, none)]) (h := h)).tr fk
    · rcases hz_if e with e | e
      · have fk := hz_b59_55  e
        exact (hs_fr.rf (K := [(4, some 1), (6, some 0), (27, none)]) (h := h)).tr fk
      · obtain ⟨q9, eq9, e⟩ := hs_bind_some e
        have fq9 := (hs_fr.rf (K := [(4, some 1), (6, some 0), (27, none)]) (h := h)).tr ((hz_33 eq9).sub hs_sub_nil)
        rcases hz_if e with e | e
        · obtain ⟨q11, eq11, e⟩ := hs_bind_some e
          have fq11 := fq9.tr ((hz_34 eq11).sub (hs_sub_cons (.inl (.head _)) (hs_sub_cons (.inl (.tail _ (.tail _ (.head _)))) hs_sub_nil)))
          obtain ⟨q12, eq12, e⟩ := hs_bind_some e
          have fq12 := fq11.tr ((hz_69 eq12).sub (hs_sub_cons (.inl (.tail _ (.head _))) hs_sub_nil))
          rcases hz_if e with e | e
          · rcases hz_if e with e | e
            · obtain ⟨q15, eq15, e⟩ := hs_bind_some e
              have fq15 := fq12.tr ((hz_67 eq15).sub (hs_sub_cons (.inl (.tail _ (.head _))) hs_sub_nil))
              have fk := hk21 _ _ _ _ _ e
              exact fq15.tr fk
            · obtain rfl := Option.some.inj e
              exact fq12
          · obtain rfl := Option.some.inj e
            exact fq12
        · have fk := hz_b59_55  e
          exact fq9.tr fk
theorem hz_59 {h : hs_H} {r : Int32 × hs_H} (e : hf_59 h = some r) : hs_fr [(4, some 1), (6, some 0), (27, none)] h r.2 := by
  unfold hf_59 at e
  obtain ⟨q1, eq1, e⟩ := hs_bind_some e
  have fq1 := (hs_fr.rf (K := [(4, some 1), (6, some 0), (27, none)]) (h := h)).tr ((hz_66 eq1).sub (hs_sub_cons (.inl (.tail _ (.head _))) hs_sub_nil))
  rcases hz_if e with e | e
  · obtain ⟨q3, eq3, e⟩ := hs_bind_some e
    have fq3 := fq1.tr ((hz_66 eq3).sub (hs_sub_cons (.inl (.tail _ (.head _))) hs_sub_nil))
    have fl := hz_lp4 (f := fun k s => hb_59_21 k s.1 s.2.1 s.2.2.1 s.2.2.2) (G := fun r => r.2) (fun k hk y1 y2 y3 h r e => hz_b59_21 hk e) e
    exact fq3.tr fl
  · obtain rfl := Option.some.inj e
    exact fq1
theorem hz_63 {a1 : Int32} {h : hs_H} {r : Int32 × hs_H} (e : hf_63 a1 h = some r) : hs_fr [(6, some 0)] h r.2 := by
  unfold hf_63 at e
  rcases hz_if e with e | e
  · obtain rfl := Option.some.inj e
    exact ((hs_fr.rf (K := [(6, some 0)]) (h := h)).put (.inl (.head _)))
  · obtain ⟨q2, eq2, e⟩ := hs_bind_some e
    have fq2 := (hs_fr.rf (K := [(6, some 0)]) (h := h)).tr ((hz_54 eq2).sub (hs_sub_cons (.inl (.head _)) hs_sub_nil))
    replace e := (hs_ck_some e).2
    obtain rfl := Option.some.inj e
    exact fq2
theorem hz_b58_15 {h : hs_H} {r : Int32 × hs_H} (e : hb_58_15 h = some r) : hs_fr [(4, some 1), (6, some 0)] h r.2 := by
  unfold hb_58_15 at e
  obtain rfl := Option.some.inj e
  exact (hs_fr.rf (K := [(4, some 1), (6, some 0)]) (h := h))
theorem hz_58 {h : hs_H} {r : Int32 × hs_H} (e : hf_58 h = some r) : hs_fr [(4, some 1), (6, some 0)] h r.2 := by
  unfold hf_58 at e
  obtain ⟨q1, eq1, e⟩ := hs_bind_some e
  have fq1 := (hs_fr.rf (K := [(4, some 1), (6, some 0)]) (h := h)).tr ((hz_63 eq1).sub (hs_sub_cons (.inl (.tail _ (.head _))) hs_sub_nil))
  rcases hz_if e with e | e
  · have fk := hz_b58_15  e
    exact fq1.tr fk
  · obtain ⟨q3, eq3, e⟩ := hs_bind_some e
    have fq3 := fq1.tr ((hz_66 eq3).sub (hs_sub_cons (.inl (.tail _ (.head _))) hs_sub_nil))
    rcases hz_if e with e | e
    · obtain ⟨q5, eq5, e⟩ := hs_bind_some e
      have fq5 := (fq3.put (.inl (.head _))).tr ((hz_68 eq5).sub (hs_sub_cons (.inl (.tail _ (.head _))) hs_sub_nil))
      replace e := (hs_ck_some e).2
      obtain rfl := Option.some.inj e
      exact fq5
    · have fk := hz_b58_15  e
      exact fq3.tr fk
theorem hz_57 {h : hs_H} {r : Int32 × hs_H} (e : hf_57 h = some r) : hs_fr [(4, some 1), (6, some 0)] h r.2 := by
  unfold hf_57 at e
  obtain ⟨q1, eq1, e⟩ := hs_bind_some e
  have fq1 := (hs_fr.rf (K := [(4, some 1), (6, some 0)]) (h := h)).tr ((hz_63 eq1).sub (hs_sub_cons (.inl (.tail _ (.head _))) hs_sub_nil))
  rcases hz_if e with e | e
  · obtain ⟨q3, eq3, e⟩ := hs_bind_some e
    have fq3 := (fq1.put (.inl (.head _))).tr ((hz_68 eq3).sub (hs_sub_cons (.inl (.tail _ (.head _))) hs_sub_nil))
    replace e := (hs_ck_some e).2
    obtain rfl := Option.some.inj e
    exact fq3
  · obtain rfl := Option.some.inj e
    exact fq1
theorem hz_b56_18 {h : hs_H} {r : Int32 × hs_H} (e : hb_56_18 h = some r) : hs_fr [(4, some 1), (6, some 0)] h r.2 := by
  unfold hb_56_18 at e
  obtain rfl := Option.some.inj e
  exact (hs_fr.rf (K := [(4, some 1), (6, some 0)]) (h := h))
theorem hz_56 {h : hs_H} {r : Int32 × hs_H} (e : hf_56 h = some r) : hs_fr [(4, some 1), (6, some 0)] h r.2 := by
  unfold hf_56 at e
  obtain ⟨q1, eq1, e⟩ := hs_bind_some e
  have fq1 := (hs_fr.rf (K := [(4, some 1), (6, some 0)]) (h := h)).tr ((hz_63 eq1).sub (hs_sub_cons (.inl (.tail _ (.head _))) hs_sub_nil))
  rcases hz_if e with e | e
  · have fk := hz_b56_18  e
    exact fq1.tr fk
  · obtain ⟨q3, eq3, e⟩ := hs_bind_some e
    have fq3 := fq1.tr ((hz_64 eq3).sub (hs_sub_cons (.inl (.tail _ (.head _))) hs_sub_nil))
    rcases hz_if e with e | e
    · obtain ⟨q5, eq5, e⟩ := hs_bind_some e
      have fq5 := (fq3.put (.inl (.head _))).tr ((hz_68 eq5).sub (hs_sub_cons (.inl (.tail _ (.head _))) hs_sub_nil))
      replace e := (hs_ck_some e).2
      obtain rfl := Option.some.inj e
      exact fq5
    · have fk := hz_b56_18  e
      exact fq3.tr fk
theorem hz_b55_14 {h : hs_H} {r : Int32 × hs_H} (e : hb_55_14 h = some r) : hs_fr [(4, some 1), (5, some 1), (6, some 0), (27, none), (28, some 1), (29, some 1), (30, some 1)] h r.2 := by
  unfold hb_55_14 at e
  obtain rfl := Option.some.inj e
  exact (hs_fr.rf (K := [(4, some 1), (5, some 1), (6, some 0), (27, none), (28, some 1), (29, some 1), (30, some 1)]) (h := h))
