/-! Frames: which kinds and instances a function writes; by gen7.py. -/
theorem hz_b79_30 {o : Nat} {s0 : Int32} {h : hs_H} {r : Int32 × hs_H} (e : hb_79_30 o s0 h = some r) : hs_fr [] h r.2 := by
  unfold hb_79_30 at e
  obtain rfl := Option.some.inj e
  exact (hs_fr.rf (K := []) (h := h))
theorem hz_b79_25 {o : Nat} {h : hs_H} {r : Int32 × hs_H} (e : hb_79_25 o h = some r) : hs_fr [] h r.2 := by
  unfold hb_79_25 at e
  have fk := hz_b79_30  e
  exact (hs_fr.rf (K := []) (h := h)).tr fk
theorem hz_79 {o : Nat} {a1 : Int32} {a2 : Int32} {h : hs_H} {r : Int32 × hs_H} (e : hf_79 o a1 a2 h = some r) : hs_fr [] h r.2 := by
  unfold hf_79 at e
  rcases hz_if e with e | e
  · rcases hz_if e with e | e
    · have fk := hz_b79_25  e
      exact (hs_fr.rf (K := []) (h := h)).tr fk
    · rcases hz_if e with e | e
      · have fk := hz_b79_30  e
        exact (hs_fr.rf (K := []) (h := h)).tr fk
      · have fk := hz_b79_25  e
        exact (hs_fr.rf (K := []) (h := h)).tr fk
  · obtain rfl := Option.some.inj e
    exact (hs_fr.rf (K := []) (h := h))
theorem hz_82 {o : Nat} {a1 : Int32} {h : hs_H} {r : Int32 × hs_H} (e : hf_82 o a1 h = some r) : hs_fr [] h r.2 := by
  unfold hf_82 at e
  rcases hz_if e with e | e
  · obtain rfl := Option.some.inj e
    exact (hs_fr.rf (K := []) (h := h))
  · rcases hz_if e with e | e
    · obtain rfl := Option.some.inj e
      exact (hs_fr.rf (K := []) (h := h))
    · obtain rfl := Option.some.inj e
      exact (hs_fr.rf (K := []) (h := h))
theorem hz_b81_21 {o : Nat} {h : hs_H} {r : hs_H} (e : hb_81_21 o h = some r) : hs_fr [(32, some o)] h r := by
  unfold hb_81_21 at e
  obtain rfl := Option.some.inj e
  exact (hs_fr.rf (K := [(32, some o)]) (h := h))
theorem hz_81 {o : Nat} {a1 : Int32} {a2 : Int32} {h : hs_H} {r : hs_H} (e : hf_81 o a1 a2 h = some r) : hs_fr [(32, some o)] h r := by
  unfold hf_81 at e
  rcases hz_if e with e | e
  · have fk := hz_b81_21  e
    exact (hs_fr.rf (K := [(32, some o)]) (h := h)).tr fk
  · rcases hz_if e with e | e
    · have fk := hz_b81_21  e
      exact (hs_fr.rf (K := [(32, some o)]) (h := h)).tr fk
    · obtain ⟨q3, eq3, e⟩ := hs_bind_some e
      have fq3 := (hs_fr.rf (K := [(32, some o)]) (h := h)).tr ((hz_82 eq3).sub hs_sub_nil)
      replace e := (hs_ck_some e).2
      have fk := hz_b81_21  e
      exact (fq3.put (.inl (.head _))).tr fk
theorem hz_b140_9 {h : hs_H} {r : Int32 × hs_H} (e : hb_140_9 h = some r) : hs_fr [(32, none)] h r.2 := by
  unfold hb_140_9 at e
  obtain rfl := Option.some.inj e
  exact (hs_fr.rf (K := [(32, none)]) (h := h))
theorem hz_140 {a1 : Int32} {a2 : Int32} {a3 : Int32} {h : hs_H} {r : Int32 × hs_H} (e : hf_140 a1 a2 a3 h = some r) : hs_fr [(32, none)] h r.2 := by
  unfold hf_140 at e
  rcases hz_if e with e | e
  · have fk := hz_b140_9  e
    exact (hs_fr.rf (K := [(32, none)]) (h := h)).tr fk
  · rcases hz_if e with e | e
    · replace e := (hs_ck_some e).2
      obtain ⟨q4, eq4, e⟩ := hs_bind_some e
      have fq4 := (hs_fr.rf (K := [(32, none)]) (h := h)).tr ((hz_79 eq4).sub hs_sub_nil)
      rcases hz_if e with e | e
      · replace e := (hs_ck_some e).2
        obtain ⟨q7, eq7, e⟩ := hs_bind_some e
        have fq7 := fq4.tr ((hz_81 eq7).sub (hs_sub_cons (.inr (.head _)) hs_sub_nil))
        obtain rfl := Option.some.inj e
        exact fq7
      · obtain rfl := Option.some.inj e
        exact fq4
    · have fk := hz_b140_9  e
      exact (hs_fr.rf (K := [(32, none)]) (h := h)).tr fk
theorem hz_b80_27 {o : Nat} {s0 : Int32} {h : hs_H} {r : Int32 × hs_H} (e : hb_80_27 o s0 h = some r) : hs_fr [] h r.2 := by
  unfold hb_80_27 at e
  obtain rfl := Option.some.inj e
  exact (hs_fr.rf (K := []) (h := h))
theorem hz_b80_21 {o : Nat} {x2 : Int32} {x3 : Int32} {h : hs_H} {r : Int32 × hs_H} (e : hb_80_21 o x2 x3 h = some r) : hs_fr [] h r.2 := by
  unfold hb_80_21 at e
  obtain ⟨q2, eq2, e⟩ := hs_bind_some e
  have fq2 := (hs_fr.rf (K := []) (h := h)).tr ((hz_79 eq2).sub hs_sub_nil)
  have fk := hz_b80_27  e
  exact fq2.tr fk
theorem hz_80 {o : Nat} {a1 : Int32} {a2 : Int32} {a3 : Int32} {h : hs_H} {r : Int32 × hs_H} (e : hf_80 o a1 a2 a3 h = some r) : hs_fr [] h r.2 := by
  unfold hf_80 at e
  rcases hz_if e with e | e
  · have fk := hz_b80_21  e
    exact (hs_fr.rf (K := []) (h := h)).tr fk
  · rcases hz_if e with e | e
    · have fk := hz_b80_21  e
      exact (hs_fr.rf (K := []) (h := h)).tr fk
    · have fk := hz_b80_27  e
      exact (hs_fr.rf (K := []) (h := h)).tr fk
theorem hz_b83_20 {o : Nat} {s0 : Int32} {h : hs_H} {r : Int32 × hs_H} (e : hb_83_20 o s0 h = some r) : hs_fr [] h r.2 := by
  unfold hb_83_20 at e
  obtain rfl := Option.some.inj e
  exact (hs_fr.rf (K := []) (h := h))
theorem hz_b83_19 {o : Nat} {h : hs_H} {r : Int32 × hs_H} (e : hb_83_19 o h = some r) : hs_fr [] h r.2 := by
  unfold hb_83_19 at e
  have fk := hz_b83_20  e
  exact (hs_fr.rf (K := []) (h := h)).tr fk
theorem hz_83 {o : Nat} {a1 : Int32} {h : hs_H} {r : Int32 × hs_H} (e : hf_83 o a1 h = some r) : hs_fr [] h r.2 := by
  unfold hf_83 at e
  rcases hz_if e with e | e
  · have fk := hz_b83_19  e
    exact (hs_fr.rf (K := []) (h := h)).tr fk
  · rcases hz_if e with e | e
    · have fk := hz_b83_19  e
      exact (hs_fr.rf (K := []) (h := h)).tr fk
    · replace e := (hs_ck_some e).2
      have fk := hz_b83_20  e
      exact (hs_fr.rf (K := []) (h := h)).tr fk
theorem hz_b141_28 {h : hs_H} {r : Int32 × hs_H} (e : hb_141_28 h = some r) : hs_fr [(5, some 0), (11, some 0), (28, some 0), (29, some 0), (30, some 0)] h r.2 := by
  unfold hb_141_28 at e
  obtain rfl := Option.some.inj e
  exact (hs_fr.rf (K := [(5, some 0), (11, some 0), (28, some 0), (29, some 0), (30, some 0)]) (h := h))
theorem hz_b141_50 {k50 : Int32 × Int32 × Int32 × Nat × Int32 × Int32 × hs_H → Option (Int32 × hs_H)} {x2 : Int32} {x3 : Int32} {x4 : Int32} {x5 : Nat} {x6 : Int32} {x7 : Int32} {h : hs_H} {r : Int32 × hs_H} (hk50 : ∀ y1 y2 y3 y4 y5 y6 h r, k50 (y1, y2, y3, y4, y5, y6, h) = some r → hs_fr [(5, some 0), (11, some 0), (28, some 0), (29, some 0), (30, some 0)] h r.2) (e : hb_141_50 k50 x2 x3 x4 x5 x6 x7 h = some r) : hs_fr [(5, some 0), (11, some 0), (28, some 0), (29, some 0), (30, some 0)] h r.2 := by
  unfold hb_141_50 at e
  rcases hz_if e with e | e
  · obtain rfl := Option.some.inj e
    exact ((hs_fr.rf (K := [(5, some 0), (11, some 0), (28, some 0), (29, some 0), (30, some 0)]) (h := h)).put (.inl (.tail _ (.head _))))
  · obtain ⟨q9, eq9, e⟩ := hs_bind_some e
    have fq9 := (hs_fr.rf (K := [(5, some 0), (11, some 0), (28, some 0), (29, some 0), (30, some 0)]) (h := h)).tr ((hz_80 eq9).sub hs_sub_nil)
    rcases hz_if e with e | e
    · obtain ⟨q11, eq11, e⟩ := hs_bind_some e
      have fq11 := fq9.tr ((hz_83 eq11).sub hs_sub_nil)
      obtain ⟨q12, eq12, e⟩ := hs_bind_some e
      have fq12 := fq11.tr ((hz_83 eq12).sub hs_sub_nil)
      obtain ⟨q13, eq13, e⟩ := hs_bind_some e
      have fq13 := fq12.tr ((hz_83 eq13).sub hs_sub_nil)
      obtain ⟨q14, eq14, e⟩ := hs_bind_some e
      have fq14 := fq13.tr ((hz_118 eq14).sub (hs_sub_cons (.inl (.head _)) (hs_sub_cons (.inl (.tail _ (.tail _ (.head _)))) (hs_sub_cons (.inl (.tail _ (.tail _ (.tail _ (.head _))))) (hs_sub_cons (.inl (.tail _ (.tail _ (.tail _ (.tail _ (.head _)))))) hs_sub_nil)))))
      rcases hz_if e with e | e
      · have fk := hk50 _ _ _ _ _ _ _ _ e
        exact fq14.tr fk
      · obtain ⟨q16, eq16, e⟩ := hs_bind_some e
        have fq16 := fq14.tr ((hz_47 eq16).sub (hs_sub_cons (.inl (.head _)) hs_sub_nil))
        obtain rfl := Option.some.inj e
        exact fq16
    · obtain rfl := Option.some.inj e
      exact (fq9.put (.inl (.tail _ (.head _))))
theorem hz_141 {a1 : Int32} {a2 : Int32} {a3 : Int32} {a4 : Int32} {h : hs_H} {r : Int32 × hs_H} (e : hf_141 a1 a2 a3 a4 h = some r) : hs_fr [(5, some 0), (11, some 0), (28, some 0), (29, some 0), (30, some 0)] h r.2 := by
  unfold hf_141 at e
  rcases hz_if e with e | e
  · have fk := hz_b141_28  e
    exact (hs_fr.rf (K := [(5, some 0), (11, some 0), (28, some 0), (29, some 0), (30, some 0)]) (h := h)).tr fk
  · rcases hz_if e with e | e
    · have fk := hz_b141_28  e
      exact (hs_fr.rf (K := [(5, some 0), (11, some 0), (28, some 0), (29, some 0), (30, some 0)]) (h := h)).tr fk
    · obtain ⟨q3, eq3, e⟩ := hs_bind_some e
      have fq3 := (hs_fr.rf (K := [(5, some 0), (11, some 0), (28, some 0), (29, some 0), (30, some 0)]) (h := h)).tr ((hz_145 eq3).sub hs_sub_nil)
      rcases hz_if e with e | e
      · have fk := hz_b141_28  e
        exact fq3.tr fk
      · rcases hz_if e with e | e
        · have fk := hz_b141_28  e
          exact fq3.tr fk
        · rcases hz_if e with e | e
          · replace e := (hs_ck_some e).2
            have fl := hz_lp7 (f := fun k s => hb_141_50 k s.1 s.2.1 s.2.2.1 s.2.2.2.1 s.2.2.2.2.1 s.2.2.2.2.2.1 s.2.2.2.2.2.2) (G := fun r => r.2) (fun k hk y1 y2 y3 y4 y5 y6 h r e => hz_b141_50 hk e) e
            exact fq3.tr fl
          · have fk := hz_b141_28  e
            exact fq3.tr fk
theorem hz_142 {h : hs_H} {r : Int32 × hs_H} (e : hf_142 h = some r) : hs_fr [] h r.2 := by
  unfold hf_142 at e
  obtain rfl := Option.some.inj e
  exact (hs_fr.rf (K := []) (h := h))
theorem hz_b94_25 {o : Nat} {k4 : Int32 × Int32 × hs_H → Option (Int32 × hs_H)} {x2 : Int32} {s0 : Int32} {s1 : Int32} {h : hs_H} {r : Int32 × hs_H} (hk4 : ∀ y1 y2 h r, k4 (y1, y2, h) = some r → hs_fr [] h r.2) (e : hb_94_25 o k4 x2 s0 s1 h = some r) : hs_fr [] h r.2 := by
  unfold hb_94_25 at e
  have fk := hk4 _ _ _ _ e
  exact (hs_fr.rf (K := []) (h := h)).tr fk
theorem hz_b94_4 {o : Nat} {k4 : Int32 × Int32 × hs_H → Option (Int32 × hs_H)} {x1 : Int32} {x2 : Int32} {h : hs_H} {r : Int32 × hs_H} (hk4 : ∀ y1 y2 h r, k4 (y1, y2, h) = some r → hs_fr [] h r.2) (e : hb_94_4 o k4 x1 x2 h = some r) : hs_fr [] h r.2 := by
  unfold hb_94_4 at e
  rcases hz_if e with e | e
  · obtain rfl := Option.some.inj e
    exact (hs_fr.rf (K := []) (h := h))
  · replace e := (hs_ck_some e).2
    rcases hz_if e with e | e
    · have fk := hz_b94_25 hk4 e
      exact (hs_fr.rf (K := []) (h := h)).tr fk
    · have fk := hz_b94_25 hk4 e
      exact (hs_fr.rf (K := []) (h := h)).tr fk
theorem hz_94 {o : Nat} {h : hs_H} {r : Int32 × hs_H} (e : hf_94 o h = some r) : hs_fr [] h r.2 := by
  unfold hf_94 at e
  have fl := hz_lp3 (f := fun k s => hb_94_4 o k s.1 s.2.1 s.2.2) (G := fun r => r.2) (fun k hk y1 y2 h r e => hz_b94_4 hk e) e
  exact (hs_fr.rf (K := []) (h := h)).tr fl
theorem hz_b144_27 {k4 : Int32 × Int32 × hs_H → Option (Int32 × hs_H)} {x2 : Int32} {s0 : Int32} {s1 : Int32} {h : hs_H} {r : Int32 × hs_H} (hk4 : ∀ y1 y2 h r, k4 (y1, y2, h) = some r → hs_fr [] h r.2) (e : hb_144_27 k4 x2 s0 s1 h = some r) : hs_fr [] h r.2 := by
  unfold hb_144_27 at e
  have fk := hk4 _ _ _ _ e
  exact (hs_fr.rf (K := []) (h := h)).tr fk
theorem hz_b144_4 {k4 : Int32 × Int32 × hs_H → Option (Int32 × hs_H)} {x1 : Int32} {x2 : Int32} {h : hs_H} {r : Int32 × hs_H} (hk4 : ∀ y1 y2 h r, k4 (y1, y2, h) = some r → hs_fr [] h r.2) (e : hb_144_4 k4 x1 x2 h = some r) : hs_fr [] h r.2 := by
  unfold hb_144_4 at e
  rcases hz_if e with e | e
  · obtain rfl := Option.some.inj e
    exact (hs_fr.rf (K := []) (h := h))
  · replace e := (hs_ck_some e).2
    rcases hz_if e with e | e
    · have fk := hz_b144_27 hk4 e
      exact (hs_fr.rf (K := []) (h := h)).tr fk
    · have fk := hz_b144_27 hk4 e
      exact (hs_fr.rf (K := []) (h := h)).tr fk
theorem hz_144 {h : hs_H} {r : Int32 × hs_H} (e : hf_144 h = some r) : hs_fr [] h r.2 := by
  unfold hf_144 at e
  have fl := hz_lp3 (f := fun k s => hb_144_4 k s.1 s.2.1 s.2.2) (G := fun r => r.2) (fun k hk y1 y2 h r e => hz_b144_4 hk e) e
  exact (hs_fr.rf (K := []) (h := h)).tr fl
theorem hz_143 {a1 : Int32} {h : hs_H} {r : Int32 × hs_H} (e : hf_143 a1 h = some r) : hs_fr [] h r.2 := by
  unfold hf_143 at e
  rcases hz_if e with e | e
  · obtain rfl := Option.some.inj e
    exact (hs_fr.rf (K := []) (h := h))
  · rcases hz_if e with e | e
    · obtain ⟨q3, eq3, e⟩ := hs_bind_some e
      have fq3 := (hs_fr.rf (K := []) (h := h)).tr ((hz_94 eq3).sub hs_sub_nil)
      obtain rfl := Option.some.inj e
      exact fq3
    · rcases hz_if e with e | e
      · obtain ⟨q5, eq5, e⟩ := hs_bind_some e
        have fq5 := (hs_fr.rf (K := []) (h := h)).tr ((hz_144 eq5).sub hs_sub_nil)
        obtain rfl := Option.some.inj e
        exact fq5
      · rcases hz_if e with e | e
        · obtain rfl := Option.some.inj e
          exact (hs_fr.rf (K := []) (h := h))
        · rcases hz_if e with e | e
          · replace e := (hs_ck_some e).2
            obtain rfl := Option.some.inj e
            exact (hs_fr.rf (K := []) (h := h))
          · obtain rfl := Option.some.inj e
            exact (hs_fr.rf (K := []) (h := h))
theorem hz_b150_18 {s0 : Int32} {h : hs_H} {r : Int32 × hs_H} (e : hb_150_18 s0 h = some r) : hs_fr [] h r.2 := by
  unfold hb_150_18 at e
  replace e := (hs_ck_some e).2
  obtain rfl := Option.some.inj e
  exact (hs_fr.rf (K := []) (h := h))
theorem hz_b150_17 {h : hs_H} {r : Int32 × hs_H} (e : hb_150_17 h = some r) : hs_fr [] h r.2 := by
  unfold hb_150_17 at e
  have fk := hz_b150_18  e
  exact (hs_fr.rf (K := []) (h := h)).tr fk
theorem hz_150 {a0 : Int64} {a2 : Int64} {a4 : Int64} {h : hs_H} {r : Int32 × hs_H} (e : hf_150 a0 a2 a4 h = some r) : hs_fr [] h r.2 := by
  unfold hf_150 at e
  rcases hz_if e with e | e
  · have fk := hz_b150_17  e
    exact (hs_fr.rf (K := []) (h := h)).tr fk
  · rcases hz_if e with e | e
    · have fk := hz_b150_17  e
      exact (hs_fr.rf (K := []) (h := h)).tr fk
    · have fk := hz_b150_18  e
      exact (hs_fr.rf (K := []) (h := h)).tr fk
theorem hz_b151_9 {s0 : Int32} {h : hs_H} {r : Int32 × hs_H} (e : hb_151_9 s0 h = some r) : hs_fr [] h r.2 := by
  unfold hb_151_9 at e
  obtain rfl := Option.some.inj e
  exact (hs_fr.rf (K := []) (h := h))
theorem hz_151 {a0 : Int32} {h : hs_H} {r : Int32 × hs_H} (e : hf_151 a0 h = some r) : hs_fr [] h r.2 := by
  unfold hf_151 at e
  rcases hz_if e with e | e
  · have fk := hz_b151_9  e
    exact (hs_fr.rf (K := []) (h := h)).tr fk
  · have fk := hz_b151_9  e
    exact (hs_fr.rf (K := []) (h := h)).tr fk
theorem hz_b152_4 {k4 : Int32 × Int32 × Int32 × hs_H → Option (Int32 × hs_H)} {x0 : Int32} {x1 : Int32} {x2 : Int32} {h : hs_H} {r : Int32 × hs_H} (hk4 : ∀ y1 y2 y3 h r, k4 (y1, y2, y3, h) = some r → hs_fr [] h r.2) (e : hb_152_4 k4 x0 x1 x2 h = some r) : hs_fr [] h r.2 := by
  unfold hb_152_4 at e
  rcases hz_if e with e | e
  · obtain rfl := Option.some.inj e
    exact (hs_fr.rf (K := []) (h := h))
  · have fk := hk4 _ _ _ _ _ e
    exact (hs_fr.rf (K := []) (h := h)).tr fk
theorem hz_152 {a0 : Int32} {h : hs_H} {r : Int32 × hs_H} (e : hf_152 a0 h = some r) : hs_fr [] h r.2 := by
  unfold hf_152 at e
  have fl := hz_lp4 (f := fun k s => hb_152_4 k s.1 s.2.1 s.2.2.1 s.2.2.2) (G := fun r => r.2) (fun k hk y1 y2 y3 h r e => hz_b152_4 hk e) e
  exact (hs_fr.rf (K := []) (h := h)).tr fl
theorem hz_b153_2 {k2 : Int32 × hs_H → Option (hs_H)} {x1 : Int32} {h : hs_H} {r : hs_H} (hk2 : ∀ y1 h r, k2 (y1, h) = some r → hs_fr [(12, some 0), (46, some 0)] h r) (e : hb_153_2 k2 x1 h = some r) : hs_fr [(12, some 0), (46, some 0)] h r := by
  unfold hb_153_2 at e
  rcases hz_if e with e | e
  · replace e := (hs_ck_some e).2
    replace e := (hs_ck_some e).2
    obtain rfl := Option.some.inj e
    exact (((((((((hs_fr.rf (K := [(12, some 0), (46, some 0)]) (h := h)).put (.inl (.tail _ (.head _)))).put (.inl (.tail _ (.head _)))).put (.inl (.head _))).put (.inl (.head _))).put (.inl (.head _))).put (.inl (.head _))).put (.inl (.head _))).put (.inl (.head _)))
  · replace e := (hs_ck_some e).2
    have fk := hk2 _ _ _ e
    exact ((hs_fr.rf (K := [(12, some 0), (46, some 0)]) (h := h)).put (.inl (.tail _ (.head _)))).tr fk
theorem hz_153 {h : hs_H} {r : hs_H} (e : hf_153 h = some r) : hs_fr [(12, some 0), (46, some 0)] h r := by
  unfold hf_153 at e
  have fl := hz_lp2 (f := fun k s => hb_153_2 k s.1 s.2) (G := fun r => r) (fun k hk y1 h r e => hz_b153_2 hk e) e
  exact (hs_fr.rf (K := [(12, some 0), (46, some 0)]) (h := h)).tr fl
theorem hz_b154_2 {k2 : Int32 × hs_H → Option (hs_H)} {x1 : Int32} {h : hs_H} {r : hs_H} (hk2 : ∀ y1 h r, k2 (y1, h) = some r → hs_fr [(12, some 0), (44, some 0), (45, some 0)] h r) (e : hb_154_2 k2 x1 h = some r) : hs_fr [(12, some 0), (44, some 0), (45, some 0)] h r := by
  unfold hb_154_2 at e
  rcases hz_if e with e | e
  · replace e := (hs_ck_some e).2
    replace e := (hs_ck_some e).2
    obtain rfl := Option.some.inj e
    exact (((((((hs_fr.rf (K := [(12, some 0), (44, some 0), (45, some 0)]) (h := h)).put (.inl (.head _))).put (.inl (.head _))).put (.inl (.head _))).put (.inl (.head _))).put (.inl (.tail _ (.tail _ (.head _))))).put (.inl (.tail _ (.tail _ (.head _)))))
  · replace e := (hs_ck_some e).2
    replace e := (hs_ck_some e).2
    have fk := hk2 _ _ _ e
    exact ((hs_fr.rf (K := [(12, some 0), (44, some 0), (45, some 0)]) (h := h)).put (.inl (.tail _ (.head _)))).tr fk
theorem hz_154 {h : hs_H} {r : hs_H} (e : hf_154 h = some r) : hs_fr [(12, some 0), (44, some 0), (45, some 0)] h r := by
  unfold hf_154 at e
  have fl := hz_lp2 (f := fun k s => hb_154_2 k s.1 s.2) (G := fun r => r) (fun k hk y1 h r e => hz_b154_2 hk e) e
  exact (hs_fr.rf (K := [(12, some 0), (44, some 0), (45, some 0)]) (h := h)).tr fl
theorem hz_b155_19 {k19 : Int64 × Int32 × hs_H → Option (Int32 × hs_H)} {x1 : Int64} {x3 : Int32} {h : hs_H} {r : Int32 × hs_H} (hk19 : ∀ y1 y2 h r, k19 (y1, y2, h) = some r → hs_fr [(12, some 0), (47, some 0)] h r.2) (e : hb_155_19 k19 x1 x3 h = some r) : hs_fr [(12, some 0), (47, some 0)] h r.2 := by
  unfold hb_155_19 at e
  rcases hz_if e with e | e
  · obtain rfl := Option.some.inj e
    exact (hs_fr.rf (K := [(12, some 0), (47, some 0)]) (h := h))
  · replace e := (hs_ck_some e).2
    have fk := hk19 _ _ _ _ e
    exact (((hs_fr.rf (K := [(12, some 0), (47, some 0)]) (h := h)).put (.inl (.tail _ (.head _)))).put (.inl (.head _))).tr fk
theorem hz_155 {a1 : Int64} {h : hs_H} {r : Int32 × hs_H} (e : hf_155 a1 h = some r) : hs_fr [(12, some 0), (47, some 0)] h r.2 := by
  unfold hf_155 at e
  rcases hz_if e with e | e
  · have fl := hz_lp3 (f := fun k s => hb_155_19 k s.1 s.2.1 s.2.2) (G := fun r => r.2) (fun k hk y1 y2 h r e => hz_b155_19 hk e) e
    exact (hs_fr.rf (K := [(12, some 0), (47, some 0)]) (h := h)).tr fl
  · obtain rfl := Option.some.inj e
    exact (hs_fr.rf (K := [(12, some 0), (47, some 0)]) (h := h))
theorem hz_156 {a1 : Int32} {h : hs_H} {r : Int32 × hs_H} (e : hf_156 a1 h = some r) : hs_fr [(12, some 0)] h r.2 := by
  unfold hf_156 at e
  obtain ⟨q1, eq1, e⟩ := hs_bind_some e
  have fq1 := (hs_fr.rf (K := [(12, some 0)]) (h := h)).tr ((hz_150 eq1).sub hs_sub_nil)
  rcases hz_if e with e | e
  · obtain rfl := Option.some.inj e
    exact (fq1.put (.inl (.head _)))
  · obtain rfl := Option.some.inj e
    exact fq1
theorem hz_b157_24 {h : hs_H} {r : hs_H} (e : hb_157_24 h = some r) : hs_fr [(12, some 0)] h r := by
  unfold hb_157_24 at e
  obtain rfl := Option.some.inj e
  exact (hs_fr.rf (K := [(12, some 0)]) (h := h))
theorem hz_157 {a1 : Int32} {a2 : Int32} {h : hs_H} {r : hs_H} (e : hf_157 a1 a2 h = some r) : hs_fr [(12, some 0)] h r := by
  unfold hf_157 at e
  rcases hz_if e with e | e
  · have fk := hz_b157_24  e
    exact (hs_fr.rf (K := [(12, some 0)]) (h := h)).tr fk
  · rcases hz_if e with e | e
    · have fk := hz_b157_24  e
      exact (hs_fr.rf (K := [(12, some 0)]) (h := h)).tr fk
    · have fk := hz_b157_24  e
      exact (((hs_fr.rf (K := [(12, some 0)]) (h := h)).put (.inl (.head _))).put (.inl (.head _))).tr fk
theorem hz_b158_18 {s0 : Int32} {h : hs_H} {r : Int32 × hs_H} (e : hb_158_18 s0 h = some r) : hs_fr [] h r.2 := by
  unfold hb_158_18 at e
  obtain rfl := Option.some.inj e
  exact (hs_fr.rf (K := []) (h := h))
theorem hz_158 {a1 : Int32} {h : hs_H} {r : Int32 × hs_H} (e : hf_158 a1 h = some r) : hs_fr [] h r.2 := by
  unfold hf_158 at e
  rcases hz_if e with e | e
  · have fk := hz_b158_18  e
    exact (hs_fr.rf (K := []) (h := h)).tr fk
  · replace e := (hs_ck_some e).2
    have fk := hz_b158_18  e
    exact (hs_fr.rf (K := []) (h := h)).tr fk
theorem hz_b159_94 {s0 : Int32} {h : hs_H} {r : Int32 × hs_H} (e : hb_159_94 s0 h = some r) : hs_fr [] h r.2 := by
  unfold hb_159_94 at e
  replace e := (hs_ck_some e).2
  obtain rfl := Option.some.inj e
  exact (hs_fr.rf (K := []) (h := h))
theorem hz_b159_93 {h : hs_H} {r : Int32 × hs_H} (e : hb_159_93 h = some r) : hs_fr [] h r.2 := by
  unfold hb_159_93 at e
  have fk := hz_b159_94  e
  exact (hs_fr.rf (K := []) (h := h)).tr fk
theorem hz_b159_89 {h : hs_H} {r : Int32 × hs_H} (e : hb_159_89 h = some r) : hs_fr [] h r.2 := by
  unfold hb_159_89 at e
  have fk := hz_b159_94  e
  exact (hs_fr.rf (K := []) (h := h)).tr fk
theorem hz_159 {a1 : Int32} {a2 : Int32} {a3 : Int32} {a4 : Int32} {a5 : Int32} {a6 : Int32} {h : hs_H} {r : Int32 × hs_H} (e : hf_159 a1 a2 a3 a4 a5 a6 h = some r) : hs_fr [] h r.2 := by
  unfold hf_159 at e
  rcases hz_if e with e | e
  · have fk := hz_b159_93  e
    exact (hs_fr.rf (K := []) (h := h)).tr fk
  · obtain ⟨q3, eq3, e⟩ := hs_bind_some e
    have fq3 := (hs_fr.rf (K := []) (h := h)).tr ((hz_158 eq3).sub hs_sub_nil)
    rcases hz_if e with e | e
    · have fk := hz_b159_93  e
      exact fq3.tr fk
    · obtain ⟨q5, eq5, e⟩ := hs_bind_some e
      have fq5 := fq3.tr ((hz_158 eq5).sub hs_sub_nil)
      rcases hz_if e with e | e
      · have fk := hz_b159_93  e
        exact fq5.tr fk
      · obtain ⟨q7, eq7, e⟩ := hs_bind_some e
        have fq7 := fq5.tr ((hz_158 eq7).sub hs_sub_nil)
        rcases hz_if e with e | e
        · have fk := hz_b159_93  e
          exact fq7.tr fk
        · obtain ⟨q9, eq9, e⟩ := hs_bind_some e
          have fq9 := fq7.tr ((hz_158 eq9).sub hs_sub_nil)
          rcases hz_if e with e | e
          · have fk := hz_b159_93  e
            exact fq9.tr fk
          · rcases hz_if e with e | e
            · have fk := hz_b159_89  e
              exact fq9.tr fk
            · obtain ⟨q12, eq12, e⟩ := hs_bind_some e
              have fq12 := fq9.tr ((hz_158 eq12).sub hs_sub_nil)
              rcases hz_if e with e | e
              · have fk := hz_b159_93  e
                exact fq12.tr fk
              · have fk := hz_b159_89  e
                exact fq12.tr fk
theorem hz_b160_144 {s0 : Int32} {h : hs_H} {r : Int32 × hs_H} (e : hb_160_144 s0 h = some r) : hs_fr [] h r.2 := by
  unfold hb_160_144 at e
  obtain rfl := Option.some.inj e
  exact (hs_fr.rf (K := []) (h := h))
theorem hz_160 {h : hs_H} {r : Int32 × hs_H} (e : hf_160 h = some r) : hs_fr [] h r.2 := by
  unfold hf_160 at e
  obtain ⟨q1, eq1, e⟩ := hs_bind_some e
  have fq1 := (hs_fr.rf (K := []) (h := h)).tr ((hz_159 eq1).sub hs_sub_nil)
  rcases hz_if e with e | e
  · obtain ⟨q3, eq3, e⟩ := hs_bind_some e
    have fq3 := fq1.tr ((hz_159 eq3).sub hs_sub_nil)
    rcases hz_if e with e | e
    · obtain ⟨q5, eq5, e⟩ := hs_bind_some e
      have fq5 := fq3.tr ((hz_159 eq5).sub hs_sub_nil)
      rcases hz_if e with e | e
      · obtain ⟨q7, eq7, e⟩ := hs_bind_some e
        have fq7 := fq5.tr ((hz_159 eq7).sub hs_sub_nil)
        rcases hz_if e with e | e
        · obtain ⟨q9, eq9, e⟩ := hs_bind_some e
          have fq9 := fq7.tr ((hz_159 eq9).sub hs_sub_nil)
          rcases hz_if e with e | e
          · obtain ⟨q11, eq11, e⟩ := hs_bind_some e
            have fq11 := fq9.tr ((hz_159 eq11).sub hs_sub_nil)
            rcases hz_if e with e | e
            · obtain ⟨q13, eq13, e⟩ := hs_bind_some e
              have fq13 := fq11.tr ((hz_159 eq13).sub hs_sub_nil)
              rcases hz_if e with e | e
              · have fk := hz_b160_144  e
                exact fq13.tr fk
              · have fk := hz_b160_144  e
                exact fq13.tr fk
            · have fk := hz_b160_144  e
              exact fq11.tr fk
          · obtain rfl := Option.some.inj e
            exact fq9
        · obtain rfl := Option.some.inj e
          exact fq7
      · obtain rfl := Option.some.inj e
        exact fq5
    · obtain rfl := Option.some.inj e
      exact fq3
  · obtain rfl := Option.some.inj e
    exact fq1
theorem hz_b161_274 {h : hs_H} {r : hs_H} (e : hb_161_274 h = some r) : hs_fr [(12, some 0)] h r := by
  unfold hb_161_274 at e
  obtain rfl := Option.some.inj e
  exact (hs_fr.rf (K := [(12, some 0)]) (h := h))
theorem hz_b161_260 {s0 : Int32} {h : hs_H} {r : hs_H} (e : hb_161_260 s0 h = some r) : hs_fr [(12, some 0)] h r := by
  unfold hb_161_260 at e
  obtain ⟨q11, eq11, e⟩ := hs_bind_some e
  have fq11 := (hs_fr.rf (K := [(12, some 0)]) (h := h)).tr ((hz_157 eq11).sub (hs_sub_cons (.inl (.head _)) hs_sub_nil))
  have fk := hz_b161_274  e
  exact (fq11.put (.inl (.head _))).tr fk
theorem hz_b161_236 {s0 : Int32} {h : hs_H} {r : hs_H} (e : hb_161_236 s0 h = some r) : hs_fr [(12, some 0)] h r := by
  unfold hb_161_236 at e
  obtain ⟨q16, eq16, e⟩ := hs_bind_some e
  have fq16 := (hs_fr.rf (K := [(12, some 0)]) (h := h)).tr ((hz_157 eq16).sub (hs_sub_cons (.inl (.head _)) hs_sub_nil))
  have fk := hz_b161_274  e
  exact fq16.tr fk
theorem hz_b161_201 {k140 : hs_H → Option (hs_H)} {s0 : Int32} {h : hs_H} {r : hs_H} (hk140 : ∀  h r, k140 (h) = some r → hs_fr [(12, some 0)] h r) (e : hb_161_201 k140 s0 h = some r) : hs_fr [(12, some 0)] h r := by
  unfold hb_161_201 at e
  have fk := hk140 _ _ e
  exact (((hs_fr.rf (K := [(12, some 0)]) (h := h)).put (.inl (.head _))).put (.inl (.head _))).tr fk
theorem hz_b161_140 {k140 : hs_H → Option (hs_H)} {h : hs_H} {r : hs_H} (hk140 : ∀  h r, k140 (h) = some r → hs_fr [(12, some 0)] h r) (e : hb_161_140 k140 h = some r) : hs_fr [(12, some 0)] h r := by
  unfold hb_161_140 at e
  obtain ⟨q12, eq12, e⟩ := hs_bind_some e
  have fq12 := (hs_fr.rf (K := [(12, some 0)]) (h := h)).tr ((hz_158 eq12).sub hs_sub_nil)
  obtain ⟨q13, eq13, e⟩ := hs_bind_some e
  have fq13 := fq12.tr ((hz_150 eq13).sub hs_sub_nil)
  rcases hz_if e with e | e
  · rcases hz_if e with e | e
    · have fk := hz_b161_236  e
      exact fq13.tr fk
    · have fk := hz_b161_236  e
      exact fq13.tr fk
  · rcases hz_if e with e | e
    · have fk := hz_b161_201 hk140 e
      exact fq13.tr fk
    · obtain ⟨q18, eq18, e⟩ := hs_bind_some e
      have fq18 := fq13.tr ((hz_158 eq18).sub hs_sub_nil)
      have fk := hz_b161_201 hk140 e
      exact fq18.tr fk
theorem hz_b161_82 {k82 : hs_H → Option (hs_H)} {h : hs_H} {r : hs_H} (hk82 : ∀  h r, k82 (h) = some r → hs_fr [(12, some 0)] h r) (e : hb_161_82 k82 h = some r) : hs_fr [(12, some 0)] h r := by
  unfold hb_161_82 at e
  obtain ⟨q19, eq19, e⟩ := hs_bind_some e
  have fq19 := (hs_fr.rf (K := [(12, some 0)]) (h := h)).tr ((hz_158 eq19).sub hs_sub_nil)
  obtain ⟨q20, eq20, e⟩ := hs_bind_some e
  have fq20 := fq19.tr ((hz_150 eq20).sub hs_sub_nil)
  rcases hz_if e with e | e
  · have fk := hz_b161_274  e
    exact fq20.tr fk
  · have fk := hk82 _ _ e
    exact (fq20.put (.inl (.head _))).tr fk
theorem hz_b161_8 {k8 : hs_H → Option (hs_H)} {h : hs_H} {r : hs_H} (hk8 : ∀  h r, k8 (h) = some r → hs_fr [(12, some 0)] h r) (e : hb_161_8 k8 h = some r) : hs_fr [(12, some 0)] h r := by
  unfold hb_161_8 at e
  obtain ⟨q2, eq2, e⟩ := hs_bind_some e
  have fq2 := (hs_fr.rf (K := [(12, some 0)]) (h := h)).tr ((hz_158 eq2).sub hs_sub_nil)
  rcases hz_if e with e | e
  · obtain ⟨q4, eq4, e⟩ := hs_bind_some e
    have fq4 := (fq2.put (.inl (.head _))).tr ((hz_158 eq4).sub hs_sub_nil)
    rcases hz_if e with e | e
    · obtain ⟨q6, eq6, e⟩ := hs_bind_some e
      have fq6 := fq4.tr ((hz_150 eq6).sub hs_sub_nil)
      rcases hz_if e with e | e
      · obtain ⟨q8, eq8, e⟩ := hs_bind_some e
        have fq8 := fq6.tr ((hz_150 eq8).sub hs_sub_nil)
        rcases hz_if e with e | e
        · rcases hz_if e with e | e
          · have fk := hz_b161_260  e
            exact (fq8.put (.inl (.head _))).tr fk
          · have fk := hz_b161_260  e
            exact (fq8.put (.inl (.head _))).tr fk
        · have fl := hz_lp1 (f := fun k s => hb_161_140 k s) (G := fun r => r) (fun k hk  h r e => hz_b161_140 hk e) e
          exact ((fq8.put (.inl (.head _))).put (.inl (.head _))).tr fl
      · have fl := hz_lp1 (f := fun k s => hb_161_82 k s) (G := fun r => r) (fun k hk  h r e => hz_b161_82 hk e) e
        exact (fq6.put (.inl (.head _))).tr fl
    · have fk := hz_b161_274  e
      exact (fq4.put (.inl (.head _))).tr fk
  · have fk := hk8 _ _ e
    exact (fq2.put (.inl (.head _))).tr fk
theorem hz_161 {h : hs_H} {r : hs_H} (e : hf_161 h = some r) : hs_fr [(12, some 0)] h r := by
  unfold hf_161 at e
  rcases hz_if e with e | e
  · have fl := hz_lp1 (f := fun k s => hb_161_8 k s) (G := fun r => r) (fun k hk  h r e => hz_b161_8 hk e) e
    exact (hs_fr.rf (K := [(12, some 0)]) (h := h)).tr fl
  · obtain rfl := Option.some.inj e
    exact (hs_fr.rf (K := [(12, some 0)]) (h := h))
theorem hz_b162_64 {s0 : Int32} {h : hs_H} {r : Int32 × hs_H} (e : hb_162_64 s0 h = some r) : hs_fr [(12, some 0)] h r.2 := by
  unfold hb_162_64 at e
  obtain rfl := Option.some.inj e
  exact (hs_fr.rf (K := [(12, some 0)]) (h := h))
theorem hz_b162_49 {h : hs_H} {r : Int32 × hs_H} (e : hb_162_49 h = some r) : hs_fr [(12, some 0)] h r.2 := by
  unfold hb_162_49 at e
  rcases hz_if e with e | e
  · have fk := hz_b162_64  e
    exact (hs_fr.rf (K := [(12, some 0)]) (h := h)).tr fk
  · have fk := hz_b162_64  e
    exact (hs_fr.rf (K := [(12, some 0)]) (h := h)).tr fk
theorem hz_b162_25 {x1 : Int32} {x2 : Int32} {h : hs_H} {r : Int32 × hs_H} (e : hb_162_25 x1 x2 h = some r) : hs_fr [(12, some 0)] h r.2 := by
  unfold hb_162_25 at e
  rcases hz_if e with e | e
  · have fk := hz_b162_49  e
    exact (hs_fr.rf (K := [(12, some 0)]) (h := h)).tr fk
  · obtain ⟨q4, eq4, e⟩ := hs_bind_some e
    have fq4 := (hs_fr.rf (K := [(12, some 0)]) (h := h)).tr ((hz_150 eq4).sub hs_sub_nil)
    obtain ⟨q5, eq5, e⟩ := hs_bind_some e
    have fq5 := fq4.tr ((hz_157 eq5).sub (hs_sub_cons (.inl (.head _)) hs_sub_nil))
    have fk := hz_b162_49  e
    exact fq5.tr fk
theorem hz_b162_21 {x1 : Int32} {x2 : Int32} {s0 : Int32} {h : hs_H} {r : Int32 × hs_H} (e : hb_162_21 x1 x2 s0 h = some r) : hs_fr [(12, some 0)] h r.2 := by
  unfold hb_162_21 at e
  obtain ⟨q7, eq7, e⟩ := hs_bind_some e
  have fq7 := (hs_fr.rf (K := [(12, some 0)]) (h := h)).tr ((hz_157 eq7).sub (hs_sub_cons (.inl (.head _)) hs_sub_nil))
  have fk := hz_b162_25  e
  exact fq7.tr fk
theorem hz_162 {a1 : Int32} {a2 : Int32} {h : hs_H} {r : Int32 × hs_H} (e : hf_162 a1 a2 h = some r) : hs_fr [(12, some 0)] h r.2 := by
  unfold hf_162 at e
  rcases hz_if e with e | e
  · have fk := hz_b162_25  e
    exact (hs_fr.rf (K := [(12, some 0)]) (h := h)).tr fk
  · rcases hz_if e with e | e
    · have fk := hz_b162_21  e
      exact (hs_fr.rf (K := [(12, some 0)]) (h := h)).tr fk
    · have fk := hz_b162_21  e
      exact (hs_fr.rf (K := [(12, some 0)]) (h := h)).tr fk
theorem hz_163 {a1 : Int32} {a2 : Int32} {h : hs_H} {r : Int32 × hs_H} (e : hf_163 a1 a2 h = some r) : hs_fr [(12, some 0)] h r.2 := by
  unfold hf_163 at e
  obtain ⟨q1, eq1, e⟩ := hs_bind_some e
  have fq1 := (hs_fr.rf (K := [(12, some 0)]) (h := h)).tr ((hz_162 eq1).sub (hs_sub_cons (.inl (.head _)) hs_sub_nil))
  obtain ⟨q2, eq2, e⟩ := hs_bind_some e
  have fq2 := fq1.tr ((hz_161 eq2).sub (hs_sub_cons (.inl (.head _)) hs_sub_nil))
  obtain rfl := Option.some.inj e
  exact fq2
theorem hz_b164_50 {x2 : Int32} {s0 : Int32} {h : hs_H} {r : Int32 × hs_H} (e : hb_164_50 x2 s0 h = some r) : hs_fr [(12, some 0)] h r.2 := by
  unfold hb_164_50 at e
  obtain ⟨q4, eq4, e⟩ := hs_bind_some e
  have fq4 := ((hs_fr.rf (K := [(12, some 0)]) (h := h)).put (.inl (.head _))).tr ((hz_161 eq4).sub (hs_sub_cons (.inl (.head _)) hs_sub_nil))
  obtain rfl := Option.some.inj e
  exact fq4
theorem hz_b164_33 {x2 : Int32} {h : hs_H} {r : Int32 × hs_H} (e : hb_164_33 x2 h = some r) : hs_fr [(12, some 0)] h r.2 := by
  unfold hb_164_33 at e
  rcases hz_if e with e | e
  · have fk := hz_b164_50  e
    exact (hs_fr.rf (K := [(12, some 0)]) (h := h)).tr fk
  · have fk := hz_b164_50  e
    exact (hs_fr.rf (K := [(12, some 0)]) (h := h)).tr fk
theorem hz_b164_29 {x2 : Int32} {s0 : Int32} {h : hs_H} {r : Int32 × hs_H} (e : hb_164_29 x2 s0 h = some r) : hs_fr [(12, some 0)] h r.2 := by
  unfold hb_164_29 at e
  obtain ⟨q6, eq6, e⟩ := hs_bind_some e
  have fq6 := (hs_fr.rf (K := [(12, some 0)]) (h := h)).tr ((hz_157 eq6).sub (hs_sub_cons (.inl (.head _)) hs_sub_nil))
  have fk := hz_b164_33  e
  exact fq6.tr fk
theorem hz_164 {a1 : Int32} {h : hs_H} {r : Int32 × hs_H} (e : hf_164 a1 h = some r) : hs_fr [(12, some 0)] h r.2 := by
  unfold hf_164 at e
  obtain ⟨q1, eq1, e⟩ := hs_bind_some e
  have fq1 := (hs_fr.rf (K := [(12, some 0)]) (h := h)).tr ((hz_162 eq1).sub (hs_sub_cons (.inl (.head _)) hs_sub_nil))
  rcases hz_if e with e | e
  · have fk := hz_b164_33  e
    exact fq1.tr fk
  · rcases hz_if e with e | e
    · have fk := hz_b164_29  e
      exact fq1.tr fk
    · have fk := hz_b164_29  e
      exact fq1.tr fk
theorem hz_b165_84 {h : hs_H} {r : hs_H} (e : hb_165_84 h = some r) : hs_fr [(12, some 0), (46, some 0)] h r := by
  unfold hb_165_84 at e
  obtain rfl := Option.some.inj e
  exact (hs_fr.rf (K := [(12, some 0), (46, some 0)]) (h := h))
theorem hz_b165_80 {k8 : Int32 × Int32 × hs_H → Option (hs_H)} {x1 : Int32} {s0 : Int32} {h : hs_H} {r : hs_H} (hk8 : ∀ y1 y2 h r, k8 (y1, y2, h) = some r → hs_fr [(12, some 0), (46, some 0)] h r) (e : hb_165_80 k8 x1 s0 h = some r) : hs_fr [(12, some 0), (46, some 0)] h r := by
  unfold hb_165_80 at e
  have fk := hk8 _ _ _ _ e
  exact (hs_fr.rf (K := [(12, some 0), (46, some 0)]) (h := h)).tr fk
theorem hz_b165_65 {k8 : Int32 × Int32 × hs_H → Option (hs_H)} {x3 : Int32} {h : hs_H} {r : hs_H} (hk8 : ∀ y1 y2 h r, k8 (y1, y2, h) = some r → hs_fr [(12, some 0), (46, some 0)] h r) (e : hb_165_65 k8 x3 h = some r) : hs_fr [(12, some 0), (46, some 0)] h r := by
  unfold hb_165_65 at e
  rcases hz_if e with e | e
  · have fk := hz_b165_80 hk8 e
    exact (hs_fr.rf (K := [(12, some 0), (46, some 0)]) (h := h)).tr fk
  · have fk := hz_b165_80 hk8 e
    exact (hs_fr.rf (K := [(12, some 0), (46, some 0)]) (h := h)).tr fk
theorem hz_b165_8 {k8 : Int32 × Int32 × hs_H → Option (hs_H)} {x1 : Int32} {x2 : Int32} {h : hs_H} {r : hs_H} (hk8 : ∀ y1 y2 h r, k8 (y1, y2, h) = some r → hs_fr [(12, some 0), (46, some 0)] h r) (e : hb_165_8 k8 x1 x2 h = some r) : hs_fr [(12, some 0), (46, some 0)] h r := by
  unfold hb_165_8 at e
  rcases hz_if e with e | e
  · have fk := hz_b165_84  e
    exact (hs_fr.rf (K := [(12, some 0), (46, some 0)]) (h := h)).tr fk
  · rcases hz_if e with e | e
    · have fk := hz_b165_84  e
      exact (hs_fr.rf (K := [(12, some 0), (46, some 0)]) (h := h)).tr fk
    · replace e := (hs_ck_some e).2
      obtain ⟨q5, eq5, e⟩ := hs_bind_some e
      have fq5 := (hs_fr.rf (K := [(12, some 0), (46, some 0)]) (h := h)).tr ((hz_164 eq5).sub (hs_sub_cons (.inl (.head _)) hs_sub_nil))
      rcases hz_if e with e | e
      · have fk := hz_b165_65 hk8 e
        exact fq5.tr fk
      · replace e := (hs_ck_some e).2
        replace e := (hs_ck_some e).2
        replace e := (hs_ck_some e).2
        replace e := (hs_ck_some e).2
        have fk := hz_b165_65 hk8 e
        exact ((fq5.put (.inl (.tail _ (.head _)))).put (.inl (.tail _ (.head _)))).tr fk
theorem hz_165 {h : hs_H} {r : hs_H} (e : hf_165 h = some r) : hs_fr [(12, some 0), (46, some 0)] h r := by
  unfold hf_165 at e
  obtain ⟨q1, eq1, e⟩ := hs_bind_some e
  have fq1 := (hs_fr.rf (K := [(12, some 0), (46, some 0)]) (h := h)).tr ((hz_164 eq1).sub (hs_sub_cons (.inl (.head _)) hs_sub_nil))
  have fl := hz_lp3 (f := fun k s => hb_165_8 k s.1 s.2.1 s.2.2) (G := fun r => r) (fun k hk y1 y2 h r e => hz_b165_8 hk e) e
  exact fq1.tr fl
theorem hz_166 {h : hs_H} {r : hs_H} (e : hf_166 h = some r) : hs_fr [(12, some 0), (46, some 0)] h r := by
  unfold hf_166 at e
  replace e := (hs_ck_some e).2
  obtain ⟨q2, eq2, e⟩ := hs_bind_some e
  have fq2 := (hs_fr.rf (K := [(12, some 0), (46, some 0)]) (h := h)).tr ((hz_163 eq2).sub (hs_sub_cons (.inl (.head _)) hs_sub_nil))
  replace e := (hs_ck_some e).2
  obtain ⟨q4, eq4, e⟩ := hs_bind_some e
  have fq4 := (fq2.put (.inl (.tail _ (.head _)))).tr ((hz_164 eq4).sub (hs_sub_cons (.inl (.head _)) hs_sub_nil))
  replace e := (hs_ck_some e).2
  obtain ⟨q6, eq6, e⟩ := hs_bind_some e
  have fq6 := (fq4.put (.inl (.tail _ (.head _)))).tr ((hz_163 eq6).sub (hs_sub_cons (.inl (.head _)) hs_sub_nil))
  replace e := (hs_ck_some e).2
  replace e := (hs_ck_some e).2
  replace e := (hs_ck_some e).2
  obtain rfl := Option.some.inj e
  exact ((fq6.put (.inl (.tail _ (.head _)))).put (.inl (.tail _ (.head _))))
theorem hz_b167_132 {h : hs_H} {r : hs_H} (e : hb_167_132 h = some r) : hs_fr [(12, some 0), (46, some 0)] h r := by
  unfold hb_167_132 at e
  obtain rfl := Option.some.inj e
  exact (hs_fr.rf (K := [(12, some 0), (46, some 0)]) (h := h))
theorem hz_167 {a1 : Int32} {h : hs_H} {r : hs_H} (e : hf_167 a1 h = some r) : hs_fr [(12, some 0), (46, some 0)] h r := by
  unfold hf_167 at e
  rcases hz_if e with e | e
  · obtain ⟨q2, eq2, e⟩ := hs_bind_some e
    have fq2 := (hs_fr.rf (K := [(12, some 0), (46, some 0)]) (h := h)).tr ((hz_163 eq2).sub (hs_sub_cons (.inl (.head _)) hs_sub_nil))
    have fk := hz_b167_132  e
    exact (fq2.put (.inl (.head _))).tr fk
  · rcases hz_if e with e | e
    · have fk := hz_b167_132  e
      exact ((hs_fr.rf (K := [(12, some 0), (46, some 0)]) (h := h)).put (.inl (.head _))).tr fk
    · rcases hz_if e with e | e
      · obtain ⟨q5, eq5, e⟩ := hs_bind_some e
        have fq5 := (hs_fr.rf (K := [(12, some 0), (46, some 0)]) (h := h)).tr ((hz_164 eq5).sub (hs_sub_cons (.inl (.head _)) hs_sub_nil))
        replace e := (hs_ck_some e).2
        have fk := hz_b167_132  e
        exact (fq5.put (.inl (.tail _ (.head _)))).tr fk
      · rcases hz_if e with e | e
        · obtain ⟨q8, eq8, e⟩ := hs_bind_some e
          have fq8 := (hs_fr.rf (K := [(12, some 0), (46, some 0)]) (h := h)).tr ((hz_165 eq8).sub (hs_sub_cons (.inl (.head _)) (hs_sub_cons (.inl (.tail _ (.head _))) hs_sub_nil)))
          have fk := hz_b167_132  e
          exact fq8.tr fk
        · rcases hz_if e with e | e
          · obtain ⟨q10, eq10, e⟩ := hs_bind_some e
            have fq10 := (hs_fr.rf (K := [(12, some 0), (46, some 0)]) (h := h)).tr ((hz_164 eq10).sub (hs_sub_cons (.inl (.head _)) hs_sub_nil))
            have fk := hz_b167_132  e
            exact (fq10.put (.inl (.head _))).tr fk
          · rcases hz_if e with e | e
            · obtain ⟨q12, eq12, e⟩ := hs_bind_some e
              have fq12 := (hs_fr.rf (K := [(12, some 0), (46, some 0)]) (h := h)).tr ((hz_164 eq12).sub (hs_sub_cons (.inl (.head _)) hs_sub_nil))
              have fk := hz_b167_132  e
              exact (fq12.put (.inl (.head _))).tr fk
            · obtain ⟨q13, eq13, e⟩ := hs_bind_some e
              have fq13 := (hs_fr.rf (K := [(12, some 0), (46, some 0)]) (h := h)).tr ((hz_166 eq13).sub (hs_sub_cons (.inl (.head _)) (hs_sub_cons (.inl (.tail _ (.head _))) hs_sub_nil)))
              have fk := hz_b167_132  e
              exact fq13.tr fk
theorem hz_b168_149 {h : hs_H} {r : hs_H} (e : hb_168_149 h = some r) : hs_fr [(12, some 0), (46, some 0)] h r := by
  unfold hb_168_149 at e
  obtain ⟨q11, eq11, e⟩ := hs_bind_some e
  have fq11 := (hs_fr.rf (K := [(12, some 0), (46, some 0)]) (h := h)).tr ((hz_161 eq11).sub (hs_sub_cons (.inl (.head _)) hs_sub_nil))
  obtain rfl := Option.some.inj e
  exact fq11
