/-! Frames: which kinds and instances a function writes; by gen7.py. -/
theorem hz_b55_143 {s0 : Int32} {h : hs_H} {r : Int32 × hs_H} (e : hb_55_143 s0 h = some r) : hs_fr [(4, some 1), (5, some 1), (6, some 0), (27, none), (28, some 1), (29, some 1), (30, some 1)] h r.2 := by
  unfold hb_55_143 at e
  replace e := (hs_ck_some e).2
  obtain rfl := Option.some.inj e
  exact (hs_fr.rf (K := [(4, some 1), (5, some 1), (6, some 0), (27, none), (28, some 1), (29, some 1), (30, some 1)]) (h := h))
theorem hz_55 {h : hs_H} {r : Int32 × hs_H} (e : hf_55 h = some r) : hs_fr [(4, some 1), (5, some 1), (6, some 0), (27, none), (28, some 1), (29, some 1), (30, some 1)] h r.2 := by
  unfold hf_55 at e
  obtain ⟨q1, eq1, e⟩ := hs_bind_some e
  have fq1 := (hs_fr.rf (K := [(4, some 1), (5, some 1), (6, some 0), (27, none), (28, some 1), (29, some 1), (30, some 1)]) (h := h)).tr ((hz_69 eq1).sub (hs_sub_cons (.inl (.tail _ (.tail _ (.head _)))) hs_sub_nil))
  rcases hz_if e with e | e
  · have fk := hz_b55_14  e
    exact fq1.tr fk
  · rcases hz_if e with e | e
    · rcases hz_if e with e | e
      · obtain ⟨q5, eq5, e⟩ := hs_bind_some e
        have fq5 := fq1.tr ((hz_72_64 eq5).sub hs_sub_nil)
        rcases hz_if e with e | e
        · obtain ⟨q7, eq7, e⟩ := hs_bind_some e
          have fq7 := fq5.tr ((hz_72_64 eq7).sub hs_sub_nil)
          rcases hz_if e with e | e
          · obtain ⟨q9, eq9, e⟩ := hs_bind_some e
            have fq9 := fq7.tr ((hz_72_64 eq9).sub hs_sub_nil)
            rcases hz_if e with e | e
            · obtain ⟨q11, eq11, e⟩ := hs_bind_some e
              have fq11 := fq9.tr ((hz_72_64 eq11).sub hs_sub_nil)
              rcases hz_if e with e | e
              · obtain ⟨q13, eq13, e⟩ := hs_bind_some e
                have fq13 := fq11.tr ((hz_72_64 eq13).sub hs_sub_nil)
                rcases hz_if e with e | e
                · obtain ⟨q15, eq15, e⟩ := hs_bind_some e
                  have fq15 := fq13.tr ((hz_72_64 eq15).sub hs_sub_nil)
                  rcases hz_if e with e | e
                  · obtain ⟨q17, eq17, e⟩ := hs_bind_some e
                    have fq17 := fq15.tr ((hz_72_64 eq17).sub hs_sub_nil)
                    rcases hz_if e with e | e
                    · obtain ⟨q19, eq19, e⟩ := hs_bind_some e
                      have fq19 := fq17.tr ((hz_54 eq19).sub (hs_sub_cons (.inl (.tail _ (.tail _ (.head _)))) hs_sub_nil))
                      have fk := hz_b55_143  e
                      exact fq19.tr fk
                    · obtain ⟨q21, eq21, e⟩ := hs_bind_some e
                      have fq21 := fq17.tr ((hz_62 eq21).sub (hs_sub_cons (.inl (.tail _ (.head _))) (hs_sub_cons (.inl (.tail _ (.tail _ (.head _)))) (hs_sub_cons (.inl (.tail _ (.tail _ (.tail _ (.tail _ (.head _)))))) (hs_sub_cons (.inl (.tail _ (.tail _ (.tail _ (.tail _ (.tail _ (.head _))))))) (hs_sub_cons (.inl (.tail _ (.tail _ (.tail _ (.tail _ (.tail _ (.tail _ (.head _)))))))) hs_sub_nil))))))
                      have fk := hz_b55_143  e
                      exact fq21.tr fk
                  · obtain ⟨q22, eq22, e⟩ := hs_bind_some e
                    have fq22 := fq15.tr ((hz_61 eq22).sub (hs_sub_cons (.inl (.head _)) (hs_sub_cons (.inl (.tail _ (.tail _ (.head _)))) hs_sub_nil)))
                    replace e := (hs_ck_some e).2
                    obtain rfl := Option.some.inj e
                    exact fq22
                · obtain ⟨q24, eq24, e⟩ := hs_bind_some e
                  have fq24 := fq13.tr ((hz_60 eq24).sub (hs_sub_cons (.inl (.head _)) (hs_sub_cons (.inl (.tail _ (.tail _ (.head _)))) hs_sub_nil)))
                  replace e := (hs_ck_some e).2
                  obtain rfl := Option.some.inj e
                  exact fq24
              · obtain ⟨q26, eq26, e⟩ := hs_bind_some e
                have fq26 := fq11.tr ((hz_59 eq26).sub (hs_sub_cons (.inl (.head _)) (hs_sub_cons (.inl (.tail _ (.tail _ (.head _)))) (hs_sub_cons (.inl (.tail _ (.tail _ (.tail _ (.head _))))) hs_sub_nil))))
                replace e := (hs_ck_some e).2
                obtain rfl := Option.some.inj e
                exact fq26
            · obtain ⟨q28, eq28, e⟩ := hs_bind_some e
              have fq28 := fq9.tr ((hz_58 eq28).sub (hs_sub_cons (.inl (.head _)) (hs_sub_cons (.inl (.tail _ (.tail _ (.head _)))) hs_sub_nil)))
              replace e := (hs_ck_some e).2
              obtain rfl := Option.some.inj e
              exact fq28
          · obtain ⟨q30, eq30, e⟩ := hs_bind_some e
            have fq30 := fq7.tr ((hz_57 eq30).sub (hs_sub_cons (.inl (.head _)) (hs_sub_cons (.inl (.tail _ (.tail _ (.head _)))) hs_sub_nil)))
            replace e := (hs_ck_some e).2
            obtain rfl := Option.some.inj e
            exact fq30
        · obtain ⟨q32, eq32, e⟩ := hs_bind_some e
          have fq32 := fq5.tr ((hz_56 eq32).sub (hs_sub_cons (.inl (.head _)) (hs_sub_cons (.inl (.tail _ (.tail _ (.head _)))) hs_sub_nil)))
          replace e := (hs_ck_some e).2
          obtain rfl := Option.some.inj e
          exact fq32
      · obtain ⟨q34, eq34, e⟩ := hs_bind_some e
        have fq34 := fq1.tr ((hz_54 eq34).sub (hs_sub_cons (.inl (.tail _ (.tail _ (.head _)))) hs_sub_nil))
        replace e := (hs_ck_some e).2
        obtain rfl := Option.some.inj e
        exact fq34
    · have fk := hz_b55_14  e
      exact fq1.tr fk
theorem hz_b53_112 {s0 : Int32} {h : hs_H} {r : Int32 × hs_H} (e : hb_53_112 s0 h = some r) : hs_fr [(4, some 1), (5, some 1), (6, some 0), (27, none), (28, some 1), (29, some 1), (30, some 1)] h r.2 := by
  unfold hb_53_112 at e
  obtain rfl := Option.some.inj e
  exact (hs_fr.rf (K := [(4, some 1), (5, some 1), (6, some 0), (27, none), (28, some 1), (29, some 1), (30, some 1)]) (h := h))
theorem hz_b53_89 {x1 : Int32} {h : hs_H} {r : Int32 × hs_H} (e : hb_53_89 x1 h = some r) : hs_fr [(4, some 1), (5, some 1), (6, some 0), (27, none), (28, some 1), (29, some 1), (30, some 1)] h r.2 := by
  unfold hb_53_89 at e
  rcases hz_if e with e | e
  · have fk := hz_b53_112  e
    exact ((hs_fr.rf (K := [(4, some 1), (5, some 1), (6, some 0), (27, none), (28, some 1), (29, some 1), (30, some 1)]) (h := h)).put (.inl (.tail _ (.tail _ (.head _))))).tr fk
  · have fk := hz_b53_112  e
    exact ((hs_fr.rf (K := [(4, some 1), (5, some 1), (6, some 0), (27, none), (28, some 1), (29, some 1), (30, some 1)]) (h := h)).put (.inl (.tail _ (.tail _ (.head _))))).tr fk
theorem hz_b53_57 {x1 : Int32} {h : hs_H} {r : Int32 × hs_H} (e : hb_53_57 x1 h = some r) : hs_fr [(4, some 1), (5, some 1), (6, some 0), (27, none), (28, some 1), (29, some 1), (30, some 1)] h r.2 := by
  unfold hb_53_57 at e
  rcases hz_if e with e | e
  · have fk := hz_b53_89  e
    exact (hs_fr.rf (K := [(4, some 1), (5, some 1), (6, some 0), (27, none), (28, some 1), (29, some 1), (30, some 1)]) (h := h)).tr fk
  · obtain ⟨q6, eq6, e⟩ := hs_bind_some e
    have fq6 := (hs_fr.rf (K := [(4, some 1), (5, some 1), (6, some 0), (27, none), (28, some 1), (29, some 1), (30, some 1)]) (h := h)).tr ((hz_30 eq6).sub hs_sub_nil)
    rcases hz_if e with e | e
    · have fk := hz_b53_89  e
      exact fq6.tr fk
    · obtain ⟨q8, eq8, e⟩ := hs_bind_some e
      have fq8 := fq6.tr ((hz_54 eq8).sub (hs_sub_cons (.inl (.tail _ (.tail _ (.head _)))) hs_sub_nil))
      have fk := hz_b53_89  e
      exact fq8.tr fk
theorem hz_b53_37 {k37 : Int32 × hs_H → Option (Int32 × hs_H)} {x1 : Int32} {h : hs_H} {r : Int32 × hs_H} (hk37 : ∀ y1 h r, k37 (y1, h) = some r → hs_fr [(4, some 1), (5, some 1), (6, some 0), (27, none), (28, some 1), (29, some 1), (30, some 1)] h r.2) (e : hb_53_37 k37 x1 h = some r) : hs_fr [(4, some 1), (5, some 1), (6, some 0), (27, none), (28, some 1), (29, some 1), (30, some 1)] h r.2 := by
  unfold hb_53_37 at e
  rcases hz_if e with e | e
  · have fk := hz_b53_57  e
    exact (hs_fr.rf (K := [(4, some 1), (5, some 1), (6, some 0), (27, none), (28, some 1), (29, some 1), (30, some 1)]) (h := h)).tr fk
  · obtain ⟨q9, eq9, e⟩ := hs_bind_some e
    have fq9 := (hs_fr.rf (K := [(4, some 1), (5, some 1), (6, some 0), (27, none), (28, some 1), (29, some 1), (30, some 1)]) (h := h)).tr ((hz_55 eq9).sub (hs_sub_cons (.inl (.head _)) (hs_sub_cons (.inl (.tail _ (.head _))) (hs_sub_cons (.inl (.tail _ (.tail _ (.head _)))) (hs_sub_cons (.inl (.tail _ (.tail _ (.tail _ (.head _))))) (hs_sub_cons (.inl (.tail _ (.tail _ (.tail _ (.tail _ (.head _)))))) (hs_sub_cons (.inl (.tail _ (.tail _ (.tail _ (.tail _ (.tail _ (.head _))))))) (hs_sub_cons (.inl (.tail _ (.tail _ (.tail _ (.tail _ (.tail _ (.tail _ (.head _)))))))) hs_sub_nil))))))))
    rcases hz_if e with e | e
    · have fk := hz_b53_57  e
      exact fq9.tr fk
    · have fk := hk37 _ _ _ e
      exact fq9.tr fk
theorem hz_53 {h : hs_H} {r : Int32 × hs_H} (e : hf_53 h = some r) : hs_fr [(4, some 1), (5, some 1), (6, some 0), (27, none), (28, some 1), (29, some 1), (30, some 1)] h r.2 := by
  unfold hf_53 at e
  obtain ⟨q1, eq1, e⟩ := hs_bind_some e
  have fq1 := (hs_fr.rf (K := [(4, some 1), (5, some 1), (6, some 0), (27, none), (28, some 1), (29, some 1), (30, some 1)]) (h := h)).tr ((hz_27 eq1).sub (hs_sub_cons (.inl (.head _)) (hs_sub_cons (.inr (.tail _ (.tail _ (.tail _ (.head _))))) hs_sub_nil)))
  obtain ⟨q2, eq2, e⟩ := hs_bind_some e
  have fq2 := fq1.tr ((hz_47 eq2).sub (hs_sub_cons (.inl (.tail _ (.head _))) hs_sub_nil))
  have fl := hz_lp2 (f := fun k s => hb_53_37 k s.1 s.2) (G := fun r => r.2) (fun k hk y1 h r e => hz_b53_37 hk e) e
  exact ((((fq2.put (.inl (.tail _ (.tail _ (.head _))))).put (.inl (.tail _ (.tail _ (.head _))))).put (.inl (.tail _ (.tail _ (.head _))))).put (.inl (.tail _ (.tail _ (.head _))))).tr fl
theorem hz_b28_4_2 {o : Nat} {p1 : Nat} {k2 : Int32 × hs_H → Option (hs_H)} {x2 : Int32} {h : hs_H} {r : hs_H} (hk2 : ∀ y1 h r, k2 (y1, h) = some r → hs_fr [(4, some o), (27, some o)] h r) (e : hb_28_4_2 o p1 k2 x2 h = some r) : hs_fr [(4, some o), (27, some o)] h r := by
  unfold hb_28_4_2 at e
  rcases hz_if e with e | e
  · obtain rfl := Option.some.inj e
    exact (((((((hs_fr.rf (K := [(4, some o), (27, some o)]) (h := h)).put (.inl (.head _))).put (.inl (.head _))).put (.inl (.head _))).put (.inl (.head _))).put (.inl (.head _))).put (.inl (.head _)))
  · replace e := (hs_ck_some e).2
    replace e := (hs_ck_some e).2
    have fk := hk2 _ _ _ e
    exact ((hs_fr.rf (K := [(4, some o), (27, some o)]) (h := h)).put (.inl (.tail _ (.head _)))).tr fk
theorem hz_28_4 {o : Nat} {p1 : Nat} {h : hs_H} {r : hs_H} (e : hf_28_4 o p1 h = some r) : hs_fr [(4, some o), (27, some o)] h r := by
  unfold hf_28_4 at e
  have fl := hz_lp2 (f := fun k s => hb_28_4_2 o p1 k s.1 s.2) (G := fun r => r) (fun k hk y1 h r e => hz_b28_4_2 hk e) e
  exact (hs_fr.rf (K := [(4, some o), (27, some o)]) (h := h)).tr fl
theorem hz_b48_5_2 {o : Nat} {p1 : Nat} {k2 : Int32 × hs_H → Option (hs_H)} {x2 : Int32} {h : hs_H} {r : hs_H} (hk2 : ∀ y1 h r, k2 (y1, h) = some r → hs_fr [(5, some o), (28, some o), (29, some o), (30, some o)] h r) (e : hb_48_5_2 o p1 k2 x2 h = some r) : hs_fr [(5, some o), (28, some o), (29, some o), (30, some o)] h r := by
  unfold hb_48_5_2 at e
  rcases hz_if e with e | e
  · obtain rfl := Option.some.inj e
    exact (((hs_fr.rf (K := [(5, some o), (28, some o), (29, some o), (30, some o)]) (h := h)).put (.inl (.head _))).put (.inl (.head _)))
  · replace e := (hs_ck_some e).2
    replace e := (hs_ck_some e).2
    replace e := (hs_ck_some e).2
    replace e := (hs_ck_some e).2
    replace e := (hs_ck_some e).2
    replace e := (hs_ck_some e).2
    have fk := hk2 _ _ _ e
    exact ((((hs_fr.rf (K := [(5, some o), (28, some o), (29, some o), (30, some o)]) (h := h)).put (.inl (.tail _ (.head _)))).put (.inl (.tail _ (.tail _ (.head _))))).put (.inl (.tail _ (.tail _ (.tail _ (.head _)))))).tr fk
theorem hz_48_5 {o : Nat} {p1 : Nat} {h : hs_H} {r : hs_H} (e : hf_48_5 o p1 h = some r) : hs_fr [(5, some o), (28, some o), (29, some o), (30, some o)] h r := by
  unfold hf_48_5 at e
  have fl := hz_lp2 (f := fun k s => hb_48_5_2 o p1 k s.1 s.2) (G := fun r => r) (fun k hk y1 h r e => hz_b48_5_2 hk e) e
  exact (hs_fr.rf (K := [(5, some o), (28, some o), (29, some o), (30, some o)]) (h := h)).tr fl
theorem hz_b87_2 {o : Nat} {k2 : Int32 × hs_H → Option (hs_H)} {x1 : Int32} {h : hs_H} {r : hs_H} (hk2 : ∀ y1 h r, k2 (y1, h) = some r → hs_fr [(9, some o), (33, some o)] h r) (e : hb_87_2 o k2 x1 h = some r) : hs_fr [(9, some o), (33, some o)] h r := by
  unfold hb_87_2 at e
  rcases hz_if e with e | e
  · obtain rfl := Option.some.inj e
    exact (((hs_fr.rf (K := [(9, some o), (33, some o)]) (h := h)).put (.inl (.head _))).put (.inl (.head _)))
  · replace e := (hs_ck_some e).2
    have fk := hk2 _ _ _ e
    exact ((hs_fr.rf (K := [(9, some o), (33, some o)]) (h := h)).put (.inl (.tail _ (.head _)))).tr fk
theorem hz_87 {o : Nat} {h : hs_H} {r : hs_H} (e : hf_87 o h = some r) : hs_fr [(9, some o), (33, some o)] h r := by
  unfold hf_87 at e
  have fl := hz_lp2 (f := fun k s => hb_87_2 o k s.1 s.2) (G := fun r => r) (fun k hk y1 h r e => hz_b87_2 hk e) e
  exact (hs_fr.rf (K := [(9, some o), (33, some o)]) (h := h)).tr fl
theorem hz_b107_70 {x1 : Int32} {h : hs_H} {r : Int32 × hs_H} (e : hb_107_70 x1 h = some r) : hs_fr [(3, none), (4, some 0), (4, some 1), (5, some 0), (5, some 1), (6, some 0), (9, some 0), (27, none), (28, some 0), (28, some 1), (29, some 0), (29, some 1), (30, some 0), (30, some 1), (33, some 0)] h r.2 := by
  unfold hb_107_70 at e
  obtain rfl := Option.some.inj e
  exact (hs_fr.rf (K := [(3, none), (4, some 0), (4, some 1), (5, some 0), (5, some 1), (6, some 0), (9, some 0), (27, none), (28, some 0), (28, some 1), (29, some 0), (29, some 1), (30, some 0), (30, some 1), (33, some 0)]) (h := h))
theorem hz_b107_49 {k49 : Int32 × Int32 × hs_H → Option (Int32 × hs_H)} {x1 : Int32} {x2 : Int32} {h : hs_H} {r : Int32 × hs_H} (hk49 : ∀ y1 y2 h r, k49 (y1, y2, h) = some r → hs_fr [(3, none), (4, some 0), (4, some 1), (5, some 0), (5, some 1), (6, some 0), (9, some 0), (27, none), (28, some 0), (28, some 1), (29, some 0), (29, some 1), (30, some 0), (30, some 1), (33, some 0)] h r.2) (e : hb_107_49 k49 x1 x2 h = some r) : hs_fr [(3, none), (4, some 0), (4, some 1), (5, some 0), (5, some 1), (6, some 0), (9, some 0), (27, none), (28, some 0), (28, some 1), (29, some 0), (29, some 1), (30, some 0), (30, some 1), (33, some 0)] h r.2 := by
  unfold hb_107_49 at e
  rcases hz_if e with e | e
  · have fk := hz_b107_70  e
    exact (hs_fr.rf (K := [(3, none), (4, some 0), (4, some 1), (5, some 0), (5, some 1), (6, some 0), (9, some 0), (27, none), (28, some 0), (28, some 1), (29, some 0), (29, some 1), (30, some 0), (30, some 1), (33, some 0)]) (h := h)).tr fk
  · replace e := (hs_ck_some e).2
    have fk := hk49 _ _ _ _ e
    exact ((hs_fr.rf (K := [(3, none), (4, some 0), (4, some 1), (5, some 0), (5, some 1), (6, some 0), (9, some 0), (27, none), (28, some 0), (28, some 1), (29, some 0), (29, some 1), (30, some 0), (30, some 1), (33, some 0)]) (h := h)).put (.inr (.head _))).tr fk
theorem hz_107 {h : hs_H} {r : Int32 × hs_H} (e : hf_107 h = some r) : hs_fr [(3, none), (4, some 0), (4, some 1), (5, some 0), (5, some 1), (6, some 0), (9, some 0), (27, none), (28, some 0), (28, some 1), (29, some 0), (29, some 1), (30, some 0), (30, some 1), (33, some 0)] h r.2 := by
  unfold hf_107 at e
  obtain ⟨q1, eq1, e⟩ := hs_bind_some e
  have fq1 := (hs_fr.rf (K := [(3, none), (4, some 0), (4, some 1), (5, some 0), (5, some 1), (6, some 0), (9, some 0), (27, none), (28, some 0), (28, some 1), (29, some 0), (29, some 1), (30, some 0), (30, some 1), (33, some 0)]) (h := h)).tr ((hz_53 eq1).sub (hs_sub_cons (.inl (.tail _ (.tail _ (.head _)))) (hs_sub_cons (.inl (.tail _ (.tail _ (.tail _ (.tail _ (.head _)))))) (hs_sub_cons (.inl (.tail _ (.tail _ (.tail _ (.tail _ (.tail _ (.head _))))))) (hs_sub_cons (.inl (.tail _ (.tail _ (.tail _ (.tail _ (.tail _ (.tail _ (.tail _ (.head _))))))))) (hs_sub_cons (.inl (.tail _ (.tail _ (.tail _ (.tail _ (.tail _ (.tail _ (.tail _ (.tail _ (.tail _ (.head _))))))))))) (hs_sub_cons (.inl (.tail _ (.tail _ (.tail _ (.tail _ (.tail _ (.tail _ (.tail _ (.tail _ (.tail _ (.tail _ (.tail _ (.head _))))))))))))) (hs_sub_cons (.inl (.tail _ (.tail _ (.tail _ (.tail _ (.tail _ (.tail _ (.tail _ (.tail _ (.tail _ (.tail _ (.tail _ (.tail _ (.tail _ (.head _))))))))))))))) hs_sub_nil))))))))
  rcases hz_if e with e | e
  · have fk := hz_b107_70  e
    exact fq1.tr fk
  · obtain ⟨q3, eq3, e⟩ := hs_bind_some e
    have fq3 := fq1.tr ((hz_28_4 eq3).sub (hs_sub_cons (.inl (.tail _ (.head _))) (hs_sub_cons (.inr (.tail _ (.tail _ (.tail _ (.tail _ (.tail _ (.tail _ (.tail _ (.head _))))))))) hs_sub_nil)))
    obtain ⟨q4, eq4, e⟩ := hs_bind_some e
    have fq4 := fq3.tr ((hz_48_5 eq4).sub (hs_sub_cons (.inl (.tail _ (.tail _ (.tail _ (.head _))))) (hs_sub_cons (.inl (.tail _ (.tail _ (.tail _ (.tail _ (.tail _ (.tail _ (.tail _ (.tail _ (.head _)))))))))) (hs_sub_cons (.inl (.tail _ (.tail _ (.tail _ (.tail _ (.tail _ (.tail _ (.tail _ (.tail _ (.tail _ (.tail _ (.head _)))))))))))) (hs_sub_cons (.inl (.tail _ (.tail _ (.tail _ (.tail _ (.tail _ (.tail _ (.tail _ (.tail _ (.tail _ (.tail _ (.tail _ (.tail _ (.head _)))))))))))))) hs_sub_nil)))))
    obtain ⟨q5, eq5, e⟩ := hs_bind_some e
    have fq5 := fq4.tr ((hz_87 eq5).sub (hs_sub_cons (.inl (.tail _ (.tail _ (.tail _ (.tail _ (.tail _ (.tail _ (.head _)))))))) (hs_sub_cons (.inl (.tail _ (.tail _ (.tail _ (.tail _ (.tail _ (.tail _ (.tail _ (.tail _ (.tail _ (.tail _ (.tail _ (.tail _ (.tail _ (.tail _ (.head _)))))))))))))))) hs_sub_nil)))
    have fl := hz_lp3 (f := fun k s => hb_107_49 k s.1 s.2.1 s.2.2) (G := fun r => r.2) (fun k hk y1 y2 h r e => hz_b107_49 hk e) e
    exact fq5.tr fl
theorem hz_108 {h : hs_H} {r : Int32 × hs_H} (e : hf_108 h = some r) : hs_fr [] h r.2 := by
  unfold hf_108 at e
  obtain rfl := Option.some.inj e
  exact (hs_fr.rf (K := []) (h := h))
theorem hz_240 {a0 : Int32} {h : hs_H} {r : Int32 × hs_H} (e : hf_240 a0 h = some r) : hs_fr [] h r.2 := by
  unfold hf_240 at e
  obtain rfl := Option.some.inj e
  exact (hs_fr.rf (K := []) (h := h))
theorem hz_b36_4 {o : Nat} {k4 : Int32 × Int32 × hs_H → Option (Int32 × hs_H)} {x1 : Int32} {x2 : Int32} {h : hs_H} {r : Int32 × hs_H} (hk4 : ∀ y1 y2 h r, k4 (y1, y2, h) = some r → hs_fr [] h r.2) (e : hb_36_4 o k4 x1 x2 h = some r) : hs_fr [] h r.2 := by
  unfold hb_36_4 at e
  rcases hz_if e with e | e
  · obtain rfl := Option.some.inj e
    exact (hs_fr.rf (K := []) (h := h))
  · replace e := (hs_ck_some e).2
    obtain ⟨q3, eq3, e⟩ := hs_bind_some e
    have fq3 := (hs_fr.rf (K := []) (h := h)).tr ((hz_240 eq3).sub hs_sub_nil)
    have fk := hk4 _ _ _ _ e
    exact fq3.tr fk
theorem hz_36 {o : Nat} {h : hs_H} {r : Int32 × hs_H} (e : hf_36 o h = some r) : hs_fr [] h r.2 := by
  unfold hf_36 at e
  have fl := hz_lp3 (f := fun k s => hb_36_4 o k s.1 s.2.1 s.2.2) (G := fun r => r.2) (fun k hk y1 y2 h r e => hz_b36_4 hk e) e
  exact (hs_fr.rf (K := []) (h := h)).tr fl
theorem hz_109 {a1 : Int32} {h : hs_H} {r : Int32 × hs_H} (e : hf_109 a1 h = some r) : hs_fr [] h r.2 := by
  unfold hf_109 at e
  rcases hz_if e with e | e
  · obtain rfl := Option.some.inj e
    exact (hs_fr.rf (K := []) (h := h))
  · rcases hz_if e with e | e
    · obtain ⟨q3, eq3, e⟩ := hs_bind_some e
      have fq3 := (hs_fr.rf (K := []) (h := h)).tr ((hz_36 eq3).sub hs_sub_nil)
      obtain rfl := Option.some.inj e
      exact fq3
    · rcases hz_if e with e | e
      · obtain rfl := Option.some.inj e
        exact (hs_fr.rf (K := []) (h := h))
      · rcases hz_if e with e | e
        · obtain rfl := Option.some.inj e
          exact (hs_fr.rf (K := []) (h := h))
        · rcases hz_if e with e | e
          · obtain rfl := Option.some.inj e
            exact (hs_fr.rf (K := []) (h := h))
          · rcases hz_if e with e | e
            · obtain rfl := Option.some.inj e
              exact (hs_fr.rf (K := []) (h := h))
            · obtain rfl := Option.some.inj e
              exact (hs_fr.rf (K := []) (h := h))
theorem hz_b29_17 {o : Nat} {s0 : Int32} {h : hs_H} {r : Int32 × hs_H} (e : hb_29_17 o s0 h = some r) : hs_fr [] h r.2 := by
  unfold hb_29_17 at e
  replace e := (hs_ck_some e).2
  obtain rfl := Option.some.inj e
  exact (hs_fr.rf (K := []) (h := h))
theorem hz_b29_16 {o : Nat} {h : hs_H} {r : Int32 × hs_H} (e : hb_29_16 o h = some r) : hs_fr [] h r.2 := by
  unfold hb_29_16 at e
  have fk := hz_b29_17  e
  exact (hs_fr.rf (K := []) (h := h)).tr fk
theorem hz_29 {o : Nat} {a1 : Int32} {h : hs_H} {r : Int32 × hs_H} (e : hf_29 o a1 h = some r) : hs_fr [] h r.2 := by
  unfold hf_29 at e
  rcases hz_if e with e | e
  · have fk := hz_b29_16  e
    exact (hs_fr.rf (K := []) (h := h)).tr fk
  · rcases hz_if e with e | e
    · have fk := hz_b29_16  e
      exact (hs_fr.rf (K := []) (h := h)).tr fk
    · have fk := hz_b29_17  e
      exact (hs_fr.rf (K := []) (h := h)).tr fk
theorem hz_b110_23 {s0 : Int32} {h : hs_H} {r : Int32 × hs_H} (e : hb_110_23 s0 h = some r) : hs_fr [] h r.2 := by
  unfold hb_110_23 at e
  obtain rfl := Option.some.inj e
  exact (hs_fr.rf (K := []) (h := h))
theorem hz_110 {a1 : Int32} {h : hs_H} {r : Int32 × hs_H} (e : hf_110 a1 h = some r) : hs_fr [] h r.2 := by
  unfold hf_110 at e
  obtain ⟨q1, eq1, e⟩ := hs_bind_some e
  have fq1 := (hs_fr.rf (K := []) (h := h)).tr ((hz_29 eq1).sub hs_sub_nil)
  rcases hz_if e with e | e
  · have fk := hz_b110_23  e
    exact fq1.tr fk
  · obtain ⟨q3, eq3, e⟩ := hs_bind_some e
    have fq3 := fq1.tr ((hz_32 eq3).sub hs_sub_nil)
    have fk := hz_b110_23  e
    exact fq3.tr fk
theorem hz_b111_27 {h : hs_H} {r : Int32 × hs_H} (e : hb_111_27 h = some r) : hs_fr [(4, some 0), (27, none)] h r.2 := by
  unfold hb_111_27 at e
  obtain rfl := Option.some.inj e
  exact (hs_fr.rf (K := [(4, some 0), (27, none)]) (h := h))
theorem hz_b111_46 {x1 : Int32} {x2 : Int32} {x3 : Int32} {s0 : Int32} {h : hs_H} {r : Int32 × hs_H} (e : hb_111_46 x1 x2 x3 s0 h = some r) : hs_fr [(4, some 0), (27, none)] h r.2 := by
  unfold hb_111_46 at e
  obtain ⟨q8, eq8, e⟩ := hs_bind_some e
  have fq8 := (hs_fr.rf (K := [(4, some 0), (27, none)]) (h := h)).tr ((hz_34 eq8).sub (hs_sub_cons (.inl (.head _)) (hs_sub_cons (.inl (.tail _ (.head _))) hs_sub_nil)))
  obtain rfl := Option.some.inj e
  exact fq8
theorem hz_111 {a1 : Int32} {a2 : Int32} {a3 : Int32} {h : hs_H} {r : Int32 × hs_H} (e : hf_111 a1 a2 a3 h = some r) : hs_fr [(4, some 0), (27, none)] h r.2 := by
  unfold hf_111 at e
  obtain ⟨q1, eq1, e⟩ := hs_bind_some e
  have fq1 := (hs_fr.rf (K := [(4, some 0), (27, none)]) (h := h)).tr ((hz_29 eq1).sub hs_sub_nil)
  rcases hz_if e with e | e
  · have fk := hz_b111_27  e
    exact fq1.tr fk
  · obtain ⟨q3, eq3, e⟩ := hs_bind_some e
    have fq3 := fq1.tr ((hz_29 eq3).sub hs_sub_nil)
    rcases hz_if e with e | e
    · have fk := hz_b111_27  e
      exact fq3.tr fk
    · rcases hz_if e with e | e
      · obtain ⟨q6, eq6, e⟩ := hs_bind_some e
        have fq6 := fq3.tr ((hz_33 eq6).sub hs_sub_nil)
        rcases hz_if e with e | e
        · have fk := hz_b111_46  e
          exact fq6.tr fk
        · have fk := hz_b111_46  e
          exact fq6.tr fk
      · have fk := hz_b111_27  e
        exact fq3.tr fk
theorem hz_35 {o : Nat} {a1 : Int32} {h : hs_H} {r : hs_H} (e : hf_35 o a1 h = some r) : hs_fr [(4, some o)] h r := by
  unfold hf_35 at e
  obtain rfl := Option.some.inj e
  exact (((hs_fr.rf (K := [(4, some o)]) (h := h)).put (.inl (.head _))).put (.inl (.head _)))
theorem hz_b112_19 {x1 : Int32} {h : hs_H} {r : Int32 × hs_H} (e : hb_112_19 x1 h = some r) : hs_fr [(4, some 0)] h r.2 := by
  unfold hb_112_19 at e
  obtain ⟨q2, eq2, e⟩ := hs_bind_some e
  have fq2 := (hs_fr.rf (K := [(4, some 0)]) (h := h)).tr ((hz_35 eq2).sub (hs_sub_cons (.inl (.head _)) hs_sub_nil))
  obtain rfl := Option.some.inj e
  exact fq2
theorem hz_112 {a1 : Int32} {h : hs_H} {r : Int32 × hs_H} (e : hf_112 a1 h = some r) : hs_fr [(4, some 0)] h r.2 := by
  unfold hf_112 at e
  rcases hz_if e with e | e
  · have fk := hz_b112_19  e
    exact (hs_fr.rf (K := [(4, some 0)]) (h := h)).tr fk
  · obtain ⟨q3, eq3, e⟩ := hs_bind_some e
    have fq3 := (hs_fr.rf (K := [(4, some 0)]) (h := h)).tr ((hz_29 eq3).sub hs_sub_nil)
    rcases hz_if e with e | e
    · have fk := hz_b112_19  e
      exact fq3.tr fk
    · obtain rfl := Option.some.inj e
      exact fq3
theorem hz_b42_30 {o : Nat} {k4 : Int32 × Int32 × Int32 × hs_H → Option (Int32 × hs_H)} {x1 : Int32} {x3 : Int32} {s0 : Int32} {s1 : Int32} {h : hs_H} {r : Int32 × hs_H} (hk4 : ∀ y1 y2 y3 h r, k4 (y1, y2, y3, h) = some r → hs_fr [] h r.2) (e : hb_42_30 o k4 x1 x3 s0 s1 h = some r) : hs_fr [] h r.2 := by
  unfold hb_42_30 at e
  have fk := hk4 _ _ _ _ _ e
  exact (hs_fr.rf (K := []) (h := h)).tr fk
theorem hz_b42_4 {o : Nat} {k4 : Int32 × Int32 × Int32 × hs_H → Option (Int32 × hs_H)} {x1 : Int32} {x2 : Int32} {x3 : Int32} {h : hs_H} {r : Int32 × hs_H} (hk4 : ∀ y1 y2 y3 h r, k4 (y1, y2, y3, h) = some r → hs_fr [] h r.2) (e : hb_42_4 o k4 x1 x2 x3 h = some r) : hs_fr [] h r.2 := by
  unfold hb_42_4 at e
  rcases hz_if e with e | e
  · obtain rfl := Option.some.inj e
    exact (hs_fr.rf (K := []) (h := h))
  · obtain ⟨q2, eq2, e⟩ := hs_bind_some e
    have fq2 := (hs_fr.rf (K := []) (h := h)).tr ((hz_147 eq2).sub hs_sub_nil)
    rcases hz_if e with e | e
    · have fk := hz_b42_30 hk4 e
      exact fq2.tr fk
    · obtain ⟨q4, eq4, e⟩ := hs_bind_some e
      have fq4 := fq2.tr ((hz_32 eq4).sub hs_sub_nil)
      have fk := hz_b42_30 hk4 e
      exact fq4.tr fk
theorem hz_42 {o : Nat} {a1 : Int32} {h : hs_H} {r : Int32 × hs_H} (e : hf_42 o a1 h = some r) : hs_fr [] h r.2 := by
  unfold hf_42 at e
  have fl := hz_lp4 (f := fun k s => hb_42_4 o k s.1 s.2.1 s.2.2.1 s.2.2.2) (G := fun r => r.2) (fun k hk y1 y2 y3 h r e => hz_b42_4 hk e) e
  exact (hs_fr.rf (K := []) (h := h)).tr fl
theorem hz_b43_7 {o : Nat} {k7 : Int32 × Int32 × Int32 × hs_H → Option (Int32 × hs_H)} {x2 : Int32} {x3 : Int32} {x4 : Int32} {h : hs_H} {r : Int32 × hs_H} (hk7 : ∀ y1 y2 y3 h r, k7 (y1, y2, y3, h) = some r → hs_fr [] h r.2) (e : hb_43_7 o k7 x2 x3 x4 h = some r) : hs_fr [] h r.2 := by
  unfold hb_43_7 at e
  rcases hz_if e with e | e
  · obtain rfl := Option.some.inj e
    exact (hs_fr.rf (K := []) (h := h))
  · obtain ⟨q2, eq2, e⟩ := hs_bind_some e
    have fq2 := (hs_fr.rf (K := []) (h := h)).tr ((hz_147 eq2).sub hs_sub_nil)
    rcases hz_if e with e | e
    · obtain ⟨q4, eq4, e⟩ := hs_bind_some e
      have fq4 := fq2.tr ((hz_42 eq4).sub hs_sub_nil)
      have fk := hk7 _ _ _ _ _ e
      exact fq4.tr fk
    · obtain rfl := Option.some.inj e
      exact fq2
theorem hz_43 {o : Nat} {a1 : Int32} {a2 : Int32} {h : hs_H} {r : Int32 × hs_H} (e : hf_43 o a1 a2 h = some r) : hs_fr [] h r.2 := by
  unfold hf_43 at e
  have fl := hz_lp4 (f := fun k s => hb_43_7 o k s.1 s.2.1 s.2.2.1 s.2.2.2) (G := fun r => r.2) (fun k hk y1 y2 y3 h r e => hz_b43_7 hk e) e
  exact (hs_fr.rf (K := []) (h := h)).tr fl
theorem hz_b113_35 {s0 : Int32} {h : hs_H} {r : Int32 × hs_H} (e : hb_113_35 s0 h = some r) : hs_fr [] h r.2 := by
  unfold hb_113_35 at e
  obtain rfl := Option.some.inj e
  exact (hs_fr.rf (K := []) (h := h))
theorem hz_b113_34 {h : hs_H} {r : Int32 × hs_H} (e : hb_113_34 h = some r) : hs_fr [] h r.2 := by
  unfold hb_113_34 at e
  have fk := hz_b113_35  e
  exact (hs_fr.rf (K := []) (h := h)).tr fk
theorem hz_113 {a1 : Int32} {a2 : Int32} {h : hs_H} {r : Int32 × hs_H} (e : hf_113 a1 a2 h = some r) : hs_fr [] h r.2 := by
  unfold hf_113 at e
  obtain ⟨q1, eq1, e⟩ := hs_bind_some e
  have fq1 := (hs_fr.rf (K := []) (h := h)).tr ((hz_29 eq1).sub hs_sub_nil)
  rcases hz_if e with e | e
  · have fk := hz_b113_34  e
    exact fq1.tr fk
  · obtain ⟨q3, eq3, e⟩ := hs_bind_some e
    have fq3 := fq1.tr ((hz_29 eq3).sub hs_sub_nil)
    rcases hz_if e with e | e
    · have fk := hz_b113_34  e
      exact fq3.tr fk
    · obtain ⟨q5, eq5, e⟩ := hs_bind_some e
      have fq5 := fq3.tr ((hz_43 eq5).sub hs_sub_nil)
      have fk := hz_b113_35  e
      exact fq5.tr fk
theorem hz_b243_10 {s0 : Int32} {h : hs_H} {r : Int32 × hs_H} (e : hb_243_10 s0 h = some r) : hs_fr [] h r.2 := by
  unfold hb_243_10 at e
  obtain rfl := Option.some.inj e
  exact (hs_fr.rf (K := []) (h := h))
theorem hz_243 {a0 : Int32} {a1 : Int32} {h : hs_H} {r : Int32 × hs_H} (e : hf_243 a0 a1 h = some r) : hs_fr [] h r.2 := by
  unfold hf_243 at e
  rcases hz_if e with e | e
  · have fk := hz_b243_10  e
    exact (hs_fr.rf (K := []) (h := h)).tr fk
  · have fk := hz_b243_10  e
    exact (hs_fr.rf (K := []) (h := h)).tr fk
theorem hz_b86_17 {s0 : Int32} {h : hs_H} {r : Int32 × hs_H} (e : hb_86_17 s0 h = some r) : hs_fr [] h r.2 := by
  unfold hb_86_17 at e
  obtain rfl := Option.some.inj e
  exact (hs_fr.rf (K := []) (h := h))
theorem hz_86 {a0 : Int32} {a1 : Int32} {h : hs_H} {r : Int32 × hs_H} (e : hf_86 a0 a1 h = some r) : hs_fr [] h r.2 := by
  unfold hf_86 at e
  rcases hz_if e with e | e
  · obtain ⟨q2, eq2, e⟩ := hs_bind_some e
    have fq2 := (hs_fr.rf (K := []) (h := h)).tr ((hz_243 eq2).sub hs_sub_nil)
    have fk := hz_b86_17  e
    exact fq2.tr fk
  · have fk := hz_b86_17  e
    exact (hs_fr.rf (K := []) (h := h)).tr fk
theorem hz_b85_11 {s0 : Int32} {h : hs_H} {r : Int32 × hs_H} (e : hb_85_11 s0 h = some r) : hs_fr [] h r.2 := by
  unfold hb_85_11 at e
  obtain rfl := Option.some.inj e
  exact (hs_fr.rf (K := []) (h := h))
theorem hz_85 {a0 : Int32} {h : hs_H} {r : Int32 × hs_H} (e : hf_85 a0 h = some r) : hs_fr [] h r.2 := by
  unfold hf_85 at e
  rcases hz_if e with e | e
  · have fk := hz_b85_11  e
    exact (hs_fr.rf (K := []) (h := h)).tr fk
  · have fk := hz_b85_11  e
    exact (hs_fr.rf (K := []) (h := h)).tr fk
theorem hz_b84_33_33_65 {p0 : Nat} {p1 : Nat} {h : hs_H} {r : hs_H} (e : hb_84_33_33_65 p0 p1 h = some r) : hs_fr [(33, some p1)] h r := by
  unfold hb_84_33_33_65 at e
  obtain rfl := Option.some.inj e
  exact (hs_fr.rf (K := [(33, some p1)]) (h := h))
theorem hz_b84_33_33_41 {p0 : Nat} {p1 : Nat} {x2 : Int32} {x3 : Int32} {h : hs_H} {r : hs_H} (e : hb_84_33_33_41 p0 p1 x2 x3 h = some r) : hs_fr [(33, some p1)] h r := by
  unfold hb_84_33_33_41 at e
  rcases hz_if e with e | e
  · have fk := hz_b84_33_33_65  e
    exact (hs_fr.rf (K := [(33, some p1)]) (h := h)).tr fk
  · rcases hz_if e with e | e
    · have fk := hz_b84_33_33_65  e
      exact (hs_fr.rf (K := [(33, some p1)]) (h := h)).tr fk
    · replace e := (hs_ck_some e).2
      obtain ⟨q5, eq5, e⟩ := hs_bind_some e
      have fq5 := (hs_fr.rf (K := [(33, some p1)]) (h := h)).tr ((hz_147 eq5).sub hs_sub_nil)
      obtain ⟨q6, eq6, e⟩ := hs_bind_some e
      have fq6 := fq5.tr ((hz_86 eq6).sub hs_sub_nil)
      replace e := (hs_ck_some e).2
      have fk := hz_b84_33_33_65  e
      exact (fq6.put (.inl (.head _))).tr fk
theorem hz_b84_33_33_3 {p0 : Nat} {p1 : Nat} {k3 : Int32 × Int32 × Int32 × hs_H → Option (hs_H)} {x2 : Int32} {x3 : Int32} {x4 : Int32} {h : hs_H} {r : hs_H} (hk3 : ∀ y1 y2 y3 h r, k3 (y1, y2, y3, h) = some r → hs_fr [(33, some p1)] h r) (e : hb_84_33_33_3 p0 p1 k3 x2 x3 x4 h = some r) : hs_fr [(33, some p1)] h r := by
  unfold hb_84_33_33_3 at e
  rcases hz_if e with e | e
  · have fk := hz_b84_33_33_41  e
    exact (hs_fr.rf (K := [(33, some p1)]) (h := h)).tr fk
  · rcases hz_if e with e | e
    · have fk := hz_b84_33_33_41  e
      exact (hs_fr.rf (K := [(33, some p1)]) (h := h)).tr fk
    · rcases hz_if e with e | e
      · have fk := hz_b84_33_33_41  e
        exact (hs_fr.rf (K := [(33, some p1)]) (h := h)).tr fk
      · replace e := (hs_ck_some e).2
        obtain ⟨q11, eq11, e⟩ := hs_bind_some e
        have fq11 := (hs_fr.rf (K := [(33, some p1)]) (h := h)).tr ((hz_85 eq11).sub hs_sub_nil)
        replace e := (hs_ck_some e).2
        have fk := hk3 _ _ _ _ _ e
        exact (fq11.put (.inl (.head _))).tr fk
theorem hz_84_33_33 {p0 : Nat} {p1 : Nat} {a2 : Int32} {a3 : Int32} {h : hs_H} {r : hs_H} (e : hf_84_33_33 p0 p1 a2 a3 h = some r) : hs_fr [(33, some p1)] h r := by
  unfold hf_84_33_33 at e
  have fl := hz_lp4 (f := fun k s => hb_84_33_33_3 p0 p1 k s.1 s.2.1 s.2.2.1 s.2.2.2) (G := fun r => r) (fun k hk y1 y2 y3 h r e => hz_b84_33_33_3 hk e) e
  exact (hs_fr.rf (K := [(33, some p1)]) (h := h)).tr fl
theorem hz_89 {o : Nat} {a1 : Int32} {a2 : Int32} {h : hs_H} {r : hs_H} (e : hf_89 o a1 a2 h = some r) : hs_fr [(9, some o), (33, some o)] h r := by
  unfold hf_89 at e
  obtain ⟨q1, eq1, e⟩ := hs_bind_some e
  have fq1 := (hs_fr.rf (K := [(9, some o), (33, some o)]) (h := h)).tr ((hz_87 eq1).sub (hs_sub_cons (.inl (.head _)) (hs_sub_cons (.inl (.tail _ (.head _))) hs_sub_nil)))
  obtain ⟨q2, eq2, e⟩ := hs_bind_some e
  have fq2 := fq1.tr ((hz_84_33_33 eq2).sub (hs_sub_cons (.inl (.tail _ (.head _))) hs_sub_nil))
  obtain rfl := Option.some.inj e
  exact (fq2.put (.inl (.head _)))
theorem hz_b91_20 {o : Nat} {s0 : Int32} {h : hs_H} {r : Int32 × hs_H} (e : hb_91_20 o s0 h = some r) : hs_fr [] h r.2 := by
  unfold hb_91_20 at e
  obtain rfl := Option.some.inj e
  exact (hs_fr.rf (K := []) (h := h))
theorem hz_b91_19 {o : Nat} {h : hs_H} {r : Int32 × hs_H} (e : hb_91_19 o h = some r) : hs_fr [] h r.2 := by
  unfold hb_91_19 at e
  have fk := hz_b91_20  e
  exact (hs_fr.rf (K := []) (h := h)).tr fk
theorem hz_91 {o : Nat} {a1 : Int32} {h : hs_H} {r : Int32 × hs_H} (e : hf_91 o a1 h = some r) : hs_fr [] h r.2 := by
  unfold hf_91 at e
  rcases hz_if e with e | e
  · have fk := hz_b91_19  e
    exact (hs_fr.rf (K := []) (h := h)).tr fk
  · rcases hz_if e with e | e
    · have fk := hz_b91_19  e
      exact (hs_fr.rf (K := []) (h := h)).tr fk
    · replace e := (hs_ck_some e).2
      have fk := hz_b91_20  e
      exact (hs_fr.rf (K := []) (h := h)).tr fk
theorem hz_114 {a1 : Int32} {h : hs_H} {r : Int32 × hs_H} (e : hf_114 a1 h = some r) : hs_fr [(9, some 0), (33, some 0)] h r.2 := by
  unfold hf_114 at e
  obtain ⟨q1, eq1, e⟩ := hs_bind_some e
  have fq1 := (hs_fr.rf (K := [(9, some 0), (33, some 0)]) (h := h)).tr ((hz_29 eq1).sub hs_sub_nil)
  rcases hz_if e with e | e
  · obtain ⟨q3, eq3, e⟩ := hs_bind_some e
    have fq3 := fq1.tr ((hz_89 eq3).sub (hs_sub_cons (.inl (.head _)) (hs_sub_cons (.inl (.tail _ (.head _))) hs_sub_nil)))
    obtain ⟨q4, eq4, e⟩ := hs_bind_some e
    have fq4 := fq3.tr ((hz_91 eq4).sub hs_sub_nil)
    obtain rfl := Option.some.inj e
    exact fq4
  · obtain rfl := Option.some.inj e
    exact fq1
theorem hz_b38_24 {o : Nat} {s0 : Int32} {h : hs_H} {r : Int32 × hs_H} (e : hb_38_24 o s0 h = some r) : hs_fr [] h r.2 := by
  unfold hb_38_24 at e
  obtain rfl := Option.some.inj e
  exact (hs_fr.rf (K := []) (h := h))
theorem hz_38 {o : Nat} {a1 : Int32} {h : hs_H} {r : Int32 × hs_H} (e : hf_38 o a1 h = some r) : hs_fr [] h r.2 := by
  unfold hf_38 at e
  obtain ⟨q1, eq1, e⟩ := hs_bind_some e
  have fq1 := (hs_fr.rf (K := []) (h := h)).tr ((hz_29 eq1).sub hs_sub_nil)
  rcases hz_if e with e | e
  · have fk := hz_b38_24  e
    exact fq1.tr fk
  · obtain ⟨q3, eq3, e⟩ := hs_bind_some e
    have fq3 := fq1.tr ((hz_32 eq3).sub hs_sub_nil)
    have fk := hz_b38_24  e
    exact fq3.tr fk
theorem hz_90 {o : Nat} {a1 : Int32} {a2 : Int32} {h : hs_H} {r : hs_H} (e : hf_90 o a1 a2 h = some r) : hs_fr [(9, some o), (33, some o)] h r := by
  unfold hf_90 at e
  obtain ⟨q1, eq1, e⟩ := hs_bind_some e
  have fq1 := (hs_fr.rf (K := [(9, some o), (33, some o)]) (h := h)).tr ((hz_84_33_33 eq1).sub (hs_sub_cons (.inl (.tail _ (.head _))) hs_sub_nil))
  obtain rfl := Option.some.inj e
  exact ((fq1.put (.inl (.head _))).put (.inl (.head _)))
theorem hz_115 {a1 : Int32} {h : hs_H} {r : Int32 × hs_H} (e : hf_115 a1 h = some r) : hs_fr [(9, some 0), (33, some 0)] h r.2 := by
  unfold hf_115 at e
  obtain ⟨q1, eq1, e⟩ := hs_bind_some e
  have fq1 := (hs_fr.rf (K := [(9, some 0), (33, some 0)]) (h := h)).tr ((hz_29 eq1).sub hs_sub_nil)
  rcases hz_if e with e | e
  · rcases hz_if e with e | e
    · obtain ⟨q4, eq4, e⟩ := hs_bind_some e
      have fq4 := fq1.tr ((hz_38 eq4).sub hs_sub_nil)
      obtain ⟨q5, eq5, e⟩ := hs_bind_some e
      have fq5 := fq4.tr ((hz_147 eq5).sub hs_sub_nil)
      rcases hz_if e with e | e
      · obtain ⟨q7, eq7, e⟩ := hs_bind_some e
        have fq7 := fq5.tr ((hz_90 eq7).sub (hs_sub_cons (.inl (.head _)) (hs_sub_cons (.inl (.tail _ (.head _))) hs_sub_nil)))
        obtain ⟨q8, eq8, e⟩ := hs_bind_some e
        have fq8 := fq7.tr ((hz_91 eq8).sub hs_sub_nil)
        obtain rfl := Option.some.inj e
        exact fq8
      · obtain rfl := Option.some.inj e
        exact fq5
    · obtain rfl := Option.some.inj e
      exact fq1
  · obtain rfl := Option.some.inj e
    exact fq1
theorem hz_b116_23 {s0 : Int32} {h : hs_H} {r : Int32 × hs_H} (e : hb_116_23 s0 h = some r) : hs_fr [] h r.2 := by
  unfold hb_116_23 at e
  obtain rfl := Option.some.inj e
  exact (hs_fr.rf (K := []) (h := h))
theorem hz_116 {a1 : Int32} {h : hs_H} {r : Int32 × hs_H} (e : hf_116 a1 h = some r) : hs_fr [] h r.2 := by
  unfold hf_116 at e
  obtain ⟨q1, eq1, e⟩ := hs_bind_some e
  have fq1 := (hs_fr.rf (K := []) (h := h)).tr ((hz_29 eq1).sub hs_sub_nil)
  rcases hz_if e with e | e
  · have fk := hz_b116_23  e
    exact fq1.tr fk
  · obtain ⟨q3, eq3, e⟩ := hs_bind_some e
    have fq3 := fq1.tr ((hz_91 eq3).sub hs_sub_nil)
    have fk := hz_b116_23  e
    exact fq3.tr fk
theorem hz_b92_46 {o : Nat} {k8 : Int32 × Int32 × Int32 × Int32 × hs_H → Option (Int32 × hs_H)} {x1 : Int32} {x2 : Int32} {x3 : Int32} {x4 : Int32} {h : hs_H} {r : Int32 × hs_H} (hk8 : ∀ y1 y2 y3 y4 h r, k8 (y1, y2, y3, y4, h) = some r → hs_fr [] h r.2) (e : hb_92_46 o k8 x1 x2 x3 x4 h = some r) : hs_fr [] h r.2 := by
  unfold hb_92_46 at e
  have fk := hk8 _ _ _ _ _ _ e
  exact (hs_fr.rf (K := []) (h := h)).tr fk
theorem hz_b92_8 {o : Nat} {k8 : Int32 × Int32 × Int32 × Int32 × hs_H → Option (Int32 × hs_H)} {x1 : Int32} {x2 : Int32} {x3 : Int32} {x4 : Int32} {h : hs_H} {r : Int32 × hs_H} (hk8 : ∀ y1 y2 y3 y4 h r, k8 (y1, y2, y3, y4, h) = some r → hs_fr [] h r.2) (e : hb_92_8 o k8 x1 x2 x3 x4 h = some r) : hs_fr [] h r.2 := by
  unfold hb_92_8 at e
  rcases hz_if e with e | e
  · obtain rfl := Option.some.inj e
    exact (hs_fr.rf (K := []) (h := h))
  · obtain ⟨q2, eq2, e⟩ := hs_bind_some e
    have fq2 := (hs_fr.rf (K := []) (h := h)).tr ((hz_147 eq2).sub hs_sub_nil)
    rcases hz_if e with e | e
    · have fk := hz_b92_46 hk8 e
      exact fq2.tr fk
    · replace e := (hs_ck_some e).2
      rcases hz_if e with e | e
      · have fk := hz_b92_46 hk8 e
        exact fq2.tr fk
      · replace e := (hs_ck_some e).2
        have fk := hz_b92_46 hk8 e
        exact fq2.tr fk
theorem hz_92 {o : Nat} {a1 : Int32} {h : hs_H} {r : Int32 × hs_H} (e : hf_92 o a1 h = some r) : hs_fr [] h r.2 := by
  unfold hf_92 at e
  have fl := hz_lp5 (f := fun k s => hb_92_8 o k s.1 s.2.1 s.2.2.1 s.2.2.2.1 s.2.2.2.2) (G := fun r => r.2) (fun k hk y1 y2 y3 y4 h r e => hz_b92_8 hk e) e
  exact (hs_fr.rf (K := []) (h := h)).tr fl
theorem hz_b93_4 {o : Nat} {k4 : Int32 × Int32 × hs_H → Option (Int32 × hs_H)} {x1 : Int32} {x2 : Int32} {h : hs_H} {r : Int32 × hs_H} (hk4 : ∀ y1 y2 h r, k4 (y1, y2, h) = some r → hs_fr [] h r.2) (e : hb_93_4 o k4 x1 x2 h = some r) : hs_fr [] h r.2 := by
  unfold hb_93_4 at e
  rcases hz_if e with e | e
  · obtain rfl := Option.some.inj e
    exact (hs_fr.rf (K := []) (h := h))
  · replace e := (hs_ck_some e).2
    have fk := hk4 _ _ _ _ e
    exact (hs_fr.rf (K := []) (h := h)).tr fk
theorem hz_93 {o : Nat} {h : hs_H} {r : Int32 × hs_H} (e : hf_93 o h = some r) : hs_fr [] h r.2 := by
  unfold hf_93 at e
  have fl := hz_lp3 (f := fun k s => hb_93_4 o k s.1 s.2.1 s.2.2) (G := fun r => r.2) (fun k hk y1 y2 h r e => hz_b93_4 hk e) e
  exact (hs_fr.rf (K := []) (h := h)).tr fl
theorem hz_117 {a1 : Int32} {h : hs_H} {r : Int32 × hs_H} (e : hf_117 a1 h = some r) : hs_fr [] h r.2 := by
  unfold hf_117 at e
  rcases hz_if e with e | e
  · obtain rfl := Option.some.inj e
    exact (hs_fr.rf (K := []) (h := h))
  · rcases hz_if e with e | e
    · obtain rfl := Option.some.inj e
      exact (hs_fr.rf (K := []) (h := h))
    · rcases hz_if e with e | e
      · obtain ⟨q4, eq4, e⟩ := hs_bind_some e
        have fq4 := (hs_fr.rf (K := []) (h := h)).tr ((hz_32 eq4).sub hs_sub_nil)
        obtain ⟨q5, eq5, e⟩ := hs_bind_some e
        have fq5 := fq4.tr ((hz_92 eq5).sub hs_sub_nil)
        obtain rfl := Option.some.inj e
        exact fq5
      · rcases hz_if e with e | e
        · obtain ⟨q7, eq7, e⟩ := hs_bind_some e
          have fq7 := (hs_fr.rf (K := []) (h := h)).tr ((hz_93 eq7).sub hs_sub_nil)
          obtain rfl := Option.some.inj e
          exact fq7
        · obtain rfl := Option.some.inj e
          exact (hs_fr.rf (K := []) (h := h))
theorem hz_b118_30 {h : hs_H} {r : Int32 × hs_H} (e : hb_118_30 h = some r) : hs_fr [(5, some 0), (28, some 0), (29, some 0), (30, some 0)] h r.2 := by
  unfold hb_118_30 at e
  obtain rfl := Option.some.inj e
  exact (hs_fr.rf (K := [(5, some 0), (28, some 0), (29, some 0), (30, some 0)]) (h := h))
theorem hz_b118_57 {s0 : Int32} {h : hs_H} {r : Int32 × hs_H} (e : hb_118_57 s0 h = some r) : hs_fr [(5, some 0), (28, some 0), (29, some 0), (30, some 0)] h r.2 := by
  unfold hb_118_57 at e
  obtain rfl := Option.some.inj e
  exact (hs_fr.rf (K := [(5, some 0), (28, some 0), (29, some 0), (30, some 0)]) (h := h))
theorem hz_118 {a1 : Int32} {a2 : Int32} {a3 : Int32} {h : hs_H} {r : Int32 × hs_H} (e : hf_118 a1 a2 a3 h = some r) : hs_fr [(5, some 0), (28, some 0), (29, some 0), (30, some 0)] h r.2 := by
  unfold hf_118 at e
  rcases hz_if e with e | e
  · have fk := hz_b118_30  e
    exact (hs_fr.rf (K := [(5, some 0), (28, some 0), (29, some 0), (30, some 0)]) (h := h)).tr fk
  · rcases hz_if e with e | e
    · have fk := hz_b118_30  e
      exact (hs_fr.rf (K := [(5, some 0), (28, some 0), (29, some 0), (30, some 0)]) (h := h)).tr fk
    · obtain ⟨q3, eq3, e⟩ := hs_bind_some e
      have fq3 := (hs_fr.rf (K := [(5, some 0), (28, some 0), (29, some 0), (30, some 0)]) (h := h)).tr ((hz_29 eq3).sub hs_sub_nil)
      rcases hz_if e with e | e
      · have fk := hz_b118_30  e
        exact fq3.tr fk
      · rcases hz_if e with e | e
        · have fk := hz_b118_30  e
          exact fq3.tr fk
        · rcases hz_if e with e | e
          · obtain ⟨q7, eq7, e⟩ := hs_bind_some e
            have fq7 := fq3.tr ((hz_46 eq7).sub (hs_sub_cons (.inl (.head _)) (hs_sub_cons (.inl (.tail _ (.head _))) (hs_sub_cons (.inl (.tail _ (.tail _ (.head _)))) (hs_sub_cons (.inl (.tail _ (.tail _ (.tail _ (.head _))))) hs_sub_nil)))))
            rcases hz_if e with e | e
            · have fk := hz_b118_57  e
              exact fq7.tr fk
            · have fk := hz_b118_57  e
              exact fq7.tr fk
          · have fk := hz_b118_30  e
            exact fq3.tr fk
theorem hz_b119_15 {h : hs_H} {r : Int32 × hs_H} (e : hb_119_15 h = some r) : hs_fr [(5, some 0)] h r.2 := by
  unfold hb_119_15 at e
  obtain rfl := Option.some.inj e
  exact (hs_fr.rf (K := [(5, some 0)]) (h := h))
theorem hz_119 {a1 : Int32} {h : hs_H} {r : Int32 × hs_H} (e : hf_119 a1 h = some r) : hs_fr [(5, some 0)] h r.2 := by
  unfold hf_119 at e
  rcases hz_if e with e | e
  · have fk := hz_b119_15  e
    exact (hs_fr.rf (K := [(5, some 0)]) (h := h)).tr fk
  · rcases hz_if e with e | e
    · obtain ⟨q3, eq3, e⟩ := hs_bind_some e
      have fq3 := (hs_fr.rf (K := [(5, some 0)]) (h := h)).tr ((hz_47 eq3).sub (hs_sub_cons (.inl (.head _)) hs_sub_nil))
      obtain rfl := Option.some.inj e
      exact fq3
    · have fk := hz_b119_15  e
      exact (hs_fr.rf (K := [(5, some 0)]) (h := h)).tr fk
theorem hz_b146_18 {s0 : Int32} {h : hs_H} {r : Int32 × hs_H} (e : hb_146_18 s0 h = some r) : hs_fr [] h r.2 := by
  unfold hb_146_18 at e
  replace e := (hs_ck_some e).2
  obtain rfl := Option.some.inj e
  exact (hs_fr.rf (K := []) (h := h))
theorem hz_b146_17 {h : hs_H} {r : Int32 × hs_H} (e : hb_146_17 h = some r) : hs_fr [] h r.2 := by
  unfold hb_146_17 at e
  have fk := hz_b146_18  e
  exact (hs_fr.rf (K := []) (h := h)).tr fk
theorem hz_146 {a0 : Int32} {a1 : Int64} {h : hs_H} {r : Int32 × hs_H} (e : hf_146 a0 a1 h = some r) : hs_fr [] h r.2 := by
  unfold hf_146 at e
  rcases hz_if e with e | e
  · have fk := hz_b146_17  e
    exact (hs_fr.rf (K := []) (h := h)).tr fk
  · rcases hz_if e with e | e
    · have fk := hz_b146_17  e
      exact (hs_fr.rf (K := []) (h := h)).tr fk
    · have fk := hz_b146_18  e
      exact (hs_fr.rf (K := []) (h := h)).tr fk
theorem hz_b49_56 {o : Nat} {x3 : Int32} {h : hs_H} {r : Int32 × hs_H} (e : hb_49_56 o x3 h = some r) : hs_fr [] h r.2 := by
  unfold hb_49_56 at e
  obtain rfl := Option.some.inj e
  exact (hs_fr.rf (K := []) (h := h))
theorem hz_b49_50 {o : Nat} {k5 : Int32 × Int32 × Int32 × Int32 × hs_H → Option (Int32 × hs_H)} {x1 : Int32} {x2 : Int32} {x3 : Int32} {x4 : Int32} {h : hs_H} {r : Int32 × hs_H} (hk5 : ∀ y1 y2 y3 y4 h r, k5 (y1, y2, y3, y4, h) = some r → hs_fr [] h r.2) (e : hb_49_50 o k5 x1 x2 x3 x4 h = some r) : hs_fr [] h r.2 := by
  unfold hb_49_50 at e
  have fk := hk5 _ _ _ _ _ _ e
  exact (hs_fr.rf (K := []) (h := h)).tr fk
