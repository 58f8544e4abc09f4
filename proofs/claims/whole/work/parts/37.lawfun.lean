/-! The law from 18 on, as a function; and that the small machine computes it; by gen6.py. -/
def hb_999_1400 (S : hs_S) (k18 : Int32 × hs_H → Option (Int32 × hs_H)) (x3 : Int32)  (h : hs_H) : Option (Int32 × hs_H) := k18 (x3 + nI 5, h)
set_option maxRecDepth 100000 in
set_option maxHeartbeats 4000000 in
theorem hw_999_1400 {S : hs_S} {d : Nat} {Q : hs_Q} (hd : 17 ≤ d)  {k18 : Int32 × hs_H → Option (Int32 × hs_H)} (hk18 : ∀ (x3 : Int32) (h : hs_H) (r : Int32 × hs_H) , k18 (x3, h) = some r → Q (some (hs_i r.1)) r.2 → hs_W S d 2 hs_p999 Q 18 [hs_r 65 0, hs_r 11 0, hs_r 12 0, hs_i x3] [] h) {x3 : Int32}   {h : hs_H} {r : Int32 × hs_H} (e : hb_999_1400 S k18 x3 h = some r) (q : Q (some (hs_i r.1)) r.2) : hs_W S d 2 hs_p999 Q 1400 [hs_r 65 0, hs_r 11 0, hs_r 12 0, hs_i x3] [] h := by
  unfold hb_999_1400 at e
  refine hs_w 2 (pc' := 18) (ls' := [hs_r 65 0, hs_r 11 0, hs_r 12 0, hs_i (x3 + nI 5)]) (st' := []) (h' := h) (fun n w => w) ?_
  exact hk18 _ _ _  e q
def hb_999_399 (S : hs_S) (k18 : Int32 × hs_H → Option (Int32 × hs_H)) (x3 : Int32) (s0 : Int32) (s1 : Int32) (s2 : Int32) (s4 : Int32) (h : hs_H) : Option (Int32 × hs_H) := (hf_176 s2 s1 s0 h).bind (fun q47 => if s4 = q47.1 then (hb_999_1400 S k18 x3 q47.2) else (some (nI 0, q47.2)))
set_option maxRecDepth 100000 in
set_option maxHeartbeats 4000000 in
theorem hw_999_399 {S : hs_S} {d : Nat} {Q : hs_Q} (hd : 17 ≤ d)  {k18 : Int32 × hs_H → Option (Int32 × hs_H)} (hk18 : ∀ (x3 : Int32) (h : hs_H) (r : Int32 × hs_H) , k18 (x3, h) = some r → Q (some (hs_i r.1)) r.2 → hs_W S d 2 hs_p999 Q 18 [hs_r 65 0, hs_r 11 0, hs_r 12 0, hs_i x3] [] h) {x3 : Int32} {s0 : Int32} {s1 : Int32} {s2 : Int32} {s4 : Int32}  {h : hs_H} {r : Int32 × hs_H} (e : hb_999_399 S k18 x3 s0 s1 s2 s4 h = some r) (q : Q (some (hs_i r.1)) r.2) : hs_W S d 2 hs_p999 Q 399 [hs_r 65 0, hs_r 11 0, hs_r 12 0, hs_i x3] [hs_i s0, hs_i s1, hs_i s2, hs_r 12 0, hs_i s4] h := by
  unfold hb_999_399 at e
  obtain ⟨q47, eq47, e⟩ := hs_bind_some e
  try dsimp only at e
  refine hs_wc 1 (y := 176) (a := [hs_r 12 0, hs_i s2, hs_i s1, hs_i s0]) (v := some (hs_i q47.1)) (pc' := 402) (ls' := [hs_r 65 0, hs_r 11 0, hs_r 12 0, hs_i x3]) (st' := [hs_i s4]) (h' := h) (h2 := q47.2) (fun n w => w) (fun q => hc_176 (by omega) eq47 q) ?_
  refine hs_wb 1 (c := s4 = q47.1) (t := 1400) (f := 405) (ls' := [hs_r 65 0, hs_r 11 0, hs_r 12 0, hs_i x3]) (st' := []) (h' := q47.2) (fun n w => w) (fun b48 => ?_) (fun b48 => ?_)
  · rw [if_pos b48] at e
    exact hw_999_1400 hd hk18 e q
  · rw [if_neg b48] at e
    obtain rfl := Option.some.inj e
    exact hs_wra 2 (c := nI 0 = 0 ∨ nI 0 = 1) (v := some (hs_i (nI 0))) (h' := q47.2) (fun n w => w) (by decide) q
def hb_999_372 (S : hs_S) (k18 : Int32 × hs_H → Option (Int32 × hs_H)) (x3 : Int32) (s0 : Int32) (s1 : Int32) (s2 : Int32) (h : hs_H) : Option (Int32 × hs_H) := (hf_111 s2 s1 s0 h).bind (fun q42 => hs_ck (hs_inb (x3 + (nI 1)) S.1) (hs_ck (hs_inb (x3 + (nI 2)) S.1) (hs_ck (hs_inb (x3 + (nI 3)) S.1) (if (S.2 (x3 + (nI 3)).toNatClampNeg) = 0 then (hb_999_399 S k18 x3 (nI 0) (S.2 (x3 + (nI 2)).toNatClampNeg) (S.2 (x3 + (nI 1)).toNatClampNeg) q42.1 q42.2) else (hb_999_399 S k18 x3 (nI 1) (S.2 (x3 + (nI 2)).toNatClampNeg) (S.2 (x3 + (nI 1)).toNatClampNeg) q42.1 q42.2)))))
set_option maxRecDepth 100000 in
set_option maxHeartbeats 4000000 in
theorem hw_999_372 {S : hs_S} {d : Nat} {Q : hs_Q} (hd : 17 ≤ d)  {k18 : Int32 × hs_H → Option (Int32 × hs_H)} (hk18 : ∀ (x3 : Int32) (h : hs_H) (r : Int32 × hs_H) , k18 (x3, h) = some r → Q (some (hs_i r.1)) r.2 → hs_W S d 2 hs_p999 Q 18 [hs_r 65 0, hs_r 11 0, hs_r 12 0, hs_i x3] [] h) {x3 : Int32} {s0 : Int32} {s1 : Int32} {s2 : Int32}  {h : hs_H} {r : Int32 × hs_H} (e : hb_999_372 S k18 x3 s0 s1 s2 h = some r) (q : Q (some (hs_i r.1)) r.2) : hs_W S d 2 hs_p999 Q 372 [hs_r 65 0, hs_r 11 0, hs_r 12 0, hs_i x3] [hs_i s0, hs_i s1, hs_i s2, hs_r 11 0] h := by
  unfold hb_999_372 at e
  obtain ⟨q42, eq42, e⟩ := hs_bind_some e
  try dsimp only at e
  refine hs_wc 1 (y := 111) (a := [hs_r 11 0, hs_i s2, hs_i s1, hs_i s0]) (v := some (hs_i q42.1)) (pc' := 375) (ls' := [hs_r 65 0, hs_r 11 0, hs_r 12 0, hs_i x3]) (st' := []) (h' := h) (h2 := q42.2) (fun n w => w) (fun q => hc_111 (by omega) eq42 q) ?_
  obtain ⟨c43, e⟩ := hs_ck_some e
  refine hs_wa 6 (c := vp_in (x3 + (nI 1)) S.1) (pc' := 381) (ls' := [hs_r 65 0, hs_r 11 0, hs_r 12 0, hs_i x3]) (st' := [hs_i (S.2 (x3 + (nI 1)).toNatClampNeg), hs_r 12 0, hs_i q42.1]) (h' := q42.2) (fun n w => w) (hs_inb_iff.mp c43) ?_
  obtain ⟨c44, e⟩ := hs_ck_some e
  refine hs_wa 5 (c := vp_in (x3 + (nI 2)) S.1) (pc' := 386) (ls' := [hs_r 65 0, hs_r 11 0, hs_r 12 0, hs_i x3]) (st' := [hs_i (S.2 (x3 + (nI 2)).toNatClampNeg), hs_i (S.2 (x3 + (nI 1)).toNatClampNeg), hs_r 12 0, hs_i q42.1]) (h' := q42.2) (fun n w => w) (hs_inb_iff.mp c44) ?_
  obtain ⟨c45, e⟩ := hs_ck_some e
  refine hs_wa 5 (c := vp_in (x3 + (nI 3)) S.1) (pc' := 391) (ls' := [hs_r 65 0, hs_r 11 0, hs_r 12 0, hs_i x3]) (st' := [hs_i (S.2 (x3 + (nI 3)).toNatClampNeg), hs_i (S.2 (x3 + (nI 2)).toNatClampNeg), hs_i (S.2 (x3 + (nI 1)).toNatClampNeg), hs_r 12 0, hs_i q42.1]) (h' := q42.2) (fun n w => w) (hs_inb_iff.mp c45) ?_
  refine hs_wb 1 (c := (S.2 (x3 + (nI 3)).toNatClampNeg) = 0) (t := 398) (f := 394) (ls' := [hs_r 65 0, hs_r 11 0, hs_r 12 0, hs_i x3]) (st' := [hs_i (S.2 (x3 + (nI 2)).toNatClampNeg), hs_i (S.2 (x3 + (nI 1)).toNatClampNeg), hs_r 12 0, hs_i q42.1]) (h' := q42.2) (fun n w => w) (fun b46 => ?_) (fun b46 => ?_)
  · rw [if_pos b46] at e
    refine hs_w 1 (pc' := 399) (ls' := [hs_r 65 0, hs_r 11 0, hs_r 12 0, hs_i x3]) (st' := [hs_i (nI 0), hs_i (S.2 (x3 + (nI 2)).toNatClampNeg), hs_i (S.2 (x3 + (nI 1)).toNatClampNeg), hs_r 12 0, hs_i q42.1]) (h' := q42.2) (fun n w => w) ?_
    exact hw_999_399 hd hk18 e q
  · rw [if_neg b46] at e
    refine hs_w 2 (pc' := 399) (ls' := [hs_r 65 0, hs_r 11 0, hs_r 12 0, hs_i x3]) (st' := [hs_i (nI 1), hs_i (S.2 (x3 + (nI 2)).toNatClampNeg), hs_i (S.2 (x3 + (nI 1)).toNatClampNeg), hs_r 12 0, hs_i q42.1]) (h' := q42.2) (fun n w => w) ?_
    exact hw_999_399 hd hk18 e q
def hb_999_18 (S : hs_S) (k18 : Int32 × hs_H → Option (Int32 × hs_H)) (x3 : Int32)  (h : hs_H) : Option (Int32 × hs_H) := if ((nI S.1) - (nI 5)) < x3 then (some (nI 1, h)) else (hs_ck (hs_inb x3 S.1) (if ((S.2 x3.toNatClampNeg) &&& (nI 63)) = nI 0 then (hs_ck (hs_inb (x3 + (nI 1)) S.1) (hs_ck (hs_inb (x3 + (nI 2)) S.1) ((hf_105 ((((S.2 (x3 + (nI 1)).toNatClampNeg).toInt64) <<< ((nI 32).toInt64 &&& 63)) ||| (((S.2 (x3 + (nI 2)).toNatClampNeg).toInt64) &&& (lN 4294967295))) h).bind (fun q6 => hs_ck (hs_inb (x3 + (nI 1)) S.1) (hs_ck (hs_inb (x3 + (nI 2)) S.1) ((hf_155 ((((S.2 (x3 + (nI 1)).toNatClampNeg).toInt64) <<< ((nI 32).toInt64 &&& 63)) ||| (((S.2 (x3 + (nI 2)).toNatClampNeg).toInt64) &&& (lN 4294967295))) q6.2).bind (fun q9 => if q6.1 = q9.1 then (hb_999_1400 S k18 x3 q9.2) else (some (nI 0, q9.2))))))))) else (if ((S.2 x3.toNatClampNeg) &&& (nI 63)) = nI 1 then (hs_ck (hs_inb (x3 + (nI 1)) S.1) ((hf_106 (S.2 (x3 + (nI 1)).toNatClampNeg) h).bind (fun q13 => hs_ck (hs_inb (x3 + (nI 1)) S.1) ((hf_156 (S.2 (x3 + (nI 1)).toNatClampNeg) q13.2).bind (fun q15 => if q13.1 = q15.1 then (hb_999_1400 S k18 x3 q15.2) else (some (nI 0, q15.2))))))) else (if ((S.2 x3.toNatClampNeg) &&& (nI 63)) = nI 2 then ((hf_107 h).bind (fun q18 => (hf_169 q18.2).bind (fun q19 => if q18.1 = q19.1 then (hb_999_1400 S k18 x3 q19.2) else (some (nI 0, q19.2))))) else (if ((S.2 x3.toNatClampNeg) &&& (nI 63)) = nI 3 then ((hf_108 h).bind (fun q22 => (hf_170 q22.2).bind (fun q23 => if q22.1 = q23.1 then (hb_999_1400 S k18 x3 q23.2) else (some (nI 0, q23.2))))) else (if ((S.2 x3.toNatClampNeg) &&& (nI 63)) = nI 4 then (hs_ck (hs_inb (x3 + (nI 1)) S.1) ((hf_109 (S.2 (x3 + (nI 1)).toNatClampNeg) h).bind (fun q27 => hs_ck (hs_inb (x3 + (nI 1)) S.1) ((hf_173 (S.2 (x3 + (nI 1)).toNatClampNeg) q27.2).bind (fun q29 => if q27.1 = q29.1 then (hb_999_1400 S k18 x3 q29.2) else (some (nI 0, q29.2))))))) else (if ((S.2 x3.toNatClampNeg) &&& (nI 63)) = nI 5 then (hs_ck (hs_inb (x3 + (nI 1)) S.1) ((hf_110 (S.2 (x3 + (nI 1)).toNatClampNeg) h).bind (fun q33 => hs_ck (hs_inb (x3 + (nI 1)) S.1) ((hf_174 (S.2 (x3 + (nI 1)).toNatClampNeg) q33.2).bind (fun q35 => if q33.1 = q35.1 then (hb_999_1400 S k18 x3 q35.2) else (some (nI 0, q35.2))))))) else (if ((S.2 x3.toNatClampNeg) &&& (nI 63)) = nI 6 then (hs_ck (hs_inb (x3 + (nI 1)) S.1) (hs_ck (hs_inb (x3 + (nI 2)) S.1) (hs_ck (hs_inb (x3 + (nI 3)) S.1) (if (S.2 (x3 + (nI 3)).toNatClampNeg) = 0 then (hb_999_372 S k18 x3 (nI 0) (S.2 (x3 + (nI 2)).toNatClampNeg) (S.2 (x3 + (nI 1)).toNatClampNeg) h) else (hb_999_372 S k18 x3 (nI 1) (S.2 (x3 + (nI 2)).toNatClampNeg) (S.2 (x3 + (nI 1)).toNatClampNeg) h))))) else (if ((S.2 x3.toNatClampNeg) &&& (nI 63)) = nI 7 then (hs_ck (hs_inb (x3 + (nI 1)) S.1) ((hf_112 (S.2 (x3 + (nI 1)).toNatClampNeg) h).bind (fun q51 => hs_ck (hs_inb (x3 + (nI 1)) S.1) ((hf_177 (S.2 (x3 + (nI 1)).toNatClampNeg) q51.2).bind (fun q53 => if q51.1 = q53.1 then (hb_999_1400 S k18 x3 q53.2) else (some (nI 0, q53.2))))))) else (if ((S.2 x3.toNatClampNeg) &&& (nI 63)) = nI 8 then (hs_ck (hs_inb (x3 + (nI 1)) S.1) (hs_ck (hs_inb (x3 + (nI 2)) S.1) ((hf_113 (S.2 (x3 + (nI 1)).toNatClampNeg) (S.2 (x3 + (nI 2)).toNatClampNeg) h).bind (fun q58 => hs_ck (hs_inb (x3 + (nI 1)) S.1) (hs_ck (hs_inb (x3 + (nI 2)) S.1) ((hf_179 (S.2 (x3 + (nI 1)).toNatClampNeg) (S.2 (x3 + (nI 2)).toNatClampNeg) q58.2).bind (fun q61 => if q58.1 = q61.1 then (hb_999_1400 S k18 x3 q61.2) else (some (nI 0, q61.2))))))))) else (if ((S.2 x3.toNatClampNeg) &&& (nI 63)) = nI 9 then (hs_ck (hs_inb (x3 + (nI 1)) S.1) ((hf_114 (S.2 (x3 + (nI 1)).toNatClampNeg) h).bind (fun q65 => hs_ck (hs_inb (x3 + (nI 1)) S.1) ((hf_182 (S.2 (x3 + (nI 1)).toNatClampNeg) q65.2).bind (fun q67 => if q65.1 = q67.1 then (hb_999_1400 S k18 x3 q67.2) else (some (nI 0, q67.2))))))) else (if ((S.2 x3.toNatClampNeg) &&& (nI 63)) = nI 10 then (hs_ck (hs_inb (x3 + (nI 1)) S.1) ((hf_115 (S.2 (x3 + (nI 1)).toNatClampNeg) h).bind (fun q71 => hs_ck (hs_inb (x3 + (nI 1)) S.1) ((hf_184 (S.2 (x3 + (nI 1)).toNatClampNeg) q71.2).bind (fun q73 => if q71.1 = q73.1 then (hb_999_1400 S k18 x3 q73.2) else (some (nI 0, q73.2))))))) else (if ((S.2 x3.toNatClampNeg) &&& (nI 63)) = nI 11 then (hs_ck (hs_inb (x3 + (nI 1)) S.1) ((hf_116 (S.2 (x3 + (nI 1)).toNatClampNeg) h).bind (fun q77 => hs_ck (hs_inb (x3 + (nI 1)) S.1) ((hf_185 (S.2 (x3 + (nI 1)).toNatClampNeg) q77.2).bind (fun q79 => if q77.1 = q79.1 then (hb_999_1400 S k18 x3 q79.2) else (some (nI 0, q79.2))))))) else (if ((S.2 x3.toNatClampNeg) &&& (nI 63)) = nI 12 then (hs_ck (hs_inb (x3 + (nI 1)) S.1) ((hf_117 (S.2 (x3 + (nI 1)).toNatClampNeg) h).bind (fun q83 => hs_ck (hs_inb (x3 + (nI 1)) S.1) ((hf_186 (S.2 (x3 + (nI 1)).toNatClampNeg) q83.2).bind (fun q85 => if q83.1 = q85.1 then (hb_999_1400 S k18 x3 q85.2) else (some (nI 0, q85.2))))))) else (if ((S.2 x3.toNatClampNeg) &&& (nI 63)) = nI 13 then (hs_ck (hs_inb (x3 + (nI 1)) S.1) (hs_ck (hs_inb (x3 + (nI 2)) S.1) (hs_ck (hs_inb (x3 + (nI 3)) S.1) ((hf_118 (S.2 (x3 + (nI 1)).toNatClampNeg) (S.2 (x3 + (nI 2)).toNatClampNeg) (S.2 (x3 + (nI 3)).toNatClampNeg) h).bind (fun q91 => hs_ck (hs_inb (x3 + (nI 1)) S.1) (hs_ck (hs_inb (x3 + (nI 2)) S.1) (hs_ck (hs_inb (x3 + (nI 3)) S.1) ((hf_187 (S.2 (x3 + (nI 1)).toNatClampNeg) (S.2 (x3 + (nI 2)).toNatClampNeg) (S.2 (x3 + (nI 3)).toNatClampNeg) q91.2).bind (fun q95 => if q91.1 = q95.1 then (hb_999_1400 S k18 x3 q95.2) else (some (nI 0, q95.2))))))))))) else (if ((S.2 x3.toNatClampNeg) &&& (nI 63)) = nI 14 then (hs_ck (hs_inb (x3 + (nI 1)) S.1) ((hf_119 (S.2 (x3 + (nI 1)).toNatClampNeg) h).bind (fun q99 => hs_ck (hs_inb (x3 + (nI 1)) S.1) ((hf_188 (S.2 (x3 + (nI 1)).toNatClampNeg) q99.2).bind (fun q101 => if q99.1 = q101.1 then (hb_999_1400 S k18 x3 q101.2) else (some (nI 0, q101.2))))))) else (if ((S.2 x3.toNatClampNeg) &&& (nI 63)) = nI 15 then (hs_ck (hs_inb (x3 + (nI 1)) S.1) ((hf_120 (S.2 (x3 + (nI 1)).toNatClampNeg) h).bind (fun q105 => hs_ck (hs_inb (x3 + (nI 1)) S.1) ((hf_195 (S.2 (x3 + (nI 1)).toNatClampNeg) q105.2).bind (fun q107 => if q105.1 = q107.1 then (hb_999_1400 S k18 x3 q107.2) else (some (nI 0, q107.2))))))) else (if ((S.2 x3.toNatClampNeg) &&& (nI 63)) = nI 16 then (hs_ck (hs_inb (x3 + (nI 1)) S.1) (hs_ck (hs_inb (x3 + (nI 2)) S.1) ((hf_121 (S.2 (x3 + (nI 1)).toNatClampNeg) (S.2 (x3 + (nI 2)).toNatClampNeg) h).bind (fun q112 => hs_ck (hs_inb (x3 + (nI 1)) S.1) (hs_ck (hs_inb (x3 + (nI 2)) S.1) ((hf_196 (S.2 (x3 + (nI 1)).toNatClampNeg) (S.2 (x3 + (nI 2)).toNatClampNeg) q112.2).bind (fun q115 => if q112.1 = q115.1 then (hb_999_1400 S k18 x3 q115.2) else (some (nI 0, q115.2))))))))) else (if ((S.2 x3.toNatClampNeg) &&& (nI 63)) = nI 17 then (hs_ck (hs_inb (x3 + (nI 1)) S.1) (hs_ck (hs_inb (x3 + (nI 2)) S.1) ((hf_122 (S.2 (x3 + (nI 1)).toNatClampNeg) (S.2 (x3 + (nI 2)).toNatClampNeg) h).bind (fun q120 => hs_ck (hs_inb (x3 + (nI 1)) S.1) (hs_ck (hs_inb (x3 + (nI 2)) S.1) ((hf_197 (S.2 (x3 + (nI 1)).toNatClampNeg) (S.2 (x3 + (nI 2)).toNatClampNeg) q120.2).bind (fun q123 => if q120.1 = q123.1 then (hb_999_1400 S k18 x3 q123.2) else (some (nI 0, q123.2))))))))) else (if ((S.2 x3.toNatClampNeg) &&& (nI 63)) = nI 18 then (hs_ck (hs_inb (x3 + (nI 1)) S.1) (hs_ck (hs_inb (x3 + (nI 2)) S.1) ((hf_123 (S.2 (x3 + (nI 1)).toNatClampNeg) (S.2 (x3 + (nI 2)).toNatClampNeg) h).bind (fun q128 => hs_ck (hs_inb (x3 + (nI 1)) S.1) (hs_ck (hs_inb (x3 + (nI 2)) S.1) ((hf_198 (S.2 (x3 + (nI 1)).toNatClampNeg) (S.2 (x3 + (nI 2)).toNatClampNeg) q128.2).bind (fun q131 => if q128.1 = q131.1 then (hb_999_1400 S k18 x3 q131.2) else (some (nI 0, q131.2))))))))) else (if ((S.2 x3.toNatClampNeg) &&& (nI 63)) = nI 19 then ((hf_124 h).bind (fun q134 => (hf_199 q134.2).bind (fun q135 => if q134.1 = q135.1 then (hb_999_1400 S k18 x3 q135.2) else (some (nI 0, q135.2))))) else (if ((S.2 x3.toNatClampNeg) &&& (nI 63)) = nI 20 then (hs_ck (hs_inb (x3 + (nI 1)) S.1) (hs_ck (hs_inb (x3 + (nI 2)) S.1) (hs_ck (hs_inb (x3 + (nI 3)) S.1) (hs_ck (hs_inb (x3 + (nI 4)) S.1) ((hf_125 (S.2 (x3 + (nI 1)).toNatClampNeg) (S.2 (x3 + (nI 2)).toNatClampNeg) (S.2 (x3 + (nI 3)).toNatClampNeg) (S.2 (x3 + (nI 4)).toNatClampNeg) h).bind (fun q142 => hs_ck (hs_inb (x3 + (nI 1)) S.1) (hs_ck (hs_inb (x3 + (nI 2)) S.1) (hs_ck (hs_inb (x3 + (nI 3)) S.1) (hs_ck (hs_inb (x3 + (nI 4)) S.1) ((hf_205 (S.2 (x3 + (nI 1)).toNatClampNeg) (S.2 (x3 + (nI 2)).toNatClampNeg) (S.2 (x3 + (nI 3)).toNatClampNeg) (S.2 (x3 + (nI 4)).toNatClampNeg) q142.2).bind (fun q147 => if q142.1 = q147.1 then (hb_999_1400 S k18 x3 q147.2) else (some (nI 0, q147.2))))))))))))) else (if ((S.2 x3.toNatClampNeg) &&& (nI 63)) = nI 21 then (hs_ck (hs_inb (x3 + (nI 1)) S.1) (hs_ck (hs_inb (x3 + (nI 2)) S.1) (hs_ck (hs_inb (x3 + (nI 3)) S.1) (hs_ck (hs_inb (x3 + (nI 4)) S.1) ((hf_126 (S.2 (x3 + (nI 1)).toNatClampNeg) (S.2 (x3 + (nI 2)).toNatClampNeg) (S.2 (x3 + (nI 3)).toNatClampNeg) (S.2 (x3 + (nI 4)).toNatClampNeg) h).bind (fun q154 => hs_ck (hs_inb (x3 + (nI 1)) S.1) (hs_ck (hs_inb (x3 + (nI 2)) S.1) (hs_ck (hs_inb (x3 + (nI 3)) S.1) (hs_ck (hs_inb (x3 + (nI 4)) S.1) ((hf_206 (S.2 (x3 + (nI 1)).toNatClampNeg) (S.2 (x3 + (nI 2)).toNatClampNeg) (S.2 (x3 + (nI 3)).toNatClampNeg) (S.2 (x3 + (nI 4)).toNatClampNeg) q154.2).bind (fun q159 => if q154.1 = q159.1 then (hb_999_1400 S k18 x3 q159.2) else (some (nI 0, q159.2))))))))))))) else (if ((S.2 x3.toNatClampNeg) &&& (nI 63)) = nI 22 then (hs_ck (hs_inb (x3 + (nI 1)) S.1) (hs_ck (hs_inb (x3 + (nI 2)) S.1) (hs_ck (hs_inb (x3 + (nI 3)) S.1) ((hf_128 (S.2 (x3 + (nI 1)).toNatClampNeg) (S.2 (x3 + (nI 2)).toNatClampNeg) (S.2 (x3 + (nI 3)).toNatClampNeg) h).bind (fun q165 => hs_ck (hs_inb (x3 + (nI 1)) S.1) (hs_ck (hs_inb (x3 + (nI 2)) S.1) (hs_ck (hs_inb (x3 + (nI 3)) S.1) ((hf_210 (S.2 (x3 + (nI 1)).toNatClampNeg) (S.2 (x3 + (nI 2)).toNatClampNeg) (S.2 (x3 + (nI 3)).toNatClampNeg) q165.2).bind (fun q169 => if q165.1 = q169.1 then (hb_999_1400 S k18 x3 q169.2) else (some (nI 0, q169.2))))))))))) else (if ((S.2 x3.toNatClampNeg) &&& (nI 63)) = nI 23 then ((hf_129 h).bind (fun q172 => (hf_211 q172.2).bind (fun q173 => if q172.1 = q173.1 then (hb_999_1400 S k18 x3 q173.2) else (some (nI 0, q173.2))))) else (if ((S.2 x3.toNatClampNeg) &&& (nI 63)) = nI 24 then (hs_ck (hs_inb (x3 + (nI 1)) S.1) (hs_ck (hs_inb (x3 + (nI 2)) S.1) ((hf_130 (S.2 (x3 + (nI 1)).toNatClampNeg) (S.2 (x3 + (nI 2)).toNatClampNeg) h).bind (fun q178 => hs_ck (hs_inb (x3 + (nI 1)) S.1) (hs_ck (hs_inb (x3 + (nI 2)) S.1) ((hf_212 (S.2 (x3 + (nI 1)).toNatClampNeg) (S.2 (x3 + (nI 2)).toNatClampNeg) q178.2).bind (fun q181 => if q178.1 = q181.1 then (hb_999_1400 S k18 x3 q181.2) else (some (nI 0, q181.2))))))))) else (if ((S.2 x3.toNatClampNeg) &&& (nI 63)) = nI 25 then (hs_ck (hs_inb (x3 + (nI 1)) S.1) (hs_ck (hs_inb (x3 + (nI 2)) S.1) (hs_ck (hs_inb (x3 + (nI 3)) S.1) ((hf_131 (S.2 (x3 + (nI 1)).toNatClampNeg) (S.2 (x3 + (nI 2)).toNatClampNeg) (S.2 (x3 + (nI 3)).toNatClampNeg) h).bind (fun q187 => hs_ck (hs_inb (x3 + (nI 1)) S.1) (hs_ck (hs_inb (x3 + (nI 2)) S.1) (hs_ck (hs_inb (x3 + (nI 3)) S.1) ((hf_220 (S.2 (x3 + (nI 1)).toNatClampNeg) (S.2 (x3 + (nI 2)).toNatClampNeg) (S.2 (x3 + (nI 3)).toNatClampNeg) q187.2).bind (fun q191 => if q187.1 = q191.1 then (hb_999_1400 S k18 x3 q191.2) else (some (nI 0, q191.2))))))))))) else (if ((S.2 x3.toNatClampNeg) &&& (nI 63)) = nI 26 then (hs_ck (hs_inb (x3 + (nI 1)) S.1) (hs_ck (hs_inb (x3 + (nI 2)) S.1) (hs_ck (hs_inb (x3 + (nI 3)) S.1) ((hf_132 (S.2 (x3 + (nI 1)).toNatClampNeg) (S.2 (x3 + (nI 2)).toNatClampNeg) (S.2 (x3 + (nI 3)).toNatClampNeg) h).bind (fun q197 => hs_ck (hs_inb (x3 + (nI 1)) S.1) (hs_ck (hs_inb (x3 + (nI 2)) S.1) (hs_ck (hs_inb (x3 + (nI 3)) S.1) ((hf_221 (S.2 (x3 + (nI 1)).toNatClampNeg) (S.2 (x3 + (nI 2)).toNatClampNeg) (S.2 (x3 + (nI 3)).toNatClampNeg) q197.2).bind (fun q201 => if q197.1 = q201.1 then (hb_999_1400 S k18 x3 q201.2) else (some (nI 0, q201.2))))))))))) else (if ((S.2 x3.toNatClampNeg) &&& (nI 63)) = nI 27 then (hs_ck (hs_inb (x3 + (nI 1)) S.1) ((hf_133 (S.2 (x3 + (nI 1)).toNatClampNeg) h).bind (fun q205 => hs_ck (hs_inb (x3 + (nI 1)) S.1) ((hf_222 (S.2 (x3 + (nI 1)).toNatClampNeg) q205.2).bind (fun q207 => if q205.1 = q207.1 then (hb_999_1400 S k18 x3 q207.2) else (some (nI 0, q207.2))))))) else (if ((S.2 x3.toNatClampNeg) &&& (nI 63)) = nI 28 then (hs_ck (hs_inb (x3 + (nI 1)) S.1) (hs_ck (hs_inb (x3 + (nI 2)) S.1) ((hf_134 (S.2 (x3 + (nI 1)).toNatClampNeg) (S.2 (x3 + (nI 2)).toNatClampNeg) h).bind (fun q212 => hs_ck (hs_inb (x3 + (nI 1)) S.1) (hs_ck (hs_inb (x3 + (nI 2)) S.1) ((hf_224 (S.2 (x3 + (nI 1)).toNatClampNeg) (S.2 (x3 + (nI 2)).toNatClampNeg) q212.2).bind (fun q215 => if q212.1 = q215.1 then (hb_999_1400 S k18 x3 q215.2) else (some (nI 0, q215.2))))))))) else (if ((S.2 x3.toNatClampNeg) &&& (nI 63)) = nI 29 then (hs_ck (hs_inb (x3 + (nI 1)) S.1) (hs_ck (hs_inb (x3 + (nI 2)) S.1) (hs_ck (hs_inb (x3 + (nI 3)) S.1) ((hf_135 (S.2 (x3 + (nI 1)).toNatClampNeg) (S.2 (x3 + (nI 2)).toNatClampNeg) (S.2 (x3 + (nI 3)).toNatClampNeg) h).bind (fun q221 => hs_ck (hs_inb (x3 + (nI 1)) S.1) (hs_ck (hs_inb (x3 + (nI 2)) S.1) (hs_ck (hs_inb (x3 + (nI 3)) S.1) ((hf_225 (S.2 (x3 + (nI 1)).toNatClampNeg) (S.2 (x3 + (nI 2)).toNatClampNeg) (S.2 (x3 + (nI 3)).toNatClampNeg) q221.2).bind (fun q225 => if q221.1 = q225.1 then (hb_999_1400 S k18 x3 q225.2) else (some (nI 0, q225.2))))))))))) else (if ((S.2 x3.toNatClampNeg) &&& (nI 63)) = nI 30 then (hs_ck (hs_inb (x3 + (nI 1)) S.1) (hs_ck (hs_inb (x3 + (nI 2)) S.1) (hs_ck (hs_inb (x3 + (nI 3)) S.1) ((hf_136 (S.2 (x3 + (nI 1)).toNatClampNeg) (S.2 (x3 + (nI 2)).toNatClampNeg) (S.2 (x3 + (nI 3)).toNatClampNeg) h).bind (fun q231 => hs_ck (hs_inb (x3 + (nI 1)) S.1) (hs_ck (hs_inb (x3 + (nI 2)) S.1) (hs_ck (hs_inb (x3 + (nI 3)) S.1) ((hf_230 (S.2 (x3 + (nI 1)).toNatClampNeg) (S.2 (x3 + (nI 2)).toNatClampNeg) (S.2 (x3 + (nI 3)).toNatClampNeg) q231.2).bind (fun q235 => if q231.1 = q235.1 then (hb_999_1400 S k18 x3 q235.2) else (some (nI 0, q235.2))))))))))) else (if ((S.2 x3.toNatClampNeg) &&& (nI 63)) = nI 31 then (hs_ck (hs_inb (x3 + (nI 1)) S.1) ((hf_137 (S.2 (x3 + (nI 1)).toNatClampNeg) h).bind (fun q239 => hs_ck (hs_inb (x3 + (nI 1)) S.1) ((hf_232 (S.2 (x3 + (nI 1)).toNatClampNeg) q239.2).bind (fun q241 => if q239.1 = q241.1 then (hb_999_1400 S k18 x3 q241.2) else (some (nI 0, q241.2))))))) else (if ((S.2 x3.toNatClampNeg) &&& (nI 63)) = nI 32 then (hs_ck (hs_inb (x3 + (nI 1)) S.1) ((hf_138 (S.2 (x3 + (nI 1)).toNatClampNeg) h).bind (fun q245 => hs_ck (hs_inb (x3 + (nI 1)) S.1) ((hf_233 (S.2 (x3 + (nI 1)).toNatClampNeg) q245.2).bind (fun q247 => if q245.1 = q247.1 then (hb_999_1400 S k18 x3 q247.2) else (some (nI 0, q247.2))))))) else (if ((S.2 x3.toNatClampNeg) &&& (nI 63)) = nI 33 then (hs_ck (hs_inb (x3 + (nI 1)) S.1) (hs_ck (hs_inb (x3 + (nI 2)) S.1) (hs_ck (hs_inb (x3 + (nI 3)) S.1) ((hf_139 (S.2 (x3 + (nI 1)).toNatClampNeg) (S.2 (x3 + (nI 2)).toNatClampNeg) (S.2 (x3 + (nI 3)).toNatClampNeg) h).bind (fun q253 => hs_ck (hs_inb (x3 + (nI 1)) S.1) (hs_ck (hs_inb (x3 + (nI 2)) S.1) (hs_ck (hs_inb (x3 + (nI 3)) S.1) ((hf_235 (S.2 (x3 + (nI 1)).toNatClampNeg) (S.2 (x3 + (nI 2)).toNatClampNeg) (S.2 (x3 + (nI 3)).toNatClampNeg) q253.2).bind (fun q257 => if q253.1 = q257.1 then (hb_999_1400 S k18 x3 q257.2) else (some (nI 0, q257.2))))))))))) else (if ((S.2 x3.toNatClampNeg) &&& (nI 63)) = nI 34 then (hs_ck (hs_inb (x3 + (nI 1)) S.1) (hs_ck (hs_inb (x3 + (nI 2)) S.1) (hs_ck (hs_inb (x3 + (nI 3)) S.1) ((hf_140 (S.2 (x3 + (nI 1)).toNatClampNeg) (S.2 (x3 + (nI 2)).toNatClampNeg) (S.2 (x3 + (nI 3)).toNatClampNeg) h).bind (fun q263 => hs_ck (hs_inb (x3 + (nI 1)) S.1) (hs_ck (hs_inb (x3 + (nI 2)) S.1) (hs_ck (hs_inb (x3 + (nI 3)) S.1) ((hf_236 (S.2 (x3 + (nI 1)).toNatClampNeg) (S.2 (x3 + (nI 2)).toNatClampNeg) (S.2 (x3 + (nI 3)).toNatClampNeg) q263.2).bind (fun q267 => if q263.1 = q267.1 then (hb_999_1400 S k18 x3 q267.2) else (some (nI 0, q267.2))))))))))) else (if ((S.2 x3.toNatClampNeg) &&& (nI 63)) = nI 35 then (hs_ck (hs_inb (x3 + (nI 1)) S.1) (hs_ck (hs_inb (x3 + (nI 2)) S.1) (hs_ck (hs_inb (x3 + (nI 3)) S.1) (hs_ck (hs_inb (x3 + (nI 4)) S.1) ((hf_141 (S.2 (x3 + (nI 1)).toNatClampNeg) (S.2 (x3 + (nI 2)).toNatClampNeg) (S.2 (x3 + (nI 3)).toNatClampNeg) (S.2 (x3 + (nI 4)).toNatClampNeg) h).bind (fun q274 => hs_ck (hs_inb (x3 + (nI 1)) S.1) (hs_ck (hs_inb (x3 + (nI 2)) S.1) (hs_ck (hs_inb (x3 + (nI 3)) S.1) (hs_ck (hs_inb (x3 + (nI 4)) S.1) ((hf_237 (S.2 (x3 + (nI 1)).toNatClampNeg) (S.2 (x3 + (nI 2)).toNatClampNeg) (S.2 (x3 + (nI 3)).toNatClampNeg) (S.2 (x3 + (nI 4)).toNatClampNeg) q274.2).bind (fun q279 => if q274.1 = q279.1 then (hb_999_1400 S k18 x3 q279.2) else (some (nI 0, q279.2))))))))))))) else (if ((S.2 x3.toNatClampNeg) &&& (nI 63)) = nI 36 then ((hf_142 h).bind (fun q282 => (hf_238 q282.2).bind (fun q283 => if q282.1 = q283.1 then (hb_999_1400 S k18 x3 q283.2) else (some (nI 0, q283.2))))) else (if ((S.2 x3.toNatClampNeg) &&& (nI 63)) = nI 37 then (hs_ck (hs_inb (x3 + (nI 1)) S.1) ((hf_143 (S.2 (x3 + (nI 1)).toNatClampNeg) h).bind (fun q287 => hs_ck (hs_inb (x3 + (nI 1)) S.1) ((hf_239 (S.2 (x3 + (nI 1)).toNatClampNeg) q287.2).bind (fun q289 => if q287.1 = q289.1 then (hb_999_1400 S k18 x3 q289.2) else (some (nI 0, q289.2))))))) else (hb_999_1400 S k18 x3 h))))))))))))))))))))))))))))))))))))))))
set_option maxRecDepth 100000 in
set_option maxHeartbeats 4000000 in
theorem hw_999_18 {S : hs_S} {d : Nat} {Q : hs_Q} (hd : 17 ≤ d)  {k18 : Int32 × hs_H → Option (Int32 × hs_H)} (hk18 : ∀ (x3 : Int32) (h : hs_H) (r : Int32 × hs_H) , k18 (x3, h) = some r → Q (some (hs_i r.1)) r.2 → hs_W S d 2 hs_p999 Q 18 [hs_r 65 0, hs_r 11 0, hs_r 12 0, hs_i x3] [] h) {x3 : Int32}   {h : hs_H} {r : Int32 × hs_H} (e : hb_999_18 S k18 x3 h = some r) (q : Q (some (hs_i r.1)) r.2) : hs_W S d 2 hs_p999 Q 18 [hs_r 65 0, hs_r 11 0, hs_r 12 0, hs_i x3] [] h := by
  unfold hb_999_18 at e
  refine hs_wb 6 (c := ((nI S.1) - (nI 5)) < x3) (t := 1406) (f := 26) (ls' := [hs_r 65 0, hs_r 11 0, hs_r 12 0, hs_i x3]) (st' := []) (h' := h) (fun n w => w) (fun b1 => ?_) (fun b1 => ?_)
  · rw [if_pos b1] at e
    obtain rfl := Option.some.inj e
    exact hs_wra 2 (c := nI 1 = 0 ∨ nI 1 = 1) (v := some (hs_i (nI 1))) (h' := h) (fun n w => w) (by decide) q
  · rw [if_neg b1] at e
    obtain ⟨c2, e⟩ := hs_ck_some e
    refine hs_wa 3 (c := vp_in x3 S.1) (pc' := 29) (ls' := [hs_r 65 0, hs_r 11 0, hs_r 12 0, hs_i x3]) (st' := [hs_i (S.2 x3.toNatClampNeg)]) (h' := h) (fun n w => w) (hs_inb_iff.mp c2) ?_
    refine hs_ws1 3 (df := 1400) (x := (S.2 x3.toNatClampNeg) &&& (nI 63)) (ps := [0, 200, 1, 253, 2, 276, 3, 289, 4, 302, 5, 325, 6, 348, 7, 407, 8, 430, 9, 463, 10, 486, 11, 509, 12, 532, 13, 555, 14, 598, 15, 621, 16, 644, 17, 677, 18, 710, 19, 743, 20, 756, 21, 809, 22, 862, 23, 905, 24, 918, 25, 951, 26, 994, 27, 1037, 28, 1060, 29, 1093, 30, 1136, 31, 1179, 32, 1202, 33, 1225, 34, 1268, 35, 1311, 36, 1364, 37, 1377]) (ls' := [hs_r 65 0, hs_r 11 0, hs_r 12 0, hs_i x3]) (st' := []) (h' := h) (fun n w => w) ?_
    refine hs_ws2 (fun b3 => ?_) (fun b3 => ?_)
    · rw [if_pos b3] at e
      obtain ⟨c4, e⟩ := hs_ck_some e
      refine hs_wa 6 (c := vp_in (x3 + (nI 1)) S.1) (pc' := 206) (ls' := [hs_r 65 0, hs_r 11 0, hs_r 12 0, hs_i x3]) (st' := [hs_i (S.2 (x3 + (nI 1)).toNatClampNeg), hs_r 11 0]) (h' := h) (fun n w => w) (hs_inb_iff.mp c4) ?_
      obtain ⟨c5, e⟩ := hs_ck_some e
      refine hs_wa 8 (c := vp_in (x3 + (nI 2)) S.1) (pc' := 215) (ls' := [hs_r 65 0, hs_r 11 0, hs_r 12 0, hs_i x3]) (st' := [hs_i (S.2 (x3 + (nI 2)).toNatClampNeg), hs_l (((S.2 (x3 + (nI 1)).toNatClampNeg).toInt64) <<< ((nI 32).toInt64 &&& 63)), hs_r 11 0]) (h' := h) (fun n w => w) (hs_inb_iff.mp c5) ?_
      obtain ⟨q6, eq6, e⟩ := hs_bind_some e
      try dsimp only at e
      refine hs_wc 5 (y := 105) (a := [hs_r 11 0, hs_l ((((S.2 (x3 + (nI 1)).toNatClampNeg).toInt64) <<< ((nI 32).toInt64 &&& 63)) ||| (((S.2 (x3 + (nI 2)).toNatClampNeg).toInt64) &&& (lN 4294967295)))]) (v := some (hs_i q6.1)) (pc' := 224) (ls' := [hs_r 65 0, hs_r 11 0, hs_r 12 0, hs_i x3]) (st' := []) (h' := h) (h2 := q6.2) (fun n w => w) (fun q => hc_105 (by omega) eq6 q) ?_
      obtain ⟨c7, e⟩ := hs_ck_some e
      refine hs_wa 6 (c := vp_in (x3 + (nI 1)) S.1) (pc' := 230) (ls' := [hs_r 65 0, hs_r 11 0, hs_r 12 0, hs_i x3]) (st' := [hs_i (S.2 (x3 + (nI 1)).toNatClampNeg), hs_r 12 0, hs_i q6.1]) (h' := q6.2) (fun n w => w) (hs_inb_iff.mp c7) ?_
      obtain ⟨c8, e⟩ := hs_ck_some e
      refine hs_wa 8 (c := vp_in (x3 + (nI 2)) S.1) (pc' := 239) (ls' := [hs_r 65 0, hs_r 11 0, hs_r 12 0, hs_i x3]) (st' := [hs_i (S.2 (x3 + (nI 2)).toNatClampNeg), hs_l (((S.2 (x3 + (nI 1)).toNatClampNeg).toInt64) <<< ((nI 32).toInt64 &&& 63)), hs_r 12 0, hs_i q6.1]) (h' := q6.2) (fun n w => w) (hs_inb_iff.mp c8) ?_
      obtain ⟨q9, eq9, e⟩ := hs_bind_some e
      try dsimp only at e
      refine hs_wc 5 (y := 155) (a := [hs_r 12 0, hs_l ((((S.2 (x3 + (nI 1)).toNatClampNeg).toInt64) <<< ((nI 32).toInt64 &&& 63)) ||| (((S.2 (x3 + (nI 2)).toNatClampNeg).toInt64) &&& (lN 4294967295)))]) (v := some (hs_i q9.1)) (pc' := 248) (ls' := [hs_r 65 0, hs_r 11 0, hs_r 12 0, hs_i x3]) (st' := [hs_i q6.1]) (h' := q6.2) (h2 := q9.2) (fun n w => w) (fun q => hc_155 (by omega) eq9 q) ?_
      refine hs_wb 1 (c := q6.1 = q9.1) (t := 1400) (f := 251) (ls' := [hs_r 65 0, hs_r 11 0, hs_r 12 0, hs_i x3]) (st' := []) (h' := q9.2) (fun n w => w) (fun b10 => ?_) (fun b10 => ?_)
      · rw [if_pos b10] at e
        exact hw_999_1400 hd hk18 e q
      · rw [if_neg b10] at e
        obtain rfl := Option.some.inj e
        exact hs_wra 2 (c := nI 0 = 0 ∨ nI 0 = 1) (v := some (hs_i (nI 0))) (h' := q9.2) (fun n w => w) (by decide) q
    rw [if_neg b3] at e
    refine hs_ws2 (fun b11 => ?_) (fun b11 => ?_)
    · rw [if_pos b11] at e
      obtain ⟨c12, e⟩ := hs_ck_some e
      refine hs_wa 6 (c := vp_in (x3 + (nI 1)) S.1) (pc' := 259) (ls' := [hs_r 65 0, hs_r 11 0, hs_r 12 0, hs_i x3]) (st' := [hs_i (S.2 (x3 + (nI 1)).toNatClampNeg), hs_r 11 0]) (h' := h) (fun n w => w) (hs_inb_iff.mp c12) ?_
      obtain ⟨q13, eq13, e⟩ := hs_bind_some e
      try dsimp only at e
      refine hs_wc 1 (y := 106) (a := [hs_r 11 0, hs_i (S.2 (x3 + (nI 1)).toNatClampNeg)]) (v := some (hs_i q13.1)) (pc' := 262) (ls' := [hs_r 65 0, hs_r 11 0, hs_r 12 0, hs_i x3]) (st' := []) (h' := h) (h2 := q13.2) (fun n w => w) (fun q => hc_106 (by omega) eq13 q) ?_
      obtain ⟨c14, e⟩ := hs_ck_some e
      refine hs_wa 6 (c := vp_in (x3 + (nI 1)) S.1) (pc' := 268) (ls' := [hs_r 65 0, hs_r 11 0, hs_r 12 0, hs_i x3]) (st' := [hs_i (S.2 (x3 + (nI 1)).toNatClampNeg), hs_r 12 0, hs_i q13.1]) (h' := q13.2) (fun n w => w) (hs_inb_iff.mp c14) ?_
      obtain ⟨q15, eq15, e⟩ := hs_bind_some e
      try dsimp only at e
      refine hs_wc 1 (y := 156) (a := [hs_r 12 0, hs_i (S.2 (x3 + (nI 1)).toNatClampNeg)]) (v := some (hs_i q15.1)) (pc' := 271) (ls' := [hs_r 65 0, hs_r 11 0, hs_r 12 0, hs_i x3]) (st' := [hs_i q13.1]) (h' := q13.2) (h2 := q15.2) (fun n w => w) (fun q => hc_156 (by omega) eq15 q) ?_
      refine hs_wb 1 (c := q13.1 = q15.1) (t := 1400) (f := 274) (ls' := [hs_r 65 0, hs_r 11 0, hs_r 12 0, hs_i x3]) (st' := []) (h' := q15.2) (fun n w => w) (fun b16 => ?_) (fun b16 => ?_)
      · rw [if_pos b16] at e
        exact hw_999_1400 hd hk18 e q
      · rw [if_neg b16] at e
        obtain rfl := Option.some.inj e
        exact hs_wra 2 (c := nI 0 = 0 ∨ nI 0 = 1) (v := some (hs_i (nI 0))) (h' := q15.2) (fun n w => w) (by decide) q
    rw [if_neg b11] at e
    refine hs_ws2 (fun b17 => ?_) (fun b17 => ?_)
    · rw [if_pos b17] at e
      obtain ⟨q18, eq18, e⟩ := hs_bind_some e
      try dsimp only at e
      refine hs_wc 2 (y := 107) (a := [hs_r 11 0]) (v := some (hs_i q18.1)) (pc' := 280) (ls' := [hs_r 65 0, hs_r 11 0, hs_r 12 0, hs_i x3]) (st' := []) (h' := h) (h2 := q18.2) (fun n w => w) (fun q => hc_107 (by omega) eq18 q) ?_
      obtain ⟨q19, eq19, e⟩ := hs_bind_some e
      try dsimp only at e
      refine hs_wc 2 (y := 169) (a := [hs_r 12 0]) (v := some (hs_i q19.1)) (pc' := 284) (ls' := [hs_r 65 0, hs_r 11 0, hs_r 12 0, hs_i x3]) (st' := [hs_i q18.1]) (h' := q18.2) (h2 := q19.2) (fun n w => w) (fun q => hc_169 (by omega) eq19 q) ?_
      refine hs_wb 1 (c := q18.1 = q19.1) (t := 1400) (f := 287) (ls' := [hs_r 65 0, hs_r 11 0, hs_r 12 0, hs_i x3]) (st' := []) (h' := q19.2) (fun n w => w) (fun b20 => ?_) (fun b20 => ?_)
      · rw [if_pos b20] at e
        exact hw_999_1400 hd hk18 e q
      · rw [if_neg b20] at e
        obtain rfl := Option.some.inj e
        exact hs_wra 2 (c := nI 0 = 0 ∨ nI 0 = 1) (v := some (hs_i (nI 0))) (h' := q19.2) (fun n w => w) (by decide) q
    rw [if_neg b17] at e
    refine hs_ws2 (fun b21 => ?_) (fun b21 => ?_)
    · rw [if_pos b21] at e
      obtain ⟨q22, eq22, e⟩ := hs_bind_some e
      try dsimp only at e
      refine hs_wc 2 (y := 108) (a := [hs_r 11 0]) (v := some (hs_i q22.1)) (pc' := 293) (ls' := [hs_r 65 0, hs_r 11 0, hs_r 12 0, hs_i x3]) (st' := []) (h' := h) (h2 := q22.2) (fun n w => w) (fun q => hc_108 (by omega) eq22 q) ?_
      obtain ⟨q23, eq23, e⟩ := hs_bind_some e
      try dsimp only at e
      refine hs_wc 2 (y := 170) (a := [hs_r 12 0]) (v := some (hs_i q23.1)) (pc' := 297) (ls' := [hs_r 65 0, hs_r 11 0, hs_r 12 0, hs_i x3]) (st' := [hs_i q22.1]) (h' := q22.2) (h2 := q23.2) (fun n w => w) (fun q => hc_170 (by omega) eq23 q) ?_
      refine hs_wb 1 (c := q22.1 = q23.1) (t := 1400) (f := 300) (ls' := [hs_r 65 0, hs_r 11 0, hs_r 12 0, hs_i x3]) (st' := []) (h' := q23.2) (fun n w => w) (fun b24 => ?_) (fun b24 => ?_)
      · rw [if_pos b24] at e
        exact hw_999_1400 hd hk18 e q
      · rw [if_neg b24] at e
        obtain rfl := Option.some.inj e
        exact hs_wra 2 (c := nI 0 = 0 ∨ nI 0 = 1) (v := some (hs_i (nI 0))) (h' := q23.2) (fun n w => w) (by decide) q
    rw [if_neg b21] at e
    refine hs_ws2 (fun b25 => ?_) (fun b25 => ?_)
    · rw [if_pos b25] at e
      obtain ⟨c26, e⟩ := hs_ck_some e
      refine hs_wa 6 (c := vp_in (x3 + (nI 1)) S.1) (pc' := 308) (ls' := [hs_r 65 0, hs_r 11 0, hs_r 12 0, hs_i x3]) (st' := [hs_i (S.2 (x3 + (nI 1)).toNatClampNeg), hs_r 11 0]) (h' := h) (fun n w => w) (hs_inb_iff.mp c26) ?_
      obtain ⟨q27, eq27, e⟩ := hs_bind_some e
      try dsimp only at e
      refine hs_wc 1 (y := 109) (a := [hs_r 11 0, hs_i (S.2 (x3 + (nI 1)).toNatClampNeg)]) (v := some (hs_i q27.1)) (pc' := 311) (ls' := [hs_r 65 0, hs_r 11 0, hs_r 12 0, hs_i x3]) (st' := []) (h' := h) (h2 := q27.2) (fun n w => w) (fun q => hc_109 (by omega) eq27 q) ?_
      obtain ⟨c28, e⟩ := hs_ck_some e
      refine hs_wa 6 (c := vp_in (x3 + (nI 1)) S.1) (pc' := 317) (ls' := [hs_r 65 0, hs_r 11 0, hs_r 12 0, hs_i x3]) (st' := [hs_i (S.2 (x3 + (nI 1)).toNatClampNeg), hs_r 12 0, hs_i q27.1]) (h' := q27.2) (fun n w => w) (hs_inb_iff.mp c28) ?_
      obtain ⟨q29, eq29, e⟩ := hs_bind_some e
      try dsimp only at e
      refine hs_wc 1 (y := 173) (a := [hs_r 12 0, hs_i (S.2 (x3 + (nI 1)).toNatClampNeg)]) (v := some (hs_i q29.1)) (pc' := 320) (ls' := [hs_r 65 0, hs_r 11 0, hs_r 12 0, hs_i x3]) (st' := [hs_i q27.1]) (h' := q27.2) (h2 := q29.2) (fun n w => w) (fun q => hc_173 (by omega) eq29 q) ?_
      refine hs_wb 1 (c := q27.1 = q29.1) (t := 1400) (f := 323) (ls' := [hs_r 65 0, hs_r 11 0, hs_r 12 0, hs_i x3]) (st' := []) (h' := q29.2) (fun n w => w) (fun b30 => ?_) (fun b30 => ?_)
      · rw [if_pos b30] at e
        exact hw_999_1400 hd hk18 e q
      · rw [if_neg b30] at e
        obtain rfl := Option.some.inj e
        exact hs_wra 2 (c := nI 0 = 0 ∨ nI 0 = 1) (v := some (hs_i (nI 0))) (h' := q29.2) (fun n w => w) (by decide) q
    rw [if_neg b25] at e
    refine hs_ws2 (fun b31 => ?_) (fun b31 => ?_)
    · rw [if_pos b31] at e
      obtain ⟨c32, e⟩ := hs_ck_some e
      refine hs_wa 6 (c := vp_in (x3 + (nI 1)) S.1) (pc' := 331) (ls' := [hs_r 65 0, hs_r 11 0, hs_r 12 0, hs_i x3]) (st' := [hs_i (S.2 (x3 + (nI 1)).toNatClampNeg), hs_r 11 0]) (h' := h) (fun n w => w) (hs_inb_iff.mp c32) ?_
      obtain ⟨q33, eq33, e⟩ := hs_bind_some e
      try dsimp only at e
      refine hs_wc 1 (y := 110) (a := [hs_r 11 0, hs_i (S.2 (x3 + (nI 1)).toNatClampNeg)]) (v := some (hs_i q33.1)) (pc' := 334) (ls' := [hs_r 65 0, hs_r 11 0, hs_r 12 0, hs_i x3]) (st' := []) (h' := h) (h2 := q33.2) (fun n w => w) (fun q => hc_110 (by omega) eq33 q) ?_
      obtain ⟨c34, e⟩ := hs_ck_some e
      refine hs_wa 6 (c := vp_in (x3 + (nI 1)) S.1) (pc' := 340) (ls' := [hs_r 65 0, hs_r 11 0, hs_r 12 0, hs_i x3]) (st' := [hs_i (S.2 (x3 + (nI 1)).toNatClampNeg), hs_r 12 0, hs_i q33.1]) (h' := q33.2) (fun n w => w) (hs_inb_iff.mp c34) ?_
      obtain ⟨q35, eq35, e⟩ := hs_bind_some e
      try dsimp only at e
      refine hs_wc 1 (y := 174) (a := [hs_r 12 0, hs_i (S.2 (x3 + (nI 1)).toNatClampNeg)]) (v := some (hs_i q35.1)) (pc' := 343) (ls' := [hs_r 65 0, hs_r 11 0, hs_r 12 0, hs_i x3]) (st' := [hs_i q33.1]) (h' := q33.2) (h2 := q35.2) (fun n w => w) (fun q => hc_174 (by omega) eq35 q) ?_
      refine hs_wb 1 (c := q33.1 = q35.1) (t := 1400) (f := 346) (ls' := [hs_r 65 0, hs_r 11 0, hs_r 12 0, hs_i x3]) (st' := []) (h' := q35.2) (fun n w => w) (fun b36 => ?_) (fun b36 => ?_)
      · rw [if_pos b36] at e
        exact hw_999_1400 hd hk18 e q
      · rw [if_neg b36] at e
        obtain rfl := Option.some.inj e
        exact hs_wra 2 (c := nI 0 = 0 ∨ nI 0 = 1) (v := some (hs_i (nI 0))) (h' := q35.2) (fun n w => w) (by decide) q
    rw [if_neg b31] at e
    refine hs_ws2 (fun b37 => ?_) (fun b37 => ?_)
    · rw [if_pos b37] at e
      obtain ⟨c38, e⟩ := hs_ck_some e
      refine hs_wa 6 (c := vp_in (x3 + (nI 1)) S.1) (pc' := 354) (ls' := [hs_r 65 0, hs_r 11 0, hs_r 12 0, hs_i x3]) (st' := [hs_i (S.2 (x3 + (nI 1)).toNatClampNeg), hs_r 11 0]) (h' := h) (fun n w => w) (hs_inb_iff.mp c38) ?_
      obtain ⟨c39, e⟩ := hs_ck_some e
      refine hs_wa 5 (c := vp_in (x3 + (nI 2)) S.1) (pc' := 359) (ls' := [hs_r 65 0, hs_r 11 0, hs_r 12 0, hs_i x3]) (st' := [hs_i (S.2 (x3 + (nI 2)).toNatClampNeg), hs_i (S.2 (x3 + (nI 1)).toNatClampNeg), hs_r 11 0]) (h' := h) (fun n w => w) (hs_inb_iff.mp c39) ?_
      obtain ⟨c40, e⟩ := hs_ck_some e
      refine hs_wa 5 (c := vp_in (x3 + (nI 3)) S.1) (pc' := 364) (ls' := [hs_r 65 0, hs_r 11 0, hs_r 12 0, hs_i x3]) (st' := [hs_i (S.2 (x3 + (nI 3)).toNatClampNeg), hs_i (S.2 (x3 + (nI 2)).toNatClampNeg), hs_i (S.2 (x3 + (nI 1)).toNatClampNeg), hs_r 11 0]) (h' := h) (fun n w => w) (hs_inb_iff.mp c40) ?_
      refine hs_wb 1 (c := (S.2 (x3 + (nI 3)).toNatClampNeg) = 0) (t := 371) (f := 367) (ls' := [hs_r 65 0, hs_r 11 0, hs_r 12 0, hs_i x3]) (st' := [hs_i (S.2 (x3 + (nI 2)).toNatClampNeg), hs_i (S.2 (x3 + (nI 1)).toNatClampNeg), hs_r 11 0]) (h' := h) (fun n w => w) (fun b41 => ?_) (fun b41 => ?_)
      · rw [if_pos b41] at e
        refine hs_w 1 (pc' := 372) (ls' := [hs_r 65 0, hs_r 11 0, hs_r 12 0, hs_i x3]) (st' := [hs_i (nI 0), hs_i (S.2 (x3 + (nI 2)).toNatClampNeg), hs_i (S.2 (x3 + (nI 1)).toNatClampNeg), hs_r 11 0]) (h' := h) (fun n w => w) ?_
        exact hw_999_372 hd hk18 e q
      · rw [if_neg b41] at e
        refine hs_w 2 (pc' := 372) (ls' := [hs_r 65 0, hs_r 11 0, hs_r 12 0, hs_i x3]) (st' := [hs_i (nI 1), hs_i (S.2 (x3 + (nI 2)).toNatClampNeg), hs_i (S.2 (x3 + (nI 1)).toNatClampNeg), hs_r 11 0]) (h' := h) (fun n w => w) ?_
        exact hw_999_372 hd hk18 e q
    rw [if_neg b37] at e
    refine hs_ws2 (fun b49 => ?_) (fun b49 => ?_)
    · rw [if_pos b49] at e
      obtain ⟨c50, e⟩ := hs_ck_some e
      refine hs_wa 6 (c := vp_in (x3 + (nI 1)) S.1) (pc' := 413) (ls' := [hs_r 65 0, hs_r 11 0, hs_r 12 0, hs_i x3]) (st' := [hs_i (S.2 (x3 + (nI 1)).toNatClampNeg), hs_r 11 0]) (h' := h) (fun n w => w) (hs_inb_iff.mp c50) ?_
      obtain ⟨q51, eq51, e⟩ := hs_bind_some e
      try dsimp only at e
      refine hs_wc 1 (y := 112) (a := [hs_r 11 0, hs_i (S.2 (x3 + (nI 1)).toNatClampNeg)]) (v := some (hs_i q51.1)) (pc' := 416) (ls' := [hs_r 65 0, hs_r 11 0, hs_r 12 0, hs_i x3]) (st' := []) (h' := h) (h2 := q51.2) (fun n w => w) (fun q => hc_112 (by omega) eq51 q) ?_
      obtain ⟨c52, e⟩ := hs_ck_some e
      refine hs_wa 6 (c := vp_in (x3 + (nI 1)) S.1) (pc' := 422) (ls' := [hs_r 65 0, hs_r 11 0, hs_r 12 0, hs_i x3]) (st' := [hs_i (S.2 (x3 + (nI 1)).toNatClampNeg), hs_r 12 0, hs_i q51.1]) (h' := q51.2) (fun n w => w) (hs_inb_iff.mp c52) ?_
      obtain ⟨q53, eq53, e⟩ := hs_bind_some e
      try dsimp only at e
      refine hs_wc 1 (y := 177) (a := [hs_r 12 0, hs_i (S.2 (x3 + (nI 1)).toNatClampNeg)]) (v := some (hs_i q53.1)) (pc' := 425) (ls' := [hs_r 65 0, hs_r 11 0, hs_r 12 0, hs_i x3]) (st' := [hs_i q51.1]) (h' := q51.2) (h2 := q53.2) (fun n w => w) (fun q => hc_177 (by omega) eq53 q) ?_
      refine hs_wb 1 (c := q51.1 = q53.1) (t := 1400) (f := 428) (ls' := [hs_r 65 0, hs_r 11 0, hs_r 12 0, hs_i x3]) (st' := []) (h' := q53.2) (fun n w => w) (fun b54 => ?_) (fun b54 => ?_)
      · rw [if_pos b54] at e
        exact hw_999_1400 hd hk18 e q
      · rw [if_neg b54] at e
        obtain rfl := Option.some.inj e
        exact hs_wra 2 (c := nI 0 = 0 ∨ nI 0 = 1) (v := some (hs_i (nI 0))) (h' := q53.2) (fun n w => w) (by decide) q
    rw [if_neg b49] at e
    refine hs_ws2 (fun b55 => ?_) (fun b55 => ?_)
    · rw [if_pos b55] at e
      obtain ⟨c56, e⟩ := hs_ck_some e
      refine hs_wa 6 (c := vp_in (x3 + (nI 1)) S.1) (pc' := 436) (ls' := [hs_r 65 0, hs_r 11 0, hs_r 12 0, hs_i x3]) (st' := [hs_i (S.2 (x3 + (nI 1)).toNatClampNeg), hs_r 11 0]) (h' := h) (fun n w => w) (hs_inb_iff.mp c56) ?_
      obtain ⟨c57, e⟩ := hs_ck_some e
      refine hs_wa 5 (c := vp_in (x3 + (nI 2)) S.1) (pc' := 441) (ls' := [hs_r 65 0, hs_r 11 0, hs_r 12 0, hs_i x3]) (st' := [hs_i (S.2 (x3 + (nI 2)).toNatClampNeg), hs_i (S.2 (x3 + (nI 1)).toNatClampNeg), hs_r 11 0]) (h' := h) (fun n w => w) (hs_inb_iff.mp c57) ?_
      obtain ⟨q58, eq58, e⟩ := hs_bind_some e
      try dsimp only at e
      refine hs_wc 1 (y := 113) (a := [hs_r 11 0, hs_i (S.2 (x3 + (nI 1)).toNatClampNeg), hs_i (S.2 (x3 + (nI 2)).toNatClampNeg)]) (v := some (hs_i q58.1)) (pc' := 444) (ls' := [hs_r 65 0, hs_r 11 0, hs_r 12 0, hs_i x3]) (st' := []) (h' := h) (h2 := q58.2) (fun n w => w) (fun q => hc_113 (by omega) eq58 q) ?_
      obtain ⟨c59, e⟩ := hs_ck_some e
      refine hs_wa 6 (c := vp_in (x3 + (nI 1)) S.1) (pc' := 450) (ls' := [hs_r 65 0, hs_r 11 0, hs_r 12 0, hs_i x3]) (st' := [hs_i (S.2 (x3 + (nI 1)).toNatClampNeg), hs_r 12 0, hs_i q58.1]) (h' := q58.2) (fun n w => w) (hs_inb_iff.mp c59) ?_
      obtain ⟨c60, e⟩ := hs_ck_some e
      refine hs_wa 5 (c := vp_in (x3 + (nI 2)) S.1) (pc' := 455) (ls' := [hs_r 65 0, hs_r 11 0, hs_r 12 0, hs_i x3]) (st' := [hs_i (S.2 (x3 + (nI 2)).toNatClampNeg), hs_i (S.2 (x3 + (nI 1)).toNatClampNeg), hs_r 12 0, hs_i q58.1]) (h' := q58.2) (fun n w => w) (hs_inb_iff.mp c60) ?_
      obtain ⟨q61, eq61, e⟩ := hs_bind_some e
      try dsimp only at e
      refine hs_wc 1 (y := 179) (a := [hs_r 12 0, hs_i (S.2 (x3 + (nI 1)).toNatClampNeg), hs_i (S.2 (x3 + (nI 2)).toNatClampNeg)]) (v := some (hs_i q61.1)) (pc' := 458) (ls' := [hs_r 65 0, hs_r 11 0, hs_r 12 0, hs_i x3]) (st' := [hs_i q58.1]) (h' := q58.2) (h2 := q61.2) (fun n w => w) (fun q => hc_179 (by omega) eq61 q) ?_
      refine hs_wb 1 (c := q58.1 = q61.1) (t := 1400) (f := 461) (ls' := [hs_r 65 0, hs_r 11 0, hs_r 12 0, hs_i x3]) (st' := []) (h' := q61.2) (fun n w => w) (fun b62 => ?_) (fun b62 => ?_)
      · rw [if_pos b62] at e
        exact hw_999_1400 hd hk18 e q
      · rw [if_neg b62] at e
        obtain rfl := Option.some.inj e
        exact hs_wra 2 (c := nI 0 = 0 ∨ nI 0 = 1) (v := some (hs_i (nI 0))) (h' := q61.2) (fun n w => w) (by decide) q
    rw [if_neg b55] at e
    refine hs_ws2 (fun b63 => ?_) (fun b63 => ?_)
    · rw [if_pos b63] at e
      obtain ⟨c64, e⟩ := hs_ck_some e
      refine hs_wa 6 (c := vp_in (x3 + (nI 1)) S.1) (pc' := 469) (ls' := [hs_r 65 0, hs_r 11 0, hs_r 12 0, hs_i x3]) (st' := [hs_i (S.2 (x3 + (nI 1)).toNatClampNeg), hs_r 11 0]) (h' := h) (fun n w => w) (hs_inb_iff.mp c64) ?_
      obtain ⟨q65, eq65, e⟩ := hs_bind_some e
      try dsimp only at e
      refine hs_wc 1 (y := 114) (a := [hs_r 11 0, hs_i (S.2 (x3 + (nI 1)).toNatClampNeg)]) (v := some (hs_i q65.1)) (pc' := 472) (ls' := [hs_r 65 0, hs_r 11 0, hs_r 12 0, hs_i x3]) (st' := []) (h' := h) (h2 := q65.2) (fun n w => w) (fun q => hc_114 (by omega) eq65 q) ?_
      obtain ⟨c66, e⟩ := hs_ck_some e
      refine hs_wa 6 (c := vp_in (x3 + (nI 1)) S.1) (pc' := 478) (ls' := [hs_r 65 0, hs_r 11 0, hs_r 12 0, hs_i x3]) (st' := [hs_i (S.2 (x3 + (nI 1)).toNatClampNeg), hs_r 12 0, hs_i q65.1]) (h' := q65.2) (fun n w => w) (hs_inb_iff.mp c66) ?_
      obtain ⟨q67, eq67, e⟩ := hs_bind_some e
      try dsimp only at e
      refine hs_wc 1 (y := 182) (a := [hs_r 12 0, hs_i (S.2 (x3 + (nI 1)).toNatClampNeg)]) (v := some (hs_i q67.1)) (pc' := 481) (ls' := [hs_r 65 0, hs_r 11 0, hs_r 12 0, hs_i x3]) (st' := [hs_i q65.1]) (h' := q65.2) (h2 := q67.2) (fun n w => w) (fun q => hc_182 (by omega) eq67 q) ?_
      refine hs_wb 1 (c := q65.1 = q67.1) (t := 1400) (f := 484) (ls' := [hs_r 65 0, hs_r 11 0, hs_r 12 0, hs_i x3]) (st' := []) (h' := q67.2) (fun n w => w) (fun b68 => ?_) (fun b68 => ?_)
      · rw [if_pos b68] at e
        exact hw_999_1400 hd hk18 e q
      · rw [if_neg b68] at e
        obtain rfl := Option.some.inj e
        exact hs_wra 2 (c := nI 0 = 0 ∨ nI 0 = 1) (v := some (hs_i (nI 0))) (h' := q67.2) (fun n w => w) (by decide) q
    rw [if_neg b63] at e
    refine hs_ws2 (fun b69 => ?_) (fun b69 => ?_)
    · rw [if_pos b69] at e
      obtain ⟨c70, e⟩ := hs_ck_some e
      refine hs_wa 6 (c := vp_in (x3 + (nI 1)) S.1) (pc' := 492) (ls' := [hs_r 65 0, hs_r 11 0, hs_r 12 0, hs_i x3]) (st' := [hs_i (S.2 (x3 + (nI 1)).toNatClampNeg), hs_r 11 0]) (h' := h) (fun n w => w) (hs_inb_iff.mp c70) ?_
      obtain ⟨q71, eq71, e⟩ := hs_bind_some e
      try dsimp only at e
      refine hs_wc 1 (y := 115) (a := [hs_r 11 0, hs_i (S.2 (x3 + (nI 1)).toNatClampNeg)]) (v := some (hs_i q71.1)) (pc' := 495) (ls' := [hs_r 65 0, hs_r 11 0, hs_r 12 0, hs_i x3]) (st' := []) (h' := h) (h2 := q71.2) (fun n w => w) (fun q => hc_115 (by omega) eq71 q) ?_
      obtain ⟨c72, e⟩ := hs_ck_some e
      refine hs_wa 6 (c := vp_in (x3 + (nI 1)) S.1) (pc' := 501) (ls' := [hs_r 65 0, hs_r 11 0, hs_r 12 0, hs_i x3]) (st' := [hs_i (S.2 (x3 + (nI 1)).toNatClampNeg), hs_r 12 0, hs_i q71.1]) (h' := q71.2) (fun n w => w) (hs_inb_iff.mp c72) ?_
      obtain ⟨q73, eq73, e⟩ := hs_bind_some e
      try dsimp only at e
      refine hs_wc 1 (y := 184) (a := [hs_r 12 0, hs_i (S.2 (x3 + (nI 1)).toNatClampNeg)]) (v := some (hs_i q73.1)) (pc' := 504) (ls' := [hs_r 65 0, hs_r 11 0, hs_r 12 0, hs_i x3]) (st' := [hs_i q71.1]) (h' := q71.2) (h2 := q73.2) (fun n w => w) (fun q => hc_184 (by omega) eq73 q) ?_
      refine hs_wb 1 (c := q71.1 = q73.1) (t := 1400) (f := 507) (ls' := [hs_r 65 0, hs_r 11 0, hs_r 12 0, hs_i x3]) (st' := []) (h' := q73.2) (fun n w => w) (fun b74 => ?_) (fun b74 => ?_)
      · rw [if_pos b74] at e
        exact hw_999_1400 hd hk18 e q
      · rw [if_neg b74] at e
        obtain rfl := Option.some.inj e
        exact hs_wra 2 (c := nI 0 = 0 ∨ nI 0 = 1) (v := some (hs_i (nI 0))) (h' := q73.2) (fun n w => w) (by decide) q
    rw [if_neg b69] at e
    refine hs_ws2 (fun b75 => ?_) (fun b75 => ?_)
    · rw [if_pos b75] at e
      obtain ⟨c76, e⟩ := hs_ck_some e
      refine hs_wa 6 (c := vp_in (x3 + (nI 1)) S.1) (pc' := 515) (ls' := [hs_r 65 0, hs_r 11 0, hs_r 12 0, hs_i x3]) (st' := [hs_i (S.2 (x3 + (nI 1)).toNatClampNeg), hs_r 11 0]) (h' := h) (fun n w => w) (hs_inb_iff.mp c76) ?_
      obtain ⟨q77, eq77, e⟩ := hs_bind_some e
      try dsimp only at e
      refine hs_wc 1 (y := 116) (a := [hs_r 11 0, hs_i (S.2 (x3 + (nI 1)).toNatClampNeg)]) (v := some (hs_i q77.1)) (pc' := 518) (ls' := [hs_r 65 0, hs_r 11 0, hs_r 12 0, hs_i x3]) (st' := []) (h' := h) (h2 := q77.2) (fun n w => w) (fun q => hc_116 (by omega) eq77 q) ?_
      obtain ⟨c78, e⟩ := hs_ck_some e
      refine hs_wa 6 (c := vp_in (x3 + (nI 1)) S.1) (pc' := 524) (ls' := [hs_r 65 0, hs_r 11 0, hs_r 12 0, hs_i x3]) (st' := [hs_i (S.2 (x3 + (nI 1)).toNatClampNeg), hs_r 12 0, hs_i q77.1]) (h' := q77.2) (fun n w => w) (hs_inb_iff.mp c78) ?_
      obtain ⟨q79, eq79, e⟩ := hs_bind_some e
      try dsimp only at e
      refine hs_wc 1 (y := 185) (a := [hs_r 12 0, hs_i (S.2 (x3 + (nI 1)).toNatClampNeg)]) (v := some (hs_i q79.1)) (pc' := 527) (ls' := [hs_r 65 0, hs_r 11 0, hs_r 12 0, hs_i x3]) (st' := [hs_i q77.1]) (h' := q77.2) (h2 := q79.2) (fun n w => w) (fun q => hc_185 (by omega) eq79 q) ?_
      refine hs_wb 1 (c := q77.1 = q79.1) (t := 1400) (f := 530) (ls' := [hs_r 65 0, hs_r 11 0, hs_r 12 0, hs_i x3]) (st' := []) (h' := q79.2) (fun n w => w) (fun b80 => ?_) (fun b80 => ?_)
      · rw [if_pos b80] at e
        exact hw_999_1400 hd hk18 e q
      · rw [if_neg b80] at e
        obtain rfl := Option.some.inj e
        exact hs_wra 2 (c := nI 0 = 0 ∨ nI 0 = 1) (v := some (hs_i (nI 0))) (h' := q79.2) (fun n w => w) (by decide) q
    rw [if_neg b75] at e
    refine hs_ws2 (fun b81 => ?_) (fun b81 => ?_)
    · rw [if_pos b81] at e
      obtain ⟨c82, e⟩ := hs_ck_some e
      refine hs_wa 6 (c := vp_in (x3 + (nI 1)) S.1) (pc' := 538) (ls' := [hs_r 65 0, hs_r 11 0, hs_r 12 0, hs_i x3]) (st' := [hs_i (S.2 (x3 + (nI 1)).toNatClampNeg), hs_r 11 0]) (h' := h) (fun n w => w) (hs_inb_iff.mp c82) ?_
      obtain ⟨q83, eq83, e⟩ := hs_bind_some e
      try dsimp only at e
      refine hs_wc 1 (y := 117) (a := [hs_r 11 0, hs_i (S.2 (x3 + (nI 1)).toNatClampNeg)]) (v := some (hs_i q83.1)) (pc' := 541) (ls' := [hs_r 65 0, hs_r 11 0, hs_r 12 0, hs_i x3]) (st' := []) (h' := h) (h2 := q83.2) (fun n w => w) (fun q => hc_117 (by omega) eq83 q) ?_
      obtain ⟨c84, e⟩ := hs_ck_some e
      refine hs_wa 6 (c := vp_in (x3 + (nI 1)) S.1) (pc' := 547) (ls' := [hs_r 65 0, hs_r 11 0, hs_r 12 0, hs_i x3]) (st' := [hs_i (S.2 (x3 + (nI 1)).toNatClampNeg), hs_r 12 0, hs_i q83.1]) (h' := q83.2) (fun n w => w) (hs_inb_iff.mp c84) ?_
      obtain ⟨q85, eq85, e⟩ := hs_bind_some e
      try dsimp only at e
      refine hs_wc 1 (y := 186) (a := [hs_r 12 0, hs_i (S.2 (x3 + (nI 1)).toNatClampNeg)]) (v := some (hs_i q85.1)) (pc' := 550) (ls' := [hs_r 65 0, hs_r 11 0, hs_r 12 0, hs_i x3]) (st' := [hs_i q83.1]) (h' := q83.2) (h2 := q85.2) (fun n w => w) (fun q => hc_186 (by omega) eq85 q) ?_
      refine hs_wb 1 (c := q83.1 = q85.1) (t := 1400) (f := 553) (ls' := [hs_r 65 0, hs_r 11 0, hs_r 12 0, hs_i x3]) (st' := []) (h' := q85.2) (fun n w => w) (fun b86 => ?_) (fun b86 => ?_)
      · rw [if_pos b86] at e
        exact hw_999_1400 hd hk18 e q
      · rw [if_neg b86] at e
        obtain rfl := Option.some.inj e
        exact hs_wra 2 (c := nI 0 = 0 ∨ nI 0 = 1) (v := some (hs_i (nI 0))) (h' := q85.2) (fun n w => w) (by decide) q
    rw [if_neg b81] at e
    refine hs_ws2 (fun b87 => ?_) (fun b87 => ?_)
    · rw [if_pos b87] at e
      obtain ⟨c88, e⟩ := hs_ck_some e
      refine hs_wa 6 (c := vp_in (x3 + (nI 1)) S.1) (pc' := 561) (ls' := [hs_r 65 0, hs_r 11 0, hs_r 12 0, hs_i x3]) (st' := [hs_i (S.2 (x3 + (nI 1)).toNatClampNeg), hs_r 11 0]) (h' := h) (fun n w => w) (hs_inb_iff.mp c88) ?_
      obtain ⟨c89, e⟩ := hs_ck_some e
      refine hs_wa 5 (c := vp_in (x3 + (nI 2)) S.1) (pc' := 566) (ls' := [hs_r 65 0, hs_r 11 0, hs_r 12 0, hs_i x3]) (st' := [hs_i (S.2 (x3 + (nI 2)).toNatClampNeg), hs_i (S.2 (x3 + (nI 1)).toNatClampNeg), hs_r 11 0]) (h' := h) (fun n w => w) (hs_inb_iff.mp c89) ?_
      obtain ⟨c90, e⟩ := hs_ck_some e
      refine hs_wa 5 (c := vp_in (x3 + (nI 3)) S.1) (pc' := 571) (ls' := [hs_r 65 0, hs_r 11 0, hs_r 12 0, hs_i x3]) (st' := [hs_i (S.2 (x3 + (nI 3)).toNatClampNeg), hs_i (S.2 (x3 + (nI 2)).toNatClampNeg), hs_i (S.2 (x3 + (nI 1)).toNatClampNeg), hs_r 11 0]) (h' := h) (fun n w => w) (hs_inb_iff.mp c90) ?_
      obtain ⟨q91, eq91, e⟩ := hs_bind_some e
      try dsimp only at e
      refine hs_wc 1 (y := 118) (a := [hs_r 11 0, hs_i (S.2 (x3 + (nI 1)).toNatClampNeg), hs_i (S.2 (x3 + (nI 2)).toNatClampNeg), hs_i (S.2 (x3 + (nI 3)).toNatClampNeg)]) (v := some (hs_i q91.1)) (pc' := 574) (ls' := [hs_r 65 0, hs_r 11 0, hs_r 12 0, hs_i x3]) (st' := []) (h' := h) (h2 := q91.2) (fun n w => w) (fun q => hc_118 (by omega) eq91 q) ?_
      obtain ⟨c92, e⟩ := hs_ck_some e
      refine hs_wa 6 (c := vp_in (x3 + (nI 1)) S.1) (pc' := 580) (ls' := [hs_r 65 0, hs_r 11 0, hs_r 12 0, hs_i x3]) (st' := [hs_i (S.2 (x3 + (nI 1)).toNatClampNeg), hs_r 12 0, hs_i q91.1]) (h' := q91.2) (fun n w => w) (hs_inb_iff.mp c92) ?_
      obtain ⟨c93, e⟩ := hs_ck_some e
      refine hs_wa 5 (c := vp_in (x3 + (nI 2)) S.1) (pc' := 585) (ls' := [hs_r 65 0, hs_r 11 0, hs_r 12 0, hs_i x3]) (st' := [hs_i (S.2 (x3 + (nI 2)).toNatClampNeg), hs_i (S.2 (x3 + (nI 1)).toNatClampNeg), hs_r 12 0, hs_i q91.1]) (h' := q91.2) (fun n w => w) (hs_inb_iff.mp c93) ?_
      obtain ⟨c94, e⟩ := hs_ck_some e
      refine hs_wa 5 (c := vp_in (x3 + (nI 3)) S.1) (pc' := 590) (ls' := [hs_r 65 0, hs_r 11 0, hs_r 12 0, hs_i x3]) (st' := [hs_i (S.2 (x3 + (nI 3)).toNatClampNeg), hs_i (S.2 (x3 + (nI 2)).toNatClampNeg), hs_i (S.2 (x3 + (nI 1)).toNatClampNeg), hs_r 12 0, hs_i q91.1]) (h' := q91.2) (fun n w => w) (hs_inb_iff.mp c94) ?_
      obtain ⟨q95, eq95, e⟩ := hs_bind_some e
      try dsimp only at e
      refine hs_wc 1 (y := 187) (a := [hs_r 12 0, hs_i (S.2 (x3 + (nI 1)).toNatClampNeg), hs_i (S.2 (x3 + (nI 2)).toNatClampNeg), hs_i (S.2 (x3 + (nI 3)).toNatClampNeg)]) (v := some (hs_i q95.1)) (pc' := 593) (ls' := [hs_r 65 0, hs_r 11 0, hs_r 12 0, hs_i x3]) (st' := [hs_i q91.1]) (h' := q91.2) (h2 := q95.2) (fun n w => w) (fun q => hc_187 (by omega) eq95 q) ?_
      refine hs_wb 1 (c := q91.1 = q95.1) (t := 1400) (f := 596) (ls' := [hs_r 65 0, hs_r 11 0, hs_r 12 0, hs_i x3]) (st' := []) (h' := q95.2) (fun n w => w) (fun b96 => ?_) (fun b96 => ?_)
      · rw [if_pos b96] at e
        exact hw_999_1400 hd hk18 e q
      · rw [if_neg b96] at e
        obtain rfl := Option.some.inj e
        exact hs_wra 2 (c := nI 0 = 0 ∨ nI 0 = 1) (v := some (hs_i (nI 0))) (h' := q95.2) (fun n w => w) (by decide) q
    rw [if_neg b87] at e
    refine hs_ws2 (fun b97 => ?_) (fun b97 => ?_)
    · rw [if_pos b97] at e
      obtain ⟨c98, e⟩ := hs_ck_some e
      refine hs_wa 6 (c := vp_in (x3 + (nI 1)) S.1) (pc' := 604) (ls' := [hs_r 65 0, hs_r 11 0, hs_r 12 0, hs_i x3]) (st' := [hs_i (S.2 (x3 + (nI 1)).toNatClampNeg), hs_r 11 0]) (h' := h) (fun n w => w) (hs_inb_iff.mp c98) ?_
      obtain ⟨q99, eq99, e⟩ := hs_bind_some e
      try dsimp only at e
      refine hs_wc 1 (y := 119) (a := [hs_r 11 0, hs_i (S.2 (x3 + (nI 1)).toNatClampNeg)]) (v := some (hs_i q99.1)) (pc' := 607) (ls' := [hs_r 65 0, hs_r 11 0, hs_r 12 0, hs_i x3]) (st' := []) (h' := h) (h2 := q99.2) (fun n w => w) (fun q => hc_119 (by omega) eq99 q) ?_
      obtain ⟨c100, e⟩ := hs_ck_some e
      refine hs_wa 6 (c := vp_in (x3 + (nI 1)) S.1) (pc' := 613) (ls' := [hs_r 65 0, hs_r 11 0, hs_r 12 0, hs_i x3]) (st' := [hs_i (S.2 (x3 + (nI 1)).toNatClampNeg), hs_r 12 0, hs_i q99.1]) (h' := q99.2) (fun n w => w) (hs_inb_iff.mp c100) ?_
      obtain ⟨q101, eq101, e⟩ := hs_bind_some e
      try dsimp only at e
      refine hs_wc 1 (y := 188) (a := [hs_r 12 0, hs_i (S.2 (x3 + (nI 1)).toNatClampNeg)]) (v := some (hs_i q101.1)) (pc' := 616) (ls' := [hs_r 65 0, hs_r 11 0, hs_r 12 0, hs_i x3]) (st' := [hs_i q99.1]) (h' := q99.2) (h2 := q101.2) (fun n w => w) (fun q => hc_188 (by omega) eq101 q) ?_
      refine hs_wb 1 (c := q99.1 = q101.1) (t := 1400) (f := 619) (ls' := [hs_r 65 0, hs_r 11 0, hs_r 12 0, hs_i x3]) (st' := []) (h' := q101.2) (fun n w => w) (fun b102 => ?_) (fun b102 => ?_)
      · rw [if_pos b102] at e
        exact hw_999_1400 hd hk18 e q
      · rw [if_neg b102] at e
        obtain rfl := Option.some.inj e
        exact hs_wra 2 (c := nI 0 = 0 ∨ nI 0 = 1) (v := some (hs_i (nI 0))) (h' := q101.2) (fun n w => w) (by decide) q
    rw [if_neg b97] at e
    refine hs_ws2 (fun b103 => ?_) (fun b103 => ?_)
    · rw [if_pos b103] at e
      obtain ⟨c104, e⟩ := hs_ck_some e
      refine hs_wa 6 (c := vp_in (x3 + (nI 1)) S.1) (pc' := 627) (ls' := [hs_r 65 0, hs_r 11 0, hs_r 12 0, hs_i x3]) (st' := [hs_i (S.2 (x3 + (nI 1)).toNatClampNeg), hs_r 11 0]) (h' := h) (fun n w => w) (hs_inb_iff.mp c104) ?_
      obtain ⟨q105, eq105, e⟩ := hs_bind_some e
      try dsimp only at e
      refine hs_wc 1 (y := 120) (a := [hs_r 11 0, hs_i (S.2 (x3 + (nI 1)).toNatClampNeg)]) (v := some (hs_i q105.1)) (pc' := 630) (ls' := [hs_r 65 0, hs_r 11 0, hs_r 12 0, hs_i x3]) (st' := []) (h' := h) (h2 := q105.2) (fun n w => w) (fun q => hc_120 (by omega) eq105 q) ?_
      obtain ⟨c106, e⟩ := hs_ck_some e
      refine hs_wa 6 (c := vp_in (x3 + (nI 1)) S.1) (pc' := 636) (ls' := [hs_r 65 0, hs_r 11 0, hs_r 12 0, hs_i x3]) (st' := [hs_i (S.2 (x3 + (nI 1)).toNatClampNeg), hs_r 12 0, hs_i q105.1]) (h' := q105.2) (fun n w => w) (hs_inb_iff.mp c106) ?_
      obtain ⟨q107, eq107, e⟩ := hs_bind_some e
      try dsimp only at e
      refine hs_wc 1 (y := 195) (a := [hs_r 12 0, hs_i (S.2 (x3 + (nI 1)).toNatClampNeg)]) (v := some (hs_i q107.1)) (pc' := 639) (ls' := [hs_r 65 0, hs_r 11 0, hs_r 12 0, hs_i x3]) (st' := [hs_i q105.1]) (h' := q105.2) (h2 := q107.2) (fun n w => w) (fun q => hc_195 (by omega) eq107 q) ?_
      refine hs_wb 1 (c := q105.1 = q107.1) (t := 1400) (f := 642) (ls' := [hs_r 65 0, hs_r 11 0, hs_r 12 0, hs_i x3]) (st' := []) (h' := q107.2) (fun n w => w) (fun b108 => ?_) (fun b108 => ?_)
      · rw [if_pos b108] at e
        exact hw_999_1400 hd hk18 e q
      · rw [if_neg b108] at e
        obtain rfl := Option.some.inj e
        exact hs_wra 2 (c := nI 0 = 0 ∨ nI 0 = 1) (v := some (hs_i (nI 0))) (h' := q107.2) (fun n w => w) (by decide) q
    rw [if_neg b103] at e
    refine hs_ws2 (fun b109 => ?_) (fun b109 => ?_)
    · rw [if_pos b109] at e
      obtain ⟨c110, e⟩ := hs_ck_some e
      refine hs_wa 6 (c := vp_in (x3 + (nI 1)) S.1) (pc' := 650) (ls' := [hs_r 65 0, hs_r 11 0, hs_r 12 0, hs_i x3]) (st' := [hs_i (S.2 (x3 + (nI 1)).toNatClampNeg), hs_r 11 0]) (h' := h) (fun n w => w) (hs_inb_iff.mp c110) ?_
      obtain ⟨c111, e⟩ := hs_ck_some e
      refine hs_wa 5 (c := vp_in (x3 + (nI 2)) S.1) (pc' := 655) (ls' := [hs_r 65 0, hs_r 11 0, hs_r 12 0, hs_i x3]) (st' := [hs_i (S.2 (x3 + (nI 2)).toNatClampNeg), hs_i (S.2 (x3 + (nI 1)).toNatClampNeg), hs_r 11 0]) (h' := h) (fun n w => w) (hs_inb_iff.mp c111) ?_
      obtain ⟨q112, eq112, e⟩ := hs_bind_some e
      try dsimp only at e
      refine hs_wc 1 (y := 121) (a := [hs_r 11 0, hs_i (S.2 (x3 + (nI 1)).toNatClampNeg), hs_i (S.2 (x3 + (nI 2)).toNatClampNeg)]) (v := some (hs_i q112.1)) (pc' := 658) (ls' := [hs_r 65 0, hs_r 11 0, hs_r 12 0, hs_i x3]) (st' := []) (h' := h) (h2 := q112.2) (fun n w => w) (fun q => hc_121 (by omega) eq112 q) ?_
      obtain ⟨c113, e⟩ := hs_ck_some e
      refine hs_wa 6 (c := vp_in (x3 + (nI 1)) S.1) (pc' := 664) (ls' := [hs_r 65 0, hs_r 11 0, hs_r 12 0, hs_i x3]) (st' := [hs_i (S.2 (x3 + (nI 1)).toNatClampNeg), hs_r 12 0, hs_i q112.1]) (h' := q112.2) (fun n w => w) (hs_inb_iff.mp c113) ?_
      obtain ⟨c114, e⟩ := hs_ck_some e
      refine hs_wa 5 (c := vp_in (x3 + (nI 2)) S.1) (pc' := 669) (ls' := [hs_r 65 0, hs_r 11 0, hs_r 12 0, hs_i x3]) (st' := [hs_i (S.2 (x3 + (nI 2)).toNatClampNeg), hs_i (S.2 (x3 + (nI 1)).toNatClampNeg), hs_r 12 0, hs_i q112.1]) (h' := q112.2) (fun n w => w) (hs_inb_iff.mp c114) ?_
      obtain ⟨q115, eq115, e⟩ := hs_bind_some e
      try dsimp only at e
      refine hs_wc 1 (y := 196) (a := [hs_r 12 0, hs_i (S.2 (x3 + (nI 1)).toNatClampNeg), hs_i (S.2 (x3 + (nI 2)).toNatClampNeg)]) (v := some (hs_i q115.1)) (pc' := 672) (ls' := [hs_r 65 0, hs_r 11 0, hs_r 12 0, hs_i x3]) (st' := [hs_i q112.1]) (h' := q112.2) (h2 := q115.2) (fun n w => w) (fun q => hc_196 (by omega) eq115 q) ?_
      refine hs_wb 1 (c := q112.1 = q115.1) (t := 1400) (f := 675) (ls' := [hs_r 65 0, hs_r 11 0, hs_r 12 0, hs_i x3]) (st' := []) (h' := q115.2) (fun n w => w) (fun b116 => ?_) (fun b116 => ?_)
      · rw [if_pos b116] at e
        exact hw_999_1400 hd hk18 e q
      · rw [if_neg b116] at e
        obtain rfl := Option.some.inj e
        exact hs_wra 2 (c := nI 0 = 0 ∨ nI 0 = 1) (v := some (hs_i (nI 0))) (h' := q115.2) (fun n w => w) (by decide) q
    rw [if_neg b109] at e
    refine hs_ws2 (fun b117 => ?_) (fun b117 => ?_)
    · rw [if_pos b117] at e
      obtain ⟨c118, e⟩ := hs_ck_some e
      refine hs_wa 6 (c := vp_in (x3 + (nI 1)) S.1) (pc' := 683) (ls' := [hs_r 65 0, hs_r 11 0, hs_r 12 0, hs_i x3]) (st' := [hs_i (S.2 (x3 + (nI 1)).toNatClampNeg), hs_r 11 0]) (h' := h) (fun n w => w) (hs_inb_iff.mp c118) ?_
      obtain ⟨c119, e⟩ := hs_ck_some e
      refine hs_wa 5 (c := vp_in (x3 + (nI 2)) S.1) (pc' := 688) (ls' := [hs_r 65 0, hs_r 11 0, hs_r 12 0, hs_i x3]) (st' := [hs_i (S.2 (x3 + (nI 2)).toNatClampNeg), hs_i (S.2 (x3 + (nI 1)).toNatClampNeg), hs_r 11 0]) (h' := h) (fun n w => w) (hs_inb_iff.mp c119) ?_
      obtain ⟨q120, eq120, e⟩ := hs_bind_some e
      try dsimp only at e
      refine hs_wc 1 (y := 122) (a := [hs_r 11 0, hs_i (S.2 (x3 + (nI 1)).toNatClampNeg), hs_i (S.2 (x3 + (nI 2)).toNatClampNeg)]) (v := some (hs_i q120.1)) (pc' := 691) (ls' := [hs_r 65 0, hs_r 11 0, hs_r 12 0, hs_i x3]) (st' := []) (h' := h) (h2 := q120.2) (fun n w => w) (fun q => hc_122 (by omega) eq120 q) ?_
      obtain ⟨c121, e⟩ := hs_ck_some e
      refine hs_wa 6 (c := vp_in (x3 + (nI 1)) S.1) (pc' := 697) (ls' := [hs_r 65 0, hs_r 11 0, hs_r 12 0, hs_i x3]) (st' := [hs_i (S.2 (x3 + (nI 1)).toNatClampNeg), hs_r 12 0, hs_i q120.1]) (h' := q120.2) (fun n w => w) (hs_inb_iff.mp c121) ?_
      obtain ⟨c122, e⟩ := hs_ck_some e
      refine hs_wa 5 (c := vp_in (x3 + (nI 2)) S.1) (pc' := 702) (ls' := [hs_r 65 0, hs_r 11 0, hs_r 12 0, hs_i x3]) (st' := [hs_i (S.2 (x3 + (nI 2)).toNatClampNeg), hs_i (S.2 (x3 + (nI 1)).toNatClampNeg), hs_r 12 0, hs_i q120.1]) (h' := q120.2) (fun n w => w) (hs_inb_iff.mp c122) ?_
      obtain ⟨q123, eq123, e⟩ := hs_bind_some e
      try dsimp only at e
      refine hs_wc 1 (y := 197) (a := [hs_r 12 0, hs_i (S.2 (x3 + (nI 1)).toNatClampNeg), hs_i (S.2 (x3 + (nI 2)).toNatClampNeg)]) (v := some (hs_i q123.1)) (pc' := 705) (ls' := [hs_r 65 0, hs_r 11 0, hs_r 12 0, hs_i x3]) (st' := [hs_i q120.1]) (h' := q120.2) (h2 := q123.2) (fun n w => w) (fun q => hc_197 (by omega) eq123 q) ?_
      refine hs_wb 1 (c := q120.1 = q123.1) (t := 1400) (f := 708) (ls' := [hs_r 65 0, hs_r 11 0, hs_r 12 0, hs_i x3]) (st' := []) (h' := q123.2) (fun n w => w) (fun b124 => ?_) (fun b124 => ?_)
      · rw [if_pos b124] at e
        exact hw_999_1400 hd hk18 e q
      · rw [if_neg b124] at e
        obtain rfl := Option.some.inj e
        exact hs_wra 2 (c := nI 0 = 0 ∨ nI 0 = 1) (v := some (hs_i (nI 0))) (h' := q123.2) (fun n w => w) (by decide) q
    rw [if_neg b117] at e
    refine hs_ws2 (fun b125 => ?_) (fun b125 => ?_)
    · rw [if_pos b125] at e
      obtain ⟨c126, e⟩ := hs_ck_some e
      refine hs_wa 6 (c := vp_in (x3 + (nI 1)) S.1) (pc' := 716) (ls' := [hs_r 65 0, hs_r 11 0, hs_r 12 0, hs_i x3]) (st' := [hs_i (S.2 (x3 + (nI 1)).toNatClampNeg), hs_r 11 0]) (h' := h) (fun n w => w) (hs_inb_iff.mp c126) ?_
      obtain ⟨c127, e⟩ := hs_ck_some e
      refine hs_wa 5 (c := vp_in (x3 + (nI 2)) S.1) (pc' := 721) (ls' := [hs_r 65 0, hs_r 11 0, hs_r 12 0, hs_i x3]) (st' := [hs_i (S.2 (x3 + (nI 2)).toNatClampNeg), hs_i (S.2 (x3 + (nI 1)).toNatClampNeg), hs_r 11 0]) (h' := h) (fun n w => w) (hs_inb_iff.mp c127) ?_
      obtain ⟨q128, eq128, e⟩ := hs_bind_some e
      try dsimp only at e
      refine hs_wc 1 (y := 123) (a := [hs_r 11 0, hs_i (S.2 (x3 + (nI 1)).toNatClampNeg), hs_i (S.2 (x3 + (nI 2)).toNatClampNeg)]) (v := some (hs_i q128.1)) (pc' := 724) (ls' := [hs_r 65 0, hs_r 11 0, hs_r 12 0, hs_i x3]) (st' := []) (h' := h) (h2 := q128.2) (fun n w => w) (fun q => hc_123 (by omega) eq128 q) ?_
      obtain ⟨c129, e⟩ := hs_ck_some e
      refine hs_wa 6 (c := vp_in (x3 + (nI 1)) S.1) (pc' := 730) (ls' := [hs_r 65 0, hs_r 11 0, hs_r 12 0, hs_i x3]) (st' := [hs_i (S.2 (x3 + (nI 1)).toNatClampNeg), hs_r 12 0, hs_i q128.1]) (h' := q128.2) (fun n w => w) (hs_inb_iff.mp c129) ?_
      obtain ⟨c130, e⟩ := hs_ck_some e
      refine hs_wa 5 (c := vp_in (x3 + (nI 2)) S.1) (pc' := 735) (ls' := [hs_r 65 0, hs_r 11 0, hs_r 12 0, hs_i x3]) (st' := [hs_i (S.2 (x3 + (nI 2)).toNatClampNeg), hs_i (S.2 (x3 + (nI 1)).toNatClampNeg), hs_r 12 0, hs_i q128.1]) (h' := q128.2) (fun n w => w) (hs_inb_iff.mp c130) ?_
      obtain ⟨q131, eq131, e⟩ := hs_bind_some e
      try dsimp only at e
      refine hs_wc 1 (y := 198) (a := [hs_r 12 0, hs_i (S.2 (x3 + (nI 1)).toNatClampNeg), hs_i (S.2 (x3 + (nI 2)).toNatClampNeg)]) (v := some (hs_i q131.1)) (pc' := 738) (ls' := [hs_r 65 0, hs_r 11 0, hs_r 12 0, hs_i x3]) (st' := [hs_i q128.1]) (h' := q128.2) (h2 := q131.2) (fun n w => w) (fun q => hc_198 (by omega) eq131 q) ?_
      refine hs_wb 1 (c := q128.1 = q131.1) (t := 1400) (f := 741) (ls' := [hs_r 65 0, hs_r 11 0, hs_r 12 0, hs_i x3]) (st' := []) (h' := q131.2) (fun n w => w) (fun b132 => ?_) (fun b132 => ?_)
      · rw [if_pos b132] at e
        exact hw_999_1400 hd hk18 e q
      · rw [if_neg b132] at e
        obtain rfl := Option.some.inj e
        exact hs_wra 2 (c := nI 0 = 0 ∨ nI 0 = 1) (v := some (hs_i (nI 0))) (h' := q131.2) (fun n w => w) (by decide) q
    rw [if_neg b125] at e
    refine hs_ws2 (fun b133 => ?_) (fun b133 => ?_)
    · rw [if_pos b133] at e
      obtain ⟨q134, eq134, e⟩ := hs_bind_some e
      try dsimp only at e
      refine hs_wc 2 (y := 124) (a := [hs_r 11 0]) (v := some (hs_i q134.1)) (pc' := 747) (ls' := [hs_r 65 0, hs_r 11 0, hs_r 12 0, hs_i x3]) (st' := []) (h' := h) (h2 := q134.2) (fun n w => w) (fun q => hc_124 (by omega) eq134 q) ?_
      obtain ⟨q135, eq135, e⟩ := hs_bind_some e
      try dsimp only at e
      refine hs_wc 2 (y := 199) (a := [hs_r 12 0]) (v := some (hs_i q135.1)) (pc' := 751) (ls' := [hs_r 65 0, hs_r 11 0, hs_r 12 0, hs_i x3]) (st' := [hs_i q134.1]) (h' := q134.2) (h2 := q135.2) (fun n w => w) (fun q => hc_199 (by omega) eq135 q) ?_
      refine hs_wb 1 (c := q134.1 = q135.1) (t := 1400) (f := 754) (ls' := [hs_r 65 0, hs_r 11 0, hs_r 12 0, hs_i x3]) (st' := []) (h' := q135.2) (fun n w => w) (fun b136 => ?_) (fun b136 => ?_)
      · rw [if_pos b136] at e
        exact hw_999_1400 hd hk18 e q
      · rw [if_neg b136] at e
        obtain rfl := Option.some.inj e
        exact hs_wra 2 (c := nI 0 = 0 ∨ nI 0 = 1) (v := some (hs_i (nI 0))) (h' := q135.2) (fun n w => w) (by decide) q
    rw [if_neg b133] at e
    refine hs_ws2 (fun b137 => ?_) (fun b137 => ?_)
    · rw [if_pos b137] at e
      obtain ⟨c138, e⟩ := hs_ck_some e
      refine hs_wa 6 (c := vp_in (x3 + (nI 1)) S.1) (pc' := 762) (ls' := [hs_r 65 0, hs_r 11 0, hs_r 12 0, hs_i x3]) (st' := [hs_i (S.2 (x3 + (nI 1)).toNatClampNeg), hs_r 11 0]) (h' := h) (fun n w => w) (hs_inb_iff.mp c138) ?_
      obtain ⟨c139, e⟩ := hs_ck_some e
      refine hs_wa 5 (c := vp_in (x3 + (nI 2)) S.1) (pc' := 767) (ls' := [hs_r 65 0, hs_r 11 0, hs_r 12 0, hs_i x3]) (st' := [hs_i (S.2 (x3 + (nI 2)).toNatClampNeg), hs_i (S.2 (x3 + (nI 1)).toNatClampNeg), hs_r 11 0]) (h' := h) (fun n w => w) (hs_inb_iff.mp c139) ?_
      obtain ⟨c140, e⟩ := hs_ck_some e
      refine hs_wa 5 (c := vp_in (x3 + (nI 3)) S.1) (pc' := 772) (ls' := [hs_r 65 0, hs_r 11 0, hs_r 12 0, hs_i x3]) (st' := [hs_i (S.2 (x3 + (nI 3)).toNatClampNeg), hs_i (S.2 (x3 + (nI 2)).toNatClampNeg), hs_i (S.2 (x3 + (nI 1)).toNatClampNeg), hs_r 11 0]) (h' := h) (fun n w => w) (hs_inb_iff.mp c140) ?_
      obtain ⟨c141, e⟩ := hs_ck_some e
      refine hs_wa 5 (c := vp_in (x3 + (nI 4)) S.1) (pc' := 777) (ls' := [hs_r 65 0, hs_r 11 0, hs_r 12 0, hs_i x3]) (st' := [hs_i (S.2 (x3 + (nI 4)).toNatClampNeg), hs_i (S.2 (x3 + (nI 3)).toNatClampNeg), hs_i (S.2 (x3 + (nI 2)).toNatClampNeg), hs_i (S.2 (x3 + (nI 1)).toNatClampNeg), hs_r 11 0]) (h' := h) (fun n w => w) (hs_inb_iff.mp c141) ?_
      obtain ⟨q142, eq142, e⟩ := hs_bind_some e
      try dsimp only at e
      refine hs_wc 1 (y := 125) (a := [hs_r 11 0, hs_i (S.2 (x3 + (nI 1)).toNatClampNeg), hs_i (S.2 (x3 + (nI 2)).toNatClampNeg), hs_i (S.2 (x3 + (nI 3)).toNatClampNeg), hs_i (S.2 (x3 + (nI 4)).toNatClampNeg)]) (v := some (hs_i q142.1)) (pc' := 780) (ls' := [hs_r 65 0, hs_r 11 0, hs_r 12 0, hs_i x3]) (st' := []) (h' := h) (h2 := q142.2) (fun n w => w) (fun q => hc_125 (by omega) eq142 q) ?_
      obtain ⟨c143, e⟩ := hs_ck_some e
      refine hs_wa 6 (c := vp_in (x3 + (nI 1)) S.1) (pc' := 786) (ls' := [hs_r 65 0, hs_r 11 0, hs_r 12 0, hs_i x3]) (st' := [hs_i (S.2 (x3 + (nI 1)).toNatClampNeg), hs_r 12 0, hs_i q142.1]) (h' := q142.2) (fun n w => w) (hs_inb_iff.mp c143) ?_
      obtain ⟨c144, e⟩ := hs_ck_some e
      refine hs_wa 5 (c := vp_in (x3 + (nI 2)) S.1) (pc' := 791) (ls' := [hs_r 65 0, hs_r 11 0, hs_r 12 0, hs_i x3]) (st' := [hs_i (S.2 (x3 + (nI 2)).toNatClampNeg), hs_i (S.2 (x3 + (nI 1)).toNatClampNeg), hs_r 12 0, hs_i q142.1]) (h' := q142.2) (fun n w => w) (hs_inb_iff.mp c144) ?_
      obtain ⟨c145, e⟩ := hs_ck_some e
      refine hs_wa 5 (c := vp_in (x3 + (nI 3)) S.1) (pc' := 796) (ls' := [hs_r 65 0, hs_r 11 0, hs_r 12 0, hs_i x3]) (st' := [hs_i (S.2 (x3 + (nI 3)).toNatClampNeg), hs_i (S.2 (x3 + (nI 2)).toNatClampNeg), hs_i (S.2 (x3 + (nI 1)).toNatClampNeg), hs_r 12 0, hs_i q142.1]) (h' := q142.2) (fun n w => w) (hs_inb_iff.mp c145) ?_
      obtain ⟨c146, e⟩ := hs_ck_some e
      refine hs_wa 5 (c := vp_in (x3 + (nI 4)) S.1) (pc' := 801) (ls' := [hs_r 65 0, hs_r 11 0, hs_r 12 0, hs_i x3]) (st' := [hs_i (S.2 (x3 + (nI 4)).toNatClampNeg), hs_i (S.2 (x3 + (nI 3)).toNatClampNeg), hs_i (S.2 (x3 + (nI 2)).toNatClampNeg), hs_i (S.2 (x3 + (nI 1)).toNatClampNeg), hs_r 12 0, hs_i q142.1]) (h' := q142.2) (fun n w => w) (hs_inb_iff.mp c146) ?_
      obtain ⟨q147, eq147, e⟩ := hs_bind_some e
      try dsimp only at e
      refine hs_wc 1 (y := 205) (a := [hs_r 12 0, hs_i (S.2 (x3 + (nI 1)).toNatClampNeg), hs_i (S.2 (x3 + (nI 2)).toNatClampNeg), hs_i (S.2 (x3 + (nI 3)).toNatClampNeg), hs_i (S.2 (x3 + (nI 4)).toNatClampNeg)]) (v := some (hs_i q147.1)) (pc' := 804) (ls' := [hs_r 65 0, hs_r 11 0, hs_r 12 0, hs_i x3]) (st' := [hs_i q142.1]) (h' := q142.2) (h2 := q147.2) (fun n w => w) (fun q => hc_205 (by omega) eq147 q) ?_
      refine hs_wb 1 (c := q142.1 = q147.1) (t := 1400) (f := 807) (ls' := [hs_r 65 0, hs_r 11 0, hs_r 12 0, hs_i x3]) (st' := []) (h' := q147.2) (fun n w => w) (fun b148 => ?_) (fun b148 => ?_)
      · rw [if_pos b148] at e
        exact hw_999_1400 hd hk18 e q
      · rw [if_neg b148] at e
        obtain rfl := Option.some.inj e
        exact hs_wra 2 (c := nI 0 = 0 ∨ nI 0 = 1) (v := some (hs_i (nI 0))) (h' := q147.2) (fun n w => w) (by decide) q
    rw [if_neg b137] at e
    refine hs_ws2 (fun b149 => ?_) (fun b149 => ?_)
    · rw [if_pos b149] at e
      obtain ⟨c150, e⟩ := hs_ck_some e
      refine hs_wa 6 (c := vp_in (x3 + (nI 1)) S.1) (pc' := 815) (ls' := [hs_r 65 0, hs_r 11 0, hs_r 12 0, hs_i x3]) (st' := [hs_i (S.2 (x3 + (nI 1)).toNatClampNeg), hs_r 11 0]) (h' := h) (fun n w => w) (hs_inb_iff.mp c150) ?_
      obtain ⟨c151, e⟩ := hs_ck_some e
      refine hs_wa 5 (c := vp_in (x3 + (nI 2)) S.1) (pc' := 820) (ls' := [hs_r 65 0, hs_r 11 0, hs_r 12 0, hs_i x3]) (st' := [hs_i (S.2 (x3 + (nI 2)).toNatClampNeg), hs_i (S.2 (x3 + (nI 1)).toNatClampNeg), hs_r 11 0]) (h' := h) (fun n w => w) (hs_inb_iff.mp c151) ?_
      obtain ⟨c152, e⟩ := hs_ck_some e
      refine hs_wa 5 (c := vp_in (x3 + (nI 3)) S.1) (pc' := 825) (ls' := [hs_r 65 0, hs_r 11 0, hs_r 12 0, hs_i x3]) (st' := [hs_i (S.2 (x3 + (nI 3)).toNatClampNeg), hs_i (S.2 (x3 + (nI 2)).toNatClampNeg), hs_i (S.2 (x3 + (nI 1)).toNatClampNeg), hs_r 11 0]) (h' := h) (fun n w => w) (hs_inb_iff.mp c152) ?_
      obtain ⟨c153, e⟩ := hs_ck_some e
      refine hs_wa 5 (c := vp_in (x3 + (nI 4)) S.1) (pc' := 830) (ls' := [hs_r 65 0, hs_r 11 0, hs_r 12 0, hs_i x3]) (st' := [hs_i (S.2 (x3 + (nI 4)).toNatClampNeg), hs_i (S.2 (x3 + (nI 3)).toNatClampNeg), hs_i (S.2 (x3 + (nI 2)).toNatClampNeg), hs_i (S.2 (x3 + (nI 1)).toNatClampNeg), hs_r 11 0]) (h' := h) (fun n w => w) (hs_inb_iff.mp c153) ?_
      obtain ⟨q154, eq154, e⟩ := hs_bind_some e
      try dsimp only at e
      refine hs_wc 1 (y := 126) (a := [hs_r 11 0, hs_i (S.2 (x3 + (nI 1)).toNatClampNeg), hs_i (S.2 (x3 + (nI 2)).toNatClampNeg), hs_i (S.2 (x3 + (nI 3)).toNatClampNeg), hs_i (S.2 (x3 + (nI 4)).toNatClampNeg)]) (v := some (hs_i q154.1)) (pc' := 833) (ls' := [hs_r 65 0, hs_r 11 0, hs_r 12 0, hs_i x3]) (st' := []) (h' := h) (h2 := q154.2) (fun n w => w) (fun q => hc_126 (by omega) eq154 q) ?_
      obtain ⟨c155, e⟩ := hs_ck_some e
      refine hs_wa 6 (c := vp_in (x3 + (nI 1)) S.1) (pc' := 839) (ls' := [hs_r 65 0, hs_r 11 0, hs_r 12 0, hs_i x3]) (st' := [hs_i (S.2 (x3 + (nI 1)).toNatClampNeg), hs_r 12 0, hs_i q154.1]) (h' := q154.2) (fun n w => w) (hs_inb_iff.mp c155) ?_
      obtain ⟨c156, e⟩ := hs_ck_some e
      refine hs_wa 5 (c := vp_in (x3 + (nI 2)) S.1) (pc' := 844) (ls' := [hs_r 65 0, hs_r 11 0, hs_r 12 0, hs_i x3]) (st' := [hs_i (S.2 (x3 + (nI 2)).toNatClampNeg), hs_i (S.2 (x3 + (nI 1)).toNatClampNeg), hs_r 12 0, hs_i q154.1]) (h' := q154.2) (fun n w => w) (hs_inb_iff.mp c156) ?_
      obtain ⟨c157, e⟩ := hs_ck_some e
      refine hs_wa 5 (c := vp_in (x3 + (nI 3)) S.1) (pc' := 849) (ls' := [hs_r 65 0, hs_r 11 0, hs_r 12 0, hs_i x3]) (st' := [hs_i (S.2 (x3 + (nI 3)).toNatClampNeg), hs_i (S.2 (x3 + (nI 2)).toNatClampNeg), hs_i (S.2 (x3 + (nI 1)).toNatClampNeg), hs_r 12 0, hs_i q154.1]) (h' := q154.2) (fun n w => w) (hs_inb_iff.mp c157) ?_
      obtain ⟨c158, e⟩ := hs_ck_some e
      refine hs_wa 5 (c := vp_in (x3 + (nI 4)) S.1) (pc' := 854) (ls' := [hs_r 65 0, hs_r 11 0, hs_r 12 0, hs_i x3]) (st' := [hs_i (S.2 (x3 + (nI 4)).toNatClampNeg), hs_i (S.2 (x3 + (nI 3)).toNatClampNeg), hs_i (S.2 (x3 + (nI 2)).toNatClampNeg), hs_i (S.2 (x3 + (nI 1)).toNatClampNeg), hs_r 12 0, hs_i q154.1]) (h' := q154.2) (fun n w => w) (hs_inb_iff.mp c158) ?_
      obtain ⟨q159, eq159, e⟩ := hs_bind_some e
      try dsimp only at e
      refine hs_wc 1 (y := 206) (a := [hs_r 12 0, hs_i (S.2 (x3 + (nI 1)).toNatClampNeg), hs_i (S.2 (x3 + (nI 2)).toNatClampNeg), hs_i (S.2 (x3 + (nI 3)).toNatClampNeg), hs_i (S.2 (x3 + (nI 4)).toNatClampNeg)]) (v := some (hs_i q159.1)) (pc' := 857) (ls' := [hs_r 65 0, hs_r 11 0, hs_r 12 0, hs_i x3]) (st' := [hs_i q154.1]) (h' := q154.2) (h2 := q159.2) (fun n w => w) (fun q => hc_206 (by omega) eq159 q) ?_
      refine hs_wb 1 (c := q154.1 = q159.1) (t := 1400) (f := 860) (ls' := [hs_r 65 0, hs_r 11 0, hs_r 12 0, hs_i x3]) (st' := []) (h' := q159.2) (fun n w => w) (fun b160 => ?_) (fun b160 => ?_)
      · rw [if_pos b160] at e
        exact hw_999_1400 hd hk18 e q
      · rw [if_neg b160] at e
        obtain rfl := Option.some.inj e
        exact hs_wra 2 (c := nI 0 = 0 ∨ nI 0 = 1) (v := some (hs_i (nI 0))) (h' := q159.2) (fun n w => w) (by decide) q
    rw [if_neg b149] at e
    refine hs_ws2 (fun b161 => ?_) (fun b161 => ?_)
    · rw [if_pos b161] at e
      obtain ⟨c162, e⟩ := hs_ck_some e
      refine hs_wa 6 (c := vp_in (x3 + (nI 1)) S.1) (pc' := 868) (ls' := [hs_r 65 0, hs_r 11 0, hs_r 12 0, hs_i x3]) (st' := [hs_i (S.2 (x3 + (nI 1)).toNatClampNeg), hs_r 11 0]) (h' := h) (fun n w => w) (hs_inb_iff.mp c162) ?_
      obtain ⟨c163, e⟩ := hs_ck_some e
      refine hs_wa 5 (c := vp_in (x3 + (nI 2)) S.1) (pc' := 873) (ls' := [hs_r 65 0, hs_r 11 0, hs_r 12 0, hs_i x3]) (st' := [hs_i (S.2 (x3 + (nI 2)).toNatClampNeg), hs_i (S.2 (x3 + (nI 1)).toNatClampNeg), hs_r 11 0]) (h' := h) (fun n w => w) (hs_inb_iff.mp c163) ?_
      obtain ⟨c164, e⟩ := hs_ck_some e
      refine hs_wa 5 (c := vp_in (x3 + (nI 3)) S.1) (pc' := 878) (ls' := [hs_r 65 0, hs_r 11 0, hs_r 12 0, hs_i x3]) (st' := [hs_i (S.2 (x3 + (nI 3)).toNatClampNeg), hs_i (S.2 (x3 + (nI 2)).toNatClampNeg), hs_i (S.2 (x3 + (nI 1)).toNatClampNeg), hs_r 11 0]) (h' := h) (fun n w => w) (hs_inb_iff.mp c164) ?_
      obtain ⟨q165, eq165, e⟩ := hs_bind_some e
      try dsimp only at e
      refine hs_wc 1 (y := 128) (a := [hs_r 11 0, hs_i (S.2 (x3 + (nI 1)).toNatClampNeg), hs_i (S.2 (x3 + (nI 2)).toNatClampNeg), hs_i (S.2 (x3 + (nI 3)).toNatClampNeg)]) (v := some (hs_i q165.1)) (pc' := 881) (ls' := [hs_r 65 0, hs_r 11 0, hs_r 12 0, hs_i x3]) (st' := []) (h' := h) (h2 := q165.2) (fun n w => w) (fun q => hc_128 (by omega) eq165 q) ?_
      obtain ⟨c166, e⟩ := hs_ck_some e
      refine hs_wa 6 (c := vp_in (x3 + (nI 1)) S.1) (pc' := 887) (ls' := [hs_r 65 0, hs_r 11 0, hs_r 12 0, hs_i x3]) (st' := [hs_i (S.2 (x3 + (nI 1)).toNatClampNeg), hs_r 12 0, hs_i q165.1]) (h' := q165.2) (fun n w => w) (hs_inb_iff.mp c166) ?_
      obtain ⟨c167, e⟩ := hs_ck_some e
      refine hs_wa 5 (c := vp_in (x3 + (nI 2)) S.1) (pc' := 892) (ls' := [hs_r 65 0, hs_r 11 0, hs_r 12 0, hs_i x3]) (st' := [hs_i (S.2 (x3 + (nI 2)).toNatClampNeg), hs_i (S.2 (x3 + (nI 1)).toNatClampNeg), hs_r 12 0, hs_i q165.1]) (h' := q165.2) (fun n w => w) (hs_inb_iff.mp c167) ?_
      obtain ⟨c168, e⟩ := hs_ck_some e
      refine hs_wa 5 (c := vp_in (x3 + (nI 3)) S.1) (pc' := 897) (ls' := [hs_r 65 0, hs_r 11 0, hs_r 12 0, hs_i x3]) (st' := [hs_i (S.2 (x3 + (nI 3)).toNatClampNeg), hs_i (S.2 (x3 + (nI 2)).toNatClampNeg), hs_i (S.2 (x3 + (nI 1)).toNatClampNeg), hs_r 12 0, hs_i q165.1]) (h' := q165.2) (fun n w => w) (hs_inb_iff.mp c168) ?_
      obtain ⟨q169, eq169, e⟩ := hs_bind_some e
      try dsimp only at e
      refine hs_wc 1 (y := 210) (a := [hs_r 12 0, hs_i (S.2 (x3 + (nI 1)).toNatClampNeg), hs_i (S.2 (x3 + (nI 2)).toNatClampNeg), hs_i (S.2 (x3 + (nI 3)).toNatClampNeg)]) (v := some (hs_i q169.1)) (pc' := 900) (ls' := [hs_r 65 0, hs_r 11 0, hs_r 12 0, hs_i x3]) (st' := [hs_i q165.1]) (h' := q165.2) (h2 := q169.2) (fun n w => w) (fun q => hc_210 (by omega) eq169 q) ?_
      refine hs_wb 1 (c := q165.1 = q169.1) (t := 1400) (f := 903) (ls' := [hs_r 65 0, hs_r 11 0, hs_r 12 0, hs_i x3]) (st' := []) (h' := q169.2) (fun n w => w) (fun b170 => ?_) (fun b170 => ?_)
      · rw [if_pos b170] at e
        exact hw_999_1400 hd hk18 e q
      · rw [if_neg b170] at e
        obtain rfl := Option.some.inj e
        exact hs_wra 2 (c := nI 0 = 0 ∨ nI 0 = 1) (v := some (hs_i (nI 0))) (h' := q169.2) (fun n w => w) (by decide) q
    rw [if_neg b161] at e
    refine hs_ws2 (fun b171 => ?_) (fun b171 => ?_)
    · rw [if_pos b171] at e
      obtain ⟨q172, eq172, e⟩ := hs_bind_some e
      try dsimp only at e
      refine hs_wc 2 (y := 129) (a := [hs_r 11 0]) (v := some (hs_i q172.1)) (pc' := 909) (ls' := [hs_r 65 0, hs_r 11 0, hs_r 12 0, hs_i x3]) (st' := []) (h' := h) (h2 := q172.2) (fun n w => w) (fun q => hc_129 (by omega) eq172 q) ?_
      obtain ⟨q173, eq173, e⟩ := hs_bind_some e
      try dsimp only at e
      refine hs_wc 2 (y := 211) (a := [hs_r 12 0]) (v := some (hs_i q173.1)) (pc' := 913) (ls' := [hs_r 65 0, hs_r 11 0, hs_r 12 0, hs_i x3]) (st' := [hs_i q172.1]) (h' := q172.2) (h2 := q173.2) (fun n w => w) (fun q => hc_211 (by omega) eq173 q) ?_
      refine hs_wb 1 (c := q172.1 = q173.1) (t := 1400) (f := 916) (ls' := [hs_r 65 0, hs_r 11 0, hs_r 12 0, hs_i x3]) (st' := []) (h' := q173.2) (fun n w => w) (fun b174 => ?_) (fun b174 => ?_)
      · rw [if_pos b174] at e
        exact hw_999_1400 hd hk18 e q
      · rw [if_neg b174] at e
        obtain rfl := Option.some.inj e
        exact hs_wra 2 (c := nI 0 = 0 ∨ nI 0 = 1) (v := some (hs_i (nI 0))) (h' := q173.2) (fun n w => w) (by decide) q
    rw [if_neg b171] at e
    refine hs_ws2 (fun b175 => ?_) (fun b175 => ?_)
    · rw [if_pos b175] at e
      obtain ⟨c176, e⟩ := hs_ck_some e
      refine hs_wa 6 (c := vp_in (x3 + (nI 1)) S.1) (pc' := 924) (ls' := [hs_r 65 0, hs_r 11 0, hs_r 12 0, hs_i x3]) (st' := [hs_i (S.2 (x3 + (nI 1)).toNatClampNeg), hs_r 11 0]) (h' := h) (fun n w => w) (hs_inb_iff.mp c176) ?_
      obtain ⟨c177, e⟩ := hs_ck_some e
      refine hs_wa 5 (c := vp_in (x3 + (nI 2)) S.1) (pc' := 929) (ls' := [hs_r 65 0, hs_r 11 0, hs_r 12 0, hs_i x3]) (st' := [hs_i (S.2 (x3 + (nI 2)).toNatClampNeg), hs_i (S.2 (x3 + (nI 1)).toNatClampNeg), hs_r 11 0]) (h' := h) (fun n w => w) (hs_inb_iff.mp c177) ?_
      obtain ⟨q178, eq178, e⟩ := hs_bind_some e
      try dsimp only at e
      refine hs_wc 1 (y := 130) (a := [hs_r 11 0, hs_i (S.2 (x3 + (nI 1)).toNatClampNeg), hs_i (S.2 (x3 + (nI 2)).toNatClampNeg)]) (v := some (hs_i q178.1)) (pc' := 932) (ls' := [hs_r 65 0, hs_r 11 0, hs_r 12 0, hs_i x3]) (st' := []) (h' := h) (h2 := q178.2) (fun n w => w) (fun q => hc_130 (by omega) eq178 q) ?_
      obtain ⟨c179, e⟩ := hs_ck_some e
      refine hs_wa 6 (c := vp_in (x3 + (nI 1)) S.1) (pc' := 938) (ls' := [hs_r 65 0, hs_r 11 0, hs_r 12 0, hs_i x3]) (st' := [hs_i (S.2 (x3 + (nI 1)).toNatClampNeg), hs_r 12 0, hs_i q178.1]) (h' := q178.2) (fun n w => w) (hs_inb_iff.mp c179) ?_
      obtain ⟨c180, e⟩ := hs_ck_some e
      refine hs_wa 5 (c := vp_in (x3 + (nI 2)) S.1) (pc' := 943) (ls' := [hs_r 65 0, hs_r 11 0, hs_r 12 0, hs_i x3]) (st' := [hs_i (S.2 (x3 + (nI 2)).toNatClampNeg), hs_i (S.2 (x3 + (nI 1)).toNatClampNeg), hs_r 12 0, hs_i q178.1]) (h' := q178.2) (fun n w => w) (hs_inb_iff.mp c180) ?_
      obtain ⟨q181, eq181, e⟩ := hs_bind_some e
      try dsimp only at e
      refine hs_wc 1 (y := 212) (a := [hs_r 12 0, hs_i (S.2 (x3 + (nI 1)).toNatClampNeg), hs_i (S.2 (x3 + (nI 2)).toNatClampNeg)]) (v := some (hs_i q181.1)) (pc' := 946) (ls' := [hs_r 65 0, hs_r 11 0, hs_r 12 0, hs_i x3]) (st' := [hs_i q178.1]) (h' := q178.2) (h2 := q181.2) (fun n w => w) (fun q => hc_212 (by omega) eq181 q) ?_
      refine hs_wb 1 (c := q178.1 = q181.1) (t := 1400) (f := 949) (ls' := [hs_r 65 0, hs_r 11 0, hs_r 12 0, hs_i x3]) (st' := []) (h' := q181.2) (fun n w => w) (fun b182 => ?_) (fun b182 => ?_)
      · rw [if_pos b182] at e
        exact hw_999_1400 hd hk18 e q
      · rw [if_neg b182] at e
        obtain rfl := Option.some.inj e
        exact hs_wra 2 (c := nI 0 = 0 ∨ nI 0 = 1) (v := some (hs_i (nI 0))) (h' := q181.2) (fun n w => w) (by decide) q
    rw [if_neg b175] at e
    refine hs_ws2 (fun b183 => ?_) (fun b183 => ?_)
    · rw [if_pos b183] at e
      obtain ⟨c184, e⟩ := hs_ck_some e
      refine hs_wa 6 (c := vp_in (x3 + (nI 1)) S.1) (pc' := 957) (ls' := [hs_r 65 0, hs_r 11 0, hs_r 12 0, hs_i x3]) (st' := [hs_i (S.2 (x3 + (nI 1)).toNatClampNeg), hs_r 11 0]) (h' := h) (fun n w => w) (hs_inb_iff.mp c184) ?_
      obtain ⟨c185, e⟩ := hs_ck_some e
      refine hs_wa 5 (c := vp_in (x3 + (nI 2)) S.1) (pc' := 962) (ls' := [hs_r 65 0, hs_r 11 0, hs_r 12 0, hs_i x3]) (st' := [hs_i (S.2 (x3 + (nI 2)).toNatClampNeg), hs_i (S.2 (x3 + (nI 1)).toNatClampNeg), hs_r 11 0]) (h' := h) (fun n w => w) (hs_inb_iff.mp c185) ?_
      obtain ⟨c186, e⟩ := hs_ck_some e
      refine hs_wa 5 (c := vp_in (x3 + (nI 3)) S.1) (pc' := 967) (ls' := [hs_r 65 0, hs_r 11 0, hs_r 12 0, hs_i x3]) (st' := [hs_i (S.2 (x3 + (nI 3)).toNatClampNeg), hs_i (S.2 (x3 + (nI 2)).toNatClampNeg), hs_i (S.2 (x3 + (nI 1)).toNatClampNeg), hs_r 11 0]) (h' := h) (fun n w => w) (hs_inb_iff.mp c186) ?_
      obtain ⟨q187, eq187, e⟩ := hs_bind_some e
      try dsimp only at e
      refine hs_wc 1 (y := 131) (a := [hs_r 11 0, hs_i (S.2 (x3 + (nI 1)).toNatClampNeg), hs_i (S.2 (x3 + (nI 2)).toNatClampNeg), hs_i (S.2 (x3 + (nI 3)).toNatClampNeg)]) (v := some (hs_i q187.1)) (pc' := 970) (ls' := [hs_r 65 0, hs_r 11 0, hs_r 12 0, hs_i x3]) (st' := []) (h' := h) (h2 := q187.2) (fun n w => w) (fun q => hc_131 (by omega) eq187 q) ?_
      obtain ⟨c188, e⟩ := hs_ck_some e
      refine hs_wa 6 (c := vp_in (x3 + (nI 1)) S.1) (pc' := 976) (ls' := [hs_r 65 0, hs_r 11 0, hs_r 12 0, hs_i x3]) (st' := [hs_i (S.2 (x3 + (nI 1)).toNatClampNeg), hs_r 12 0, hs_i q187.1]) (h' := q187.2) (fun n w => w) (hs_inb_iff.mp c188) ?_
      obtain ⟨c189, e⟩ := hs_ck_some e
      refine hs_wa 5 (c := vp_in (x3 + (nI 2)) S.1) (pc' := 981) (ls' := [hs_r 65 0, hs_r 11 0, hs_r 12 0, hs_i x3]) (st' := [hs_i (S.2 (x3 + (nI 2)).toNatClampNeg), hs_i (S.2 (x3 + (nI 1)).toNatClampNeg), hs_r 12 0, hs_i q187.1]) (h' := q187.2) (fun n w => w) (hs_inb_iff.mp c189) ?_
      obtain ⟨c190, e⟩ := hs_ck_some e
      refine hs_wa 5 (c := vp_in (x3 + (nI 3)) S.1) (pc' := 986) (ls' := [hs_r 65 0, hs_r 11 0, hs_r 12 0, hs_i x3]) (st' := [hs_i (S.2 (x3 + (nI 3)).toNatClampNeg), hs_i (S.2 (x3 + (nI 2)).toNatClampNeg), hs_i (S.2 (x3 + (nI 1)).toNatClampNeg), hs_r 12 0, hs_i q187.1]) (h' := q187.2) (fun n w => w) (hs_inb_iff.mp c190) ?_
      obtain ⟨q191, eq191, e⟩ := hs_bind_some e
      try dsimp only at e
      refine hs_wc 1 (y := 220) (a := [hs_r 12 0, hs_i (S.2 (x3 + (nI 1)).toNatClampNeg), hs_i (S.2 (x3 + (nI 2)).toNatClampNeg), hs_i (S.2 (x3 + (nI 3)).toNatClampNeg)]) (v := some (hs_i q191.1)) (pc' := 989) (ls' := [hs_r 65 0, hs_r 11 0, hs_r 12 0, hs_i x3]) (st' := [hs_i q187.1]) (h' := q187.2) (h2 := q191.2) (fun n w => w) (fun q => hc_220 (by omega) eq191 q) ?_
      refine hs_wb 1 (c := q187.1 = q191.1) (t := 1400) (f := 992) (ls' := [hs_r 65 0, hs_r 11 0, hs_r 12 0, hs_i x3]) (st' := []) (h' := q191.2) (fun n w => w) (fun b192 => ?_) (fun b192 => ?_)
      · rw [if_pos b192] at e
        exact hw_999_1400 hd hk18 e q
      · rw [if_neg b192] at e
        obtain rfl := Option.some.inj e
        exact hs_wra 2 (c := nI 0 = 0 ∨ nI 0 = 1) (v := some (hs_i (nI 0))) (h' := q191.2) (fun n w => w) (by decide) q
    rw [if_neg b183] at e
    refine hs_ws2 (fun b193 => ?_) (fun b193 => ?_)
    · rw [if_pos b193] at e
      obtain ⟨c194, e⟩ := hs_ck_some e
      refine hs_wa 6 (c := vp_in (x3 + (nI 1)) S.1) (pc' := 1000) (ls' := [hs_r 65 0, hs_r 11 0, hs_r 12 0, hs_i x3]) (st' := [hs_i (S.2 (x3 + (nI 1)).toNatClampNeg), hs_r 11 0]) (h' := h) (fun n w => w) (hs_inb_iff.mp c194) ?_
      obtain ⟨c195, e⟩ := hs_ck_some e
      refine hs_wa 5 (c := vp_in (x3 + (nI 2)) S.1) (pc' := 1005) (ls' := [hs_r 65 0, hs_r 11 0, hs_r 12 0, hs_i x3]) (st' := [hs_i (S.2 (x3 + (nI 2)).toNatClampNeg), hs_i (S.2 (x3 + (nI 1)).toNatClampNeg), hs_r 11 0]) (h' := h) (fun n w => w) (hs_inb_iff.mp c195) ?_
      obtain ⟨c196, e⟩ := hs_ck_some e
      refine hs_wa 5 (c := vp_in (x3 + (nI 3)) S.1) (pc' := 1010) (ls' := [hs_r 65 0, hs_r 11 0, hs_r 12 0, hs_i x3]) (st' := [hs_i (S.2 (x3 + (nI 3)).toNatClampNeg), hs_i (S.2 (x3 + (nI 2)).toNatClampNeg), hs_i (S.2 (x3 + (nI 1)).toNatClampNeg), hs_r 11 0]) (h' := h) (fun n w => w) (hs_inb_iff.mp c196) ?_
      obtain ⟨q197, eq197, e⟩ := hs_bind_some e
      try dsimp only at e
      refine hs_wc 1 (y := 132) (a := [hs_r 11 0, hs_i (S.2 (x3 + (nI 1)).toNatClampNeg), hs_i (S.2 (x3 + (nI 2)).toNatClampNeg), hs_i (S.2 (x3 + (nI 3)).toNatClampNeg)]) (v := some (hs_i q197.1)) (pc' := 1013) (ls' := [hs_r 65 0, hs_r 11 0, hs_r 12 0, hs_i x3]) (st' := []) (h' := h) (h2 := q197.2) (fun n w => w) (fun q => hc_132 (by omega) eq197 q) ?_
      obtain ⟨c198, e⟩ := hs_ck_some e
      refine hs_wa 6 (c := vp_in (x3 + (nI 1)) S.1) (pc' := 1019) (ls' := [hs_r 65 0, hs_r 11 0, hs_r 12 0, hs_i x3]) (st' := [hs_i (S.2 (x3 + (nI 1)).toNatClampNeg), hs_r 12 0, hs_i q197.1]) (h' := q197.2) (fun n w => w) (hs_inb_iff.mp c198) ?_
      obtain ⟨c199, e⟩ := hs_ck_some e
      refine hs_wa 5 (c := vp_in (x3 + (nI 2)) S.1) (pc' := 1024) (ls' := [hs_r 65 0, hs_r 11 0, hs_r 12 0, hs_i x3]) (st' := [hs_i (S.2 (x3 + (nI 2)).toNatClampNeg), hs_i (S.2 (x3 + (nI 1)).toNatClampNeg), hs_r 12 0, hs_i q197.1]) (h' := q197.2) (fun n w => w) (hs_inb_iff.mp c199) ?_
      obtain ⟨c200, e⟩ := hs_ck_some e
      refine hs_wa 5 (c := vp_in (x3 + (nI 3)) S.1) (pc' := 1029) (ls' := [hs_r 65 0, hs_r 11 0, hs_r 12 0, hs_i x3]) (st' := [hs_i (S.2 (x3 + (nI 3)).toNatClampNeg), hs_i (S.2 (x3 + (nI 2)).toNatClampNeg), hs_i (S.2 (x3 + (nI 1)).toNatClampNeg), hs_r 12 0, hs_i q197.1]) (h' := q197.2) (fun n w => w) (hs_inb_iff.mp c200) ?_
      obtain ⟨q201, eq201, e⟩ := hs_bind_some e
      try dsimp only at e
      refine hs_wc 1 (y := 221) (a := [hs_r 12 0, hs_i (S.2 (x3 + (nI 1)).toNatClampNeg), hs_i (S.2 (x3 + (nI 2)).toNatClampNeg), hs_i (S.2 (x3 + (nI 3)).toNatClampNeg)]) (v := some (hs_i q201.1)) (pc' := 1032) (ls' := [hs_r 65 0, hs_r 11 0, hs_r 12 0, hs_i x3]) (st' := [hs_i q197.1]) (h' := q197.2) (h2 := q201.2) (fun n w => w) (fun q => hc_221 (by omega) eq201 q) ?_
      refine hs_wb 1 (c := q197.1 = q201.1) (t := 1400) (f := 1035) (ls' := [hs_r 65 0, hs_r 11 0, hs_r 12 0, hs_i x3]) (st' := []) (h' := q201.2) (fun n w => w) (fun b202 => ?_) (fun b202 => ?_)
      · rw [if_pos b202] at e
        exact hw_999_1400 hd hk18 e q
      · rw [if_neg b202] at e
        obtain rfl := Option.some.inj e
        exact hs_wra 2 (c := nI 0 = 0 ∨ nI 0 = 1) (v := some (hs_i (nI 0))) (h' := q201.2) (fun n w => w) (by decide) q
    rw [if_neg b193] at e
    refine hs_ws2 (fun b203 => ?_) (fun b203 => ?_)
    · rw [if_pos b203] at e
      obtain ⟨c204, e⟩ := hs_ck_some e
      refine hs_wa 6 (c := vp_in (x3 + (nI 1)) S.1) (pc' := 1043) (ls' := [hs_r 65 0, hs_r 11 0, hs_r 12 0, hs_i x3]) (st' := [hs_i (S.2 (x3 + (nI 1)).toNatClampNeg), hs_r 11 0]) (h' := h) (fun n w => w) (hs_inb_iff.mp c204) ?_
      obtain ⟨q205, eq205, e⟩ := hs_bind_some e
      try dsimp only at e
      refine hs_wc 1 (y := 133) (a := [hs_r 11 0, hs_i (S.2 (x3 + (nI 1)).toNatClampNeg)]) (v := some (hs_i q205.1)) (pc' := 1046) (ls' := [hs_r 65 0, hs_r 11 0, hs_r 12 0, hs_i x3]) (st' := []) (h' := h) (h2 := q205.2) (fun n w => w) (fun q => hc_133 (by omega) eq205 q) ?_
      obtain ⟨c206, e⟩ := hs_ck_some e
      refine hs_wa 6 (c := vp_in (x3 + (nI 1)) S.1) (pc' := 1052) (ls' := [hs_r 65 0, hs_r 11 0, hs_r 12 0, hs_i x3]) (st' := [hs_i (S.2 (x3 + (nI 1)).toNatClampNeg), hs_r 12 0, hs_i q205.1]) (h' := q205.2) (fun n w => w) (hs_inb_iff.mp c206) ?_
      obtain ⟨q207, eq207, e⟩ := hs_bind_some e
      try dsimp only at e
      refine hs_wc 1 (y := 222) (a := [hs_r 12 0, hs_i (S.2 (x3 + (nI 1)).toNatClampNeg)]) (v := some (hs_i q207.1)) (pc' := 1055) (ls' := [hs_r 65 0, hs_r 11 0, hs_r 12 0, hs_i x3]) (st' := [hs_i q205.1]) (h' := q205.2) (h2 := q207.2) (fun n w => w) (fun q => hc_222 (by omega) eq207 q) ?_
      refine hs_wb 1 (c := q205.1 = q207.1) (t := 1400) (f := 1058) (ls' := [hs_r 65 0, hs_r 11 0, hs_r 12 0, hs_i x3]) (st' := []) (h' := q207.2) (fun n w => w) (fun b208 => ?_) (fun b208 => ?_)
      · rw [if_pos b208] at e
        exact hw_999_1400 hd hk18 e q
      · rw [if_neg b208] at e
        obtain rfl := Option.some.inj e
        exact hs_wra 2 (c := nI 0 = 0 ∨ nI 0 = 1) (v := some (hs_i (nI 0))) (h' := q207.2) (fun n w => w) (by decide) q
    rw [if_neg b203] at e
    refine hs_ws2 (fun b209 => ?_) (fun b209 => ?_)
    · rw [if_pos b209] at e
      obtain ⟨c210, e⟩ := hs_ck_some e
      refine hs_wa 6 (c := vp_in (x3 + (nI 1)) S.1) (pc' := 1066) (ls' := [hs_r 65 0, hs_r 11 0, hs_r 12 0, hs_i x3]) (st' := [hs_i (S.2 (x3 + (nI 1)).toNatClampNeg), hs_r 11 0]) (h' := h) (fun n w => w) (hs_inb_iff.mp c210) ?_
      obtain ⟨c211, e⟩ := hs_ck_some e
      refine hs_wa 5 (c := vp_in (x3 + (nI 2)) S.1) (pc' := 1071) (ls' := [hs_r 65 0, hs_r 11 0, hs_r 12 0, hs_i x3]) (st' := [hs_i (S.2 (x3 + (nI 2)).toNatClampNeg), hs_i (S.2 (x3 + (nI 1)).toNatClampNeg), hs_r 11 0]) (h' := h) (fun n w => w) (hs_inb_iff.mp c211) ?_
      obtain ⟨q212, eq212, e⟩ := hs_bind_some e
      try dsimp only at e
      refine hs_wc 1 (y := 134) (a := [hs_r 11 0, hs_i (S.2 (x3 + (nI 1)).toNatClampNeg), hs_i (S.2 (x3 + (nI 2)).toNatClampNeg)]) (v := some (hs_i q212.1)) (pc' := 1074) (ls' := [hs_r 65 0, hs_r 11 0, hs_r 12 0, hs_i x3]) (st' := []) (h' := h) (h2 := q212.2) (fun n w => w) (fun q => hc_134 (by omega) eq212 q) ?_
      obtain ⟨c213, e⟩ := hs_ck_some e
      refine hs_wa 6 (c := vp_in (x3 + (nI 1)) S.1) (pc' := 1080) (ls' := [hs_r 65 0, hs_r 11 0, hs_r 12 0, hs_i x3]) (st' := [hs_i (S.2 (x3 + (nI 1)).toNatClampNeg), hs_r 12 0, hs_i q212.1]) (h' := q212.2) (fun n w => w) (hs_inb_iff.mp c213) ?_
      obtain ⟨c214, e⟩ := hs_ck_some e
      refine hs_wa 5 (c := vp_in (x3 + (nI 2)) S.1) (pc' := 1085) (ls' := [hs_r 65 0, hs_r 11 0, hs_r 12 0, hs_i x3]) (st' := [hs_i (S.2 (x3 + (nI 2)).toNatClampNeg), hs_i (S.2 (x3 + (nI 1)).toNatClampNeg), hs_r 12 0, hs_i q212.1]) (h' := q212.2) (fun n w => w) (hs_inb_iff.mp c214) ?_
      obtain ⟨q215, eq215, e⟩ := hs_bind_some e
      try dsimp only at e
      refine hs_wc 1 (y := 224) (a := [hs_r 12 0, hs_i (S.2 (x3 + (nI 1)).toNatClampNeg), hs_i (S.2 (x3 + (nI 2)).toNatClampNeg)]) (v := some (hs_i q215.1)) (pc' := 1088) (ls' := [hs_r 65 0, hs_r 11 0, hs_r 12 0, hs_i x3]) (st' := [hs_i q212.1]) (h' := q212.2) (h2 := q215.2) (fun n w => w) (fun q => hc_224 (by omega) eq215 q) ?_
      refine hs_wb 1 (c := q212.1 = q215.1) (t := 1400) (f := 1091) (ls' := [hs_r 65 0, hs_r 11 0, hs_r 12 0, hs_i x3]) (st' := []) (h' := q215.2) (fun n w => w) (fun b216 => ?_) (fun b216 => ?_)
      · rw [if_pos b216] at e
        exact hw_999_1400 hd hk18 e q
      · rw [if_neg b216] at e
        obtain rfl := Option.some.inj e
        exact hs_wra 2 (c := nI 0 = 0 ∨ nI 0 = 1) (v := some (hs_i (nI 0))) (h' := q215.2) (fun n w => w) (by decide) q
    rw [if_neg b209] at e
    refine hs_ws2 (fun b217 => ?_) (fun b217 => ?_)
    · rw [if_pos b217] at e
      obtain ⟨c218, e⟩ := hs_ck_some e
      refine hs_wa 6 (c := vp_in (x3 + (nI 1)) S.1) (pc' := 1099) (ls' := [hs_r 65 0, hs_r 11 0, hs_r 12 0, hs_i x3]) (st' := [hs_i (S.2 (x3 + (nI 1)).toNatClampNeg), hs_r 11 0]) (h' := h) (fun n w => w) (hs_inb_iff.mp c218) ?_
      obtain ⟨c219, e⟩ := hs_ck_some e
      refine hs_wa 5 (c := vp_in (x3 + (nI 2)) S.1) (pc' := 1104) (ls' := [hs_r 65 0, hs_r 11 0, hs_r 12 0, hs_i x3]) (st' := [hs_i (S.2 (x3 + (nI 2)).toNatClampNeg), hs_i (S.2 (x3 + (nI 1)).toNatClampNeg), hs_r 11 0]) (h' := h) (fun n w => w) (hs_inb_iff.mp c219) ?_
      obtain ⟨c220, e⟩ := hs_ck_some e
      refine hs_wa 5 (c := vp_in (x3 + (nI 3)) S.1) (pc' := 1109) (ls' := [hs_r 65 0, hs_r 11 0, hs_r 12 0, hs_i x3]) (st' := [hs_i (S.2 (x3 + (nI 3)).toNatClampNeg), hs_i (S.2 (x3 + (nI 2)).toNatClampNeg), hs_i (S.2 (x3 + (nI 1)).toNatClampNeg), hs_r 11 0]) (h' := h) (fun n w => w) (hs_inb_iff.mp c220) ?_
      obtain ⟨q221, eq221, e⟩ := hs_bind_some e
      try dsimp only at e
      refine hs_wc 1 (y := 135) (a := [hs_r 11 0, hs_i (S.2 (x3 + (nI 1)).toNatClampNeg), hs_i (S.2 (x3 + (nI 2)).toNatClampNeg), hs_i (S.2 (x3 + (nI 3)).toNatClampNeg)]) (v := some (hs_i q221.1)) (pc' := 1112) (ls' := [hs_r 65 0, hs_r 11 0, hs_r 12 0, hs_i x3]) (st' := []) (h' := h) (h2 := q221.2) (fun n w => w) (fun q => hc_135 (by omega) eq221 q) ?_
      obtain ⟨c222, e⟩ := hs_ck_some e
      refine hs_wa 6 (c := vp_in (x3 + (nI 1)) S.1) (pc' := 1118) (ls' := [hs_r 65 0, hs_r 11 0, hs_r 12 0, hs_i x3]) (st' := [hs_i (S.2 (x3 + (nI 1)).toNatClampNeg), hs_r 12 0, hs_i q221.1]) (h' := q221.2) (fun n w => w) (hs_inb_iff.mp c222) ?_
      obtain ⟨c223, e⟩ := hs_ck_some e
      refine hs_wa 5 (c := vp_in (x3 + (nI 2)) S.1) (pc' := 1123) (ls' := [hs_r 65 0, hs_r 11 0, hs_r 12 0, hs_i x3]) (st' := [hs_i (S.2 (x3 + (nI 2)).toNatClampNeg), hs_i (S.2 (x3 + (nI 1)).toNatClampNeg), hs_r 12 0, hs_i q221.1]) (h' := q221.2) (fun n w => w) (hs_inb_iff.mp c223) ?_
      obtain ⟨c224, e⟩ := hs_ck_some e
      refine hs_wa 5 (c := vp_in (x3 + (nI 3)) S.1) (pc' := 1128) (ls' := [hs_r 65 0, hs_r 11 0, hs_r 12 0, hs_i x3]) (st' := [hs_i (S.2 (x3 + (nI 3)).toNatClampNeg), hs_i (S.2 (x3 + (nI 2)).toNatClampNeg), hs_i (S.2 (x3 + (nI 1)).toNatClampNeg), hs_r 12 0, hs_i q221.1]) (h' := q221.2) (fun n w => w) (hs_inb_iff.mp c224) ?_
      obtain ⟨q225, eq225, e⟩ := hs_bind_some e
      try dsimp only at e
      refine hs_wc 1 (y := 225) (a := [hs_r 12 0, hs_i (S.2 (x3 + (nI 1)).toNatClampNeg), hs_i (S.2 (x3 + (nI 2)).toNatClampNeg), hs_i (S.2 (x3 + (nI 3)).toNatClampNeg)]) (v := some (hs_i q225.1)) (pc' := 1131) (ls' := [hs_r 65 0, hs_r 11 0, hs_r 12 0, hs_i x3]) (st' := [hs_i q221.1]) (h' := q221.2) (h2 := q225.2) (fun n w => w) (fun q => hc_225 (by omega) eq225 q) ?_
      refine hs_wb 1 (c := q221.1 = q225.1) (t := 1400) (f := 1134) (ls' := [hs_r 65 0, hs_r 11 0, hs_r 12 0, hs_i x3]) (st' := []) (h' := q225.2) (fun n w => w) (fun b226 => ?_) (fun b226 => ?_)
      · rw [if_pos b226] at e
        exact hw_999_1400 hd hk18 e q
      · rw [if_neg b226] at e
        obtain rfl := Option.some.inj e
        exact hs_wra 2 (c := nI 0 = 0 ∨ nI 0 = 1) (v := some (hs_i (nI 0))) (h' := q225.2) (fun n w => w) (by decide) q
    rw [if_neg b217] at e
    refine hs_ws2 (fun b227 => ?_) (fun b227 => ?_)
    · rw [if_pos b227] at e
      obtain ⟨c228, e⟩ := hs_ck_some e
      refine hs_wa 6 (c := vp_in (x3 + (nI 1)) S.1) (pc' := 1142) (ls' := [hs_r 65 0, hs_r 11 0, hs_r 12 0, hs_i x3]) (st' := [hs_i (S.2 (x3 + (nI 1)).toNatClampNeg), hs_r 11 0]) (h' := h) (fun n w => w) (hs_inb_iff.mp c228) ?_
      obtain ⟨c229, e⟩ := hs_ck_some e
      refine hs_wa 5 (c := vp_in (x3 + (nI 2)) S.1) (pc' := 1147) (ls' := [hs_r 65 0, hs_r 11 0, hs_r 12 0, hs_i x3]) (st' := [hs_i (S.2 (x3 + (nI 2)).toNatClampNeg), hs_i (S.2 (x3 + (nI 1)).toNatClampNeg), hs_r 11 0]) (h' := h) (fun n w => w) (hs_inb_iff.mp c229) ?_
      obtain ⟨c230, e⟩ := hs_ck_some e
      refine hs_wa 5 (c := vp_in (x3 + (nI 3)) S.1) (pc' := 1152) (ls' := [hs_r 65 0, hs_r 11 0, hs_r 12 0, hs_i x3]) (st' := [hs_i (S.2 (x3 + (nI 3)).toNatClampNeg), hs_i (S.2 (x3 + (nI 2)).toNatClampNeg), hs_i (S.2 (x3 + (nI 1)).toNatClampNeg), hs_r 11 0]) (h' := h) (fun n w => w) (hs_inb_iff.mp c230) ?_
      obtain ⟨q231, eq231, e⟩ := hs_bind_some e
      try dsimp only at e
      refine hs_wc 1 (y := 136) (a := [hs_r 11 0, hs_i (S.2 (x3 + (nI 1)).toNatClampNeg), hs_i (S.2 (x3 + (nI 2)).toNatClampNeg), hs_i (S.2 (x3 + (nI 3)).toNatClampNeg)]) (v := some (hs_i q231.1)) (pc' := 1155) (ls' := [hs_r 65 0, hs_r 11 0, hs_r 12 0, hs_i x3]) (st' := []) (h' := h) (h2 := q231.2) (fun n w => w) (fun q => hc_136 (by omega) eq231 q) ?_
      obtain ⟨c232, e⟩ := hs_ck_some e
      refine hs_wa 6 (c := vp_in (x3 + (nI 1)) S.1) (pc' := 1161) (ls' := [hs_r 65 0, hs_r 11 0, hs_r 12 0, hs_i x3]) (st' := [hs_i (S.2 (x3 + (nI 1)).toNatClampNeg), hs_r 12 0, hs_i q231.1]) (h' := q231.2) (fun n w => w) (hs_inb_iff.mp c232) ?_
      obtain ⟨c233, e⟩ := hs_ck_some e
      refine hs_wa 5 (c := vp_in (x3 + (nI 2)) S.1) (pc' := 1166) (ls' := [hs_r 65 0, hs_r 11 0, hs_r 12 0, hs_i x3]) (st' := [hs_i (S.2 (x3 + (nI 2)).toNatClampNeg), hs_i (S.2 (x3 + (nI 1)).toNatClampNeg), hs_r 12 0, hs_i q231.1]) (h' := q231.2) (fun n w => w) (hs_inb_iff.mp c233) ?_
      obtain ⟨c234, e⟩ := hs_ck_some e
      refine hs_wa 5 (c := vp_in (x3 + (nI 3)) S.1) (pc' := 1171) (ls' := [hs_r 65 0, hs_r 11 0, hs_r 12 0, hs_i x3]) (st' := [hs_i (S.2 (x3 + (nI 3)).toNatClampNeg), hs_i (S.2 (x3 + (nI 2)).toNatClampNeg), hs_i (S.2 (x3 + (nI 1)).toNatClampNeg), hs_r 12 0, hs_i q231.1]) (h' := q231.2) (fun n w => w) (hs_inb_iff.mp c234) ?_
      obtain ⟨q235, eq235, e⟩ := hs_bind_some e
      try dsimp only at e
      refine hs_wc 1 (y := 230) (a := [hs_r 12 0, hs_i (S.2 (x3 + (nI 1)).toNatClampNeg), hs_i (S.2 (x3 + (nI 2)).toNatClampNeg), hs_i (S.2 (x3 + (nI 3)).toNatClampNeg)]) (v := some (hs_i q235.1)) (pc' := 1174) (ls' := [hs_r 65 0, hs_r 11 0, hs_r 12 0, hs_i x3]) (st' := [hs_i q231.1]) (h' := q231.2) (h2 := q235.2) (fun n w => w) (fun q => hc_230 (by omega) eq235 q) ?_
      refine hs_wb 1 (c := q231.1 = q235.1) (t := 1400) (f := 1177) (ls' := [hs_r 65 0, hs_r 11 0, hs_r 12 0, hs_i x3]) (st' := []) (h' := q235.2) (fun n w => w) (fun b236 => ?_) (fun b236 => ?_)
      · rw [if_pos b236] at e
        exact hw_999_1400 hd hk18 e q
      · rw [if_neg b236] at e
        obtain rfl := Option.some.inj e
        exact hs_wra 2 (c := nI 0 = 0 ∨ nI 0 = 1) (v := some (hs_i (nI 0))) (h' := q235.2) (fun n w => w) (by decide) q
    rw [if_neg b227] at e
    refine hs_ws2 (fun b237 => ?_) (fun b237 => ?_)
    · rw [if_pos b237] at e
      obtain ⟨c238, e⟩ := hs_ck_some e
      refine hs_wa 6 (c := vp_in (x3 + (nI 1)) S.1) (pc' := 1185) (ls' := [hs_r 65 0, hs_r 11 0, hs_r 12 0, hs_i x3]) (st' := [hs_i (S.2 (x3 + (nI 1)).toNatClampNeg), hs_r 11 0]) (h' := h) (fun n w => w) (hs_inb_iff.mp c238) ?_
      obtain ⟨q239, eq239, e⟩ := hs_bind_some e
      try dsimp only at e
      refine hs_wc 1 (y := 137) (a := [hs_r 11 0, hs_i (S.2 (x3 + (nI 1)).toNatClampNeg)]) (v := some (hs_i q239.1)) (pc' := 1188) (ls' := [hs_r 65 0, hs_r 11 0, hs_r 12 0, hs_i x3]) (st' := []) (h' := h) (h2 := q239.2) (fun n w => w) (fun q => hc_137 (by omega) eq239 q) ?_
      obtain ⟨c240, e⟩ := hs_ck_some e
      refine hs_wa 6 (c := vp_in (x3 + (nI 1)) S.1) (pc' := 1194) (ls' := [hs_r 65 0, hs_r 11 0, hs_r 12 0, hs_i x3]) (st' := [hs_i (S.2 (x3 + (nI 1)).toNatClampNeg), hs_r 12 0, hs_i q239.1]) (h' := q239.2) (fun n w => w) (hs_inb_iff.mp c240) ?_
      obtain ⟨q241, eq241, e⟩ := hs_bind_some e
      try dsimp only at e
      refine hs_wc 1 (y := 232) (a := [hs_r 12 0, hs_i (S.2 (x3 + (nI 1)).toNatClampNeg)]) (v := some (hs_i q241.1)) (pc' := 1197) (ls' := [hs_r 65 0, hs_r 11 0, hs_r 12 0, hs_i x3]) (st' := [hs_i q239.1]) (h' := q239.2) (h2 := q241.2) (fun n w => w) (fun q => hc_232 (by omega) eq241 q) ?_
      refine hs_wb 1 (c := q239.1 = q241.1) (t := 1400) (f := 1200) (ls' := [hs_r 65 0, hs_r 11 0, hs_r 12 0, hs_i x3]) (st' := []) (h' := q241.2) (fun n w => w) (fun b242 => ?_) (fun b242 => ?_)
      · rw [if_pos b242] at e
        exact hw_999_1400 hd hk18 e q
      · rw [if_neg b242] at e
        obtain rfl := Option.some.inj e
        exact hs_wra 2 (c := nI 0 = 0 ∨ nI 0 = 1) (v := some (hs_i (nI 0))) (h' := q241.2) (fun n w => w) (by decide) q
    rw [if_neg b237] at e
    refine hs_ws2 (fun b243 => ?_) (fun b243 => ?_)
    · rw [if_pos b243] at e
      obtain ⟨c244, e⟩ := hs_ck_some e
      refine hs_wa 6 (c := vp_in (x3 + (nI 1)) S.1) (pc' := 1208) (ls' := [hs_r 65 0, hs_r 11 0, hs_r 12 0, hs_i x3]) (st' := [hs_i (S.2 (x3 + (nI 1)).toNatClampNeg), hs_r 11 0]) (h' := h) (fun n w => w) (hs_inb_iff.mp c244) ?_
      obtain ⟨q245, eq245, e⟩ := hs_bind_some e
      try dsimp only at e
      refine hs_wc 1 (y := 138) (a := [hs_r 11 0, hs_i (S.2 (x3 + (nI 1)).toNatClampNeg)]) (v := some (hs_i q245.1)) (pc' := 1211) (ls' := [hs_r 65 0, hs_r 11 0, hs_r 12 0, hs_i x3]) (st' := []) (h' := h) (h2 := q245.2) (fun n w => w) (fun q => hc_138 (by omega) eq245 q) ?_
      obtain ⟨c246, e⟩ := hs_ck_some e
      refine hs_wa 6 (c := vp_in (x3 + (nI 1)) S.1) (pc' := 1217) (ls' := [hs_r 65 0, hs_r 11 0, hs_r 12 0, hs_i x3]) (st' := [hs_i (S.2 (x3 + (nI 1)).toNatClampNeg), hs_r 12 0, hs_i q245.1]) (h' := q245.2) (fun n w => w) (hs_inb_iff.mp c246) ?_
      obtain ⟨q247, eq247, e⟩ := hs_bind_some e
      try dsimp only at e
      refine hs_wc 1 (y := 233) (a := [hs_r 12 0, hs_i (S.2 (x3 + (nI 1)).toNatClampNeg)]) (v := some (hs_i q247.1)) (pc' := 1220) (ls' := [hs_r 65 0, hs_r 11 0, hs_r 12 0, hs_i x3]) (st' := [hs_i q245.1]) (h' := q245.2) (h2 := q247.2) (fun n w => w) (fun q => hc_233 (by omega) eq247 q) ?_
      refine hs_wb 1 (c := q245.1 = q247.1) (t := 1400) (f := 1223) (ls' := [hs_r 65 0, hs_r 11 0, hs_r 12 0, hs_i x3]) (st' := []) (h' := q247.2) (fun n w => w) (fun b248 => ?_) (fun b248 => ?_)
      · rw [if_pos b248] at e
        exact hw_999_1400 hd hk18 e q
      · rw [if_neg b248] at e
        obtain rfl := Option.some.inj e
        exact hs_wra 2 (c := nI 0 = 0 ∨ nI 0 = 1) (v := some (hs_i (nI 0))) (h' := q247.2) (fun n w => w) (by decide) q
    rw [if_neg b243] at e
    refine hs_ws2 (fun b249 => ?_) (fun b249 => ?_)
    · rw [if_pos b249] at e
      obtain ⟨c250, e⟩ := hs_ck_some e
      refine hs_wa 6 (c := vp_in (x3 + (nI 1)) S.1) (pc' := 1231) (ls' := [hs_r 65 0, hs_r 11 0, hs_r 12 0, hs_i x3]) (st' := [hs_i (S.2 (x3 + (nI 1)).toNatClampNeg), hs_r 11 0]) (h' := h) (fun n w => w) (hs_inb_iff.mp c250) ?_
      obtain ⟨c251, e⟩ := hs_ck_some e
      refine hs_wa 5 (c := vp_in (x3 + (nI 2)) S.1) (pc' := 1236) (ls' := [hs_r 65 0, hs_r 11 0, hs_r 12 0, hs_i x3]) (st' := [hs_i (S.2 (x3 + (nI 2)).toNatClampNeg), hs_i (S.2 (x3 + (nI 1)).toNatClampNeg), hs_r 11 0]) (h' := h) (fun n w => w) (hs_inb_iff.mp c251) ?_
      obtain ⟨c252, e⟩ := hs_ck_some e
      refine hs_wa 5 (c := vp_in (x3 + (nI 3)) S.1) (pc' := 1241) (ls' := [hs_r 65 0, hs_r 11 0, hs_r 12 0, hs_i x3]) (st' := [hs_i (S.2 (x3 + (nI 3)).toNatClampNeg), hs_i (S.2 (x3 + (nI 2)).toNatClampNeg), hs_i (S.2 (x3 + (nI 1)).toNatClampNeg), hs_r 11 0]) (h' := h) (fun n w => w) (hs_inb_iff.mp c252) ?_
      obtain ⟨q253, eq253, e⟩ := hs_bind_some e
      try dsimp only at e
      refine hs_wc 1 (y := 139) (a := [hs_r 11 0, hs_i (S.2 (x3 + (nI 1)).toNatClampNeg), hs_i (S.2 (x3 + (nI 2)).toNatClampNeg), hs_i (S.2 (x3 + (nI 3)).toNatClampNeg)]) (v := some (hs_i q253.1)) (pc' := 1244) (ls' := [hs_r 65 0, hs_r 11 0, hs_r 12 0, hs_i x3]) (st' := []) (h' := h) (h2 := q253.2) (fun n w => w) (fun q => hc_139 (by omega) eq253 q) ?_
      obtain ⟨c254, e⟩ := hs_ck_some e
      refine hs_wa 6 (c := vp_in (x3 + (nI 1)) S.1) (pc' := 1250) (ls' := [hs_r 65 0, hs_r 11 0, hs_r 12 0, hs_i x3]) (st' := [hs_i (S.2 (x3 + (nI 1)).toNatClampNeg), hs_r 12 0, hs_i q253.1]) (h' := q253.2) (fun n w => w) (hs_inb_iff.mp c254) ?_
      obtain ⟨c255, e⟩ := hs_ck_some e
      refine hs_wa 5 (c := vp_in (x3 + (nI 2)) S.1) (pc' := 1255) (ls' := [hs_r 65 0, hs_r 11 0, hs_r 12 0, hs_i x3]) (st' := [hs_i (S.2 (x3 + (nI 2)).toNatClampNeg), hs_i (S.2 (x3 + (nI 1)).toNatClampNeg), hs_r 12 0, hs_i q253.1]) (h' := q253.2) (fun n w => w) (hs_inb_iff.mp c255) ?_
      obtain ⟨c256, e⟩ := hs_ck_some e
      refine hs_wa 5 (c := vp_in (x3 + (nI 3)) S.1) (pc' := 1260) (ls' := [hs_r 65 0, hs_r 11 0, hs_r 12 0, hs_i x3]) (st' := [hs_i (S.2 (x3 + (nI 3)).toNatClampNeg), hs_i (S.2 (x3 + (nI 2)).toNatClampNeg), hs_i (S.2 (x3 + (nI 1)).toNatClampNeg), hs_r 12 0, hs_i q253.1]) (h' := q253.2) (fun n w => w) (hs_inb_iff.mp c256) ?_
      obtain ⟨q257, eq257, e⟩ := hs_bind_some e
      try dsimp only at e
      refine hs_wc 1 (y := 235) (a := [hs_r 12 0, hs_i (S.2 (x3 + (nI 1)).toNatClampNeg), hs_i (S.2 (x3 + (nI 2)).toNatClampNeg), hs_i (S.2 (x3 + (nI 3)).toNatClampNeg)]) (v := some (hs_i q257.1)) (pc' := 1263) (ls' := [hs_r 65 0, hs_r 11 0, hs_r 12 0, hs_i x3]) (st' := [hs_i q253.1]) (h' := q253.2) (h2 := q257.2) (fun n w => w) (fun q => hc_235 (by omega) eq257 q) ?_
      refine hs_wb 1 (c := q253.1 = q257.1) (t := 1400) (f := 1266) (ls' := [hs_r 65 0, hs_r 11 0, hs_r 12 0, hs_i x3]) (st' := []) (h' := q257.2) (fun n w => w) (fun b258 => ?_) (fun b258 => ?_)
      · rw [if_pos b258] at e
        exact hw_999_1400 hd hk18 e q
      · rw [if_neg b258] at e
        obtain rfl := Option.some.inj e
        exact hs_wra 2 (c := nI 0 = 0 ∨ nI 0 = 1) (v := some (hs_i (nI 0))) (h' := q257.2) (fun n w => w) (by decide) q
    rw [if_neg b249] at e
    refine hs_ws2 (fun b259 => ?_) (fun b259 => ?_)
    · rw [if_pos b259] at e
      obtain ⟨c260, e⟩ := hs_ck_some e
      refine hs_wa 6 (c := vp_in (x3 + (nI 1)) S.1) (pc' := 1274) (ls' := [hs_r 65 0, hs_r 11 0, hs_r 12 0, hs_i x3]) (st' := [hs_i (S.2 (x3 + (nI 1)).toNatClampNeg), hs_r 11 0]) (h' := h) (fun n w => w) (hs_inb_iff.mp c260) ?_
      obtain ⟨c261, e⟩ := hs_ck_some e
      refine hs_wa 5 (c := vp_in (x3 + (nI 2)) S.1) (pc' := 1279) (ls' := [hs_r 65 0, hs_r 11 0, hs_r 12 0, hs_i x3]) (st' := [hs_i (S.2 (x3 + (nI 2)).toNatClampNeg), hs_i (S.2 (x3 + (nI 1)).toNatClampNeg), hs_r 11 0]) (h' := h) (fun n w => w) (hs_inb_iff.mp c261) ?_
      obtain ⟨c262, e⟩ := hs_ck_some e
      refine hs_wa 5 (c := vp_in (x3 + (nI 3)) S.1) (pc' := 1284) (ls' := [hs_r 65 0, hs_r 11 0, hs_r 12 0, hs_i x3]) (st' := [hs_i (S.2 (x3 + (nI 3)).toNatClampNeg), hs_i (S.2 (x3 + (nI 2)).toNatClampNeg), hs_i (S.2 (x3 + (nI 1)).toNatClampNeg), hs_r 11 0]) (h' := h) (fun n w => w) (hs_inb_iff.mp c262) ?_
      obtain ⟨q263, eq263, e⟩ := hs_bind_some e
      try dsimp only at e
      refine hs_wc 1 (y := 140) (a := [hs_r 11 0, hs_i (S.2 (x3 + (nI 1)).toNatClampNeg), hs_i (S.2 (x3 + (nI 2)).toNatClampNeg), hs_i (S.2 (x3 + (nI 3)).toNatClampNeg)]) (v := some (hs_i q263.1)) (pc' := 1287) (ls' := [hs_r 65 0, hs_r 11 0, hs_r 12 0, hs_i x3]) (st' := []) (h' := h) (h2 := q263.2) (fun n w => w) (fun q => hc_140 (by omega) eq263 q) ?_
      obtain ⟨c264, e⟩ := hs_ck_some e
      refine hs_wa 6 (c := vp_in (x3 + (nI 1)) S.1) (pc' := 1293) (ls' := [hs_r 65 0, hs_r 11 0, hs_r 12 0, hs_i x3]) (st' := [hs_i (S.2 (x3 + (nI 1)).toNatClampNeg), hs_r 12 0, hs_i q263.1]) (h' := q263.2) (fun n w => w) (hs_inb_iff.mp c264) ?_
      obtain ⟨c265, e⟩ := hs_ck_some e
      refine hs_wa 5 (c := vp_in (x3 + (nI 2)) S.1) (pc' := 1298) (ls' := [hs_r 65 0, hs_r 11 0, hs_r 12 0, hs_i x3]) (st' := [hs_i (S.2 (x3 + (nI 2)).toNatClampNeg), hs_i (S.2 (x3 + (nI 1)).toNatClampNeg), hs_r 12 0, hs_i q263.1]) (h' := q263.2) (fun n w => w) (hs_inb_iff.mp c265) ?_
      obtain ⟨c266, e⟩ := hs_ck_some e
      refine hs_wa 5 (c := vp_in (x3 + (nI 3)) S.1) (pc' := 1303) (ls' := [hs_r 65 0, hs_r 11 0, hs_r 12 0, hs_i x3]) (st' := [hs_i (S.2 (x3 + (nI 3)).toNatClampNeg), hs_i (S.2 (x3 + (nI 2)).toNatClampNeg), hs_i (S.2 (x3 + (nI 1)).toNatClampNeg), hs_r 12 0, hs_i q263.1]) (h' := q263.2) (fun n w => w) (hs_inb_iff.mp c266) ?_
      obtain ⟨q267, eq267, e⟩ := hs_bind_some e
      try dsimp only at e
      refine hs_wc 1 (y := 236) (a := [hs_r 12 0, hs_i (S.2 (x3 + (nI 1)).toNatClampNeg), hs_i (S.2 (x3 + (nI 2)).toNatClampNeg), hs_i (S.2 (x3 + (nI 3)).toNatClampNeg)]) (v := some (hs_i q267.1)) (pc' := 1306) (ls' := [hs_r 65 0, hs_r 11 0, hs_r 12 0, hs_i x3]) (st' := [hs_i q263.1]) (h' := q263.2) (h2 := q267.2) (fun n w => w) (fun q => hc_236 (by omega) eq267 q) ?_
      refine hs_wb 1 (c := q263.1 = q267.1) (t := 1400) (f := 1309) (ls' := [hs_r 65 0, hs_r 11 0, hs_r 12 0, hs_i x3]) (st' := []) (h' := q267.2) (fun n w => w) (fun b268 => ?_) (fun b268 => ?_)
      · rw [if_pos b268] at e
        exact hw_999_1400 hd hk18 e q
      · rw [if_neg b268] at e
        obtain rfl := Option.some.inj e
        exact hs_wra 2 (c := nI 0 = 0 ∨ nI 0 = 1) (v := some (hs_i (nI 0))) (h' := q267.2) (fun n w => w) (by decide) q
    rw [if_neg b259] at e
    refine hs_ws2 (fun b269 => ?_) (fun b269 => ?_)
    · rw [if_pos b269] at e
      obtain ⟨c270, e⟩ := hs_ck_some e
      refine hs_wa 6 (c := vp_in (x3 + (nI 1)) S.1) (pc' := 1317) (ls' := [hs_r 65 0, hs_r 11 0, hs_r 12 0, hs_i x3]) (st' := [hs_i (S.2 (x3 + (nI 1)).toNatClampNeg), hs_r 11 0]) (h' := h) (fun n w => w) (hs_inb_iff.mp c270) ?_
      obtain ⟨c271, e⟩ := hs_ck_some e
      refine hs_wa 5 (c := vp_in (x3 + (nI 2)) S.1) (pc' := 1322) (ls' := [hs_r 65 0, hs_r 11 0, hs_r 12 0, hs_i x3]) (st' := [hs_i (S.2 (x3 + (nI 2)).toNatClampNeg), hs_i (S.2 (x3 + (nI 1)).toNatClampNeg), hs_r 11 0]) (h' := h) (fun n w => w) (hs_inb_iff.mp c271) ?_
      obtain ⟨c272, e⟩ := hs_ck_some e
      refine hs_wa 5 (c := vp_in (x3 + (nI 3)) S.1) (pc' := 1327) (ls' := [hs_r 65 0, hs_r 11 0, hs_r 12 0, hs_i x3]) (st' := [hs_i (S.2 (x3 + (nI 3)).toNatClampNeg), hs_i (S.2 (x3 + (nI 2)).toNatClampNeg), hs_i (S.2 (x3 + (nI 1)).toNatClampNeg), hs_r 11 0]) (h' := h) (fun n w => w) (hs_inb_iff.mp c272) ?_
      obtain ⟨c273, e⟩ := hs_ck_some e
      refine hs_wa 5 (c := vp_in (x3 + (nI 4)) S.1) (pc' := 1332) (ls' := [hs_r 65 0, hs_r 11 0, hs_r 12 0, hs_i x3]) (st' := [hs_i (S.2 (x3 + (nI 4)).toNatClampNeg), hs_i (S.2 (x3 + (nI 3)).toNatClampNeg), hs_i (S.2 (x3 + (nI 2)).toNatClampNeg), hs_i (S.2 (x3 + (nI 1)).toNatClampNeg), hs_r 11 0]) (h' := h) (fun n w => w) (hs_inb_iff.mp c273) ?_
      obtain ⟨q274, eq274, e⟩ := hs_bind_some e
      try dsimp only at e
      refine hs_wc 1 (y := 141) (a := [hs_r 11 0, hs_i (S.2 (x3 + (nI 1)).toNatClampNeg), hs_i (S.2 (x3 + (nI 2)).toNatClampNeg), hs_i (S.2 (x3 + (nI 3)).toNatClampNeg), hs_i (S.2 (x3 + (nI 4)).toNatClampNeg)]) (v := some (hs_i q274.1)) (pc' := 1335) (ls' := [hs_r 65 0, hs_r 11 0, hs_r 12 0, hs_i x3]) (st' := []) (h' := h) (h2 := q274.2) (fun n w => w) (fun q => hc_141 (by omega) eq274 q) ?_
      obtain ⟨c275, e⟩ := hs_ck_some e
      refine hs_wa 6 (c := vp_in (x3 + (nI 1)) S.1) (pc' := 1341) (ls' := [hs_r 65 0, hs_r 11 0, hs_r 12 0, hs_i x3]) (st' := [hs_i (S.2 (x3 + (nI 1)).toNatClampNeg), hs_r 12 0, hs_i q274.1]) (h' := q274.2) (fun n w => w) (hs_inb_iff.mp c275) ?_
      obtain ⟨c276, e⟩ := hs_ck_some e
      refine hs_wa 5 (c := vp_in (x3 + (nI 2)) S.1) (pc' := 1346) (ls' := [hs_r 65 0, hs_r 11 0, hs_r 12 0, hs_i x3]) (st' := [hs_i (S.2 (x3 + (nI 2)).toNatClampNeg), hs_i (S.2 (x3 + (nI 1)).toNatClampNeg), hs_r 12 0, hs_i q274.1]) (h' := q274.2) (fun n w => w) (hs_inb_iff.mp c276) ?_
      obtain ⟨c277, e⟩ := hs_ck_some e
      refine hs_wa 5 (c := vp_in (x3 + (nI 3)) S.1) (pc' := 1351) (ls' := [hs_r 65 0, hs_r 11 0, hs_r 12 0, hs_i x3]) (st' := [hs_i (S.2 (x3 + (nI 3)).toNatClampNeg), hs_i (S.2 (x3 + (nI 2)).toNatClampNeg), hs_i (S.2 (x3 + (nI 1)).toNatClampNeg), hs_r 12 0, hs_i q274.1]) (h' := q274.2) (fun n w => w) (hs_inb_iff.mp c277) ?_
      obtain ⟨c278, e⟩ := hs_ck_some e
      refine hs_wa 5 (c := vp_in (x3 + (nI 4)) S.1) (pc' := 1356) (ls' := [hs_r 65 0, hs_r 11 0, hs_r 12 0, hs_i x3]) (st' := [hs_i (S.2 (x3 + (nI 4)).toNatClampNeg), hs_i (S.2 (x3 + (nI 3)).toNatClampNeg), hs_i (S.2 (x3 + (nI 2)).toNatClampNeg), hs_i (S.2 (x3 + (nI 1)).toNatClampNeg), hs_r 12 0, hs_i q274.1]) (h' := q274.2) (fun n w => w) (hs_inb_iff.mp c278) ?_
      obtain ⟨q279, eq279, e⟩ := hs_bind_some e
      try dsimp only at e
      refine hs_wc 1 (y := 237) (a := [hs_r 12 0, hs_i (S.2 (x3 + (nI 1)).toNatClampNeg), hs_i (S.2 (x3 + (nI 2)).toNatClampNeg), hs_i (S.2 (x3 + (nI 3)).toNatClampNeg), hs_i (S.2 (x3 + (nI 4)).toNatClampNeg)]) (v := some (hs_i q279.1)) (pc' := 1359) (ls' := [hs_r 65 0, hs_r 11 0, hs_r 12 0, hs_i x3]) (st' := [hs_i q274.1]) (h' := q274.2) (h2 := q279.2) (fun n w => w) (fun q => hc_237 (by omega) eq279 q) ?_
      refine hs_wb 1 (c := q274.1 = q279.1) (t := 1400) (f := 1362) (ls' := [hs_r 65 0, hs_r 11 0, hs_r 12 0, hs_i x3]) (st' := []) (h' := q279.2) (fun n w => w) (fun b280 => ?_) (fun b280 => ?_)
      · rw [if_pos b280] at e
        exact hw_999_1400 hd hk18 e q
      · rw [if_neg b280] at e
        obtain rfl := Option.some.inj e
        exact hs_wra 2 (c := nI 0 = 0 ∨ nI 0 = 1) (v := some (hs_i (nI 0))) (h' := q279.2) (fun n w => w) (by decide) q
    rw [if_neg b269] at e
    refine hs_ws2 (fun b281 => ?_) (fun b281 => ?_)
    · rw [if_pos b281] at e
      obtain ⟨q282, eq282, e⟩ := hs_bind_some e
      try dsimp only at e
      refine hs_wc 2 (y := 142) (a := [hs_r 11 0]) (v := some (hs_i q282.1)) (pc' := 1368) (ls' := [hs_r 65 0, hs_r 11 0, hs_r 12 0, hs_i x3]) (st' := []) (h' := h) (h2 := q282.2) (fun n w => w) (fun q => hc_142 (by omega) eq282 q) ?_
      obtain ⟨q283, eq283, e⟩ := hs_bind_some e
      try dsimp only at e
      refine hs_wc 2 (y := 238) (a := [hs_r 12 0]) (v := some (hs_i q283.1)) (pc' := 1372) (ls' := [hs_r 65 0, hs_r 11 0, hs_r 12 0, hs_i x3]) (st' := [hs_i q282.1]) (h' := q282.2) (h2 := q283.2) (fun n w => w) (fun q => hc_238 (by omega) eq283 q) ?_
      refine hs_wb 1 (c := q282.1 = q283.1) (t := 1400) (f := 1375) (ls' := [hs_r 65 0, hs_r 11 0, hs_r 12 0, hs_i x3]) (st' := []) (h' := q283.2) (fun n w => w) (fun b284 => ?_) (fun b284 => ?_)
      · rw [if_pos b284] at e
        exact hw_999_1400 hd hk18 e q
      · rw [if_neg b284] at e
        obtain rfl := Option.some.inj e
        exact hs_wra 2 (c := nI 0 = 0 ∨ nI 0 = 1) (v := some (hs_i (nI 0))) (h' := q283.2) (fun n w => w) (by decide) q
    rw [if_neg b281] at e
    refine hs_ws2 (fun b285 => ?_) (fun b285 => ?_)
    · rw [if_pos b285] at e
      obtain ⟨c286, e⟩ := hs_ck_some e
      refine hs_wa 6 (c := vp_in (x3 + (nI 1)) S.1) (pc' := 1383) (ls' := [hs_r 65 0, hs_r 11 0, hs_r 12 0, hs_i x3]) (st' := [hs_i (S.2 (x3 + (nI 1)).toNatClampNeg), hs_r 11 0]) (h' := h) (fun n w => w) (hs_inb_iff.mp c286) ?_
      obtain ⟨q287, eq287, e⟩ := hs_bind_some e
      try dsimp only at e
      refine hs_wc 1 (y := 143) (a := [hs_r 11 0, hs_i (S.2 (x3 + (nI 1)).toNatClampNeg)]) (v := some (hs_i q287.1)) (pc' := 1386) (ls' := [hs_r 65 0, hs_r 11 0, hs_r 12 0, hs_i x3]) (st' := []) (h' := h) (h2 := q287.2) (fun n w => w) (fun q => hc_143 (by omega) eq287 q) ?_
      obtain ⟨c288, e⟩ := hs_ck_some e
      refine hs_wa 6 (c := vp_in (x3 + (nI 1)) S.1) (pc' := 1392) (ls' := [hs_r 65 0, hs_r 11 0, hs_r 12 0, hs_i x3]) (st' := [hs_i (S.2 (x3 + (nI 1)).toNatClampNeg), hs_r 12 0, hs_i q287.1]) (h' := q287.2) (fun n w => w) (hs_inb_iff.mp c288) ?_
      obtain ⟨q289, eq289, e⟩ := hs_bind_some e
      try dsimp only at e
      refine hs_wc 1 (y := 239) (a := [hs_r 12 0, hs_i (S.2 (x3 + (nI 1)).toNatClampNeg)]) (v := some (hs_i q289.1)) (pc' := 1395) (ls' := [hs_r 65 0, hs_r 11 0, hs_r 12 0, hs_i x3]) (st' := [hs_i q287.1]) (h' := q287.2) (h2 := q289.2) (fun n w => w) (fun q => hc_239 (by omega) eq289 q) ?_
      refine hs_wb 1 (c := q287.1 = q289.1) (t := 1400) (f := 1398) (ls' := [hs_r 65 0, hs_r 11 0, hs_r 12 0, hs_i x3]) (st' := []) (h' := q289.2) (fun n w => w) (fun b290 => ?_) (fun b290 => ?_)
      · rw [if_pos b290] at e
        exact hw_999_1400 hd hk18 e q
      · rw [if_neg b290] at e
        obtain rfl := Option.some.inj e
        exact hs_wra 2 (c := nI 0 = 0 ∨ nI 0 = 1) (v := some (hs_i (nI 0))) (h' := q289.2) (fun n w => w) (by decide) q
    rw [if_neg b285] at e
    refine hs_ws3 ?_
    exact hw_999_1400 hd hk18 e q
theorem hw_999_18_lp {S : hs_S} {d : Nat} {Q : hs_Q} (hd : 17 ≤ d)    (n : Nat) {x3 : Int32} {h : hs_H} {r : Int32 × hs_H} (e : hs_lp (fun k s => hb_999_18 S k s.1 s.2) n (x3, h) = some r)  (q : Q (some (hs_i r.1)) r.2) : hs_W S d 2 hs_p999 Q 18 [hs_r 65 0, hs_r 11 0, hs_r 12 0, hs_i x3] [] h := by
  refine hs_lp_ind (P := fun (s : Int32 × hs_H) (r : Int32 × hs_H) => ∀ (_ : True), Q (some (hs_i r.1)) r.2 → hs_W S d 2 hs_p999 Q 18 [hs_r 65 0, hs_r 11 0, hs_r 12 0, hs_i s.1] [] s.2) (fun k hk s r e _ q => ?_) n (x3, h) r e trivial q
  exact hw_999_18 hd (fun x3 h r  e q => hk (x3, h) r e trivial q) e q
/-- the law from 18 on -/
def hf_law (S : hs_S) (a3 : Int32) (h : hs_H) : Option (Int32 × hs_H) := hs_lp (fun k s => hb_999_18 S k s.1 s.2) hs_big (a3, h)
set_option maxRecDepth 100000 in
set_option maxHeartbeats 4000000 in
theorem hw_law {S : hs_S} {d : Nat} {Q : hs_Q} (hd : 17 ≤ d) {a3 : Int32} {h : hs_H} {r : Int32 × hs_H} (e : hf_law S a3 h = some r) (q : Q (some (hs_i r.1)) r.2) : hs_W S d 2 hs_p999 Q 18 [hs_r 65 0, hs_r 11 0, hs_r 12 0, hs_i a3] [] h := by
  unfold hf_law at e
  exact hw_999_18_lp hd hs_big e  q
