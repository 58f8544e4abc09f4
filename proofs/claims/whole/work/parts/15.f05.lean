/-! What the methods compute, by program; and that the small machine computes it. -/
def hb_134_35    (s0 : Int32) (h : hs_H) : Option (Int32 × hs_H) := some (s0, h)
set_option maxHeartbeats 1000000 in
theorem hw_134_35 {S : hs_S} {d : Nat} {Q : hs_Q} (hd : 3 ≤ d)     {s0 : Int32} {v1 : hs_V} {v2 : hs_V} {h : hs_H} {r : Int32 × hs_H} (e : hb_134_35 s0 h = some r) (q : Q (some (hs_i r.1)) r.2) : hs_W S d 1 hs_p134 Q 35 [hs_r 11 0, v1, v2] [hs_i s0] h := by
  unfold hb_134_35 at e
  obtain rfl := Option.some.inj e
  exact hs_wr 1 (v := some (hs_i s0)) (h' := h) (fun n w => w) q
def hb_134_34     (h : hs_H) : Option (Int32 × hs_H) := hb_134_35 (nI 4294967295) h
set_option maxHeartbeats 1000000 in
theorem hw_134_34 {S : hs_S} {d : Nat} {Q : hs_Q} (hd : 3 ≤ d)      {v1 : hs_V} {v2 : hs_V} {h : hs_H} {r : Int32 × hs_H} (e : hb_134_34 h = some r) (q : Q (some (hs_i r.1)) r.2) : hs_W S d 1 hs_p134 Q 34 [hs_r 11 0, v1, v2] [] h := by
  unfold hb_134_34 at e
  refine hs_w 1 (pc' := 35) (ls' := [hs_r 11 0, v1, v2]) (st' := [hs_i (nI 4294967295)]) (h' := h) (fun n w => w) ?_
  exact hw_134_35 hd e q
/-- HuntedScent.open(II)I -/
def hf_134 (a1 : Int32) (a2 : Int32) (h : hs_H) : Option (Int32 × hs_H) := (hf_29 0 a1 h).bind (fun q1 => if q1.1 = 0 then (hb_134_34 q1.2) else ((hf_30 0 a2 q1.2).bind (fun q3 => if q3.1 = 0 then (hb_134_34 q3.2) else ((hf_44 0 a1 a2 q3.2).bind (fun q5 => hb_134_35 q5.1 q5.2)))))
set_option maxHeartbeats 1000000 in
theorem hc_134 {S : hs_S} {D : Nat} {Q : hs_Q} (hD : 4 ≤ D) {a1 : Int32} {a2 : Int32} {h : hs_H} {r : Int32 × hs_H} (e : hf_134 a1 a2 h = some r) (q : Q (some (hs_i r.1)) r.2) : hs_call hs_ms S D 134 [hs_r 11 0, hs_i a1, hs_i a2] h Q := by
  refine hs_go (R := 3) hD rfl (Nat.le_of_ble_eq_true rfl) (fun d hd => ?_)
  show hs_W S d 1 hs_p134 Q 0 [hs_r 11 0, hs_i a1, hs_i a2] [] h
  unfold hf_134 at e
  obtain ⟨q1, eq1, e⟩ := hs_bind_some e
  try dsimp only at e
  refine hs_wc 4 (y := 29) (a := [hs_r 4 0, hs_i a1]) (v := some (hs_i q1.1)) (pc' := 8) (ls' := [hs_r 11 0, hs_i a1, hs_i a2]) (st' := []) (h' := h) (h2 := q1.2) (fun n w => w) (fun q => hc_29 (by omega) eq1 q) ?_
  refine hs_wb 1 (c := q1.1 = 0) (t := 34) (f := 11) (ls' := [hs_r 11 0, hs_i a1, hs_i a2]) (st' := []) (h' := q1.2) (fun n w => w) (fun b2 => ?_) (fun b2 => ?_)
  · rw [if_pos b2] at e
    exact hw_134_34 hd e q
  · rw [if_neg b2] at e
    obtain ⟨q3, eq3, e⟩ := hs_bind_some e
    try dsimp only at e
    refine hs_wc 4 (y := 30) (a := [hs_r 4 0, hs_i a2]) (v := some (hs_i q3.1)) (pc' := 19) (ls' := [hs_r 11 0, hs_i a1, hs_i a2]) (st' := []) (h' := q1.2) (h2 := q3.2) (fun n w => w) (fun q => hc_30 (by omega) eq3 q) ?_
    refine hs_wb 1 (c := q3.1 = 0) (t := 34) (f := 22) (ls' := [hs_r 11 0, hs_i a1, hs_i a2]) (st' := []) (h' := q3.2) (fun n w => w) (fun b4 => ?_) (fun b4 => ?_)
    · rw [if_pos b4] at e
      exact hw_134_34 hd e q
    · rw [if_neg b4] at e
      obtain ⟨q5, eq5, e⟩ := hs_bind_some e
      try dsimp only at e
      refine hs_wc 5 (y := 44) (a := [hs_r 4 0, hs_i a1, hs_i a2]) (v := some (hs_i q5.1)) (pc' := 31) (ls' := [hs_r 11 0, hs_i a1, hs_i a2]) (st' := []) (h' := q3.2) (h2 := q5.2) (fun n w => w) (fun q => hc_44 (by omega) eq5 q) ?_
      refine hs_w 1 (pc' := 35) (ls' := [hs_r 11 0, hs_i a1, hs_i a2]) (st' := [hs_i q5.1]) (h' := q5.2) (fun n w => w) ?_
      exact hw_134_35 hd e q
/-- HuntedScent$Net.openWithout(IIII)I -/
def hf_45 (o : Nat) (a1 : Int32) (a2 : Int32) (a3 : Int32) (a4 : Int32) (h : hs_H) : Option (Int32 × hs_H) := (hf_34 o a1 a2 (nI 0) h).bind (fun q1 => (hf_44 o a3 a4 q1).bind (fun q2 => (hf_34 o a1 a2 (nI 1) q2.2).bind (fun q3 => some (q2.1, q3))))
set_option maxHeartbeats 1000000 in
theorem hc_45 {S : hs_S} {D : Nat} {Q : hs_Q} (hD : 4 ≤ D) {o : Nat} {a1 : Int32} {a2 : Int32} {a3 : Int32} {a4 : Int32} {h : hs_H} {r : Int32 × hs_H} (e : hf_45 o a1 a2 a3 a4 h = some r) (q : Q (some (hs_i r.1)) r.2) : hs_call hs_ms S D 45 [hs_r 4 o, hs_i a1, hs_i a2, hs_i a3, hs_i a4] h Q := by
  refine hs_go (R := 3) hD rfl (Nat.le_of_ble_eq_true rfl) (fun d hd => ?_)
  show hs_W S d 1 hs_p45 Q 0 [hs_r 4 o, hs_i a1, hs_i a2, hs_i a3, hs_i a4, hs_u] [] h
  unfold hf_45 at e
  obtain ⟨q1, eq1, e⟩ := hs_bind_some e
  try dsimp only at e
  refine hs_wc 5 (y := 34) (a := [hs_r 4 o, hs_i a1, hs_i a2, hs_i (nI 0)]) (v := none) (pc' := 7) (ls' := [hs_r 4 o, hs_i a1, hs_i a2, hs_i a3, hs_i a4, hs_u]) (st' := []) (h' := h) (h2 := q1) (fun n w => w) (fun q => hc_34 (by omega) eq1 q) ?_
  obtain ⟨q2, eq2, e⟩ := hs_bind_some e
  try dsimp only at e
  refine hs_wc 4 (y := 44) (a := [hs_r 4 o, hs_i a3, hs_i a4]) (v := some (hs_i q2.1)) (pc' := 14) (ls' := [hs_r 4 o, hs_i a1, hs_i a2, hs_i a3, hs_i a4, hs_u]) (st' := []) (h' := q1) (h2 := q2.2) (fun n w => w) (fun q => hc_44 (by omega) eq2 q) ?_
  obtain ⟨q3, eq3, e⟩ := hs_bind_some e
  try dsimp only at e
  refine hs_wc 6 (y := 34) (a := [hs_r 4 o, hs_i a1, hs_i a2, hs_i (nI 1)]) (v := none) (pc' := 23) (ls' := [hs_r 4 o, hs_i a1, hs_i a2, hs_i a3, hs_i a4, hs_i q2.1]) (st' := []) (h' := q2.2) (h2 := q3) (fun n w => w) (fun q => hc_34 (by omega) eq3 q) ?_
  obtain rfl := Option.some.inj e
  exact hs_wr 2 (v := some (hs_i q2.1)) (h' := q3) (fun n w => w) q
def hb_135_31     (h : hs_H) : Option (Int32 × hs_H) := some (nI 4294967295, h)
set_option maxHeartbeats 1000000 in
theorem hw_135_31 {S : hs_S} {d : Nat} {Q : hs_Q} (hd : 4 ≤ d)      {v1 : hs_V} {v2 : hs_V} {v3 : hs_V} {v4 : hs_V} {v5 : hs_V} {v6 : hs_V} {v7 : hs_V} {v8 : hs_V} {h : hs_H} {r : Int32 × hs_H} (e : hb_135_31 h = some r) (q : Q (some (hs_i r.1)) r.2) : hs_W S d 1 hs_p135 Q 31 [hs_r 11 0, v1, v2, v3, v4, v5, v6, v7, v8] [] h := by
  unfold hb_135_31 at e
  obtain rfl := Option.some.inj e
  exact hs_wr 2 (v := some (hs_i (nI 4294967295))) (h' := h) (fun n w => w) q
def hb_135_166    (s0 : Int32) (h : hs_H) : Option (Int32 × hs_H) := some (s0, h)
set_option maxHeartbeats 1000000 in
theorem hw_135_166 {S : hs_S} {d : Nat} {Q : hs_Q} (hd : 4 ≤ d)     {s0 : Int32} {v1 : hs_V} {v2 : hs_V} {v3 : hs_V} {v4 : hs_V} {v5 : hs_V} {v6 : hs_V} {v7 : hs_V} {v8 : hs_V} {h : hs_H} {r : Int32 × hs_H} (e : hb_135_166 s0 h = some r) (q : Q (some (hs_i r.1)) r.2) : hs_W S d 1 hs_p135 Q 166 [hs_r 11 0, v1, v2, v3, v4, v5, v6, v7, v8] [hs_i s0] h := by
  unfold hb_135_166 at e
  obtain rfl := Option.some.inj e
  exact hs_wr 1 (v := some (hs_i s0)) (h' := h) (fun n w => w) q
def hb_135_159   (x4 : Int32)  (h : hs_H) : Option (Int32 × hs_H) := hb_135_166 x4 h
set_option maxHeartbeats 1000000 in
theorem hw_135_159 {S : hs_S} {d : Nat} {Q : hs_Q} (hd : 4 ≤ d)    {x4 : Int32}  {v1 : hs_V} {v2 : hs_V} {v3 : hs_V} {v5 : hs_V} {v6 : hs_V} {v7 : hs_V} {v8 : hs_V} {h : hs_H} {r : Int32 × hs_H} (e : hb_135_159 x4 h = some r) (q : Q (some (hs_i r.1)) r.2) : hs_W S d 1 hs_p135 Q 159 [hs_r 11 0, v1, v2, v3, hs_i x4, v5, v6, v7, v8] [] h := by
  unfold hb_135_159 at e
  refine hs_w 2 (pc' := 166) (ls' := [hs_r 11 0, v1, v2, v3, hs_i x4, v5, v6, v7, v8]) (st' := [hs_i x4]) (h' := h) (fun n w => w) ?_
  exact hw_135_166 hd e q
def hb_135_136  (k54 : Int32 × Int32 × Int32 × Int32 × Int32 × Int32 × hs_H → Option (Int32 × hs_H)) (k72 : Int32 × Int32 × Int32 × Int32 × Int32 × Int32 × Int32 × hs_H → Option (Int32 × hs_H)) (x1 : Int32) (x2 : Int32) (x3 : Int32) (x4 : Int32) (x5 : Int32) (x6 : Int32) (x7 : Int32)  (h : hs_H) : Option (Int32 × hs_H) := k72 (x1, x2, x3, x4, x5, x6, x7 + nI 1, h)
set_option maxHeartbeats 1000000 in
theorem hw_135_136 {S : hs_S} {d : Nat} {Q : hs_Q} (hd : 4 ≤ d)  {k54 : Int32 × Int32 × Int32 × Int32 × Int32 × Int32 × hs_H → Option (Int32 × hs_H)} {k72 : Int32 × Int32 × Int32 × Int32 × Int32 × Int32 × Int32 × hs_H → Option (Int32 × hs_H)} (hk54 : ∀ (x1 : Int32) (x2 : Int32) (x3 : Int32) (x4 : Int32) (x5 : Int32) (x6 : Int32) (h : hs_H) (r : Int32 × hs_H) (v7 : hs_V) (v8 : hs_V), k54 (x1, x2, x3, x4, x5, x6, h) = some r → Q (some (hs_i r.1)) r.2 → hs_W S d 1 hs_p135 Q 54 [hs_r 11 0, hs_i x1, hs_i x2, hs_i x3, hs_i x4, hs_i x5, hs_i x6, v7, v8] [] h) (hk72 : ∀ (x1 : Int32) (x2 : Int32) (x3 : Int32) (x4 : Int32) (x5 : Int32) (x6 : Int32) (x7 : Int32) (h : hs_H) (r : Int32 × hs_H) (v8 : hs_V), k72 (x1, x2, x3, x4, x5, x6, x7, h) = some r → Q (some (hs_i r.1)) r.2 → hs_W S d 1 hs_p135 Q 72 [hs_r 11 0, hs_i x1, hs_i x2, hs_i x3, hs_i x4, hs_i x5, hs_i x6, hs_i x7, v8] [] h) {x1 : Int32} {x2 : Int32} {x3 : Int32} {x4 : Int32} {x5 : Int32} {x6 : Int32} {x7 : Int32}  {v8 : hs_V} {h : hs_H} {r : Int32 × hs_H} (e : hb_135_136 k54 k72 x1 x2 x3 x4 x5 x6 x7 h = some r) (q : Q (some (hs_i r.1)) r.2) : hs_W S d 1 hs_p135 Q 136 [hs_r 11 0, hs_i x1, hs_i x2, hs_i x3, hs_i x4, hs_i x5, hs_i x6, hs_i x7, v8] [] h := by
  unfold hb_135_136 at e
  refine hs_w 2 (pc' := 72) (ls' := [hs_r 11 0, hs_i x1, hs_i x2, hs_i x3, hs_i x4, hs_i x5, hs_i x6, hs_i (x7 + nI 1), v8]) (st' := []) (h' := h) (fun n w => w) ?_
  exact hk72 _ _ _ _ _ _ _ _ _ _ e q
def hb_135_72  (k54 : Int32 × Int32 × Int32 × Int32 × Int32 × Int32 × hs_H → Option (Int32 × hs_H)) (k72 : Int32 × Int32 × Int32 × Int32 × Int32 × Int32 × Int32 × hs_H → Option (Int32 × hs_H)) (x1 : Int32) (x2 : Int32) (x3 : Int32) (x4 : Int32) (x5 : Int32) (x6 : Int32) (x7 : Int32)  (h : hs_H) : Option (Int32 × hs_H) := if (h.1 4 0 1) ≤ x7 then (k54 (x1, x2, x3, x4, x5, x6 + nI 1, h)) else ((hf_33 0 x6 x7 h).bind (fun q13 => if q13.1 = 0 then (hb_135_136 k54 k72 x1 x2 x3 x4 x5 x6 x7 q13.2) else ((hf_45 0 x6 x7 x1 x2 q13.2).bind (fun q15 => (hf_240 q15.1 q15.2).bind (fun q16 => if x5 ≤ q16.1 then (hb_135_136 k54 k72 x1 x2 x3 x4 x5 x6 x7 q16.2) else ((hf_149 x6 x7 q16.2).bind (fun q18 => hb_135_136 k54 k72 x1 x2 x3 q18.1 q16.1 x6 x7 q18.2)))))))
set_option maxHeartbeats 1000000 in
theorem hw_135_72 {S : hs_S} {d : Nat} {Q : hs_Q} (hd : 4 ≤ d)  {k54 : Int32 × Int32 × Int32 × Int32 × Int32 × Int32 × hs_H → Option (Int32 × hs_H)} {k72 : Int32 × Int32 × Int32 × Int32 × Int32 × Int32 × Int32 × hs_H → Option (Int32 × hs_H)} (hk54 : ∀ (x1 : Int32) (x2 : Int32) (x3 : Int32) (x4 : Int32) (x5 : Int32) (x6 : Int32) (h : hs_H) (r : Int32 × hs_H) (v7 : hs_V) (v8 : hs_V), k54 (x1, x2, x3, x4, x5, x6, h) = some r → Q (some (hs_i r.1)) r.2 → hs_W S d 1 hs_p135 Q 54 [hs_r 11 0, hs_i x1, hs_i x2, hs_i x3, hs_i x4, hs_i x5, hs_i x6, v7, v8] [] h) (hk72 : ∀ (x1 : Int32) (x2 : Int32) (x3 : Int32) (x4 : Int32) (x5 : Int32) (x6 : Int32) (x7 : Int32) (h : hs_H) (r : Int32 × hs_H) (v8 : hs_V), k72 (x1, x2, x3, x4, x5, x6, x7, h) = some r → Q (some (hs_i r.1)) r.2 → hs_W S d 1 hs_p135 Q 72 [hs_r 11 0, hs_i x1, hs_i x2, hs_i x3, hs_i x4, hs_i x5, hs_i x6, hs_i x7, v8] [] h) {x1 : Int32} {x2 : Int32} {x3 : Int32} {x4 : Int32} {x5 : Int32} {x6 : Int32} {x7 : Int32}  {v8 : hs_V} {h : hs_H} {r : Int32 × hs_H} (e : hb_135_72 k54 k72 x1 x2 x3 x4 x5 x6 x7 h = some r) (q : Q (some (hs_i r.1)) r.2) : hs_W S d 1 hs_p135 Q 72 [hs_r 11 0, hs_i x1, hs_i x2, hs_i x3, hs_i x4, hs_i x5, hs_i x6, hs_i x7, v8] [] h := by
  unfold hb_135_72 at e
  refine hs_wb 5 (c := (h.1 4 0 1) ≤ x7) (t := 142) (f := 84) (ls' := [hs_r 11 0, hs_i x1, hs_i x2, hs_i x3, hs_i x4, hs_i x5, hs_i x6, hs_i x7, v8]) (st' := []) (h' := h) (fun n w => w) (fun b12 => ?_) (fun b12 => ?_)
  · rw [if_pos b12] at e
    refine hs_w 2 (pc' := 54) (ls' := [hs_r 11 0, hs_i x1, hs_i x2, hs_i x3, hs_i x4, hs_i x5, hs_i (x6 + nI 1), hs_i x7, v8]) (st' := []) (h' := h) (fun n w => w) ?_
    exact hk54 _ _ _ _ _ _ _ _ _ _ e q
  · rw [if_neg b12] at e
    obtain ⟨q13, eq13, e⟩ := hs_bind_some e
    try dsimp only at e
    refine hs_wc 5 (y := 33) (a := [hs_r 4 0, hs_i x6, hs_i x7]) (v := some (hs_i q13.1)) (pc' := 95) (ls' := [hs_r 11 0, hs_i x1, hs_i x2, hs_i x3, hs_i x4, hs_i x5, hs_i x6, hs_i x7, v8]) (st' := []) (h' := h) (h2 := q13.2) (fun n w => w) (fun q => hc_33 (by omega) eq13 q) ?_
    refine hs_wb 1 (c := q13.1 = 0) (t := 136) (f := 98) (ls' := [hs_r 11 0, hs_i x1, hs_i x2, hs_i x3, hs_i x4, hs_i x5, hs_i x6, hs_i x7, v8]) (st' := []) (h' := q13.2) (fun n w => w) (fun b14 => ?_) (fun b14 => ?_)
    · rw [if_pos b14] at e
      exact hw_135_136 hd hk54 hk72 e q
    · rw [if_neg b14] at e
      obtain ⟨q15, eq15, e⟩ := hs_bind_some e
      try dsimp only at e
      refine hs_wc 7 (y := 45) (a := [hs_r 4 0, hs_i x6, hs_i x7, hs_i x1, hs_i x2]) (v := some (hs_i q15.1)) (pc' := 111) (ls' := [hs_r 11 0, hs_i x1, hs_i x2, hs_i x3, hs_i x4, hs_i x5, hs_i x6, hs_i x7, v8]) (st' := []) (h' := q13.2) (h2 := q15.2) (fun n w => w) (fun q => hc_45 (by omega) eq15 q) ?_
      obtain ⟨q16, eq16, e⟩ := hs_bind_some e
      try dsimp only at e
      refine hs_wc 1 (y := 240) (a := [hs_i q15.1]) (v := some (hs_i q16.1)) (pc' := 114) (ls' := [hs_r 11 0, hs_i x1, hs_i x2, hs_i x3, hs_i x4, hs_i x5, hs_i x6, hs_i x7, v8]) (st' := []) (h' := q15.2) (h2 := q16.2) (fun n w => w) (fun q => hc_240 (by omega) eq16 q) ?_
      refine hs_wb 4 (c := x5 ≤ q16.1) (t := 136) (f := 123) (ls' := [hs_r 11 0, hs_i x1, hs_i x2, hs_i x3, hs_i x4, hs_i x5, hs_i x6, hs_i x7, hs_i q16.1]) (st' := []) (h' := q16.2) (fun n w => w) (fun b17 => ?_) (fun b17 => ?_)
      · rw [if_pos b17] at e
        exact hw_135_136 hd hk54 hk72 e q
      · rw [if_neg b17] at e
        obtain ⟨q18, eq18, e⟩ := hs_bind_some e
        try dsimp only at e
        refine hs_wc 3 (y := 149) (a := [hs_i x6, hs_i x7]) (v := some (hs_i q18.1)) (pc' := 130) (ls' := [hs_r 11 0, hs_i x1, hs_i x2, hs_i x3, hs_i x4, hs_i x5, hs_i x6, hs_i x7, hs_i q16.1]) (st' := []) (h' := q16.2) (h2 := q18.2) (fun n w => w) (fun q => hc_149 (by omega) eq18 q) ?_
        refine hs_w 3 (pc' := 136) (ls' := [hs_r 11 0, hs_i x1, hs_i x2, hs_i x3, hs_i q18.1, hs_i q16.1, hs_i x6, hs_i x7, hs_i q16.1]) (st' := []) (h' := q18.2) (fun n w => w) ?_
        exact hw_135_136 hd hk54 hk72 e q
theorem hw_135_72_lp {S : hs_S} {d : Nat} {Q : hs_Q} (hd : 4 ≤ d)  {k54 : Int32 × Int32 × Int32 × Int32 × Int32 × Int32 × hs_H → Option (Int32 × hs_H)} (hk54 : ∀ (x1 : Int32) (x2 : Int32) (x3 : Int32) (x4 : Int32) (x5 : Int32) (x6 : Int32) (h : hs_H) (r : Int32 × hs_H) (v7 : hs_V) (v8 : hs_V), k54 (x1, x2, x3, x4, x5, x6, h) = some r → Q (some (hs_i r.1)) r.2 → hs_W S d 1 hs_p135 Q 54 [hs_r 11 0, hs_i x1, hs_i x2, hs_i x3, hs_i x4, hs_i x5, hs_i x6, v7, v8] [] h) (n : Nat) {x1 : Int32} {x2 : Int32} {x3 : Int32} {x4 : Int32} {x5 : Int32} {x6 : Int32} {x7 : Int32} {h : hs_H} {r : Int32 × hs_H} (e : hs_lp (fun k s => hb_135_72 k54 k s.1 s.2.1 s.2.2.1 s.2.2.2.1 s.2.2.2.2.1 s.2.2.2.2.2.1 s.2.2.2.2.2.2.1 s.2.2.2.2.2.2.2) n (x1, x2, x3, x4, x5, x6, x7, h) = some r) (v8 : hs_V) (q : Q (some (hs_i r.1)) r.2) : hs_W S d 1 hs_p135 Q 72 [hs_r 11 0, hs_i x1, hs_i x2, hs_i x3, hs_i x4, hs_i x5, hs_i x6, hs_i x7, v8] [] h := by
  refine hs_lp_ind (P := fun (s : Int32 × Int32 × Int32 × Int32 × Int32 × Int32 × Int32 × hs_H) (r : Int32 × hs_H) => ∀ (v8 : hs_V), Q (some (hs_i r.1)) r.2 → hs_W S d 1 hs_p135 Q 72 [hs_r 11 0, hs_i s.1, hs_i s.2.1, hs_i s.2.2.1, hs_i s.2.2.2.1, hs_i s.2.2.2.2.1, hs_i s.2.2.2.2.2.1, hs_i s.2.2.2.2.2.2.1, v8] [] s.2.2.2.2.2.2.2) (fun k hk s r e v8 q => ?_) n (x1, x2, x3, x4, x5, x6, x7, h) r e v8 q
  exact hw_135_72 hd hk54 (fun x1 x2 x3 x4 x5 x6 x7 h r v8 e q => hk (x1, x2, x3, x4, x5, x6, x7, h) r e v8 q) e q
def hb_135_54  (k54 : Int32 × Int32 × Int32 × Int32 × Int32 × Int32 × hs_H → Option (Int32 × hs_H)) (x1 : Int32) (x2 : Int32) (x3 : Int32) (x4 : Int32) (x5 : Int32) (x6 : Int32)  (h : hs_H) : Option (Int32 × hs_H) := if (h.1 4 0 1) ≤ x6 then (if x3 = 0 then (hb_135_159 x4 h) else (if ¬ x4 = (nI 4294967292) then (hb_135_166 x5 h) else (hb_135_159 x4 h))) else (hs_lp (fun k s => hb_135_72 k54 k s.1 s.2.1 s.2.2.1 s.2.2.2.1 s.2.2.2.2.1 s.2.2.2.2.2.1 s.2.2.2.2.2.2.1 s.2.2.2.2.2.2.2) hs_big (x1, x2, x3, x4, x5, x6, x6 + (nI 1), h))
set_option maxHeartbeats 1000000 in
theorem hw_135_54 {S : hs_S} {d : Nat} {Q : hs_Q} (hd : 4 ≤ d)  {k54 : Int32 × Int32 × Int32 × Int32 × Int32 × Int32 × hs_H → Option (Int32 × hs_H)} (hk54 : ∀ (x1 : Int32) (x2 : Int32) (x3 : Int32) (x4 : Int32) (x5 : Int32) (x6 : Int32) (h : hs_H) (r : Int32 × hs_H) (v7 : hs_V) (v8 : hs_V), k54 (x1, x2, x3, x4, x5, x6, h) = some r → Q (some (hs_i r.1)) r.2 → hs_W S d 1 hs_p135 Q 54 [hs_r 11 0, hs_i x1, hs_i x2, hs_i x3, hs_i x4, hs_i x5, hs_i x6, v7, v8] [] h) {x1 : Int32} {x2 : Int32} {x3 : Int32} {x4 : Int32} {x5 : Int32} {x6 : Int32}  {v7 : hs_V} {v8 : hs_V} {h : hs_H} {r : Int32 × hs_H} (e : hb_135_54 k54 x1 x2 x3 x4 x5 x6 h = some r) (q : Q (some (hs_i r.1)) r.2) : hs_W S d 1 hs_p135 Q 54 [hs_r 11 0, hs_i x1, hs_i x2, hs_i x3, hs_i x4, hs_i x5, hs_i x6, v7, v8] [] h := by
  unfold hb_135_54 at e
  refine hs_wb 5 (c := (h.1 4 0 1) ≤ x6) (t := 148) (f := 66) (ls' := [hs_r 11 0, hs_i x1, hs_i x2, hs_i x3, hs_i x4, hs_i x5, hs_i x6, v7, v8]) (st' := []) (h' := h) (fun n w => w) (fun b9 => ?_) (fun b9 => ?_)
  · rw [if_pos b9] at e
    refine hs_wb 2 (c := x3 = 0) (t := 159) (f := 152) (ls' := [hs_r 11 0, hs_i x1, hs_i x2, hs_i x3, hs_i x4, hs_i x5, hs_i x6, v7, v8]) (st' := []) (h' := h) (fun n w => w) (fun b10 => ?_) (fun b10 => ?_)
    · rw [if_pos b10] at e
      exact hw_135_159 hd e q
    · rw [if_neg b10] at e
      refine hs_wb 3 (c := ¬ x4 = (nI 4294967292)) (t := 164) (f := 159) (ls' := [hs_r 11 0, hs_i x1, hs_i x2, hs_i x3, hs_i x4, hs_i x5, hs_i x6, v7, v8]) (st' := []) (h' := h) (fun n w => w) (fun b11 => ?_) (fun b11 => ?_)
      · rw [if_pos b11] at e
        refine hs_w 1 (pc' := 166) (ls' := [hs_r 11 0, hs_i x1, hs_i x2, hs_i x3, hs_i x4, hs_i x5, hs_i x6, v7, v8]) (st' := [hs_i x5]) (h' := h) (fun n w => w) ?_
        exact hw_135_166 hd e q
      · rw [if_neg b11] at e
        exact hw_135_159 hd e q
  · rw [if_neg b9] at e
    refine hs_w 4 (pc' := 72) (ls' := [hs_r 11 0, hs_i x1, hs_i x2, hs_i x3, hs_i x4, hs_i x5, hs_i x6, hs_i (x6 + (nI 1)), v8]) (st' := []) (h' := h) (fun n w => w) ?_
    exact hw_135_72_lp hd hk54 hs_big e _ q
theorem hw_135_54_lp {S : hs_S} {d : Nat} {Q : hs_Q} (hd : 4 ≤ d)    (n : Nat) {x1 : Int32} {x2 : Int32} {x3 : Int32} {x4 : Int32} {x5 : Int32} {x6 : Int32} {h : hs_H} {r : Int32 × hs_H} (e : hs_lp (fun k s => hb_135_54 k s.1 s.2.1 s.2.2.1 s.2.2.2.1 s.2.2.2.2.1 s.2.2.2.2.2.1 s.2.2.2.2.2.2) n (x1, x2, x3, x4, x5, x6, h) = some r) (v7 : hs_V) (v8 : hs_V) (q : Q (some (hs_i r.1)) r.2) : hs_W S d 1 hs_p135 Q 54 [hs_r 11 0, hs_i x1, hs_i x2, hs_i x3, hs_i x4, hs_i x5, hs_i x6, v7, v8] [] h := by
  refine hs_lp_ind (P := fun (s : Int32 × Int32 × Int32 × Int32 × Int32 × Int32 × hs_H) (r : Int32 × hs_H) => ∀ (v7 : hs_V) (v8 : hs_V), Q (some (hs_i r.1)) r.2 → hs_W S d 1 hs_p135 Q 54 [hs_r 11 0, hs_i s.1, hs_i s.2.1, hs_i s.2.2.1, hs_i s.2.2.2.1, hs_i s.2.2.2.2.1, hs_i s.2.2.2.2.2.1, v7, v8] [] s.2.2.2.2.2.2) (fun k hk s r e v7 v8 q => ?_) n (x1, x2, x3, x4, x5, x6, h) r e v7 v8 q
  exact hw_135_54 hd (fun x1 x2 x3 x4 x5 x6 h r v7 v8 e q => hk (x1, x2, x3, x4, x5, x6, h) r e v7 v8 q) e q
/-- HuntedScent.stop(III)I -/
def hf_135 (a1 : Int32) (a2 : Int32) (a3 : Int32) (h : hs_H) : Option (Int32 × hs_H) := (hf_29 0 a1 h).bind (fun q1 => if q1.1 = 0 then (hb_135_31 q1.2) else ((hf_30 0 a2 q1.2).bind (fun q3 => if q3.1 = 0 then (hb_135_31 q3.2) else (if a3 < 0 then (hb_135_31 q3.2) else (if a3 ≤ (nI 1) then ((hf_44 0 a1 a2 q3.2).bind (fun q7 => (hf_240 q7.1 q7.2).bind (fun q8 => hs_lp (fun k s => hb_135_54 k s.1 s.2.1 s.2.2.1 s.2.2.2.1 s.2.2.2.2.1 s.2.2.2.2.2.1 s.2.2.2.2.2.2) hs_big (a1, a2, a3, nI 4294967292, q8.1, nI 0, q8.2)))) else (hb_135_31 q3.2))))))
set_option maxHeartbeats 1000000 in
theorem hc_135 {S : hs_S} {D : Nat} {Q : hs_Q} (hD : 5 ≤ D) {a1 : Int32} {a2 : Int32} {a3 : Int32} {h : hs_H} {r : Int32 × hs_H} (e : hf_135 a1 a2 a3 h = some r) (q : Q (some (hs_i r.1)) r.2) : hs_call hs_ms S D 135 [hs_r 11 0, hs_i a1, hs_i a2, hs_i a3] h Q := by
  refine hs_go (R := 4) hD rfl (Nat.le_of_ble_eq_true rfl) (fun d hd => ?_)
  show hs_W S d 1 hs_p135 Q 0 [hs_r 11 0, hs_i a1, hs_i a2, hs_i a3, hs_u, hs_u, hs_u, hs_u, hs_u] [] h
  unfold hf_135 at e
  obtain ⟨q1, eq1, e⟩ := hs_bind_some e
  try dsimp only at e
  refine hs_wc 4 (y := 29) (a := [hs_r 4 0, hs_i a1]) (v := some (hs_i q1.1)) (pc' := 8) (ls' := [hs_r 11 0, hs_i a1, hs_i a2, hs_i a3, hs_u, hs_u, hs_u, hs_u, hs_u]) (st' := []) (h' := h) (h2 := q1.2) (fun n w => w) (fun q => hc_29 (by omega) eq1 q) ?_
  refine hs_wb 1 (c := q1.1 = 0) (t := 31) (f := 11) (ls' := [hs_r 11 0, hs_i a1, hs_i a2, hs_i a3, hs_u, hs_u, hs_u, hs_u, hs_u]) (st' := []) (h' := q1.2) (fun n w => w) (fun b2 => ?_) (fun b2 => ?_)
  · rw [if_pos b2] at e
    exact hw_135_31 hd e q
  · rw [if_neg b2] at e
    obtain ⟨q3, eq3, e⟩ := hs_bind_some e
    try dsimp only at e
    refine hs_wc 4 (y := 30) (a := [hs_r 4 0, hs_i a2]) (v := some (hs_i q3.1)) (pc' := 19) (ls' := [hs_r 11 0, hs_i a1, hs_i a2, hs_i a3, hs_u, hs_u, hs_u, hs_u, hs_u]) (st' := []) (h' := q1.2) (h2 := q3.2) (fun n w => w) (fun q => hc_30 (by omega) eq3 q) ?_
    refine hs_wb 1 (c := q3.1 = 0) (t := 31) (f := 22) (ls' := [hs_r 11 0, hs_i a1, hs_i a2, hs_i a3, hs_u, hs_u, hs_u, hs_u, hs_u]) (st' := []) (h' := q3.2) (fun n w => w) (fun b4 => ?_) (fun b4 => ?_)
    · rw [if_pos b4] at e
      exact hw_135_31 hd e q
    · rw [if_neg b4] at e
      refine hs_wb 2 (c := a3 < 0) (t := 31) (f := 26) (ls' := [hs_r 11 0, hs_i a1, hs_i a2, hs_i a3, hs_u, hs_u, hs_u, hs_u, hs_u]) (st' := []) (h' := q3.2) (fun n w => w) (fun b5 => ?_) (fun b5 => ?_)
      · rw [if_pos b5] at e
        exact hw_135_31 hd e q
      · rw [if_neg b5] at e
        refine hs_wb 3 (c := a3 ≤ (nI 1)) (t := 33) (f := 31) (ls' := [hs_r 11 0, hs_i a1, hs_i a2, hs_i a3, hs_u, hs_u, hs_u, hs_u, hs_u]) (st' := []) (h' := q3.2) (fun n w => w) (fun b6 => ?_) (fun b6 => ?_)
        · rw [if_pos b6] at e
          obtain ⟨q7, eq7, e⟩ := hs_bind_some e
          try dsimp only at e
          refine hs_wc 7 (y := 44) (a := [hs_r 4 0, hs_i a1, hs_i a2]) (v := some (hs_i q7.1)) (pc' := 46) (ls' := [hs_r 11 0, hs_i a1, hs_i a2, hs_i a3, hs_i (nI 4294967292), hs_u, hs_u, hs_u, hs_u]) (st' := []) (h' := q3.2) (h2 := q7.2) (fun n w => w) (fun q => hc_44 (by omega) eq7 q) ?_
          obtain ⟨q8, eq8, e⟩ := hs_bind_some e
          try dsimp only at e
          refine hs_wc 1 (y := 240) (a := [hs_i q7.1]) (v := some (hs_i q8.1)) (pc' := 49) (ls' := [hs_r 11 0, hs_i a1, hs_i a2, hs_i a3, hs_i (nI 4294967292), hs_u, hs_u, hs_u, hs_u]) (st' := []) (h' := q7.2) (h2 := q8.2) (fun n w => w) (fun q => hc_240 (by omega) eq8 q) ?_
          refine hs_w 3 (pc' := 54) (ls' := [hs_r 11 0, hs_i a1, hs_i a2, hs_i a3, hs_i (nI 4294967292), hs_i q8.1, hs_i (nI 0), hs_u, hs_u]) (st' := []) (h' := q8.2) (fun n w => w) ?_
          exact hw_135_54_lp hd hs_big e _ _ q
        · rw [if_neg b6] at e
          exact hw_135_31 hd e q
def hb_77_36    (s0 : Int32) (h : hs_H) : Option (Int32 × hs_H) := some (s0, h)
set_option maxHeartbeats 1000000 in
theorem hw_77_36 {S : hs_S} {d : Nat} {Q : hs_Q} (hd : 0 ≤ d)     {s0 : Int32} {v1 : hs_V} {h : hs_H} {r : Int32 × hs_H} (e : hb_77_36 s0 h = some r) (q : Q (some (hs_i r.1)) r.2) : hs_W S d 1 hs_p77 Q 36 [hs_r 7 0, v1] [hs_i s0] h := by
  unfold hb_77_36 at e
  obtain rfl := Option.some.inj e
  exact hs_wr 1 (v := some (hs_i s0)) (h' := h) (fun n w => w) q
/-- HuntedScent$Seasons.draw(I)I -/
def hf_77 (a1 : Int32) (h : hs_H) : Option (Int32 × hs_H) := if a1 ≤ 0 then (hb_77_36 (nI 0) (hs_put h 7 0 2 (((h.1 7 0 2) * (nI 1103515245)) + (nI 12345)))) else (hs_ck (hs_nz a1) (hb_77_36 ((((((hs_put h 7 0 2 (((h.1 7 0 2) * (nI 1103515245)) + (nI 12345))).1 7 0 2).toUInt32 >>> ((nI 16).toUInt32 &&& Int32.toUInt32 31)).toInt32) &&& (nI 32767)) - (((((hs_put h 7 0 2 (((h.1 7 0 2) * (nI 1103515245)) + (nI 12345))).1 7 0 2).toUInt32 >>> ((nI 16).toUInt32 &&& Int32.toUInt32 31)).toInt32) &&& (nI 32767)) / a1 * a1) (hs_put h 7 0 2 (((h.1 7 0 2) * (nI 1103515245)) + (nI 12345)))))
set_option maxHeartbeats 1000000 in
theorem hc_77 {S : hs_S} {D : Nat} {Q : hs_Q} (hD : 1 ≤ D) {a1 : Int32} {h : hs_H} {r : Int32 × hs_H} (e : hf_77 a1 h = some r) (q : Q (some (hs_i r.1)) r.2) : hs_call hs_ms S D 77 [hs_r 7 0, hs_i a1] h Q := by
  refine hs_go (R := 0) hD rfl (Nat.le_of_ble_eq_true rfl) (fun d hd => ?_)
  show hs_W S d 1 hs_p77 Q 0 [hs_r 7 0, hs_i a1] [] h
  unfold hf_77 at e
  refine hs_wb 10 (c := a1 ≤ 0) (t := 35) (f := 19) (ls' := [hs_r 7 0, hs_i a1]) (st' := []) (h' := hs_put h 7 0 2 (((h.1 7 0 2) * (nI 1103515245)) + (nI 12345))) (fun n w => w) (fun b1 => ?_) (fun b1 => ?_)
  · rw [if_pos b1] at e
    refine hs_w 1 (pc' := 36) (ls' := [hs_r 7 0, hs_i a1]) (st' := [hs_i (nI 0)]) (h' := hs_put h 7 0 2 (((h.1 7 0 2) * (nI 1103515245)) + (nI 12345))) (fun n w => w) ?_
    exact hw_77_36 hd e q
  · rw [if_neg b1] at e
    obtain ⟨c2, e⟩ := hs_ck_some e
    refine hs_wa 8 (c := ¬ a1 = 0) (pc' := 32) (ls' := [hs_r 7 0, hs_i a1]) (st' := [hs_i ((((((hs_put h 7 0 2 (((h.1 7 0 2) * (nI 1103515245)) + (nI 12345))).1 7 0 2).toUInt32 >>> ((nI 16).toUInt32 &&& Int32.toUInt32 31)).toInt32) &&& (nI 32767)) - (((((hs_put h 7 0 2 (((h.1 7 0 2) * (nI 1103515245)) + (nI 12345))).1 7 0 2).toUInt32 >>> ((nI 16).toUInt32 &&& Int32.toUInt32 31)).toInt32) &&& (nI 32767)) / a1 * a1)]) (h' := hs_put h 7 0 2 (((h.1 7 0 2) * (nI 1103515245)) + (nI 12345))) (fun n w => w) (hs_nz_iff.mp c2) ?_
    refine hs_w 1 (pc' := 36) (ls' := [hs_r 7 0, hs_i a1]) (st' := [hs_i ((((((hs_put h 7 0 2 (((h.1 7 0 2) * (nI 1103515245)) + (nI 12345))).1 7 0 2).toUInt32 >>> ((nI 16).toUInt32 &&& Int32.toUInt32 31)).toInt32) &&& (nI 32767)) - (((((hs_put h 7 0 2 (((h.1 7 0 2) * (nI 1103515245)) + (nI 12345))).1 7 0 2).toUInt32 >>> ((nI 16).toUInt32 &&& Int32.toUInt32 31)).toInt32) &&& (nI 32767)) / a1 * a1)]) (h' := hs_put h 7 0 2 (((h.1 7 0 2) * (nI 1103515245)) + (nI 12345))) (fun n w => w) ?_
    exact hw_77_36 hd e q
def hb_76_11  (k11 : Int32 × Int32 × hs_H → Option (Int32 × hs_H)) (x2 : Int32) (x3 : Int32)  (h : hs_H) : Option (Int32 × hs_H) := if x3 ≤ 0 then ((hf_148 x2 h).bind (fun q4 => some (q4.1, q4.2))) else (k11 (x2 &&& (x2 - (nI 1)), x3 + nI 4294967295, h))
set_option maxHeartbeats 1000000 in
theorem hw_76_11 {S : hs_S} {d : Nat} {Q : hs_Q} (hd : 1 ≤ d)  {k11 : Int32 × Int32 × hs_H → Option (Int32 × hs_H)} (hk11 : ∀ (x2 : Int32) (x3 : Int32) (h : hs_H) (r : Int32 × hs_H) (v1 : hs_V), k11 (x2, x3, h) = some r → Q (some (hs_i r.1)) r.2 → hs_W S d 1 hs_p76 Q 11 [hs_r 7 0, v1, hs_i x2, hs_i x3] [] h) {x2 : Int32} {x3 : Int32}  {v1 : hs_V} {h : hs_H} {r : Int32 × hs_H} (e : hb_76_11 k11 x2 x3 h = some r) (q : Q (some (hs_i r.1)) r.2) : hs_W S d 1 hs_p76 Q 11 [hs_r 7 0, v1, hs_i x2, hs_i x3] [] h := by
  unfold hb_76_11 at e
  refine hs_wb 2 (c := x3 ≤ 0) (t := 27) (f := 15) (ls' := [hs_r 7 0, v1, hs_i x2, hs_i x3]) (st' := []) (h' := h) (fun n w => w) (fun b3 => ?_) (fun b3 => ?_)
  · rw [if_pos b3] at e
    obtain ⟨q4, eq4, e⟩ := hs_bind_some e
    try dsimp only at e
    refine hs_wc 2 (y := 148) (a := [hs_i x2]) (v := some (hs_i q4.1)) (pc' := 31) (ls' := [hs_r 7 0, v1, hs_i x2, hs_i x3]) (st' := []) (h' := h) (h2 := q4.2) (fun n w => w) (fun q => hc_148 (by omega) eq4 q) ?_
    obtain rfl := Option.some.inj e
    exact hs_wr 1 (v := some (hs_i q4.1)) (h' := q4.2) (fun n w => w) q
  · rw [if_neg b3] at e
    refine hs_w 8 (pc' := 11) (ls' := [hs_r 7 0, v1, hs_i (x2 &&& (x2 - (nI 1))), hs_i (x3 + nI 4294967295)]) (st' := []) (h' := h) (fun n w => w) ?_
    exact hk11 _ _ _ _ _ e q
theorem hw_76_11_lp {S : hs_S} {d : Nat} {Q : hs_Q} (hd : 1 ≤ d)    (n : Nat) {x2 : Int32} {x3 : Int32} {h : hs_H} {r : Int32 × hs_H} (e : hs_lp (fun k s => hb_76_11 k s.1 s.2.1 s.2.2) n (x2, x3, h) = some r) (v1 : hs_V) (q : Q (some (hs_i r.1)) r.2) : hs_W S d 1 hs_p76 Q 11 [hs_r 7 0, v1, hs_i x2, hs_i x3] [] h := by
  refine hs_lp_ind (P := fun (s : Int32 × Int32 × hs_H) (r : Int32 × hs_H) => ∀ (v1 : hs_V), Q (some (hs_i r.1)) r.2 → hs_W S d 1 hs_p76 Q 11 [hs_r 7 0, v1, hs_i s.1, hs_i s.2.1] [] s.2.2) (fun k hk s r e v1 q => ?_) n (x2, x3, h) r e v1 q
  exact hw_76_11 hd (fun x2 x3 h r v1 e q => hk (x2, x3, h) r e v1 q) e q
/-- HuntedScent$Seasons.drawNode(I)I -/
def hf_76 (a1 : Int32) (h : hs_H) : Option (Int32 × hs_H) := (hf_240 a1 h).bind (fun q1 => (hf_77 q1.1 q1.2).bind (fun q2 => hs_lp (fun k s => hb_76_11 k s.1 s.2.1 s.2.2) hs_big (a1, q2.1, q2.2)))
set_option maxHeartbeats 1000000 in
theorem hc_76 {S : hs_S} {D : Nat} {Q : hs_Q} (hD : 2 ≤ D) {a1 : Int32} {h : hs_H} {r : Int32 × hs_H} (e : hf_76 a1 h = some r) (q : Q (some (hs_i r.1)) r.2) : hs_call hs_ms S D 76 [hs_r 7 0, hs_i a1] h Q := by
  refine hs_go (R := 1) hD rfl (Nat.le_of_ble_eq_true rfl) (fun d hd => ?_)
  show hs_W S d 1 hs_p76 Q 0 [hs_r 7 0, hs_i a1, hs_u, hs_u] [] h
  unfold hf_76 at e
  obtain ⟨q1, eq1, e⟩ := hs_bind_some e
  try dsimp only at e
  refine hs_wc 5 (y := 240) (a := [hs_i a1]) (v := some (hs_i q1.1)) (pc' := 7) (ls' := [hs_r 7 0, hs_i a1, hs_i a1, hs_u]) (st' := [hs_r 7 0]) (h' := h) (h2 := q1.2) (fun n w => w) (fun q => hc_240 (by omega) eq1 q) ?_
  obtain ⟨q2, eq2, e⟩ := hs_bind_some e
  try dsimp only at e
  refine hs_wc 1 (y := 77) (a := [hs_r 7 0, hs_i q1.1]) (v := some (hs_i q2.1)) (pc' := 10) (ls' := [hs_r 7 0, hs_i a1, hs_i a1, hs_u]) (st' := []) (h' := q1.2) (h2 := q2.2) (fun n w => w) (fun q => hc_77 (by omega) eq2 q) ?_
  refine hs_w 1 (pc' := 11) (ls' := [hs_r 7 0, hs_i a1, hs_i a1, hs_i q2.1]) (st' := []) (h' := q2.2) (fun n w => w) ?_
  exact hw_76_11_lp hd hs_big e _ q
def hb_75_39    (s0 : Int32) (h : hs_H) : Option (Int32 × hs_H) := some (s0, h)
set_option maxHeartbeats 1000000 in
theorem hw_75_39 {S : hs_S} {d : Nat} {Q : hs_Q} (hd : 2 ≤ d)     {s0 : Int32} {v1 : hs_V} {v2 : hs_V} {v3 : hs_V} {h : hs_H} {r : Int32 × hs_H} (e : hb_75_39 s0 h = some r) (q : Q (some (hs_i r.1)) r.2) : hs_W S d 1 hs_p75 Q 39 [hs_r 7 0, v1, v2, v3] [hs_i s0] h := by
  unfold hb_75_39 at e
  obtain rfl := Option.some.inj e
  exact hs_wr 1 (v := some (hs_i s0)) (h' := h) (fun n w => w) q
/-- HuntedScent$Seasons.follow(I)I -/
def hf_75 (a1 : Int32) (h : hs_H) : Option (Int32 × hs_H) := (hf_32 0 a1 h).bind (fun q1 => (hf_92 1 q1.1 q1.2).bind (fun q2 => if q2.1 = (nI 4294967292) then (if ¬ q1.1 = 0 then ((hf_76 q1.1 q2.2).bind (fun q5 => hb_75_39 q5.1 q5.2)) else (hb_75_39 a1 q2.2)) else (some (q2.1, q2.2))))
set_option maxHeartbeats 1000000 in
theorem hc_75 {S : hs_S} {D : Nat} {Q : hs_Q} (hD : 3 ≤ D) {a1 : Int32} {h : hs_H} {r : Int32 × hs_H} (e : hf_75 a1 h = some r) (q : Q (some (hs_i r.1)) r.2) : hs_call hs_ms S D 75 [hs_r 7 0, hs_i a1] h Q := by
  refine hs_go (R := 2) hD rfl (Nat.le_of_ble_eq_true rfl) (fun d hd => ?_)
  show hs_W S d 1 hs_p75 Q 0 [hs_r 7 0, hs_i a1, hs_u, hs_u] [] h
  unfold hf_75 at e
  obtain ⟨q1, eq1, e⟩ := hs_bind_some e
  try dsimp only at e
  refine hs_wc 4 (y := 32) (a := [hs_r 4 0, hs_i a1]) (v := some (hs_i q1.1)) (pc' := 8) (ls' := [hs_r 7 0, hs_i a1, hs_u, hs_u]) (st' := []) (h' := h) (h2 := q1.2) (fun n w => w) (fun q => hc_32 (by omega) eq1 q) ?_
  obtain ⟨q2, eq2, e⟩ := hs_bind_some e
  try dsimp only at e
  refine hs_wc 5 (y := 92) (a := [hs_r 9 1, hs_i q1.1]) (v := some (hs_i q2.1)) (pc' := 17) (ls' := [hs_r 7 0, hs_i a1, hs_i q1.1, hs_u]) (st' := []) (h' := q1.2) (h2 := q2.2) (fun n w => w) (fun q => hc_92 (by omega) eq2 q) ?_
  refine hs_wb 4 (c := q2.1 = (nI 4294967292)) (t := 26) (f := 24) (ls' := [hs_r 7 0, hs_i a1, hs_i q1.1, hs_i q2.1]) (st' := []) (h' := q2.2) (fun n w => w) (fun b3 => ?_) (fun b3 => ?_)
  · rw [if_pos b3] at e
    refine hs_wb 2 (c := ¬ q1.1 = 0) (t := 34) (f := 30) (ls' := [hs_r 7 0, hs_i a1, hs_i q1.1, hs_i q2.1]) (st' := []) (h' := q2.2) (fun n w => w) (fun b4 => ?_) (fun b4 => ?_)
    · rw [if_pos b4] at e
      obtain ⟨q5, eq5, e⟩ := hs_bind_some e
      try dsimp only at e
      refine hs_wc 3 (y := 76) (a := [hs_r 7 0, hs_i q1.1]) (v := some (hs_i q5.1)) (pc' := 39) (ls' := [hs_r 7 0, hs_i a1, hs_i q1.1, hs_i q2.1]) (st' := []) (h' := q2.2) (h2 := q5.2) (fun n w => w) (fun q => hc_76 (by omega) eq5 q) ?_
      exact hw_75_39 hd e q
    · rw [if_neg b4] at e
      refine hs_w 2 (pc' := 39) (ls' := [hs_r 7 0, hs_i a1, hs_i q1.1, hs_i q2.1]) (st' := [hs_i a1]) (h' := q2.2) (fun n w => w) ?_
      exact hw_75_39 hd e q
  · rw [if_neg b3] at e
    obtain rfl := Option.some.inj e
    exact hs_wr 2 (v := some (hs_i q2.1)) (h' := q2.2) (fun n w => w) q
def hb_74_120  (k39 : Int32 × Int32 × hs_H → Option (hs_H)) (x1 : Int32) (x2 : Int32)  (h : hs_H) : Option (hs_H) := if ¬ (h.1 9 1 1) = x1 then (k39 (x1, x2 + nI 1, h)) else (some (hs_put h 7 0 3 ((h.1 7 0 3) + (nI 1))))
set_option maxHeartbeats 1000000 in
theorem hw_74_120 {S : hs_S} {d : Nat} {Q : hs_Q} (hd : 4 ≤ d)  {k39 : Int32 × Int32 × hs_H → Option (hs_H)} (hk39 : ∀ (x1 : Int32) (x2 : Int32) (h : hs_H) (r : hs_H) (v3 : hs_V), k39 (x1, x2, h) = some r → Q none r → hs_W S d 0 hs_p74 Q 39 [hs_r 7 0, hs_i x1, hs_i x2, v3] [] h) {x1 : Int32} {x2 : Int32}  {v3 : hs_V} {h : hs_H} {r : hs_H} (e : hb_74_120 k39 x1 x2 h = some r) (q : Q none r) : hs_W S d 0 hs_p74 Q 120 [hs_r 7 0, hs_i x1, hs_i x2, v3] [] h := by
  unfold hb_74_120 at e
  refine hs_wb 5 (c := ¬ (h.1 9 1 1) = x1) (t := 142) (f := 131) (ls' := [hs_r 7 0, hs_i x1, hs_i x2, v3]) (st' := []) (h' := h) (fun n w => w) (fun b10 => ?_) (fun b10 => ?_)
  · rw [if_pos b10] at e
    refine hs_w 2 (pc' := 39) (ls' := [hs_r 7 0, hs_i x1, hs_i (x2 + nI 1), v3]) (st' := []) (h' := h) (fun n w => w) ?_
    exact hk39 _ _ _ _ _ e q
  · rw [if_neg b10] at e
    obtain rfl := Option.some.inj e
    exact hs_wr 7 (v := none) (h' := hs_put h 7 0 3 ((h.1 7 0 3) + (nI 1))) (fun n w => w) q
def hb_74_93  (k39 : Int32 × Int32 × hs_H → Option (hs_H)) (x1 : Int32) (x2 : Int32) (s0 : Int32) (s1 : Nat) (h : hs_H) : Option (hs_H) := (hf_90 s1 s0 (h.1 4 0 4) h).bind (fun q8 => if (q8.1 9 1 1) = x1 then (hb_74_120 k39 x1 x2 q8) else ((hf_75 x1 q8).bind (fun q11 => hb_74_120 k39 q11.1 x2 q11.2)))
set_option maxHeartbeats 1000000 in
theorem hw_74_93 {S : hs_S} {d : Nat} {Q : hs_Q} (hd : 4 ≤ d)  {k39 : Int32 × Int32 × hs_H → Option (hs_H)} (hk39 : ∀ (x1 : Int32) (x2 : Int32) (h : hs_H) (r : hs_H) (v3 : hs_V), k39 (x1, x2, h) = some r → Q none r → hs_W S d 0 hs_p74 Q 39 [hs_r 7 0, hs_i x1, hs_i x2, v3] [] h) {x1 : Int32} {x2 : Int32} {s0 : Int32} {s1 : Nat} {v3 : hs_V} {h : hs_H} {r : hs_H} (e : hb_74_93 k39 x1 x2 s0 s1 h = some r) (q : Q none r) : hs_W S d 0 hs_p74 Q 93 [hs_r 7 0, hs_i x1, hs_i x2, v3] [hs_i s0, hs_r 9 s1] h := by
  unfold hb_74_93 at e
  obtain ⟨q8, eq8, e⟩ := hs_bind_some e
  try dsimp only at e
  refine hs_wc 4 (y := 90) (a := [hs_r 9 s1, hs_i s0, hs_i (h.1 4 0 4)]) (v := none) (pc' := 103) (ls' := [hs_r 7 0, hs_i x1, hs_i x2, v3]) (st' := []) (h' := h) (h2 := q8) (fun n w => w) (fun q => hc_90 (by omega) eq8 q) ?_
  refine hs_wb 5 (c := (q8.1 9 1 1) = x1) (t := 120) (f := 114) (ls' := [hs_r 7 0, hs_i x1, hs_i x2, v3]) (st' := []) (h' := q8) (fun n w => w) (fun b9 => ?_) (fun b9 => ?_)
  · rw [if_pos b9] at e
    exact hw_74_120 hd hk39 e q
  · rw [if_neg b9] at e
    obtain ⟨q11, eq11, e⟩ := hs_bind_some e
    try dsimp only at e
    refine hs_wc 3 (y := 75) (a := [hs_r 7 0, hs_i x1]) (v := some (hs_i q11.1)) (pc' := 119) (ls' := [hs_r 7 0, hs_i x1, hs_i x2, v3]) (st' := []) (h' := q8) (h2 := q11.2) (fun n w => w) (fun q => hc_75 (by omega) eq11 q) ?_
    refine hs_w 1 (pc' := 120) (ls' := [hs_r 7 0, hs_i q11.1, hs_i x2, v3]) (st' := []) (h' := q11.2) (fun n w => w) ?_
    exact hw_74_120 hd hk39 e q
def hb_74_39  (k39 : Int32 × Int32 × hs_H → Option (hs_H)) (x1 : Int32) (x2 : Int32)  (h : hs_H) : Option (hs_H) := if (nI 20) < x2 then (some h) else ((hf_38 0 ((hs_put h 7 0 4 ((h.1 7 0 4) + (nI 1))).1 9 1 1) (hs_put h 7 0 4 ((h.1 7 0 4) + (nI 1)))).bind (fun q5 => if ¬ q5.1 = 0 then ((hf_76 q5.1 q5.2).bind (fun q7 => hb_74_93 k39 x1 x2 q7.1 1 q7.2)) else (hb_74_93 k39 x1 x2 (q5.2.1 9 1 1) 1 q5.2)))
set_option maxHeartbeats 1000000 in
theorem hw_74_39 {S : hs_S} {d : Nat} {Q : hs_Q} (hd : 4 ≤ d)  {k39 : Int32 × Int32 × hs_H → Option (hs_H)} (hk39 : ∀ (x1 : Int32) (x2 : Int32) (h : hs_H) (r : hs_H) (v3 : hs_V), k39 (x1, x2, h) = some r → Q none r → hs_W S d 0 hs_p74 Q 39 [hs_r 7 0, hs_i x1, hs_i x2, v3] [] h) {x1 : Int32} {x2 : Int32}  {v3 : hs_V} {h : hs_H} {r : hs_H} (e : hb_74_39 k39 x1 x2 h = some r) (q : Q none r) : hs_W S d 0 hs_p74 Q 39 [hs_r 7 0, hs_i x1, hs_i x2, v3] [] h := by
  unfold hb_74_39 at e
  refine hs_wb 3 (c := (nI 20) < x2) (t := 148) (f := 45) (ls' := [hs_r 7 0, hs_i x1, hs_i x2, v3]) (st' := []) (h' := h) (fun n w => w) (fun b4 => ?_) (fun b4 => ?_)
  · rw [if_pos b4] at e
    obtain rfl := Option.some.inj e
    exact hs_wr 1 (v := none) (h' := h) (fun n w => w) q
  · rw [if_neg b4] at e
    obtain ⟨q5, eq5, e⟩ := hs_bind_some e
    try dsimp only at e
    refine hs_wc 12 (y := 38) (a := [hs_r 4 0, hs_i ((hs_put h 7 0 4 ((h.1 7 0 4) + (nI 1))).1 9 1 1)]) (v := some (hs_i q5.1)) (pc' := 69) (ls' := [hs_r 7 0, hs_i x1, hs_i x2, v3]) (st' := []) (h' := hs_put h 7 0 4 ((h.1 7 0 4) + (nI 1))) (h2 := q5.2) (fun n w => w) (fun q => hc_38 (by omega) eq5 q) ?_
    refine hs_wb 5 (c := ¬ q5.1 = 0) (t := 88) (f := 78) (ls' := [hs_r 7 0, hs_i x1, hs_i x2, hs_i q5.1]) (st' := [hs_r 9 1]) (h' := q5.2) (fun n w => w) (fun b6 => ?_) (fun b6 => ?_)
    · rw [if_pos b6] at e
      obtain ⟨q7, eq7, e⟩ := hs_bind_some e
      try dsimp only at e
      refine hs_wc 3 (y := 76) (a := [hs_r 7 0, hs_i q5.1]) (v := some (hs_i q7.1)) (pc' := 93) (ls' := [hs_r 7 0, hs_i x1, hs_i x2, hs_i q5.1]) (st' := [hs_r 9 1]) (h' := q5.2) (h2 := q7.2) (fun n w => w) (fun q => hc_76 (by omega) eq7 q) ?_
      exact hw_74_93 hd hk39 e q
    · rw [if_neg b6] at e
      refine hs_w 4 (pc' := 93) (ls' := [hs_r 7 0, hs_i x1, hs_i x2, hs_i q5.1]) (st' := [hs_i (q5.2.1 9 1 1), hs_r 9 1]) (h' := q5.2) (fun n w => w) ?_
      exact hw_74_93 hd hk39 e q
theorem hw_74_39_lp {S : hs_S} {d : Nat} {Q : hs_Q} (hd : 4 ≤ d)    (n : Nat) {x1 : Int32} {x2 : Int32} {h : hs_H} {r : hs_H} (e : hs_lp (fun k s => hb_74_39 k s.1 s.2.1 s.2.2) n (x1, x2, h) = some r) (v3 : hs_V) (q : Q none r) : hs_W S d 0 hs_p74 Q 39 [hs_r 7 0, hs_i x1, hs_i x2, v3] [] h := by
  refine hs_lp_ind (P := fun (s : Int32 × Int32 × hs_H) (r : hs_H) => ∀ (v3 : hs_V), Q none r → hs_W S d 0 hs_p74 Q 39 [hs_r 7 0, hs_i s.1, hs_i s.2.1, v3] [] s.2.2) (fun k hk s r e v3 q => ?_) n (x1, x2, h) r e v3 q
  exact hw_74_39 hd (fun x1 x2 h r v3 e q => hk (x1, x2, h) r e v3 q) e q
/-- HuntedScent$Seasons.hunt()V -/
def hf_74  (h : hs_H) : Option (hs_H) := (hf_77 (h.1 4 0 1) h).bind (fun q1 => (hf_89 1 q1.1 (q1.2.1 4 0 4) q1.2).bind (fun q2 => (hf_77 (q2.1 4 0 1) q2).bind (fun q3 => hs_lp (fun k s => hb_74_39 k s.1 s.2.1 s.2.2) hs_big (q3.1, nI 1, q3.2))))
set_option maxHeartbeats 1000000 in
theorem hc_74 {S : hs_S} {D : Nat} {Q : hs_Q} (hD : 5 ≤ D)  {h : hs_H} {r : hs_H} (e : hf_74 h = some r) (q : Q none r) : hs_call hs_ms S D 74 [hs_r 7 0] h Q := by
  refine hs_go (R := 4) hD rfl (Nat.le_of_ble_eq_true rfl) (fun d hd => ?_)
  show hs_W S d 0 hs_p74 Q 0 [hs_r 7 0, hs_u, hs_u, hs_u] [] h
  unfold hf_74 at e
  obtain ⟨q1, eq1, e⟩ := hs_bind_some e
  try dsimp only at e
  refine hs_wc 7 (y := 77) (a := [hs_r 7 0, hs_i (h.1 4 0 1)]) (v := some (hs_i q1.1)) (pc' := 15) (ls' := [hs_r 7 0, hs_u, hs_u, hs_u]) (st' := [hs_r 9 1]) (h' := h) (h2 := q1.2) (fun n w => w) (fun q => hc_77 (by omega) eq1 q) ?_
  obtain ⟨q2, eq2, e⟩ := hs_bind_some e
  try dsimp only at e
  refine hs_wc 4 (y := 89) (a := [hs_r 9 1, hs_i q1.1, hs_i (q1.2.1 4 0 4)]) (v := none) (pc' := 25) (ls' := [hs_r 7 0, hs_u, hs_u, hs_u]) (st' := []) (h' := q1.2) (h2 := q2) (fun n w => w) (fun q => hc_89 (by omega) eq2 q) ?_
  obtain ⟨q3, eq3, e⟩ := hs_bind_some e
  try dsimp only at e
  refine hs_wc 5 (y := 77) (a := [hs_r 7 0, hs_i (q2.1 4 0 1)]) (v := some (hs_i q3.1)) (pc' := 36) (ls' := [hs_r 7 0, hs_u, hs_u, hs_u]) (st' := []) (h' := q2) (h2 := q3.2) (fun n w => w) (fun q => hc_77 (by omega) eq3 q) ?_
  refine hs_w 3 (pc' := 39) (ls' := [hs_r 7 0, hs_i q3.1, hs_i (nI 1), hs_u]) (st' := []) (h' := q3.2) (fun n w => w) ?_
  exact hw_74_39_lp hd hs_big e _ q
def hb_73_17  (k17 : Int32 × Int32 × hs_H → Option (hs_H)) (x2 : Int32) (x3 : Int32)  (h : hs_H) : Option (hs_H) := if x2 ≤ x3 then (some h) else ((hf_74 h).bind (fun q2 => k17 (x2, x3 + nI 1, q2)))
set_option maxHeartbeats 1000000 in
theorem hw_73_17 {S : hs_S} {d : Nat} {Q : hs_Q} (hd : 5 ≤ d)  {k17 : Int32 × Int32 × hs_H → Option (hs_H)} (hk17 : ∀ (x2 : Int32) (x3 : Int32) (h : hs_H) (r : hs_H) (v1 : hs_V), k17 (x2, x3, h) = some r → Q none r → hs_W S d 0 hs_p73 Q 17 [hs_r 7 0, v1, hs_i x2, hs_i x3] [] h) {x2 : Int32} {x3 : Int32}  {v1 : hs_V} {h : hs_H} {r : hs_H} (e : hb_73_17 k17 x2 x3 h = some r) (q : Q none r) : hs_W S d 0 hs_p73 Q 17 [hs_r 7 0, v1, hs_i x2, hs_i x3] [] h := by
  unfold hb_73_17 at e
  refine hs_wb 3 (c := x2 ≤ x3) (t := 32) (f := 22) (ls' := [hs_r 7 0, v1, hs_i x2, hs_i x3]) (st' := []) (h' := h) (fun n w => w) (fun b1 => ?_) (fun b1 => ?_)
  · rw [if_pos b1] at e
    obtain rfl := Option.some.inj e
    exact hs_wr 1 (v := none) (h' := h) (fun n w => w) q
  · rw [if_neg b1] at e
    obtain ⟨q2, eq2, e⟩ := hs_bind_some e
    try dsimp only at e
    refine hs_wc 2 (y := 74) (a := [hs_r 7 0]) (v := none) (pc' := 26) (ls' := [hs_r 7 0, v1, hs_i x2, hs_i x3]) (st' := []) (h' := h) (h2 := q2) (fun n w => w) (fun q => hc_74 (by omega) eq2 q) ?_
    refine hs_w 2 (pc' := 17) (ls' := [hs_r 7 0, v1, hs_i x2, hs_i (x3 + nI 1)]) (st' := []) (h' := q2) (fun n w => w) ?_
    exact hk17 _ _ _ _ _ e q
theorem hw_73_17_lp {S : hs_S} {d : Nat} {Q : hs_Q} (hd : 5 ≤ d)    (n : Nat) {x2 : Int32} {x3 : Int32} {h : hs_H} {r : hs_H} (e : hs_lp (fun k s => hb_73_17 k s.1 s.2.1 s.2.2) n (x2, x3, h) = some r) (v1 : hs_V) (q : Q none r) : hs_W S d 0 hs_p73 Q 17 [hs_r 7 0, v1, hs_i x2, hs_i x3] [] h := by
  refine hs_lp_ind (P := fun (s : Int32 × Int32 × hs_H) (r : hs_H) => ∀ (v1 : hs_V), Q none r → hs_W S d 0 hs_p73 Q 17 [hs_r 7 0, v1, hs_i s.1, hs_i s.2.1] [] s.2.2) (fun k hk s r e v1 q => ?_) n (x2, x3, h) r e v1 q
  exact hw_73_17 hd (fun x2 x3 h r v1 e q => hk (x2, x3, h) r e v1 q) e q
/-- HuntedScent$Seasons.run(II)V -/
def hf_73 (a1 : Int32) (a2 : Int32) (h : hs_H) : Option (hs_H) := hs_lp (fun k s => hb_73_17 k s.1 s.2.1 s.2.2) hs_big (a2, nI 0, hs_put (hs_put (hs_put h 7 0 2 a1) 7 0 3 (nI 0)) 7 0 4 (nI 0))
set_option maxHeartbeats 1000000 in
theorem hc_73 {S : hs_S} {D : Nat} {Q : hs_Q} (hD : 6 ≤ D) {a1 : Int32} {a2 : Int32} {h : hs_H} {r : hs_H} (e : hf_73 a1 a2 h = some r) (q : Q none r) : hs_call hs_ms S D 73 [hs_r 7 0, hs_i a1, hs_i a2] h Q := by
  refine hs_go (R := 5) hD rfl (Nat.le_of_ble_eq_true rfl) (fun d hd => ?_)
  show hs_W S d 0 hs_p73 Q 0 [hs_r 7 0, hs_i a1, hs_i a2, hs_u] [] h
  unfold hf_73 at e
  refine hs_w 11 (pc' := 17) (ls' := [hs_r 7 0, hs_i a1, hs_i a2, hs_i (nI 0)]) (st' := []) (h' := hs_put (hs_put (hs_put h 7 0 2 a1) 7 0 3 (nI 0)) 7 0 4 (nI 0)) (fun n w => w) ?_
  exact hw_73_17_lp hd hs_big e _ q
def hb_136_20     (h : hs_H) : Option (Int32 × hs_H) := some (nI 4294967295, h)
set_option maxHeartbeats 1000000 in
theorem hw_136_20 {S : hs_S} {d : Nat} {Q : hs_Q} (hd : 6 ≤ d)      {v1 : hs_V} {v2 : hs_V} {v3 : hs_V} {h : hs_H} {r : Int32 × hs_H} (e : hb_136_20 h = some r) (q : Q (some (hs_i r.1)) r.2) : hs_W S d 1 hs_p136 Q 20 [hs_r 11 0, v1, v2, v3] [] h := by
  unfold hb_136_20 at e
  obtain rfl := Option.some.inj e
  exact hs_wr 2 (v := some (hs_i (nI 4294967295))) (h' := h) (fun n w => w) q
def hb_136_52    (s0 : Int32) (h : hs_H) : Option (Int32 × hs_H) := some (s0, h)
set_option maxHeartbeats 1000000 in
theorem hw_136_52 {S : hs_S} {d : Nat} {Q : hs_Q} (hd : 6 ≤ d)     {s0 : Int32} {v1 : hs_V} {v2 : hs_V} {v3 : hs_V} {h : hs_H} {r : Int32 × hs_H} (e : hb_136_52 s0 h = some r) (q : Q (some (hs_i r.1)) r.2) : hs_W S d 1 hs_p136 Q 52 [hs_r 11 0, v1, v2, v3] [hs_i s0] h := by
  unfold hb_136_52 at e
  obtain rfl := Option.some.inj e
  exact hs_wr 1 (v := some (hs_i s0)) (h' := h) (fun n w => w) q
/-- HuntedScent.season(III)I -/
def hf_136 (a1 : Int32) (a2 : Int32) (a3 : Int32) (h : hs_H) : Option (Int32 × hs_H) := if a2 < (nI 1) then (hb_136_20 h) else (if (nI 20) < a2 then (hb_136_20 h) else (if a3 < 0 then (hb_136_20 h) else (if a3 ≤ (nI 1) then ((hf_73 a1 a2 h).bind (fun q5 => if ¬ a3 = 0 then (hb_136_52 (q5.1 7 0 4) q5) else (hb_136_52 (q5.1 7 0 3) q5))) else (hb_136_20 h))))
set_option maxHeartbeats 1000000 in
theorem hc_136 {S : hs_S} {D : Nat} {Q : hs_Q} (hD : 7 ≤ D) {a1 : Int32} {a2 : Int32} {a3 : Int32} {h : hs_H} {r : Int32 × hs_H} (e : hf_136 a1 a2 a3 h = some r) (q : Q (some (hs_i r.1)) r.2) : hs_call hs_ms S D 136 [hs_r 11 0, hs_i a1, hs_i a2, hs_i a3] h Q := by
  refine hs_go (R := 6) hD rfl (Nat.le_of_ble_eq_true rfl) (fun d hd => ?_)
  show hs_W S d 1 hs_p136 Q 0 [hs_r 11 0, hs_i a1, hs_i a2, hs_i a3] [] h
  unfold hf_136 at e
  refine hs_wb 3 (c := a2 < (nI 1)) (t := 20) (f := 5) (ls' := [hs_r 11 0, hs_i a1, hs_i a2, hs_i a3]) (st' := []) (h' := h) (fun n w => w) (fun b1 => ?_) (fun b1 => ?_)
  · rw [if_pos b1] at e
    exact hw_136_20 hd e q
  · rw [if_neg b1] at e
    refine hs_wb 3 (c := (nI 20) < a2) (t := 20) (f := 11) (ls' := [hs_r 11 0, hs_i a1, hs_i a2, hs_i a3]) (st' := []) (h' := h) (fun n w => w) (fun b2 => ?_) (fun b2 => ?_)
    · rw [if_pos b2] at e
      exact hw_136_20 hd e q
    · rw [if_neg b2] at e
      refine hs_wb 2 (c := a3 < 0) (t := 20) (f := 15) (ls' := [hs_r 11 0, hs_i a1, hs_i a2, hs_i a3]) (st' := []) (h' := h) (fun n w => w) (fun b3 => ?_) (fun b3 => ?_)
      · rw [if_pos b3] at e
        exact hw_136_20 hd e q
      · rw [if_neg b3] at e
        refine hs_wb 3 (c := a3 ≤ (nI 1)) (t := 22) (f := 20) (ls' := [hs_r 11 0, hs_i a1, hs_i a2, hs_i a3]) (st' := []) (h' := h) (fun n w => w) (fun b4 => ?_) (fun b4 => ?_)
        · rw [if_pos b4] at e
          obtain ⟨q5, eq5, e⟩ := hs_bind_some e
          try dsimp only at e
          refine hs_wc 5 (y := 73) (a := [hs_r 7 0, hs_i a1, hs_i a2]) (v := none) (pc' := 31) (ls' := [hs_r 11 0, hs_i a1, hs_i a2, hs_i a3]) (st' := []) (h' := h) (h2 := q5) (fun n w => w) (fun q => hc_73 (by omega) eq5 q) ?_
          refine hs_wb 2 (c := ¬ a3 = 0) (t := 45) (f := 35) (ls' := [hs_r 11 0, hs_i a1, hs_i a2, hs_i a3]) (st' := []) (h' := q5) (fun n w => w) (fun b6 => ?_) (fun b6 => ?_)
          · rw [if_pos b6] at e
            refine hs_w 3 (pc' := 52) (ls' := [hs_r 11 0, hs_i a1, hs_i a2, hs_i a3]) (st' := [hs_i (q5.1 7 0 4)]) (h' := q5) (fun n w => w) ?_
            exact hw_136_52 hd e q
          · rw [if_neg b6] at e
            refine hs_w 4 (pc' := 52) (ls' := [hs_r 11 0, hs_i a1, hs_i a2, hs_i a3]) (st' := [hs_i (q5.1 7 0 3)]) (h' := q5) (fun n w => w) ?_
            exact hw_136_52 hd e q
        · rw [if_neg b4] at e
          exact hw_136_20 hd e q
def hb_88_9_2 (o : Nat) (p1 : Nat) (k2 : Int32 × hs_H → Option (hs_H)) (x2 : Int32)  (h : hs_H) : Option (hs_H) := if (nI 10) ≤ x2 then (some (hs_put (hs_put h 9 o 1 (h.1 9 p1 1)) 9 o 2 ((hs_put h 9 o 1 (h.1 9 p1 1)).1 9 p1 2))) else (hs_ck (hs_inb x2 10) (hs_ck (hs_inb x2 10) (k2 (x2 + nI 1, hs_put h 33 o x2.toNatClampNeg (h.1 33 p1 x2.toNatClampNeg)))))
set_option maxHeartbeats 1000000 in
theorem hw_88_9_2 {S : hs_S} {d : Nat} {Q : hs_Q} (hd : 0 ≤ d) {o : Nat} {p1 : Nat} {k2 : Int32 × hs_H → Option (hs_H)} (hk2 : ∀ (x2 : Int32) (h : hs_H) (r : hs_H) , k2 (x2, h) = some r → Q none r → hs_W S d 0 hs_p88 Q 2 [hs_r 9 o, hs_r 9 p1, hs_i x2] [] h) {x2 : Int32}   {h : hs_H} {r : hs_H} (e : hb_88_9_2 o p1 k2 x2 h = some r) (q : Q none r) : hs_W S d 0 hs_p88 Q 2 [hs_r 9 o, hs_r 9 p1, hs_i x2] [] h := by
  unfold hb_88_9_2 at e
  refine hs_wb 3 (c := (nI 10) ≤ x2) (t := 26) (f := 8) (ls' := [hs_r 9 o, hs_r 9 p1, hs_i x2]) (st' := []) (h' := h) (fun n w => w) (fun b1 => ?_) (fun b1 => ?_)
  · rw [if_pos b1] at e
    obtain rfl := Option.some.inj e
    exact hs_wr 9 (v := none) (h' := hs_put (hs_put h 9 o 1 (h.1 9 p1 1)) 9 o 2 ((hs_put h 9 o 1 (h.1 9 p1 1)).1 9 p1 2)) (fun n w => w) q
  · rw [if_neg b1] at e
    obtain ⟨c2, e⟩ := hs_ck_some e
    refine hs_wa 7 (c := vp_in x2 10) (pc' := 19) (ls' := [hs_r 9 o, hs_r 9 p1, hs_i x2]) (st' := [hs_i (h.1 33 p1 x2.toNatClampNeg), hs_i x2, hs_r 33 o]) (h' := h) (fun n w => w) (hs_inb_iff.mp c2) ?_
    obtain ⟨c3, e⟩ := hs_ck_some e
    refine hs_wa 1 (c := vp_in x2 10) (pc' := 20) (ls' := [hs_r 9 o, hs_r 9 p1, hs_i x2]) (st' := []) (h' := hs_put h 33 o x2.toNatClampNeg (h.1 33 p1 x2.toNatClampNeg)) (fun n w => w) (hs_inb_iff.mp c3) ?_
    refine hs_w 2 (pc' := 2) (ls' := [hs_r 9 o, hs_r 9 p1, hs_i (x2 + nI 1)]) (st' := []) (h' := hs_put h 33 o x2.toNatClampNeg (h.1 33 p1 x2.toNatClampNeg)) (fun n w => w) ?_
    exact hk2 _ _ _  e q
theorem hw_88_9_2_lp {S : hs_S} {d : Nat} {Q : hs_Q} (hd : 0 ≤ d) {o : Nat} {p1 : Nat}   (n : Nat) {x2 : Int32} {h : hs_H} {r : hs_H} (e : hs_lp (fun k s => hb_88_9_2 o p1 k s.1 s.2) n (x2, h) = some r)  (q : Q none r) : hs_W S d 0 hs_p88 Q 2 [hs_r 9 o, hs_r 9 p1, hs_i x2] [] h := by
  refine hs_lp_ind (P := fun (s : Int32 × hs_H) (r : hs_H) => ∀ (_ : True), Q none r → hs_W S d 0 hs_p88 Q 2 [hs_r 9 o, hs_r 9 p1, hs_i s.1] [] s.2) (fun k hk s r e _ q => ?_) n (x2, h) r e trivial q
  exact hw_88_9_2 hd (fun x2 h r  e q => hk (x2, h) r e trivial q) e q
/-- HuntedScent$Trail.copyFrom(LHuntedScent$Trail;)V -/
def hf_88_9 (o : Nat) (p1 : Nat) (h : hs_H) : Option (hs_H) := hs_lp (fun k s => hb_88_9_2 o p1 k s.1 s.2) hs_big (nI 0, h)
set_option maxHeartbeats 1000000 in
theorem hc_88_9 {S : hs_S} {D : Nat} {Q : hs_Q} (hD : 1 ≤ D) {o : Nat} {p1 : Nat} {h : hs_H} {r : hs_H} (e : hf_88_9 o p1 h = some r) (q : Q none r) : hs_call hs_ms S D 88 [hs_r 9 o, hs_r 9 p1] h Q := by
  refine hs_go (R := 0) hD rfl (Nat.le_of_ble_eq_true rfl) (fun d hd => ?_)
  show hs_W S d 0 hs_p88 Q 0 [hs_r 9 o, hs_r 9 p1, hs_u] [] h
  unfold hf_88_9 at e
  refine hs_w 2 (pc' := 2) (ls' := [hs_r 9 o, hs_r 9 p1, hs_i (nI 0)]) (st' := []) (h' := h) (fun n w => w) ?_
  exact hw_88_9_2_lp hd hs_big e  q
def hb_137_9     (h : hs_H) : Option (Int32 × hs_H) := some (nI 4294967295, h)
set_option maxHeartbeats 1000000 in
theorem hw_137_9 {S : hs_S} {d : Nat} {Q : hs_Q} (hd : 1 ≤ d)      {v1 : hs_V} {v2 : hs_V} {v3 : hs_V} {h : hs_H} {r : Int32 × hs_H} (e : hb_137_9 h = some r) (q : Q (some (hs_i r.1)) r.2) : hs_W S d 1 hs_p137 Q 9 [hs_r 11 0, v1, v2, v3] [] h := by
  unfold hb_137_9 at e
  obtain rfl := Option.some.inj e
  exact hs_wr 2 (v := some (hs_i (nI 4294967295))) (h' := h) (fun n w => w) q
def hb_137_30   (x2 : Nat) (s0 : Int32) (h : hs_H) : Option (Int32 × hs_H) := (hf_28_4 (x2 + 2) 0 (hs_put h 3 x2 3 (nI 1))).bind (fun q5 => (hf_88_9 (x2 + 2) 0 q5).bind (fun q6 => (hf_48_5 (x2 + 2) 0 q6).bind (fun q7 => some (s0, q7))))
set_option maxHeartbeats 1000000 in
theorem hw_137_30 {S : hs_S} {d : Nat} {Q : hs_Q} (hd : 1 ≤ d)    {x2 : Nat} {s0 : Int32} {v1 : hs_V} {v3 : hs_V} {h : hs_H} {r : Int32 × hs_H} (e : hb_137_30 x2 s0 h = some r) (q : Q (some (hs_i r.1)) r.2) : hs_W S d 1 hs_p137 Q 30 [hs_r 11 0, v1, hs_r 3 x2, v3] [hs_i s0] h := by
  unfold hb_137_30 at e
  refine hs_wa 4 (c := nI 1 = 0 ∨ nI 1 = 1) (pc' := 36) (ls' := [hs_r 11 0, v1, hs_r 3 x2, hs_i s0]) (st' := []) (h' := hs_put h 3 x2 3 (nI 1)) (fun n w => w) (by decide) ?_
  obtain ⟨q5, eq5, e⟩ := hs_bind_some e
  try dsimp only at e
  refine hs_wc 5 (y := 28) (a := [hs_r 4 (x2 + 2), hs_r 4 0]) (v := none) (pc' := 47) (ls' := [hs_r 11 0, v1, hs_r 3 x2, hs_i s0]) (st' := []) (h' := hs_put h 3 x2 3 (nI 1)) (h2 := q5) (fun n w => w) (fun q => hc_28_4 (by omega) eq5 q) ?_
  obtain ⟨q6, eq6, e⟩ := hs_bind_some e
  try dsimp only at e
  refine hs_wc 5 (y := 88) (a := [hs_r 9 (x2 + 2), hs_r 9 0]) (v := none) (pc' := 58) (ls' := [hs_r 11 0, v1, hs_r 3 x2, hs_i s0]) (st' := []) (h' := q5) (h2 := q6) (fun n w => w) (fun q => hc_88_9 (by omega) eq6 q) ?_
  obtain ⟨q7, eq7, e⟩ := hs_bind_some e
  try dsimp only at e
  refine hs_wc 5 (y := 48) (a := [hs_r 5 (x2 + 2), hs_r 5 0]) (v := none) (pc' := 69) (ls' := [hs_r 11 0, v1, hs_r 3 x2, hs_i s0]) (st' := []) (h' := q6) (h2 := q7) (fun n w => w) (fun q => hc_48_5 (by omega) eq7 q) ?_
  obtain rfl := Option.some.inj e
  exact hs_wr 2 (v := some (hs_i s0)) (h' := q7) (fun n w => w) q
/-- HuntedScent.keep(I)I -/
def hf_137 (a1 : Int32) (h : hs_H) : Option (Int32 × hs_H) := if a1 < 0 then (hb_137_9 h) else (if a1 < (nI 2) then (hs_ck (hs_inb a1 2) (if (h.1 3 a1.toNatClampNeg 3) = 0 then (hb_137_30 a1.toNatClampNeg (nI 0) h) else (hb_137_30 a1.toNatClampNeg (nI 1) h))) else (hb_137_9 h))
set_option maxHeartbeats 1000000 in
theorem hc_137 {S : hs_S} {D : Nat} {Q : hs_Q} (hD : 2 ≤ D) {a1 : Int32} {h : hs_H} {r : Int32 × hs_H} (e : hf_137 a1 h = some r) (q : Q (some (hs_i r.1)) r.2) : hs_call hs_ms S D 137 [hs_r 11 0, hs_i a1] h Q := by
  refine hs_go (R := 1) hD rfl (Nat.le_of_ble_eq_true rfl) (fun d hd => ?_)
  show hs_W S d 1 hs_p137 Q 0 [hs_r 11 0, hs_i a1, hs_u, hs_u] [] h
  unfold hf_137 at e
  refine hs_wb 2 (c := a1 < 0) (t := 9) (f := 4) (ls' := [hs_r 11 0, hs_i a1, hs_u, hs_u]) (st' := []) (h' := h) (fun n w => w) (fun b1 => ?_) (fun b1 => ?_)
  · rw [if_pos b1] at e
    exact hw_137_9 hd e q
  · rw [if_neg b1] at e
    refine hs_wb 3 (c := a1 < (nI 2)) (t := 11) (f := 9) (ls' := [hs_r 11 0, hs_i a1, hs_u, hs_u]) (st' := []) (h' := h) (fun n w => w) (fun b2 => ?_) (fun b2 => ?_)
    · rw [if_pos b2] at e
      obtain ⟨c3, e⟩ := hs_ck_some e
      refine hs_wa 4 (c := vp_in a1 2) (pc' := 17) (ls' := [hs_r 11 0, hs_i a1, hs_u, hs_u]) (st' := [hs_r 3 a1.toNatClampNeg]) (h' := h) (fun n w => w) (hs_inb_iff.mp c3) ?_
      refine hs_wb 4 (c := (h.1 3 a1.toNatClampNeg 3) = 0) (t := 29) (f := 25) (ls' := [hs_r 11 0, hs_i a1, hs_r 3 a1.toNatClampNeg, hs_u]) (st' := []) (h' := h) (fun n w => w) (fun b4 => ?_) (fun b4 => ?_)
      · rw [if_pos b4] at e
        refine hs_w 1 (pc' := 30) (ls' := [hs_r 11 0, hs_i a1, hs_r 3 a1.toNatClampNeg, hs_u]) (st' := [hs_i (nI 0)]) (h' := h) (fun n w => w) ?_
        exact hw_137_30 hd e q
      · rw [if_neg b4] at e
        refine hs_w 2 (pc' := 30) (ls' := [hs_r 11 0, hs_i a1, hs_r 3 a1.toNatClampNeg, hs_u]) (st' := [hs_i (nI 1)]) (h' := h) (fun n w => w) ?_
        exact hw_137_30 hd e q
    · rw [if_neg b2] at e
      exact hw_137_9 hd e q
def hb_138_9     (h : hs_H) : Option (Int32 × hs_H) := some (nI 4294967295, h)
set_option maxHeartbeats 1000000 in
theorem hw_138_9 {S : hs_S} {d : Nat} {Q : hs_Q} (hd : 1 ≤ d)      {v1 : hs_V} {v2 : hs_V} {h : hs_H} {r : Int32 × hs_H} (e : hb_138_9 h = some r) (q : Q (some (hs_i r.1)) r.2) : hs_W S d 1 hs_p138 Q 9 [hs_r 11 0, v1, v2] [] h := by
  unfold hb_138_9 at e
  obtain rfl := Option.some.inj e
  exact hs_wr 2 (v := some (hs_i (nI 4294967295))) (h' := h) (fun n w => w) q
/-- HuntedScent.back(I)I -/
def hf_138 (a1 : Int32) (h : hs_H) : Option (Int32 × hs_H) := if a1 < 0 then (hb_138_9 h) else (if a1 < (nI 2) then (hs_ck (hs_inb a1 2) (if ¬ (h.1 3 a1.toNatClampNeg 3) = 0 then ((hf_28_4 0 (a1.toNatClampNeg + 2) h).bind (fun q5 => (hf_88_9 0 (a1.toNatClampNeg + 2) q5).bind (fun q6 => (hf_48_5 0 (a1.toNatClampNeg + 2) q6).bind (fun q7 => some (q7.1 9 0 1, q7))))) else (some (nI 4294967294, h)))) else (hb_138_9 h))
set_option maxHeartbeats 1000000 in
theorem hc_138 {S : hs_S} {D : Nat} {Q : hs_Q} (hD : 2 ≤ D) {a1 : Int32} {h : hs_H} {r : Int32 × hs_H} (e : hf_138 a1 h = some r) (q : Q (some (hs_i r.1)) r.2) : hs_call hs_ms S D 138 [hs_r 11 0, hs_i a1] h Q := by
  refine hs_go (R := 1) hD rfl (Nat.le_of_ble_eq_true rfl) (fun d hd => ?_)
  show hs_W S d 1 hs_p138 Q 0 [hs_r 11 0, hs_i a1, hs_u] [] h
  unfold hf_138 at e
  refine hs_wb 2 (c := a1 < 0) (t := 9) (f := 4) (ls' := [hs_r 11 0, hs_i a1, hs_u]) (st' := []) (h' := h) (fun n w => w) (fun b1 => ?_) (fun b1 => ?_)
  · rw [if_pos b1] at e
    exact hw_138_9 hd e q
  · rw [if_neg b1] at e
    refine hs_wb 3 (c := a1 < (nI 2)) (t := 11) (f := 9) (ls' := [hs_r 11 0, hs_i a1, hs_u]) (st' := []) (h' := h) (fun n w => w) (fun b2 => ?_) (fun b2 => ?_)
    · rw [if_pos b2] at e
      obtain ⟨c3, e⟩ := hs_ck_some e
      refine hs_wa 4 (c := vp_in a1 2) (pc' := 17) (ls' := [hs_r 11 0, hs_i a1, hs_u]) (st' := [hs_r 3 a1.toNatClampNeg]) (h' := h) (fun n w => w) (hs_inb_iff.mp c3) ?_
      refine hs_wb 4 (c := ¬ (h.1 3 a1.toNatClampNeg 3) = 0) (t := 28) (f := 25) (ls' := [hs_r 11 0, hs_i a1, hs_r 3 a1.toNatClampNeg]) (st' := []) (h' := h) (fun n w => w) (fun b4 => ?_) (fun b4 => ?_)
      · rw [if_pos b4] at e
        obtain ⟨q5, eq5, e⟩ := hs_bind_some e
        try dsimp only at e
        refine hs_wc 5 (y := 28) (a := [hs_r 4 0, hs_r 4 (a1.toNatClampNeg + 2)]) (v := none) (pc' := 39) (ls' := [hs_r 11 0, hs_i a1, hs_r 3 a1.toNatClampNeg]) (st' := []) (h' := h) (h2 := q5) (fun n w => w) (fun q => hc_28_4 (by omega) eq5 q) ?_
        obtain ⟨q6, eq6, e⟩ := hs_bind_some e
        try dsimp only at e
        refine hs_wc 5 (y := 88) (a := [hs_r 9 0, hs_r 9 (a1.toNatClampNeg + 2)]) (v := none) (pc' := 50) (ls' := [hs_r 11 0, hs_i a1, hs_r 3 a1.toNatClampNeg]) (st' := []) (h' := q5) (h2 := q6) (fun n w => w) (fun q => hc_88_9 (by omega) eq6 q) ?_
        obtain ⟨q7, eq7, e⟩ := hs_bind_some e
        try dsimp only at e
        refine hs_wc 5 (y := 48) (a := [hs_r 5 0, hs_r 5 (a1.toNatClampNeg + 2)]) (v := none) (pc' := 61) (ls' := [hs_r 11 0, hs_i a1, hs_r 3 a1.toNatClampNeg]) (st' := []) (h' := q6) (h2 := q7) (fun n w => w) (fun q => hc_48_5 (by omega) eq7 q) ?_
        obtain rfl := Option.some.inj e
        exact hs_wr 4 (v := some (hs_i (q7.1 9 0 1))) (h' := q7) (fun n w => w) q
      · rw [if_neg b4] at e
        obtain rfl := Option.some.inj e
        exact hs_wr 2 (v := some (hs_i (nI 4294967294))) (h' := h) (fun n w => w) q
    · rw [if_neg b2] at e
      exact hw_138_9 hd e q
def hb_145_19    (s0 : Int32) (h : hs_H) : Option (Int32 × hs_H) := hs_ck (hs_b01 s0) (some (s0, h))
set_option maxHeartbeats 1000000 in
theorem hw_145_19 {S : hs_S} {d : Nat} {Q : hs_Q} (hd : 0 ≤ d)     {s0 : Int32} {v0 : hs_V} {h : hs_H} {r : Int32 × hs_H} (e : hb_145_19 s0 h = some r) (q : Q (some (hs_i r.1)) r.2) : hs_W S d 2 hs_p145 Q 19 [v0] [hs_i s0] h := by
  unfold hb_145_19 at e
  obtain ⟨c2, e⟩ := hs_ck_some e
  obtain rfl := Option.some.inj e
  exact hs_wra 1 (c := s0 = 0 ∨ s0 = 1) (v := some (hs_i s0)) (h' := h) (fun n w => w) (hs_b01_iff.mp c2) q
def hb_145_14     (h : hs_H) : Option (Int32 × hs_H) := hb_145_19 (nI 1) h
set_option maxHeartbeats 1000000 in
theorem hw_145_14 {S : hs_S} {d : Nat} {Q : hs_Q} (hd : 0 ≤ d)      {v0 : hs_V} {h : hs_H} {r : Int32 × hs_H} (e : hb_145_14 h = some r) (q : Q (some (hs_i r.1)) r.2) : hs_W S d 2 hs_p145 Q 14 [v0] [] h := by
  unfold hb_145_14 at e
  refine hs_w 2 (pc' := 19) (ls' := [v0]) (st' := [hs_i (nI 1)]) (h' := h) (fun n w => w) ?_
  exact hw_145_19 hd e q
/-- HuntedScent.isLaneOfCells(I)Z -/
def hf_145 (a0 : Int32) (h : hs_H) : Option (Int32 × hs_H) := if a0 = 0 then (hb_145_14 h) else (if a0 = (nI 1) then (hb_145_14 h) else (if ¬ a0 = (nI 2) then (hb_145_19 (nI 0) h) else (hb_145_14 h)))
set_option maxHeartbeats 1000000 in
theorem hc_145 {S : hs_S} {D : Nat} {Q : hs_Q} (hD : 1 ≤ D) {a0 : Int32} {h : hs_H} {r : Int32 × hs_H} (e : hf_145 a0 h = some r) (q : Q (some (hs_i r.1)) r.2) : hs_call hs_ms S D 145 [hs_i a0] h Q := by
  refine hs_go (R := 0) hD rfl (Nat.le_of_ble_eq_true rfl) (fun d hd => ?_)
  show hs_W S d 2 hs_p145 Q 0 [hs_i a0] [] h
  unfold hf_145 at e
  refine hs_wb 2 (c := a0 = 0) (t := 14) (f := 4) (ls' := [hs_i a0]) (st' := []) (h' := h) (fun n w => w) (fun b1 => ?_) (fun b1 => ?_)
  · rw [if_pos b1] at e
    exact hw_145_14 hd e q
  · rw [if_neg b1] at e
    refine hs_wb 3 (c := a0 = (nI 1)) (t := 14) (f := 9) (ls' := [hs_i a0]) (st' := []) (h' := h) (fun n w => w) (fun b3 => ?_) (fun b3 => ?_)
    · rw [if_pos b3] at e
      exact hw_145_14 hd e q
    · rw [if_neg b3] at e
      refine hs_wb 3 (c := ¬ a0 = (nI 2)) (t := 18) (f := 14) (ls' := [hs_i a0]) (st' := []) (h' := h) (fun n w => w) (fun b4 => ?_) (fun b4 => ?_)
      · rw [if_pos b4] at e
        refine hs_w 1 (pc' := 19) (ls' := [hs_i a0]) (st' := [hs_i (nI 0)]) (h' := h) (fun n w => w) ?_
        exact hw_145_19 hd e q
      · rw [if_neg b4] at e
        exact hw_145_14 hd e q
def hb_78_2 (o : Nat) (k2 : Int32 × Int32 × Int32 × hs_H → Option (hs_H)) (x1 : Int32) (x2 : Int32) (x3 : Int32)  (h : hs_H) : Option (hs_H) := if (nI 40) ≤ x3 then (some (hs_put (hs_put h 8 o 1 x1) 8 o 2 x2)) else (hs_ck (hs_inb x3 40) (k2 (x1, x2, x3 + nI 1, hs_put h 32 o x3.toNatClampNeg (nI 0))))
set_option maxHeartbeats 1000000 in
theorem hw_78_2 {S : hs_S} {d : Nat} {Q : hs_Q} (hd : 0 ≤ d) {o : Nat} {k2 : Int32 × Int32 × Int32 × hs_H → Option (hs_H)} (hk2 : ∀ (x1 : Int32) (x2 : Int32) (x3 : Int32) (h : hs_H) (r : hs_H) , k2 (x1, x2, x3, h) = some r → Q none r → hs_W S d 0 hs_p78 Q 2 [hs_r 8 o, hs_i x1, hs_i x2, hs_i x3] [] h) {x1 : Int32} {x2 : Int32} {x3 : Int32}   {h : hs_H} {r : hs_H} (e : hb_78_2 o k2 x1 x2 x3 h = some r) (q : Q none r) : hs_W S d 0 hs_p78 Q 2 [hs_r 8 o, hs_i x1, hs_i x2, hs_i x3] [] h := by
  unfold hb_78_2 at e
  refine hs_wb 3 (c := (nI 40) ≤ x3) (t := 21) (f := 8) (ls' := [hs_r 8 o, hs_i x1, hs_i x2, hs_i x3]) (st' := []) (h' := h) (fun n w => w) (fun b1 => ?_) (fun b1 => ?_)
  · rw [if_pos b1] at e
    obtain rfl := Option.some.inj e
    exact hs_wr 7 (v := none) (h' := hs_put (hs_put h 8 o 1 x1) 8 o 2 x2) (fun n w => w) q
  · rw [if_neg b1] at e
    obtain ⟨c2, e⟩ := hs_ck_some e
    refine hs_wa 5 (c := vp_in x3 40) (pc' := 15) (ls' := [hs_r 8 o, hs_i x1, hs_i x2, hs_i x3]) (st' := []) (h' := hs_put h 32 o x3.toNatClampNeg (nI 0)) (fun n w => w) (hs_inb_iff.mp c2) ?_
    refine hs_w 2 (pc' := 2) (ls' := [hs_r 8 o, hs_i x1, hs_i x2, hs_i (x3 + nI 1)]) (st' := []) (h' := hs_put h 32 o x3.toNatClampNeg (nI 0)) (fun n w => w) ?_
    exact hk2 _ _ _ _ _  e q
theorem hw_78_2_lp {S : hs_S} {d : Nat} {Q : hs_Q} (hd : 0 ≤ d) {o : Nat}   (n : Nat) {x1 : Int32} {x2 : Int32} {x3 : Int32} {h : hs_H} {r : hs_H} (e : hs_lp (fun k s => hb_78_2 o k s.1 s.2.1 s.2.2.1 s.2.2.2) n (x1, x2, x3, h) = some r)  (q : Q none r) : hs_W S d 0 hs_p78 Q 2 [hs_r 8 o, hs_i x1, hs_i x2, hs_i x3] [] h := by
  refine hs_lp_ind (P := fun (s : Int32 × Int32 × Int32 × hs_H) (r : hs_H) => ∀ (_ : True), Q none r → hs_W S d 0 hs_p78 Q 2 [hs_r 8 o, hs_i s.1, hs_i s.2.1, hs_i s.2.2.1] [] s.2.2.2) (fun k hk s r e _ q => ?_) n (x1, x2, x3, h) r e trivial q
  exact hw_78_2 hd (fun x1 x2 x3 h r  e q => hk (x1, x2, x3, h) r e trivial q) e q
/-- HuntedScent$Sheet.make(II)V -/
def hf_78 (o : Nat) (a1 : Int32) (a2 : Int32) (h : hs_H) : Option (hs_H) := hs_lp (fun k s => hb_78_2 o k s.1 s.2.1 s.2.2.1 s.2.2.2) hs_big (a1, a2, nI 0, h)
set_option maxHeartbeats 1000000 in
theorem hc_78 {S : hs_S} {D : Nat} {Q : hs_Q} (hD : 1 ≤ D) {o : Nat} {a1 : Int32} {a2 : Int32} {h : hs_H} {r : hs_H} (e : hf_78 o a1 a2 h = some r) (q : Q none r) : hs_call hs_ms S D 78 [hs_r 8 o, hs_i a1, hs_i a2] h Q := by
  refine hs_go (R := 0) hD rfl (Nat.le_of_ble_eq_true rfl) (fun d hd => ?_)
  show hs_W S d 0 hs_p78 Q 0 [hs_r 8 o, hs_i a1, hs_i a2, hs_u] [] h
  unfold hf_78 at e
  refine hs_w 2 (pc' := 2) (ls' := [hs_r 8 o, hs_i a1, hs_i a2, hs_i (nI 0)]) (st' := []) (h' := h) (fun n w => w) ?_
  exact hw_78_2_lp hd hs_big e  q
def hb_139_22     (h : hs_H) : Option (Int32 × hs_H) := some (nI 4294967295, h)
set_option maxHeartbeats 1000000 in
theorem hw_139_22 {S : hs_S} {d : Nat} {Q : hs_Q} (hd : 1 ≤ d)      {v1 : hs_V} {v2 : hs_V} {v3 : hs_V} {h : hs_H} {r : Int32 × hs_H} (e : hb_139_22 h = some r) (q : Q (some (hs_i r.1)) r.2) : hs_W S d 1 hs_p139 Q 22 [hs_r 11 0, v1, v2, v3] [] h := by
  unfold hb_139_22 at e
  obtain rfl := Option.some.inj e
  exact hs_wr 2 (v := some (hs_i (nI 4294967295))) (h' := h) (fun n w => w) q
/-- HuntedScent.sheet(III)I -/
def hf_139 (a1 : Int32) (a2 : Int32) (a3 : Int32) (h : hs_H) : Option (Int32 × hs_H) := if a1 < 0 then (hb_139_22 h) else (if (nI 4) ≤ a1 then (hb_139_22 h) else ((hf_145 a2 h).bind (fun q3 => if q3.1 = 0 then (hb_139_22 q3.2) else (if a3 ≤ (nI 40) then (if 0 ≤ a3 then (hs_ck (hs_inb a1 4) ((hf_78 a1.toNatClampNeg a2 a3 q3.2).bind (fun q8 => some (nI 1, q8)))) else (some (nI 4294967282, q3.2))) else (hb_139_22 q3.2)))))
set_option maxHeartbeats 1000000 in
theorem hc_139 {S : hs_S} {D : Nat} {Q : hs_Q} (hD : 2 ≤ D) {a1 : Int32} {a2 : Int32} {a3 : Int32} {h : hs_H} {r : Int32 × hs_H} (e : hf_139 a1 a2 a3 h = some r) (q : Q (some (hs_i r.1)) r.2) : hs_call hs_ms S D 139 [hs_r 11 0, hs_i a1, hs_i a2, hs_i a3] h Q := by
  refine hs_go (R := 1) hD rfl (Nat.le_of_ble_eq_true rfl) (fun d hd => ?_)
  show hs_W S d 1 hs_p139 Q 0 [hs_r 11 0, hs_i a1, hs_i a2, hs_i a3] [] h
  unfold hf_139 at e
  refine hs_wb 2 (c := a1 < 0) (t := 22) (f := 4) (ls' := [hs_r 11 0, hs_i a1, hs_i a2, hs_i a3]) (st' := []) (h' := h) (fun n w => w) (fun b1 => ?_) (fun b1 => ?_)
  · rw [if_pos b1] at e
    exact hw_139_22 hd e q
  · rw [if_neg b1] at e
    refine hs_wb 3 (c := (nI 4) ≤ a1) (t := 22) (f := 9) (ls' := [hs_r 11 0, hs_i a1, hs_i a2, hs_i a3]) (st' := []) (h' := h) (fun n w => w) (fun b2 => ?_) (fun b2 => ?_)
    · rw [if_pos b2] at e
      exact hw_139_22 hd e q
    · rw [if_neg b2] at e
      obtain ⟨q3, eq3, e⟩ := hs_bind_some e
      try dsimp only at e
      refine hs_wc 2 (y := 145) (a := [hs_i a2]) (v := some (hs_i q3.1)) (pc' := 13) (ls' := [hs_r 11 0, hs_i a1, hs_i a2, hs_i a3]) (st' := []) (h' := h) (h2 := q3.2) (fun n w => w) (fun q => hc_145 (by omega) eq3 q) ?_
      refine hs_wb 1 (c := q3.1 = 0) (t := 22) (f := 16) (ls' := [hs_r 11 0, hs_i a1, hs_i a2, hs_i a3]) (st' := []) (h' := q3.2) (fun n w => w) (fun b4 => ?_) (fun b4 => ?_)
      · rw [if_pos b4] at e
        exact hw_139_22 hd e q
      · rw [if_neg b4] at e
        refine hs_wb 3 (c := a3 ≤ (nI 40)) (t := 24) (f := 22) (ls' := [hs_r 11 0, hs_i a1, hs_i a2, hs_i a3]) (st' := []) (h' := q3.2) (fun n w => w) (fun b5 => ?_) (fun b5 => ?_)
        · rw [if_pos b5] at e
          refine hs_wb 2 (c := 0 ≤ a3) (t := 31) (f := 28) (ls' := [hs_r 11 0, hs_i a1, hs_i a2, hs_i a3]) (st' := []) (h' := q3.2) (fun n w => w) (fun b6 => ?_) (fun b6 => ?_)
          · rw [if_pos b6] at e
            obtain ⟨c7, e⟩ := hs_ck_some e
            refine hs_wa 4 (c := vp_in a1 4) (pc' := 37) (ls' := [hs_r 11 0, hs_i a1, hs_i a2, hs_i a3]) (st' := [hs_r 8 a1.toNatClampNeg]) (h' := q3.2) (fun n w => w) (hs_inb_iff.mp c7) ?_
            obtain ⟨q8, eq8, e⟩ := hs_bind_some e
            try dsimp only at e
            refine hs_wc 3 (y := 78) (a := [hs_r 8 a1.toNatClampNeg, hs_i a2, hs_i a3]) (v := none) (pc' := 42) (ls' := [hs_r 11 0, hs_i a1, hs_i a2, hs_i a3]) (st' := []) (h' := q3.2) (h2 := q8) (fun n w => w) (fun q => hc_78 (by omega) eq8 q) ?_
            obtain rfl := Option.some.inj e
            exact hs_wr 2 (v := some (hs_i (nI 1))) (h' := q8) (fun n w => w) q
          · rw [if_neg b6] at e
            obtain rfl := Option.some.inj e
            exact hs_wr 2 (v := some (hs_i (nI 4294967282))) (h' := q3.2) (fun n w => w) q
        · rw [if_neg b5] at e
          exact hw_139_22 hd e q
def hb_79_30 (o : Nat)   (s0 : Int32) (h : hs_H) : Option (Int32 × hs_H) := some (s0, h)
set_option maxHeartbeats 1000000 in
theorem hw_79_30 {S : hs_S} {d : Nat} {Q : hs_Q} (hd : 0 ≤ d) {o : Nat}    {s0 : Int32} {v1 : hs_V} {v2 : hs_V} {h : hs_H} {r : Int32 × hs_H} (e : hb_79_30 o s0 h = some r) (q : Q (some (hs_i r.1)) r.2) : hs_W S d 1 hs_p79 Q 30 [hs_r 8 o, v1, v2] [hs_i s0] h := by
  unfold hb_79_30 at e
  obtain rfl := Option.some.inj e
  exact hs_wr 1 (v := some (hs_i s0)) (h' := h) (fun n w => w) q
def hb_79_25 (o : Nat)    (h : hs_H) : Option (Int32 × hs_H) := hb_79_30 o (nI 2) h
set_option maxHeartbeats 1000000 in
theorem hw_79_25 {S : hs_S} {d : Nat} {Q : hs_Q} (hd : 0 ≤ d) {o : Nat}     {v1 : hs_V} {v2 : hs_V} {h : hs_H} {r : Int32 × hs_H} (e : hb_79_25 o h = some r) (q : Q (some (hs_i r.1)) r.2) : hs_W S d 1 hs_p79 Q 25 [hs_r 8 o, v1, v2] [] h := by
  unfold hb_79_25 at e
  refine hs_w 2 (pc' := 30) (ls' := [hs_r 8 o, v1, v2]) (st' := [hs_i (nI 2)]) (h' := h) (fun n w => w) ?_
  exact hw_79_30 hd e q
/-- HuntedScent$Sheet.faultOf(II)I -/
def hf_79 (o : Nat) (a1 : Int32) (a2 : Int32) (h : hs_H) : Option (Int32 × hs_H) := if ¬ (h.1 8 o 2) = (nI 4294967292) then (if a1 < 0 then (hb_79_25 o h) else (if a1 ≤ ((h.1 8 o 2) - a2) then (hb_79_30 o (nI 0) h) else (hb_79_25 o h))) else (some (nI 1, h))
set_option maxHeartbeats 1000000 in
theorem hc_79 {S : hs_S} {D : Nat} {Q : hs_Q} (hD : 1 ≤ D) {o : Nat} {a1 : Int32} {a2 : Int32} {h : hs_H} {r : Int32 × hs_H} (e : hf_79 o a1 a2 h = some r) (q : Q (some (hs_i r.1)) r.2) : hs_call hs_ms S D 79 [hs_r 8 o, hs_i a1, hs_i a2] h Q := by
  refine hs_go (R := 0) hD rfl (Nat.le_of_ble_eq_true rfl) (fun d hd => ?_)
  show hs_W S d 1 hs_p79 Q 0 [hs_r 8 o, hs_i a1, hs_i a2] [] h
  unfold hf_79 at e
  refine hs_wb 4 (c := ¬ (h.1 8 o 2) = (nI 4294967292)) (t := 11) (f := 9) (ls' := [hs_r 8 o, hs_i a1, hs_i a2]) (st' := []) (h' := h) (fun n w => w) (fun b1 => ?_) (fun b1 => ?_)
  · rw [if_pos b1] at e
    refine hs_wb 2 (c := a1 < 0) (t := 25) (f := 15) (ls' := [hs_r 8 o, hs_i a1, hs_i a2]) (st' := []) (h' := h) (fun n w => w) (fun b2 => ?_) (fun b2 => ?_)
    · rw [if_pos b2] at e
      exact hw_79_25 hd e q
    · rw [if_neg b2] at e
      refine hs_wb 6 (c := a1 ≤ ((h.1 8 o 2) - a2)) (t := 29) (f := 25) (ls' := [hs_r 8 o, hs_i a1, hs_i a2]) (st' := []) (h' := h) (fun n w => w) (fun b3 => ?_) (fun b3 => ?_)
      · rw [if_pos b3] at e
        refine hs_w 1 (pc' := 30) (ls' := [hs_r 8 o, hs_i a1, hs_i a2]) (st' := [hs_i (nI 0)]) (h' := h) (fun n w => w) ?_
        exact hw_79_30 hd e q
      · rw [if_neg b3] at e
        exact hw_79_25 hd e q
  · rw [if_neg b1] at e
    obtain rfl := Option.some.inj e
    exact hs_wr 2 (v := some (hs_i (nI 1))) (h' := h) (fun n w => w) q
/-- HuntedScent$Sheet.narrowed(I)I -/
def hf_82 (o : Nat) (a1 : Int32) (h : hs_H) : Option (Int32 × hs_H) := if (h.1 8 o 1) = nI 0 then (some (a1.toInt8.toInt32, h)) else (if (h.1 8 o 1) = nI 1 then (some (a1.toInt16.toInt32, h)) else (some (a1, h)))
set_option maxHeartbeats 1000000 in
theorem hc_82 {S : hs_S} {D : Nat} {Q : hs_Q} (hD : 1 ≤ D) {o : Nat} {a1 : Int32} {h : hs_H} {r : Int32 × hs_H} (e : hf_82 o a1 h = some r) (q : Q (some (hs_i r.1)) r.2) : hs_call hs_ms S D 82 [hs_r 8 o, hs_i a1] h Q := by
  refine hs_go (R := 0) hD rfl (Nat.le_of_ble_eq_true rfl) (fun d hd => ?_)
  show hs_W S d 1 hs_p82 Q 0 [hs_r 8 o, hs_i a1] [] h
  unfold hf_82 at e
  refine hs_ws1 3 (df := 38) (x := h.1 8 o 1) (ps := [0, 32, 1, 35]) (ls' := [hs_r 8 o, hs_i a1]) (st' := []) (h' := h) (fun n w => w) ?_
  refine hs_ws2 (fun b1 => ?_) (fun b1 => ?_)
  · rw [if_pos b1] at e
    obtain rfl := Option.some.inj e
    exact hs_wr 3 (v := some (hs_i a1.toInt8.toInt32)) (h' := h) (fun n w => w) q
  rw [if_neg b1] at e
  refine hs_ws2 (fun b2 => ?_) (fun b2 => ?_)
  · rw [if_pos b2] at e
    obtain rfl := Option.some.inj e
    exact hs_wr 3 (v := some (hs_i a1.toInt16.toInt32)) (h' := h) (fun n w => w) q
  rw [if_neg b2] at e
  refine hs_ws3 ?_
  obtain rfl := Option.some.inj e
  exact hs_wr 2 (v := some (hs_i a1)) (h' := h) (fun n w => w) q
def hb_81_21 (o : Nat)    (h : hs_H) : Option (hs_H) := some h
set_option maxHeartbeats 1000000 in
theorem hw_81_21 {S : hs_S} {d : Nat} {Q : hs_Q} (hd : 1 ≤ d) {o : Nat}     {v1 : hs_V} {v2 : hs_V} {h : hs_H} {r : hs_H} (e : hb_81_21 o h = some r) (q : Q none r) : hs_W S d 0 hs_p81 Q 21 [hs_r 8 o, v1, v2] [] h := by
  unfold hb_81_21 at e
  obtain rfl := Option.some.inj e
  exact hs_wr 1 (v := none) (h' := h) (fun n w => w) q
/-- HuntedScent$Sheet.put(II)V -/
def hf_81 (o : Nat) (a1 : Int32) (a2 : Int32) (h : hs_H) : Option (hs_H) := if a1 < 0 then (hb_81_21 o h) else (if (nI 40) ≤ a1 then (hb_81_21 o h) else ((hf_82 o a2 h).bind (fun q3 => hs_ck (hs_inb a1 40) (hb_81_21 o (hs_put q3.2 32 o a1.toNatClampNeg q3.1)))))
set_option maxHeartbeats 1000000 in
theorem hc_81 {S : hs_S} {D : Nat} {Q : hs_Q} (hD : 2 ≤ D) {o : Nat} {a1 : Int32} {a2 : Int32} {h : hs_H} {r : hs_H} (e : hf_81 o a1 a2 h = some r) (q : Q none r) : hs_call hs_ms S D 81 [hs_r 8 o, hs_i a1, hs_i a2] h Q := by
  refine hs_go (R := 1) hD rfl (Nat.le_of_ble_eq_true rfl) (fun d hd => ?_)
  show hs_W S d 0 hs_p81 Q 0 [hs_r 8 o, hs_i a1, hs_i a2] [] h
  unfold hf_81 at e
  refine hs_wb 2 (c := a1 < 0) (t := 21) (f := 4) (ls' := [hs_r 8 o, hs_i a1, hs_i a2]) (st' := []) (h' := h) (fun n w => w) (fun b1 => ?_) (fun b1 => ?_)
  · rw [if_pos b1] at e
    exact hw_81_21 hd e q
  · rw [if_neg b1] at e
    refine hs_wb 3 (c := (nI 40) ≤ a1) (t := 21) (f := 10) (ls' := [hs_r 8 o, hs_i a1, hs_i a2]) (st' := []) (h' := h) (fun n w => w) (fun b2 => ?_) (fun b2 => ?_)
    · rw [if_pos b2] at e
      exact hw_81_21 hd e q
    · rw [if_neg b2] at e
      obtain ⟨q3, eq3, e⟩ := hs_bind_some e
      try dsimp only at e
      refine hs_wc 6 (y := 82) (a := [hs_r 8 o, hs_i a2]) (v := some (hs_i q3.1)) (pc' := 20) (ls' := [hs_r 8 o, hs_i a1, hs_i a2]) (st' := [hs_i a1, hs_r 32 o]) (h' := h) (h2 := q3.2) (fun n w => w) (fun q => hc_82 (by omega) eq3 q) ?_
      obtain ⟨c4, e⟩ := hs_ck_some e
      refine hs_wa 1 (c := vp_in a1 40) (pc' := 21) (ls' := [hs_r 8 o, hs_i a1, hs_i a2]) (st' := []) (h' := hs_put q3.2 32 o a1.toNatClampNeg q3.1) (fun n w => w) (hs_inb_iff.mp c4) ?_
      exact hw_81_21 hd e q
def hb_140_9     (h : hs_H) : Option (Int32 × hs_H) := some (nI 4294967295, h)
set_option maxHeartbeats 1000000 in
theorem hw_140_9 {S : hs_S} {d : Nat} {Q : hs_Q} (hd : 2 ≤ d)      {v1 : hs_V} {v2 : hs_V} {v3 : hs_V} {v4 : hs_V} {h : hs_H} {r : Int32 × hs_H} (e : hb_140_9 h = some r) (q : Q (some (hs_i r.1)) r.2) : hs_W S d 1 hs_p140 Q 9 [hs_r 11 0, v1, v2, v3, v4] [] h := by
  unfold hb_140_9 at e
  obtain rfl := Option.some.inj e
  exact hs_wr 2 (v := some (hs_i (nI 4294967295))) (h' := h) (fun n w => w) q
/-- HuntedScent.lay(III)I -/
def hf_140 (a1 : Int32) (a2 : Int32) (a3 : Int32) (h : hs_H) : Option (Int32 × hs_H) := if a1 < 0 then (hb_140_9 h) else (if a1 < (nI 4) then (hs_ck (hs_inb a1 4) ((hf_79 a1.toNatClampNeg a2 (nI 1) h).bind (fun q4 => if q4.1 = 0 then (hs_ck (hs_inb a1 4) ((hf_81 a1.toNatClampNeg a2 a3 q4.2).bind (fun q7 => some (nI 1, q7)))) else (some ((nI 4294967286) - q4.1, q4.2))))) else (hb_140_9 h))
set_option maxHeartbeats 1000000 in
theorem hc_140 {S : hs_S} {D : Nat} {Q : hs_Q} (hD : 3 ≤ D) {a1 : Int32} {a2 : Int32} {a3 : Int32} {h : hs_H} {r : Int32 × hs_H} (e : hf_140 a1 a2 a3 h = some r) (q : Q (some (hs_i r.1)) r.2) : hs_call hs_ms S D 140 [hs_r 11 0, hs_i a1, hs_i a2, hs_i a3] h Q := by
  refine hs_go (R := 2) hD rfl (Nat.le_of_ble_eq_true rfl) (fun d hd => ?_)
  show hs_W S d 1 hs_p140 Q 0 [hs_r 11 0, hs_i a1, hs_i a2, hs_i a3, hs_u] [] h
  unfold hf_140 at e
  refine hs_wb 2 (c := a1 < 0) (t := 9) (f := 4) (ls' := [hs_r 11 0, hs_i a1, hs_i a2, hs_i a3, hs_u]) (st' := []) (h' := h) (fun n w => w) (fun b1 => ?_) (fun b1 => ?_)
  · rw [if_pos b1] at e
    exact hw_140_9 hd e q
  · rw [if_neg b1] at e
    refine hs_wb 3 (c := a1 < (nI 4)) (t := 11) (f := 9) (ls' := [hs_r 11 0, hs_i a1, hs_i a2, hs_i a3, hs_u]) (st' := []) (h' := h) (fun n w => w) (fun b2 => ?_) (fun b2 => ?_)
    · rw [if_pos b2] at e
      obtain ⟨c3, e⟩ := hs_ck_some e
      refine hs_wa 4 (c := vp_in a1 4) (pc' := 17) (ls' := [hs_r 11 0, hs_i a1, hs_i a2, hs_i a3, hs_u]) (st' := [hs_r 8 a1.toNatClampNeg]) (h' := h) (fun n w => w) (hs_inb_iff.mp c3) ?_
      obtain ⟨q4, eq4, e⟩ := hs_bind_some e
      try dsimp only at e
      refine hs_wc 3 (y := 79) (a := [hs_r 8 a1.toNatClampNeg, hs_i a2, hs_i (nI 1)]) (v := some (hs_i q4.1)) (pc' := 22) (ls' := [hs_r 11 0, hs_i a1, hs_i a2, hs_i a3, hs_u]) (st' := []) (h' := h) (h2 := q4.2) (fun n w => w) (fun q => hc_79 (by omega) eq4 q) ?_
      refine hs_wb 3 (c := q4.1 = 0) (t := 35) (f := 29) (ls' := [hs_r 11 0, hs_i a1, hs_i a2, hs_i a3, hs_i q4.1]) (st' := []) (h' := q4.2) (fun n w => w) (fun b5 => ?_) (fun b5 => ?_)
      · rw [if_pos b5] at e
        obtain ⟨c6, e⟩ := hs_ck_some e
        refine hs_wa 4 (c := vp_in a1 4) (pc' := 41) (ls' := [hs_r 11 0, hs_i a1, hs_i a2, hs_i a3, hs_i q4.1]) (st' := [hs_r 8 a1.toNatClampNeg]) (h' := q4.2) (fun n w => w) (hs_inb_iff.mp c6) ?_
        obtain ⟨q7, eq7, e⟩ := hs_bind_some e
        try dsimp only at e
        refine hs_wc 3 (y := 81) (a := [hs_r 8 a1.toNatClampNeg, hs_i a2, hs_i a3]) (v := none) (pc' := 46) (ls' := [hs_r 11 0, hs_i a1, hs_i a2, hs_i a3, hs_i q4.1]) (st' := []) (h' := q4.2) (h2 := q7) (fun n w => w) (fun q => hc_81 (by omega) eq7 q) ?_
        obtain rfl := Option.some.inj e
        exact hs_wr 2 (v := some (hs_i (nI 1))) (h' := q7) (fun n w => w) q
      · rw [if_neg b5] at e
        obtain rfl := Option.some.inj e
        exact hs_wr 4 (v := some (hs_i ((nI 4294967286) - q4.1))) (h' := q4.2) (fun n w => w) q
    · rw [if_neg b2] at e
      exact hw_140_9 hd e q
def hb_80_27 (o : Nat)   (s0 : Int32) (h : hs_H) : Option (Int32 × hs_H) := some (s0, h)
set_option maxHeartbeats 1000000 in
theorem hw_80_27 {S : hs_S} {d : Nat} {Q : hs_Q} (hd : 1 ≤ d) {o : Nat}    {s0 : Int32} {v1 : hs_V} {v2 : hs_V} {v3 : hs_V} {h : hs_H} {r : Int32 × hs_H} (e : hb_80_27 o s0 h = some r) (q : Q (some (hs_i r.1)) r.2) : hs_W S d 1 hs_p80 Q 27 [hs_r 8 o, v1, v2, v3] [hs_i s0] h := by
  unfold hb_80_27 at e
  obtain rfl := Option.some.inj e
  exact hs_wr 1 (v := some (hs_i s0)) (h' := h) (fun n w => w) q
def hb_80_21 (o : Nat)  (x2 : Int32) (x3 : Int32)  (h : hs_H) : Option (Int32 × hs_H) := (hf_79 o x2 x3 h).bind (fun q2 => hb_80_27 o q2.1 q2.2)
set_option maxHeartbeats 1000000 in
theorem hw_80_21 {S : hs_S} {d : Nat} {Q : hs_Q} (hd : 1 ≤ d) {o : Nat}   {x2 : Int32} {x3 : Int32}  {v1 : hs_V} {h : hs_H} {r : Int32 × hs_H} (e : hb_80_21 o x2 x3 h = some r) (q : Q (some (hs_i r.1)) r.2) : hs_W S d 1 hs_p80 Q 21 [hs_r 8 o, v1, hs_i x2, hs_i x3] [] h := by
  unfold hb_80_21 at e
  obtain ⟨q2, eq2, e⟩ := hs_bind_some e
  try dsimp only at e
  refine hs_wc 4 (y := 79) (a := [hs_r 8 o, hs_i x2, hs_i x3]) (v := some (hs_i q2.1)) (pc' := 27) (ls' := [hs_r 8 o, v1, hs_i x2, hs_i x3]) (st' := []) (h' := h) (h2 := q2.2) (fun n w => w) (fun q => hc_79 (by omega) eq2 q) ?_
  exact hw_80_27 hd e q
/-- HuntedScent$Sheet.faultAs(III)I -/
def hf_80 (o : Nat) (a1 : Int32) (a2 : Int32) (a3 : Int32) (h : hs_H) : Option (Int32 × hs_H) := if (h.1 8 o 2) = (nI 4294967292) then (hb_80_21 o a2 a3 h) else (if (h.1 8 o 1) = a1 then (hb_80_21 o a2 a3 h) else (hb_80_27 o (nI 3) h))
set_option maxHeartbeats 1000000 in
theorem hc_80 {S : hs_S} {D : Nat} {Q : hs_Q} (hD : 2 ≤ D) {o : Nat} {a1 : Int32} {a2 : Int32} {a3 : Int32} {h : hs_H} {r : Int32 × hs_H} (e : hf_80 o a1 a2 a3 h = some r) (q : Q (some (hs_i r.1)) r.2) : hs_call hs_ms S D 80 [hs_r 8 o, hs_i a1, hs_i a2, hs_i a3] h Q := by
  refine hs_go (R := 1) hD rfl (Nat.le_of_ble_eq_true rfl) (fun d hd => ?_)
  show hs_W S d 1 hs_p80 Q 0 [hs_r 8 o, hs_i a1, hs_i a2, hs_i a3] [] h
  unfold hf_80 at e
  refine hs_wb 4 (c := (h.1 8 o 2) = (nI 4294967292)) (t := 21) (f := 9) (ls' := [hs_r 8 o, hs_i a1, hs_i a2, hs_i a3]) (st' := []) (h' := h) (fun n w => w) (fun b1 => ?_) (fun b1 => ?_)
  · rw [if_pos b1] at e
    exact hw_80_21 hd e q
  · rw [if_neg b1] at e
    refine hs_wb 4 (c := (h.1 8 o 1) = a1) (t := 21) (f := 17) (ls' := [hs_r 8 o, hs_i a1, hs_i a2, hs_i a3]) (st' := []) (h' := h) (fun n w => w) (fun b3 => ?_) (fun b3 => ?_)
    · rw [if_pos b3] at e
      exact hw_80_21 hd e q
    · rw [if_neg b3] at e
      refine hs_w 2 (pc' := 27) (ls' := [hs_r 8 o, hs_i a1, hs_i a2, hs_i a3]) (st' := [hs_i (nI 3)]) (h' := h) (fun n w => w) ?_
      exact hw_80_27 hd e q
def hb_83_20 (o : Nat)   (s0 : Int32) (h : hs_H) : Option (Int32 × hs_H) := some (s0, h)
set_option maxHeartbeats 1000000 in
theorem hw_83_20 {S : hs_S} {d : Nat} {Q : hs_Q} (hd : 0 ≤ d) {o : Nat}    {s0 : Int32} {v1 : hs_V} {h : hs_H} {r : Int32 × hs_H} (e : hb_83_20 o s0 h = some r) (q : Q (some (hs_i r.1)) r.2) : hs_W S d 1 hs_p83 Q 20 [hs_r 8 o, v1] [hs_i s0] h := by
  unfold hb_83_20 at e
  obtain rfl := Option.some.inj e
  exact hs_wr 1 (v := some (hs_i s0)) (h' := h) (fun n w => w) q
def hb_83_19 (o : Nat)    (h : hs_H) : Option (Int32 × hs_H) := hb_83_20 o (nI 0) h
set_option maxHeartbeats 1000000 in
theorem hw_83_19 {S : hs_S} {d : Nat} {Q : hs_Q} (hd : 0 ≤ d) {o : Nat}     {v1 : hs_V} {h : hs_H} {r : Int32 × hs_H} (e : hb_83_19 o h = some r) (q : Q (some (hs_i r.1)) r.2) : hs_W S d 1 hs_p83 Q 19 [hs_r 8 o, v1] [] h := by
  unfold hb_83_19 at e
  refine hs_w 1 (pc' := 20) (ls' := [hs_r 8 o, v1]) (st' := [hs_i (nI 0)]) (h' := h) (fun n w => w) ?_
  exact hw_83_20 hd e q
/-- HuntedScent$Sheet.valueOf(I)I -/
def hf_83 (o : Nat) (a1 : Int32) (h : hs_H) : Option (Int32 × hs_H) := if a1 < 0 then (hb_83_19 o h) else (if (nI 40) ≤ a1 then (hb_83_19 o h) else (hs_ck (hs_inb a1 40) (hb_83_20 o (h.1 32 o a1.toNatClampNeg) h)))
set_option maxHeartbeats 1000000 in
theorem hc_83 {S : hs_S} {D : Nat} {Q : hs_Q} (hD : 1 ≤ D) {o : Nat} {a1 : Int32} {h : hs_H} {r : Int32 × hs_H} (e : hf_83 o a1 h = some r) (q : Q (some (hs_i r.1)) r.2) : hs_call hs_ms S D 83 [hs_r 8 o, hs_i a1] h Q := by
  refine hs_go (R := 0) hD rfl (Nat.le_of_ble_eq_true rfl) (fun d hd => ?_)
  show hs_W S d 1 hs_p83 Q 0 [hs_r 8 o, hs_i a1] [] h
  unfold hf_83 at e
  refine hs_wb 2 (c := a1 < 0) (t := 19) (f := 4) (ls' := [hs_r 8 o, hs_i a1]) (st' := []) (h' := h) (fun n w => w) (fun b1 => ?_) (fun b1 => ?_)
  · rw [if_pos b1] at e
    exact hw_83_19 hd e q
  · rw [if_neg b1] at e
    refine hs_wb 3 (c := (nI 40) ≤ a1) (t := 19) (f := 10) (ls' := [hs_r 8 o, hs_i a1]) (st' := []) (h' := h) (fun n w => w) (fun b2 => ?_) (fun b2 => ?_)
    · rw [if_pos b2] at e
      exact hw_83_19 hd e q
    · rw [if_neg b2] at e
      obtain ⟨c3, e⟩ := hs_ck_some e
      refine hs_wa 4 (c := vp_in a1 40) (pc' := 16) (ls' := [hs_r 8 o, hs_i a1]) (st' := [hs_i (h.1 32 o a1.toNatClampNeg)]) (h' := h) (fun n w => w) (hs_inb_iff.mp c3) ?_
      refine hs_w 1 (pc' := 20) (ls' := [hs_r 8 o, hs_i a1]) (st' := [hs_i (h.1 32 o a1.toNatClampNeg)]) (h' := h) (fun n w => w) ?_
      exact hw_83_20 hd e q
def hb_141_28     (h : hs_H) : Option (Int32 × hs_H) := some (nI 4294967295, h)
set_option maxHeartbeats 1000000 in
theorem hw_141_28 {S : hs_S} {d : Nat} {Q : hs_Q} (hd : 2 ≤ d)      {v1 : hs_V} {v2 : hs_V} {v3 : hs_V} {v4 : hs_V} {v5 : hs_V} {v6 : hs_V} {v7 : hs_V} {v8 : hs_V} {v9 : hs_V} {h : hs_H} {r : Int32 × hs_H} (e : hb_141_28 h = some r) (q : Q (some (hs_i r.1)) r.2) : hs_W S d 1 hs_p141 Q 28 [hs_r 11 0, v1, v2, v3, v4, v5, v6, v7, v8, v9] [] h := by
  unfold hb_141_28 at e
  obtain rfl := Option.some.inj e
  exact hs_wr 2 (v := some (hs_i (nI 4294967295))) (h' := h) (fun n w => w) q
def hb_141_50  (k50 : Int32 × Int32 × Int32 × Nat × Int32 × Int32 × hs_H → Option (Int32 × hs_H)) (x2 : Int32) (x3 : Int32) (x4 : Int32) (x5 : Nat) (x6 : Int32) (x7 : Int32)  (h : hs_H) : Option (Int32 × hs_H) := if x4 ≤ x7 then (some (x4, hs_put h 11 0 11 (nI 0))) else ((hf_80 x5 x2 (x3 + ((nI 3) * x7)) (nI 3) h).bind (fun q9 => if q9.1 = 0 then ((hf_83 x5 (x3 + ((nI 3) * x7)) q9.2).bind (fun q11 => (hf_83 x5 ((x3 + ((nI 3) * x7)) + (nI 1)) q11.2).bind (fun q12 => (hf_83 x5 ((x3 + ((nI 3) * x7)) + (nI 2)) q12.2).bind (fun q13 => (hf_118 q11.1 q12.1 q13.1 q13.2).bind (fun q14 => if 0 ≤ q14.1 then (k50 (x2, x3, x4, x5, x6, x7 + nI 1, q14.2)) else ((hf_47 0 x6 q14.2).bind (fun q16 => some ((nI 4294967276) - x7, q16)))))))) else (some (x7, hs_put q9.2 11 0 11 q9.1))))
set_option maxHeartbeats 1000000 in
theorem hw_141_50 {S : hs_S} {d : Nat} {Q : hs_Q} (hd : 2 ≤ d)  {k50 : Int32 × Int32 × Int32 × Nat × Int32 × Int32 × hs_H → Option (Int32 × hs_H)} (hk50 : ∀ (x2 : Int32) (x3 : Int32) (x4 : Int32) (x5 : Nat) (x6 : Int32) (x7 : Int32) (h : hs_H) (r : Int32 × hs_H) (v1 : hs_V) (v8 : hs_V) (v9 : hs_V), k50 (x2, x3, x4, x5, x6, x7, h) = some r → Q (some (hs_i r.1)) r.2 → hs_W S d 1 hs_p141 Q 50 [hs_r 11 0, v1, hs_i x2, hs_i x3, hs_i x4, hs_r 8 x5, hs_i x6, hs_i x7, v8, v9] [] h) {x2 : Int32} {x3 : Int32} {x4 : Int32} {x5 : Nat} {x6 : Int32} {x7 : Int32}  {v1 : hs_V} {v8 : hs_V} {v9 : hs_V} {h : hs_H} {r : Int32 × hs_H} (e : hb_141_50 k50 x2 x3 x4 x5 x6 x7 h = some r) (q : Q (some (hs_i r.1)) r.2) : hs_W S d 1 hs_p141 Q 50 [hs_r 11 0, v1, hs_i x2, hs_i x3, hs_i x4, hs_r 8 x5, hs_i x6, hs_i x7, v8, v9] [] h := by
  unfold hb_141_50 at e
  refine hs_wb 3 (c := x4 ≤ x7) (t := 143) (f := 57) (ls' := [hs_r 11 0, v1, hs_i x2, hs_i x3, hs_i x4, hs_r 8 x5, hs_i x6, hs_i x7, v8, v9]) (st' := []) (h' := h) (fun n w => w) (fun b8 => ?_) (fun b8 => ?_)
  · rw [if_pos b8] at e
    obtain rfl := Option.some.inj e
    exact hs_wr 5 (v := some (hs_i x4)) (h' := hs_put h 11 0 11 (nI 0)) (fun n w => w) q
  · rw [if_neg b8] at e
    obtain ⟨q9, eq9, e⟩ := hs_bind_some e
    try dsimp only at e
    refine hs_wc 11 (y := 80) (a := [hs_r 8 x5, hs_i x2, hs_i (x3 + ((nI 3) * x7)), hs_i (nI 3)]) (v := some (hs_i q9.1)) (pc' := 74) (ls' := [hs_r 11 0, v1, hs_i x2, hs_i x3, hs_i x4, hs_r 8 x5, hs_i x6, hs_i x7, hs_i (x3 + ((nI 3) * x7)), v9]) (st' := []) (h' := h) (h2 := q9.2) (fun n w => w) (fun q => hc_80 (by omega) eq9 q) ?_
    refine hs_wb 3 (c := q9.1 = 0) (t := 90) (f := 81) (ls' := [hs_r 11 0, v1, hs_i x2, hs_i x3, hs_i x4, hs_r 8 x5, hs_i x6, hs_i x7, hs_i (x3 + ((nI 3) * x7)), hs_i q9.1]) (st' := []) (h' := q9.2) (fun n w => w) (fun b10 => ?_) (fun b10 => ?_)
    · rw [if_pos b10] at e
      obtain ⟨q11, eq11, e⟩ := hs_bind_some e
      try dsimp only at e
      refine hs_wc 4 (y := 83) (a := [hs_r 8 x5, hs_i (x3 + ((nI 3) * x7))]) (v := some (hs_i q11.1)) (pc' := 98) (ls' := [hs_r 11 0, v1, hs_i x2, hs_i x3, hs_i x4, hs_r 8 x5, hs_i x6, hs_i x7, hs_i (x3 + ((nI 3) * x7)), hs_i q9.1]) (st' := [hs_r 11 0]) (h' := q9.2) (h2 := q11.2) (fun n w => w) (fun q => hc_83 (by omega) eq11 q) ?_
      obtain ⟨q12, eq12, e⟩ := hs_bind_some e
      try dsimp only at e
      refine hs_wc 5 (y := 83) (a := [hs_r 8 x5, hs_i ((x3 + ((nI 3) * x7)) + (nI 1))]) (v := some (hs_i q12.1)) (pc' := 107) (ls' := [hs_r 11 0, v1, hs_i x2, hs_i x3, hs_i x4, hs_r 8 x5, hs_i x6, hs_i x7, hs_i (x3 + ((nI 3) * x7)), hs_i q9.1]) (st' := [hs_i q11.1, hs_r 11 0]) (h' := q11.2) (h2 := q12.2) (fun n w => w) (fun q => hc_83 (by omega) eq12 q) ?_
      obtain ⟨q13, eq13, e⟩ := hs_bind_some e
      try dsimp only at e
      refine hs_wc 5 (y := 83) (a := [hs_r 8 x5, hs_i ((x3 + ((nI 3) * x7)) + (nI 2))]) (v := some (hs_i q13.1)) (pc' := 116) (ls' := [hs_r 11 0, v1, hs_i x2, hs_i x3, hs_i x4, hs_r 8 x5, hs_i x6, hs_i x7, hs_i (x3 + ((nI 3) * x7)), hs_i q9.1]) (st' := [hs_i q12.1, hs_i q11.1, hs_r 11 0]) (h' := q12.2) (h2 := q13.2) (fun n w => w) (fun q => hc_83 (by omega) eq13 q) ?_
      obtain ⟨q14, eq14, e⟩ := hs_bind_some e
      try dsimp only at e
      refine hs_wc 1 (y := 118) (a := [hs_r 11 0, hs_i q11.1, hs_i q12.1, hs_i q13.1]) (v := some (hs_i q14.1)) (pc' := 119) (ls' := [hs_r 11 0, v1, hs_i x2, hs_i x3, hs_i x4, hs_r 8 x5, hs_i x6, hs_i x7, hs_i (x3 + ((nI 3) * x7)), hs_i q9.1]) (st' := []) (h' := q13.2) (h2 := q14.2) (fun n w => w) (fun q => hc_118 (by omega) eq14 q) ?_
      refine hs_wb 1 (c := 0 ≤ q14.1) (t := 137) (f := 122) (ls' := [hs_r 11 0, v1, hs_i x2, hs_i x3, hs_i x4, hs_r 8 x5, hs_i x6, hs_i x7, hs_i (x3 + ((nI 3) * x7)), hs_i q9.1]) (st' := []) (h' := q14.2) (fun n w => w) (fun b15 => ?_) (fun b15 => ?_)
      · rw [if_pos b15] at e
        refine hs_w 2 (pc' := 50) (ls' := [hs_r 11 0, v1, hs_i x2, hs_i x3, hs_i x4, hs_r 8 x5, hs_i x6, hs_i (x7 + nI 1), hs_i (x3 + ((nI 3) * x7)), hs_i q9.1]) (st' := []) (h' := q14.2) (fun n w => w) ?_
        exact hk50 _ _ _ _ _ _ _ _ _ _ _ e q
      · rw [if_neg b15] at e
        obtain ⟨q16, eq16, e⟩ := hs_bind_some e
        try dsimp only at e
        refine hs_wc 4 (y := 47) (a := [hs_r 5 0, hs_i x6]) (v := none) (pc' := 131) (ls' := [hs_r 11 0, v1, hs_i x2, hs_i x3, hs_i x4, hs_r 8 x5, hs_i x6, hs_i x7, hs_i (x3 + ((nI 3) * x7)), hs_i q9.1]) (st' := []) (h' := q14.2) (h2 := q16) (fun n w => w) (fun q => hc_47 (by omega) eq16 q) ?_
        obtain rfl := Option.some.inj e
        exact hs_wr 4 (v := some (hs_i ((nI 4294967276) - x7))) (h' := q16) (fun n w => w) q
    · rw [if_neg b10] at e
      obtain rfl := Option.some.inj e
      exact hs_wr 5 (v := some (hs_i x7)) (h' := hs_put q9.2 11 0 11 q9.1) (fun n w => w) q
theorem hw_141_50_lp {S : hs_S} {d : Nat} {Q : hs_Q} (hd : 2 ≤ d)    (n : Nat) {x2 : Int32} {x3 : Int32} {x4 : Int32} {x5 : Nat} {x6 : Int32} {x7 : Int32} {h : hs_H} {r : Int32 × hs_H} (e : hs_lp (fun k s => hb_141_50 k s.1 s.2.1 s.2.2.1 s.2.2.2.1 s.2.2.2.2.1 s.2.2.2.2.2.1 s.2.2.2.2.2.2) n (x2, x3, x4, x5, x6, x7, h) = some r) (v1 : hs_V) (v8 : hs_V) (v9 : hs_V) (q : Q (some (hs_i r.1)) r.2) : hs_W S d 1 hs_p141 Q 50 [hs_r 11 0, v1, hs_i x2, hs_i x3, hs_i x4, hs_r 8 x5, hs_i x6, hs_i x7, v8, v9] [] h := by
  refine hs_lp_ind (P := fun (s : Int32 × Int32 × Int32 × Nat × Int32 × Int32 × hs_H) (r : Int32 × hs_H) => ∀ (v1 : hs_V) (v8 : hs_V) (v9 : hs_V), Q (some (hs_i r.1)) r.2 → hs_W S d 1 hs_p141 Q 50 [hs_r 11 0, v1, hs_i s.1, hs_i s.2.1, hs_i s.2.2.1, hs_r 8 s.2.2.2.1, hs_i s.2.2.2.2.1, hs_i s.2.2.2.2.2.1, v8, v9] [] s.2.2.2.2.2.2) (fun k hk s r e v1 v8 v9 q => ?_) n (x2, x3, x4, x5, x6, x7, h) r e v1 v8 v9 q
  exact hw_141_50 hd (fun x2 x3 x4 x5 x6 x7 h r v1 v8 v9 e q => hk (x2, x3, x4, x5, x6, x7, h) r e v1 v8 v9 q) e q
/-- HuntedScent.read(IIII)I -/
def hf_141 (a1 : Int32) (a2 : Int32) (a3 : Int32) (a4 : Int32) (h : hs_H) : Option (Int32 × hs_H) := if a1 < 0 then (hb_141_28 h) else (if (nI 4) ≤ a1 then (hb_141_28 h) else ((hf_145 a2 h).bind (fun q3 => if q3.1 = 0 then (hb_141_28 q3.2) else (if a4 < 0 then (hb_141_28 q3.2) else (if a4 ≤ (nI 10) then (hs_ck (hs_inb a1 4) (hs_lp (fun k s => hb_141_50 k s.1 s.2.1 s.2.2.1 s.2.2.2.1 s.2.2.2.2.1 s.2.2.2.2.2.1 s.2.2.2.2.2.2) hs_big (a2, a3, a4, a1.toNatClampNeg, q3.2.1 5 0 3, nI 0, q3.2))) else (hb_141_28 q3.2))))))
set_option maxHeartbeats 1000000 in
theorem hc_141 {S : hs_S} {D : Nat} {Q : hs_Q} (hD : 3 ≤ D) {a1 : Int32} {a2 : Int32} {a3 : Int32} {a4 : Int32} {h : hs_H} {r : Int32 × hs_H} (e : hf_141 a1 a2 a3 a4 h = some r) (q : Q (some (hs_i r.1)) r.2) : hs_call hs_ms S D 141 [hs_r 11 0, hs_i a1, hs_i a2, hs_i a3, hs_i a4] h Q := by
  refine hs_go (R := 2) hD rfl (Nat.le_of_ble_eq_true rfl) (fun d hd => ?_)
  show hs_W S d 1 hs_p141 Q 0 [hs_r 11 0, hs_i a1, hs_i a2, hs_i a3, hs_i a4, hs_u, hs_u, hs_u, hs_u, hs_u] [] h
  unfold hf_141 at e
  refine hs_wb 2 (c := a1 < 0) (t := 28) (f := 4) (ls' := [hs_r 11 0, hs_i a1, hs_i a2, hs_i a3, hs_i a4, hs_u, hs_u, hs_u, hs_u, hs_u]) (st' := []) (h' := h) (fun n w => w) (fun b1 => ?_) (fun b1 => ?_)
  · rw [if_pos b1] at e
    exact hw_141_28 hd e q
  · rw [if_neg b1] at e
    refine hs_wb 3 (c := (nI 4) ≤ a1) (t := 28) (f := 9) (ls' := [hs_r 11 0, hs_i a1, hs_i a2, hs_i a3, hs_i a4, hs_u, hs_u, hs_u, hs_u, hs_u]) (st' := []) (h' := h) (fun n w => w) (fun b2 => ?_) (fun b2 => ?_)
    · rw [if_pos b2] at e
      exact hw_141_28 hd e q
    · rw [if_neg b2] at e
      obtain ⟨q3, eq3, e⟩ := hs_bind_some e
      try dsimp only at e
      refine hs_wc 2 (y := 145) (a := [hs_i a2]) (v := some (hs_i q3.1)) (pc' := 13) (ls' := [hs_r 11 0, hs_i a1, hs_i a2, hs_i a3, hs_i a4, hs_u, hs_u, hs_u, hs_u, hs_u]) (st' := []) (h' := h) (h2 := q3.2) (fun n w => w) (fun q => hc_145 (by omega) eq3 q) ?_
      refine hs_wb 1 (c := q3.1 = 0) (t := 28) (f := 16) (ls' := [hs_r 11 0, hs_i a1, hs_i a2, hs_i a3, hs_i a4, hs_u, hs_u, hs_u, hs_u, hs_u]) (st' := []) (h' := q3.2) (fun n w => w) (fun b4 => ?_) (fun b4 => ?_)
      · rw [if_pos b4] at e
        exact hw_141_28 hd e q
      · rw [if_neg b4] at e
        refine hs_wb 2 (c := a4 < 0) (t := 28) (f := 21) (ls' := [hs_r 11 0, hs_i a1, hs_i a2, hs_i a3, hs_i a4, hs_u, hs_u, hs_u, hs_u, hs_u]) (st' := []) (h' := q3.2) (fun n w => w) (fun b5 => ?_) (fun b5 => ?_)
        · rw [if_pos b5] at e
          exact hw_141_28 hd e q
        · rw [if_neg b5] at e
          refine hs_wb 3 (c := a4 ≤ (nI 10)) (t := 30) (f := 28) (ls' := [hs_r 11 0, hs_i a1, hs_i a2, hs_i a3, hs_i a4, hs_u, hs_u, hs_u, hs_u, hs_u]) (st' := []) (h' := q3.2) (fun n w => w) (fun b6 => ?_) (fun b6 => ?_)
          · rw [if_pos b6] at e
            obtain ⟨c7, e⟩ := hs_ck_some e
            refine hs_wa 4 (c := vp_in a1 4) (pc' := 36) (ls' := [hs_r 11 0, hs_i a1, hs_i a2, hs_i a3, hs_i a4, hs_u, hs_u, hs_u, hs_u, hs_u]) (st' := [hs_r 8 a1.toNatClampNeg]) (h' := q3.2) (fun n w => w) (hs_inb_iff.mp c7) ?_
            refine hs_w 7 (pc' := 50) (ls' := [hs_r 11 0, hs_i a1, hs_i a2, hs_i a3, hs_i a4, hs_r 8 a1.toNatClampNeg, hs_i (q3.2.1 5 0 3), hs_i (nI 0), hs_u, hs_u]) (st' := []) (h' := q3.2) (fun n w => w) ?_
            exact hw_141_50_lp hd hs_big e _ _ _ q
          · rw [if_neg b6] at e
            exact hw_141_28 hd e q
/-- HuntedScent.torn()I -/
def hf_142  (h : hs_H) : Option (Int32 × hs_H) := some (h.1 11 0 11, h)
set_option maxHeartbeats 1000000 in
theorem hc_142 {S : hs_S} {D : Nat} {Q : hs_Q} (hD : 1 ≤ D)  {h : hs_H} {r : Int32 × hs_H} (e : hf_142 h = some r) (q : Q (some (hs_i r.1)) r.2) : hs_call hs_ms S D 142 [hs_r 11 0] h Q := by
  refine hs_go (R := 0) hD rfl (Nat.le_of_ble_eq_true rfl) (fun d hd => ?_)
  show hs_W S d 1 hs_p142 Q 0 [hs_r 11 0] [] h
  unfold hf_142 at e
  obtain rfl := Option.some.inj e
  exact hs_wr 3 (v := some (hs_i (h.1 11 0 11))) (h' := h) (fun n w => w) q
def hb_94_25 (o : Nat) (k4 : Int32 × Int32 × hs_H → Option (Int32 × hs_H)) (x2 : Int32) (s0 : Int32) (s1 : Int32) (h : hs_H) : Option (Int32 × hs_H) := k4 (s1 + s0, x2 + nI 1, h)
set_option maxHeartbeats 1000000 in
theorem hw_94_25 {S : hs_S} {d : Nat} {Q : hs_Q} (hd : 0 ≤ d) {o : Nat} {k4 : Int32 × Int32 × hs_H → Option (Int32 × hs_H)} (hk4 : ∀ (x1 : Int32) (x2 : Int32) (h : hs_H) (r : Int32 × hs_H) , k4 (x1, x2, h) = some r → Q (some (hs_i r.1)) r.2 → hs_W S d 1 hs_p94 Q 4 [hs_r 9 o, hs_i x1, hs_i x2] [] h) {x2 : Int32} {s0 : Int32} {s1 : Int32} {v1 : hs_V} {h : hs_H} {r : Int32 × hs_H} (e : hb_94_25 o k4 x2 s0 s1 h = some r) (q : Q (some (hs_i r.1)) r.2) : hs_W S d 1 hs_p94 Q 25 [hs_r 9 o, v1, hs_i x2] [hs_i s0, hs_i s1] h := by
  unfold hb_94_25 at e
  refine hs_w 4 (pc' := 4) (ls' := [hs_r 9 o, hs_i (s1 + s0), hs_i (x2 + nI 1)]) (st' := []) (h' := h) (fun n w => w) ?_
  exact hk4 _ _ _ _  e q
def hb_94_4 (o : Nat) (k4 : Int32 × Int32 × hs_H → Option (Int32 × hs_H)) (x1 : Int32) (x2 : Int32)  (h : hs_H) : Option (Int32 × hs_H) := if (nI 10) ≤ x2 then (some (x1, h)) else (hs_ck (hs_inb x2 10) (if (h.1 33 o x2.toNatClampNeg) ≤ 0 then (hb_94_25 o k4 x2 (nI 0) x1 h) else (hb_94_25 o k4 x2 (nI 1) x1 h)))
set_option maxHeartbeats 1000000 in
theorem hw_94_4 {S : hs_S} {d : Nat} {Q : hs_Q} (hd : 0 ≤ d) {o : Nat} {k4 : Int32 × Int32 × hs_H → Option (Int32 × hs_H)} (hk4 : ∀ (x1 : Int32) (x2 : Int32) (h : hs_H) (r : Int32 × hs_H) , k4 (x1, x2, h) = some r → Q (some (hs_i r.1)) r.2 → hs_W S d 1 hs_p94 Q 4 [hs_r 9 o, hs_i x1, hs_i x2] [] h) {x1 : Int32} {x2 : Int32}   {h : hs_H} {r : Int32 × hs_H} (e : hb_94_4 o k4 x1 x2 h = some r) (q : Q (some (hs_i r.1)) r.2) : hs_W S d 1 hs_p94 Q 4 [hs_r 9 o, hs_i x1, hs_i x2] [] h := by
  unfold hb_94_4 at e
  refine hs_wb 3 (c := (nI 10) ≤ x2) (t := 33) (f := 10) (ls' := [hs_r 9 o, hs_i x1, hs_i x2]) (st' := []) (h' := h) (fun n w => w) (fun b1 => ?_) (fun b1 => ?_)
  · rw [if_pos b1] at e
    obtain rfl := Option.some.inj e
    exact hs_wr 2 (v := some (hs_i x1)) (h' := h) (fun n w => w) q
  · rw [if_neg b1] at e
    obtain ⟨c2, e⟩ := hs_ck_some e
    refine hs_wa 5 (c := vp_in x2 10) (pc' := 17) (ls' := [hs_r 9 o, hs_i x1, hs_i x2]) (st' := [hs_i (h.1 33 o x2.toNatClampNeg), hs_i x1]) (h' := h) (fun n w => w) (hs_inb_iff.mp c2) ?_
    refine hs_wb 1 (c := (h.1 33 o x2.toNatClampNeg) ≤ 0) (t := 24) (f := 20) (ls' := [hs_r 9 o, hs_i x1, hs_i x2]) (st' := [hs_i x1]) (h' := h) (fun n w => w) (fun b3 => ?_) (fun b3 => ?_)
    · rw [if_pos b3] at e
      refine hs_w 1 (pc' := 25) (ls' := [hs_r 9 o, hs_i x1, hs_i x2]) (st' := [hs_i (nI 0), hs_i x1]) (h' := h) (fun n w => w) ?_
      exact hw_94_25 hd hk4 e q
    · rw [if_neg b3] at e
      refine hs_w 2 (pc' := 25) (ls' := [hs_r 9 o, hs_i x1, hs_i x2]) (st' := [hs_i (nI 1), hs_i x1]) (h' := h) (fun n w => w) ?_
      exact hw_94_25 hd hk4 e q
theorem hw_94_4_lp {S : hs_S} {d : Nat} {Q : hs_Q} (hd : 0 ≤ d) {o : Nat}   (n : Nat) {x1 : Int32} {x2 : Int32} {h : hs_H} {r : Int32 × hs_H} (e : hs_lp (fun k s => hb_94_4 o k s.1 s.2.1 s.2.2) n (x1, x2, h) = some r)  (q : Q (some (hs_i r.1)) r.2) : hs_W S d 1 hs_p94 Q 4 [hs_r 9 o, hs_i x1, hs_i x2] [] h := by
  refine hs_lp_ind (P := fun (s : Int32 × Int32 × hs_H) (r : Int32 × hs_H) => ∀ (_ : True), Q (some (hs_i r.1)) r.2 → hs_W S d 1 hs_p94 Q 4 [hs_r 9 o, hs_i s.1, hs_i s.2.1] [] s.2.2) (fun k hk s r e _ q => ?_) n (x1, x2, h) r e trivial q
  exact hw_94_4 hd (fun x1 x2 h r  e q => hk (x1, x2, h) r e trivial q) e q
/-- HuntedScent$Trail.smelling()I -/
def hf_94 (o : Nat) (h : hs_H) : Option (Int32 × hs_H) := hs_lp (fun k s => hb_94_4 o k s.1 s.2.1 s.2.2) hs_big (nI 0, nI 0, h)
set_option maxHeartbeats 1000000 in
theorem hc_94 {S : hs_S} {D : Nat} {Q : hs_Q} (hD : 1 ≤ D) {o : Nat} {h : hs_H} {r : Int32 × hs_H} (e : hf_94 o h = some r) (q : Q (some (hs_i r.1)) r.2) : hs_call hs_ms S D 94 [hs_r 9 o] h Q := by
  refine hs_go (R := 0) hD rfl (Nat.le_of_ble_eq_true rfl) (fun d hd => ?_)
  show hs_W S d 1 hs_p94 Q 0 [hs_r 9 o, hs_u, hs_u] [] h
  unfold hf_94 at e
  refine hs_w 4 (pc' := 4) (ls' := [hs_r 9 o, hs_i (nI 0), hs_i (nI 0)]) (st' := []) (h' := h) (fun n w => w) ?_
  exact hw_94_4_lp hd hs_big e  q
def hb_144_27  (k4 : Int32 × Int32 × hs_H → Option (Int32 × hs_H)) (x2 : Int32) (s0 : Int32) (s1 : Int32) (h : hs_H) : Option (Int32 × hs_H) := k4 (s1 + s0, x2 + nI 1, h)
set_option maxHeartbeats 1000000 in
theorem hw_144_27 {S : hs_S} {d : Nat} {Q : hs_Q} (hd : 0 ≤ d)  {k4 : Int32 × Int32 × hs_H → Option (Int32 × hs_H)} (hk4 : ∀ (x1 : Int32) (x2 : Int32) (h : hs_H) (r : Int32 × hs_H) , k4 (x1, x2, h) = some r → Q (some (hs_i r.1)) r.2 → hs_W S d 1 hs_p144 Q 4 [hs_r 11 0, hs_i x1, hs_i x2] [] h) {x2 : Int32} {s0 : Int32} {s1 : Int32} {v1 : hs_V} {h : hs_H} {r : Int32 × hs_H} (e : hb_144_27 k4 x2 s0 s1 h = some r) (q : Q (some (hs_i r.1)) r.2) : hs_W S d 1 hs_p144 Q 27 [hs_r 11 0, v1, hs_i x2] [hs_i s0, hs_i s1] h := by
  unfold hb_144_27 at e
  refine hs_w 4 (pc' := 4) (ls' := [hs_r 11 0, hs_i (s1 + s0), hs_i (x2 + nI 1)]) (st' := []) (h' := h) (fun n w => w) ?_
  exact hk4 _ _ _ _  e q
def hb_144_4  (k4 : Int32 × Int32 × hs_H → Option (Int32 × hs_H)) (x1 : Int32) (x2 : Int32)  (h : hs_H) : Option (Int32 × hs_H) := if (nI 2) ≤ x2 then (some (x1, h)) else (hs_ck (hs_inb x2 2) (if (h.1 3 x2.toNatClampNeg 3) = 0 then (hb_144_27 k4 x2 (nI 0) x1 h) else (hb_144_27 k4 x2 (nI 1) x1 h)))
set_option maxHeartbeats 1000000 in
theorem hw_144_4 {S : hs_S} {d : Nat} {Q : hs_Q} (hd : 0 ≤ d)  {k4 : Int32 × Int32 × hs_H → Option (Int32 × hs_H)} (hk4 : ∀ (x1 : Int32) (x2 : Int32) (h : hs_H) (r : Int32 × hs_H) , k4 (x1, x2, h) = some r → Q (some (hs_i r.1)) r.2 → hs_W S d 1 hs_p144 Q 4 [hs_r 11 0, hs_i x1, hs_i x2] [] h) {x1 : Int32} {x2 : Int32}   {h : hs_H} {r : Int32 × hs_H} (e : hb_144_4 k4 x1 x2 h = some r) (q : Q (some (hs_i r.1)) r.2) : hs_W S d 1 hs_p144 Q 4 [hs_r 11 0, hs_i x1, hs_i x2] [] h := by
  unfold hb_144_4 at e
  refine hs_wb 3 (c := (nI 2) ≤ x2) (t := 35) (f := 9) (ls' := [hs_r 11 0, hs_i x1, hs_i x2]) (st' := []) (h' := h) (fun n w => w) (fun b1 => ?_) (fun b1 => ?_)
  · rw [if_pos b1] at e
    obtain rfl := Option.some.inj e
    exact hs_wr 2 (v := some (hs_i x1)) (h' := h) (fun n w => w) q
  · rw [if_neg b1] at e
    obtain ⟨c2, e⟩ := hs_ck_some e
    refine hs_wa 5 (c := vp_in x2 2) (pc' := 16) (ls' := [hs_r 11 0, hs_i x1, hs_i x2]) (st' := [hs_r 3 x2.toNatClampNeg, hs_i x1]) (h' := h) (fun n w => w) (hs_inb_iff.mp c2) ?_
    refine hs_wb 2 (c := (h.1 3 x2.toNatClampNeg 3) = 0) (t := 26) (f := 22) (ls' := [hs_r 11 0, hs_i x1, hs_i x2]) (st' := [hs_i x1]) (h' := h) (fun n w => w) (fun b3 => ?_) (fun b3 => ?_)
    · rw [if_pos b3] at e
      refine hs_w 1 (pc' := 27) (ls' := [hs_r 11 0, hs_i x1, hs_i x2]) (st' := [hs_i (nI 0), hs_i x1]) (h' := h) (fun n w => w) ?_
      exact hw_144_27 hd hk4 e q
    · rw [if_neg b3] at e
      refine hs_w 2 (pc' := 27) (ls' := [hs_r 11 0, hs_i x1, hs_i x2]) (st' := [hs_i (nI 1), hs_i x1]) (h' := h) (fun n w => w) ?_
      exact hw_144_27 hd hk4 e q
theorem hw_144_4_lp {S : hs_S} {d : Nat} {Q : hs_Q} (hd : 0 ≤ d)    (n : Nat) {x1 : Int32} {x2 : Int32} {h : hs_H} {r : Int32 × hs_H} (e : hs_lp (fun k s => hb_144_4 k s.1 s.2.1 s.2.2) n (x1, x2, h) = some r)  (q : Q (some (hs_i r.1)) r.2) : hs_W S d 1 hs_p144 Q 4 [hs_r 11 0, hs_i x1, hs_i x2] [] h := by
  refine hs_lp_ind (P := fun (s : Int32 × Int32 × hs_H) (r : Int32 × hs_H) => ∀ (_ : True), Q (some (hs_i r.1)) r.2 → hs_W S d 1 hs_p144 Q 4 [hs_r 11 0, hs_i s.1, hs_i s.2.1] [] s.2.2) (fun k hk s r e _ q => ?_) n (x1, x2, h) r e trivial q
  exact hw_144_4 hd (fun x1 x2 h r  e q => hk (x1, x2, h) r e trivial q) e q
/-- HuntedScent.imagesThere()I -/
def hf_144  (h : hs_H) : Option (Int32 × hs_H) := hs_lp (fun k s => hb_144_4 k s.1 s.2.1 s.2.2) hs_big (nI 0, nI 0, h)
set_option maxHeartbeats 1000000 in
theorem hc_144 {S : hs_S} {D : Nat} {Q : hs_Q} (hD : 1 ≤ D)  {h : hs_H} {r : Int32 × hs_H} (e : hf_144 h = some r) (q : Q (some (hs_i r.1)) r.2) : hs_call hs_ms S D 144 [hs_r 11 0] h Q := by
  refine hs_go (R := 0) hD rfl (Nat.le_of_ble_eq_true rfl) (fun d hd => ?_)
  show hs_W S d 1 hs_p144 Q 0 [hs_r 11 0, hs_u, hs_u] [] h
  unfold hf_144 at e
  refine hs_w 4 (pc' := 4) (ls' := [hs_r 11 0, hs_i (nI 0), hs_i (nI 0)]) (st' := []) (h' := h) (fun n w => w) ?_
  exact hw_144_4_lp hd hs_big e  q
/-- HuntedScent.count(I)I -/
def hf_143 (a1 : Int32) (h : hs_H) : Option (Int32 × hs_H) := if a1 = nI 0 then (some (h.1 5 0 3, h)) else (if a1 = nI 1 then ((hf_94 0 h).bind (fun q3 => some (q3.1, q3.2))) else (if a1 = nI 2 then ((hf_144 h).bind (fun q5 => some (q5.1, q5.2))) else (if a1 = nI 3 then (some (h.1 6 0 3, h)) else (if a1 = nI 4 then (hs_ck (hs_inb (nI 0) 4) (some (h.1 8 ((nI 0).toNatClampNeg) 2, h))) else (some (nI 4294967295, h))))))
set_option maxHeartbeats 1000000 in
theorem hc_143 {S : hs_S} {D : Nat} {Q : hs_Q} (hD : 2 ≤ D) {a1 : Int32} {h : hs_H} {r : Int32 × hs_H} (e : hf_143 a1 h = some r) (q : Q (some (hs_i r.1)) r.2) : hs_call hs_ms S D 143 [hs_r 11 0, hs_i a1] h Q := by
  refine hs_go (R := 1) hD rfl (Nat.le_of_ble_eq_true rfl) (fun d hd => ?_)
  show hs_W S d 1 hs_p143 Q 0 [hs_r 11 0, hs_i a1] [] h
  unfold hf_143 at e
  refine hs_ws1 2 (df := 75) (x := a1) (ps := [0, 36, 1, 44, 2, 52, 3, 57, 4, 65]) (ls' := [hs_r 11 0, hs_i a1]) (st' := []) (h' := h) (fun n w => w) ?_
  refine hs_ws2 (fun b1 => ?_) (fun b1 => ?_)
  · rw [if_pos b1] at e
    obtain rfl := Option.some.inj e
    exact hs_wr 4 (v := some (hs_i (h.1 5 0 3))) (h' := h) (fun n w => w) q
  rw [if_neg b1] at e
  refine hs_ws2 (fun b2 => ?_) (fun b2 => ?_)
  · rw [if_pos b2] at e
    obtain ⟨q3, eq3, e⟩ := hs_bind_some e
    try dsimp only at e
    refine hs_wc 3 (y := 94) (a := [hs_r 9 0]) (v := some (hs_i q3.1)) (pc' := 51) (ls' := [hs_r 11 0, hs_i a1]) (st' := []) (h' := h) (h2 := q3.2) (fun n w => w) (fun q => hc_94 (by omega) eq3 q) ?_
    obtain rfl := Option.some.inj e
    exact hs_wr 1 (v := some (hs_i q3.1)) (h' := q3.2) (fun n w => w) q
  rw [if_neg b2] at e
  refine hs_ws2 (fun b4 => ?_) (fun b4 => ?_)
  · rw [if_pos b4] at e
    obtain ⟨q5, eq5, e⟩ := hs_bind_some e
    try dsimp only at e
    refine hs_wc 2 (y := 144) (a := [hs_r 11 0]) (v := some (hs_i q5.1)) (pc' := 56) (ls' := [hs_r 11 0, hs_i a1]) (st' := []) (h' := h) (h2 := q5.2) (fun n w => w) (fun q => hc_144 (by omega) eq5 q) ?_
    obtain rfl := Option.some.inj e
    exact hs_wr 1 (v := some (hs_i q5.1)) (h' := q5.2) (fun n w => w) q
  rw [if_neg b4] at e
  refine hs_ws2 (fun b6 => ?_) (fun b6 => ?_)
  · rw [if_pos b6] at e
    obtain rfl := Option.some.inj e
    exact hs_wr 4 (v := some (hs_i (h.1 6 0 3))) (h' := h) (fun n w => w) q
  rw [if_neg b6] at e
  refine hs_ws2 (fun b7 => ?_) (fun b7 => ?_)
  · rw [if_pos b7] at e
    obtain ⟨c8, e⟩ := hs_ck_some e
    refine hs_wa 4 (c := vp_in (nI 0) 4) (pc' := 71) (ls' := [hs_r 11 0, hs_i a1]) (st' := [hs_r 8 ((nI 0).toNatClampNeg)]) (h' := h) (fun n w => w) (hs_inb_iff.mp c8) ?_
    obtain rfl := Option.some.inj e
    exact hs_wr 2 (v := some (hs_i (h.1 8 ((nI 0).toNatClampNeg) 2))) (h' := h) (fun n w => w) q
  rw [if_neg b7] at e
  refine hs_ws3 ?_
  obtain rfl := Option.some.inj e
  exact hs_wr 2 (v := some (hs_i (nI 4294967295))) (h' := h) (fun n w => w) q
def hb_150_18    (s0 : Int32) (h : hs_H) : Option (Int32 × hs_H) := hs_ck (hs_b01 s0) (some (s0, h))
set_option maxHeartbeats 1000000 in
theorem hw_150_18 {S : hs_S} {d : Nat} {Q : hs_Q} (hd : 0 ≤ d)     {s0 : Int32} {v0 : hs_V} {v1 : hs_V} {v2 : hs_V} {v3 : hs_V} {v4 : hs_V} {v5 : hs_V} {h : hs_H} {r : Int32 × hs_H} (e : hb_150_18 s0 h = some r) (q : Q (some (hs_i r.1)) r.2) : hs_W S d 2 hs_p150 Q 18 [v0, v1, v2, v3, v4, v5] [hs_i s0] h := by
  unfold hb_150_18 at e
  obtain ⟨c2, e⟩ := hs_ck_some e
  obtain rfl := Option.some.inj e
  exact hs_wra 1 (c := s0 = 0 ∨ s0 = 1) (v := some (hs_i s0)) (h' := h) (fun n w => w) (hs_b01_iff.mp c2) q
def hb_150_17     (h : hs_H) : Option (Int32 × hs_H) := hb_150_18 (nI 0) h
set_option maxHeartbeats 1000000 in
theorem hw_150_17 {S : hs_S} {d : Nat} {Q : hs_Q} (hd : 0 ≤ d)      {v0 : hs_V} {v1 : hs_V} {v2 : hs_V} {v3 : hs_V} {v4 : hs_V} {v5 : hs_V} {h : hs_H} {r : Int32 × hs_H} (e : hb_150_17 h = some r) (q : Q (some (hs_i r.1)) r.2) : hs_W S d 2 hs_p150 Q 17 [v0, v1, v2, v3, v4, v5] [] h := by
  unfold hb_150_17 at e
  refine hs_w 1 (pc' := 18) (ls' := [v0, v1, v2, v3, v4, v5]) (st' := [hs_i (nI 0)]) (h' := h) (fun n w => w) ?_
  exact hw_150_18 hd e q
/-- HuntedScentModel.in(JJJ)Z -/
def hf_150 (a0 : Int64) (a2 : Int64) (a4 : Int64) (h : hs_H) : Option (Int32 × hs_H) := if (lg_cmp a0 a2) < 0 then (hb_150_17 h) else (if 0 < (lg_cmp a0 a4) then (hb_150_17 h) else (hb_150_18 (nI 1) h))
set_option maxHeartbeats 1000000 in
theorem hc_150 {S : hs_S} {D : Nat} {Q : hs_Q} (hD : 1 ≤ D) {a0 : Int64} {a2 : Int64} {a4 : Int64} {h : hs_H} {r : Int32 × hs_H} (e : hf_150 a0 a2 a4 h = some r) (q : Q (some (hs_i r.1)) r.2) : hs_call hs_ms S D 150 [hs_l a0, hs_l a2, hs_l a4] h Q := by
  refine hs_go (R := 0) hD rfl (Nat.le_of_ble_eq_true rfl) (fun d hd => ?_)
  show hs_W S d 2 hs_p150 Q 0 [hs_l a0, hs_u, hs_l a2, hs_u, hs_l a4, hs_u] [] h
  unfold hf_150 at e
  refine hs_wb 4 (c := (lg_cmp a0 a2) < 0) (t := 17) (f := 6) (ls' := [hs_l a0, hs_u, hs_l a2, hs_u, hs_l a4, hs_u]) (st' := []) (h' := h) (fun n w => w) (fun b1 => ?_) (fun b1 => ?_)
  · rw [if_pos b1] at e
    exact hw_150_17 hd e q
  · rw [if_neg b1] at e
    refine hs_wb 4 (c := 0 < (lg_cmp a0 a4)) (t := 17) (f := 13) (ls' := [hs_l a0, hs_u, hs_l a2, hs_u, hs_l a4, hs_u]) (st' := []) (h' := h) (fun n w => w) (fun b3 => ?_) (fun b3 => ?_)
    · rw [if_pos b3] at e
      exact hw_150_17 hd e q
    · rw [if_neg b3] at e
      refine hs_w 2 (pc' := 18) (ls' := [hs_l a0, hs_u, hs_l a2, hs_u, hs_l a4, hs_u]) (st' := [hs_i (nI 1)]) (h' := h) (fun n w => w) ?_
      exact hw_150_18 hd e q
def hb_151_9    (s0 : Int32) (h : hs_H) : Option (Int32 × hs_H) := some (s0, h)
set_option maxHeartbeats 1000000 in
theorem hw_151_9 {S : hs_S} {d : Nat} {Q : hs_Q} (hd : 0 ≤ d)     {s0 : Int32} {v0 : hs_V} {h : hs_H} {r : Int32 × hs_H} (e : hb_151_9 s0 h = some r) (q : Q (some (hs_i r.1)) r.2) : hs_W S d 1 hs_p151 Q 9 [v0] [hs_i s0] h := by
  unfold hb_151_9 at e
  obtain rfl := Option.some.inj e
  exact hs_wr 1 (v := some (hs_i s0)) (h' := h) (fun n w => w) q
/-- HuntedScentModel.flag(Z)I -/
def hf_151 (a0 : Int32) (h : hs_H) : Option (Int32 × hs_H) := if a0 = 0 then (hb_151_9 (nI 0) h) else (hb_151_9 (nI 1) h)
set_option maxHeartbeats 1000000 in
theorem hc_151 {S : hs_S} {D : Nat} {Q : hs_Q} (hD : 1 ≤ D) {a0 : Int32} {h : hs_H} {r : Int32 × hs_H} (e : hf_151 a0 h = some r) (q : Q (some (hs_i r.1)) r.2) : hs_call hs_ms S D 151 [hs_i a0] h Q := by
  refine hs_go (R := 0) hD rfl (Nat.le_of_ble_eq_true rfl) (fun d hd => ?_)
  show hs_W S d 1 hs_p151 Q 0 [hs_i a0] [] h
  unfold hf_151 at e
  refine hs_wb 2 (c := a0 = 0) (t := 8) (f := 4) (ls' := [hs_i a0]) (st' := []) (h' := h) (fun n w => w) (fun b1 => ?_) (fun b1 => ?_)
  · rw [if_pos b1] at e
    refine hs_w 1 (pc' := 9) (ls' := [hs_i a0]) (st' := [hs_i (nI 0)]) (h' := h) (fun n w => w) ?_
    exact hw_151_9 hd e q
  · rw [if_neg b1] at e
    refine hs_w 2 (pc' := 9) (ls' := [hs_i a0]) (st' := [hs_i (nI 1)]) (h' := h) (fun n w => w) ?_
    exact hw_151_9 hd e q
def hb_152_4  (k4 : Int32 × Int32 × Int32 × hs_H → Option (Int32 × hs_H)) (x0 : Int32) (x1 : Int32) (x2 : Int32)  (h : hs_H) : Option (Int32 × hs_H) := if (nI 10) ≤ x2 then (some (x1, h)) else (k4 (x0, x1 + ((x0 >>> (x2 &&& 31)) &&& (nI 1)), x2 + nI 1, h))
set_option maxHeartbeats 1000000 in
theorem hw_152_4 {S : hs_S} {d : Nat} {Q : hs_Q} (hd : 0 ≤ d)  {k4 : Int32 × Int32 × Int32 × hs_H → Option (Int32 × hs_H)} (hk4 : ∀ (x0 : Int32) (x1 : Int32) (x2 : Int32) (h : hs_H) (r : Int32 × hs_H) , k4 (x0, x1, x2, h) = some r → Q (some (hs_i r.1)) r.2 → hs_W S d 1 hs_p152 Q 4 [hs_i x0, hs_i x1, hs_i x2] [] h) {x0 : Int32} {x1 : Int32} {x2 : Int32}   {h : hs_H} {r : Int32 × hs_H} (e : hb_152_4 k4 x0 x1 x2 h = some r) (q : Q (some (hs_i r.1)) r.2) : hs_W S d 1 hs_p152 Q 4 [hs_i x0, hs_i x1, hs_i x2] [] h := by
  unfold hb_152_4 at e
  refine hs_wb 3 (c := (nI 10) ≤ x2) (t := 24) (f := 10) (ls' := [hs_i x0, hs_i x1, hs_i x2]) (st' := []) (h' := h) (fun n w => w) (fun b1 => ?_) (fun b1 => ?_)
  · rw [if_pos b1] at e
    obtain rfl := Option.some.inj e
    exact hs_wr 2 (v := some (hs_i x1)) (h' := h) (fun n w => w) q
  · rw [if_neg b1] at e
    refine hs_w 10 (pc' := 4) (ls' := [hs_i x0, hs_i (x1 + ((x0 >>> (x2 &&& 31)) &&& (nI 1))), hs_i (x2 + nI 1)]) (st' := []) (h' := h) (fun n w => w) ?_
    exact hk4 _ _ _ _ _  e q
theorem hw_152_4_lp {S : hs_S} {d : Nat} {Q : hs_Q} (hd : 0 ≤ d)    (n : Nat) {x0 : Int32} {x1 : Int32} {x2 : Int32} {h : hs_H} {r : Int32 × hs_H} (e : hs_lp (fun k s => hb_152_4 k s.1 s.2.1 s.2.2.1 s.2.2.2) n (x0, x1, x2, h) = some r)  (q : Q (some (hs_i r.1)) r.2) : hs_W S d 1 hs_p152 Q 4 [hs_i x0, hs_i x1, hs_i x2] [] h := by
  refine hs_lp_ind (P := fun (s : Int32 × Int32 × Int32 × hs_H) (r : Int32 × hs_H) => ∀ (_ : True), Q (some (hs_i r.1)) r.2 → hs_W S d 1 hs_p152 Q 4 [hs_i s.1, hs_i s.2.1, hs_i s.2.2.1] [] s.2.2.2) (fun k hk s r e _ q => ?_) n (x0, x1, x2, h) r e trivial q
  exact hw_152_4 hd (fun x0 x1 x2 h r  e q => hk (x0, x1, x2, h) r e trivial q) e q
/-- HuntedScentModel.bitsOf(I)I -/
def hf_152 (a0 : Int32) (h : hs_H) : Option (Int32 × hs_H) := hs_lp (fun k s => hb_152_4 k s.1 s.2.1 s.2.2.1 s.2.2.2) hs_big (a0, nI 0, nI 0, h)
set_option maxHeartbeats 1000000 in
theorem hc_152 {S : hs_S} {D : Nat} {Q : hs_Q} (hD : 1 ≤ D) {a0 : Int32} {h : hs_H} {r : Int32 × hs_H} (e : hf_152 a0 h = some r) (q : Q (some (hs_i r.1)) r.2) : hs_call hs_ms S D 152 [hs_i a0] h Q := by
  refine hs_go (R := 0) hD rfl (Nat.le_of_ble_eq_true rfl) (fun d hd => ?_)
  show hs_W S d 1 hs_p152 Q 0 [hs_i a0, hs_u, hs_u] [] h
  unfold hf_152 at e
  refine hs_w 4 (pc' := 4) (ls' := [hs_i a0, hs_i (nI 0), hs_i (nI 0)]) (st' := []) (h' := h) (fun n w => w) ?_
  exact hw_152_4_lp hd hs_big e  q
def hb_153_2  (k2 : Int32 × hs_H → Option (hs_H)) (x1 : Int32)  (h : hs_H) : Option (hs_H) := if (nI 54) ≤ x1 then (hs_ck (hs_inb (nI 10) 54) (hs_ck (hs_inb (nI 11) 54) (some (hs_put (hs_put (hs_put (hs_put (hs_put (hs_put (hs_put (hs_put h 46 0 (nI 10).toNatClampNeg (nI 4294967292)) 46 0 (nI 11).toNatClampNeg (nI 4294967292)) 12 0 7 (nI 5)) 12 0 8 (nI 0)) 12 0 9 (nI 0)) 12 0 10 (nI 0)) 12 0 11 (nI 4294967292)) 12 0 12 (nI 0))))) else (hs_ck (hs_inb x1 54) (k2 (x1 + nI 1, hs_put h 46 0 x1.toNatClampNeg (nI 0))))
set_option maxHeartbeats 1000000 in
theorem hw_153_2 {S : hs_S} {d : Nat} {Q : hs_Q} (hd : 0 ≤ d)  {k2 : Int32 × hs_H → Option (hs_H)} (hk2 : ∀ (x1 : Int32) (h : hs_H) (r : hs_H) , k2 (x1, h) = some r → Q none r → hs_W S d 0 hs_p153 Q 2 [hs_r 12 0, hs_i x1] [] h) {x1 : Int32}   {h : hs_H} {r : hs_H} (e : hb_153_2 k2 x1 h = some r) (q : Q none r) : hs_W S d 0 hs_p153 Q 2 [hs_r 12 0, hs_i x1] [] h := by
  unfold hb_153_2 at e
  refine hs_wb 3 (c := (nI 54) ≤ x1) (t := 21) (f := 8) (ls' := [hs_r 12 0, hs_i x1]) (st' := []) (h' := h) (fun n w => w) (fun b1 => ?_) (fun b1 => ?_)
  · rw [if_pos b1] at e
    obtain ⟨c2, e⟩ := hs_ck_some e
    refine hs_wa 5 (c := vp_in (nI 10) 54) (pc' := 30) (ls' := [hs_r 12 0, hs_i x1]) (st' := []) (h' := hs_put h 46 0 (nI 10).toNatClampNeg (nI 4294967292)) (fun n w => w) (hs_inb_iff.mp c2) ?_
    obtain ⟨c3, e⟩ := hs_ck_some e
    refine hs_wa 5 (c := vp_in (nI 11) 54) (pc' := 39) (ls' := [hs_r 12 0, hs_i x1]) (st' := []) (h' := hs_put (hs_put h 46 0 (nI 10).toNatClampNeg (nI 4294967292)) 46 0 (nI 11).toNatClampNeg (nI 4294967292)) (fun n w => w) (hs_inb_iff.mp c3) ?_
    obtain rfl := Option.some.inj e
    exact hs_wr 19 (v := none) (h' := hs_put (hs_put (hs_put (hs_put (hs_put (hs_put (hs_put (hs_put h 46 0 (nI 10).toNatClampNeg (nI 4294967292)) 46 0 (nI 11).toNatClampNeg (nI 4294967292)) 12 0 7 (nI 5)) 12 0 8 (nI 0)) 12 0 9 (nI 0)) 12 0 10 (nI 0)) 12 0 11 (nI 4294967292)) 12 0 12 (nI 0)) (fun n w => w) q
  · rw [if_neg b1] at e
    obtain ⟨c4, e⟩ := hs_ck_some e
    refine hs_wa 5 (c := vp_in x1 54) (pc' := 15) (ls' := [hs_r 12 0, hs_i x1]) (st' := []) (h' := hs_put h 46 0 x1.toNatClampNeg (nI 0)) (fun n w => w) (hs_inb_iff.mp c4) ?_
    refine hs_w 2 (pc' := 2) (ls' := [hs_r 12 0, hs_i (x1 + nI 1)]) (st' := []) (h' := hs_put h 46 0 x1.toNatClampNeg (nI 0)) (fun n w => w) ?_
    exact hk2 _ _ _  e q
theorem hw_153_2_lp {S : hs_S} {d : Nat} {Q : hs_Q} (hd : 0 ≤ d)    (n : Nat) {x1 : Int32} {h : hs_H} {r : hs_H} (e : hs_lp (fun k s => hb_153_2 k s.1 s.2) n (x1, h) = some r)  (q : Q none r) : hs_W S d 0 hs_p153 Q 2 [hs_r 12 0, hs_i x1] [] h := by
  refine hs_lp_ind (P := fun (s : Int32 × hs_H) (r : hs_H) => ∀ (_ : True), Q none r → hs_W S d 0 hs_p153 Q 2 [hs_r 12 0, hs_i s.1] [] s.2) (fun k hk s r e _ q => ?_) n (x1, h) r e trivial q
  exact hw_153_2 hd (fun x1 h r  e q => hk (x1, h) r e trivial q) e q
/-- HuntedScentModel.firstDraft()V -/
def hf_153  (h : hs_H) : Option (hs_H) := hs_lp (fun k s => hb_153_2 k s.1 s.2) hs_big (nI 0, h)
set_option maxHeartbeats 1000000 in
theorem hc_153 {S : hs_S} {D : Nat} {Q : hs_Q} (hD : 1 ≤ D)  {h : hs_H} {r : hs_H} (e : hf_153 h = some r) (q : Q none r) : hs_call hs_ms S D 153 [hs_r 12 0] h Q := by
  refine hs_go (R := 0) hD rfl (Nat.le_of_ble_eq_true rfl) (fun d hd => ?_)
  show hs_W S d 0 hs_p153 Q 0 [hs_r 12 0, hs_u] [] h
  unfold hf_153 at e
  refine hs_w 2 (pc' := 2) (ls' := [hs_r 12 0, hs_i (nI 0)]) (st' := []) (h' := h) (fun n w => w) ?_
  exact hw_153_2_lp hd hs_big e  q
def hb_154_2  (k2 : Int32 × hs_H → Option (hs_H)) (x1 : Int32)  (h : hs_H) : Option (hs_H) := if (nI 54) ≤ x1 then (hs_ck (hs_inb (nI 0) 2) (hs_ck (hs_inb (nI 1) 2) (some (hs_put (hs_put (hs_put (hs_put (hs_put (hs_put h 12 0 2 (h.1 12 0 7)) 12 0 3 ((hs_put h 12 0 2 (h.1 12 0 7)).1 12 0 8)) 12 0 4 ((hs_put (hs_put h 12 0 2 (h.1 12 0 7)) 12 0 3 ((hs_put h 12 0 2 (h.1 12 0 7)).1 12 0 8)).1 12 0 9)) 12 0 5 ((hs_put (hs_put (hs_put h 12 0 2 (h.1 12 0 7)) 12 0 3 ((hs_put h 12 0 2 (h.1 12 0 7)).1 12 0 8)) 12 0 4 ((hs_put (hs_put h 12 0 2 (h.1 12 0 7)) 12 0 3 ((hs_put h 12 0 2 (h.1 12 0 7)).1 12 0 8)).1 12 0 9)).1 12 0 10)) 45 0 (nI 0).toNatClampNeg (nI 0)) 45 0 (nI 1).toNatClampNeg (nI 0))))) else (hs_ck (hs_inb x1 54) (hs_ck (hs_inb x1 162) (k2 (x1 + nI 1, hs_put h 44 0 x1.toNatClampNeg (h.1 46 0 x1.toNatClampNeg)))))
set_option maxHeartbeats 1000000 in
theorem hw_154_2 {S : hs_S} {d : Nat} {Q : hs_Q} (hd : 0 ≤ d)  {k2 : Int32 × hs_H → Option (hs_H)} (hk2 : ∀ (x1 : Int32) (h : hs_H) (r : hs_H) , k2 (x1, h) = some r → Q none r → hs_W S d 0 hs_p154 Q 2 [hs_r 12 0, hs_i x1] [] h) {x1 : Int32}   {h : hs_H} {r : hs_H} (e : hb_154_2 k2 x1 h = some r) (q : Q none r) : hs_W S d 0 hs_p154 Q 2 [hs_r 12 0, hs_i x1] [] h := by
  unfold hb_154_2 at e
  refine hs_wb 3 (c := (nI 54) ≤ x1) (t := 26) (f := 8) (ls' := [hs_r 12 0, hs_i x1]) (st' := []) (h' := h) (fun n w => w) (fun b1 => ?_) (fun b1 => ?_)
  · rw [if_pos b1] at e
    obtain ⟨c2, e⟩ := hs_ck_some e
    refine hs_waa 21 (c := vp_in (nI 0) 2) (c2 := nI 0 = 0 ∨ nI 0 = 1) (pc' := 65) (ls' := [hs_r 12 0, hs_i x1]) (st' := []) (h' := hs_put (hs_put (hs_put (hs_put (hs_put h 12 0 2 (h.1 12 0 7)) 12 0 3 ((hs_put h 12 0 2 (h.1 12 0 7)).1 12 0 8)) 12 0 4 ((hs_put (hs_put h 12 0 2 (h.1 12 0 7)) 12 0 3 ((hs_put h 12 0 2 (h.1 12 0 7)).1 12 0 8)).1 12 0 9)) 12 0 5 ((hs_put (hs_put (hs_put h 12 0 2 (h.1 12 0 7)) 12 0 3 ((hs_put h 12 0 2 (h.1 12 0 7)).1 12 0 8)) 12 0 4 ((hs_put (hs_put h 12 0 2 (h.1 12 0 7)) 12 0 3 ((hs_put h 12 0 2 (h.1 12 0 7)).1 12 0 8)).1 12 0 9)).1 12 0 10)) 45 0 (nI 0).toNatClampNeg (nI 0)) (fun n w => w) (hs_inb_iff.mp c2) (by decide) ?_
    obtain ⟨c3, e⟩ := hs_ck_some e
    refine hs_waa 5 (c := vp_in (nI 1) 2) (c2 := nI 0 = 0 ∨ nI 0 = 1) (pc' := 72) (ls' := [hs_r 12 0, hs_i x1]) (st' := []) (h' := hs_put (hs_put (hs_put (hs_put (hs_put (hs_put h 12 0 2 (h.1 12 0 7)) 12 0 3 ((hs_put h 12 0 2 (h.1 12 0 7)).1 12 0 8)) 12 0 4 ((hs_put (hs_put h 12 0 2 (h.1 12 0 7)) 12 0 3 ((hs_put h 12 0 2 (h.1 12 0 7)).1 12 0 8)).1 12 0 9)) 12 0 5 ((hs_put (hs_put (hs_put h 12 0 2 (h.1 12 0 7)) 12 0 3 ((hs_put h 12 0 2 (h.1 12 0 7)).1 12 0 8)) 12 0 4 ((hs_put (hs_put h 12 0 2 (h.1 12 0 7)) 12 0 3 ((hs_put h 12 0 2 (h.1 12 0 7)).1 12 0 8)).1 12 0 9)).1 12 0 10)) 45 0 (nI 0).toNatClampNeg (nI 0)) 45 0 (nI 1).toNatClampNeg (nI 0)) (fun n w => w) (hs_inb_iff.mp c3) (by decide) ?_
    obtain rfl := Option.some.inj e
    exact hs_wr 1 (v := none) (h' := hs_put (hs_put (hs_put (hs_put (hs_put (hs_put h 12 0 2 (h.1 12 0 7)) 12 0 3 ((hs_put h 12 0 2 (h.1 12 0 7)).1 12 0 8)) 12 0 4 ((hs_put (hs_put h 12 0 2 (h.1 12 0 7)) 12 0 3 ((hs_put h 12 0 2 (h.1 12 0 7)).1 12 0 8)).1 12 0 9)) 12 0 5 ((hs_put (hs_put (hs_put h 12 0 2 (h.1 12 0 7)) 12 0 3 ((hs_put h 12 0 2 (h.1 12 0 7)).1 12 0 8)) 12 0 4 ((hs_put (hs_put h 12 0 2 (h.1 12 0 7)) 12 0 3 ((hs_put h 12 0 2 (h.1 12 0 7)).1 12 0 8)).1 12 0 9)).1 12 0 10)) 45 0 (nI 0).toNatClampNeg (nI 0)) 45 0 (nI 1).toNatClampNeg (nI 0)) (fun n w => w) q
  · rw [if_neg b1] at e
    obtain ⟨c4, e⟩ := hs_ck_some e
    refine hs_wa 7 (c := vp_in x1 54) (pc' := 19) (ls' := [hs_r 12 0, hs_i x1]) (st' := [hs_i (h.1 46 0 x1.toNatClampNeg), hs_i x1, hs_r 44 0]) (h' := h) (fun n w => w) (hs_inb_iff.mp c4) ?_
    obtain ⟨c5, e⟩ := hs_ck_some e
    refine hs_wa 1 (c := vp_in x1 162) (pc' := 20) (ls' := [hs_r 12 0, hs_i x1]) (st' := []) (h' := hs_put h 44 0 x1.toNatClampNeg (h.1 46 0 x1.toNatClampNeg)) (fun n w => w) (hs_inb_iff.mp c5) ?_
    refine hs_w 2 (pc' := 2) (ls' := [hs_r 12 0, hs_i (x1 + nI 1)]) (st' := []) (h' := hs_put h 44 0 x1.toNatClampNeg (h.1 46 0 x1.toNatClampNeg)) (fun n w => w) ?_
    exact hk2 _ _ _  e q
theorem hw_154_2_lp {S : hs_S} {d : Nat} {Q : hs_Q} (hd : 0 ≤ d)    (n : Nat) {x1 : Int32} {h : hs_H} {r : hs_H} (e : hs_lp (fun k s => hb_154_2 k s.1 s.2) n (x1, h) = some r)  (q : Q none r) : hs_W S d 0 hs_p154 Q 2 [hs_r 12 0, hs_i x1] [] h := by
  refine hs_lp_ind (P := fun (s : Int32 × hs_H) (r : hs_H) => ∀ (_ : True), Q none r → hs_W S d 0 hs_p154 Q 2 [hs_r 12 0, hs_i s.1] [] s.2) (fun k hk s r e _ q => ?_) n (x1, h) r e trivial q
  exact hw_154_2 hd (fun x1 h r  e q => hk (x1, h) r e trivial q) e q
/-- HuntedScentModel.keepDraft()V -/
def hf_154  (h : hs_H) : Option (hs_H) := hs_lp (fun k s => hb_154_2 k s.1 s.2) hs_big (nI 0, h)
set_option maxHeartbeats 1000000 in
theorem hc_154 {S : hs_S} {D : Nat} {Q : hs_Q} (hD : 1 ≤ D)  {h : hs_H} {r : hs_H} (e : hf_154 h = some r) (q : Q none r) : hs_call hs_ms S D 154 [hs_r 12 0] h Q := by
  refine hs_go (R := 0) hD rfl (Nat.le_of_ble_eq_true rfl) (fun d hd => ?_)
  show hs_W S d 0 hs_p154 Q 0 [hs_r 12 0, hs_u] [] h
  unfold hf_154 at e
  refine hs_w 2 (pc' := 2) (ls' := [hs_r 12 0, hs_i (nI 0)]) (st' := []) (h' := h) (fun n w => w) ?_
  exact hw_154_2_lp hd hs_big e  q
def hb_155_19  (k19 : Int64 × Int32 × hs_H → Option (Int32 × hs_H)) (x1 : Int64) (x3 : Int32)  (h : hs_H) : Option (Int32 × hs_H) := if x3 < 0 then (some (h.1 12 0 14, h)) else (hs_ck (hs_inb (h.1 12 0 14) 320) (k19 (x1, x3 + nI 4294967288, hs_put (hs_put h 47 0 (h.1 12 0 14).toNatClampNeg (((x1 >>> (x3.toInt64 &&& 63)) &&& (lN 255)).toInt32)) 12 0 14 (((hs_put h 47 0 (h.1 12 0 14).toNatClampNeg (((x1 >>> (x3.toInt64 &&& 63)) &&& (lN 255)).toInt32)).1 12 0 14) + (nI 1)))))
set_option maxHeartbeats 1000000 in
theorem hw_155_19 {S : hs_S} {d : Nat} {Q : hs_Q} (hd : 0 ≤ d)  {k19 : Int64 × Int32 × hs_H → Option (Int32 × hs_H)} (hk19 : ∀ (x1 : Int64) (x3 : Int32) (h : hs_H) (r : Int32 × hs_H) , k19 (x1, x3, h) = some r → Q (some (hs_i r.1)) r.2 → hs_W S d 1 hs_p155 Q 19 [hs_r 12 0, hs_l x1, hs_u, hs_i x3] [] h) {x1 : Int64} {x3 : Int32}   {h : hs_H} {r : Int32 × hs_H} (e : hb_155_19 k19 x1 x3 h = some r) (q : Q (some (hs_i r.1)) r.2) : hs_W S d 1 hs_p155 Q 19 [hs_r 12 0, hs_l x1, hs_u, hs_i x3] [] h := by
  unfold hb_155_19 at e
  refine hs_wb 2 (c := x3 < 0) (t := 56) (f := 23) (ls' := [hs_r 12 0, hs_l x1, hs_u, hs_i x3]) (st' := []) (h' := h) (fun n w => w) (fun b2 => ?_) (fun b2 => ?_)
  · rw [if_pos b2] at e
    obtain rfl := Option.some.inj e
    exact hs_wr 3 (v := some (hs_i (h.1 12 0 14))) (h' := h) (fun n w => w) q
  · rw [if_neg b2] at e
    obtain ⟨c3, e⟩ := hs_ck_some e
    refine hs_wa 11 (c := vp_in (h.1 12 0 14) 320) (pc' := 40) (ls' := [hs_r 12 0, hs_l x1, hs_u, hs_i x3]) (st' := []) (h' := hs_put h 47 0 (h.1 12 0 14).toNatClampNeg (((x1 >>> (x3.toInt64 &&& 63)) &&& (lN 255)).toInt32)) (fun n w => w) (hs_inb_iff.mp c3) ?_
    refine hs_w 8 (pc' := 19) (ls' := [hs_r 12 0, hs_l x1, hs_u, hs_i (x3 + nI 4294967288)]) (st' := []) (h' := hs_put (hs_put h 47 0 (h.1 12 0 14).toNatClampNeg (((x1 >>> (x3.toInt64 &&& 63)) &&& (lN 255)).toInt32)) 12 0 14 (((hs_put h 47 0 (h.1 12 0 14).toNatClampNeg (((x1 >>> (x3.toInt64 &&& 63)) &&& (lN 255)).toInt32)).1 12 0 14) + (nI 1))) (fun n w => w) ?_
    exact hk19 _ _ _ _  e q
theorem hw_155_19_lp {S : hs_S} {d : Nat} {Q : hs_Q} (hd : 0 ≤ d)    (n : Nat) {x1 : Int64} {x3 : Int32} {h : hs_H} {r : Int32 × hs_H} (e : hs_lp (fun k s => hb_155_19 k s.1 s.2.1 s.2.2) n (x1, x3, h) = some r)  (q : Q (some (hs_i r.1)) r.2) : hs_W S d 1 hs_p155 Q 19 [hs_r 12 0, hs_l x1, hs_u, hs_i x3] [] h := by
  refine hs_lp_ind (P := fun (s : Int64 × Int32 × hs_H) (r : Int32 × hs_H) => ∀ (_ : True), Q (some (hs_i r.1)) r.2 → hs_W S d 1 hs_p155 Q 19 [hs_r 12 0, hs_l s.1, hs_u, hs_i s.2.1] [] s.2.2) (fun k hk s r e _ q => ?_) n (x1, x3, h) r e trivial q
  exact hw_155_19 hd (fun x1 x3 h r  e q => hk (x1, x3, h) r e trivial q) e q
/-- HuntedScentModel.feed(J)I -/
def hf_155 (a1 : Int64) (h : hs_H) : Option (Int32 × hs_H) := if ((h.1 12 0 14) + (nI 8)) ≤ (nI 320) then (hs_lp (fun k s => hb_155_19 k s.1 s.2.1 s.2.2) hs_big (a1, nI 56, h)) else (some (nI 4294967293, h))
set_option maxHeartbeats 1000000 in
theorem hc_155 {S : hs_S} {D : Nat} {Q : hs_Q} (hD : 1 ≤ D) {a1 : Int64} {h : hs_H} {r : Int32 × hs_H} (e : hf_155 a1 h = some r) (q : Q (some (hs_i r.1)) r.2) : hs_call hs_ms S D 155 [hs_r 12 0, hs_l a1] h Q := by
  refine hs_go (R := 0) hD rfl (Nat.le_of_ble_eq_true rfl) (fun d hd => ?_)
  show hs_W S d 1 hs_p155 Q 0 [hs_r 12 0, hs_l a1, hs_u, hs_u] [] h
  unfold hf_155 at e
  refine hs_wb 6 (c := ((h.1 12 0 14) + (nI 8)) ≤ (nI 320)) (t := 16) (f := 13) (ls' := [hs_r 12 0, hs_l a1, hs_u, hs_u]) (st' := []) (h' := h) (fun n w => w) (fun b1 => ?_) (fun b1 => ?_)
  · rw [if_pos b1] at e
    refine hs_w 2 (pc' := 19) (ls' := [hs_r 12 0, hs_l a1, hs_u, hs_i (nI 56)]) (st' := []) (h' := h) (fun n w => w) ?_
    exact hw_155_19_lp hd hs_big e  q
  · rw [if_neg b1] at e
    obtain rfl := Option.some.inj e
    exact hs_wr 2 (v := some (hs_i (nI 4294967293))) (h' := h) (fun n w => w) q
/-- HuntedScentModel.end(I)I -/
def hf_156 (a1 : Int32) (h : hs_H) : Option (Int32 × hs_H) := (hf_150 a1.toInt64 (lN 0) ((h.1 12 0 14).toInt64) h).bind (fun q1 => if ¬ q1.1 = 0 then (some (q1.2.1 12 0 14, hs_put q1.2 12 0 14 a1)) else (some (nI 4294967295, q1.2)))
set_option maxHeartbeats 1000000 in
theorem hc_156 {S : hs_S} {D : Nat} {Q : hs_Q} (hD : 2 ≤ D) {a1 : Int32} {h : hs_H} {r : Int32 × hs_H} (e : hf_156 a1 h = some r) (q : Q (some (hs_i r.1)) r.2) : hs_call hs_ms S D 156 [hs_r 12 0, hs_i a1] h Q := by
  refine hs_go (R := 1) hD rfl (Nat.le_of_ble_eq_true rfl) (fun d hd => ?_)
  show hs_W S d 1 hs_p156 Q 0 [hs_r 12 0, hs_i a1, hs_u] [] h
  unfold hf_156 at e
  obtain ⟨q1, eq1, e⟩ := hs_bind_some e
  try dsimp only at e
  refine hs_wc 7 (y := 150) (a := [hs_l a1.toInt64, hs_l (lN 0), hs_l ((h.1 12 0 14).toInt64)]) (v := some (hs_i q1.1)) (pc' := 11) (ls' := [hs_r 12 0, hs_i a1, hs_u]) (st' := []) (h' := h) (h2 := q1.2) (fun n w => w) (fun q => hc_150 (by omega) eq1 q) ?_
  refine hs_wb 1 (c := ¬ q1.1 = 0) (t := 16) (f := 14) (ls' := [hs_r 12 0, hs_i a1, hs_u]) (st' := []) (h' := q1.2) (fun n w => w) (fun b2 => ?_) (fun b2 => ?_)
  · rw [if_pos b2] at e
    obtain rfl := Option.some.inj e
    exact hs_wr 8 (v := some (hs_i (q1.2.1 12 0 14))) (h' := hs_put q1.2 12 0 14 a1) (fun n w => w) q
  · rw [if_neg b2] at e
    obtain rfl := Option.some.inj e
    exact hs_wr 2 (v := some (hs_i (nI 4294967295))) (h' := q1.2) (fun n w => w) q
def hb_157_24     (h : hs_H) : Option (hs_H) := some h
set_option maxHeartbeats 1000000 in
theorem hw_157_24 {S : hs_S} {d : Nat} {Q : hs_Q} (hd : 0 ≤ d)      {v1 : hs_V} {v2 : hs_V} {h : hs_H} {r : hs_H} (e : hb_157_24 h = some r) (q : Q none r) : hs_W S d 0 hs_p157 Q 24 [hs_r 12 0, v1, v2] [] h := by
  unfold hb_157_24 at e
  obtain rfl := Option.some.inj e
  exact hs_wr 1 (v := none) (h' := h) (fun n w => w) q
/-- HuntedScentModel.needs(ZI)V -/
def hf_157 (a1 : Int32) (a2 : Int32) (h : hs_H) : Option (hs_H) := if ¬ a1 = 0 then (hb_157_24 h) else (if ¬ (h.1 12 0 19) = 0 then (hb_157_24 h) else (hb_157_24 (hs_put (hs_put h 12 0 19 a2) 12 0 20 ((hs_put h 12 0 19 a2).1 12 0 16))))
set_option maxHeartbeats 1000000 in
theorem hc_157 {S : hs_S} {D : Nat} {Q : hs_Q} (hD : 1 ≤ D) {a1 : Int32} {a2 : Int32} {h : hs_H} {r : hs_H} (e : hf_157 a1 a2 h = some r) (q : Q none r) : hs_call hs_ms S D 157 [hs_r 12 0, hs_i a1, hs_i a2] h Q := by
  refine hs_go (R := 0) hD rfl (Nat.le_of_ble_eq_true rfl) (fun d hd => ?_)
  show hs_W S d 0 hs_p157 Q 0 [hs_r 12 0, hs_i a1, hs_i a2] [] h
  unfold hf_157 at e
  refine hs_wb 2 (c := ¬ a1 = 0) (t := 24) (f := 4) (ls' := [hs_r 12 0, hs_i a1, hs_i a2]) (st' := []) (h' := h) (fun n w => w) (fun b1 => ?_) (fun b1 => ?_)
  · rw [if_pos b1] at e
    exact hw_157_24 hd e q
  · rw [if_neg b1] at e
    refine hs_wb 3 (c := ¬ (h.1 12 0 19) = 0) (t := 24) (f := 11) (ls' := [hs_r 12 0, hs_i a1, hs_i a2]) (st' := []) (h' := h) (fun n w => w) (fun b2 => ?_) (fun b2 => ?_)
    · rw [if_pos b2] at e
      exact hw_157_24 hd e q
    · rw [if_neg b2] at e
      refine hs_w 7 (pc' := 24) (ls' := [hs_r 12 0, hs_i a1, hs_i a2]) (st' := []) (h' := hs_put (hs_put h 12 0 19 a2) 12 0 20 ((hs_put h 12 0 19 a2).1 12 0 16)) (fun n w => w) ?_
      exact hw_157_24 hd e q
def hb_158_18    (s0 : Int32) (h : hs_H) : Option (Int32 × hs_H) := some (s0, h)
set_option maxHeartbeats 1000000 in
theorem hw_158_18 {S : hs_S} {d : Nat} {Q : hs_Q} (hd : 0 ≤ d)     {s0 : Int32} {v1 : hs_V} {h : hs_H} {r : Int32 × hs_H} (e : hb_158_18 s0 h = some r) (q : Q (some (hs_i r.1)) r.2) : hs_W S d 1 hs_p158 Q 18 [hs_r 12 0, v1] [hs_i s0] h := by
  unfold hb_158_18 at e
  obtain rfl := Option.some.inj e
  exact hs_wr 1 (v := some (hs_i s0)) (h' := h) (fun n w => w) q
/-- HuntedScentModel.look(I)I -/
def hf_158 (a1 : Int32) (h : hs_H) : Option (Int32 × hs_H) := if (h.1 12 0 14) ≤ a1 then (hb_158_18 (nI 4294967295) h) else (hs_ck (hs_inb a1 320) (hb_158_18 (h.1 47 0 a1.toNatClampNeg) h))
set_option maxHeartbeats 1000000 in
theorem hc_158 {S : hs_S} {D : Nat} {Q : hs_Q} (hD : 1 ≤ D) {a1 : Int32} {h : hs_H} {r : Int32 × hs_H} (e : hf_158 a1 h = some r) (q : Q (some (hs_i r.1)) r.2) : hs_call hs_ms S D 158 [hs_r 12 0, hs_i a1] h Q := by
  refine hs_go (R := 0) hD rfl (Nat.le_of_ble_eq_true rfl) (fun d hd => ?_)
  show hs_W S d 1 hs_p158 Q 0 [hs_r 12 0, hs_i a1] [] h
  unfold hf_158 at e
  refine hs_wb 4 (c := (h.1 12 0 14) ≤ a1) (t := 17) (f := 8) (ls' := [hs_r 12 0, hs_i a1]) (st' := []) (h' := h) (fun n w => w) (fun b1 => ?_) (fun b1 => ?_)
  · rw [if_pos b1] at e
    refine hs_w 1 (pc' := 18) (ls' := [hs_r 12 0, hs_i a1]) (st' := [hs_i (nI 4294967295)]) (h' := h) (fun n w => w) ?_
    exact hw_158_18 hd e q
  · rw [if_neg b1] at e
    obtain ⟨c2, e⟩ := hs_ck_some e
    refine hs_wa 4 (c := vp_in a1 320) (pc' := 14) (ls' := [hs_r 12 0, hs_i a1]) (st' := [hs_i (h.1 47 0 a1.toNatClampNeg)]) (h' := h) (fun n w => w) (hs_inb_iff.mp c2) ?_
    refine hs_w 1 (pc' := 18) (ls' := [hs_r 12 0, hs_i a1]) (st' := [hs_i (h.1 47 0 a1.toNatClampNeg)]) (h' := h) (fun n w => w) ?_
    exact hw_158_18 hd e q
def hb_159_94    (s0 : Int32) (h : hs_H) : Option (Int32 × hs_H) := hs_ck (hs_b01 s0) (some (s0, h))
set_option maxHeartbeats 1000000 in
theorem hw_159_94 {S : hs_S} {d : Nat} {Q : hs_Q} (hd : 1 ≤ d)     {s0 : Int32} {v1 : hs_V} {v2 : hs_V} {v3 : hs_V} {v4 : hs_V} {v5 : hs_V} {v6 : hs_V} {h : hs_H} {r : Int32 × hs_H} (e : hb_159_94 s0 h = some r) (q : Q (some (hs_i r.1)) r.2) : hs_W S d 2 hs_p159 Q 94 [hs_r 12 0, v1, v2, v3, v4, v5, v6] [hs_i s0] h := by
  unfold hb_159_94 at e
  obtain ⟨c2, e⟩ := hs_ck_some e
  obtain rfl := Option.some.inj e
  exact hs_wra 1 (c := s0 = 0 ∨ s0 = 1) (v := some (hs_i s0)) (h' := h) (fun n w => w) (hs_b01_iff.mp c2) q
def hb_159_93     (h : hs_H) : Option (Int32 × hs_H) := hb_159_94 (nI 0) h
set_option maxHeartbeats 1000000 in
theorem hw_159_93 {S : hs_S} {d : Nat} {Q : hs_Q} (hd : 1 ≤ d)      {v1 : hs_V} {v2 : hs_V} {v3 : hs_V} {v4 : hs_V} {v5 : hs_V} {v6 : hs_V} {h : hs_H} {r : Int32 × hs_H} (e : hb_159_93 h = some r) (q : Q (some (hs_i r.1)) r.2) : hs_W S d 2 hs_p159 Q 93 [hs_r 12 0, v1, v2, v3, v4, v5, v6] [] h := by
  unfold hb_159_93 at e
  refine hs_w 1 (pc' := 94) (ls' := [hs_r 12 0, v1, v2, v3, v4, v5, v6]) (st' := [hs_i (nI 0)]) (h' := h) (fun n w => w) ?_
  exact hw_159_94 hd e q
def hb_159_89     (h : hs_H) : Option (Int32 × hs_H) := hb_159_94 (nI 1) h
set_option maxHeartbeats 1000000 in
theorem hw_159_89 {S : hs_S} {d : Nat} {Q : hs_Q} (hd : 1 ≤ d)      {v1 : hs_V} {v2 : hs_V} {v3 : hs_V} {v4 : hs_V} {v5 : hs_V} {v6 : hs_V} {h : hs_H} {r : Int32 × hs_H} (e : hb_159_89 h = some r) (q : Q (some (hs_i r.1)) r.2) : hs_W S d 2 hs_p159 Q 89 [hs_r 12 0, v1, v2, v3, v4, v5, v6] [] h := by
  unfold hb_159_89 at e
  refine hs_w 2 (pc' := 94) (ls' := [hs_r 12 0, v1, v2, v3, v4, v5, v6]) (st' := [hs_i (nI 1)]) (h' := h) (fun n w => w) ?_
  exact hw_159_94 hd e q
/-- HuntedScentModel.is(IIIIII)Z -/
def hf_159 (a1 : Int32) (a2 : Int32) (a3 : Int32) (a4 : Int32) (a5 : Int32) (a6 : Int32) (h : hs_H) : Option (Int32 × hs_H) := if ¬ ((h.1 12 0 15) - (h.1 12 0 16)) = a1 then (hb_159_93 h) else ((hf_158 (h.1 12 0 16) h).bind (fun q3 => if ¬ q3.1 = a2 then (hb_159_93 q3.2) else ((hf_158 ((q3.2.1 12 0 16) + (nI 1)) q3.2).bind (fun q5 => if ¬ q5.1 = a3 then (hb_159_93 q5.2) else ((hf_158 ((q5.2.1 12 0 16) + (nI 2)) q5.2).bind (fun q7 => if ¬ q7.1 = a4 then (hb_159_93 q7.2) else ((hf_158 ((q7.2.1 12 0 16) + (nI 3)) q7.2).bind (fun q9 => if ¬ q9.1 = a5 then (hb_159_93 q9.2) else (if a1 < (nI 5) then (hb_159_89 q9.2) else ((hf_158 ((q9.2.1 12 0 16) + (nI 4)) q9.2).bind (fun q12 => if ¬ q12.1 = a6 then (hb_159_93 q12.2) else (hb_159_89 q12.2))))))))))))
set_option maxHeartbeats 1000000 in
theorem hc_159 {S : hs_S} {D : Nat} {Q : hs_Q} (hD : 2 ≤ D) {a1 : Int32} {a2 : Int32} {a3 : Int32} {a4 : Int32} {a5 : Int32} {a6 : Int32} {h : hs_H} {r : Int32 × hs_H} (e : hf_159 a1 a2 a3 a4 a5 a6 h = some r) (q : Q (some (hs_i r.1)) r.2) : hs_call hs_ms S D 159 [hs_r 12 0, hs_i a1, hs_i a2, hs_i a3, hs_i a4, hs_i a5, hs_i a6] h Q := by
  refine hs_go (R := 1) hD rfl (Nat.le_of_ble_eq_true rfl) (fun d hd => ?_)
  show hs_W S d 2 hs_p159 Q 0 [hs_r 12 0, hs_i a1, hs_i a2, hs_i a3, hs_i a4, hs_i a5, hs_i a6] [] h
  unfold hf_159 at e
  refine hs_wb 7 (c := ¬ ((h.1 12 0 15) - (h.1 12 0 16)) = a1) (t := 93) (f := 13) (ls' := [hs_r 12 0, hs_i a1, hs_i a2, hs_i a3, hs_i a4, hs_i a5, hs_i a6]) (st' := []) (h' := h) (fun n w => w) (fun b1 => ?_) (fun b1 => ?_)
  · rw [if_pos b1] at e
    exact hw_159_93 hd e q
  · rw [if_neg b1] at e
    obtain ⟨q3, eq3, e⟩ := hs_bind_some e
    try dsimp only at e
    refine hs_wc 4 (y := 158) (a := [hs_r 12 0, hs_i (h.1 12 0 16)]) (v := some (hs_i q3.1)) (pc' := 21) (ls' := [hs_r 12 0, hs_i a1, hs_i a2, hs_i a3, hs_i a4, hs_i a5, hs_i a6]) (st' := []) (h' := h) (h2 := q3.2) (fun n w => w) (fun q => hc_158 (by omega) eq3 q) ?_
    refine hs_wb 2 (c := ¬ q3.1 = a2) (t := 93) (f := 25) (ls' := [hs_r 12 0, hs_i a1, hs_i a2, hs_i a3, hs_i a4, hs_i a5, hs_i a6]) (st' := []) (h' := q3.2) (fun n w => w) (fun b4 => ?_) (fun b4 => ?_)
    · rw [if_pos b4] at e
      exact hw_159_93 hd e q
    · rw [if_neg b4] at e
      obtain ⟨q5, eq5, e⟩ := hs_bind_some e
      try dsimp only at e
      refine hs_wc 6 (y := 158) (a := [hs_r 12 0, hs_i ((q3.2.1 12 0 16) + (nI 1))]) (v := some (hs_i q5.1)) (pc' := 35) (ls' := [hs_r 12 0, hs_i a1, hs_i a2, hs_i a3, hs_i a4, hs_i a5, hs_i a6]) (st' := []) (h' := q3.2) (h2 := q5.2) (fun n w => w) (fun q => hc_158 (by omega) eq5 q) ?_
      refine hs_wb 2 (c := ¬ q5.1 = a3) (t := 93) (f := 39) (ls' := [hs_r 12 0, hs_i a1, hs_i a2, hs_i a3, hs_i a4, hs_i a5, hs_i a6]) (st' := []) (h' := q5.2) (fun n w => w) (fun b6 => ?_) (fun b6 => ?_)
      · rw [if_pos b6] at e
        exact hw_159_93 hd e q
      · rw [if_neg b6] at e
        obtain ⟨q7, eq7, e⟩ := hs_bind_some e
        try dsimp only at e
        refine hs_wc 6 (y := 158) (a := [hs_r 12 0, hs_i ((q5.2.1 12 0 16) + (nI 2))]) (v := some (hs_i q7.1)) (pc' := 49) (ls' := [hs_r 12 0, hs_i a1, hs_i a2, hs_i a3, hs_i a4, hs_i a5, hs_i a6]) (st' := []) (h' := q5.2) (h2 := q7.2) (fun n w => w) (fun q => hc_158 (by omega) eq7 q) ?_
        refine hs_wb 2 (c := ¬ q7.1 = a4) (t := 93) (f := 54) (ls' := [hs_r 12 0, hs_i a1, hs_i a2, hs_i a3, hs_i a4, hs_i a5, hs_i a6]) (st' := []) (h' := q7.2) (fun n w => w) (fun b8 => ?_) (fun b8 => ?_)
        · rw [if_pos b8] at e
          exact hw_159_93 hd e q
        · rw [if_neg b8] at e
          obtain ⟨q9, eq9, e⟩ := hs_bind_some e
          try dsimp only at e
          refine hs_wc 6 (y := 158) (a := [hs_r 12 0, hs_i ((q7.2.1 12 0 16) + (nI 3))]) (v := some (hs_i q9.1)) (pc' := 64) (ls' := [hs_r 12 0, hs_i a1, hs_i a2, hs_i a3, hs_i a4, hs_i a5, hs_i a6]) (st' := []) (h' := q7.2) (h2 := q9.2) (fun n w => w) (fun q => hc_158 (by omega) eq9 q) ?_
          refine hs_wb 2 (c := ¬ q9.1 = a5) (t := 93) (f := 69) (ls' := [hs_r 12 0, hs_i a1, hs_i a2, hs_i a3, hs_i a4, hs_i a5, hs_i a6]) (st' := []) (h' := q9.2) (fun n w => w) (fun b10 => ?_) (fun b10 => ?_)
          · rw [if_pos b10] at e
            exact hw_159_93 hd e q
          · rw [if_neg b10] at e
            refine hs_wb 3 (c := a1 < (nI 5)) (t := 89) (f := 74) (ls' := [hs_r 12 0, hs_i a1, hs_i a2, hs_i a3, hs_i a4, hs_i a5, hs_i a6]) (st' := []) (h' := q9.2) (fun n w => w) (fun b11 => ?_) (fun b11 => ?_)
            · rw [if_pos b11] at e
              exact hw_159_89 hd e q
            · rw [if_neg b11] at e
              obtain ⟨q12, eq12, e⟩ := hs_bind_some e
              try dsimp only at e
              refine hs_wc 6 (y := 158) (a := [hs_r 12 0, hs_i ((q9.2.1 12 0 16) + (nI 4))]) (v := some (hs_i q12.1)) (pc' := 84) (ls' := [hs_r 12 0, hs_i a1, hs_i a2, hs_i a3, hs_i a4, hs_i a5, hs_i a6]) (st' := []) (h' := q9.2) (h2 := q12.2) (fun n w => w) (fun q => hc_158 (by omega) eq12 q) ?_
              refine hs_wb 2 (c := ¬ q12.1 = a6) (t := 93) (f := 89) (ls' := [hs_r 12 0, hs_i a1, hs_i a2, hs_i a3, hs_i a4, hs_i a5, hs_i a6]) (st' := []) (h' := q12.2) (fun n w => w) (fun b13 => ?_) (fun b13 => ?_)
              · rw [if_pos b13] at e
                exact hw_159_93 hd e q
              · rw [if_neg b13] at e
                exact hw_159_89 hd e q
def hb_160_144    (s0 : Int32) (h : hs_H) : Option (Int32 × hs_H) := some (s0, h)
set_option maxHeartbeats 1000000 in
theorem hw_160_144 {S : hs_S} {d : Nat} {Q : hs_Q} (hd : 2 ≤ d)     {s0 : Int32}  {h : hs_H} {r : Int32 × hs_H} (e : hb_160_144 s0 h = some r) (q : Q (some (hs_i r.1)) r.2) : hs_W S d 1 hs_p160 Q 144 [hs_r 12 0] [hs_i s0] h := by
  unfold hb_160_144 at e
  obtain rfl := Option.some.inj e
  exact hs_wr 1 (v := some (hs_i s0)) (h' := h) (fun n w => w) q
/-- HuntedScentModel.lineNow()I -/
def hf_160  (h : hs_H) : Option (Int32 × hs_H) := (hf_159 (nI 5) (nI 110) (nI 111) (nI 100) (nI 101) (nI 115) h).bind (fun q1 => if q1.1 = 0 then ((hf_159 (nI 4) (nI 114) (nI 101) (nI 115) (nI 116) (nI 0) q1.2).bind (fun q3 => if q3.1 = 0 then ((hf_159 (nI 5) (nI 115) (nI 116) (nI 97) (nI 114) (nI 116) q3.2).bind (fun q5 => if q5.1 = 0 then ((hf_159 (nI 4) (nI 108) (nI 97) (nI 110) (nI 101) (nI 0) q5.2).bind (fun q7 => if q7.1 = 0 then ((hf_159 (nI 5) (nI 119) (nI 97) (nI 116) (nI 101) (nI 114) q7.2).bind (fun q9 => if q9.1 = 0 then ((hf_159 (nI 4) (nI 104) (nI 111) (nI 108) (nI 101) (nI 0) q9.2).bind (fun q11 => if q11.1 = 0 then ((hf_159 (nI 5) (nI 115) (nI 109) (nI 101) (nI 108) (nI 116) q11.2).bind (fun q13 => if q13.1 = 0 then (hb_160_144 (nI 4294967292) q13.2) else (hb_160_144 (nI 6) q13.2))) else (hb_160_144 (nI 5) q11.2))) else (some (nI 4, q9.2)))) else (some (nI 3, q7.2)))) else (some (nI 2, q5.2)))) else (some (nI 1, q3.2)))) else (some (nI 0, q1.2)))
set_option maxHeartbeats 1000000 in
theorem hc_160 {S : hs_S} {D : Nat} {Q : hs_Q} (hD : 3 ≤ D)  {h : hs_H} {r : Int32 × hs_H} (e : hf_160 h = some r) (q : Q (some (hs_i r.1)) r.2) : hs_call hs_ms S D 160 [hs_r 12 0] h Q := by
  refine hs_go (R := 2) hD rfl (Nat.le_of_ble_eq_true rfl) (fun d hd => ?_)
  show hs_W S d 1 hs_p160 Q 0 [hs_r 12 0] [] h
  unfold hf_160 at e
  obtain ⟨q1, eq1, e⟩ := hs_bind_some e
  try dsimp only at e
  refine hs_wc 8 (y := 159) (a := [hs_r 12 0, hs_i (nI 5), hs_i (nI 110), hs_i (nI 111), hs_i (nI 100), hs_i (nI 101), hs_i (nI 115)]) (v := some (hs_i q1.1)) (pc' := 15) (ls' := [hs_r 12 0]) (st' := []) (h' := h) (h2 := q1.2) (fun n w => w) (fun q => hc_159 (by omega) eq1 q) ?_
  refine hs_wb 1 (c := q1.1 = 0) (t := 20) (f := 18) (ls' := [hs_r 12 0]) (st' := []) (h' := q1.2) (fun n w => w) (fun b2 => ?_) (fun b2 => ?_)
  · rw [if_pos b2] at e
    obtain ⟨q3, eq3, e⟩ := hs_bind_some e
    try dsimp only at e
    refine hs_wc 8 (y := 159) (a := [hs_r 12 0, hs_i (nI 4), hs_i (nI 114), hs_i (nI 101), hs_i (nI 115), hs_i (nI 116), hs_i (nI 0)]) (v := some (hs_i q3.1)) (pc' := 34) (ls' := [hs_r 12 0]) (st' := []) (h' := q1.2) (h2 := q3.2) (fun n w => w) (fun q => hc_159 (by omega) eq3 q) ?_
    refine hs_wb 1 (c := q3.1 = 0) (t := 39) (f := 37) (ls' := [hs_r 12 0]) (st' := []) (h' := q3.2) (fun n w => w) (fun b4 => ?_) (fun b4 => ?_)
    · rw [if_pos b4] at e
      obtain ⟨q5, eq5, e⟩ := hs_bind_some e
      try dsimp only at e
      refine hs_wc 8 (y := 159) (a := [hs_r 12 0, hs_i (nI 5), hs_i (nI 115), hs_i (nI 116), hs_i (nI 97), hs_i (nI 114), hs_i (nI 116)]) (v := some (hs_i q5.1)) (pc' := 54) (ls' := [hs_r 12 0]) (st' := []) (h' := q3.2) (h2 := q5.2) (fun n w => w) (fun q => hc_159 (by omega) eq5 q) ?_
      refine hs_wb 1 (c := q5.1 = 0) (t := 59) (f := 57) (ls' := [hs_r 12 0]) (st' := []) (h' := q5.2) (fun n w => w) (fun b6 => ?_) (fun b6 => ?_)
      · rw [if_pos b6] at e
        obtain ⟨q7, eq7, e⟩ := hs_bind_some e
        try dsimp only at e
        refine hs_wc 8 (y := 159) (a := [hs_r 12 0, hs_i (nI 4), hs_i (nI 108), hs_i (nI 97), hs_i (nI 110), hs_i (nI 101), hs_i (nI 0)]) (v := some (hs_i q7.1)) (pc' := 73) (ls' := [hs_r 12 0]) (st' := []) (h' := q5.2) (h2 := q7.2) (fun n w => w) (fun q => hc_159 (by omega) eq7 q) ?_
        refine hs_wb 1 (c := q7.1 = 0) (t := 78) (f := 76) (ls' := [hs_r 12 0]) (st' := []) (h' := q7.2) (fun n w => w) (fun b8 => ?_) (fun b8 => ?_)
        · rw [if_pos b8] at e
          obtain ⟨q9, eq9, e⟩ := hs_bind_some e
          try dsimp only at e
          refine hs_wc 8 (y := 159) (a := [hs_r 12 0, hs_i (nI 5), hs_i (nI 119), hs_i (nI 97), hs_i (nI 116), hs_i (nI 101), hs_i (nI 114)]) (v := some (hs_i q9.1)) (pc' := 93) (ls' := [hs_r 12 0]) (st' := []) (h' := q7.2) (h2 := q9.2) (fun n w => w) (fun q => hc_159 (by omega) eq9 q) ?_
          refine hs_wb 1 (c := q9.1 = 0) (t := 98) (f := 96) (ls' := [hs_r 12 0]) (st' := []) (h' := q9.2) (fun n w => w) (fun b10 => ?_) (fun b10 => ?_)
          · rw [if_pos b10] at e
            obtain ⟨q11, eq11, e⟩ := hs_bind_some e
            try dsimp only at e
            refine hs_wc 8 (y := 159) (a := [hs_r 12 0, hs_i (nI 4), hs_i (nI 104), hs_i (nI 111), hs_i (nI 108), hs_i (nI 101), hs_i (nI 0)]) (v := some (hs_i q11.1)) (pc' := 112) (ls' := [hs_r 12 0]) (st' := []) (h' := q9.2) (h2 := q11.2) (fun n w => w) (fun q => hc_159 (by omega) eq11 q) ?_
            refine hs_wb 1 (c := q11.1 = 0) (t := 119) (f := 115) (ls' := [hs_r 12 0]) (st' := []) (h' := q11.2) (fun n w => w) (fun b12 => ?_) (fun b12 => ?_)
            · rw [if_pos b12] at e
              obtain ⟨q13, eq13, e⟩ := hs_bind_some e
              try dsimp only at e
              refine hs_wc 8 (y := 159) (a := [hs_r 12 0, hs_i (nI 5), hs_i (nI 115), hs_i (nI 109), hs_i (nI 101), hs_i (nI 108), hs_i (nI 116)]) (v := some (hs_i q13.1)) (pc' := 134) (ls' := [hs_r 12 0]) (st' := []) (h' := q11.2) (h2 := q13.2) (fun n w => w) (fun q => hc_159 (by omega) eq13 q) ?_
              refine hs_wb 1 (c := q13.1 = 0) (t := 142) (f := 137) (ls' := [hs_r 12 0]) (st' := []) (h' := q13.2) (fun n w => w) (fun b14 => ?_) (fun b14 => ?_)
              · rw [if_pos b14] at e
                refine hs_w 1 (pc' := 144) (ls' := [hs_r 12 0]) (st' := [hs_i (nI 4294967292)]) (h' := q13.2) (fun n w => w) ?_
                exact hw_160_144 hd e q
              · rw [if_neg b14] at e
                refine hs_w 2 (pc' := 144) (ls' := [hs_r 12 0]) (st' := [hs_i (nI 6)]) (h' := q13.2) (fun n w => w) ?_
                exact hw_160_144 hd e q
            · rw [if_neg b12] at e
              refine hs_w 2 (pc' := 144) (ls' := [hs_r 12 0]) (st' := [hs_i (nI 5)]) (h' := q11.2) (fun n w => w) ?_
              exact hw_160_144 hd e q
          · rw [if_neg b10] at e
            obtain rfl := Option.some.inj e
            exact hs_wr 2 (v := some (hs_i (nI 4))) (h' := q9.2) (fun n w => w) q
        · rw [if_neg b8] at e
          obtain rfl := Option.some.inj e
          exact hs_wr 2 (v := some (hs_i (nI 3))) (h' := q7.2) (fun n w => w) q
      · rw [if_neg b6] at e
        obtain rfl := Option.some.inj e
        exact hs_wr 2 (v := some (hs_i (nI 2))) (h' := q5.2) (fun n w => w) q
    · rw [if_neg b4] at e
      obtain rfl := Option.some.inj e
      exact hs_wr 2 (v := some (hs_i (nI 1))) (h' := q3.2) (fun n w => w) q
  · rw [if_neg b2] at e
    obtain rfl := Option.some.inj e
    exact hs_wr 2 (v := some (hs_i (nI 0))) (h' := q1.2) (fun n w => w) q
