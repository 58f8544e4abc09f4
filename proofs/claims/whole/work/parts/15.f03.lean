/-! What the methods compute, by program; and that the small machine computes it. -/
def hb_37_24 (o : Nat)   (s0 : Int32) (h : hs_H) : Option (Int32 × hs_H) := some (s0, h)
set_option maxHeartbeats 1000000 in
theorem hw_37_24 {S : hs_S} {d : Nat} {Q : hs_Q} (hd : 1 ≤ d) {o : Nat}    {s0 : Int32}  {h : hs_H} {r : Int32 × hs_H} (e : hb_37_24 o s0 h = some r) (q : Q (some (hs_i r.1)) r.2) : hs_W S d 1 hs_p37 Q 24 [hs_r 4 o] [hs_i s0] h := by
  unfold hb_37_24 at e
  obtain rfl := Option.some.inj e
  exact hs_wr 1 (v := some (hs_i s0)) (h' := h) (fun n w => w) q
/-- HuntedScent$Net.beginnings()I -/
def hf_37 (o : Nat) (h : hs_H) : Option (Int32 × hs_H) := (hf_29 o (h.1 4 o 3) h).bind (fun q1 => if q1.1 = 0 then ((hf_31 o q1.2).bind (fun q3 => hb_37_24 o q3.1 q3.2)) else (hb_37_24 o ((nI 1) <<< ((q1.2.1 4 o 3) &&& 31)) q1.2))
set_option maxHeartbeats 1000000 in
theorem hc_37 {S : hs_S} {D : Nat} {Q : hs_Q} (hD : 2 ≤ D) {o : Nat} {h : hs_H} {r : Int32 × hs_H} (e : hf_37 o h = some r) (q : Q (some (hs_i r.1)) r.2) : hs_call hs_ms S D 37 [hs_r 4 o] h Q := by
  refine hs_go (R := 1) hD rfl (Nat.le_of_ble_eq_true rfl) (fun d hd => ?_)
  show hs_W S d 1 hs_p37 Q 0 [hs_r 4 o] [] h
  unfold hf_37 at e
  obtain ⟨q1, eq1, e⟩ := hs_bind_some e
  try dsimp only at e
  refine hs_wc 4 (y := 29) (a := [hs_r 4 o, hs_i (h.1 4 o 3)]) (v := some (hs_i q1.1)) (pc' := 8) (ls' := [hs_r 4 o]) (st' := []) (h' := h) (h2 := q1.2) (fun n w => w) (fun q => hc_29 (by omega) eq1 q) ?_
  refine hs_wb 1 (c := q1.1 = 0) (t := 20) (f := 11) (ls' := [hs_r 4 o]) (st' := []) (h' := q1.2) (fun n w => w) (fun b2 => ?_) (fun b2 => ?_)
  · rw [if_pos b2] at e
    obtain ⟨q3, eq3, e⟩ := hs_bind_some e
    try dsimp only at e
    refine hs_wc 2 (y := 31) (a := [hs_r 4 o]) (v := some (hs_i q3.1)) (pc' := 24) (ls' := [hs_r 4 o]) (st' := []) (h' := q1.2) (h2 := q3.2) (fun n w => w) (fun q => hc_31 (by omega) eq3 q) ?_
    exact hw_37_24 hd e q
  · rw [if_neg b2] at e
    refine hs_w 5 (pc' := 24) (ls' := [hs_r 4 o]) (st' := [hs_i ((nI 1) <<< ((q1.2.1 4 o 3) &&& 31))]) (h' := q1.2) (fun n w => w) ?_
    exact hw_37_24 hd e q
def hb_102_9     (h : hs_H) : Option (Int32 × hs_H) := some (nI 0, h)
set_option maxHeartbeats 1000000 in
theorem hw_102_9 {S : hs_S} {d : Nat} {Q : hs_Q} (hd : 3 ≤ d)      {v1 : hs_V} {v2 : hs_V} {h : hs_H} {r : Int32 × hs_H} (e : hb_102_9 h = some r) (q : Q (some (hs_i r.1)) r.2) : hs_W S d 1 hs_p102 Q 9 [hs_r 10 0, v1, v2] [] h := by
  unfold hb_102_9 at e
  obtain rfl := Option.some.inj e
  exact hs_wr 2 (v := some (hs_i (nI 0))) (h' := h) (fun n w => w) q
def hb_102_40   (x1 : Int32) (s0 : Int32) (h : hs_H) : Option (Int32 × hs_H) := (hf_100 ((h.1 10 0 9) - x1) h).bind (fun q6 => hs_ck (hs_inb x1 6) ((hf_50_35 0 x1 (q6.2.1 10 0 10) x1.toNatClampNeg (q6.2.1 4 0 4) q6.2).bind (fun q8 => some ((s0 &&& q6.1) &&& q8.1, q8.2))))
set_option maxHeartbeats 1000000 in
theorem hw_102_40 {S : hs_S} {d : Nat} {Q : hs_Q} (hd : 3 ≤ d)    {x1 : Int32} {s0 : Int32} {v2 : hs_V} {h : hs_H} {r : Int32 × hs_H} (e : hb_102_40 x1 s0 h = some r) (q : Q (some (hs_i r.1)) r.2) : hs_W S d 1 hs_p102 Q 40 [hs_r 10 0, hs_i x1, v2] [hs_i s0] h := by
  unfold hb_102_40 at e
  obtain ⟨q6, eq6, e⟩ := hs_bind_some e
  try dsimp only at e
  refine hs_wc 8 (y := 100) (a := [hs_r 10 0, hs_i ((h.1 10 0 9) - x1)]) (v := some (hs_i q6.1)) (pc' := 52) (ls' := [hs_r 10 0, hs_i x1, hs_i s0]) (st' := [hs_i s0]) (h' := h) (h2 := q6.2) (fun n w => w) (fun q => hc_100 (by omega) eq6 q) ?_
  obtain ⟨c7, e⟩ := hs_ck_some e
  refine hs_wa 10 (c := vp_in x1 6) (pc' := 68) (ls' := [hs_r 10 0, hs_i x1, hs_i s0]) (st' := [hs_r 35 x1.toNatClampNeg, hs_i (q6.2.1 10 0 10), hs_i x1, hs_r 5 0, hs_i (s0 &&& q6.1)]) (h' := q6.2) (fun n w => w) (hs_inb_iff.mp c7) ?_
  obtain ⟨q8, eq8, e⟩ := hs_bind_some e
  try dsimp only at e
  refine hs_wc 4 (y := 50) (a := [hs_r 5 0, hs_i x1, hs_i (q6.2.1 10 0 10), hs_r 35 x1.toNatClampNeg, hs_i (q6.2.1 4 0 4)]) (v := some (hs_i q8.1)) (pc' := 78) (ls' := [hs_r 10 0, hs_i x1, hs_i s0]) (st' := [hs_i (s0 &&& q6.1)]) (h' := q6.2) (h2 := q8.2) (fun n w => w) (fun q => hc_50_35 (by omega) eq8 q) ?_
  obtain rfl := Option.some.inj e
  exact hs_wr 2 (v := some (hs_i ((s0 &&& q6.1) &&& q8.1))) (h' := q8.2) (fun n w => w) q
/-- HuntedScent$Wayfinder.nodesFor(I)I -/
def hf_102 (a1 : Int32) (h : hs_H) : Option (Int32 × hs_H) := if a1 < 0 then (hb_102_9 h) else (if a1 ≤ (nI 5) then (if ¬ a1 = 0 then (hs_ck (hs_inb (a1 - (nI 1)) 6) ((hf_38 0 (h.1 39 0 (a1 - (nI 1)).toNatClampNeg) h).bind (fun q5 => hb_102_40 a1 q5.1 q5.2))) else ((hf_37 0 h).bind (fun q9 => hb_102_40 a1 q9.1 q9.2))) else (hb_102_9 h))
set_option maxHeartbeats 1000000 in
theorem hc_102 {S : hs_S} {D : Nat} {Q : hs_Q} (hD : 4 ≤ D) {a1 : Int32} {h : hs_H} {r : Int32 × hs_H} (e : hf_102 a1 h = some r) (q : Q (some (hs_i r.1)) r.2) : hs_call hs_ms S D 102 [hs_r 10 0, hs_i a1] h Q := by
  refine hs_go (R := 3) hD rfl (Nat.le_of_ble_eq_true rfl) (fun d hd => ?_)
  show hs_W S d 1 hs_p102 Q 0 [hs_r 10 0, hs_i a1, hs_u] [] h
  unfold hf_102 at e
  refine hs_wb 2 (c := a1 < 0) (t := 9) (f := 4) (ls' := [hs_r 10 0, hs_i a1, hs_u]) (st' := []) (h' := h) (fun n w => w) (fun b1 => ?_) (fun b1 => ?_)
  · rw [if_pos b1] at e
    exact hw_102_9 hd e q
  · rw [if_neg b1] at e
    refine hs_wb 3 (c := a1 ≤ (nI 5)) (t := 11) (f := 9) (ls' := [hs_r 10 0, hs_i a1, hs_u]) (st' := []) (h' := h) (fun n w => w) (fun b2 => ?_) (fun b2 => ?_)
    · rw [if_pos b2] at e
      refine hs_wb 2 (c := ¬ a1 = 0) (t := 25) (f := 15) (ls' := [hs_r 10 0, hs_i a1, hs_u]) (st' := []) (h' := h) (fun n w => w) (fun b3 => ?_) (fun b3 => ?_)
      · rw [if_pos b3] at e
        obtain ⟨c4, e⟩ := hs_ck_some e
        refine hs_wa 8 (c := vp_in (a1 - (nI 1)) 6) (pc' := 37) (ls' := [hs_r 10 0, hs_i a1, hs_u]) (st' := [hs_i (h.1 39 0 (a1 - (nI 1)).toNatClampNeg), hs_r 4 0]) (h' := h) (fun n w => w) (hs_inb_iff.mp c4) ?_
        obtain ⟨q5, eq5, e⟩ := hs_bind_some e
        try dsimp only at e
        refine hs_wc 1 (y := 38) (a := [hs_r 4 0, hs_i (h.1 39 0 (a1 - (nI 1)).toNatClampNeg)]) (v := some (hs_i q5.1)) (pc' := 40) (ls' := [hs_r 10 0, hs_i a1, hs_u]) (st' := []) (h' := h) (h2 := q5.2) (fun n w => w) (fun q => hc_38 (by omega) eq5 q) ?_
        exact hw_102_40 hd e q
      · rw [if_neg b3] at e
        obtain ⟨q9, eq9, e⟩ := hs_bind_some e
        try dsimp only at e
        refine hs_wc 3 (y := 37) (a := [hs_r 4 0]) (v := some (hs_i q9.1)) (pc' := 22) (ls' := [hs_r 10 0, hs_i a1, hs_u]) (st' := []) (h' := h) (h2 := q9.2) (fun n w => w) (fun q => hc_37 (by omega) eq9 q) ?_
        refine hs_w 1 (pc' := 40) (ls' := [hs_r 10 0, hs_i a1, hs_u]) (st' := [hs_i q9.1]) (h' := q9.2) (fun n w => w) ?_
        exact hw_102_40 hd e q
    · rw [if_neg b2] at e
      exact hw_102_9 hd e q
def hb_148_2  (k2 : Int32 × Int32 × hs_H → Option (Int32 × hs_H)) (x0 : Int32) (x1 : Int32)  (h : hs_H) : Option (Int32 × hs_H) := if (nI 10) ≤ x1 then (some (nI 4294967292, h)) else (if ((x0 >>> (x1 &&& 31)) &&& (nI 1)) = 0 then (k2 (x0, x1 + nI 1, h)) else (some (x1, h)))
set_option maxHeartbeats 1000000 in
theorem hw_148_2 {S : hs_S} {d : Nat} {Q : hs_Q} (hd : 0 ≤ d)  {k2 : Int32 × Int32 × hs_H → Option (Int32 × hs_H)} (hk2 : ∀ (x0 : Int32) (x1 : Int32) (h : hs_H) (r : Int32 × hs_H) , k2 (x0, x1, h) = some r → Q (some (hs_i r.1)) r.2 → hs_W S d 1 hs_p148 Q 2 [hs_i x0, hs_i x1] [] h) {x0 : Int32} {x1 : Int32}   {h : hs_H} {r : Int32 × hs_H} (e : hb_148_2 k2 x0 x1 h = some r) (q : Q (some (hs_i r.1)) r.2) : hs_W S d 1 hs_p148 Q 2 [hs_i x0, hs_i x1] [] h := by
  unfold hb_148_2 at e
  refine hs_wb 3 (c := (nI 10) ≤ x1) (t := 24) (f := 8) (ls' := [hs_i x0, hs_i x1]) (st' := []) (h' := h) (fun n w => w) (fun b1 => ?_) (fun b1 => ?_)
  · rw [if_pos b1] at e
    obtain rfl := Option.some.inj e
    exact hs_wr 2 (v := some (hs_i (nI 4294967292))) (h' := h) (fun n w => w) q
  · rw [if_neg b1] at e
    refine hs_wb 6 (c := ((x0 >>> (x1 &&& 31)) &&& (nI 1)) = 0) (t := 18) (f := 16) (ls' := [hs_i x0, hs_i x1]) (st' := []) (h' := h) (fun n w => w) (fun b2 => ?_) (fun b2 => ?_)
    · rw [if_pos b2] at e
      refine hs_w 2 (pc' := 2) (ls' := [hs_i x0, hs_i (x1 + nI 1)]) (st' := []) (h' := h) (fun n w => w) ?_
      exact hk2 _ _ _ _  e q
    · rw [if_neg b2] at e
      obtain rfl := Option.some.inj e
      exact hs_wr 2 (v := some (hs_i x1)) (h' := h) (fun n w => w) q
theorem hw_148_2_lp {S : hs_S} {d : Nat} {Q : hs_Q} (hd : 0 ≤ d)    (n : Nat) {x0 : Int32} {x1 : Int32} {h : hs_H} {r : Int32 × hs_H} (e : hs_lp (fun k s => hb_148_2 k s.1 s.2.1 s.2.2) n (x0, x1, h) = some r)  (q : Q (some (hs_i r.1)) r.2) : hs_W S d 1 hs_p148 Q 2 [hs_i x0, hs_i x1] [] h := by
  refine hs_lp_ind (P := fun (s : Int32 × Int32 × hs_H) (r : Int32 × hs_H) => ∀ (_ : True), Q (some (hs_i r.1)) r.2 → hs_W S d 1 hs_p148 Q 2 [hs_i s.1, hs_i s.2.1] [] s.2.2) (fun k hk s r e _ q => ?_) n (x0, x1, h) r e trivial q
  exact hw_148_2 hd (fun x0 x1 h r  e q => hk (x0, x1, h) r e trivial q) e q
/-- HuntedScent.leastOf(I)I -/
def hf_148 (a0 : Int32) (h : hs_H) : Option (Int32 × hs_H) := hs_lp (fun k s => hb_148_2 k s.1 s.2.1 s.2.2) hs_big (a0, nI 0, h)
set_option maxHeartbeats 1000000 in
theorem hc_148 {S : hs_S} {D : Nat} {Q : hs_Q} (hD : 1 ≤ D) {a0 : Int32} {h : hs_H} {r : Int32 × hs_H} (e : hf_148 a0 h = some r) (q : Q (some (hs_i r.1)) r.2) : hs_call hs_ms S D 148 [hs_i a0] h Q := by
  refine hs_go (R := 0) hD rfl (Nat.le_of_ble_eq_true rfl) (fun d hd => ?_)
  show hs_W S d 1 hs_p148 Q 0 [hs_i a0, hs_u] [] h
  unfold hf_148 at e
  refine hs_w 2 (pc' := 2) (ls' := [hs_i a0, hs_i (nI 0)]) (st' := []) (h' := h) (fun n w => w) ?_
  exact hw_148_2_lp hd hs_big e  q
def hb_104_96     (h : hs_H) : Option (hs_H) := some h
set_option maxHeartbeats 1000000 in
theorem hw_104_96 {S : hs_S} {d : Nat} {Q : hs_Q} (hd : 2 ≤ d)      {v1 : hs_V} {v2 : hs_V} {v3 : hs_V} {v4 : hs_V} {h : hs_H} {r : hs_H} (e : hb_104_96 h = some r) (q : Q none r) : hs_W S d 0 hs_p104 Q 96 [hs_r 10 0, v1, v2, v3, v4] [] h := by
  unfold hb_104_96 at e
  obtain rfl := Option.some.inj e
  exact hs_wr 1 (v := none) (h' := h) (fun n w => w) q
def hb_104_35  (k35 : Int32 × Int32 × hs_H → Option (hs_H)) (x3 : Int32) (x4 : Int32)  (h : hs_H) : Option (hs_H) := if (h.1 10 0 9) < x4 then (hb_104_96 h) else (if (nI 5) < x4 then (hb_104_96 h) else ((hf_148 x3 h).bind (fun q4 => hs_ck (hs_inb x4 6) (hs_ck (hs_inb x4 6) ((hf_38 0 ((hs_put q4.2 41 0 x4.toNatClampNeg q4.1).1 41 0 x4.toNatClampNeg) (hs_put q4.2 41 0 x4.toNatClampNeg q4.1)).bind (fun q7 => (hf_100 (((q7.2.1 10 0 9) - x4) - (nI 1)) q7.2).bind (fun q8 => k35 (q7.1 &&& q8.1, x4 + nI 1, q8.2))))))))
set_option maxHeartbeats 1000000 in
theorem hw_104_35 {S : hs_S} {d : Nat} {Q : hs_Q} (hd : 2 ≤ d)  {k35 : Int32 × Int32 × hs_H → Option (hs_H)} (hk35 : ∀ (x3 : Int32) (x4 : Int32) (h : hs_H) (r : hs_H) (v1 : hs_V) (v2 : hs_V), k35 (x3, x4, h) = some r → Q none r → hs_W S d 0 hs_p104 Q 35 [hs_r 10 0, v1, v2, hs_i x3, hs_i x4] [] h) {x3 : Int32} {x4 : Int32}  {v1 : hs_V} {v2 : hs_V} {h : hs_H} {r : hs_H} (e : hb_104_35 k35 x3 x4 h = some r) (q : Q none r) : hs_W S d 0 hs_p104 Q 35 [hs_r 10 0, v1, v2, hs_i x3, hs_i x4] [] h := by
  unfold hb_104_35 at e
  refine hs_wb 4 (c := (h.1 10 0 9) < x4) (t := 96) (f := 44) (ls' := [hs_r 10 0, v1, v2, hs_i x3, hs_i x4]) (st' := []) (h' := h) (fun n w => w) (fun b2 => ?_) (fun b2 => ?_)
  · rw [if_pos b2] at e
    exact hw_104_96 hd e q
  · rw [if_neg b2] at e
    refine hs_wb 3 (c := (nI 5) < x4) (t := 96) (f := 50) (ls' := [hs_r 10 0, v1, v2, hs_i x3, hs_i x4]) (st' := []) (h' := h) (fun n w => w) (fun b3 => ?_) (fun b3 => ?_)
    · rw [if_pos b3] at e
      exact hw_104_96 hd e q
    · rw [if_neg b3] at e
      obtain ⟨q4, eq4, e⟩ := hs_bind_some e
      try dsimp only at e
      refine hs_wc 5 (y := 148) (a := [hs_i x3]) (v := some (hs_i q4.1)) (pc' := 60) (ls' := [hs_r 10 0, v1, v2, hs_i x3, hs_i x4]) (st' := [hs_i x4, hs_r 41 0]) (h' := h) (h2 := q4.2) (fun n w => w) (fun q => hc_148 (by omega) eq4 q) ?_
      obtain ⟨c5, e⟩ := hs_ck_some e
      refine hs_wa 1 (c := vp_in x4 6) (pc' := 61) (ls' := [hs_r 10 0, v1, v2, hs_i x3, hs_i x4]) (st' := []) (h' := hs_put q4.2 41 0 x4.toNatClampNeg q4.1) (fun n w => w) (hs_inb_iff.mp c5) ?_
      obtain ⟨c6, e⟩ := hs_ck_some e
      refine hs_wa 6 (c := vp_in x4 6) (pc' := 72) (ls' := [hs_r 10 0, v1, v2, hs_i x3, hs_i x4]) (st' := [hs_i ((hs_put q4.2 41 0 x4.toNatClampNeg q4.1).1 41 0 x4.toNatClampNeg), hs_r 4 0]) (h' := hs_put q4.2 41 0 x4.toNatClampNeg q4.1) (fun n w => w) (hs_inb_iff.mp c6) ?_
      obtain ⟨q7, eq7, e⟩ := hs_bind_some e
      try dsimp only at e
      refine hs_wc 1 (y := 38) (a := [hs_r 4 0, hs_i ((hs_put q4.2 41 0 x4.toNatClampNeg q4.1).1 41 0 x4.toNatClampNeg)]) (v := some (hs_i q7.1)) (pc' := 75) (ls' := [hs_r 10 0, v1, v2, hs_i x3, hs_i x4]) (st' := []) (h' := hs_put q4.2 41 0 x4.toNatClampNeg q4.1) (h2 := q7.2) (fun n w => w) (fun q => hc_38 (by omega) eq7 q) ?_
      obtain ⟨q8, eq8, e⟩ := hs_bind_some e
      try dsimp only at e
      refine hs_wc 8 (y := 100) (a := [hs_r 10 0, hs_i (((q7.2.1 10 0 9) - x4) - (nI 1))]) (v := some (hs_i q8.1)) (pc' := 88) (ls' := [hs_r 10 0, v1, v2, hs_i x3, hs_i x4]) (st' := [hs_i q7.1]) (h' := q7.2) (h2 := q8.2) (fun n w => w) (fun q => hc_100 (by omega) eq8 q) ?_
      refine hs_w 4 (pc' := 35) (ls' := [hs_r 10 0, v1, v2, hs_i (q7.1 &&& q8.1), hs_i (x4 + nI 1)]) (st' := []) (h' := q8.2) (fun n w => w) ?_
      exact hk35 _ _ _ _ _ _ e q
theorem hw_104_35_lp {S : hs_S} {d : Nat} {Q : hs_Q} (hd : 2 ≤ d)    (n : Nat) {x3 : Int32} {x4 : Int32} {h : hs_H} {r : hs_H} (e : hs_lp (fun k s => hb_104_35 k s.1 s.2.1 s.2.2) n (x3, x4, h) = some r) (v1 : hs_V) (v2 : hs_V) (q : Q none r) : hs_W S d 0 hs_p104 Q 35 [hs_r 10 0, v1, v2, hs_i x3, hs_i x4] [] h := by
  refine hs_lp_ind (P := fun (s : Int32 × Int32 × hs_H) (r : hs_H) => ∀ (v1 : hs_V) (v2 : hs_V), Q none r → hs_W S d 0 hs_p104 Q 35 [hs_r 10 0, v1, v2, hs_i s.1, hs_i s.2.1] [] s.2.2) (fun k hk s r e v1 v2 q => ?_) n (x3, x4, h) r e v1 v2 q
  exact hw_104_35 hd (fun x3 x4 h r v1 v2 e q => hk (x3, x4, h) r e v1 v2 q) e q
def hb_104_30   (x1 : Int32) (x2 : Int32)  (h : hs_H) : Option (hs_H) := hs_lp (fun k s => hb_104_35 k s.1 s.2.1 s.2.2) hs_big (x2, x1, h)
set_option maxHeartbeats 1000000 in
theorem hw_104_30 {S : hs_S} {d : Nat} {Q : hs_Q} (hd : 2 ≤ d)    {x1 : Int32} {x2 : Int32}  {v3 : hs_V} {v4 : hs_V} {h : hs_H} {r : hs_H} (e : hb_104_30 x1 x2 h = some r) (q : Q none r) : hs_W S d 0 hs_p104 Q 30 [hs_r 10 0, hs_i x1, hs_i x2, v3, v4] [] h := by
  unfold hb_104_30 at e
  refine hs_w 4 (pc' := 35) (ls' := [hs_r 10 0, hs_i x1, hs_i x2, hs_i x2, hs_i x1]) (st' := []) (h' := h) (fun n w => w) ?_
  exact hw_104_35_lp hd hs_big e _ _ q
def hb_104_2  (k2 : Int32 × Int32 × Int32 × hs_H → Option (hs_H)) (x1 : Int32) (x2 : Int32) (x3 : Int32)  (h : hs_H) : Option (hs_H) := if x1 ≤ x3 then (hb_104_30 x1 x2 h) else (if (nI 5) < x3 then (hb_104_30 x1 x2 h) else (hs_ck (hs_inb x3 6) (hs_ck (hs_inb x3 6) (k2 (x1, x2, x3 + nI 1, hs_put h 41 0 x3.toNatClampNeg (h.1 39 0 x3.toNatClampNeg))))))
set_option maxHeartbeats 1000000 in
theorem hw_104_2 {S : hs_S} {d : Nat} {Q : hs_Q} (hd : 2 ≤ d)  {k2 : Int32 × Int32 × Int32 × hs_H → Option (hs_H)} (hk2 : ∀ (x1 : Int32) (x2 : Int32) (x3 : Int32) (h : hs_H) (r : hs_H) (v4 : hs_V), k2 (x1, x2, x3, h) = some r → Q none r → hs_W S d 0 hs_p104 Q 2 [hs_r 10 0, hs_i x1, hs_i x2, hs_i x3, v4] [] h) {x1 : Int32} {x2 : Int32} {x3 : Int32}  {v4 : hs_V} {h : hs_H} {r : hs_H} (e : hb_104_2 k2 x1 x2 x3 h = some r) (q : Q none r) : hs_W S d 0 hs_p104 Q 2 [hs_r 10 0, hs_i x1, hs_i x2, hs_i x3, v4] [] h := by
  unfold hb_104_2 at e
  refine hs_wb 3 (c := x1 ≤ x3) (t := 30) (f := 7) (ls' := [hs_r 10 0, hs_i x1, hs_i x2, hs_i x3, v4]) (st' := []) (h' := h) (fun n w => w) (fun b1 => ?_) (fun b1 => ?_)
  · rw [if_pos b1] at e
    exact hw_104_30 hd e q
  · rw [if_neg b1] at e
    refine hs_wb 3 (c := (nI 5) < x3) (t := 30) (f := 12) (ls' := [hs_r 10 0, hs_i x1, hs_i x2, hs_i x3, v4]) (st' := []) (h' := h) (fun n w => w) (fun b9 => ?_) (fun b9 => ?_)
    · rw [if_pos b9] at e
      exact hw_104_30 hd e q
    · rw [if_neg b9] at e
      obtain ⟨c10, e⟩ := hs_ck_some e
      refine hs_wa 7 (c := vp_in x3 6) (pc' := 23) (ls' := [hs_r 10 0, hs_i x1, hs_i x2, hs_i x3, v4]) (st' := [hs_i (h.1 39 0 x3.toNatClampNeg), hs_i x3, hs_r 41 0]) (h' := h) (fun n w => w) (hs_inb_iff.mp c10) ?_
      obtain ⟨c11, e⟩ := hs_ck_some e
      refine hs_wa 1 (c := vp_in x3 6) (pc' := 24) (ls' := [hs_r 10 0, hs_i x1, hs_i x2, hs_i x3, v4]) (st' := []) (h' := hs_put h 41 0 x3.toNatClampNeg (h.1 39 0 x3.toNatClampNeg)) (fun n w => w) (hs_inb_iff.mp c11) ?_
      refine hs_w 2 (pc' := 2) (ls' := [hs_r 10 0, hs_i x1, hs_i x2, hs_i (x3 + nI 1), v4]) (st' := []) (h' := hs_put h 41 0 x3.toNatClampNeg (h.1 39 0 x3.toNatClampNeg)) (fun n w => w) ?_
      exact hk2 _ _ _ _ _ _ e q
theorem hw_104_2_lp {S : hs_S} {d : Nat} {Q : hs_Q} (hd : 2 ≤ d)    (n : Nat) {x1 : Int32} {x2 : Int32} {x3 : Int32} {h : hs_H} {r : hs_H} (e : hs_lp (fun k s => hb_104_2 k s.1 s.2.1 s.2.2.1 s.2.2.2) n (x1, x2, x3, h) = some r) (v4 : hs_V) (q : Q none r) : hs_W S d 0 hs_p104 Q 2 [hs_r 10 0, hs_i x1, hs_i x2, hs_i x3, v4] [] h := by
  refine hs_lp_ind (P := fun (s : Int32 × Int32 × Int32 × hs_H) (r : hs_H) => ∀ (v4 : hs_V), Q none r → hs_W S d 0 hs_p104 Q 2 [hs_r 10 0, hs_i s.1, hs_i s.2.1, hs_i s.2.2.1, v4] [] s.2.2.2) (fun k hk s r e v4 q => ?_) n (x1, x2, x3, h) r e v4 q
  exact hw_104_2 hd (fun x1 x2 x3 h r v4 e q => hk (x1, x2, x3, h) r e v4 q) e q
/-- HuntedScent$Wayfinder.noteFirst(II)V -/
def hf_104 (a1 : Int32) (a2 : Int32) (h : hs_H) : Option (hs_H) := hs_lp (fun k s => hb_104_2 k s.1 s.2.1 s.2.2.1 s.2.2.2) hs_big (a1, a2, nI 0, h)
set_option maxHeartbeats 1000000 in
theorem hc_104 {S : hs_S} {D : Nat} {Q : hs_Q} (hD : 3 ≤ D) {a1 : Int32} {a2 : Int32} {h : hs_H} {r : hs_H} (e : hf_104 a1 a2 h = some r) (q : Q none r) : hs_call hs_ms S D 104 [hs_r 10 0, hs_i a1, hs_i a2] h Q := by
  refine hs_go (R := 2) hD rfl (Nat.le_of_ble_eq_true rfl) (fun d hd => ?_)
  show hs_W S d 0 hs_p104 Q 0 [hs_r 10 0, hs_i a1, hs_i a2, hs_u, hs_u] [] h
  unfold hf_104 at e
  refine hs_w 2 (pc' := 2) (ls' := [hs_r 10 0, hs_i a1, hs_i a2, hs_i (nI 0), hs_u]) (st' := []) (h' := h) (fun n w => w) ?_
  exact hw_104_2_lp hd hs_big e _ q
def hb_103_13     (h : hs_H) : Option (Int32 × hs_H) := some (nI 0, h)
set_option maxHeartbeats 1000000 in
theorem hw_103_13 {S : hs_S} {d : Nat} {Q : hs_Q} (hd : 3 ≤ d)      {v1 : hs_V} {v2 : hs_V} {h : hs_H} {r : Int32 × hs_H} (e : hb_103_13 h = some r) (q : Q (some (hs_i r.1)) r.2) : hs_W S d 1 hs_p103 Q 13 [hs_r 10 0, v1, v2] [] h := by
  unfold hb_103_13 at e
  obtain rfl := Option.some.inj e
  exact hs_wr 2 (v := some (hs_i (nI 0))) (h' := h) (fun n w => w) q
def hb_103_33   (x1 : Int32) (x2 : Int32)  (h : hs_H) : Option (Int32 × hs_H) := hs_ck (hs_inb x1 6) (hs_ck (hs_inb x1 6) ((hf_99 (((hs_put h 40 0 x1.toNatClampNeg ((h.1 40 0 x1.toNatClampNeg) ||| x2)).1 10 0 9) - x1) x2 (hs_put h 40 0 x1.toNatClampNeg ((h.1 40 0 x1.toNatClampNeg) ||| x2))).bind (fun q7 => some (q7.1, q7.2))))
set_option maxHeartbeats 1000000 in
theorem hw_103_33 {S : hs_S} {d : Nat} {Q : hs_Q} (hd : 3 ≤ d)    {x1 : Int32} {x2 : Int32}   {h : hs_H} {r : Int32 × hs_H} (e : hb_103_33 x1 x2 h = some r) (q : Q (some (hs_i r.1)) r.2) : hs_W S d 1 hs_p103 Q 33 [hs_r 10 0, hs_i x1, hs_i x2] [] h := by
  unfold hb_103_33 at e
  obtain ⟨c5, e⟩ := hs_ck_some e
  refine hs_wa 5 (c := vp_in x1 6) (pc' := 40) (ls' := [hs_r 10 0, hs_i x1, hs_i x2]) (st' := [hs_i (h.1 40 0 x1.toNatClampNeg), hs_i x1, hs_r 40 0]) (h' := h) (fun n w => w) (hs_inb_iff.mp c5) ?_
  obtain ⟨c6, e⟩ := hs_ck_some e
  refine hs_wa 3 (c := vp_in x1 6) (pc' := 43) (ls' := [hs_r 10 0, hs_i x1, hs_i x2]) (st' := []) (h' := hs_put h 40 0 x1.toNatClampNeg ((h.1 40 0 x1.toNatClampNeg) ||| x2)) (fun n w => w) (hs_inb_iff.mp c6) ?_
  obtain ⟨q7, eq7, e⟩ := hs_bind_some e
  try dsimp only at e
  refine hs_wc 7 (y := 99) (a := [hs_r 10 0, hs_i (((hs_put h 40 0 x1.toNatClampNeg ((h.1 40 0 x1.toNatClampNeg) ||| x2)).1 10 0 9) - x1), hs_i x2]) (v := some (hs_i q7.1)) (pc' := 54) (ls' := [hs_r 10 0, hs_i x1, hs_i x2]) (st' := []) (h' := hs_put h 40 0 x1.toNatClampNeg ((h.1 40 0 x1.toNatClampNeg) ||| x2)) (h2 := q7.2) (fun n w => w) (fun q => hc_99 (by omega) eq7 q) ?_
  obtain rfl := Option.some.inj e
  exact hs_wr 1 (v := some (hs_i q7.1)) (h' := q7.2) (fun n w => w) q
/-- HuntedScent$Wayfinder.finish(II)I -/
def hf_103 (a1 : Int32) (a2 : Int32) (h : hs_H) : Option (Int32 × hs_H) := if a2 = 0 then (hb_103_13 h) else (if a1 < 0 then (hb_103_13 h) else (if a1 ≤ (nI 5) then (if ¬ (h.1 10 0 13) = 0 then (hb_103_33 a1 a2 h) else ((hf_104 a1 a2 (hs_put h 10 0 13 (nI 1))).bind (fun q8 => hb_103_33 a1 a2 q8))) else (hb_103_13 h)))
set_option maxHeartbeats 1000000 in
theorem hc_103 {S : hs_S} {D : Nat} {Q : hs_Q} (hD : 4 ≤ D) {a1 : Int32} {a2 : Int32} {h : hs_H} {r : Int32 × hs_H} (e : hf_103 a1 a2 h = some r) (q : Q (some (hs_i r.1)) r.2) : hs_call hs_ms S D 103 [hs_r 10 0, hs_i a1, hs_i a2] h Q := by
  refine hs_go (R := 3) hD rfl (Nat.le_of_ble_eq_true rfl) (fun d hd => ?_)
  show hs_W S d 1 hs_p103 Q 0 [hs_r 10 0, hs_i a1, hs_i a2] [] h
  unfold hf_103 at e
  refine hs_wb 2 (c := a2 = 0) (t := 13) (f := 4) (ls' := [hs_r 10 0, hs_i a1, hs_i a2]) (st' := []) (h' := h) (fun n w => w) (fun b1 => ?_) (fun b1 => ?_)
  · rw [if_pos b1] at e
    exact hw_103_13 hd e q
  · rw [if_neg b1] at e
    refine hs_wb 2 (c := a1 < 0) (t := 13) (f := 8) (ls' := [hs_r 10 0, hs_i a1, hs_i a2]) (st' := []) (h' := h) (fun n w => w) (fun b2 => ?_) (fun b2 => ?_)
    · rw [if_pos b2] at e
      exact hw_103_13 hd e q
    · rw [if_neg b2] at e
      refine hs_wb 3 (c := a1 ≤ (nI 5)) (t := 15) (f := 13) (ls' := [hs_r 10 0, hs_i a1, hs_i a2]) (st' := []) (h' := h) (fun n w => w) (fun b3 => ?_) (fun b3 => ?_)
      · rw [if_pos b3] at e
        refine hs_wb 3 (c := ¬ (h.1 10 0 13) = 0) (t := 33) (f := 22) (ls' := [hs_r 10 0, hs_i a1, hs_i a2]) (st' := []) (h' := h) (fun n w => w) (fun b4 => ?_) (fun b4 => ?_)
        · rw [if_pos b4] at e
          exact hw_103_33 hd e q
        · rw [if_neg b4] at e
          refine hs_wa 3 (c := nI 1 = 0 ∨ nI 1 = 1) (pc' := 27) (ls' := [hs_r 10 0, hs_i a1, hs_i a2]) (st' := []) (h' := hs_put h 10 0 13 (nI 1)) (fun n w => w) (by decide) ?_
          obtain ⟨q8, eq8, e⟩ := hs_bind_some e
          try dsimp only at e
          refine hs_wc 4 (y := 104) (a := [hs_r 10 0, hs_i a1, hs_i a2]) (v := none) (pc' := 33) (ls' := [hs_r 10 0, hs_i a1, hs_i a2]) (st' := []) (h' := hs_put h 10 0 13 (nI 1)) (h2 := q8) (fun n w => w) (fun q => hc_104 (by omega) eq8 q) ?_
          exact hw_103_33 hd e q
      · rw [if_neg b3] at e
        exact hw_103_13 hd e q
def hb_84_35_35_65 (p0 : Nat) (p1 : Nat)    (h : hs_H) : Option (hs_H) := some h
set_option maxHeartbeats 1000000 in
theorem hw_84_35_35_65 {S : hs_S} {d : Nat} {Q : hs_Q} (hd : 2 ≤ d) {p0 : Nat} {p1 : Nat}     {v2 : hs_V} {v3 : hs_V} {v4 : hs_V} {h : hs_H} {r : hs_H} (e : hb_84_35_35_65 p0 p1 h = some r) (q : Q none r) : hs_W S d 0 hs_p84 Q 65 [hs_r 35 p0, hs_r 35 p1, v2, v3, v4] [] h := by
  unfold hb_84_35_35_65 at e
  obtain rfl := Option.some.inj e
  exact hs_wr 1 (v := none) (h' := h) (fun n w => w) q
def hb_84_35_35_41 (p0 : Nat) (p1 : Nat)  (x2 : Int32) (x3 : Int32)  (h : hs_H) : Option (hs_H) := if x2 < 0 then (hb_84_35_35_65 p0 p1 h) else (if (nI 10) ≤ x2 then (hb_84_35_35_65 p0 p1 h) else (hs_ck (hs_inb x2 10) ((hf_147 x3 x2 h).bind (fun q5 => (hf_86 (h.1 35 p1 x2.toNatClampNeg) q5.1 q5.2).bind (fun q6 => hs_ck (hs_inb x2 10) (hb_84_35_35_65 p0 p1 (hs_put q6.2 35 p1 x2.toNatClampNeg q6.1)))))))
set_option maxHeartbeats 1000000 in
theorem hw_84_35_35_41 {S : hs_S} {d : Nat} {Q : hs_Q} (hd : 2 ≤ d) {p0 : Nat} {p1 : Nat}   {x2 : Int32} {x3 : Int32}  {v4 : hs_V} {h : hs_H} {r : hs_H} (e : hb_84_35_35_41 p0 p1 x2 x3 h = some r) (q : Q none r) : hs_W S d 0 hs_p84 Q 41 [hs_r 35 p0, hs_r 35 p1, hs_i x2, hs_i x3, v4] [] h := by
  unfold hb_84_35_35_41 at e
  refine hs_wb 2 (c := x2 < 0) (t := 65) (f := 45) (ls' := [hs_r 35 p0, hs_r 35 p1, hs_i x2, hs_i x3, v4]) (st' := []) (h' := h) (fun n w => w) (fun b2 => ?_) (fun b2 => ?_)
  · rw [if_pos b2] at e
    exact hw_84_35_35_65 hd e q
  · rw [if_neg b2] at e
    refine hs_wb 4 (c := (nI 10) ≤ x2) (t := 65) (f := 51) (ls' := [hs_r 35 p0, hs_r 35 p1, hs_i x2, hs_i x3, v4]) (st' := []) (h' := h) (fun n w => w) (fun b3 => ?_) (fun b3 => ?_)
    · rw [if_pos b3] at e
      exact hw_84_35_35_65 hd e q
    · rw [if_neg b3] at e
      obtain ⟨c4, e⟩ := hs_ck_some e
      refine hs_wa 5 (c := vp_in x2 10) (pc' := 56) (ls' := [hs_r 35 p0, hs_r 35 p1, hs_i x2, hs_i x3, v4]) (st' := [hs_i (h.1 35 p1 x2.toNatClampNeg), hs_i x2, hs_r 35 p1]) (h' := h) (fun n w => w) (hs_inb_iff.mp c4) ?_
      obtain ⟨q5, eq5, e⟩ := hs_bind_some e
      try dsimp only at e
      refine hs_wc 3 (y := 147) (a := [hs_i x3, hs_i x2]) (v := some (hs_i q5.1)) (pc' := 61) (ls' := [hs_r 35 p0, hs_r 35 p1, hs_i x2, hs_i x3, v4]) (st' := [hs_i (h.1 35 p1 x2.toNatClampNeg), hs_i x2, hs_r 35 p1]) (h' := h) (h2 := q5.2) (fun n w => w) (fun q => hc_147 (by omega) eq5 q) ?_
      obtain ⟨q6, eq6, e⟩ := hs_bind_some e
      try dsimp only at e
      refine hs_wc 1 (y := 86) (a := [hs_i (h.1 35 p1 x2.toNatClampNeg), hs_i q5.1]) (v := some (hs_i q6.1)) (pc' := 64) (ls' := [hs_r 35 p0, hs_r 35 p1, hs_i x2, hs_i x3, v4]) (st' := [hs_i x2, hs_r 35 p1]) (h' := q5.2) (h2 := q6.2) (fun n w => w) (fun q => hc_86 (by omega) eq6 q) ?_
      obtain ⟨c7, e⟩ := hs_ck_some e
      refine hs_wa 1 (c := vp_in x2 10) (pc' := 65) (ls' := [hs_r 35 p0, hs_r 35 p1, hs_i x2, hs_i x3, v4]) (st' := []) (h' := hs_put q6.2 35 p1 x2.toNatClampNeg q6.1) (fun n w => w) (hs_inb_iff.mp c7) ?_
      exact hw_84_35_35_65 hd e q
def hb_84_35_35_3 (p0 : Nat) (p1 : Nat) (k3 : Int32 × Int32 × Int32 × hs_H → Option (hs_H)) (x2 : Int32) (x3 : Int32) (x4 : Int32)  (h : hs_H) : Option (hs_H) := if (nI 10) ≤ x4 then (hb_84_35_35_41 p0 p1 x2 x3 h) else (if (nI 10) ≤ x4 then (hb_84_35_35_41 p0 p1 x2 x3 h) else (if (nI 10) ≤ x4 then (hb_84_35_35_41 p0 p1 x2 x3 h) else (hs_ck (hs_inb x4 10) ((hf_85 (h.1 35 p0 x4.toNatClampNeg) h).bind (fun q11 => hs_ck (hs_inb x4 10) (k3 (x2, x3, x4 + nI 1, hs_put q11.2 35 p1 x4.toNatClampNeg q11.1)))))))
set_option maxHeartbeats 1000000 in
theorem hw_84_35_35_3 {S : hs_S} {d : Nat} {Q : hs_Q} (hd : 2 ≤ d) {p0 : Nat} {p1 : Nat} {k3 : Int32 × Int32 × Int32 × hs_H → Option (hs_H)} (hk3 : ∀ (x2 : Int32) (x3 : Int32) (x4 : Int32) (h : hs_H) (r : hs_H) , k3 (x2, x3, x4, h) = some r → Q none r → hs_W S d 0 hs_p84 Q 3 [hs_r 35 p0, hs_r 35 p1, hs_i x2, hs_i x3, hs_i x4] [] h) {x2 : Int32} {x3 : Int32} {x4 : Int32}   {h : hs_H} {r : hs_H} (e : hb_84_35_35_3 p0 p1 k3 x2 x3 x4 h = some r) (q : Q none r) : hs_W S d 0 hs_p84 Q 3 [hs_r 35 p0, hs_r 35 p1, hs_i x2, hs_i x3, hs_i x4] [] h := by
  unfold hb_84_35_35_3 at e
  refine hs_wb 3 (c := (nI 10) ≤ x4) (t := 41) (f := 10) (ls' := [hs_r 35 p0, hs_r 35 p1, hs_i x2, hs_i x3, hs_i x4]) (st' := []) (h' := h) (fun n w => w) (fun b1 => ?_) (fun b1 => ?_)
  · rw [if_pos b1] at e
    exact hw_84_35_35_41 hd e q
  · rw [if_neg b1] at e
    refine hs_wb 4 (c := (nI 10) ≤ x4) (t := 41) (f := 17) (ls' := [hs_r 35 p0, hs_r 35 p1, hs_i x2, hs_i x3, hs_i x4]) (st' := []) (h' := h) (fun n w => w) (fun b8 => ?_) (fun b8 => ?_)
    · rw [if_pos b8] at e
      exact hw_84_35_35_41 hd e q
    · rw [if_neg b8] at e
      refine hs_wb 4 (c := (nI 10) ≤ x4) (t := 41) (f := 24) (ls' := [hs_r 35 p0, hs_r 35 p1, hs_i x2, hs_i x3, hs_i x4]) (st' := []) (h' := h) (fun n w => w) (fun b9 => ?_) (fun b9 => ?_)
      · rw [if_pos b9] at e
        exact hw_84_35_35_41 hd e q
      · rw [if_neg b9] at e
        obtain ⟨c10, e⟩ := hs_ck_some e
        refine hs_wa 5 (c := vp_in x4 10) (pc' := 31) (ls' := [hs_r 35 p0, hs_r 35 p1, hs_i x2, hs_i x3, hs_i x4]) (st' := [hs_i (h.1 35 p0 x4.toNatClampNeg), hs_i x4, hs_r 35 p1]) (h' := h) (fun n w => w) (hs_inb_iff.mp c10) ?_
        obtain ⟨q11, eq11, e⟩ := hs_bind_some e
        try dsimp only at e
        refine hs_wc 1 (y := 85) (a := [hs_i (h.1 35 p0 x4.toNatClampNeg)]) (v := some (hs_i q11.1)) (pc' := 34) (ls' := [hs_r 35 p0, hs_r 35 p1, hs_i x2, hs_i x3, hs_i x4]) (st' := [hs_i x4, hs_r 35 p1]) (h' := h) (h2 := q11.2) (fun n w => w) (fun q => hc_85 (by omega) eq11 q) ?_
        obtain ⟨c12, e⟩ := hs_ck_some e
        refine hs_wa 1 (c := vp_in x4 10) (pc' := 35) (ls' := [hs_r 35 p0, hs_r 35 p1, hs_i x2, hs_i x3, hs_i x4]) (st' := []) (h' := hs_put q11.2 35 p1 x4.toNatClampNeg q11.1) (fun n w => w) (hs_inb_iff.mp c12) ?_
        refine hs_w 2 (pc' := 3) (ls' := [hs_r 35 p0, hs_r 35 p1, hs_i x2, hs_i x3, hs_i (x4 + nI 1)]) (st' := []) (h' := hs_put q11.2 35 p1 x4.toNatClampNeg q11.1) (fun n w => w) ?_
        exact hk3 _ _ _ _ _  e q
theorem hw_84_35_35_3_lp {S : hs_S} {d : Nat} {Q : hs_Q} (hd : 2 ≤ d) {p0 : Nat} {p1 : Nat}   (n : Nat) {x2 : Int32} {x3 : Int32} {x4 : Int32} {h : hs_H} {r : hs_H} (e : hs_lp (fun k s => hb_84_35_35_3 p0 p1 k s.1 s.2.1 s.2.2.1 s.2.2.2) n (x2, x3, x4, h) = some r)  (q : Q none r) : hs_W S d 0 hs_p84 Q 3 [hs_r 35 p0, hs_r 35 p1, hs_i x2, hs_i x3, hs_i x4] [] h := by
  refine hs_lp_ind (P := fun (s : Int32 × Int32 × Int32 × hs_H) (r : hs_H) => ∀ (_ : True), Q none r → hs_W S d 0 hs_p84 Q 3 [hs_r 35 p0, hs_r 35 p1, hs_i s.1, hs_i s.2.1, hs_i s.2.2.1] [] s.2.2.2) (fun k hk s r e _ q => ?_) n (x2, x3, x4, h) r e trivial q
  exact hw_84_35_35_3 hd (fun x2 x3 x4 h r  e q => hk (x2, x3, x4, h) r e trivial q) e q
/-- HuntedScent$Trail.pass([I[III)V -/
def hf_84_35_35 (p0 : Nat) (p1 : Nat) (a2 : Int32) (a3 : Int32) (h : hs_H) : Option (hs_H) := hs_lp (fun k s => hb_84_35_35_3 p0 p1 k s.1 s.2.1 s.2.2.1 s.2.2.2) hs_big (a2, a3, nI 0, h)
set_option maxHeartbeats 1000000 in
theorem hc_84_35_35 {S : hs_S} {D : Nat} {Q : hs_Q} (hD : 3 ≤ D) {p0 : Nat} {p1 : Nat} {a2 : Int32} {a3 : Int32} {h : hs_H} {r : hs_H} (e : hf_84_35_35 p0 p1 a2 a3 h = some r) (q : Q none r) : hs_call hs_ms S D 84 [hs_r 35 p0, hs_r 35 p1, hs_i a2, hs_i a3] h Q := by
  refine hs_go (R := 2) hD rfl (Nat.le_of_ble_eq_true rfl) (fun d hd => ?_)
  show hs_W S d 0 hs_p84 Q 0 [hs_r 35 p0, hs_r 35 p1, hs_i a2, hs_i a3, hs_u] [] h
  unfold hf_84_35_35 at e
  refine hs_w 2 (pc' := 3) (ls' := [hs_r 35 p0, hs_r 35 p1, hs_i a2, hs_i a3, hs_i (nI 0)]) (st' := []) (h' := h) (fun n w => w) ?_
  exact hw_84_35_35_3_lp hd hs_big e  q
def hb_101_19 (self : Int32 → hs_H → Option (Int32 × hs_H))  (x1 : Int32) (x2 : Int32)  (h : hs_H) : Option (Int32 × hs_H) := (hf_103 x1 x2 h).bind (fun q3 => some (q3.1, q3.2))
set_option maxHeartbeats 1000000 in
theorem hw_101_19 {S : hs_S} {d : Nat} {Q : hs_Q} (hd : 4 ≤ d) {self : Int32 → hs_H → Option (Int32 × hs_H)} (hself : ∀ (a1 : Int32) (h : hs_H) (r : Int32 × hs_H), self a1 h = some r → ∀ {Q2 : hs_Q}, Q2 (some (hs_i r.1)) r.2 → hs_call hs_ms S d 101 [hs_r 10 0, hs_i a1] h Q2)   {x1 : Int32} {x2 : Int32}  {v3 : hs_V} {v4 : hs_V} {v5 : hs_V} {h : hs_H} {r : Int32 × hs_H} (e : hb_101_19 self x1 x2 h = some r) (q : Q (some (hs_i r.1)) r.2) : hs_W S d 1 hs_p101 Q 19 [hs_r 10 0, hs_i x1, hs_i x2, v3, v4, v5] [] h := by
  unfold hb_101_19 at e
  obtain ⟨q3, eq3, e⟩ := hs_bind_some e
  try dsimp only at e
  refine hs_wc 4 (y := 103) (a := [hs_r 10 0, hs_i x1, hs_i x2]) (v := some (hs_i q3.1)) (pc' := 25) (ls' := [hs_r 10 0, hs_i x1, hs_i x2, v3, v4, v5]) (st' := []) (h' := h) (h2 := q3.2) (fun n w => w) (fun q => hc_103 (by omega) eq3 q) ?_
  obtain rfl := Option.some.inj e
  exact hs_wr 1 (v := some (hs_i q3.1)) (h' := q3.2) (fun n w => w) q
def hb_101_142 (self : Int32 → hs_H → Option (Int32 × hs_H))  (x3 : Int32)  (h : hs_H) : Option (Int32 × hs_H) := some (x3, h)
set_option maxHeartbeats 1000000 in
theorem hw_101_142 {S : hs_S} {d : Nat} {Q : hs_Q} (hd : 4 ≤ d) {self : Int32 → hs_H → Option (Int32 × hs_H)} (hself : ∀ (a1 : Int32) (h : hs_H) (r : Int32 × hs_H), self a1 h = some r → ∀ {Q2 : hs_Q}, Q2 (some (hs_i r.1)) r.2 → hs_call hs_ms S d 101 [hs_r 10 0, hs_i a1] h Q2)   {x3 : Int32}  {v1 : hs_V} {v2 : hs_V} {v4 : hs_V} {v5 : hs_V} {h : hs_H} {r : Int32 × hs_H} (e : hb_101_142 self x3 h = some r) (q : Q (some (hs_i r.1)) r.2) : hs_W S d 1 hs_p101 Q 142 [hs_r 10 0, v1, v2, hs_i x3, v4, v5] [] h := by
  unfold hb_101_142 at e
  obtain rfl := Option.some.inj e
  exact hs_wr 2 (v := some (hs_i x3)) (h' := h) (fun n w => w) q
def hb_101_136 (self : Int32 → hs_H → Option (Int32 × hs_H)) (k31 : Int32 × Int32 × Int32 × Int32 × hs_H → Option (Int32 × hs_H)) (x1 : Int32) (x2 : Int32) (x3 : Int32) (x4 : Int32)  (h : hs_H) : Option (Int32 × hs_H) := k31 (x1, x2, x3, x4 + nI 1, h)
set_option maxHeartbeats 1000000 in
theorem hw_101_136 {S : hs_S} {d : Nat} {Q : hs_Q} (hd : 4 ≤ d) {self : Int32 → hs_H → Option (Int32 × hs_H)} (hself : ∀ (a1 : Int32) (h : hs_H) (r : Int32 × hs_H), self a1 h = some r → ∀ {Q2 : hs_Q}, Q2 (some (hs_i r.1)) r.2 → hs_call hs_ms S d 101 [hs_r 10 0, hs_i a1] h Q2) {k31 : Int32 × Int32 × Int32 × Int32 × hs_H → Option (Int32 × hs_H)} (hk31 : ∀ (x1 : Int32) (x2 : Int32) (x3 : Int32) (x4 : Int32) (h : hs_H) (r : Int32 × hs_H) (v5 : hs_V), k31 (x1, x2, x3, x4, h) = some r → Q (some (hs_i r.1)) r.2 → hs_W S d 1 hs_p101 Q 31 [hs_r 10 0, hs_i x1, hs_i x2, hs_i x3, hs_i x4, v5] [] h) {x1 : Int32} {x2 : Int32} {x3 : Int32} {x4 : Int32}  {v5 : hs_V} {h : hs_H} {r : Int32 × hs_H} (e : hb_101_136 self k31 x1 x2 x3 x4 h = some r) (q : Q (some (hs_i r.1)) r.2) : hs_W S d 1 hs_p101 Q 136 [hs_r 10 0, hs_i x1, hs_i x2, hs_i x3, hs_i x4, v5] [] h := by
  unfold hb_101_136 at e
  refine hs_w 2 (pc' := 31) (ls' := [hs_r 10 0, hs_i x1, hs_i x2, hs_i x3, hs_i (x4 + nI 1), v5]) (st' := []) (h' := h) (fun n w => w) ?_
  exact hk31 _ _ _ _ _ _ _ e q
def hb_101_129 (self : Int32 → hs_H → Option (Int32 × hs_H)) (k31 : Int32 × Int32 × Int32 × Int32 × hs_H → Option (Int32 × hs_H)) (x1 : Int32) (x2 : Int32) (x3 : Int32) (x4 : Int32) (x5 : Int32) (s0 : Int32) (s1 : Int32) (s2 : Int32) (h : hs_H) : Option (Int32 × hs_H) := hs_ck (hs_inb s2 6) (hb_101_136 self k31 x1 x2 (x3 + x5) x4 (hs_put h 40 0 s2.toNatClampNeg (s1 ||| s0)))
set_option maxHeartbeats 1000000 in
theorem hw_101_129 {S : hs_S} {d : Nat} {Q : hs_Q} (hd : 4 ≤ d) {self : Int32 → hs_H → Option (Int32 × hs_H)} (hself : ∀ (a1 : Int32) (h : hs_H) (r : Int32 × hs_H), self a1 h = some r → ∀ {Q2 : hs_Q}, Q2 (some (hs_i r.1)) r.2 → hs_call hs_ms S d 101 [hs_r 10 0, hs_i a1] h Q2) {k31 : Int32 × Int32 × Int32 × Int32 × hs_H → Option (Int32 × hs_H)} (hk31 : ∀ (x1 : Int32) (x2 : Int32) (x3 : Int32) (x4 : Int32) (h : hs_H) (r : Int32 × hs_H) (v5 : hs_V), k31 (x1, x2, x3, x4, h) = some r → Q (some (hs_i r.1)) r.2 → hs_W S d 1 hs_p101 Q 31 [hs_r 10 0, hs_i x1, hs_i x2, hs_i x3, hs_i x4, v5] [] h) {x1 : Int32} {x2 : Int32} {x3 : Int32} {x4 : Int32} {x5 : Int32} {s0 : Int32} {s1 : Int32} {s2 : Int32}  {h : hs_H} {r : Int32 × hs_H} (e : hb_101_129 self k31 x1 x2 x3 x4 x5 s0 s1 s2 h = some r) (q : Q (some (hs_i r.1)) r.2) : hs_W S d 1 hs_p101 Q 129 [hs_r 10 0, hs_i x1, hs_i x2, hs_i x3, hs_i x4, hs_i x5] [hs_i s0, hs_i s1, hs_i s2, hs_r 40 0] h := by
  unfold hb_101_129 at e
  obtain ⟨c16, e⟩ := hs_ck_some e
  refine hs_wa 2 (c := vp_in s2 6) (pc' := 131) (ls' := [hs_r 10 0, hs_i x1, hs_i x2, hs_i x3, hs_i x4, hs_i x5]) (st' := []) (h' := hs_put h 40 0 s2.toNatClampNeg (s1 ||| s0)) (fun n w => w) (hs_inb_iff.mp c16) ?_
  refine hs_w 4 (pc' := 136) (ls' := [hs_r 10 0, hs_i x1, hs_i x2, hs_i (x3 + x5), hs_i x4, hs_i x5]) (st' := []) (h' := hs_put h 40 0 s2.toNatClampNeg (s1 ||| s0)) (fun n w => w) ?_
  exact hw_101_136 hd hself hk31 e q
def hb_101_57 (self : Int32 → hs_H → Option (Int32 × hs_H)) (k31 : Int32 × Int32 × Int32 × Int32 × hs_H → Option (Int32 × hs_H)) (x1 : Int32) (x2 : Int32) (x3 : Int32) (x4 : Int32)  (h : hs_H) : Option (Int32 × hs_H) := (hf_147 x2 x4 h).bind (fun q7 => if q7.1 = 0 then (hb_101_136 self k31 x1 x2 x3 x4 q7.2) else (hs_ck (hs_inb x1 6) (hs_ck (hs_inb x1 6) (hs_ck (hs_inb (x1 + (nI 1)) 6) ((hf_84_35_35 x1.toNatClampNeg ((x1 + (nI 1)).toNatClampNeg) x4 ((hs_put q7.2 39 0 x1.toNatClampNeg x4).1 4 0 4) (hs_put q7.2 39 0 x1.toNatClampNeg x4)).bind (fun q12 => (self (x1 + (nI 1)) q12).bind (fun q13 => hs_ck (hs_inb x1 6) (if q13.1 ≤ 0 then (hb_101_129 self k31 x1 x2 x3 x4 q13.1 (nI 0) (q13.2.1 40 0 x1.toNatClampNeg) x1 q13.2) else (hb_101_129 self k31 x1 x2 x3 x4 q13.1 ((nI 1) <<< (x4 &&& 31)) (q13.2.1 40 0 x1.toNatClampNeg) x1 q13.2)))))))))
set_option maxHeartbeats 1000000 in
theorem hw_101_57 {S : hs_S} {d : Nat} {Q : hs_Q} (hd : 4 ≤ d) {self : Int32 → hs_H → Option (Int32 × hs_H)} (hself : ∀ (a1 : Int32) (h : hs_H) (r : Int32 × hs_H), self a1 h = some r → ∀ {Q2 : hs_Q}, Q2 (some (hs_i r.1)) r.2 → hs_call hs_ms S d 101 [hs_r 10 0, hs_i a1] h Q2) {k31 : Int32 × Int32 × Int32 × Int32 × hs_H → Option (Int32 × hs_H)} (hk31 : ∀ (x1 : Int32) (x2 : Int32) (x3 : Int32) (x4 : Int32) (h : hs_H) (r : Int32 × hs_H) (v5 : hs_V), k31 (x1, x2, x3, x4, h) = some r → Q (some (hs_i r.1)) r.2 → hs_W S d 1 hs_p101 Q 31 [hs_r 10 0, hs_i x1, hs_i x2, hs_i x3, hs_i x4, v5] [] h) {x1 : Int32} {x2 : Int32} {x3 : Int32} {x4 : Int32}  {v5 : hs_V} {h : hs_H} {r : Int32 × hs_H} (e : hb_101_57 self k31 x1 x2 x3 x4 h = some r) (q : Q (some (hs_i r.1)) r.2) : hs_W S d 1 hs_p101 Q 57 [hs_r 10 0, hs_i x1, hs_i x2, hs_i x3, hs_i x4, v5] [] h := by
  unfold hb_101_57 at e
  obtain ⟨q7, eq7, e⟩ := hs_bind_some e
  try dsimp only at e
  refine hs_wc 3 (y := 147) (a := [hs_i x2, hs_i x4]) (v := some (hs_i q7.1)) (pc' := 63) (ls' := [hs_r 10 0, hs_i x1, hs_i x2, hs_i x3, hs_i x4, v5]) (st' := []) (h' := h) (h2 := q7.2) (fun n w => w) (fun q => hc_147 (by omega) eq7 q) ?_
  refine hs_wb 1 (c := q7.1 = 0) (t := 136) (f := 66) (ls' := [hs_r 10 0, hs_i x1, hs_i x2, hs_i x3, hs_i x4, v5]) (st' := []) (h' := q7.2) (fun n w => w) (fun b8 => ?_) (fun b8 => ?_)
  · rw [if_pos b8] at e
    exact hw_101_136 hd hself hk31 e q
  · rw [if_neg b8] at e
    obtain ⟨c9, e⟩ := hs_ck_some e
    refine hs_wa 5 (c := vp_in x1 6) (pc' := 74) (ls' := [hs_r 10 0, hs_i x1, hs_i x2, hs_i x3, hs_i x4, v5]) (st' := []) (h' := hs_put q7.2 39 0 x1.toNatClampNeg x4) (fun n w => w) (hs_inb_iff.mp c9) ?_
    obtain ⟨c10, e⟩ := hs_ck_some e
    refine hs_wa 4 (c := vp_in x1 6) (pc' := 80) (ls' := [hs_r 10 0, hs_i x1, hs_i x2, hs_i x3, hs_i x4, v5]) (st' := [hs_r 35 x1.toNatClampNeg]) (h' := hs_put q7.2 39 0 x1.toNatClampNeg x4) (fun n w => w) (hs_inb_iff.mp c10) ?_
    obtain ⟨c11, e⟩ := hs_ck_some e
    refine hs_wa 6 (c := vp_in (x1 + (nI 1)) 6) (pc' := 88) (ls' := [hs_r 10 0, hs_i x1, hs_i x2, hs_i x3, hs_i x4, v5]) (st' := [hs_r 35 ((x1 + (nI 1)).toNatClampNeg), hs_r 35 x1.toNatClampNeg]) (h' := hs_put q7.2 39 0 x1.toNatClampNeg x4) (fun n w => w) (hs_inb_iff.mp c11) ?_
    obtain ⟨q12, eq12, e⟩ := hs_bind_some e
    try dsimp only at e
    refine hs_wc 5 (y := 84) (a := [hs_r 35 x1.toNatClampNeg, hs_r 35 ((x1 + (nI 1)).toNatClampNeg), hs_i x4, hs_i ((hs_put q7.2 39 0 x1.toNatClampNeg x4).1 4 0 4)]) (v := none) (pc' := 100) (ls' := [hs_r 10 0, hs_i x1, hs_i x2, hs_i x3, hs_i x4, v5]) (st' := []) (h' := hs_put q7.2 39 0 x1.toNatClampNeg x4) (h2 := q12) (fun n w => w) (fun q => hc_84_35_35 (by omega) eq12 q) ?_
    obtain ⟨q13, eq13, e⟩ := hs_bind_some e
    try dsimp only at e
    refine hs_wc 5 (y := 101) (a := [hs_r 10 0, hs_i (x1 + (nI 1))]) (v := some (hs_i q13.1)) (pc' := 107) (ls' := [hs_r 10 0, hs_i x1, hs_i x2, hs_i x3, hs_i x4, v5]) (st' := []) (h' := q12) (h2 := q13.2) (fun n w => w) (fun q => hself _ _ _ eq13 q) ?_
    obtain ⟨c14, e⟩ := hs_ck_some e
    refine hs_wa 6 (c := vp_in x1 6) (pc' := 116) (ls' := [hs_r 10 0, hs_i x1, hs_i x2, hs_i x3, hs_i x4, hs_i q13.1]) (st' := [hs_i (q13.2.1 40 0 x1.toNatClampNeg), hs_i x1, hs_r 40 0]) (h' := q13.2) (fun n w => w) (hs_inb_iff.mp c14) ?_
    refine hs_wb 2 (c := q13.1 ≤ 0) (t := 128) (f := 121) (ls' := [hs_r 10 0, hs_i x1, hs_i x2, hs_i x3, hs_i x4, hs_i q13.1]) (st' := [hs_i (q13.2.1 40 0 x1.toNatClampNeg), hs_i x1, hs_r 40 0]) (h' := q13.2) (fun n w => w) (fun b15 => ?_) (fun b15 => ?_)
    · rw [if_pos b15] at e
      refine hs_w 1 (pc' := 129) (ls' := [hs_r 10 0, hs_i x1, hs_i x2, hs_i x3, hs_i x4, hs_i q13.1]) (st' := [hs_i (nI 0), hs_i (q13.2.1 40 0 x1.toNatClampNeg), hs_i x1, hs_r 40 0]) (h' := q13.2) (fun n w => w) ?_
      exact hw_101_129 hd hself hk31 e q
    · rw [if_neg b15] at e
      refine hs_w 4 (pc' := 129) (ls' := [hs_r 10 0, hs_i x1, hs_i x2, hs_i x3, hs_i x4, hs_i q13.1]) (st' := [hs_i ((nI 1) <<< (x4 &&& 31)), hs_i (q13.2.1 40 0 x1.toNatClampNeg), hs_i x1, hs_r 40 0]) (h' := q13.2) (fun n w => w) ?_
      exact hw_101_129 hd hself hk31 e q
def hb_101_31 (self : Int32 → hs_H → Option (Int32 × hs_H)) (k31 : Int32 × Int32 × Int32 × Int32 × hs_H → Option (Int32 × hs_H)) (x1 : Int32) (x2 : Int32) (x3 : Int32) (x4 : Int32)  (h : hs_H) : Option (Int32 × hs_H) := if (h.1 4 0 1) ≤ x4 then (hb_101_142 self x3 h) else (if (h.1 10 0 12) = 0 then (hb_101_57 self k31 x1 x2 x3 x4 h) else (if ¬ (h.1 10 0 13) = 0 then (hb_101_142 self x3 h) else (hb_101_57 self k31 x1 x2 x3 x4 h)))
set_option maxHeartbeats 1000000 in
theorem hw_101_31 {S : hs_S} {d : Nat} {Q : hs_Q} (hd : 4 ≤ d) {self : Int32 → hs_H → Option (Int32 × hs_H)} (hself : ∀ (a1 : Int32) (h : hs_H) (r : Int32 × hs_H), self a1 h = some r → ∀ {Q2 : hs_Q}, Q2 (some (hs_i r.1)) r.2 → hs_call hs_ms S d 101 [hs_r 10 0, hs_i a1] h Q2) {k31 : Int32 × Int32 × Int32 × Int32 × hs_H → Option (Int32 × hs_H)} (hk31 : ∀ (x1 : Int32) (x2 : Int32) (x3 : Int32) (x4 : Int32) (h : hs_H) (r : Int32 × hs_H) (v5 : hs_V), k31 (x1, x2, x3, x4, h) = some r → Q (some (hs_i r.1)) r.2 → hs_W S d 1 hs_p101 Q 31 [hs_r 10 0, hs_i x1, hs_i x2, hs_i x3, hs_i x4, v5] [] h) {x1 : Int32} {x2 : Int32} {x3 : Int32} {x4 : Int32}  {v5 : hs_V} {h : hs_H} {r : Int32 × hs_H} (e : hb_101_31 self k31 x1 x2 x3 x4 h = some r) (q : Q (some (hs_i r.1)) r.2) : hs_W S d 1 hs_p101 Q 31 [hs_r 10 0, hs_i x1, hs_i x2, hs_i x3, hs_i x4, v5] [] h := by
  unfold hb_101_31 at e
  refine hs_wb 5 (c := (h.1 4 0 1) ≤ x4) (t := 142) (f := 43) (ls' := [hs_r 10 0, hs_i x1, hs_i x2, hs_i x3, hs_i x4, v5]) (st' := []) (h' := h) (fun n w => w) (fun b5 => ?_) (fun b5 => ?_)
  · rw [if_pos b5] at e
    exact hw_101_142 hd hself e q
  · rw [if_neg b5] at e
    refine hs_wb 3 (c := (h.1 10 0 12) = 0) (t := 57) (f := 50) (ls' := [hs_r 10 0, hs_i x1, hs_i x2, hs_i x3, hs_i x4, v5]) (st' := []) (h' := h) (fun n w => w) (fun b6 => ?_) (fun b6 => ?_)
    · rw [if_pos b6] at e
      exact hw_101_57 hd hself hk31 e q
    · rw [if_neg b6] at e
      refine hs_wb 3 (c := ¬ (h.1 10 0 13) = 0) (t := 142) (f := 57) (ls' := [hs_r 10 0, hs_i x1, hs_i x2, hs_i x3, hs_i x4, v5]) (st' := []) (h' := h) (fun n w => w) (fun b17 => ?_) (fun b17 => ?_)
      · rw [if_pos b17] at e
        exact hw_101_142 hd hself e q
      · rw [if_neg b17] at e
        exact hw_101_57 hd hself hk31 e q
theorem hw_101_31_lp {S : hs_S} {d : Nat} {Q : hs_Q} (hd : 4 ≤ d) {self : Int32 → hs_H → Option (Int32 × hs_H)} (hself : ∀ (a1 : Int32) (h : hs_H) (r : Int32 × hs_H), self a1 h = some r → ∀ {Q2 : hs_Q}, Q2 (some (hs_i r.1)) r.2 → hs_call hs_ms S d 101 [hs_r 10 0, hs_i a1] h Q2)   (n : Nat) {x1 : Int32} {x2 : Int32} {x3 : Int32} {x4 : Int32} {h : hs_H} {r : Int32 × hs_H} (e : hs_lp (fun k s => hb_101_31 self k s.1 s.2.1 s.2.2.1 s.2.2.2.1 s.2.2.2.2) n (x1, x2, x3, x4, h) = some r) (v5 : hs_V) (q : Q (some (hs_i r.1)) r.2) : hs_W S d 1 hs_p101 Q 31 [hs_r 10 0, hs_i x1, hs_i x2, hs_i x3, hs_i x4, v5] [] h := by
  refine hs_lp_ind (P := fun (s : Int32 × Int32 × Int32 × Int32 × hs_H) (r : Int32 × hs_H) => ∀ (v5 : hs_V), Q (some (hs_i r.1)) r.2 → hs_W S d 1 hs_p101 Q 31 [hs_r 10 0, hs_i s.1, hs_i s.2.1, hs_i s.2.2.1, hs_i s.2.2.2.1, v5] [] s.2.2.2.2) (fun k hk s r e v5 q => ?_) n (x1, x2, x3, x4, h) r e v5 q
  exact hw_101_31 hd hself (fun x1 x2 x3 x4 h r v5 e q => hk (x1, x2, x3, x4, h) r e v5 q) e q
/-- HuntedScent$Wayfinder.explore(I)I -/
def hg_101 (self : Int32 → hs_H → Option (Int32 × hs_H)) (a1 : Int32) (h : hs_H) : Option (Int32 × hs_H) := (hf_102 a1 h).bind (fun q1 => if (q1.2.1 10 0 11) ≤ a1 then (hb_101_19 self a1 q1.1 q1.2) else (if a1 < (nI 5) then (hs_lp (fun k s => hb_101_31 self k s.1 s.2.1 s.2.2.1 s.2.2.2.1 s.2.2.2.2) hs_big (a1, q1.1, nI 0, nI 0, q1.2)) else (hb_101_19 self a1 q1.1 q1.2)))
def hf_101 : Nat → Int32 → hs_H → Option (Int32 × hs_H)
  | 0, _, _ => none
  | m + 1, a1, h => hg_101 (hf_101 m) a1 h
set_option maxHeartbeats 1000000 in
theorem hcg_101 {S : hs_S} {d : Nat} {Q : hs_Q} (hd : 4 ≤ d) {self : Int32 → hs_H → Option (Int32 × hs_H)} (hself : ∀ (a1 : Int32) (h : hs_H) (r : Int32 × hs_H), self a1 h = some r → ∀ {Q2 : hs_Q}, Q2 (some (hs_i r.1)) r.2 → hs_call hs_ms S d 101 [hs_r 10 0, hs_i a1] h Q2) {a1 : Int32} {h : hs_H} {r : Int32 × hs_H} (e : hg_101 self a1 h = some r) (q : Q (some (hs_i r.1)) r.2) : hs_W S d 1 hs_p101 Q 0 [hs_r 10 0, hs_i a1, hs_u, hs_u, hs_u, hs_u] [] h := by
  unfold hg_101 at e
  obtain ⟨q1, eq1, e⟩ := hs_bind_some e
  try dsimp only at e
  refine hs_wc 3 (y := 102) (a := [hs_r 10 0, hs_i a1]) (v := some (hs_i q1.1)) (pc' := 5) (ls' := [hs_r 10 0, hs_i a1, hs_u, hs_u, hs_u, hs_u]) (st' := []) (h' := h) (h2 := q1.2) (fun n w => w) (fun q => hc_102 (by omega) eq1 q) ?_
  refine hs_wb 5 (c := (q1.2.1 10 0 11) ≤ a1) (t := 19) (f := 14) (ls' := [hs_r 10 0, hs_i a1, hs_i q1.1, hs_u, hs_u, hs_u]) (st' := []) (h' := q1.2) (fun n w => w) (fun b2 => ?_) (fun b2 => ?_)
  · rw [if_pos b2] at e
    exact hw_101_19 hd hself e q
  · rw [if_neg b2] at e
    refine hs_wb 3 (c := a1 < (nI 5)) (t := 26) (f := 19) (ls' := [hs_r 10 0, hs_i a1, hs_i q1.1, hs_u, hs_u, hs_u]) (st' := []) (h' := q1.2) (fun n w => w) (fun b4 => ?_) (fun b4 => ?_)
    · rw [if_pos b4] at e
      refine hs_w 4 (pc' := 31) (ls' := [hs_r 10 0, hs_i a1, hs_i q1.1, hs_i (nI 0), hs_i (nI 0), hs_u]) (st' := []) (h' := q1.2) (fun n w => w) ?_
      exact hw_101_31_lp hd hself hs_big e _ q
    · rw [if_neg b4] at e
      exact hw_101_19 hd hself e q
theorem hc_101 {S : hs_S} : ∀ (m : Nat) {D : Nat} {Q : hs_Q} (hD : 4 + m ≤ D) {a1 : Int32} {h : hs_H} {r : Int32 × hs_H} (e : hf_101 m a1 h = some r) (q : Q (some (hs_i r.1)) r.2), hs_call hs_ms S D 101 [hs_r 10 0, hs_i a1] h Q := by
  intro m
  induction m with
  | zero => intro D Q hD a1 h r e q; cases e
  | succ m ih =>
    intro D Q hD a1 h r e q
    refine hs_go (R := 4 + m) hD rfl (Nat.le_of_ble_eq_true rfl) (fun d hd => ?_)
    exact hcg_101 (Nat.le_trans (Nat.le_add_right _ _) hd) (fun a1 h r e {Q2} q => ih hd e q) e q
def hb_39_30 (o : Nat) (k4 : Int32 × Int32 × Int32 × hs_H → Option (Int32 × hs_H)) (x1 : Int32) (x3 : Int32) (s0 : Int32) (s1 : Int32) (h : hs_H) : Option (Int32 × hs_H) := k4 (x1, s1 ||| s0, x3 + nI 1, h)
set_option maxHeartbeats 1000000 in
theorem hw_39_30 {S : hs_S} {d : Nat} {Q : hs_Q} (hd : 2 ≤ d) {o : Nat} {k4 : Int32 × Int32 × Int32 × hs_H → Option (Int32 × hs_H)} (hk4 : ∀ (x1 : Int32) (x2 : Int32) (x3 : Int32) (h : hs_H) (r : Int32 × hs_H) , k4 (x1, x2, x3, h) = some r → Q (some (hs_i r.1)) r.2 → hs_W S d 1 hs_p39 Q 4 [hs_r 4 o, hs_i x1, hs_i x2, hs_i x3] [] h) {x1 : Int32} {x3 : Int32} {s0 : Int32} {s1 : Int32} {v2 : hs_V} {h : hs_H} {r : Int32 × hs_H} (e : hb_39_30 o k4 x1 x3 s0 s1 h = some r) (q : Q (some (hs_i r.1)) r.2) : hs_W S d 1 hs_p39 Q 30 [hs_r 4 o, hs_i x1, v2, hs_i x3] [hs_i s0, hs_i s1] h := by
  unfold hb_39_30 at e
  refine hs_w 4 (pc' := 4) (ls' := [hs_r 4 o, hs_i x1, hs_i (s1 ||| s0), hs_i (x3 + nI 1)]) (st' := []) (h' := h) (fun n w => w) ?_
  exact hk4 _ _ _ _ _  e q
def hb_39_4 (o : Nat) (k4 : Int32 × Int32 × Int32 × hs_H → Option (Int32 × hs_H)) (x1 : Int32) (x2 : Int32) (x3 : Int32)  (h : hs_H) : Option (Int32 × hs_H) := if (h.1 4 o 1) ≤ x3 then (some (x2, h)) else ((hf_147 x1 x3 h).bind (fun q2 => if q2.1 = 0 then (hb_39_30 o k4 x1 x3 (nI 0) x2 q2.2) else ((hf_38 o x3 q2.2).bind (fun q4 => hb_39_30 o k4 x1 x3 q4.1 x2 q4.2))))
set_option maxHeartbeats 1000000 in
theorem hw_39_4 {S : hs_S} {d : Nat} {Q : hs_Q} (hd : 2 ≤ d) {o : Nat} {k4 : Int32 × Int32 × Int32 × hs_H → Option (Int32 × hs_H)} (hk4 : ∀ (x1 : Int32) (x2 : Int32) (x3 : Int32) (h : hs_H) (r : Int32 × hs_H) , k4 (x1, x2, x3, h) = some r → Q (some (hs_i r.1)) r.2 → hs_W S d 1 hs_p39 Q 4 [hs_r 4 o, hs_i x1, hs_i x2, hs_i x3] [] h) {x1 : Int32} {x2 : Int32} {x3 : Int32}   {h : hs_H} {r : Int32 × hs_H} (e : hb_39_4 o k4 x1 x2 x3 h = some r) (q : Q (some (hs_i r.1)) r.2) : hs_W S d 1 hs_p39 Q 4 [hs_r 4 o, hs_i x1, hs_i x2, hs_i x3] [] h := by
  unfold hb_39_4 at e
  refine hs_wb 4 (c := (h.1 4 o 1) ≤ x3) (t := 38) (f := 12) (ls' := [hs_r 4 o, hs_i x1, hs_i x2, hs_i x3]) (st' := []) (h' := h) (fun n w => w) (fun b1 => ?_) (fun b1 => ?_)
  · rw [if_pos b1] at e
    obtain rfl := Option.some.inj e
    exact hs_wr 2 (v := some (hs_i x2)) (h' := h) (fun n w => w) q
  · rw [if_neg b1] at e
    obtain ⟨q2, eq2, e⟩ := hs_bind_some e
    try dsimp only at e
    refine hs_wc 4 (y := 147) (a := [hs_i x1, hs_i x3]) (v := some (hs_i q2.1)) (pc' := 18) (ls' := [hs_r 4 o, hs_i x1, hs_i x2, hs_i x3]) (st' := [hs_i x2]) (h' := h) (h2 := q2.2) (fun n w => w) (fun q => hc_147 (by omega) eq2 q) ?_
    refine hs_wb 1 (c := q2.1 = 0) (t := 29) (f := 21) (ls' := [hs_r 4 o, hs_i x1, hs_i x2, hs_i x3]) (st' := [hs_i x2]) (h' := q2.2) (fun n w => w) (fun b3 => ?_) (fun b3 => ?_)
    · rw [if_pos b3] at e
      refine hs_w 1 (pc' := 30) (ls' := [hs_r 4 o, hs_i x1, hs_i x2, hs_i x3]) (st' := [hs_i (nI 0), hs_i x2]) (h' := q2.2) (fun n w => w) ?_
      exact hw_39_30 hd hk4 e q
    · rw [if_neg b3] at e
      obtain ⟨q4, eq4, e⟩ := hs_bind_some e
      try dsimp only at e
      refine hs_wc 3 (y := 38) (a := [hs_r 4 o, hs_i x3]) (v := some (hs_i q4.1)) (pc' := 26) (ls' := [hs_r 4 o, hs_i x1, hs_i x2, hs_i x3]) (st' := [hs_i x2]) (h' := q2.2) (h2 := q4.2) (fun n w => w) (fun q => hc_38 (by omega) eq4 q) ?_
      refine hs_w 1 (pc' := 30) (ls' := [hs_r 4 o, hs_i x1, hs_i x2, hs_i x3]) (st' := [hs_i q4.1, hs_i x2]) (h' := q4.2) (fun n w => w) ?_
      exact hw_39_30 hd hk4 e q
theorem hw_39_4_lp {S : hs_S} {d : Nat} {Q : hs_Q} (hd : 2 ≤ d) {o : Nat}   (n : Nat) {x1 : Int32} {x2 : Int32} {x3 : Int32} {h : hs_H} {r : Int32 × hs_H} (e : hs_lp (fun k s => hb_39_4 o k s.1 s.2.1 s.2.2.1 s.2.2.2) n (x1, x2, x3, h) = some r)  (q : Q (some (hs_i r.1)) r.2) : hs_W S d 1 hs_p39 Q 4 [hs_r 4 o, hs_i x1, hs_i x2, hs_i x3] [] h := by
  refine hs_lp_ind (P := fun (s : Int32 × Int32 × Int32 × hs_H) (r : Int32 × hs_H) => ∀ (_ : True), Q (some (hs_i r.1)) r.2 → hs_W S d 1 hs_p39 Q 4 [hs_r 4 o, hs_i s.1, hs_i s.2.1, hs_i s.2.2.1] [] s.2.2.2) (fun k hk s r e _ q => ?_) n (x1, x2, x3, h) r e trivial q
  exact hw_39_4 hd (fun x1 x2 x3 h r  e q => hk (x1, x2, x3, h) r e trivial q) e q
/-- HuntedScent$Net.movesOfAll(I)I -/
def hf_39 (o : Nat) (a1 : Int32) (h : hs_H) : Option (Int32 × hs_H) := hs_lp (fun k s => hb_39_4 o k s.1 s.2.1 s.2.2.1 s.2.2.2) hs_big (a1, nI 0, nI 0, h)
set_option maxHeartbeats 1000000 in
theorem hc_39 {S : hs_S} {D : Nat} {Q : hs_Q} (hD : 3 ≤ D) {o : Nat} {a1 : Int32} {h : hs_H} {r : Int32 × hs_H} (e : hf_39 o a1 h = some r) (q : Q (some (hs_i r.1)) r.2) : hs_call hs_ms S D 39 [hs_r 4 o, hs_i a1] h Q := by
  refine hs_go (R := 2) hD rfl (Nat.le_of_ble_eq_true rfl) (fun d hd => ?_)
  show hs_W S d 1 hs_p39 Q 0 [hs_r 4 o, hs_i a1, hs_u, hs_u] [] h
  unfold hf_39 at e
  refine hs_w 4 (pc' := 4) (ls' := [hs_r 4 o, hs_i a1, hs_i (nI 0), hs_i (nI 0)]) (st' := []) (h' := h) (fun n w => w) ?_
  exact hw_39_4_lp hd hs_big e  q
def hb_97_136     (h : hs_H) : Option (hs_H) := some h
set_option maxHeartbeats 1000000 in
theorem hw_97_136 {S : hs_S} {d : Nat} {Q : hs_Q} (hd : 14 ≤ d)      {v1 : hs_V} {v2 : hs_V} {v3 : hs_V} {v4 : hs_V} {h : hs_H} {r : hs_H} (e : hb_97_136 h = some r) (q : Q none r) : hs_W S d 0 hs_p97 Q 136 [hs_r 10 0, v1, v2, v3, v4] [] h := by
  unfold hb_97_136 at e
  obtain rfl := Option.some.inj e
  exact hs_wr 1 (v := none) (h' := h) (fun n w => w) q
def hb_97_80  (k80 : Int32 × hs_H → Option (hs_H)) (x4 : Int32)  (h : hs_H) : Option (hs_H) := if (h.1 10 0 9) < x4 then (hb_97_136 h) else (if (nI 5) < x4 then (hb_97_136 h) else (hs_ck (hs_inb (x4 - (nI 1)) 6) ((hf_39 0 (h.1 40 0 (x4 - (nI 1)).toNatClampNeg) h).bind (fun q9 => (hf_100 ((q9.2.1 10 0 9) - x4) q9.2).bind (fun q10 => hs_ck (hs_inb x4 6) (k80 (x4 + nI 1, hs_put q10.2 40 0 x4.toNatClampNeg (q9.1 &&& q10.1))))))))
set_option maxHeartbeats 1000000 in
theorem hw_97_80 {S : hs_S} {d : Nat} {Q : hs_Q} (hd : 14 ≤ d)  {k80 : Int32 × hs_H → Option (hs_H)} (hk80 : ∀ (x4 : Int32) (h : hs_H) (r : hs_H) (v1 : hs_V) (v2 : hs_V) (v3 : hs_V), k80 (x4, h) = some r → Q none r → hs_W S d 0 hs_p97 Q 80 [hs_r 10 0, v1, v2, v3, hs_i x4] [] h) {x4 : Int32}  {v1 : hs_V} {v2 : hs_V} {v3 : hs_V} {h : hs_H} {r : hs_H} (e : hb_97_80 k80 x4 h = some r) (q : Q none r) : hs_W S d 0 hs_p97 Q 80 [hs_r 10 0, v1, v2, v3, hs_i x4] [] h := by
  unfold hb_97_80 at e
  refine hs_wb 4 (c := (h.1 10 0 9) < x4) (t := 136) (f := 89) (ls' := [hs_r 10 0, v1, v2, v3, hs_i x4]) (st' := []) (h' := h) (fun n w => w) (fun b6 => ?_) (fun b6 => ?_)
  · rw [if_pos b6] at e
    exact hw_97_136 hd e q
  · rw [if_neg b6] at e
    refine hs_wb 3 (c := (nI 5) < x4) (t := 136) (f := 95) (ls' := [hs_r 10 0, v1, v2, v3, hs_i x4]) (st' := []) (h' := h) (fun n w => w) (fun b7 => ?_) (fun b7 => ?_)
    · rw [if_pos b7] at e
      exact hw_97_136 hd e q
    · rw [if_neg b7] at e
      obtain ⟨c8, e⟩ := hs_ck_some e
      refine hs_wa 11 (c := vp_in (x4 - (nI 1)) 6) (pc' := 114) (ls' := [hs_r 10 0, v1, v2, v3, hs_i x4]) (st' := [hs_i (h.1 40 0 (x4 - (nI 1)).toNatClampNeg), hs_r 4 0, hs_i x4, hs_r 40 0]) (h' := h) (fun n w => w) (hs_inb_iff.mp c8) ?_
      obtain ⟨q9, eq9, e⟩ := hs_bind_some e
      try dsimp only at e
      refine hs_wc 1 (y := 39) (a := [hs_r 4 0, hs_i (h.1 40 0 (x4 - (nI 1)).toNatClampNeg)]) (v := some (hs_i q9.1)) (pc' := 117) (ls' := [hs_r 10 0, v1, v2, v3, hs_i x4]) (st' := [hs_i x4, hs_r 40 0]) (h' := h) (h2 := q9.2) (fun n w => w) (fun q => hc_39 (by omega) eq9 q) ?_
      obtain ⟨q10, eq10, e⟩ := hs_bind_some e
      try dsimp only at e
      refine hs_wc 6 (y := 100) (a := [hs_r 10 0, hs_i ((q9.2.1 10 0 9) - x4)]) (v := some (hs_i q10.1)) (pc' := 128) (ls' := [hs_r 10 0, v1, v2, v3, hs_i x4]) (st' := [hs_i q9.1, hs_i x4, hs_r 40 0]) (h' := q9.2) (h2 := q10.2) (fun n w => w) (fun q => hc_100 (by omega) eq10 q) ?_
      obtain ⟨c11, e⟩ := hs_ck_some e
      refine hs_wa 2 (c := vp_in x4 6) (pc' := 130) (ls' := [hs_r 10 0, v1, v2, v3, hs_i x4]) (st' := []) (h' := hs_put q10.2 40 0 x4.toNatClampNeg (q9.1 &&& q10.1)) (fun n w => w) (hs_inb_iff.mp c11) ?_
      refine hs_w 2 (pc' := 80) (ls' := [hs_r 10 0, v1, v2, v3, hs_i (x4 + nI 1)]) (st' := []) (h' := hs_put q10.2 40 0 x4.toNatClampNeg (q9.1 &&& q10.1)) (fun n w => w) ?_
      exact hk80 _ _ _ _ _ _ e q
theorem hw_97_80_lp {S : hs_S} {d : Nat} {Q : hs_Q} (hd : 14 ≤ d)    (n : Nat) {x4 : Int32} {h : hs_H} {r : hs_H} (e : hs_lp (fun k s => hb_97_80 k s.1 s.2) n (x4, h) = some r) (v1 : hs_V) (v2 : hs_V) (v3 : hs_V) (q : Q none r) : hs_W S d 0 hs_p97 Q 80 [hs_r 10 0, v1, v2, v3, hs_i x4] [] h := by
  refine hs_lp_ind (P := fun (s : Int32 × hs_H) (r : hs_H) => ∀ (v1 : hs_V) (v2 : hs_V) (v3 : hs_V), Q none r → hs_W S d 0 hs_p97 Q 80 [hs_r 10 0, v1, v2, v3, hs_i s.1] [] s.2) (fun k hk s r e v1 v2 v3 q => ?_) n (x4, h) r e v1 v2 v3 q
  exact hw_97_80 hd (fun x4 h r v1 v2 v3 e q => hk (x4, h) r e v1 v2 v3 q) e q
def hb_97_39  (k39 : Int32 × hs_H → Option (hs_H)) (x4 : Int32)  (h : hs_H) : Option (hs_H) := if (nI 5) < x4 then ((hf_98 h).bind (fun q4 => (hf_101 10 (nI 0) q4).bind (fun q5 => hs_lp (fun k s => hb_97_80 k s.1 s.2) hs_big (((hs_put q5.2 10 0 8 q5.1).1 10 0 11) + (nI 1), hs_put q5.2 10 0 8 q5.1)))) else (hs_ck (hs_inb x4 6) (k39 (x4 + nI 1, hs_put h 40 0 x4.toNatClampNeg (nI 0))))
set_option maxHeartbeats 1000000 in
theorem hw_97_39 {S : hs_S} {d : Nat} {Q : hs_Q} (hd : 14 ≤ d)  {k39 : Int32 × hs_H → Option (hs_H)} (hk39 : ∀ (x4 : Int32) (h : hs_H) (r : hs_H) (v1 : hs_V) (v2 : hs_V) (v3 : hs_V), k39 (x4, h) = some r → Q none r → hs_W S d 0 hs_p97 Q 39 [hs_r 10 0, v1, v2, v3, hs_i x4] [] h) {x4 : Int32}  {v1 : hs_V} {v2 : hs_V} {v3 : hs_V} {h : hs_H} {r : hs_H} (e : hb_97_39 k39 x4 h = some r) (q : Q none r) : hs_W S d 0 hs_p97 Q 39 [hs_r 10 0, v1, v2, v3, hs_i x4] [] h := by
  unfold hb_97_39 at e
  refine hs_wb 3 (c := (nI 5) < x4) (t := 59) (f := 45) (ls' := [hs_r 10 0, v1, v2, v3, hs_i x4]) (st' := []) (h' := h) (fun n w => w) (fun b3 => ?_) (fun b3 => ?_)
  · rw [if_pos b3] at e
    obtain ⟨q4, eq4, e⟩ := hs_bind_some e
    try dsimp only at e
    refine hs_wc 2 (y := 98) (a := [hs_r 10 0]) (v := none) (pc' := 63) (ls' := [hs_r 10 0, v1, v2, v3, hs_i x4]) (st' := []) (h' := h) (h2 := q4) (fun n w => w) (fun q => hc_98 (by omega) eq4 q) ?_
    obtain ⟨q5, eq5, e⟩ := hs_bind_some e
    try dsimp only at e
    refine hs_wc 4 (y := 101) (a := [hs_r 10 0, hs_i (nI 0)]) (v := some (hs_i q5.1)) (pc' := 69) (ls' := [hs_r 10 0, v1, v2, v3, hs_i x4]) (st' := [hs_r 10 0]) (h' := q4) (h2 := q5.2) (fun n w => w) (fun q => hc_101 10 (by omega) eq5 q) ?_
    refine hs_w 6 (pc' := 80) (ls' := [hs_r 10 0, v1, v2, v3, hs_i (((hs_put q5.2 10 0 8 q5.1).1 10 0 11) + (nI 1))]) (st' := []) (h' := hs_put q5.2 10 0 8 q5.1) (fun n w => w) ?_
    exact hw_97_80_lp hd hs_big e _ _ _ q
  · rw [if_neg b3] at e
    obtain ⟨c12, e⟩ := hs_ck_some e
    refine hs_wa 5 (c := vp_in x4 6) (pc' := 53) (ls' := [hs_r 10 0, v1, v2, v3, hs_i x4]) (st' := []) (h' := hs_put h 40 0 x4.toNatClampNeg (nI 0)) (fun n w => w) (hs_inb_iff.mp c12) ?_
    refine hs_w 2 (pc' := 39) (ls' := [hs_r 10 0, v1, v2, v3, hs_i (x4 + nI 1)]) (st' := []) (h' := hs_put h 40 0 x4.toNatClampNeg (nI 0)) (fun n w => w) ?_
    exact hk39 _ _ _ _ _ _ e q
theorem hw_97_39_lp {S : hs_S} {d : Nat} {Q : hs_Q} (hd : 14 ≤ d)    (n : Nat) {x4 : Int32} {h : hs_H} {r : hs_H} (e : hs_lp (fun k s => hb_97_39 k s.1 s.2) n (x4, h) = some r) (v1 : hs_V) (v2 : hs_V) (v3 : hs_V) (q : Q none r) : hs_W S d 0 hs_p97 Q 39 [hs_r 10 0, v1, v2, v3, hs_i x4] [] h := by
  refine hs_lp_ind (P := fun (s : Int32 × hs_H) (r : hs_H) => ∀ (v1 : hs_V) (v2 : hs_V) (v3 : hs_V), Q none r → hs_W S d 0 hs_p97 Q 39 [hs_r 10 0, v1, v2, v3, hs_i s.1] [] s.2) (fun k hk s r e v1 v2 v3 q => ?_) n (x4, h) r e v1 v2 v3 q
  exact hw_97_39 hd (fun x4 h r v1 v2 v3 e q => hk (x4, h) r e v1 v2 v3 q) e q
/-- HuntedScent$Wayfinder.run(IIZ)V -/
def hf_97 (a1 : Int32) (a2 : Int32) (a3 : Int32) (h : hs_H) : Option (hs_H) := hs_ck (hs_b01 a3) ((hf_49 0 ((hs_put (hs_put (hs_put (hs_put h 10 0 9 a1) 10 0 10 a2) 10 0 12 a3) 10 0 13 (nI 0)).1 10 0 10) a1 (hs_put (hs_put (hs_put (hs_put h 10 0 9 a1) 10 0 10 a2) 10 0 12 a3) 10 0 13 (nI 0))).bind (fun q2 => hs_lp (fun k s => hb_97_39 k s.1 s.2) hs_big (nI 0, hs_put q2.2 10 0 11 q2.1)))
set_option maxHeartbeats 1000000 in
theorem hc_97 {S : hs_S} {D : Nat} {Q : hs_Q} (hD : 15 ≤ D) {a1 : Int32} {a2 : Int32} {a3 : Int32} {h : hs_H} {r : hs_H} (e : hf_97 a1 a2 a3 h = some r) (q : Q none r) : hs_call hs_ms S D 97 [hs_r 10 0, hs_i a1, hs_i a2, hs_i a3] h Q := by
  refine hs_go (R := 14) hD rfl (Nat.le_of_ble_eq_true rfl) (fun d hd => ?_)
  show hs_W S d 0 hs_p97 Q 0 [hs_r 10 0, hs_i a1, hs_i a2, hs_i a3, hs_u] [] h
  unfold hf_97 at e
  obtain ⟨c1, e⟩ := hs_ck_some e
  refine hs_wa 9 (c := a3 = 0 ∨ a3 = 1) (pc' := 15) (ls' := [hs_r 10 0, hs_i a1, hs_i a2, hs_i a3, hs_u]) (st' := []) (h' := hs_put (hs_put (hs_put h 10 0 9 a1) 10 0 10 a2) 10 0 12 a3) (fun n w => w) (hs_b01_iff.mp c1) ?_
  refine hs_wa 3 (c := nI 0 = 0 ∨ nI 0 = 1) (pc' := 20) (ls' := [hs_r 10 0, hs_i a1, hs_i a2, hs_i a3, hs_u]) (st' := []) (h' := hs_put (hs_put (hs_put (hs_put h 10 0 9 a1) 10 0 10 a2) 10 0 12 a3) 10 0 13 (nI 0)) (fun n w => w) (by decide) ?_
  obtain ⟨q2, eq2, e⟩ := hs_bind_some e
  try dsimp only at e
  refine hs_wc 7 (y := 49) (a := [hs_r 5 0, hs_i ((hs_put (hs_put (hs_put (hs_put h 10 0 9 a1) 10 0 10 a2) 10 0 12 a3) 10 0 13 (nI 0)).1 10 0 10), hs_i a1]) (v := some (hs_i q2.1)) (pc' := 33) (ls' := [hs_r 10 0, hs_i a1, hs_i a2, hs_i a3, hs_u]) (st' := [hs_r 10 0]) (h' := hs_put (hs_put (hs_put (hs_put h 10 0 9 a1) 10 0 10 a2) 10 0 12 a3) 10 0 13 (nI 0)) (h2 := q2.2) (fun n w => w) (fun q => hc_49 (by omega) eq2 q) ?_
  refine hs_w 3 (pc' := 39) (ls' := [hs_r 10 0, hs_i a1, hs_i a2, hs_i a3, hs_i (nI 0)]) (st' := []) (h' := hs_put q2.2 10 0 11 q2.1) (fun n w => w) ?_
  exact hw_97_39_lp hd hs_big e _ _ _ q
def hb_95_76     (h : hs_H) : Option (hs_H) := some h
set_option maxHeartbeats 1000000 in
theorem hw_95_76 {S : hs_S} {d : Nat} {Q : hs_Q} (hd : 15 ≤ d)      {v1 : hs_V} {h : hs_H} {r : hs_H} (e : hb_95_76 h = some r) (q : Q none r) : hs_W S d 0 hs_p95 Q 76 [hs_r 10 0, v1] [] h := by
  unfold hb_95_76 at e
  obtain rfl := Option.some.inj e
  exact hs_wr 1 (v := none) (h' := h) (fun n w => w) q
def hb_95_36   (x1 : Int32)  (h : hs_H) : Option (hs_H) := (hf_97 x1 (h.1 5 0 3) (nI 0) h).bind (fun q2 => hb_95_76 (hs_put (hs_put (hs_put q2 10 0 14 x1) 10 0 15 ((hs_put q2 10 0 14 x1).1 4 0 6)) 10 0 16 ((hs_put (hs_put q2 10 0 14 x1) 10 0 15 ((hs_put q2 10 0 14 x1).1 4 0 6)).1 5 0 4)))
set_option maxHeartbeats 1000000 in
theorem hw_95_36 {S : hs_S} {d : Nat} {Q : hs_Q} (hd : 15 ≤ d)    {x1 : Int32}   {h : hs_H} {r : hs_H} (e : hb_95_36 x1 h = some r) (q : Q none r) : hs_W S d 0 hs_p95 Q 36 [hs_r 10 0, hs_i x1] [] h := by
  unfold hb_95_36 at e
  obtain ⟨q2, eq2, e⟩ := hs_bind_some e
  try dsimp only at e
  refine hs_wc 7 (y := 97) (a := [hs_r 10 0, hs_i x1, hs_i (h.1 5 0 3), hs_i (nI 0)]) (v := none) (pc' := 49) (ls' := [hs_r 10 0, hs_i x1]) (st' := []) (h' := h) (h2 := q2) (fun n w => w) (fun q => hc_97 (by omega) eq2 q) ?_
  refine hs_w 13 (pc' := 76) (ls' := [hs_r 10 0, hs_i x1]) (st' := []) (h' := hs_put (hs_put (hs_put q2 10 0 14 x1) 10 0 15 ((hs_put q2 10 0 14 x1).1 4 0 6)) 10 0 16 ((hs_put (hs_put q2 10 0 14 x1) 10 0 15 ((hs_put q2 10 0 14 x1).1 4 0 6)).1 5 0 4)) (fun n w => w) ?_
  exact hw_95_76 hd e q
/-- HuntedScent$Wayfinder.search(I)V -/
def hf_95 (a1 : Int32) (h : hs_H) : Option (hs_H) := if ¬ (h.1 10 0 14) = a1 then (hb_95_36 a1 h) else (if ¬ (h.1 10 0 15) = (h.1 4 0 6) then (hb_95_36 a1 h) else (if (h.1 10 0 16) = (h.1 5 0 4) then (hb_95_76 h) else (hb_95_36 a1 h)))
set_option maxHeartbeats 1000000 in
theorem hc_95 {S : hs_S} {D : Nat} {Q : hs_Q} (hD : 16 ≤ D) {a1 : Int32} {h : hs_H} {r : hs_H} (e : hf_95 a1 h = some r) (q : Q none r) : hs_call hs_ms S D 95 [hs_r 10 0, hs_i a1] h Q := by
  refine hs_go (R := 15) hD rfl (Nat.le_of_ble_eq_true rfl) (fun d hd => ?_)
  show hs_W S d 0 hs_p95 Q 0 [hs_r 10 0, hs_i a1] [] h
  unfold hf_95 at e
  refine hs_wb 4 (c := ¬ (h.1 10 0 14) = a1) (t := 36) (f := 8) (ls' := [hs_r 10 0, hs_i a1]) (st' := []) (h' := h) (fun n w => w) (fun b1 => ?_) (fun b1 => ?_)
  · rw [if_pos b1] at e
    exact hw_95_36 hd e q
  · rw [if_neg b1] at e
    refine hs_wb 6 (c := ¬ (h.1 10 0 15) = (h.1 4 0 6)) (t := 36) (f := 22) (ls' := [hs_r 10 0, hs_i a1]) (st' := []) (h' := h) (fun n w => w) (fun b3 => ?_) (fun b3 => ?_)
    · rw [if_pos b3] at e
      exact hw_95_36 hd e q
    · rw [if_neg b3] at e
      refine hs_wb 6 (c := (h.1 10 0 16) = (h.1 5 0 4)) (t := 76) (f := 36) (ls' := [hs_r 10 0, hs_i a1]) (st' := []) (h' := h) (fun n w => w) (fun b4 => ?_) (fun b4 => ?_)
      · rw [if_pos b4] at e
        exact hw_95_76 hd e q
      · rw [if_neg b4] at e
        exact hw_95_36 hd e q
/-- HuntedScent.ways(I)I -/
def hf_120 (a1 : Int32) (h : hs_H) : Option (Int32 × hs_H) := (hf_146 (nI 5) a1.toInt64 h).bind (fun q1 => if ¬ q1.1 = 0 then ((hf_95 a1 q1.2).bind (fun q3 => some (q3.1 10 0 8, q3))) else (some (nI 4294967295, q1.2)))
set_option maxHeartbeats 1000000 in
theorem hc_120 {S : hs_S} {D : Nat} {Q : hs_Q} (hD : 17 ≤ D) {a1 : Int32} {h : hs_H} {r : Int32 × hs_H} (e : hf_120 a1 h = some r) (q : Q (some (hs_i r.1)) r.2) : hs_call hs_ms S D 120 [hs_r 11 0, hs_i a1] h Q := by
  refine hs_go (R := 16) hD rfl (Nat.le_of_ble_eq_true rfl) (fun d hd => ?_)
  show hs_W S d 1 hs_p120 Q 0 [hs_r 11 0, hs_i a1] [] h
  unfold hf_120 at e
  obtain ⟨q1, eq1, e⟩ := hs_bind_some e
  try dsimp only at e
  refine hs_wc 4 (y := 146) (a := [hs_i (nI 5), hs_l a1.toInt64]) (v := some (hs_i q1.1)) (pc' := 6) (ls' := [hs_r 11 0, hs_i a1]) (st' := []) (h' := h) (h2 := q1.2) (fun n w => w) (fun q => hc_146 (by omega) eq1 q) ?_
  refine hs_wb 1 (c := ¬ q1.1 = 0) (t := 11) (f := 9) (ls' := [hs_r 11 0, hs_i a1]) (st' := []) (h' := q1.2) (fun n w => w) (fun b2 => ?_) (fun b2 => ?_)
  · rw [if_pos b2] at e
    obtain ⟨q3, eq3, e⟩ := hs_bind_some e
    try dsimp only at e
    refine hs_wc 4 (y := 95) (a := [hs_r 10 0, hs_i a1]) (v := none) (pc' := 19) (ls' := [hs_r 11 0, hs_i a1]) (st' := []) (h' := q1.2) (h2 := q3) (fun n w => w) (fun q => hc_95 (by omega) eq3 q) ?_
    obtain rfl := Option.some.inj e
    exact hs_wr 4 (v := some (hs_i (q3.1 10 0 8))) (h' := q3) (fun n w => w) q
  · rw [if_neg b2] at e
    obtain rfl := Option.some.inj e
    exact hs_wr 2 (v := some (hs_i (nI 4294967295))) (h' := q1.2) (fun n w => w) q
def hb_121_18     (h : hs_H) : Option (Int32 × hs_H) := some (nI 4294967295, h)
set_option maxHeartbeats 1000000 in
theorem hw_121_18 {S : hs_S} {d : Nat} {Q : hs_Q} (hd : 16 ≤ d)      {v1 : hs_V} {v2 : hs_V} {h : hs_H} {r : Int32 × hs_H} (e : hb_121_18 h = some r) (q : Q (some (hs_i r.1)) r.2) : hs_W S d 1 hs_p121 Q 18 [hs_r 11 0, v1, v2] [] h := by
  unfold hb_121_18 at e
  obtain rfl := Option.some.inj e
  exact hs_wr 2 (v := some (hs_i (nI 4294967295))) (h' := h) (fun n w => w) q
/-- HuntedScent.can(II)I -/
def hf_121 (a1 : Int32) (a2 : Int32) (h : hs_H) : Option (Int32 × hs_H) := (hf_146 (nI 5) a1.toInt64 h).bind (fun q1 => if q1.1 = 0 then (hb_121_18 q1.2) else ((hf_146 a1 a2.toInt64 q1.2).bind (fun q3 => if ¬ q3.1 = 0 then ((hf_95 a1 q3.2).bind (fun q5 => hs_ck (hs_inb a2 6) (some (q5.1 40 0 a2.toNatClampNeg, q5)))) else (hb_121_18 q3.2))))
set_option maxHeartbeats 1000000 in
theorem hc_121 {S : hs_S} {D : Nat} {Q : hs_Q} (hD : 17 ≤ D) {a1 : Int32} {a2 : Int32} {h : hs_H} {r : Int32 × hs_H} (e : hf_121 a1 a2 h = some r) (q : Q (some (hs_i r.1)) r.2) : hs_call hs_ms S D 121 [hs_r 11 0, hs_i a1, hs_i a2] h Q := by
  refine hs_go (R := 16) hD rfl (Nat.le_of_ble_eq_true rfl) (fun d hd => ?_)
  show hs_W S d 1 hs_p121 Q 0 [hs_r 11 0, hs_i a1, hs_i a2] [] h
  unfold hf_121 at e
  obtain ⟨q1, eq1, e⟩ := hs_bind_some e
  try dsimp only at e
  refine hs_wc 4 (y := 146) (a := [hs_i (nI 5), hs_l a1.toInt64]) (v := some (hs_i q1.1)) (pc' := 6) (ls' := [hs_r 11 0, hs_i a1, hs_i a2]) (st' := []) (h' := h) (h2 := q1.2) (fun n w => w) (fun q => hc_146 (by omega) eq1 q) ?_
  refine hs_wb 1 (c := q1.1 = 0) (t := 18) (f := 9) (ls' := [hs_r 11 0, hs_i a1, hs_i a2]) (st' := []) (h' := q1.2) (fun n w => w) (fun b2 => ?_) (fun b2 => ?_)
  · rw [if_pos b2] at e
    exact hw_121_18 hd e q
  · rw [if_neg b2] at e
    obtain ⟨q3, eq3, e⟩ := hs_bind_some e
    try dsimp only at e
    refine hs_wc 4 (y := 146) (a := [hs_i a1, hs_l a2.toInt64]) (v := some (hs_i q3.1)) (pc' := 15) (ls' := [hs_r 11 0, hs_i a1, hs_i a2]) (st' := []) (h' := q1.2) (h2 := q3.2) (fun n w => w) (fun q => hc_146 (by omega) eq3 q) ?_
    refine hs_wb 1 (c := ¬ q3.1 = 0) (t := 20) (f := 18) (ls' := [hs_r 11 0, hs_i a1, hs_i a2]) (st' := []) (h' := q3.2) (fun n w => w) (fun b4 => ?_) (fun b4 => ?_)
    · rw [if_pos b4] at e
      obtain ⟨q5, eq5, e⟩ := hs_bind_some e
      try dsimp only at e
      refine hs_wc 4 (y := 95) (a := [hs_r 10 0, hs_i a1]) (v := none) (pc' := 28) (ls' := [hs_r 11 0, hs_i a1, hs_i a2]) (st' := []) (h' := q3.2) (h2 := q5) (fun n w => w) (fun q => hc_95 (by omega) eq5 q) ?_
      obtain ⟨c6, e⟩ := hs_ck_some e
      refine hs_wa 5 (c := vp_in a2 6) (pc' := 37) (ls' := [hs_r 11 0, hs_i a1, hs_i a2]) (st' := [hs_i (q5.1 40 0 a2.toNatClampNeg)]) (h' := q5) (fun n w => w) (hs_inb_iff.mp c6) ?_
      obtain rfl := Option.some.inj e
      exact hs_wr 1 (v := some (hs_i (q5.1 40 0 a2.toNatClampNeg))) (h' := q5) (fun n w => w) q
    · rw [if_neg b4] at e
      exact hw_121_18 hd e q
def hb_122_18     (h : hs_H) : Option (Int32 × hs_H) := some (nI 4294967295, h)
set_option maxHeartbeats 1000000 in
theorem hw_122_18 {S : hs_S} {d : Nat} {Q : hs_Q} (hd : 16 ≤ d)      {v1 : hs_V} {v2 : hs_V} {v3 : hs_V} {h : hs_H} {r : Int32 × hs_H} (e : hb_122_18 h = some r) (q : Q (some (hs_i r.1)) r.2) : hs_W S d 1 hs_p122 Q 18 [hs_r 11 0, v1, v2, v3] [] h := by
  unfold hb_122_18 at e
  obtain rfl := Option.some.inj e
  exact hs_wr 2 (v := some (hs_i (nI 4294967295))) (h' := h) (fun n w => w) q
def hb_122_55    (s0 : Int32) (h : hs_H) : Option (Int32 × hs_H) := some (s0, h)
set_option maxHeartbeats 1000000 in
theorem hw_122_55 {S : hs_S} {d : Nat} {Q : hs_Q} (hd : 16 ≤ d)     {s0 : Int32} {v1 : hs_V} {v2 : hs_V} {v3 : hs_V} {h : hs_H} {r : Int32 × hs_H} (e : hb_122_55 s0 h = some r) (q : Q (some (hs_i r.1)) r.2) : hs_W S d 1 hs_p122 Q 55 [hs_r 11 0, v1, v2, v3] [hs_i s0] h := by
  unfold hb_122_55 at e
  obtain rfl := Option.some.inj e
  exact hs_wr 1 (v := some (hs_i s0)) (h' := h) (fun n w => w) q
/-- HuntedScent.sure(II)I -/
def hf_122 (a1 : Int32) (a2 : Int32) (h : hs_H) : Option (Int32 × hs_H) := (hf_146 (nI 5) a1.toInt64 h).bind (fun q1 => if q1.1 = 0 then (hb_122_18 q1.2) else ((hf_146 a1 a2.toInt64 q1.2).bind (fun q3 => if ¬ q3.1 = 0 then ((hf_95 a1 q3.2).bind (fun q5 => hs_ck (hs_inb a2 6) ((hf_240 (q5.1 40 0 a2.toNatClampNeg) q5).bind (fun q7 => if ¬ q7.1 = (nI 1) then (hb_122_55 (nI 4294967292) q7.2) else ((hf_148 (q5.1 40 0 a2.toNatClampNeg) q7.2).bind (fun q9 => hb_122_55 q9.1 q9.2)))))) else (hb_122_18 q3.2))))
set_option maxHeartbeats 1000000 in
theorem hc_122 {S : hs_S} {D : Nat} {Q : hs_Q} (hD : 17 ≤ D) {a1 : Int32} {a2 : Int32} {h : hs_H} {r : Int32 × hs_H} (e : hf_122 a1 a2 h = some r) (q : Q (some (hs_i r.1)) r.2) : hs_call hs_ms S D 122 [hs_r 11 0, hs_i a1, hs_i a2] h Q := by
  refine hs_go (R := 16) hD rfl (Nat.le_of_ble_eq_true rfl) (fun d hd => ?_)
  show hs_W S d 1 hs_p122 Q 0 [hs_r 11 0, hs_i a1, hs_i a2, hs_u] [] h
  unfold hf_122 at e
  obtain ⟨q1, eq1, e⟩ := hs_bind_some e
  try dsimp only at e
  refine hs_wc 4 (y := 146) (a := [hs_i (nI 5), hs_l a1.toInt64]) (v := some (hs_i q1.1)) (pc' := 6) (ls' := [hs_r 11 0, hs_i a1, hs_i a2, hs_u]) (st' := []) (h' := h) (h2 := q1.2) (fun n w => w) (fun q => hc_146 (by omega) eq1 q) ?_
  refine hs_wb 1 (c := q1.1 = 0) (t := 18) (f := 9) (ls' := [hs_r 11 0, hs_i a1, hs_i a2, hs_u]) (st' := []) (h' := q1.2) (fun n w => w) (fun b2 => ?_) (fun b2 => ?_)
  · rw [if_pos b2] at e
    exact hw_122_18 hd e q
  · rw [if_neg b2] at e
    obtain ⟨q3, eq3, e⟩ := hs_bind_some e
    try dsimp only at e
    refine hs_wc 4 (y := 146) (a := [hs_i a1, hs_l a2.toInt64]) (v := some (hs_i q3.1)) (pc' := 15) (ls' := [hs_r 11 0, hs_i a1, hs_i a2, hs_u]) (st' := []) (h' := q1.2) (h2 := q3.2) (fun n w => w) (fun q => hc_146 (by omega) eq3 q) ?_
    refine hs_wb 1 (c := ¬ q3.1 = 0) (t := 20) (f := 18) (ls' := [hs_r 11 0, hs_i a1, hs_i a2, hs_u]) (st' := []) (h' := q3.2) (fun n w => w) (fun b4 => ?_) (fun b4 => ?_)
    · rw [if_pos b4] at e
      obtain ⟨q5, eq5, e⟩ := hs_bind_some e
      try dsimp only at e
      refine hs_wc 4 (y := 95) (a := [hs_r 10 0, hs_i a1]) (v := none) (pc' := 28) (ls' := [hs_r 11 0, hs_i a1, hs_i a2, hs_u]) (st' := []) (h' := q3.2) (h2 := q5) (fun n w => w) (fun q => hc_95 (by omega) eq5 q) ?_
      obtain ⟨c6, e⟩ := hs_ck_some e
      refine hs_wa 5 (c := vp_in a2 6) (pc' := 37) (ls' := [hs_r 11 0, hs_i a1, hs_i a2, hs_u]) (st' := [hs_i (q5.1 40 0 a2.toNatClampNeg)]) (h' := q5) (fun n w => w) (hs_inb_iff.mp c6) ?_
      obtain ⟨q7, eq7, e⟩ := hs_bind_some e
      try dsimp only at e
      refine hs_wc 3 (y := 240) (a := [hs_i (q5.1 40 0 a2.toNatClampNeg)]) (v := some (hs_i q7.1)) (pc' := 42) (ls' := [hs_r 11 0, hs_i a1, hs_i a2, hs_i (q5.1 40 0 a2.toNatClampNeg)]) (st' := []) (h' := q5) (h2 := q7.2) (fun n w => w) (fun q => hc_240 (by omega) eq7 q) ?_
      refine hs_wb 2 (c := ¬ q7.1 = (nI 1)) (t := 53) (f := 46) (ls' := [hs_r 11 0, hs_i a1, hs_i a2, hs_i (q5.1 40 0 a2.toNatClampNeg)]) (st' := []) (h' := q7.2) (fun n w => w) (fun b8 => ?_) (fun b8 => ?_)
      · rw [if_pos b8] at e
        refine hs_w 1 (pc' := 55) (ls' := [hs_r 11 0, hs_i a1, hs_i a2, hs_i (q5.1 40 0 a2.toNatClampNeg)]) (st' := [hs_i (nI 4294967292)]) (h' := q7.2) (fun n w => w) ?_
        exact hw_122_55 hd e q
      · rw [if_neg b8] at e
        obtain ⟨q9, eq9, e⟩ := hs_bind_some e
        try dsimp only at e
        refine hs_wc 2 (y := 148) (a := [hs_i (q5.1 40 0 a2.toNatClampNeg)]) (v := some (hs_i q9.1)) (pc' := 50) (ls' := [hs_r 11 0, hs_i a1, hs_i a2, hs_i (q5.1 40 0 a2.toNatClampNeg)]) (st' := []) (h' := q7.2) (h2 := q9.2) (fun n w => w) (fun q => hc_148 (by omega) eq9 q) ?_
        refine hs_w 1 (pc' := 55) (ls' := [hs_r 11 0, hs_i a1, hs_i a2, hs_i (q5.1 40 0 a2.toNatClampNeg)]) (st' := [hs_i q9.1]) (h' := q9.2) (fun n w => w) ?_
        exact hw_122_55 hd e q
    · rw [if_neg b4] at e
      exact hw_122_18 hd e q
def hb_123_18     (h : hs_H) : Option (Int32 × hs_H) := some (nI 4294967295, h)
set_option maxHeartbeats 1000000 in
theorem hw_123_18 {S : hs_S} {d : Nat} {Q : hs_Q} (hd : 16 ≤ d)      {v1 : hs_V} {v2 : hs_V} {h : hs_H} {r : Int32 × hs_H} (e : hb_123_18 h = some r) (q : Q (some (hs_i r.1)) r.2) : hs_W S d 1 hs_p123 Q 18 [hs_r 11 0, v1, v2] [] h := by
  unfold hb_123_18 at e
  obtain rfl := Option.some.inj e
  exact hs_wr 2 (v := some (hs_i (nI 4294967295))) (h' := h) (fun n w => w) q
def hb_123_52    (s0 : Int32) (h : hs_H) : Option (Int32 × hs_H) := some (s0, h)
set_option maxHeartbeats 1000000 in
theorem hw_123_52 {S : hs_S} {d : Nat} {Q : hs_Q} (hd : 16 ≤ d)     {s0 : Int32} {v1 : hs_V} {v2 : hs_V} {h : hs_H} {r : Int32 × hs_H} (e : hb_123_52 s0 h = some r) (q : Q (some (hs_i r.1)) r.2) : hs_W S d 1 hs_p123 Q 52 [hs_r 11 0, v1, v2] [hs_i s0] h := by
  unfold hb_123_52 at e
  obtain rfl := Option.some.inj e
  exact hs_wr 1 (v := some (hs_i s0)) (h' := h) (fun n w => w) q
/-- HuntedScent.way(II)I -/
def hf_123 (a1 : Int32) (a2 : Int32) (h : hs_H) : Option (Int32 × hs_H) := (hf_146 (nI 5) a1.toInt64 h).bind (fun q1 => if q1.1 = 0 then (hb_123_18 q1.2) else ((hf_146 a1 a2.toInt64 q1.2).bind (fun q3 => if ¬ q3.1 = 0 then ((hf_95 a1 q3.2).bind (fun q5 => if (q5.1 10 0 8) ≤ 0 then (hb_123_52 (nI 4294967292) q5) else (hs_ck (hs_inb a2 6) (hb_123_52 (q5.1 41 0 a2.toNatClampNeg) q5)))) else (hb_123_18 q3.2))))
set_option maxHeartbeats 1000000 in
theorem hc_123 {S : hs_S} {D : Nat} {Q : hs_Q} (hD : 17 ≤ D) {a1 : Int32} {a2 : Int32} {h : hs_H} {r : Int32 × hs_H} (e : hf_123 a1 a2 h = some r) (q : Q (some (hs_i r.1)) r.2) : hs_call hs_ms S D 123 [hs_r 11 0, hs_i a1, hs_i a2] h Q := by
  refine hs_go (R := 16) hD rfl (Nat.le_of_ble_eq_true rfl) (fun d hd => ?_)
  show hs_W S d 1 hs_p123 Q 0 [hs_r 11 0, hs_i a1, hs_i a2] [] h
  unfold hf_123 at e
  obtain ⟨q1, eq1, e⟩ := hs_bind_some e
  try dsimp only at e
  refine hs_wc 4 (y := 146) (a := [hs_i (nI 5), hs_l a1.toInt64]) (v := some (hs_i q1.1)) (pc' := 6) (ls' := [hs_r 11 0, hs_i a1, hs_i a2]) (st' := []) (h' := h) (h2 := q1.2) (fun n w => w) (fun q => hc_146 (by omega) eq1 q) ?_
  refine hs_wb 1 (c := q1.1 = 0) (t := 18) (f := 9) (ls' := [hs_r 11 0, hs_i a1, hs_i a2]) (st' := []) (h' := q1.2) (fun n w => w) (fun b2 => ?_) (fun b2 => ?_)
  · rw [if_pos b2] at e
    exact hw_123_18 hd e q
  · rw [if_neg b2] at e
    obtain ⟨q3, eq3, e⟩ := hs_bind_some e
    try dsimp only at e
    refine hs_wc 4 (y := 146) (a := [hs_i a1, hs_l a2.toInt64]) (v := some (hs_i q3.1)) (pc' := 15) (ls' := [hs_r 11 0, hs_i a1, hs_i a2]) (st' := []) (h' := q1.2) (h2 := q3.2) (fun n w => w) (fun q => hc_146 (by omega) eq3 q) ?_
    refine hs_wb 1 (c := ¬ q3.1 = 0) (t := 20) (f := 18) (ls' := [hs_r 11 0, hs_i a1, hs_i a2]) (st' := []) (h' := q3.2) (fun n w => w) (fun b4 => ?_) (fun b4 => ?_)
    · rw [if_pos b4] at e
      obtain ⟨q5, eq5, e⟩ := hs_bind_some e
      try dsimp only at e
      refine hs_wc 4 (y := 95) (a := [hs_r 10 0, hs_i a1]) (v := none) (pc' := 28) (ls' := [hs_r 11 0, hs_i a1, hs_i a2]) (st' := []) (h' := q3.2) (h2 := q5) (fun n w => w) (fun q => hc_95 (by omega) eq5 q) ?_
      refine hs_wb 4 (c := (q5.1 10 0 8) ≤ 0) (t := 50) (f := 38) (ls' := [hs_r 11 0, hs_i a1, hs_i a2]) (st' := []) (h' := q5) (fun n w => w) (fun b6 => ?_) (fun b6 => ?_)
      · rw [if_pos b6] at e
        refine hs_w 1 (pc' := 52) (ls' := [hs_r 11 0, hs_i a1, hs_i a2]) (st' := [hs_i (nI 4294967292)]) (h' := q5) (fun n w => w) ?_
        exact hw_123_52 hd e q
      · rw [if_neg b6] at e
        obtain ⟨c7, e⟩ := hs_ck_some e
        refine hs_wa 5 (c := vp_in a2 6) (pc' := 47) (ls' := [hs_r 11 0, hs_i a1, hs_i a2]) (st' := [hs_i (q5.1 41 0 a2.toNatClampNeg)]) (h' := q5) (fun n w => w) (hs_inb_iff.mp c7) ?_
        refine hs_w 1 (pc' := 52) (ls' := [hs_r 11 0, hs_i a1, hs_i a2]) (st' := [hs_i (q5.1 41 0 a2.toNatClampNeg)]) (h' := q5) (fun n w => w) ?_
        exact hw_123_52 hd e q
    · rw [if_neg b4] at e
      exact hw_123_18 hd e q
def hb_96_8  (k8 : Int32 × hs_H → Option (Int32 × hs_H)) (x1 : Int32)  (h : hs_H) : Option (Int32 × hs_H) := if (h.1 5 0 3) < x1 then (some (nI 4294967292, h)) else ((hf_97 (nI 5) x1 (nI 1) h).bind (fun q2 => if ¬ (q2.1 10 0 8) = 0 then (k8 (x1 + nI 1, q2)) else (some (x1 - (nI 1), q2))))
set_option maxHeartbeats 1000000 in
theorem hw_96_8 {S : hs_S} {d : Nat} {Q : hs_Q} (hd : 15 ≤ d)  {k8 : Int32 × hs_H → Option (Int32 × hs_H)} (hk8 : ∀ (x1 : Int32) (h : hs_H) (r : Int32 × hs_H) , k8 (x1, h) = some r → Q (some (hs_i r.1)) r.2 → hs_W S d 1 hs_p96 Q 8 [hs_r 10 0, hs_i x1] [] h) {x1 : Int32}   {h : hs_H} {r : Int32 × hs_H} (e : hb_96_8 k8 x1 h = some r) (q : Q (some (hs_i r.1)) r.2) : hs_W S d 1 hs_p96 Q 8 [hs_r 10 0, hs_i x1] [] h := by
  unfold hb_96_8 at e
  refine hs_wb 5 (c := (h.1 5 0 3) < x1) (t := 43) (f := 19) (ls' := [hs_r 10 0, hs_i x1]) (st' := []) (h' := h) (fun n w => w) (fun b1 => ?_) (fun b1 => ?_)
  · rw [if_pos b1] at e
    obtain rfl := Option.some.inj e
    exact hs_wr 2 (v := some (hs_i (nI 4294967292))) (h' := h) (fun n w => w) q
  · rw [if_neg b1] at e
    obtain ⟨q2, eq2, e⟩ := hs_bind_some e
    try dsimp only at e
    refine hs_wc 5 (y := 97) (a := [hs_r 10 0, hs_i (nI 5), hs_i x1, hs_i (nI 1)]) (v := none) (pc' := 26) (ls' := [hs_r 10 0, hs_i x1]) (st' := []) (h' := h) (h2 := q2) (fun n w => w) (fun q => hc_97 (by omega) eq2 q) ?_
    refine hs_wb 3 (c := ¬ (q2.1 10 0 8) = 0) (t := 37) (f := 33) (ls' := [hs_r 10 0, hs_i x1]) (st' := []) (h' := q2) (fun n w => w) (fun b3 => ?_) (fun b3 => ?_)
    · rw [if_pos b3] at e
      refine hs_w 2 (pc' := 8) (ls' := [hs_r 10 0, hs_i (x1 + nI 1)]) (st' := []) (h' := q2) (fun n w => w) ?_
      exact hk8 _ _ _  e q
    · rw [if_neg b3] at e
      obtain rfl := Option.some.inj e
      exact hs_wr 4 (v := some (hs_i (x1 - (nI 1)))) (h' := q2) (fun n w => w) q
theorem hw_96_8_lp {S : hs_S} {d : Nat} {Q : hs_Q} (hd : 15 ≤ d)    (n : Nat) {x1 : Int32} {h : hs_H} {r : Int32 × hs_H} (e : hs_lp (fun k s => hb_96_8 k s.1 s.2) n (x1, h) = some r)  (q : Q (some (hs_i r.1)) r.2) : hs_W S d 1 hs_p96 Q 8 [hs_r 10 0, hs_i x1] [] h := by
  refine hs_lp_ind (P := fun (s : Int32 × hs_H) (r : Int32 × hs_H) => ∀ (_ : True), Q (some (hs_i r.1)) r.2 → hs_W S d 1 hs_p96 Q 8 [hs_r 10 0, hs_i s.1] [] s.2) (fun k hk s r e _ q => ?_) n (x1, h) r e trivial q
  exact hw_96_8 hd (fun x1 h r  e q => hk (x1, h) r e trivial q) e q
/-- HuntedScent$Wayfinder.firstImpossible()I -/
def hf_96  (h : hs_H) : Option (Int32 × hs_H) := hs_lp (fun k s => hb_96_8 k s.1 s.2) hs_big (nI 1, hs_put h 10 0 14 (nI 4294967292))
set_option maxHeartbeats 1000000 in
theorem hc_96 {S : hs_S} {D : Nat} {Q : hs_Q} (hD : 16 ≤ D)  {h : hs_H} {r : Int32 × hs_H} (e : hf_96 h = some r) (q : Q (some (hs_i r.1)) r.2) : hs_call hs_ms S D 96 [hs_r 10 0] h Q := by
  refine hs_go (R := 15) hD rfl (Nat.le_of_ble_eq_true rfl) (fun d hd => ?_)
  show hs_W S d 1 hs_p96 Q 0 [hs_r 10 0, hs_u] [] h
  unfold hf_96 at e
  refine hs_w 5 (pc' := 8) (ls' := [hs_r 10 0, hs_i (nI 1)]) (st' := []) (h' := hs_put h 10 0 14 (nI 4294967292)) (fun n w => w) ?_
  exact hw_96_8_lp hd hs_big e  q
/-- HuntedScent.cannot()I -/
def hf_124  (h : hs_H) : Option (Int32 × hs_H) := (hf_96 h).bind (fun q1 => some (q1.1, q1.2))
set_option maxHeartbeats 1000000 in
theorem hc_124 {S : hs_S} {D : Nat} {Q : hs_Q} (hD : 17 ≤ D)  {h : hs_H} {r : Int32 × hs_H} (e : hf_124 h = some r) (q : Q (some (hs_i r.1)) r.2) : hs_call hs_ms S D 124 [hs_r 11 0] h Q := by
  refine hs_go (R := 16) hD rfl (Nat.le_of_ble_eq_true rfl) (fun d hd => ?_)
  show hs_W S d 1 hs_p124 Q 0 [hs_r 11 0] [] h
  unfold hf_124 at e
  obtain ⟨q1, eq1, e⟩ := hs_bind_some e
  try dsimp only at e
  refine hs_wc 3 (y := 96) (a := [hs_r 10 0]) (v := some (hs_i q1.1)) (pc' := 7) (ls' := [hs_r 11 0]) (st' := []) (h' := h) (h2 := q1.2) (fun n w => w) (fun q => hc_96 (by omega) eq1 q) ?_
  obtain rfl := Option.some.inj e
  exact hs_wr 1 (v := some (hs_i q1.1)) (h' := q1.2) (fun n w => w) q
def hb_127_36    (s0 : Int32) (h : hs_H) : Option (Int32 × hs_H) := hs_ck (hs_b01 s0) (some (s0, h))
set_option maxHeartbeats 1000000 in
theorem hw_127_36 {S : hs_S} {d : Nat} {Q : hs_Q} (hd : 2 ≤ d)     {s0 : Int32} {v1 : hs_V} {v2 : hs_V} {v3 : hs_V} {h : hs_H} {r : Int32 × hs_H} (e : hb_127_36 s0 h = some r) (q : Q (some (hs_i r.1)) r.2) : hs_W S d 2 hs_p127 Q 36 [hs_r 11 0, v1, v2, v3] [hs_i s0] h := by
  unfold hb_127_36 at e
  obtain ⟨c3, e⟩ := hs_ck_some e
  obtain rfl := Option.some.inj e
  exact hs_wra 1 (c := s0 = 0 ∨ s0 = 1) (v := some (hs_i s0)) (h' := h) (fun n w => w) (hs_b01_iff.mp c3) q
def hb_127_35     (h : hs_H) : Option (Int32 × hs_H) := hb_127_36 (nI 0) h
set_option maxHeartbeats 1000000 in
theorem hw_127_35 {S : hs_S} {d : Nat} {Q : hs_Q} (hd : 2 ≤ d)      {v1 : hs_V} {v2 : hs_V} {v3 : hs_V} {h : hs_H} {r : Int32 × hs_H} (e : hb_127_35 h = some r) (q : Q (some (hs_i r.1)) r.2) : hs_W S d 2 hs_p127 Q 35 [hs_r 11 0, v1, v2, v3] [] h := by
  unfold hb_127_35 at e
  refine hs_w 1 (pc' := 36) (ls' := [hs_r 11 0, v1, v2, v3]) (st' := [hs_i (nI 0)]) (h' := h) (fun n w => w) ?_
  exact hw_127_36 hd e q
/-- HuntedScent.isDoubtAsked(III)Z -/
def hf_127 (a1 : Int32) (a2 : Int32) (a3 : Int32) (h : hs_H) : Option (Int32 × hs_H) := (hf_29 0 a1 h).bind (fun q1 => if q1.1 = 0 then (hb_127_35 q1.2) else ((hf_146 (nI 3) a2.toInt64 q1.2).bind (fun q4 => if q4.1 = 0 then (hb_127_35 q4.2) else ((hf_30 0 a3 q4.2).bind (fun q6 => if q6.1 = 0 then (hb_127_35 q6.2) else (hb_127_36 (nI 1) q6.2))))))
set_option maxHeartbeats 1000000 in
theorem hc_127 {S : hs_S} {D : Nat} {Q : hs_Q} (hD : 3 ≤ D) {a1 : Int32} {a2 : Int32} {a3 : Int32} {h : hs_H} {r : Int32 × hs_H} (e : hf_127 a1 a2 a3 h = some r) (q : Q (some (hs_i r.1)) r.2) : hs_call hs_ms S D 127 [hs_r 11 0, hs_i a1, hs_i a2, hs_i a3] h Q := by
  refine hs_go (R := 2) hD rfl (Nat.le_of_ble_eq_true rfl) (fun d hd => ?_)
  show hs_W S d 2 hs_p127 Q 0 [hs_r 11 0, hs_i a1, hs_i a2, hs_i a3] [] h
  unfold hf_127 at e
  obtain ⟨q1, eq1, e⟩ := hs_bind_some e
  try dsimp only at e
  refine hs_wc 4 (y := 29) (a := [hs_r 4 0, hs_i a1]) (v := some (hs_i q1.1)) (pc' := 8) (ls' := [hs_r 11 0, hs_i a1, hs_i a2, hs_i a3]) (st' := []) (h' := h) (h2 := q1.2) (fun n w => w) (fun q => hc_29 (by omega) eq1 q) ?_
  refine hs_wb 1 (c := q1.1 = 0) (t := 35) (f := 11) (ls' := [hs_r 11 0, hs_i a1, hs_i a2, hs_i a3]) (st' := []) (h' := q1.2) (fun n w => w) (fun b2 => ?_) (fun b2 => ?_)
  · rw [if_pos b2] at e
    exact hw_127_35 hd e q
  · rw [if_neg b2] at e
    obtain ⟨q4, eq4, e⟩ := hs_bind_some e
    try dsimp only at e
    refine hs_wc 4 (y := 146) (a := [hs_i (nI 3), hs_l a2.toInt64]) (v := some (hs_i q4.1)) (pc' := 17) (ls' := [hs_r 11 0, hs_i a1, hs_i a2, hs_i a3]) (st' := []) (h' := q1.2) (h2 := q4.2) (fun n w => w) (fun q => hc_146 (by omega) eq4 q) ?_
    refine hs_wb 1 (c := q4.1 = 0) (t := 35) (f := 20) (ls' := [hs_r 11 0, hs_i a1, hs_i a2, hs_i a3]) (st' := []) (h' := q4.2) (fun n w => w) (fun b5 => ?_) (fun b5 => ?_)
    · rw [if_pos b5] at e
      exact hw_127_35 hd e q
    · rw [if_neg b5] at e
      obtain ⟨q6, eq6, e⟩ := hs_bind_some e
      try dsimp only at e
      refine hs_wc 4 (y := 30) (a := [hs_r 4 0, hs_i a3]) (v := some (hs_i q6.1)) (pc' := 28) (ls' := [hs_r 11 0, hs_i a1, hs_i a2, hs_i a3]) (st' := []) (h' := q4.2) (h2 := q6.2) (fun n w => w) (fun q => hc_30 (by omega) eq6 q) ?_
      refine hs_wb 1 (c := q6.1 = 0) (t := 35) (f := 31) (ls' := [hs_r 11 0, hs_i a1, hs_i a2, hs_i a3]) (st' := []) (h' := q6.2) (fun n w => w) (fun b7 => ?_) (fun b7 => ?_)
      · rw [if_pos b7] at e
        exact hw_127_35 hd e q
      · rw [if_neg b7] at e
        refine hs_w 2 (pc' := 36) (ls' := [hs_r 11 0, hs_i a1, hs_i a2, hs_i a3]) (st' := [hs_i (nI 1)]) (h' := q6.2) (fun n w => w) ?_
        exact hw_127_36 hd e q
def hb_26_23     (h : hs_H) : Option (hs_H) := some h
set_option maxHeartbeats 1000000 in
theorem hw_26_23 {S : hs_S} {d : Nat} {Q : hs_Q} (hd : 1 ≤ d)      {v1 : hs_V} {v2 : hs_V} {v3 : hs_V} {h : hs_H} {r : hs_H} (e : hb_26_23 h = some r) (q : Q none r) : hs_W S d 0 hs_p26 Q 23 [hs_r 2 0, v1, v2, v3] [] h := by
  unfold hb_26_23 at e
  obtain rfl := Option.some.inj e
  exact hs_wr 1 (v := none) (h' := h) (fun n w => w) q
/-- HuntedScent$Doubter.noteWay(II)V -/
def hf_26 (a1 : Int32) (a2 : Int32) (h : hs_H) : Option (hs_H) := (hf_240 a1 h).bind (fun q1 => if q1.1 ≤ (q1.2.1 2 0 1) then (hb_26_23 q1.2) else (hb_26_23 (hs_put (hs_put q1.2 2 0 1 q1.1) 2 0 4 a2)))
set_option maxHeartbeats 1000000 in
theorem hc_26 {S : hs_S} {D : Nat} {Q : hs_Q} (hD : 2 ≤ D) {a1 : Int32} {a2 : Int32} {h : hs_H} {r : hs_H} (e : hf_26 a1 a2 h = some r) (q : Q none r) : hs_call hs_ms S D 26 [hs_r 2 0, hs_i a1, hs_i a2] h Q := by
  refine hs_go (R := 1) hD rfl (Nat.le_of_ble_eq_true rfl) (fun d hd => ?_)
  show hs_W S d 0 hs_p26 Q 0 [hs_r 2 0, hs_i a1, hs_i a2, hs_u] [] h
  unfold hf_26 at e
  obtain ⟨q1, eq1, e⟩ := hs_bind_some e
  try dsimp only at e
  refine hs_wc 2 (y := 240) (a := [hs_i a1]) (v := some (hs_i q1.1)) (pc' := 4) (ls' := [hs_r 2 0, hs_i a1, hs_i a2, hs_u]) (st' := []) (h' := h) (h2 := q1.2) (fun n w => w) (fun q => hc_240 (by omega) eq1 q) ?_
  refine hs_wb 5 (c := q1.1 ≤ (q1.2.1 2 0 1)) (t := 23) (f := 13) (ls' := [hs_r 2 0, hs_i a1, hs_i a2, hs_i q1.1]) (st' := []) (h' := q1.2) (fun n w => w) (fun b2 => ?_) (fun b2 => ?_)
  · rw [if_pos b2] at e
    exact hw_26_23 hd e q
  · rw [if_neg b2] at e
    refine hs_w 6 (pc' := 23) (ls' := [hs_r 2 0, hs_i a1, hs_i a2, hs_i q1.1]) (st' := []) (h' := hs_put (hs_put q1.2 2 0 1 q1.1) 2 0 4 a2) (fun n w => w) ?_
    exact hw_26_23 hd e q
def hb_25_13 (self : Int32 → Int32 → Int32 → Int32 → hs_H → Option (hs_H))  (x3 : Int32) (x4 : Int32)  (h : hs_H) : Option (hs_H) := (hf_26 x3 x4 h).bind (fun q2 => some q2)
set_option maxHeartbeats 1000000 in
theorem hw_25_13 {S : hs_S} {d : Nat} {Q : hs_Q} (hd : 3 ≤ d) {self : Int32 → Int32 → Int32 → Int32 → hs_H → Option (hs_H)} (hself : ∀ (a1 : Int32) (a2 : Int32) (a3 : Int32) (a4 : Int32) (h : hs_H) (r : hs_H), self a1 a2 a3 a4 h = some r → ∀ {Q2 : hs_Q}, Q2 none r → hs_call hs_ms S d 25 [hs_r 2 0, hs_i a1, hs_i a2, hs_i a3, hs_i a4] h Q2)   {x3 : Int32} {x4 : Int32}  {v1 : hs_V} {v2 : hs_V} {v5 : hs_V} {v6 : hs_V} {v7 : hs_V} {v8 : hs_V} {h : hs_H} {r : hs_H} (e : hb_25_13 self x3 x4 h = some r) (q : Q none r) : hs_W S d 0 hs_p25 Q 13 [hs_r 2 0, v1, v2, hs_i x3, hs_i x4, v5, v6, v7, v8] [] h := by
  unfold hb_25_13 at e
  obtain ⟨q2, eq2, e⟩ := hs_bind_some e
  try dsimp only at e
  refine hs_wc 4 (y := 26) (a := [hs_r 2 0, hs_i x3, hs_i x4]) (v := none) (pc' := 20) (ls' := [hs_r 2 0, v1, v2, hs_i x3, hs_i x4, v5, v6, v7, v8]) (st' := []) (h' := h) (h2 := q2) (fun n w => w) (fun q => hc_26 (by omega) eq2 q) ?_
  obtain rfl := Option.some.inj e
  exact hs_wr 1 (v := none) (h' := q2) (fun n w => w) q
def hb_25_118 (self : Int32 → Int32 → Int32 → Int32 → hs_H → Option (hs_H)) (k51 : Int32 × Int32 × Int32 × Int32 × Int32 × hs_H → Option (hs_H)) (x1 : Int32) (x4 : Int32) (x5 : Int32) (x6 : Int32) (x7 : Int32)  (h : hs_H) : Option (hs_H) := k51 (x1, x4, x5, x6, x7 + nI 1, h)
set_option maxHeartbeats 1000000 in
theorem hw_25_118 {S : hs_S} {d : Nat} {Q : hs_Q} (hd : 3 ≤ d) {self : Int32 → Int32 → Int32 → Int32 → hs_H → Option (hs_H)} (hself : ∀ (a1 : Int32) (a2 : Int32) (a3 : Int32) (a4 : Int32) (h : hs_H) (r : hs_H), self a1 a2 a3 a4 h = some r → ∀ {Q2 : hs_Q}, Q2 none r → hs_call hs_ms S d 25 [hs_r 2 0, hs_i a1, hs_i a2, hs_i a3, hs_i a4] h Q2) {k51 : Int32 × Int32 × Int32 × Int32 × Int32 × hs_H → Option (hs_H)} (hk51 : ∀ (x1 : Int32) (x4 : Int32) (x5 : Int32) (x6 : Int32) (x7 : Int32) (h : hs_H) (r : hs_H) (v2 : hs_V) (v3 : hs_V) (v8 : hs_V), k51 (x1, x4, x5, x6, x7, h) = some r → Q none r → hs_W S d 0 hs_p25 Q 51 [hs_r 2 0, hs_i x1, v2, v3, hs_i x4, hs_i x5, hs_i x6, hs_i x7, v8] [] h) {x1 : Int32} {x4 : Int32} {x5 : Int32} {x6 : Int32} {x7 : Int32}  {v2 : hs_V} {v3 : hs_V} {v8 : hs_V} {h : hs_H} {r : hs_H} (e : hb_25_118 self k51 x1 x4 x5 x6 x7 h = some r) (q : Q none r) : hs_W S d 0 hs_p25 Q 118 [hs_r 2 0, hs_i x1, v2, v3, hs_i x4, hs_i x5, hs_i x6, hs_i x7, v8] [] h := by
  unfold hb_25_118 at e
  refine hs_w 2 (pc' := 51) (ls' := [hs_r 2 0, hs_i x1, v2, v3, hs_i x4, hs_i x5, hs_i x6, hs_i (x7 + nI 1), v8]) (st' := []) (h' := h) (fun n w => w) ?_
  exact hk51 _ _ _ _ _ _ _ _ _ _ e q
def hb_25_94 (self : Int32 → Int32 → Int32 → Int32 → hs_H → Option (hs_H)) (k51 : Int32 × Int32 × Int32 × Int32 × Int32 × hs_H → Option (hs_H)) (x1 : Int32) (x4 : Int32) (x5 : Int32) (x6 : Int32) (x7 : Int32) (s0 : Int32) (h : hs_H) : Option (hs_H) := (self (x1 + (nI 1)) x7 s0 (x4 ||| (x7 <<< (((nI 4) * (x1 + (nI 1))) &&& 31))) h).bind (fun q11 => hb_25_118 self k51 x1 x4 x5 x6 x7 q11)
set_option maxHeartbeats 1000000 in
theorem hw_25_94 {S : hs_S} {d : Nat} {Q : hs_Q} (hd : 3 ≤ d) {self : Int32 → Int32 → Int32 → Int32 → hs_H → Option (hs_H)} (hself : ∀ (a1 : Int32) (a2 : Int32) (a3 : Int32) (a4 : Int32) (h : hs_H) (r : hs_H), self a1 a2 a3 a4 h = some r → ∀ {Q2 : hs_Q}, Q2 none r → hs_call hs_ms S d 25 [hs_r 2 0, hs_i a1, hs_i a2, hs_i a3, hs_i a4] h Q2) {k51 : Int32 × Int32 × Int32 × Int32 × Int32 × hs_H → Option (hs_H)} (hk51 : ∀ (x1 : Int32) (x4 : Int32) (x5 : Int32) (x6 : Int32) (x7 : Int32) (h : hs_H) (r : hs_H) (v2 : hs_V) (v3 : hs_V) (v8 : hs_V), k51 (x1, x4, x5, x6, x7, h) = some r → Q none r → hs_W S d 0 hs_p25 Q 51 [hs_r 2 0, hs_i x1, v2, v3, hs_i x4, hs_i x5, hs_i x6, hs_i x7, v8] [] h) {x1 : Int32} {x4 : Int32} {x5 : Int32} {x6 : Int32} {x7 : Int32} {s0 : Int32} {v2 : hs_V} {v3 : hs_V} {v8 : hs_V} {h : hs_H} {r : hs_H} (e : hb_25_94 self k51 x1 x4 x5 x6 x7 s0 h = some r) (q : Q none r) : hs_W S d 0 hs_p25 Q 94 [hs_r 2 0, hs_i x1, v2, v3, hs_i x4, hs_i x5, hs_i x6, hs_i x7, v8] [hs_i s0] h := by
  unfold hb_25_94 at e
  obtain ⟨q11, eq11, e⟩ := hs_bind_some e
  try dsimp only at e
  refine hs_wc 17 (y := 25) (a := [hs_r 2 0, hs_i (x1 + (nI 1)), hs_i x7, hs_i s0, hs_i (x4 ||| (x7 <<< (((nI 4) * (x1 + (nI 1))) &&& 31)))]) (v := none) (pc' := 118) (ls' := [hs_r 2 0, hs_i x1, v2, v3, hs_i x4, hs_i x5, hs_i x6, hs_i x7, hs_i s0]) (st' := []) (h' := h) (h2 := q11) (fun n w => w) (fun q => hself _ _ _ _ _ _ eq11 q) ?_
  exact hw_25_118 hd hself hk51 e q
def hb_25_51 (self : Int32 → Int32 → Int32 → Int32 → hs_H → Option (hs_H)) (k51 : Int32 × Int32 × Int32 × Int32 × Int32 × hs_H → Option (hs_H)) (x1 : Int32) (x4 : Int32) (x5 : Int32) (x6 : Int32) (x7 : Int32)  (h : hs_H) : Option (hs_H) := if (h.1 4 0 1) ≤ x7 then (some h) else ((hf_147 x5 x7 h).bind (fun q7 => if q7.1 = 0 then (hb_25_118 self k51 x1 x4 x5 x6 x7 q7.2) else ((hf_147 (q7.2.1 2 0 3) x7 q7.2).bind (fun q9 => if q9.1 = 0 then (hb_25_94 self k51 x1 x4 x5 x6 x7 x6 q9.2) else (hb_25_94 self k51 x1 x4 x5 x6 x7 ((nI 1) <<< (x7 &&& 31)) q9.2)))))
set_option maxHeartbeats 1000000 in
theorem hw_25_51 {S : hs_S} {d : Nat} {Q : hs_Q} (hd : 3 ≤ d) {self : Int32 → Int32 → Int32 → Int32 → hs_H → Option (hs_H)} (hself : ∀ (a1 : Int32) (a2 : Int32) (a3 : Int32) (a4 : Int32) (h : hs_H) (r : hs_H), self a1 a2 a3 a4 h = some r → ∀ {Q2 : hs_Q}, Q2 none r → hs_call hs_ms S d 25 [hs_r 2 0, hs_i a1, hs_i a2, hs_i a3, hs_i a4] h Q2) {k51 : Int32 × Int32 × Int32 × Int32 × Int32 × hs_H → Option (hs_H)} (hk51 : ∀ (x1 : Int32) (x4 : Int32) (x5 : Int32) (x6 : Int32) (x7 : Int32) (h : hs_H) (r : hs_H) (v2 : hs_V) (v3 : hs_V) (v8 : hs_V), k51 (x1, x4, x5, x6, x7, h) = some r → Q none r → hs_W S d 0 hs_p25 Q 51 [hs_r 2 0, hs_i x1, v2, v3, hs_i x4, hs_i x5, hs_i x6, hs_i x7, v8] [] h) {x1 : Int32} {x4 : Int32} {x5 : Int32} {x6 : Int32} {x7 : Int32}  {v2 : hs_V} {v3 : hs_V} {v8 : hs_V} {h : hs_H} {r : hs_H} (e : hb_25_51 self k51 x1 x4 x5 x6 x7 h = some r) (q : Q none r) : hs_W S d 0 hs_p25 Q 51 [hs_r 2 0, hs_i x1, v2, v3, hs_i x4, hs_i x5, hs_i x6, hs_i x7, v8] [] h := by
  unfold hb_25_51 at e
  refine hs_wb 5 (c := (h.1 4 0 1) ≤ x7) (t := 124) (f := 63) (ls' := [hs_r 2 0, hs_i x1, v2, v3, hs_i x4, hs_i x5, hs_i x6, hs_i x7, v8]) (st' := []) (h' := h) (fun n w => w) (fun b6 => ?_) (fun b6 => ?_)
  · rw [if_pos b6] at e
    obtain rfl := Option.some.inj e
    exact hs_wr 1 (v := none) (h' := h) (fun n w => w) q
  · rw [if_neg b6] at e
    obtain ⟨q7, eq7, e⟩ := hs_bind_some e
    try dsimp only at e
    refine hs_wc 3 (y := 147) (a := [hs_i x5, hs_i x7]) (v := some (hs_i q7.1)) (pc' := 70) (ls' := [hs_r 2 0, hs_i x1, v2, v3, hs_i x4, hs_i x5, hs_i x6, hs_i x7, v8]) (st' := []) (h' := h) (h2 := q7.2) (fun n w => w) (fun q => hc_147 (by omega) eq7 q) ?_
    refine hs_wb 1 (c := q7.1 = 0) (t := 118) (f := 73) (ls' := [hs_r 2 0, hs_i x1, v2, v3, hs_i x4, hs_i x5, hs_i x6, hs_i x7, v8]) (st' := []) (h' := q7.2) (fun n w => w) (fun b8 => ?_) (fun b8 => ?_)
    · rw [if_pos b8] at e
      exact hw_25_118 hd hself hk51 e q
    · rw [if_neg b8] at e
      obtain ⟨q9, eq9, e⟩ := hs_bind_some e
      try dsimp only at e
      refine hs_wc 4 (y := 147) (a := [hs_i (q7.2.1 2 0 3), hs_i x7]) (v := some (hs_i q9.1)) (pc' := 82) (ls' := [hs_r 2 0, hs_i x1, v2, v3, hs_i x4, hs_i x5, hs_i x6, hs_i x7, v8]) (st' := []) (h' := q7.2) (h2 := q9.2) (fun n w => w) (fun q => hc_147 (by omega) eq9 q) ?_
      refine hs_wb 1 (c := q9.1 = 0) (t := 92) (f := 85) (ls' := [hs_r 2 0, hs_i x1, v2, v3, hs_i x4, hs_i x5, hs_i x6, hs_i x7, v8]) (st' := []) (h' := q9.2) (fun n w => w) (fun b10 => ?_) (fun b10 => ?_)
      · rw [if_pos b10] at e
        refine hs_w 1 (pc' := 94) (ls' := [hs_r 2 0, hs_i x1, v2, v3, hs_i x4, hs_i x5, hs_i x6, hs_i x7, v8]) (st' := [hs_i x6]) (h' := q9.2) (fun n w => w) ?_
        exact hw_25_94 hd hself hk51 e q
      · rw [if_neg b10] at e
        refine hs_w 4 (pc' := 94) (ls' := [hs_r 2 0, hs_i x1, v2, v3, hs_i x4, hs_i x5, hs_i x6, hs_i x7, v8]) (st' := [hs_i ((nI 1) <<< (x7 &&& 31))]) (h' := q9.2) (fun n w => w) ?_
        exact hw_25_94 hd hself hk51 e q
theorem hw_25_51_lp {S : hs_S} {d : Nat} {Q : hs_Q} (hd : 3 ≤ d) {self : Int32 → Int32 → Int32 → Int32 → hs_H → Option (hs_H)} (hself : ∀ (a1 : Int32) (a2 : Int32) (a3 : Int32) (a4 : Int32) (h : hs_H) (r : hs_H), self a1 a2 a3 a4 h = some r → ∀ {Q2 : hs_Q}, Q2 none r → hs_call hs_ms S d 25 [hs_r 2 0, hs_i a1, hs_i a2, hs_i a3, hs_i a4] h Q2)   (n : Nat) {x1 : Int32} {x4 : Int32} {x5 : Int32} {x6 : Int32} {x7 : Int32} {h : hs_H} {r : hs_H} (e : hs_lp (fun k s => hb_25_51 self k s.1 s.2.1 s.2.2.1 s.2.2.2.1 s.2.2.2.2.1 s.2.2.2.2.2) n (x1, x4, x5, x6, x7, h) = some r) (v2 : hs_V) (v3 : hs_V) (v8 : hs_V) (q : Q none r) : hs_W S d 0 hs_p25 Q 51 [hs_r 2 0, hs_i x1, v2, v3, hs_i x4, hs_i x5, hs_i x6, hs_i x7, v8] [] h := by
  refine hs_lp_ind (P := fun (s : Int32 × Int32 × Int32 × Int32 × Int32 × hs_H) (r : hs_H) => ∀ (v2 : hs_V) (v3 : hs_V) (v8 : hs_V), Q none r → hs_W S d 0 hs_p25 Q 51 [hs_r 2 0, hs_i s.1, v2, v3, hs_i s.2.1, hs_i s.2.2.1, hs_i s.2.2.2.1, hs_i s.2.2.2.2.1, v8] [] s.2.2.2.2.2) (fun k hk s r e v2 v3 v8 q => ?_) n (x1, x4, x5, x6, x7, h) r e v2 v3 v8 q
  exact hw_25_51 hd hself (fun x1 x4 x5 x6 x7 h r v2 v3 v8 e q => hk (x1, x4, x5, x6, x7, h) r e v2 v3 v8 q) e q
/-- HuntedScent$Doubter.explore(IIII)V -/
def hg_25 (self : Int32 → Int32 → Int32 → Int32 → hs_H → Option (hs_H)) (a1 : Int32) (a2 : Int32) (a3 : Int32) (a4 : Int32) (h : hs_H) : Option (hs_H) := if (h.1 2 0 2) ≤ a1 then (hb_25_13 self a3 a4 h) else (if a1 < (nI 3) then ((hf_38 0 a2 h).bind (fun q4 => (hf_39 0 a3 q4.2).bind (fun q5 => hs_lp (fun k s => hb_25_51 self k s.1 s.2.1 s.2.2.1 s.2.2.2.1 s.2.2.2.2.1 s.2.2.2.2.2) hs_big (a1, a4, q4.1, q5.1 &&& ((q5.2.1 2 0 3) ^^^ (nI 4294967295)), nI 0, q5.2)))) else (hb_25_13 self a3 a4 h))
def hf_25 : Nat → Int32 → Int32 → Int32 → Int32 → hs_H → Option (hs_H)
  | 0, _, _, _, _, _ => none
  | m + 1, a1, a2, a3, a4, h => hg_25 (hf_25 m) a1 a2 a3 a4 h
set_option maxHeartbeats 1000000 in
theorem hcg_25 {S : hs_S} {d : Nat} {Q : hs_Q} (hd : 3 ≤ d) {self : Int32 → Int32 → Int32 → Int32 → hs_H → Option (hs_H)} (hself : ∀ (a1 : Int32) (a2 : Int32) (a3 : Int32) (a4 : Int32) (h : hs_H) (r : hs_H), self a1 a2 a3 a4 h = some r → ∀ {Q2 : hs_Q}, Q2 none r → hs_call hs_ms S d 25 [hs_r 2 0, hs_i a1, hs_i a2, hs_i a3, hs_i a4] h Q2) {a1 : Int32} {a2 : Int32} {a3 : Int32} {a4 : Int32} {h : hs_H} {r : hs_H} (e : hg_25 self a1 a2 a3 a4 h = some r) (q : Q none r) : hs_W S d 0 hs_p25 Q 0 [hs_r 2 0, hs_i a1, hs_i a2, hs_i a3, hs_i a4, hs_u, hs_u, hs_u, hs_u] [] h := by
  unfold hg_25 at e
  refine hs_wb 4 (c := (h.1 2 0 2) ≤ a1) (t := 13) (f := 8) (ls' := [hs_r 2 0, hs_i a1, hs_i a2, hs_i a3, hs_i a4, hs_u, hs_u, hs_u, hs_u]) (st' := []) (h' := h) (fun n w => w) (fun b1 => ?_) (fun b1 => ?_)
  · rw [if_pos b1] at e
    exact hw_25_13 hd hself e q
  · rw [if_neg b1] at e
    refine hs_wb 3 (c := a1 < (nI 3)) (t := 21) (f := 13) (ls' := [hs_r 2 0, hs_i a1, hs_i a2, hs_i a3, hs_i a4, hs_u, hs_u, hs_u, hs_u]) (st' := []) (h' := h) (fun n w => w) (fun b3 => ?_) (fun b3 => ?_)
    · rw [if_pos b3] at e
      obtain ⟨q4, eq4, e⟩ := hs_bind_some e
      try dsimp only at e
      refine hs_wc 4 (y := 38) (a := [hs_r 4 0, hs_i a2]) (v := some (hs_i q4.1)) (pc' := 29) (ls' := [hs_r 2 0, hs_i a1, hs_i a2, hs_i a3, hs_i a4, hs_u, hs_u, hs_u, hs_u]) (st' := []) (h' := h) (h2 := q4.2) (fun n w => w) (fun q => hc_38 (by omega) eq4 q) ?_
      obtain ⟨q5, eq5, e⟩ := hs_bind_some e
      try dsimp only at e
      refine hs_wc 5 (y := 39) (a := [hs_r 4 0, hs_i a3]) (v := some (hs_i q5.1)) (pc' := 39) (ls' := [hs_r 2 0, hs_i a1, hs_i a2, hs_i a3, hs_i a4, hs_i q4.1, hs_u, hs_u, hs_u]) (st' := []) (h' := q4.2) (h2 := q5.2) (fun n w => w) (fun q => hc_39 (by omega) eq5 q) ?_
      refine hs_w 8 (pc' := 51) (ls' := [hs_r 2 0, hs_i a1, hs_i a2, hs_i a3, hs_i a4, hs_i q4.1, hs_i (q5.1 &&& ((q5.2.1 2 0 3) ^^^ (nI 4294967295))), hs_i (nI 0), hs_u]) (st' := []) (h' := q5.2) (fun n w => w) ?_
      exact hw_25_51_lp hd hself hs_big e _ _ _ q
    · rw [if_neg b3] at e
      exact hw_25_13 hd hself e q
theorem hc_25 {S : hs_S} : ∀ (m : Nat) {D : Nat} {Q : hs_Q} (hD : 3 + m ≤ D) {a1 : Int32} {a2 : Int32} {a3 : Int32} {a4 : Int32} {h : hs_H} {r : hs_H} (e : hf_25 m a1 a2 a3 a4 h = some r) (q : Q none r), hs_call hs_ms S D 25 [hs_r 2 0, hs_i a1, hs_i a2, hs_i a3, hs_i a4] h Q := by
  intro m
  induction m with
  | zero => intro D Q hD a1 a2 a3 a4 h r e q; cases e
  | succ m ih =>
    intro D Q hD a1 a2 a3 a4 h r e q
    refine hs_go (R := 3 + m) hD rfl (Nat.le_of_ble_eq_true rfl) (fun d hd => ?_)
    exact hcg_25 (Nat.le_trans (Nat.le_add_right _ _) hd) (fun a1 a2 a3 a4 h r e {Q2} q => ih hd e q) e q
/-- HuntedScent$Doubter.search(III)V -/
def hf_23 (a1 : Int32) (a2 : Int32) (a3 : Int32) (h : hs_H) : Option (hs_H) := (hf_25 10 (nI 0) a1 ((nI 1) <<< (a1 &&& 31)) a1 (hs_put (hs_put (hs_put (hs_put h 2 0 1 (nI 0)) 2 0 2 a2) 2 0 4 (nI 0)) 2 0 3 (a3 &&& (((hs_put (hs_put (hs_put h 2 0 1 (nI 0)) 2 0 2 a2) 2 0 4 (nI 0)).1 4 0 4) ^^^ (nI 4294967295))))).bind (fun q1 => some q1)
set_option maxHeartbeats 1000000 in
theorem hc_23 {S : hs_S} {D : Nat} {Q : hs_Q} (hD : 14 ≤ D) {a1 : Int32} {a2 : Int32} {a3 : Int32} {h : hs_H} {r : hs_H} (e : hf_23 a1 a2 a3 h = some r) (q : Q none r) : hs_call hs_ms S D 23 [hs_r 2 0, hs_i a1, hs_i a2, hs_i a3] h Q := by
  refine hs_go (R := 13) hD rfl (Nat.le_of_ble_eq_true rfl) (fun d hd => ?_)
  show hs_W S d 0 hs_p23 Q 0 [hs_r 2 0, hs_i a1, hs_i a2, hs_i a3] [] h
  unfold hf_23 at e
  obtain ⟨q1, eq1, e⟩ := hs_bind_some e
  try dsimp only at e
  refine hs_wc 26 (y := 25) (a := [hs_r 2 0, hs_i (nI 0), hs_i a1, hs_i ((nI 1) <<< (a1 &&& 31)), hs_i a1]) (v := none) (pc' := 40) (ls' := [hs_r 2 0, hs_i a1, hs_i a2, hs_i a3]) (st' := []) (h' := hs_put (hs_put (hs_put (hs_put h 2 0 1 (nI 0)) 2 0 2 a2) 2 0 4 (nI 0)) 2 0 3 (a3 &&& (((hs_put (hs_put (hs_put h 2 0 1 (nI 0)) 2 0 2 a2) 2 0 4 (nI 0)).1 4 0 4) ^^^ (nI 4294967295)))) (h2 := q1) (fun n w => w) (fun q => hc_25 10 (by omega) eq1 q) ?_
  obtain rfl := Option.some.inj e
  exact hs_wr 1 (v := none) (h' := q1) (fun n w => w) q
/-- HuntedScent$Doubter.nodeOfTurn(I)I -/
def hf_24 (a1 : Int32) (h : hs_H) : Option (Int32 × hs_H) := some (((h.1 2 0 4) >>> (((nI 4) * a1) &&& 31)) &&& (nI 15), h)
set_option maxHeartbeats 1000000 in
theorem hc_24 {S : hs_S} {D : Nat} {Q : hs_Q} (hD : 1 ≤ D) {a1 : Int32} {h : hs_H} {r : Int32 × hs_H} (e : hf_24 a1 h = some r) (q : Q (some (hs_i r.1)) r.2) : hs_call hs_ms S D 24 [hs_r 2 0, hs_i a1] h Q := by
  refine hs_go (R := 0) hD rfl (Nat.le_of_ble_eq_true rfl) (fun d hd => ?_)
  show hs_W S d 1 hs_p24 Q 0 [hs_r 2 0, hs_i a1] [] h
  unfold hf_24 at e
  obtain rfl := Option.some.inj e
  exact hs_wr 9 (v := some (hs_i (((h.1 2 0 4) >>> (((nI 4) * a1) &&& 31)) &&& (nI 15)))) (h' := h) (fun n w => w) q
def hb_125_29     (h : hs_H) : Option (Int32 × hs_H) := some (nI 4294967295, h)
set_option maxHeartbeats 1000000 in
theorem hw_125_29 {S : hs_S} {d : Nat} {Q : hs_Q} (hd : 14 ≤ d)      {v1 : hs_V} {v2 : hs_V} {v3 : hs_V} {v4 : hs_V} {h : hs_H} {r : Int32 × hs_H} (e : hb_125_29 h = some r) (q : Q (some (hs_i r.1)) r.2) : hs_W S d 1 hs_p125 Q 29 [hs_r 11 0, v1, v2, v3, v4] [] h := by
  unfold hb_125_29 at e
  obtain rfl := Option.some.inj e
  exact hs_wr 2 (v := some (hs_i (nI 4294967295))) (h' := h) (fun n w => w) q
def hb_125_81    (s0 : Int32) (h : hs_H) : Option (Int32 × hs_H) := some (s0, h)
set_option maxHeartbeats 1000000 in
theorem hw_125_81 {S : hs_S} {d : Nat} {Q : hs_Q} (hd : 14 ≤ d)     {s0 : Int32} {v1 : hs_V} {v2 : hs_V} {v3 : hs_V} {v4 : hs_V} {h : hs_H} {r : Int32 × hs_H} (e : hb_125_81 s0 h = some r) (q : Q (some (hs_i r.1)) r.2) : hs_W S d 1 hs_p125 Q 81 [hs_r 11 0, v1, v2, v3, v4] [hs_i s0] h := by
  unfold hb_125_81 at e
  obtain rfl := Option.some.inj e
  exact hs_wr 1 (v := some (hs_i s0)) (h' := h) (fun n w => w) q
def hb_125_31   (x1 : Int32) (x2 : Int32) (x3 : Int32) (x4 : Int32)  (h : hs_H) : Option (Int32 × hs_H) := (hf_23 x1 x2 x3 h).bind (fun q4 => if ¬ x4 = 0 then (if (q4.1 2 0 1) ≤ 0 then (hb_125_81 (nI 4294967292) q4) else ((hf_24 (x4 - (nI 10)) q4).bind (fun q7 => hb_125_81 q7.1 q7.2))) else (some (q4.1 2 0 1, q4)))
set_option maxHeartbeats 1000000 in
theorem hw_125_31 {S : hs_S} {d : Nat} {Q : hs_Q} (hd : 14 ≤ d)    {x1 : Int32} {x2 : Int32} {x3 : Int32} {x4 : Int32}   {h : hs_H} {r : Int32 × hs_H} (e : hb_125_31 x1 x2 x3 x4 h = some r) (q : Q (some (hs_i r.1)) r.2) : hs_W S d 1 hs_p125 Q 31 [hs_r 11 0, hs_i x1, hs_i x2, hs_i x3, hs_i x4] [] h := by
  unfold hb_125_31 at e
  obtain ⟨q4, eq4, e⟩ := hs_bind_some e
  try dsimp only at e
  refine hs_wc 6 (y := 23) (a := [hs_r 2 0, hs_i x1, hs_i x2, hs_i x3]) (v := none) (pc' := 41) (ls' := [hs_r 11 0, hs_i x1, hs_i x2, hs_i x3, hs_i x4]) (st' := []) (h' := h) (h2 := q4) (fun n w => w) (fun q => hc_23 (by omega) eq4 q) ?_
  refine hs_wb 2 (c := ¬ x4 = 0) (t := 54) (f := 46) (ls' := [hs_r 11 0, hs_i x1, hs_i x2, hs_i x3, hs_i x4]) (st' := []) (h' := q4) (fun n w => w) (fun b5 => ?_) (fun b5 => ?_)
  · rw [if_pos b5] at e
    refine hs_wb 4 (c := (q4.1 2 0 1) ≤ 0) (t := 79) (f := 64) (ls' := [hs_r 11 0, hs_i x1, hs_i x2, hs_i x3, hs_i x4]) (st' := []) (h' := q4) (fun n w => w) (fun b6 => ?_) (fun b6 => ?_)
    · rw [if_pos b6] at e
      refine hs_w 1 (pc' := 81) (ls' := [hs_r 11 0, hs_i x1, hs_i x2, hs_i x3, hs_i x4]) (st' := [hs_i (nI 4294967292)]) (h' := q4) (fun n w => w) ?_
      exact hw_125_81 hd e q
    · rw [if_neg b6] at e
      obtain ⟨q7, eq7, e⟩ := hs_bind_some e
      try dsimp only at e
      refine hs_wc 6 (y := 24) (a := [hs_r 2 0, hs_i (x4 - (nI 10))]) (v := some (hs_i q7.1)) (pc' := 76) (ls' := [hs_r 11 0, hs_i x1, hs_i x2, hs_i x3, hs_i x4]) (st' := []) (h' := q4) (h2 := q7.2) (fun n w => w) (fun q => hc_24 (by omega) eq7 q) ?_
      refine hs_w 1 (pc' := 81) (ls' := [hs_r 11 0, hs_i x1, hs_i x2, hs_i x3, hs_i x4]) (st' := [hs_i q7.1]) (h' := q7.2) (fun n w => w) ?_
      exact hw_125_81 hd e q
  · rw [if_neg b5] at e
    obtain rfl := Option.some.inj e
    exact hs_wr 4 (v := some (hs_i (q4.1 2 0 1))) (h' := q4) (fun n w => w) q
/-- HuntedScent.doubt(IIII)I -/
def hf_125 (a1 : Int32) (a2 : Int32) (a3 : Int32) (a4 : Int32) (h : hs_H) : Option (Int32 × hs_H) := (hf_127 a1 a2 a3 h).bind (fun q1 => if q1.1 = 0 then (hb_125_29 q1.2) else (if a4 = 0 then (hb_125_31 a1 a2 a3 a4 q1.2) else ((hf_146 a2 (a4.toInt64 - (lN 10)) q1.2).bind (fun q8 => if ¬ q8.1 = 0 then (hb_125_31 a1 a2 a3 a4 q8.2) else (hb_125_29 q8.2)))))
set_option maxHeartbeats 1000000 in
theorem hc_125 {S : hs_S} {D : Nat} {Q : hs_Q} (hD : 15 ≤ D) {a1 : Int32} {a2 : Int32} {a3 : Int32} {a4 : Int32} {h : hs_H} {r : Int32 × hs_H} (e : hf_125 a1 a2 a3 a4 h = some r) (q : Q (some (hs_i r.1)) r.2) : hs_call hs_ms S D 125 [hs_r 11 0, hs_i a1, hs_i a2, hs_i a3, hs_i a4] h Q := by
  refine hs_go (R := 14) hD rfl (Nat.le_of_ble_eq_true rfl) (fun d hd => ?_)
  show hs_W S d 1 hs_p125 Q 0 [hs_r 11 0, hs_i a1, hs_i a2, hs_i a3, hs_i a4] [] h
  unfold hf_125 at e
  obtain ⟨q1, eq1, e⟩ := hs_bind_some e
  try dsimp only at e
  refine hs_wc 5 (y := 127) (a := [hs_r 11 0, hs_i a1, hs_i a2, hs_i a3]) (v := some (hs_i q1.1)) (pc' := 7) (ls' := [hs_r 11 0, hs_i a1, hs_i a2, hs_i a3, hs_i a4]) (st' := []) (h' := h) (h2 := q1.2) (fun n w => w) (fun q => hc_127 (by omega) eq1 q) ?_
  refine hs_wb 1 (c := q1.1 = 0) (t := 29) (f := 10) (ls' := [hs_r 11 0, hs_i a1, hs_i a2, hs_i a3, hs_i a4]) (st' := []) (h' := q1.2) (fun n w => w) (fun b2 => ?_) (fun b2 => ?_)
  · rw [if_pos b2] at e
    exact hw_125_29 hd e q
  · rw [if_neg b2] at e
    refine hs_wb 2 (c := a4 = 0) (t := 31) (f := 15) (ls' := [hs_r 11 0, hs_i a1, hs_i a2, hs_i a3, hs_i a4]) (st' := []) (h' := q1.2) (fun n w => w) (fun b3 => ?_) (fun b3 => ?_)
    · rw [if_pos b3] at e
      exact hw_125_31 hd e q
    · rw [if_neg b3] at e
      obtain ⟨q8, eq8, e⟩ := hs_bind_some e
      try dsimp only at e
      refine hs_wc 6 (y := 146) (a := [hs_i a2, hs_l (a4.toInt64 - (lN 10))]) (v := some (hs_i q8.1)) (pc' := 26) (ls' := [hs_r 11 0, hs_i a1, hs_i a2, hs_i a3, hs_i a4]) (st' := []) (h' := q1.2) (h2 := q8.2) (fun n w => w) (fun q => hc_146 (by omega) eq8 q) ?_
      refine hs_wb 1 (c := ¬ q8.1 = 0) (t := 31) (f := 29) (ls' := [hs_r 11 0, hs_i a1, hs_i a2, hs_i a3, hs_i a4]) (st' := []) (h' := q8.2) (fun n w => w) (fun b9 => ?_) (fun b9 => ?_)
      · rw [if_pos b9] at e
        exact hw_125_31 hd e q
      · rw [if_neg b9] at e
        exact hw_125_29 hd e q
def hb_126_21     (h : hs_H) : Option (Int32 × hs_H) := some (nI 4294967295, h)
set_option maxHeartbeats 1000000 in
theorem hw_126_21 {S : hs_S} {d : Nat} {Q : hs_Q} (hd : 14 ≤ d)      {v1 : hs_V} {v2 : hs_V} {v3 : hs_V} {v4 : hs_V} {v5 : hs_V} {v6 : hs_V} {v7 : hs_V} {h : hs_H} {r : Int32 × hs_H} (e : hb_126_21 h = some r) (q : Q (some (hs_i r.1)) r.2) : hs_W S d 1 hs_p126 Q 21 [hs_r 11 0, v1, v2, v3, v4, v5, v6, v7] [] h := by
  unfold hb_126_21 at e
  obtain rfl := Option.some.inj e
  exact hs_wr 2 (v := some (hs_i (nI 4294967295))) (h' := h) (fun n w => w) q
def hb_126_120    (s0 : Int32) (h : hs_H) : Option (Int32 × hs_H) := some (s0, h)
set_option maxHeartbeats 1000000 in
theorem hw_126_120 {S : hs_S} {d : Nat} {Q : hs_Q} (hd : 14 ≤ d)     {s0 : Int32} {v1 : hs_V} {v2 : hs_V} {v3 : hs_V} {v4 : hs_V} {v5 : hs_V} {v6 : hs_V} {v7 : hs_V} {h : hs_H} {r : Int32 × hs_H} (e : hb_126_120 s0 h = some r) (q : Q (some (hs_i r.1)) r.2) : hs_W S d 1 hs_p126 Q 120 [hs_r 11 0, v1, v2, v3, v4, v5, v6, v7] [hs_i s0] h := by
  unfold hb_126_120 at e
  obtain rfl := Option.some.inj e
  exact hs_wr 1 (v := some (hs_i s0)) (h' := h) (fun n w => w) q
def hb_126_102  (k34 : Int32 × Int32 × Int32 × Int32 × Int32 × Int32 × Int32 × hs_H → Option (Int32 × hs_H)) (x1 : Int32) (x2 : Int32) (x3 : Int32) (x4 : Int32) (x5 : Int32) (x6 : Int32) (x7 : Int32)  (h : hs_H) : Option (Int32 × hs_H) := k34 (x1, x2, x3, x4, x5, x6, x7 + nI 1, h)
set_option maxHeartbeats 1000000 in
theorem hw_126_102 {S : hs_S} {d : Nat} {Q : hs_Q} (hd : 14 ≤ d)  {k34 : Int32 × Int32 × Int32 × Int32 × Int32 × Int32 × Int32 × hs_H → Option (Int32 × hs_H)} (hk34 : ∀ (x1 : Int32) (x2 : Int32) (x3 : Int32) (x4 : Int32) (x5 : Int32) (x6 : Int32) (x7 : Int32) (h : hs_H) (r : Int32 × hs_H) , k34 (x1, x2, x3, x4, x5, x6, x7, h) = some r → Q (some (hs_i r.1)) r.2 → hs_W S d 1 hs_p126 Q 34 [hs_r 11 0, hs_i x1, hs_i x2, hs_i x3, hs_i x4, hs_i x5, hs_i x6, hs_i x7] [] h) {x1 : Int32} {x2 : Int32} {x3 : Int32} {x4 : Int32} {x5 : Int32} {x6 : Int32} {x7 : Int32}   {h : hs_H} {r : Int32 × hs_H} (e : hb_126_102 k34 x1 x2 x3 x4 x5 x6 x7 h = some r) (q : Q (some (hs_i r.1)) r.2) : hs_W S d 1 hs_p126 Q 102 [hs_r 11 0, hs_i x1, hs_i x2, hs_i x3, hs_i x4, hs_i x5, hs_i x6, hs_i x7] [] h := by
  unfold hb_126_102 at e
  refine hs_w 2 (pc' := 34) (ls' := [hs_r 11 0, hs_i x1, hs_i x2, hs_i x3, hs_i x4, hs_i x5, hs_i x6, hs_i (x7 + nI 1)]) (st' := []) (h' := h) (fun n w => w) ?_
  exact hk34 _ _ _ _ _ _ _ _ _  e q
def hb_126_89  (k34 : Int32 × Int32 × Int32 × Int32 × Int32 × Int32 × Int32 × hs_H → Option (Int32 × hs_H)) (x1 : Int32) (x2 : Int32) (x3 : Int32) (x4 : Int32) (x7 : Int32)  (h : hs_H) : Option (Int32 × hs_H) := hb_126_102 k34 x1 x2 x3 x4 x7 (h.1 2 0 1) x7 h
set_option maxHeartbeats 1000000 in
theorem hw_126_89 {S : hs_S} {d : Nat} {Q : hs_Q} (hd : 14 ≤ d)  {k34 : Int32 × Int32 × Int32 × Int32 × Int32 × Int32 × Int32 × hs_H → Option (Int32 × hs_H)} (hk34 : ∀ (x1 : Int32) (x2 : Int32) (x3 : Int32) (x4 : Int32) (x5 : Int32) (x6 : Int32) (x7 : Int32) (h : hs_H) (r : Int32 × hs_H) , k34 (x1, x2, x3, x4, x5, x6, x7, h) = some r → Q (some (hs_i r.1)) r.2 → hs_W S d 1 hs_p126 Q 34 [hs_r 11 0, hs_i x1, hs_i x2, hs_i x3, hs_i x4, hs_i x5, hs_i x6, hs_i x7] [] h) {x1 : Int32} {x2 : Int32} {x3 : Int32} {x4 : Int32} {x7 : Int32}  {v5 : hs_V} {v6 : hs_V} {h : hs_H} {r : Int32 × hs_H} (e : hb_126_89 k34 x1 x2 x3 x4 x7 h = some r) (q : Q (some (hs_i r.1)) r.2) : hs_W S d 1 hs_p126 Q 89 [hs_r 11 0, hs_i x1, hs_i x2, hs_i x3, hs_i x4, v5, v6, hs_i x7] [] h := by
  unfold hb_126_89 at e
  refine hs_w 6 (pc' := 102) (ls' := [hs_r 11 0, hs_i x1, hs_i x2, hs_i x3, hs_i x4, hs_i x7, hs_i (h.1 2 0 1), hs_i x7]) (st' := []) (h' := h) (fun n w => w) ?_
  exact hw_126_102 hd hk34 e q
def hb_126_34  (k34 : Int32 × Int32 × Int32 × Int32 × Int32 × Int32 × Int32 × hs_H → Option (Int32 × hs_H)) (x1 : Int32) (x2 : Int32) (x3 : Int32) (x4 : Int32) (x5 : Int32) (x6 : Int32) (x7 : Int32)  (h : hs_H) : Option (Int32 × hs_H) := if (h.1 4 0 1) ≤ x7 then (if ¬ x4 = 0 then (hb_126_120 x6 h) else (hb_126_120 x5 h)) else ((hf_147 x3 x7 h).bind (fun q7 => if ¬ q7.1 = 0 then (hb_126_102 k34 x1 x2 x3 x4 x5 x6 x7 q7.2) else ((hf_23 x1 x2 (x3 ||| ((nI 1) <<< (x7 &&& 31))) q7.2).bind (fun q9 => if x5 = (nI 4294967292) then (hb_126_89 k34 x1 x2 x3 x4 x7 q9) else (if x6 ≤ (q9.1 2 0 1) then (hb_126_102 k34 x1 x2 x3 x4 x5 x6 x7 q9) else (hb_126_89 k34 x1 x2 x3 x4 x7 q9))))))
set_option maxHeartbeats 1000000 in
theorem hw_126_34 {S : hs_S} {d : Nat} {Q : hs_Q} (hd : 14 ≤ d)  {k34 : Int32 × Int32 × Int32 × Int32 × Int32 × Int32 × Int32 × hs_H → Option (Int32 × hs_H)} (hk34 : ∀ (x1 : Int32) (x2 : Int32) (x3 : Int32) (x4 : Int32) (x5 : Int32) (x6 : Int32) (x7 : Int32) (h : hs_H) (r : Int32 × hs_H) , k34 (x1, x2, x3, x4, x5, x6, x7, h) = some r → Q (some (hs_i r.1)) r.2 → hs_W S d 1 hs_p126 Q 34 [hs_r 11 0, hs_i x1, hs_i x2, hs_i x3, hs_i x4, hs_i x5, hs_i x6, hs_i x7] [] h) {x1 : Int32} {x2 : Int32} {x3 : Int32} {x4 : Int32} {x5 : Int32} {x6 : Int32} {x7 : Int32}   {h : hs_H} {r : Int32 × hs_H} (e : hb_126_34 k34 x1 x2 x3 x4 x5 x6 x7 h = some r) (q : Q (some (hs_i r.1)) r.2) : hs_W S d 1 hs_p126 Q 34 [hs_r 11 0, hs_i x1, hs_i x2, hs_i x3, hs_i x4, hs_i x5, hs_i x6, hs_i x7] [] h := by
  unfold hb_126_34 at e
  refine hs_wb 5 (c := (h.1 4 0 1) ≤ x7) (t := 108) (f := 46) (ls' := [hs_r 11 0, hs_i x1, hs_i x2, hs_i x3, hs_i x4, hs_i x5, hs_i x6, hs_i x7]) (st' := []) (h' := h) (fun n w => w) (fun b5 => ?_) (fun b5 => ?_)
  · rw [if_pos b5] at e
    refine hs_wb 2 (c := ¬ x4 = 0) (t := 118) (f := 113) (ls' := [hs_r 11 0, hs_i x1, hs_i x2, hs_i x3, hs_i x4, hs_i x5, hs_i x6, hs_i x7]) (st' := []) (h' := h) (fun n w => w) (fun b6 => ?_) (fun b6 => ?_)
    · rw [if_pos b6] at e
      refine hs_w 1 (pc' := 120) (ls' := [hs_r 11 0, hs_i x1, hs_i x2, hs_i x3, hs_i x4, hs_i x5, hs_i x6, hs_i x7]) (st' := [hs_i x6]) (h' := h) (fun n w => w) ?_
      exact hw_126_120 hd e q
    · rw [if_neg b6] at e
      refine hs_w 2 (pc' := 120) (ls' := [hs_r 11 0, hs_i x1, hs_i x2, hs_i x3, hs_i x4, hs_i x5, hs_i x6, hs_i x7]) (st' := [hs_i x5]) (h' := h) (fun n w => w) ?_
      exact hw_126_120 hd e q
  · rw [if_neg b5] at e
    obtain ⟨q7, eq7, e⟩ := hs_bind_some e
    try dsimp only at e
    refine hs_wc 3 (y := 147) (a := [hs_i x3, hs_i x7]) (v := some (hs_i q7.1)) (pc' := 52) (ls' := [hs_r 11 0, hs_i x1, hs_i x2, hs_i x3, hs_i x4, hs_i x5, hs_i x6, hs_i x7]) (st' := []) (h' := h) (h2 := q7.2) (fun n w => w) (fun q => hc_147 (by omega) eq7 q) ?_
    refine hs_wb 1 (c := ¬ q7.1 = 0) (t := 102) (f := 55) (ls' := [hs_r 11 0, hs_i x1, hs_i x2, hs_i x3, hs_i x4, hs_i x5, hs_i x6, hs_i x7]) (st' := []) (h' := q7.2) (fun n w => w) (fun b8 => ?_) (fun b8 => ?_)
    · rw [if_pos b8] at e
      exact hw_126_102 hd hk34 e q
    · rw [if_neg b8] at e
      obtain ⟨q9, eq9, e⟩ := hs_bind_some e
      try dsimp only at e
      refine hs_wc 10 (y := 23) (a := [hs_r 2 0, hs_i x1, hs_i x2, hs_i (x3 ||| ((nI 1) <<< (x7 &&& 31)))]) (v := none) (pc' := 70) (ls' := [hs_r 11 0, hs_i x1, hs_i x2, hs_i x3, hs_i x4, hs_i x5, hs_i x6, hs_i x7]) (st' := []) (h' := q7.2) (h2 := q9) (fun n w => w) (fun q => hc_23 (by omega) eq9 q) ?_
      refine hs_wb 3 (c := x5 = (nI 4294967292)) (t := 89) (f := 77) (ls' := [hs_r 11 0, hs_i x1, hs_i x2, hs_i x3, hs_i x4, hs_i x5, hs_i x6, hs_i x7]) (st' := []) (h' := q9) (fun n w => w) (fun b10 => ?_) (fun b10 => ?_)
      · rw [if_pos b10] at e
        exact hw_126_89 hd hk34 e q
      · rw [if_neg b10] at e
        refine hs_wb 5 (c := x6 ≤ (q9.1 2 0 1)) (t := 102) (f := 89) (ls' := [hs_r 11 0, hs_i x1, hs_i x2, hs_i x3, hs_i x4, hs_i x5, hs_i x6, hs_i x7]) (st' := []) (h' := q9) (fun n w => w) (fun b11 => ?_) (fun b11 => ?_)
        · rw [if_pos b11] at e
          exact hw_126_102 hd hk34 e q
        · rw [if_neg b11] at e
          exact hw_126_89 hd hk34 e q
theorem hw_126_34_lp {S : hs_S} {d : Nat} {Q : hs_Q} (hd : 14 ≤ d)    (n : Nat) {x1 : Int32} {x2 : Int32} {x3 : Int32} {x4 : Int32} {x5 : Int32} {x6 : Int32} {x7 : Int32} {h : hs_H} {r : Int32 × hs_H} (e : hs_lp (fun k s => hb_126_34 k s.1 s.2.1 s.2.2.1 s.2.2.2.1 s.2.2.2.2.1 s.2.2.2.2.2.1 s.2.2.2.2.2.2.1 s.2.2.2.2.2.2.2) n (x1, x2, x3, x4, x5, x6, x7, h) = some r)  (q : Q (some (hs_i r.1)) r.2) : hs_W S d 1 hs_p126 Q 34 [hs_r 11 0, hs_i x1, hs_i x2, hs_i x3, hs_i x4, hs_i x5, hs_i x6, hs_i x7] [] h := by
  refine hs_lp_ind (P := fun (s : Int32 × Int32 × Int32 × Int32 × Int32 × Int32 × Int32 × hs_H) (r : Int32 × hs_H) => ∀ (_ : True), Q (some (hs_i r.1)) r.2 → hs_W S d 1 hs_p126 Q 34 [hs_r 11 0, hs_i s.1, hs_i s.2.1, hs_i s.2.2.1, hs_i s.2.2.2.1, hs_i s.2.2.2.2.1, hs_i s.2.2.2.2.2.1, hs_i s.2.2.2.2.2.2.1] [] s.2.2.2.2.2.2.2) (fun k hk s r e _ q => ?_) n (x1, x2, x3, x4, x5, x6, x7, h) r e trivial q
  exact hw_126_34 hd (fun x1 x2 x3 x4 x5 x6 x7 h r  e q => hk (x1, x2, x3, x4, x5, x6, x7, h) r e trivial q) e q
/-- HuntedScent.post(IIII)I -/
def hf_126 (a1 : Int32) (a2 : Int32) (a3 : Int32) (a4 : Int32) (h : hs_H) : Option (Int32 × hs_H) := (hf_127 a1 a2 a3 h).bind (fun q1 => if q1.1 = 0 then (hb_126_21 q1.2) else (if a4 < 0 then (hb_126_21 q1.2) else (if a4 ≤ (nI 1) then (hs_lp (fun k s => hb_126_34 k s.1 s.2.1 s.2.2.1 s.2.2.2.1 s.2.2.2.2.1 s.2.2.2.2.2.1 s.2.2.2.2.2.2.1 s.2.2.2.2.2.2.2) hs_big (a1, a2, a3, a4, nI 4294967292, nI 4294967292, nI 0, q1.2)) else (hb_126_21 q1.2))))
set_option maxHeartbeats 1000000 in
theorem hc_126 {S : hs_S} {D : Nat} {Q : hs_Q} (hD : 15 ≤ D) {a1 : Int32} {a2 : Int32} {a3 : Int32} {a4 : Int32} {h : hs_H} {r : Int32 × hs_H} (e : hf_126 a1 a2 a3 a4 h = some r) (q : Q (some (hs_i r.1)) r.2) : hs_call hs_ms S D 126 [hs_r 11 0, hs_i a1, hs_i a2, hs_i a3, hs_i a4] h Q := by
  refine hs_go (R := 14) hD rfl (Nat.le_of_ble_eq_true rfl) (fun d hd => ?_)
  show hs_W S d 1 hs_p126 Q 0 [hs_r 11 0, hs_i a1, hs_i a2, hs_i a3, hs_i a4, hs_u, hs_u, hs_u] [] h
  unfold hf_126 at e
  obtain ⟨q1, eq1, e⟩ := hs_bind_some e
  try dsimp only at e
  refine hs_wc 5 (y := 127) (a := [hs_r 11 0, hs_i a1, hs_i a2, hs_i a3]) (v := some (hs_i q1.1)) (pc' := 7) (ls' := [hs_r 11 0, hs_i a1, hs_i a2, hs_i a3, hs_i a4, hs_u, hs_u, hs_u]) (st' := []) (h' := h) (h2 := q1.2) (fun n w => w) (fun q => hc_127 (by omega) eq1 q) ?_
  refine hs_wb 1 (c := q1.1 = 0) (t := 21) (f := 10) (ls' := [hs_r 11 0, hs_i a1, hs_i a2, hs_i a3, hs_i a4, hs_u, hs_u, hs_u]) (st' := []) (h' := q1.2) (fun n w => w) (fun b2 => ?_) (fun b2 => ?_)
  · rw [if_pos b2] at e
    exact hw_126_21 hd e q
  · rw [if_neg b2] at e
    refine hs_wb 2 (c := a4 < 0) (t := 21) (f := 15) (ls' := [hs_r 11 0, hs_i a1, hs_i a2, hs_i a3, hs_i a4, hs_u, hs_u, hs_u]) (st' := []) (h' := q1.2) (fun n w => w) (fun b3 => ?_) (fun b3 => ?_)
    · rw [if_pos b3] at e
      exact hw_126_21 hd e q
    · rw [if_neg b3] at e
      refine hs_wb 3 (c := a4 ≤ (nI 1)) (t := 23) (f := 21) (ls' := [hs_r 11 0, hs_i a1, hs_i a2, hs_i a3, hs_i a4, hs_u, hs_u, hs_u]) (st' := []) (h' := q1.2) (fun n w => w) (fun b4 => ?_) (fun b4 => ?_)
      · rw [if_pos b4] at e
        refine hs_w 6 (pc' := 34) (ls' := [hs_r 11 0, hs_i a1, hs_i a2, hs_i a3, hs_i a4, hs_i (nI 4294967292), hs_i (nI 4294967292), hs_i (nI 0)]) (st' := []) (h' := q1.2) (fun n w => w) ?_
        exact hw_126_34_lp hd hs_big e  q
      · rw [if_neg b4] at e
        exact hw_126_21 hd e q
def hb_1_59  (k7 : Int32 × hs_H → Option (hs_H)) (x1 : Int32)  (h : hs_H) : Option (hs_H) := k7 (x1 + nI 1, h)
set_option maxHeartbeats 1000000 in
theorem hw_1_59 {S : hs_S} {d : Nat} {Q : hs_Q} (hd : 1 ≤ d)  {k7 : Int32 × hs_H → Option (hs_H)} (hk7 : ∀ (x1 : Int32) (h : hs_H) (r : hs_H) , k7 (x1, h) = some r → Q none r → hs_W S d 0 hs_p1 Q 7 [hs_r 0 0, hs_i x1] [] h) {x1 : Int32}   {h : hs_H} {r : hs_H} (e : hb_1_59 k7 x1 h = some r) (q : Q none r) : hs_W S d 0 hs_p1 Q 59 [hs_r 0 0, hs_i x1] [] h := by
  unfold hb_1_59 at e
  refine hs_w 2 (pc' := 7) (ls' := [hs_r 0 0, hs_i (x1 + nI 1)]) (st' := []) (h' := h) (fun n w => w) ?_
  exact hk7 _ _ _  e q
def hb_1_7  (k7 : Int32 × hs_H → Option (hs_H)) (x1 : Int32)  (h : hs_H) : Option (hs_H) := (hf_31 0 h).bind (fun q1 => if q1.1 < x1 then (some q1.2) else ((hf_240 x1 q1.2).bind (fun q3 => if ¬ q3.1 = (q3.2.1 0 0 6) then (hb_1_59 k7 x1 q3.2) else (if (nI 252) ≤ (q3.2.1 0 0 5) then (hb_1_59 k7 x1 q3.2) else (hs_ck (hs_inb (q3.2.1 0 0 5) 252) (hb_1_59 k7 x1 (hs_put (hs_put q3.2 23 0 (q3.2.1 0 0 5).toNatClampNeg x1) 0 0 5 (((hs_put q3.2 23 0 (q3.2.1 0 0 5).toNatClampNeg x1).1 0 0 5) + (nI 1)))))))))
set_option maxHeartbeats 1000000 in
theorem hw_1_7 {S : hs_S} {d : Nat} {Q : hs_Q} (hd : 1 ≤ d)  {k7 : Int32 × hs_H → Option (hs_H)} (hk7 : ∀ (x1 : Int32) (h : hs_H) (r : hs_H) , k7 (x1, h) = some r → Q none r → hs_W S d 0 hs_p1 Q 7 [hs_r 0 0, hs_i x1] [] h) {x1 : Int32}   {h : hs_H} {r : hs_H} (e : hb_1_7 k7 x1 h = some r) (q : Q none r) : hs_W S d 0 hs_p1 Q 7 [hs_r 0 0, hs_i x1] [] h := by
  unfold hb_1_7 at e
  obtain ⟨q1, eq1, e⟩ := hs_bind_some e
  try dsimp only at e
  refine hs_wc 4 (y := 31) (a := [hs_r 4 0]) (v := some (hs_i q1.1)) (pc' := 15) (ls' := [hs_r 0 0, hs_i x1]) (st' := [hs_i x1]) (h' := h) (h2 := q1.2) (fun n w => w) (fun q => hc_31 (by omega) eq1 q) ?_
  refine hs_wb 1 (c := q1.1 < x1) (t := 65) (f := 18) (ls' := [hs_r 0 0, hs_i x1]) (st' := []) (h' := q1.2) (fun n w => w) (fun b2 => ?_) (fun b2 => ?_)
  · rw [if_pos b2] at e
    obtain rfl := Option.some.inj e
    exact hs_wr 1 (v := none) (h' := q1.2) (fun n w => w) q
  · rw [if_neg b2] at e
    obtain ⟨q3, eq3, e⟩ := hs_bind_some e
    try dsimp only at e
    refine hs_wc 2 (y := 240) (a := [hs_i x1]) (v := some (hs_i q3.1)) (pc' := 22) (ls' := [hs_r 0 0, hs_i x1]) (st' := []) (h' := q1.2) (h2 := q3.2) (fun n w => w) (fun q => hc_240 (by omega) eq3 q) ?_
    refine hs_wb 3 (c := ¬ q3.1 = (q3.2.1 0 0 6)) (t := 59) (f := 29) (ls' := [hs_r 0 0, hs_i x1]) (st' := []) (h' := q3.2) (fun n w => w) (fun b4 => ?_) (fun b4 => ?_)
    · rw [if_pos b4] at e
      exact hw_1_59 hd hk7 e q
    · rw [if_neg b4] at e
      refine hs_wb 4 (c := (nI 252) ≤ (q3.2.1 0 0 5)) (t := 59) (f := 39) (ls' := [hs_r 0 0, hs_i x1]) (st' := []) (h' := q3.2) (fun n w => w) (fun b5 => ?_) (fun b5 => ?_)
      · rw [if_pos b5] at e
        exact hw_1_59 hd hk7 e q
      · rw [if_neg b5] at e
        obtain ⟨c6, e⟩ := hs_ck_some e
        refine hs_wa 6 (c := vp_in (q3.2.1 0 0 5) 252) (pc' := 49) (ls' := [hs_r 0 0, hs_i x1]) (st' := []) (h' := hs_put q3.2 23 0 (q3.2.1 0 0 5).toNatClampNeg x1) (fun n w => w) (hs_inb_iff.mp c6) ?_
        refine hs_w 6 (pc' := 59) (ls' := [hs_r 0 0, hs_i x1]) (st' := []) (h' := hs_put (hs_put q3.2 23 0 (q3.2.1 0 0 5).toNatClampNeg x1) 0 0 5 (((hs_put q3.2 23 0 (q3.2.1 0 0 5).toNatClampNeg x1).1 0 0 5) + (nI 1))) (fun n w => w) ?_
        exact hw_1_59 hd hk7 e q
theorem hw_1_7_lp {S : hs_S} {d : Nat} {Q : hs_Q} (hd : 1 ≤ d)    (n : Nat) {x1 : Int32} {h : hs_H} {r : hs_H} (e : hs_lp (fun k s => hb_1_7 k s.1 s.2) n (x1, h) = some r)  (q : Q none r) : hs_W S d 0 hs_p1 Q 7 [hs_r 0 0, hs_i x1] [] h := by
  refine hs_lp_ind (P := fun (s : Int32 × hs_H) (r : hs_H) => ∀ (_ : True), Q none r → hs_W S d 0 hs_p1 Q 7 [hs_r 0 0, hs_i s.1] [] s.2) (fun k hk s r e _ q => ?_) n (x1, h) r e trivial q
  exact hw_1_7 hd (fun x1 h r  e q => hk (x1, h) r e trivial q) e q
/-- HuntedScent$Caster.tellCasts()V -/
def hf_1  (h : hs_H) : Option (hs_H) := hs_lp (fun k s => hb_1_7 k s.1 s.2) hs_big (nI 1, hs_put h 0 0 5 (nI 0))
set_option maxHeartbeats 1000000 in
theorem hc_1 {S : hs_S} {D : Nat} {Q : hs_Q} (hD : 2 ≤ D)  {h : hs_H} {r : hs_H} (e : hf_1 h = some r) (q : Q none r) : hs_call hs_ms S D 1 [hs_r 0 0] h Q := by
  refine hs_go (R := 1) hD rfl (Nat.le_of_ble_eq_true rfl) (fun d hd => ?_)
  show hs_W S d 0 hs_p1 Q 0 [hs_r 0 0, hs_u] [] h
  unfold hf_1 at e
  refine hs_w 5 (pc' := 7) (ls' := [hs_r 0 0, hs_i (nI 1)]) (st' := []) (h' := hs_put h 0 0 5 (nI 0)) (fun n w => w) ?_
  exact hw_1_7_lp hd hs_big e  q
def hb_40_25 (o : Nat)   (s0 : Int32) (h : hs_H) : Option (Int32 × hs_H) := some (s0, h)
set_option maxHeartbeats 1000000 in
theorem hw_40_25 {S : hs_S} {d : Nat} {Q : hs_Q} (hd : 2 ≤ d) {o : Nat}    {s0 : Int32} {v1 : hs_V} {v2 : hs_V} {h : hs_H} {r : Int32 × hs_H} (e : hb_40_25 o s0 h = some r) (q : Q (some (hs_i r.1)) r.2) : hs_W S d 1 hs_p40 Q 25 [hs_r 4 o, v1, v2] [hs_i s0] h := by
  unfold hb_40_25 at e
  obtain rfl := Option.some.inj e
  exact hs_wr 1 (v := some (hs_i s0)) (h' := h) (fun n w => w) q
def hb_40_18 (o : Nat)  (x2 : Int32)  (h : hs_H) : Option (Int32 × hs_H) := hb_40_25 o x2 h
set_option maxHeartbeats 1000000 in
theorem hw_40_18 {S : hs_S} {d : Nat} {Q : hs_Q} (hd : 2 ≤ d) {o : Nat}   {x2 : Int32}  {v1 : hs_V} {h : hs_H} {r : Int32 × hs_H} (e : hb_40_18 o x2 h = some r) (q : Q (some (hs_i r.1)) r.2) : hs_W S d 1 hs_p40 Q 18 [hs_r 4 o, v1, hs_i x2] [] h := by
  unfold hb_40_18 at e
  refine hs_w 2 (pc' := 25) (ls' := [hs_r 4 o, v1, hs_i x2]) (st' := [hs_i x2]) (h' := h) (fun n w => w) ?_
  exact hw_40_25 hd e q
/-- HuntedScent$Net.stepsOf(I)I -/
def hf_40 (o : Nat) (a1 : Int32) (h : hs_H) : Option (Int32 × hs_H) := (hf_38 o a1 h).bind (fun q1 => if ¬ q1.1 = 0 then (hb_40_18 o q1.1 q1.2) else ((hf_29 o a1 q1.2).bind (fun q3 => if ¬ q3.1 = 0 then (hb_40_25 o ((nI 1) <<< (a1 &&& 31)) q3.2) else (hb_40_18 o q1.1 q3.2))))
set_option maxHeartbeats 1000000 in
theorem hc_40 {S : hs_S} {D : Nat} {Q : hs_Q} (hD : 3 ≤ D) {o : Nat} {a1 : Int32} {h : hs_H} {r : Int32 × hs_H} (e : hf_40 o a1 h = some r) (q : Q (some (hs_i r.1)) r.2) : hs_call hs_ms S D 40 [hs_r 4 o, hs_i a1] h Q := by
  refine hs_go (R := 2) hD rfl (Nat.le_of_ble_eq_true rfl) (fun d hd => ?_)
  show hs_W S d 1 hs_p40 Q 0 [hs_r 4 o, hs_i a1, hs_u] [] h
  unfold hf_40 at e
  obtain ⟨q1, eq1, e⟩ := hs_bind_some e
  try dsimp only at e
  refine hs_wc 3 (y := 38) (a := [hs_r 4 o, hs_i a1]) (v := some (hs_i q1.1)) (pc' := 5) (ls' := [hs_r 4 o, hs_i a1, hs_u]) (st' := []) (h' := h) (h2 := q1.2) (fun n w => w) (fun q => hc_38 (by omega) eq1 q) ?_
  refine hs_wb 3 (c := ¬ q1.1 = 0) (t := 18) (f := 10) (ls' := [hs_r 4 o, hs_i a1, hs_i q1.1]) (st' := []) (h' := q1.2) (fun n w => w) (fun b2 => ?_) (fun b2 => ?_)
  · rw [if_pos b2] at e
    exact hw_40_18 hd e q
  · rw [if_neg b2] at e
    obtain ⟨q3, eq3, e⟩ := hs_bind_some e
    try dsimp only at e
    refine hs_wc 3 (y := 29) (a := [hs_r 4 o, hs_i a1]) (v := some (hs_i q3.1)) (pc' := 15) (ls' := [hs_r 4 o, hs_i a1, hs_i q1.1]) (st' := []) (h' := q1.2) (h2 := q3.2) (fun n w => w) (fun q => hc_29 (by omega) eq3 q) ?_
    refine hs_wb 1 (c := ¬ q3.1 = 0) (t := 22) (f := 18) (ls' := [hs_r 4 o, hs_i a1, hs_i q1.1]) (st' := []) (h' := q3.2) (fun n w => w) (fun b4 => ?_) (fun b4 => ?_)
    · rw [if_pos b4] at e
      refine hs_w 3 (pc' := 25) (ls' := [hs_r 4 o, hs_i a1, hs_i q1.1]) (st' := [hs_i ((nI 1) <<< (a1 &&& 31))]) (h' := q3.2) (fun n w => w) ?_
      exact hw_40_25 hd e q
    · rw [if_neg b4] at e
      exact hw_40_18 hd e q
def hb_2_70     (h : hs_H) : Option (hs_H) := some h
set_option maxHeartbeats 1000000 in
theorem hw_2_70 {S : hs_S} {d : Nat} {Q : hs_Q} (hd : 3 ≤ d)      {v1 : hs_V} {v2 : hs_V} {h : hs_H} {r : hs_H} (e : hb_2_70 h = some r) (q : Q none r) : hs_W S d 0 hs_p2 Q 70 [hs_r 0 0, v1, v2] [] h := by
  unfold hb_2_70 at e
  obtain rfl := Option.some.inj e
  exact hs_wr 1 (v := none) (h' := h) (fun n w => w) q
def hb_2_9  (k9 : Int32 × hs_H → Option (hs_H)) (x1 : Int32)  (h : hs_H) : Option (hs_H) := (hf_31 0 h).bind (fun q2 => if q2.1 < x1 then (hb_2_70 q2.2) else (if (nI 1024) ≤ x1 then (hb_2_70 q2.2) else (hs_ck (hs_inb (x1 &&& (x1 - (nI 1))) 1024) ((hf_148 x1 q2.2).bind (fun q6 => (hf_40 0 q6.1 q6.2).bind (fun q7 => hs_ck (hs_inb x1 1024) (hs_ck (hs_inb x1 1024) (k9 (x1 + nI 1, hs_put (hs_put q7.2 20 0 x1.toNatClampNeg ((q2.2.1 20 0 (x1 &&& (x1 - (nI 1))).toNatClampNeg) ||| q7.1)) 21 0 x1.toNatClampNeg (nI 4294967295))))))))))
set_option maxHeartbeats 1000000 in
theorem hw_2_9 {S : hs_S} {d : Nat} {Q : hs_Q} (hd : 3 ≤ d)  {k9 : Int32 × hs_H → Option (hs_H)} (hk9 : ∀ (x1 : Int32) (h : hs_H) (r : hs_H) (v2 : hs_V), k9 (x1, h) = some r → Q none r → hs_W S d 0 hs_p2 Q 9 [hs_r 0 0, hs_i x1, v2] [] h) {x1 : Int32}  {v2 : hs_V} {h : hs_H} {r : hs_H} (e : hb_2_9 k9 x1 h = some r) (q : Q none r) : hs_W S d 0 hs_p2 Q 9 [hs_r 0 0, hs_i x1, v2] [] h := by
  unfold hb_2_9 at e
  obtain ⟨q2, eq2, e⟩ := hs_bind_some e
  try dsimp only at e
  refine hs_wc 4 (y := 31) (a := [hs_r 4 0]) (v := some (hs_i q2.1)) (pc' := 17) (ls' := [hs_r 0 0, hs_i x1, v2]) (st' := [hs_i x1]) (h' := h) (h2 := q2.2) (fun n w => w) (fun q => hc_31 (by omega) eq2 q) ?_
  refine hs_wb 1 (c := q2.1 < x1) (t := 70) (f := 20) (ls' := [hs_r 0 0, hs_i x1, v2]) (st' := []) (h' := q2.2) (fun n w => w) (fun b3 => ?_) (fun b3 => ?_)
  · rw [if_pos b3] at e
    exact hw_2_70 hd e q
  · rw [if_neg b3] at e
    refine hs_wb 3 (c := (nI 1024) ≤ x1) (t := 70) (f := 27) (ls' := [hs_r 0 0, hs_i x1, v2]) (st' := []) (h' := q2.2) (fun n w => w) (fun b4 => ?_) (fun b4 => ?_)
    · rw [if_pos b4] at e
      exact hw_2_70 hd e q
    · rw [if_neg b4] at e
      obtain ⟨c5, e⟩ := hs_ck_some e
      refine hs_wa 13 (c := vp_in (x1 &&& (x1 - (nI 1))) 1024) (pc' := 44) (ls' := [hs_r 0 0, hs_i x1, hs_i (x1 &&& (x1 - (nI 1)))]) (st' := [hs_i (q2.2.1 20 0 (x1 &&& (x1 - (nI 1))).toNatClampNeg), hs_i x1, hs_r 20 0]) (h' := q2.2) (fun n w => w) (hs_inb_iff.mp c5) ?_
      obtain ⟨q6, eq6, e⟩ := hs_bind_some e
      try dsimp only at e
      refine hs_wc 4 (y := 148) (a := [hs_i x1]) (v := some (hs_i q6.1)) (pc' := 52) (ls' := [hs_r 0 0, hs_i x1, hs_i (x1 &&& (x1 - (nI 1)))]) (st' := [hs_r 4 0, hs_i (q2.2.1 20 0 (x1 &&& (x1 - (nI 1))).toNatClampNeg), hs_i x1, hs_r 20 0]) (h' := q2.2) (h2 := q6.2) (fun n w => w) (fun q => hc_148 (by omega) eq6 q) ?_
      obtain ⟨q7, eq7, e⟩ := hs_bind_some e
      try dsimp only at e
      refine hs_wc 1 (y := 40) (a := [hs_r 4 0, hs_i q6.1]) (v := some (hs_i q7.1)) (pc' := 55) (ls' := [hs_r 0 0, hs_i x1, hs_i (x1 &&& (x1 - (nI 1)))]) (st' := [hs_i (q2.2.1 20 0 (x1 &&& (x1 - (nI 1))).toNatClampNeg), hs_i x1, hs_r 20 0]) (h' := q6.2) (h2 := q7.2) (fun n w => w) (fun q => hc_40 (by omega) eq7 q) ?_
      obtain ⟨c8, e⟩ := hs_ck_some e
      refine hs_wa 2 (c := vp_in x1 1024) (pc' := 57) (ls' := [hs_r 0 0, hs_i x1, hs_i (x1 &&& (x1 - (nI 1)))]) (st' := []) (h' := hs_put q7.2 20 0 x1.toNatClampNeg ((q2.2.1 20 0 (x1 &&& (x1 - (nI 1))).toNatClampNeg) ||| q7.1)) (fun n w => w) (hs_inb_iff.mp c8) ?_
      obtain ⟨c9, e⟩ := hs_ck_some e
      refine hs_wa 5 (c := vp_in x1 1024) (pc' := 64) (ls' := [hs_r 0 0, hs_i x1, hs_i (x1 &&& (x1 - (nI 1)))]) (st' := []) (h' := hs_put (hs_put q7.2 20 0 x1.toNatClampNeg ((q2.2.1 20 0 (x1 &&& (x1 - (nI 1))).toNatClampNeg) ||| q7.1)) 21 0 x1.toNatClampNeg (nI 4294967295)) (fun n w => w) (hs_inb_iff.mp c9) ?_
      refine hs_w 2 (pc' := 9) (ls' := [hs_r 0 0, hs_i (x1 + nI 1), hs_i (x1 &&& (x1 - (nI 1)))]) (st' := []) (h' := hs_put (hs_put q7.2 20 0 x1.toNatClampNeg ((q2.2.1 20 0 (x1 &&& (x1 - (nI 1))).toNatClampNeg) ||| q7.1)) 21 0 x1.toNatClampNeg (nI 4294967295)) (fun n w => w) ?_
      exact hk9 _ _ _ _ e q
theorem hw_2_9_lp {S : hs_S} {d : Nat} {Q : hs_Q} (hd : 3 ≤ d)    (n : Nat) {x1 : Int32} {h : hs_H} {r : hs_H} (e : hs_lp (fun k s => hb_2_9 k s.1 s.2) n (x1, h) = some r) (v2 : hs_V) (q : Q none r) : hs_W S d 0 hs_p2 Q 9 [hs_r 0 0, hs_i x1, v2] [] h := by
  refine hs_lp_ind (P := fun (s : Int32 × hs_H) (r : hs_H) => ∀ (v2 : hs_V), Q none r → hs_W S d 0 hs_p2 Q 9 [hs_r 0 0, hs_i s.1, v2] [] s.2) (fun k hk s r e v2 q => ?_) n (x1, h) r e v2 q
  exact hw_2_9 hd (fun x1 h r v2 e q => hk (x1, h) r e v2 q) e q
/-- HuntedScent$Caster.tellLater()V -/
def hf_2  (h : hs_H) : Option (hs_H) := hs_ck (hs_inb (nI 0) 1024) (hs_lp (fun k s => hb_2_9 k s.1 s.2) hs_big (nI 1, hs_put h 20 0 (nI 0).toNatClampNeg (nI 0)))
set_option maxHeartbeats 1000000 in
theorem hc_2 {S : hs_S} {D : Nat} {Q : hs_Q} (hD : 4 ≤ D)  {h : hs_H} {r : hs_H} (e : hf_2 h = some r) (q : Q none r) : hs_call hs_ms S D 2 [hs_r 0 0] h Q := by
  refine hs_go (R := 3) hD rfl (Nat.le_of_ble_eq_true rfl) (fun d hd => ?_)
  show hs_W S d 0 hs_p2 Q 0 [hs_r 0 0, hs_u, hs_u] [] h
  unfold hf_2 at e
  obtain ⟨c1, e⟩ := hs_ck_some e
  refine hs_wa 5 (c := vp_in (nI 0) 1024) (pc' := 7) (ls' := [hs_r 0 0, hs_u, hs_u]) (st' := []) (h' := hs_put h 20 0 (nI 0).toNatClampNeg (nI 0)) (fun n w => w) (hs_inb_iff.mp c1) ?_
  refine hs_w 2 (pc' := 9) (ls' := [hs_r 0 0, hs_i (nI 1), hs_u]) (st' := []) (h' := hs_put h 20 0 (nI 0).toNatClampNeg (nI 0)) (fun n w => w) ?_
  exact hw_2_9_lp hd hs_big e _ q
def hb_5_21    (s0 : Int32) (h : hs_H) : Option (Int32 × hs_H) := some (s0, h)
set_option maxHeartbeats 1000000 in
theorem hw_5_21 {S : hs_S} {d : Nat} {Q : hs_Q} (hd : 0 ≤ d)     {s0 : Int32} {v1 : hs_V} {h : hs_H} {r : Int32 × hs_H} (e : hb_5_21 s0 h = some r) (q : Q (some (hs_i r.1)) r.2) : hs_W S d 1 hs_p5 Q 21 [hs_r 0 0, v1] [hs_i s0] h := by
  unfold hb_5_21 at e
  obtain rfl := Option.some.inj e
  exact hs_wr 1 (v := some (hs_i s0)) (h' := h) (fun n w => w) q
def hb_5_20     (h : hs_H) : Option (Int32 × hs_H) := hb_5_21 (nI 0) h
set_option maxHeartbeats 1000000 in
theorem hw_5_20 {S : hs_S} {d : Nat} {Q : hs_Q} (hd : 0 ≤ d)      {v1 : hs_V} {h : hs_H} {r : Int32 × hs_H} (e : hb_5_20 h = some r) (q : Q (some (hs_i r.1)) r.2) : hs_W S d 1 hs_p5 Q 20 [hs_r 0 0, v1] [] h := by
  unfold hb_5_20 at e
  refine hs_w 1 (pc' := 21) (ls' := [hs_r 0 0, v1]) (st' := [hs_i (nI 0)]) (h' := h) (fun n w => w) ?_
  exact hw_5_21 hd e q
/-- HuntedScent$Caster.laterOf(I)I -/
def hf_5 (a1 : Int32) (h : hs_H) : Option (Int32 × hs_H) := if a1 < 0 then (hb_5_20 h) else (if (nI 1024) ≤ a1 then (hb_5_20 h) else (hs_ck (hs_inb a1 1024) (hb_5_21 (h.1 20 0 a1.toNatClampNeg) h)))
set_option maxHeartbeats 1000000 in
theorem hc_5 {S : hs_S} {D : Nat} {Q : hs_Q} (hD : 1 ≤ D) {a1 : Int32} {h : hs_H} {r : Int32 × hs_H} (e : hf_5 a1 h = some r) (q : Q (some (hs_i r.1)) r.2) : hs_call hs_ms S D 5 [hs_r 0 0, hs_i a1] h Q := by
  refine hs_go (R := 0) hD rfl (Nat.le_of_ble_eq_true rfl) (fun d hd => ?_)
  show hs_W S d 1 hs_p5 Q 0 [hs_r 0 0, hs_i a1] [] h
  unfold hf_5 at e
  refine hs_wb 2 (c := a1 < 0) (t := 20) (f := 4) (ls' := [hs_r 0 0, hs_i a1]) (st' := []) (h' := h) (fun n w => w) (fun b1 => ?_) (fun b1 => ?_)
  · rw [if_pos b1] at e
    exact hw_5_20 hd e q
  · rw [if_neg b1] at e
    refine hs_wb 3 (c := (nI 1024) ≤ a1) (t := 20) (f := 11) (ls' := [hs_r 0 0, hs_i a1]) (st' := []) (h' := h) (fun n w => w) (fun b2 => ?_) (fun b2 => ?_)
    · rw [if_pos b2] at e
      exact hw_5_20 hd e q
    · rw [if_neg b2] at e
      obtain ⟨c3, e⟩ := hs_ck_some e
      refine hs_wa 4 (c := vp_in a1 1024) (pc' := 17) (ls' := [hs_r 0 0, hs_i a1]) (st' := [hs_i (h.1 20 0 a1.toNatClampNeg)]) (h' := h) (fun n w => w) (hs_inb_iff.mp c3) ?_
      refine hs_w 1 (pc' := 21) (ls' := [hs_r 0 0, hs_i a1]) (st' := [hs_i (h.1 20 0 a1.toNatClampNeg)]) (h' := h) (fun n w => w) ?_
      exact hw_5_21 hd e q
def hb_4_107   (x3 : Int32)  (h : hs_H) : Option (Int32 × hs_H) := some (x3, h)
set_option maxHeartbeats 1000000 in
theorem hw_4_107 {S : hs_S} {d : Nat} {Q : hs_Q} (hd : 1 ≤ d)    {x3 : Int32}  {v1 : hs_V} {v2 : hs_V} {v4 : hs_V} {v5 : hs_V} {h : hs_H} {r : Int32 × hs_H} (e : hb_4_107 x3 h = some r) (q : Q (some (hs_i r.1)) r.2) : hs_W S d 1 hs_p4 Q 107 [hs_r 0 0, v1, v2, hs_i x3, v4, v5] [] h := by
  unfold hb_4_107 at e
  obtain rfl := Option.some.inj e
  exact hs_wr 2 (v := some (hs_i x3)) (h' := h) (fun n w => w) q
def hb_4_101  (k5 : Int32 × Int32 × Int32 × hs_H → Option (Int32 × hs_H)) (x1 : Int32) (x3 : Int32) (x4 : Int32)  (h : hs_H) : Option (Int32 × hs_H) := k5 (x1, x3, x4 + nI 1, h)
set_option maxHeartbeats 1000000 in
theorem hw_4_101 {S : hs_S} {d : Nat} {Q : hs_Q} (hd : 1 ≤ d)  {k5 : Int32 × Int32 × Int32 × hs_H → Option (Int32 × hs_H)} (hk5 : ∀ (x1 : Int32) (x3 : Int32) (x4 : Int32) (h : hs_H) (r : Int32 × hs_H) (v2 : hs_V) (v5 : hs_V), k5 (x1, x3, x4, h) = some r → Q (some (hs_i r.1)) r.2 → hs_W S d 1 hs_p4 Q 5 [hs_r 0 0, hs_i x1, v2, hs_i x3, hs_i x4, v5] [] h) {x1 : Int32} {x3 : Int32} {x4 : Int32}  {v2 : hs_V} {v5 : hs_V} {h : hs_H} {r : Int32 × hs_H} (e : hb_4_101 k5 x1 x3 x4 h = some r) (q : Q (some (hs_i r.1)) r.2) : hs_W S d 1 hs_p4 Q 101 [hs_r 0 0, hs_i x1, v2, hs_i x3, hs_i x4, v5] [] h := by
  unfold hb_4_101 at e
  refine hs_w 2 (pc' := 5) (ls' := [hs_r 0 0, hs_i x1, v2, hs_i x3, hs_i (x4 + nI 1), v5]) (st' := []) (h' := h) (fun n w => w) ?_
  exact hk5 _ _ _ _ _ _ _ e q
def hb_4_5  (k5 : Int32 × Int32 × Int32 × hs_H → Option (Int32 × hs_H)) (x1 : Int32) (x3 : Int32) (x4 : Int32)  (h : hs_H) : Option (Int32 × hs_H) := if (h.1 0 0 5) ≤ x4 then (hb_4_107 x3 h) else (if (nI 252) ≤ x4 then (hb_4_107 x3 h) else (hs_ck (hs_inb x4 252) ((hf_5 (x1 &&& ((h.1 23 0 x4.toNatClampNeg) ^^^ (nI 4294967295))) h).bind (fun q4 => if q4.1 ≤ 0 then (hb_4_101 k5 x1 x3 x4 q4.2) else (if (nI 1024) ≤ q4.1 then (hb_4_101 k5 x1 x3 x4 q4.2) else (hs_ck (hs_inb q4.1 1024) (if ¬ (q4.2.1 21 0 q4.1.toNatClampNeg) = (nI 4294967295) then (hb_4_101 k5 x1 x3 x4 q4.2) else (if (nI 1024) ≤ x3 then (hb_4_101 k5 x1 x3 x4 q4.2) else (hs_ck (hs_inb x4 252) (hs_ck (hs_inb q4.1 1024) (hs_ck (hs_inb x3 1024) (hb_4_101 k5 x1 (x3 + nI 1) x4 (hs_put (hs_put q4.2 21 0 q4.1.toNatClampNeg (((q4.2.1 23 0 x4.toNatClampNeg) * (nI 1024)) + x1)) 22 0 x3.toNatClampNeg q4.1)))))))))))))
set_option maxHeartbeats 1000000 in
theorem hw_4_5 {S : hs_S} {d : Nat} {Q : hs_Q} (hd : 1 ≤ d)  {k5 : Int32 × Int32 × Int32 × hs_H → Option (Int32 × hs_H)} (hk5 : ∀ (x1 : Int32) (x3 : Int32) (x4 : Int32) (h : hs_H) (r : Int32 × hs_H) (v2 : hs_V) (v5 : hs_V), k5 (x1, x3, x4, h) = some r → Q (some (hs_i r.1)) r.2 → hs_W S d 1 hs_p4 Q 5 [hs_r 0 0, hs_i x1, v2, hs_i x3, hs_i x4, v5] [] h) {x1 : Int32} {x3 : Int32} {x4 : Int32}  {v2 : hs_V} {v5 : hs_V} {h : hs_H} {r : Int32 × hs_H} (e : hb_4_5 k5 x1 x3 x4 h = some r) (q : Q (some (hs_i r.1)) r.2) : hs_W S d 1 hs_p4 Q 5 [hs_r 0 0, hs_i x1, v2, hs_i x3, hs_i x4, v5] [] h := by
  unfold hb_4_5 at e
  refine hs_wb 4 (c := (h.1 0 0 5) ≤ x4) (t := 107) (f := 14) (ls' := [hs_r 0 0, hs_i x1, v2, hs_i x3, hs_i x4, v5]) (st' := []) (h' := h) (fun n w => w) (fun b1 => ?_) (fun b1 => ?_)
  · rw [if_pos b1] at e
    exact hw_4_107 hd e q
  · rw [if_neg b1] at e
    refine hs_wb 3 (c := (nI 252) ≤ x4) (t := 107) (f := 22) (ls' := [hs_r 0 0, hs_i x1, v2, hs_i x3, hs_i x4, v5]) (st' := []) (h' := h) (fun n w => w) (fun b2 => ?_) (fun b2 => ?_)
    · rw [if_pos b2] at e
      exact hw_4_107 hd e q
    · rw [if_neg b2] at e
      obtain ⟨c3, e⟩ := hs_ck_some e
      refine hs_wa 6 (c := vp_in x4 252) (pc' := 31) (ls' := [hs_r 0 0, hs_i x1, v2, hs_i x3, hs_i x4, v5]) (st' := [hs_i (h.1 23 0 x4.toNatClampNeg), hs_i x1, hs_r 0 0]) (h' := h) (fun n w => w) (hs_inb_iff.mp c3) ?_
      obtain ⟨q4, eq4, e⟩ := hs_bind_some e
      try dsimp only at e
      refine hs_wc 4 (y := 5) (a := [hs_r 0 0, hs_i (x1 &&& ((h.1 23 0 x4.toNatClampNeg) ^^^ (nI 4294967295)))]) (v := some (hs_i q4.1)) (pc' := 37) (ls' := [hs_r 0 0, hs_i x1, v2, hs_i x3, hs_i x4, v5]) (st' := []) (h' := h) (h2 := q4.2) (fun n w => w) (fun q => hc_5 (by omega) eq4 q) ?_
      refine hs_wb 3 (c := q4.1 ≤ 0) (t := 101) (f := 44) (ls' := [hs_r 0 0, hs_i x1, v2, hs_i x3, hs_i x4, hs_i q4.1]) (st' := []) (h' := q4.2) (fun n w => w) (fun b5 => ?_) (fun b5 => ?_)
      · rw [if_pos b5] at e
        exact hw_4_101 hd hk5 e q
      · rw [if_neg b5] at e
        refine hs_wb 3 (c := (nI 1024) ≤ q4.1) (t := 101) (f := 52) (ls' := [hs_r 0 0, hs_i x1, v2, hs_i x3, hs_i x4, hs_i q4.1]) (st' := []) (h' := q4.2) (fun n w => w) (fun b6 => ?_) (fun b6 => ?_)
        · rw [if_pos b6] at e
          exact hw_4_101 hd hk5 e q
        · rw [if_neg b6] at e
          obtain ⟨c7, e⟩ := hs_ck_some e
          refine hs_wa 4 (c := vp_in q4.1 1024) (pc' := 59) (ls' := [hs_r 0 0, hs_i x1, v2, hs_i x3, hs_i x4, hs_i q4.1]) (st' := [hs_i (q4.2.1 21 0 q4.1.toNatClampNeg)]) (h' := q4.2) (fun n w => w) (hs_inb_iff.mp c7) ?_
          refine hs_wb 2 (c := ¬ (q4.2.1 21 0 q4.1.toNatClampNeg) = (nI 4294967295)) (t := 101) (f := 63) (ls' := [hs_r 0 0, hs_i x1, v2, hs_i x3, hs_i x4, hs_i q4.1]) (st' := []) (h' := q4.2) (fun n w => w) (fun b8 => ?_) (fun b8 => ?_)
          · rw [if_pos b8] at e
            exact hw_4_101 hd hk5 e q
          · rw [if_neg b8] at e
            refine hs_wb 3 (c := (nI 1024) ≤ x3) (t := 101) (f := 70) (ls' := [hs_r 0 0, hs_i x1, v2, hs_i x3, hs_i x4, hs_i q4.1]) (st' := []) (h' := q4.2) (fun n w => w) (fun b9 => ?_) (fun b9 => ?_)
            · rw [if_pos b9] at e
              exact hw_4_101 hd hk5 e q
            · rw [if_neg b9] at e
              obtain ⟨c10, e⟩ := hs_ck_some e
              refine hs_wa 7 (c := vp_in x4 252) (pc' := 83) (ls' := [hs_r 0 0, hs_i x1, v2, hs_i x3, hs_i x4, hs_i q4.1]) (st' := [hs_i (q4.2.1 23 0 x4.toNatClampNeg), hs_i q4.1, hs_r 21 0]) (h' := q4.2) (fun n w => w) (hs_inb_iff.mp c10) ?_
              obtain ⟨c11, e⟩ := hs_ck_some e
              refine hs_wa 5 (c := vp_in q4.1 1024) (pc' := 90) (ls' := [hs_r 0 0, hs_i x1, v2, hs_i x3, hs_i x4, hs_i q4.1]) (st' := []) (h' := hs_put q4.2 21 0 q4.1.toNatClampNeg (((q4.2.1 23 0 x4.toNatClampNeg) * (nI 1024)) + x1)) (fun n w => w) (hs_inb_iff.mp c11) ?_
              obtain ⟨c12, e⟩ := hs_ck_some e
              refine hs_wa 5 (c := vp_in x3 1024) (pc' := 98) (ls' := [hs_r 0 0, hs_i x1, v2, hs_i x3, hs_i x4, hs_i q4.1]) (st' := []) (h' := hs_put (hs_put q4.2 21 0 q4.1.toNatClampNeg (((q4.2.1 23 0 x4.toNatClampNeg) * (nI 1024)) + x1)) 22 0 x3.toNatClampNeg q4.1) (fun n w => w) (hs_inb_iff.mp c12) ?_
              refine hs_w 1 (pc' := 101) (ls' := [hs_r 0 0, hs_i x1, v2, hs_i (x3 + nI 1), hs_i x4, hs_i q4.1]) (st' := []) (h' := hs_put (hs_put q4.2 21 0 q4.1.toNatClampNeg (((q4.2.1 23 0 x4.toNatClampNeg) * (nI 1024)) + x1)) 22 0 x3.toNatClampNeg q4.1) (fun n w => w) ?_
              exact hw_4_101 hd hk5 e q
theorem hw_4_5_lp {S : hs_S} {d : Nat} {Q : hs_Q} (hd : 1 ≤ d)    (n : Nat) {x1 : Int32} {x3 : Int32} {x4 : Int32} {h : hs_H} {r : Int32 × hs_H} (e : hs_lp (fun k s => hb_4_5 k s.1 s.2.1 s.2.2.1 s.2.2.2) n (x1, x3, x4, h) = some r) (v2 : hs_V) (v5 : hs_V) (q : Q (some (hs_i r.1)) r.2) : hs_W S d 1 hs_p4 Q 5 [hs_r 0 0, hs_i x1, v2, hs_i x3, hs_i x4, v5] [] h := by
  refine hs_lp_ind (P := fun (s : Int32 × Int32 × Int32 × hs_H) (r : Int32 × hs_H) => ∀ (v2 : hs_V) (v5 : hs_V), Q (some (hs_i r.1)) r.2 → hs_W S d 1 hs_p4 Q 5 [hs_r 0 0, hs_i s.1, v2, hs_i s.2.1, hs_i s.2.2.1, v5] [] s.2.2.2) (fun k hk s r e v2 v5 q => ?_) n (x1, x3, x4, h) r e v2 v5 q
  exact hw_4_5 hd (fun x1 x3 x4 h r v2 v5 e q => hk (x1, x3, x4, h) r e v2 v5 q) e q
/-- HuntedScent$Caster.meetFrom(II)I -/
def hf_4 (a1 : Int32) (a2 : Int32) (h : hs_H) : Option (Int32 × hs_H) := hs_lp (fun k s => hb_4_5 k s.1 s.2.1 s.2.2.1 s.2.2.2) hs_big (a1, a2, nI 0, h)
set_option maxHeartbeats 1000000 in
theorem hc_4 {S : hs_S} {D : Nat} {Q : hs_Q} (hD : 2 ≤ D) {a1 : Int32} {a2 : Int32} {h : hs_H} {r : Int32 × hs_H} (e : hf_4 a1 a2 h = some r) (q : Q (some (hs_i r.1)) r.2) : hs_call hs_ms S D 4 [hs_r 0 0, hs_i a1, hs_i a2] h Q := by
  refine hs_go (R := 1) hD rfl (Nat.le_of_ble_eq_true rfl) (fun d hd => ?_)
  show hs_W S d 1 hs_p4 Q 0 [hs_r 0 0, hs_i a1, hs_i a2, hs_u, hs_u, hs_u] [] h
  unfold hf_4 at e
  refine hs_w 4 (pc' := 5) (ls' := [hs_r 0 0, hs_i a1, hs_i a2, hs_i a2, hs_i (nI 0), hs_u]) (st' := []) (h' := h) (fun n w => w) ?_
  exact hw_4_5_lp hd hs_big e _ _ q
def hb_6_21    (s0 : Int32) (h : hs_H) : Option (Int32 × hs_H) := some (s0, h)
set_option maxHeartbeats 1000000 in
theorem hw_6_21 {S : hs_S} {d : Nat} {Q : hs_Q} (hd : 0 ≤ d)     {s0 : Int32} {v1 : hs_V} {h : hs_H} {r : Int32 × hs_H} (e : hb_6_21 s0 h = some r) (q : Q (some (hs_i r.1)) r.2) : hs_W S d 1 hs_p6 Q 21 [hs_r 0 0, v1] [hs_i s0] h := by
  unfold hb_6_21 at e
  obtain rfl := Option.some.inj e
  exact hs_wr 1 (v := some (hs_i s0)) (h' := h) (fun n w => w) q
def hb_6_20     (h : hs_H) : Option (Int32 × hs_H) := hb_6_21 (nI 0) h
set_option maxHeartbeats 1000000 in
theorem hw_6_20 {S : hs_S} {d : Nat} {Q : hs_Q} (hd : 0 ≤ d)      {v1 : hs_V} {h : hs_H} {r : Int32 × hs_H} (e : hb_6_20 h = some r) (q : Q (some (hs_i r.1)) r.2) : hs_W S d 1 hs_p6 Q 20 [hs_r 0 0, v1] [] h := by
  unfold hb_6_20 at e
  refine hs_w 1 (pc' := 21) (ls' := [hs_r 0 0, v1]) (st' := [hs_i (nI 0)]) (h' := h) (fun n w => w) ?_
  exact hw_6_21 hd e q
/-- HuntedScent$Caster.originOf(I)I -/
def hf_6 (a1 : Int32) (h : hs_H) : Option (Int32 × hs_H) := if a1 ≤ 0 then (hb_6_20 h) else (if (nI 1024) ≤ a1 then (hb_6_20 h) else (hs_ck (hs_inb a1 1024) (hb_6_21 (h.1 21 0 a1.toNatClampNeg) h)))
set_option maxHeartbeats 1000000 in
theorem hc_6 {S : hs_S} {D : Nat} {Q : hs_Q} (hD : 1 ≤ D) {a1 : Int32} {h : hs_H} {r : Int32 × hs_H} (e : hf_6 a1 h = some r) (q : Q (some (hs_i r.1)) r.2) : hs_call hs_ms S D 6 [hs_r 0 0, hs_i a1] h Q := by
  refine hs_go (R := 0) hD rfl (Nat.le_of_ble_eq_true rfl) (fun d hd => ?_)
  show hs_W S d 1 hs_p6 Q 0 [hs_r 0 0, hs_i a1] [] h
  unfold hf_6 at e
  refine hs_wb 2 (c := a1 ≤ 0) (t := 20) (f := 4) (ls' := [hs_r 0 0, hs_i a1]) (st' := []) (h' := h) (fun n w => w) (fun b1 => ?_) (fun b1 => ?_)
  · rw [if_pos b1] at e
    exact hw_6_20 hd e q
  · rw [if_neg b1] at e
    refine hs_wb 3 (c := (nI 1024) ≤ a1) (t := 20) (f := 11) (ls' := [hs_r 0 0, hs_i a1]) (st' := []) (h' := h) (fun n w => w) (fun b2 => ?_) (fun b2 => ?_)
    · rw [if_pos b2] at e
      exact hw_6_20 hd e q
    · rw [if_neg b2] at e
      obtain ⟨c3, e⟩ := hs_ck_some e
      refine hs_wa 4 (c := vp_in a1 1024) (pc' := 17) (ls' := [hs_r 0 0, hs_i a1]) (st' := [hs_i (h.1 21 0 a1.toNatClampNeg)]) (h' := h) (fun n w => w) (hs_inb_iff.mp c3) ?_
      refine hs_w 1 (pc' := 21) (ls' := [hs_r 0 0, hs_i a1]) (st' := [hs_i (h.1 21 0 a1.toNatClampNeg)]) (h' := h) (fun n w => w) ?_
      exact hw_6_21 hd e q
