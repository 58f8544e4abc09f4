/-! What the methods compute, by program; and that the small machine computes it. -/
def hb_8_35   (x2 : Int32)  (h : hs_H) : Option (Int32 × hs_H) := some (x2, h)
set_option maxHeartbeats 1000000 in
theorem hw_8_35 {S : hs_S} {d : Nat} {Q : hs_Q} (hd : 1 ≤ d)    {x2 : Int32}  {v1 : hs_V} {v3 : hs_V} {h : hs_H} {r : Int32 × hs_H} (e : hb_8_35 x2 h = some r) (q : Q (some (hs_i r.1)) r.2) : hs_W S d 1 hs_p8 Q 35 [hs_r 0 0, v1, hs_i x2, v3] [] h := by
  unfold hb_8_35 at e
  obtain rfl := Option.some.inj e
  exact hs_wr 2 (v := some (hs_i x2)) (h' := h) (fun n w => w) q
def hb_8_4  (k4 : Int32 × Int32 × hs_H → Option (Int32 × hs_H)) (x2 : Int32) (x3 : Int32)  (h : hs_H) : Option (Int32 × hs_H) := if (nI 1024) ≤ x2 then (hb_8_35 x2 h) else ((hf_6 x3 h).bind (fun q2 => if q2.1 ≤ 0 then (hb_8_35 x2 q2.2) else ((hf_6 x3 q2.2).bind (fun q4 => k4 (x2 + nI 1, q4.1 - q4.1 / (nI 1024) * (nI 1024), q4.2)))))
set_option maxHeartbeats 1000000 in
theorem hw_8_4 {S : hs_S} {d : Nat} {Q : hs_Q} (hd : 1 ≤ d)  {k4 : Int32 × Int32 × hs_H → Option (Int32 × hs_H)} (hk4 : ∀ (x2 : Int32) (x3 : Int32) (h : hs_H) (r : Int32 × hs_H) (v1 : hs_V), k4 (x2, x3, h) = some r → Q (some (hs_i r.1)) r.2 → hs_W S d 1 hs_p8 Q 4 [hs_r 0 0, v1, hs_i x2, hs_i x3] [] h) {x2 : Int32} {x3 : Int32}  {v1 : hs_V} {h : hs_H} {r : Int32 × hs_H} (e : hb_8_4 k4 x2 x3 h = some r) (q : Q (some (hs_i r.1)) r.2) : hs_W S d 1 hs_p8 Q 4 [hs_r 0 0, v1, hs_i x2, hs_i x3] [] h := by
  unfold hb_8_4 at e
  refine hs_wb 3 (c := (nI 1024) ≤ x2) (t := 35) (f := 11) (ls' := [hs_r 0 0, v1, hs_i x2, hs_i x3]) (st' := []) (h' := h) (fun n w => w) (fun b1 => ?_) (fun b1 => ?_)
  · rw [if_pos b1] at e
    exact hw_8_35 hd e q
  · rw [if_neg b1] at e
    obtain ⟨q2, eq2, e⟩ := hs_bind_some e
    try dsimp only at e
    refine hs_wc 3 (y := 6) (a := [hs_r 0 0, hs_i x3]) (v := some (hs_i q2.1)) (pc' := 16) (ls' := [hs_r 0 0, v1, hs_i x2, hs_i x3]) (st' := []) (h' := h) (h2 := q2.2) (fun n w => w) (fun q => hc_6 (by omega) eq2 q) ?_
    refine hs_wb 1 (c := q2.1 ≤ 0) (t := 35) (f := 19) (ls' := [hs_r 0 0, v1, hs_i x2, hs_i x3]) (st' := []) (h' := q2.2) (fun n w => w) (fun b3 => ?_) (fun b3 => ?_)
    · rw [if_pos b3] at e
      exact hw_8_35 hd e q
    · rw [if_neg b3] at e
      obtain ⟨q4, eq4, e⟩ := hs_bind_some e
      try dsimp only at e
      refine hs_wc 3 (y := 6) (a := [hs_r 0 0, hs_i x3]) (v := some (hs_i q4.1)) (pc' := 24) (ls' := [hs_r 0 0, v1, hs_i x2, hs_i x3]) (st' := []) (h' := q2.2) (h2 := q4.2) (fun n w => w) (fun q => hc_6 (by omega) eq4 q) ?_
      refine hs_wa 2 (c := ¬ nI 1024 = 0) (pc' := 28) (ls' := [hs_r 0 0, v1, hs_i x2, hs_i x3]) (st' := [hs_i (q4.1 - q4.1 / (nI 1024) * (nI 1024))]) (h' := q4.2) (fun n w => w) (nI_ne0 (Nat.le_of_ble_eq_true rfl) (Nat.le_of_ble_eq_true rfl)) ?_
      refine hs_w 3 (pc' := 4) (ls' := [hs_r 0 0, v1, hs_i (x2 + nI 1), hs_i (q4.1 - q4.1 / (nI 1024) * (nI 1024))]) (st' := []) (h' := q4.2) (fun n w => w) ?_
      exact hk4 _ _ _ _ _ e q
theorem hw_8_4_lp {S : hs_S} {d : Nat} {Q : hs_Q} (hd : 1 ≤ d)    (n : Nat) {x2 : Int32} {x3 : Int32} {h : hs_H} {r : Int32 × hs_H} (e : hs_lp (fun k s => hb_8_4 k s.1 s.2.1 s.2.2) n (x2, x3, h) = some r) (v1 : hs_V) (q : Q (some (hs_i r.1)) r.2) : hs_W S d 1 hs_p8 Q 4 [hs_r 0 0, v1, hs_i x2, hs_i x3] [] h := by
  refine hs_lp_ind (P := fun (s : Int32 × Int32 × hs_H) (r : Int32 × hs_H) => ∀ (v1 : hs_V), Q (some (hs_i r.1)) r.2 → hs_W S d 1 hs_p8 Q 4 [hs_r 0 0, v1, hs_i s.1, hs_i s.2.1] [] s.2.2) (fun k hk s r e v1 q => ?_) n (x2, x3, h) r e v1 q
  exact hw_8_4 hd (fun x2 x3 h r v1 e q => hk (x2, x3, h) r e v1 q) e q
/-- HuntedScent$Caster.turnsTo(I)I -/
def hf_8 (a1 : Int32) (h : hs_H) : Option (Int32 × hs_H) := hs_lp (fun k s => hb_8_4 k s.1 s.2.1 s.2.2) hs_big (nI 1, a1, h)
set_option maxHeartbeats 1000000 in
theorem hc_8 {S : hs_S} {D : Nat} {Q : hs_Q} (hD : 2 ≤ D) {a1 : Int32} {h : hs_H} {r : Int32 × hs_H} (e : hf_8 a1 h = some r) (q : Q (some (hs_i r.1)) r.2) : hs_call hs_ms S D 8 [hs_r 0 0, hs_i a1] h Q := by
  refine hs_go (R := 1) hD rfl (Nat.le_of_ble_eq_true rfl) (fun d hd => ?_)
  show hs_W S d 1 hs_p8 Q 0 [hs_r 0 0, hs_i a1, hs_u, hs_u] [] h
  unfold hf_8 at e
  refine hs_w 4 (pc' := 4) (ls' := [hs_r 0 0, hs_i a1, hs_i (nI 1), hs_i a1]) (st' := []) (h' := h) (fun n w => w) ?_
  exact hw_8_4_lp hd hs_big e _ q
def hb_3_99     (h : hs_H) : Option (hs_H) := some h
set_option maxHeartbeats 1000000 in
theorem hw_3_99 {S : hs_S} {d : Nat} {Q : hs_Q} (hd : 2 ≤ d)      {v1 : hs_V} {v2 : hs_V} {v3 : hs_V} {v4 : hs_V} {h : hs_H} {r : hs_H} (e : hb_3_99 h = some r) (q : Q none r) : hs_W S d 0 hs_p3 Q 99 [hs_r 0 0, v1, v2, v3, v4] [] h := by
  unfold hb_3_99 at e
  obtain rfl := Option.some.inj e
  exact hs_wr 1 (v := none) (h' := h) (fun n w => w) q
def hb_3_36  (k36 : Int32 × Int32 × hs_H → Option (hs_H)) (x2 : Int32) (x3 : Int32)  (h : hs_H) : Option (hs_H) := if x2 ≤ x3 then (hb_3_99 h) else (if (nI 1024) ≤ x3 then (hb_3_99 h) else (hs_ck (hs_inb x3 1024) ((hf_240 (h.1 22 0 x3.toNatClampNeg) h).bind (fun q5 => if (q5.2.1 0 0 6) < q5.1 then ((hf_4 (h.1 22 0 x3.toNatClampNeg) x2 q5.2).bind (fun q7 => k36 (q7.1, x3 + nI 1, q7.2))) else ((hf_8 (h.1 22 0 x3.toNatClampNeg) (hs_put q5.2 0 0 8 (h.1 22 0 x3.toNatClampNeg))).bind (fun q8 => some (hs_put q8.2 0 0 7 q8.1)))))))
set_option maxHeartbeats 1000000 in
theorem hw_3_36 {S : hs_S} {d : Nat} {Q : hs_Q} (hd : 2 ≤ d)  {k36 : Int32 × Int32 × hs_H → Option (hs_H)} (hk36 : ∀ (x2 : Int32) (x3 : Int32) (h : hs_H) (r : hs_H) (v1 : hs_V) (v4 : hs_V), k36 (x2, x3, h) = some r → Q none r → hs_W S d 0 hs_p3 Q 36 [hs_r 0 0, v1, hs_i x2, hs_i x3, v4] [] h) {x2 : Int32} {x3 : Int32}  {v1 : hs_V} {v4 : hs_V} {h : hs_H} {r : hs_H} (e : hb_3_36 k36 x2 x3 h = some r) (q : Q none r) : hs_W S d 0 hs_p3 Q 36 [hs_r 0 0, v1, hs_i x2, hs_i x3, v4] [] h := by
  unfold hb_3_36 at e
  refine hs_wb 3 (c := x2 ≤ x3) (t := 99) (f := 41) (ls' := [hs_r 0 0, v1, hs_i x2, hs_i x3, v4]) (st' := []) (h' := h) (fun n w => w) (fun b2 => ?_) (fun b2 => ?_)
  · rw [if_pos b2] at e
    exact hw_3_99 hd e q
  · rw [if_neg b2] at e
    refine hs_wb 3 (c := (nI 1024) ≤ x3) (t := 99) (f := 48) (ls' := [hs_r 0 0, v1, hs_i x2, hs_i x3, v4]) (st' := []) (h' := h) (fun n w => w) (fun b3 => ?_) (fun b3 => ?_)
    · rw [if_pos b3] at e
      exact hw_3_99 hd e q
    · rw [if_neg b3] at e
      obtain ⟨c4, e⟩ := hs_ck_some e
      refine hs_wa 4 (c := vp_in x3 1024) (pc' := 54) (ls' := [hs_r 0 0, v1, hs_i x2, hs_i x3, v4]) (st' := [hs_i (h.1 22 0 x3.toNatClampNeg)]) (h' := h) (fun n w => w) (hs_inb_iff.mp c4) ?_
      obtain ⟨q5, eq5, e⟩ := hs_bind_some e
      try dsimp only at e
      refine hs_wc 3 (y := 240) (a := [hs_i (h.1 22 0 x3.toNatClampNeg)]) (v := some (hs_i q5.1)) (pc' := 61) (ls' := [hs_r 0 0, v1, hs_i x2, hs_i x3, hs_i (h.1 22 0 x3.toNatClampNeg)]) (st' := []) (h' := h) (h2 := q5.2) (fun n w => w) (fun q => hc_240 (by omega) eq5 q) ?_
      refine hs_wb 3 (c := (q5.2.1 0 0 6) < q5.1) (t := 85) (f := 68) (ls' := [hs_r 0 0, v1, hs_i x2, hs_i x3, hs_i (h.1 22 0 x3.toNatClampNeg)]) (st' := []) (h' := q5.2) (fun n w => w) (fun b6 => ?_) (fun b6 => ?_)
      · rw [if_pos b6] at e
        obtain ⟨q7, eq7, e⟩ := hs_bind_some e
        try dsimp only at e
        refine hs_wc 4 (y := 4) (a := [hs_r 0 0, hs_i (h.1 22 0 x3.toNatClampNeg), hs_i x2]) (v := some (hs_i q7.1)) (pc' := 92) (ls' := [hs_r 0 0, v1, hs_i x2, hs_i x3, hs_i (h.1 22 0 x3.toNatClampNeg)]) (st' := []) (h' := q5.2) (h2 := q7.2) (fun n w => w) (fun q => hc_4 (by omega) eq7 q) ?_
        refine hs_w 3 (pc' := 36) (ls' := [hs_r 0 0, v1, hs_i q7.1, hs_i (x3 + nI 1), hs_i (h.1 22 0 x3.toNatClampNeg)]) (st' := []) (h' := q7.2) (fun n w => w) ?_
        exact hk36 _ _ _ _ _ _ e q
      · rw [if_neg b6] at e
        obtain ⟨q8, eq8, e⟩ := hs_bind_some e
        try dsimp only at e
        refine hs_wc 7 (y := 8) (a := [hs_r 0 0, hs_i (h.1 22 0 x3.toNatClampNeg)]) (v := some (hs_i q8.1)) (pc' := 81) (ls' := [hs_r 0 0, v1, hs_i x2, hs_i x3, hs_i (h.1 22 0 x3.toNatClampNeg)]) (st' := [hs_r 0 0]) (h' := hs_put q5.2 0 0 8 (h.1 22 0 x3.toNatClampNeg)) (h2 := q8.2) (fun n w => w) (fun q => hc_8 (by omega) eq8 q) ?_
        obtain rfl := Option.some.inj e
        exact hs_wr 2 (v := none) (h' := hs_put q8.2 0 0 7 q8.1) (fun n w => w) q
theorem hw_3_36_lp {S : hs_S} {d : Nat} {Q : hs_Q} (hd : 2 ≤ d)    (n : Nat) {x2 : Int32} {x3 : Int32} {h : hs_H} {r : hs_H} (e : hs_lp (fun k s => hb_3_36 k s.1 s.2.1 s.2.2) n (x2, x3, h) = some r) (v1 : hs_V) (v4 : hs_V) (q : Q none r) : hs_W S d 0 hs_p3 Q 36 [hs_r 0 0, v1, hs_i x2, hs_i x3, v4] [] h := by
  refine hs_lp_ind (P := fun (s : Int32 × Int32 × hs_H) (r : hs_H) => ∀ (v1 : hs_V) (v4 : hs_V), Q none r → hs_W S d 0 hs_p3 Q 36 [hs_r 0 0, v1, hs_i s.1, hs_i s.2.1, v4] [] s.2.2) (fun k hk s r e v1 v4 q => ?_) n (x2, x3, h) r e v1 v4 q
  exact hw_3_36 hd (fun x2 x3 h r v1 v4 e q => hk (x2, x3, h) r e v1 v4 q) e q
def hb_3_34   (x2 : Int32)  (h : hs_H) : Option (hs_H) := hs_lp (fun k s => hb_3_36 k s.1 s.2.1 s.2.2) hs_big (x2, nI 0, h)
set_option maxHeartbeats 1000000 in
theorem hw_3_34 {S : hs_S} {d : Nat} {Q : hs_Q} (hd : 2 ≤ d)    {x2 : Int32}  {v1 : hs_V} {v3 : hs_V} {v4 : hs_V} {h : hs_H} {r : hs_H} (e : hb_3_34 x2 h = some r) (q : Q none r) : hs_W S d 0 hs_p3 Q 34 [hs_r 0 0, v1, hs_i x2, v3, v4] [] h := by
  unfold hb_3_34 at e
  refine hs_w 2 (pc' := 36) (ls' := [hs_r 0 0, v1, hs_i x2, hs_i (nI 0), v4]) (st' := []) (h' := h) (fun n w => w) ?_
  exact hw_3_36_lp hd hs_big e _ _ q
/-- HuntedScent$Caster.run(I)V -/
def hf_3 (a1 : Int32) (h : hs_H) : Option (hs_H) := if a1 ≤ 0 then (hb_3_34 (nI 0) (hs_put h 0 0 7 (nI 0))) else (if (nI 1024) ≤ a1 then (hb_3_34 (nI 0) (hs_put h 0 0 7 (nI 0))) else (hs_ck (hs_inb (nI 0) 1024) (hs_ck (hs_inb a1 1024) (hb_3_34 (nI 1) (hs_put (hs_put (hs_put h 0 0 7 (nI 0)) 22 0 (nI 0).toNatClampNeg a1) 21 0 a1.toNatClampNeg (nI 0))))))
set_option maxHeartbeats 1000000 in
theorem hc_3 {S : hs_S} {D : Nat} {Q : hs_Q} (hD : 3 ≤ D) {a1 : Int32} {h : hs_H} {r : hs_H} (e : hf_3 a1 h = some r) (q : Q none r) : hs_call hs_ms S D 3 [hs_r 0 0, hs_i a1] h Q := by
  refine hs_go (R := 2) hD rfl (Nat.le_of_ble_eq_true rfl) (fun d hd => ?_)
  show hs_W S d 0 hs_p3 Q 0 [hs_r 0 0, hs_i a1, hs_u, hs_u, hs_u] [] h
  unfold hf_3 at e
  refine hs_wb 7 (c := a1 ≤ 0) (t := 34) (f := 11) (ls' := [hs_r 0 0, hs_i a1, hs_i (nI 0), hs_u, hs_u]) (st' := []) (h' := hs_put h 0 0 7 (nI 0)) (fun n w => w) (fun b1 => ?_) (fun b1 => ?_)
  · rw [if_pos b1] at e
    exact hw_3_34 hd e q
  · rw [if_neg b1] at e
    refine hs_wb 3 (c := (nI 1024) ≤ a1) (t := 34) (f := 18) (ls' := [hs_r 0 0, hs_i a1, hs_i (nI 0), hs_u, hs_u]) (st' := []) (h' := hs_put h 0 0 7 (nI 0)) (fun n w => w) (fun b9 => ?_) (fun b9 => ?_)
    · rw [if_pos b9] at e
      exact hw_3_34 hd e q
    · rw [if_neg b9] at e
      obtain ⟨c10, e⟩ := hs_ck_some e
      refine hs_wa 5 (c := vp_in (nI 0) 1024) (pc' := 25) (ls' := [hs_r 0 0, hs_i a1, hs_i (nI 0), hs_u, hs_u]) (st' := []) (h' := hs_put (hs_put h 0 0 7 (nI 0)) 22 0 (nI 0).toNatClampNeg a1) (fun n w => w) (hs_inb_iff.mp c10) ?_
      obtain ⟨c11, e⟩ := hs_ck_some e
      refine hs_wa 5 (c := vp_in a1 1024) (pc' := 32) (ls' := [hs_r 0 0, hs_i a1, hs_i (nI 0), hs_u, hs_u]) (st' := []) (h' := hs_put (hs_put (hs_put h 0 0 7 (nI 0)) 22 0 (nI 0).toNatClampNeg a1) 21 0 a1.toNatClampNeg (nI 0)) (fun n w => w) (hs_inb_iff.mp c11) ?_
      refine hs_w 2 (pc' := 34) (ls' := [hs_r 0 0, hs_i a1, hs_i (nI 1), hs_u, hs_u]) (st' := []) (h' := hs_put (hs_put (hs_put h 0 0 7 (nI 0)) 22 0 (nI 0).toNatClampNeg a1) 21 0 a1.toNatClampNeg (nI 0)) (fun n w => w) ?_
      exact hw_3_34 hd e q
def hb_0_79     (h : hs_H) : Option (hs_H) := some h
set_option maxHeartbeats 1000000 in
theorem hw_0_79 {S : hs_S} {d : Nat} {Q : hs_Q} (hd : 4 ≤ d)      {v1 : hs_V} {v2 : hs_V} {h : hs_H} {r : hs_H} (e : hb_0_79 h = some r) (q : Q none r) : hs_W S d 0 hs_p0 Q 79 [hs_r 0 0, v1, v2] [] h := by
  unfold hb_0_79 at e
  obtain rfl := Option.some.inj e
  exact hs_wr 1 (v := none) (h' := h) (fun n w => w) q
def hb_0_30   (x1 : Int32) (x2 : Int32)  (h : hs_H) : Option (hs_H) := (hf_243 x1 ((hs_put (hs_put (hs_put h 0 0 9 x1) 0 0 10 x2) 0 0 11 ((hs_put (hs_put h 0 0 9 x1) 0 0 10 x2).1 4 0 6)).1 4 0 1) (hs_put (hs_put (hs_put h 0 0 9 x1) 0 0 10 x2) 0 0 11 ((hs_put (hs_put h 0 0 9 x1) 0 0 10 x2).1 4 0 6))).bind (fun q2 => (hf_1 (hs_put q2.2 0 0 6 q2.1)).bind (fun q3 => (hf_2 q3).bind (fun q4 => (hf_3 x2 q4).bind (fun q5 => hb_0_79 q5))))
set_option maxHeartbeats 1000000 in
theorem hw_0_30 {S : hs_S} {d : Nat} {Q : hs_Q} (hd : 4 ≤ d)    {x1 : Int32} {x2 : Int32}   {h : hs_H} {r : hs_H} (e : hb_0_30 x1 x2 h = some r) (q : Q none r) : hs_W S d 0 hs_p0 Q 30 [hs_r 0 0, hs_i x1, hs_i x2] [] h := by
  unfold hb_0_30 at e
  obtain ⟨q2, eq2, e⟩ := hs_bind_some e
  try dsimp only at e
  refine hs_wc 17 (y := 243) (a := [hs_i x1, hs_i ((hs_put (hs_put (hs_put h 0 0 9 x1) 0 0 10 x2) 0 0 11 ((hs_put (hs_put h 0 0 9 x1) 0 0 10 x2).1 4 0 6)).1 4 0 1)]) (v := some (hs_i q2.1)) (pc' := 63) (ls' := [hs_r 0 0, hs_i x1, hs_i x2]) (st' := [hs_r 0 0]) (h' := hs_put (hs_put (hs_put h 0 0 9 x1) 0 0 10 x2) 0 0 11 ((hs_put (hs_put h 0 0 9 x1) 0 0 10 x2).1 4 0 6)) (h2 := q2.2) (fun n w => w) (fun q => hc_243 (by omega) eq2 q) ?_
  obtain ⟨q3, eq3, e⟩ := hs_bind_some e
  try dsimp only at e
  refine hs_wc 3 (y := 1) (a := [hs_r 0 0]) (v := none) (pc' := 70) (ls' := [hs_r 0 0, hs_i x1, hs_i x2]) (st' := []) (h' := hs_put q2.2 0 0 6 q2.1) (h2 := q3) (fun n w => w) (fun q => hc_1 (by omega) eq3 q) ?_
  obtain ⟨q4, eq4, e⟩ := hs_bind_some e
  try dsimp only at e
  refine hs_wc 2 (y := 2) (a := [hs_r 0 0]) (v := none) (pc' := 74) (ls' := [hs_r 0 0, hs_i x1, hs_i x2]) (st' := []) (h' := q3) (h2 := q4) (fun n w => w) (fun q => hc_2 (by omega) eq4 q) ?_
  obtain ⟨q5, eq5, e⟩ := hs_bind_some e
  try dsimp only at e
  refine hs_wc 3 (y := 3) (a := [hs_r 0 0, hs_i x2]) (v := none) (pc' := 79) (ls' := [hs_r 0 0, hs_i x1, hs_i x2]) (st' := []) (h' := q4) (h2 := q5) (fun n w => w) (fun q => hc_3 (by omega) eq5 q) ?_
  exact hw_0_79 hd e q
/-- HuntedScent$Caster.search(II)V -/
def hf_0 (a1 : Int32) (a2 : Int32) (h : hs_H) : Option (hs_H) := if ¬ (h.1 0 0 9) = a1 then (hb_0_30 a1 a2 h) else (if ¬ (h.1 0 0 10) = a2 then (hb_0_30 a1 a2 h) else (if (h.1 0 0 11) = (h.1 4 0 6) then (hb_0_79 h) else (hb_0_30 a1 a2 h)))
set_option maxHeartbeats 1000000 in
theorem hc_0 {S : hs_S} {D : Nat} {Q : hs_Q} (hD : 5 ≤ D) {a1 : Int32} {a2 : Int32} {h : hs_H} {r : hs_H} (e : hf_0 a1 a2 h = some r) (q : Q none r) : hs_call hs_ms S D 0 [hs_r 0 0, hs_i a1, hs_i a2] h Q := by
  refine hs_go (R := 4) hD rfl (Nat.le_of_ble_eq_true rfl) (fun d hd => ?_)
  show hs_W S d 0 hs_p0 Q 0 [hs_r 0 0, hs_i a1, hs_i a2] [] h
  unfold hf_0 at e
  refine hs_wb 4 (c := ¬ (h.1 0 0 9) = a1) (t := 30) (f := 8) (ls' := [hs_r 0 0, hs_i a1, hs_i a2]) (st' := []) (h' := h) (fun n w => w) (fun b1 => ?_) (fun b1 => ?_)
  · rw [if_pos b1] at e
    exact hw_0_30 hd e q
  · rw [if_neg b1] at e
    refine hs_wb 4 (c := ¬ (h.1 0 0 10) = a2) (t := 30) (f := 16) (ls' := [hs_r 0 0, hs_i a1, hs_i a2]) (st' := []) (h' := h) (fun n w => w) (fun b6 => ?_) (fun b6 => ?_)
    · rw [if_pos b6] at e
      exact hw_0_30 hd e q
    · rw [if_neg b6] at e
      refine hs_wb 6 (c := (h.1 0 0 11) = (h.1 4 0 6)) (t := 79) (f := 30) (ls' := [hs_r 0 0, hs_i a1, hs_i a2]) (st' := []) (h' := h) (fun n w => w) (fun b7 => ?_) (fun b7 => ?_)
      · rw [if_pos b7] at e
        exact hw_0_79 hd e q
      · rw [if_neg b7] at e
        exact hw_0_30 hd e q
def hb_7_43     (h : hs_H) : Option (Int32 × hs_H) := some (nI 4294967292, h)
set_option maxHeartbeats 1000000 in
theorem hw_7_43 {S : hs_S} {d : Nat} {Q : hs_Q} (hd : 0 ≤ d)      {v1 : hs_V} {v2 : hs_V} {h : hs_H} {r : Int32 × hs_H} (e : hb_7_43 h = some r) (q : Q (some (hs_i r.1)) r.2) : hs_W S d 1 hs_p7 Q 43 [hs_r 0 0, v1, v2] [] h := by
  unfold hb_7_43 at e
  obtain rfl := Option.some.inj e
  exact hs_wr 2 (v := some (hs_i (nI 4294967292))) (h' := h) (fun n w => w) q
def hb_7_2  (k2 : Int32 × Int32 × hs_H → Option (Int32 × hs_H)) (x1 : Int32) (x2 : Int32)  (h : hs_H) : Option (Int32 × hs_H) := if (h.1 0 0 5) ≤ x2 then (hb_7_43 h) else (if (nI 252) ≤ x2 then (hb_7_43 h) else (hs_ck (hs_inb x2 252) (if ¬ (x1 &&& ((h.1 23 0 x2.toNatClampNeg) ^^^ (nI 4294967295))) = 0 then (k2 (x1, x2 + nI 1, h)) else (hs_ck (hs_inb x2 252) (some (h.1 23 0 x2.toNatClampNeg, h))))))
set_option maxHeartbeats 1000000 in
theorem hw_7_2 {S : hs_S} {d : Nat} {Q : hs_Q} (hd : 0 ≤ d)  {k2 : Int32 × Int32 × hs_H → Option (Int32 × hs_H)} (hk2 : ∀ (x1 : Int32) (x2 : Int32) (h : hs_H) (r : Int32 × hs_H) , k2 (x1, x2, h) = some r → Q (some (hs_i r.1)) r.2 → hs_W S d 1 hs_p7 Q 2 [hs_r 0 0, hs_i x1, hs_i x2] [] h) {x1 : Int32} {x2 : Int32}   {h : hs_H} {r : Int32 × hs_H} (e : hb_7_2 k2 x1 x2 h = some r) (q : Q (some (hs_i r.1)) r.2) : hs_W S d 1 hs_p7 Q 2 [hs_r 0 0, hs_i x1, hs_i x2] [] h := by
  unfold hb_7_2 at e
  refine hs_wb 4 (c := (h.1 0 0 5) ≤ x2) (t := 43) (f := 10) (ls' := [hs_r 0 0, hs_i x1, hs_i x2]) (st' := []) (h' := h) (fun n w => w) (fun b1 => ?_) (fun b1 => ?_)
  · rw [if_pos b1] at e
    exact hw_7_43 hd e q
  · rw [if_neg b1] at e
    refine hs_wb 3 (c := (nI 252) ≤ x2) (t := 43) (f := 17) (ls' := [hs_r 0 0, hs_i x1, hs_i x2]) (st' := []) (h' := h) (fun n w => w) (fun b2 => ?_) (fun b2 => ?_)
    · rw [if_pos b2] at e
      exact hw_7_43 hd e q
    · rw [if_neg b2] at e
      obtain ⟨c3, e⟩ := hs_ck_some e
      refine hs_wa 5 (c := vp_in x2 252) (pc' := 24) (ls' := [hs_r 0 0, hs_i x1, hs_i x2]) (st' := [hs_i (h.1 23 0 x2.toNatClampNeg), hs_i x1]) (h' := h) (fun n w => w) (hs_inb_iff.mp c3) ?_
      refine hs_wb 4 (c := ¬ (x1 &&& ((h.1 23 0 x2.toNatClampNeg) ^^^ (nI 4294967295))) = 0) (t := 37) (f := 30) (ls' := [hs_r 0 0, hs_i x1, hs_i x2]) (st' := []) (h' := h) (fun n w => w) (fun b4 => ?_) (fun b4 => ?_)
      · rw [if_pos b4] at e
        refine hs_w 2 (pc' := 2) (ls' := [hs_r 0 0, hs_i x1, hs_i (x2 + nI 1)]) (st' := []) (h' := h) (fun n w => w) ?_
        exact hk2 _ _ _ _  e q
      · rw [if_neg b4] at e
        obtain ⟨c5, e⟩ := hs_ck_some e
        refine hs_wa 4 (c := vp_in x2 252) (pc' := 36) (ls' := [hs_r 0 0, hs_i x1, hs_i x2]) (st' := [hs_i (h.1 23 0 x2.toNatClampNeg)]) (h' := h) (fun n w => w) (hs_inb_iff.mp c5) ?_
        obtain rfl := Option.some.inj e
        exact hs_wr 1 (v := some (hs_i (h.1 23 0 x2.toNatClampNeg))) (h' := h) (fun n w => w) q
theorem hw_7_2_lp {S : hs_S} {d : Nat} {Q : hs_Q} (hd : 0 ≤ d)    (n : Nat) {x1 : Int32} {x2 : Int32} {h : hs_H} {r : Int32 × hs_H} (e : hs_lp (fun k s => hb_7_2 k s.1 s.2.1 s.2.2) n (x1, x2, h) = some r)  (q : Q (some (hs_i r.1)) r.2) : hs_W S d 1 hs_p7 Q 2 [hs_r 0 0, hs_i x1, hs_i x2] [] h := by
  refine hs_lp_ind (P := fun (s : Int32 × Int32 × hs_H) (r : Int32 × hs_H) => ∀ (_ : True), Q (some (hs_i r.1)) r.2 → hs_W S d 1 hs_p7 Q 2 [hs_r 0 0, hs_i s.1, hs_i s.2.1] [] s.2.2) (fun k hk s r e _ q => ?_) n (x1, x2, h) r e trivial q
  exact hw_7_2 hd (fun x1 x2 h r  e q => hk (x1, x2, h) r e trivial q) e q
/-- HuntedScent$Caster.covering(I)I -/
def hf_7 (a1 : Int32) (h : hs_H) : Option (Int32 × hs_H) := hs_lp (fun k s => hb_7_2 k s.1 s.2.1 s.2.2) hs_big (a1, nI 0, h)
set_option maxHeartbeats 1000000 in
theorem hc_7 {S : hs_S} {D : Nat} {Q : hs_Q} (hD : 1 ≤ D) {a1 : Int32} {h : hs_H} {r : Int32 × hs_H} (e : hf_7 a1 h = some r) (q : Q (some (hs_i r.1)) r.2) : hs_call hs_ms S D 7 [hs_r 0 0, hs_i a1] h Q := by
  refine hs_go (R := 0) hD rfl (Nat.le_of_ble_eq_true rfl) (fun d hd => ?_)
  show hs_W S d 1 hs_p7 Q 0 [hs_r 0 0, hs_i a1, hs_u] [] h
  unfold hf_7 at e
  refine hs_w 2 (pc' := 2) (ls' := [hs_r 0 0, hs_i a1, hs_i (nI 0)]) (st' := []) (h' := h) (fun n w => w) ?_
  exact hw_7_2_lp hd hs_big e  q
def hb_9_12     (h : hs_H) : Option (Int32 × hs_H) := some (nI 4294967292, h)
set_option maxHeartbeats 1000000 in
theorem hw_9_12 {S : hs_S} {d : Nat} {Q : hs_Q} (hd : 1 ≤ d)      {v1 : hs_V} {v2 : hs_V} {v3 : hs_V} {h : hs_H} {r : Int32 × hs_H} (e : hb_9_12 h = some r) (q : Q (some (hs_i r.1)) r.2) : hs_W S d 1 hs_p9 Q 12 [hs_r 0 0, v1, v2, v3] [] h := by
  unfold hb_9_12 at e
  obtain rfl := Option.some.inj e
  exact hs_wr 2 (v := some (hs_i (nI 4294967292))) (h' := h) (fun n w => w) q
def hb_9_46  (k46 : Int32 × Int32 × Int32 × hs_H → Option (Int32 × hs_H)) (x1 : Int32) (x2 : Int32) (x3 : Int32)  (h : hs_H) : Option (Int32 × hs_H) := if x3 ≤ x1 then ((hf_6 x2 h).bind (fun q5 => some (q5.1 / (nI 1024), q5.2))) else ((hf_6 x2 h).bind (fun q6 => k46 (x1, q6.1 - q6.1 / (nI 1024) * (nI 1024), x3 + nI 4294967295, q6.2)))
set_option maxHeartbeats 1000000 in
theorem hw_9_46 {S : hs_S} {d : Nat} {Q : hs_Q} (hd : 1 ≤ d)  {k46 : Int32 × Int32 × Int32 × hs_H → Option (Int32 × hs_H)} (hk46 : ∀ (x1 : Int32) (x2 : Int32) (x3 : Int32) (h : hs_H) (r : Int32 × hs_H) , k46 (x1, x2, x3, h) = some r → Q (some (hs_i r.1)) r.2 → hs_W S d 1 hs_p9 Q 46 [hs_r 0 0, hs_i x1, hs_i x2, hs_i x3] [] h) {x1 : Int32} {x2 : Int32} {x3 : Int32}   {h : hs_H} {r : Int32 × hs_H} (e : hb_9_46 k46 x1 x2 x3 h = some r) (q : Q (some (hs_i r.1)) r.2) : hs_W S d 1 hs_p9 Q 46 [hs_r 0 0, hs_i x1, hs_i x2, hs_i x3] [] h := by
  unfold hb_9_46 at e
  refine hs_wb 3 (c := x3 ≤ x1) (t := 67) (f := 51) (ls' := [hs_r 0 0, hs_i x1, hs_i x2, hs_i x3]) (st' := []) (h' := h) (fun n w => w) (fun b4 => ?_) (fun b4 => ?_)
  · rw [if_pos b4] at e
    obtain ⟨q5, eq5, e⟩ := hs_bind_some e
    try dsimp only at e
    refine hs_wc 3 (y := 6) (a := [hs_r 0 0, hs_i x2]) (v := some (hs_i q5.1)) (pc' := 72) (ls' := [hs_r 0 0, hs_i x1, hs_i x2, hs_i x3]) (st' := []) (h' := h) (h2 := q5.2) (fun n w => w) (fun q => hc_6 (by omega) eq5 q) ?_
    refine hs_wa 2 (c := ¬ nI 1024 = 0) (pc' := 76) (ls' := [hs_r 0 0, hs_i x1, hs_i x2, hs_i x3]) (st' := [hs_i (q5.1 / (nI 1024))]) (h' := q5.2) (fun n w => w) (nI_ne0 (Nat.le_of_ble_eq_true rfl) (Nat.le_of_ble_eq_true rfl)) ?_
    obtain rfl := Option.some.inj e
    exact hs_wr 1 (v := some (hs_i (q5.1 / (nI 1024)))) (h' := q5.2) (fun n w => w) q
  · rw [if_neg b4] at e
    obtain ⟨q6, eq6, e⟩ := hs_bind_some e
    try dsimp only at e
    refine hs_wc 3 (y := 6) (a := [hs_r 0 0, hs_i x2]) (v := some (hs_i q6.1)) (pc' := 56) (ls' := [hs_r 0 0, hs_i x1, hs_i x2, hs_i x3]) (st' := []) (h' := h) (h2 := q6.2) (fun n w => w) (fun q => hc_6 (by omega) eq6 q) ?_
    refine hs_wa 2 (c := ¬ nI 1024 = 0) (pc' := 60) (ls' := [hs_r 0 0, hs_i x1, hs_i x2, hs_i x3]) (st' := [hs_i (q6.1 - q6.1 / (nI 1024) * (nI 1024))]) (h' := q6.2) (fun n w => w) (nI_ne0 (Nat.le_of_ble_eq_true rfl) (Nat.le_of_ble_eq_true rfl)) ?_
    refine hs_w 3 (pc' := 46) (ls' := [hs_r 0 0, hs_i x1, hs_i (q6.1 - q6.1 / (nI 1024) * (nI 1024)), hs_i (x3 + nI 4294967295)]) (st' := []) (h' := q6.2) (fun n w => w) ?_
    exact hk46 _ _ _ _ _  e q
theorem hw_9_46_lp {S : hs_S} {d : Nat} {Q : hs_Q} (hd : 1 ≤ d)    (n : Nat) {x1 : Int32} {x2 : Int32} {x3 : Int32} {h : hs_H} {r : Int32 × hs_H} (e : hs_lp (fun k s => hb_9_46 k s.1 s.2.1 s.2.2.1 s.2.2.2) n (x1, x2, x3, h) = some r)  (q : Q (some (hs_i r.1)) r.2) : hs_W S d 1 hs_p9 Q 46 [hs_r 0 0, hs_i x1, hs_i x2, hs_i x3] [] h := by
  refine hs_lp_ind (P := fun (s : Int32 × Int32 × Int32 × hs_H) (r : Int32 × hs_H) => ∀ (_ : True), Q (some (hs_i r.1)) r.2 → hs_W S d 1 hs_p9 Q 46 [hs_r 0 0, hs_i s.1, hs_i s.2.1, hs_i s.2.2.1] [] s.2.2.2) (fun k hk s r e _ q => ?_) n (x1, x2, x3, h) r e trivial q
  exact hw_9_46 hd (fun x1 x2 x3 h r  e q => hk (x1, x2, x3, h) r e trivial q) e q
/-- HuntedScent$Caster.castOfTurn(I)I -/
def hf_9 (a1 : Int32) (h : hs_H) : Option (Int32 × hs_H) := if a1 < 0 then (hb_9_12 h) else (if a1 < (h.1 0 0 7) then (if ¬ a1 = ((h.1 0 0 7) - (nI 1)) then (hs_lp (fun k s => hb_9_46 k s.1 s.2.1 s.2.2.1 s.2.2.2) hs_big (a1, h.1 0 0 8, (h.1 0 0 7) - (nI 2), h)) else ((hf_7 (h.1 0 0 8) h).bind (fun q7 => some (q7.1, q7.2)))) else (hb_9_12 h))
set_option maxHeartbeats 1000000 in
theorem hc_9 {S : hs_S} {D : Nat} {Q : hs_Q} (hD : 2 ≤ D) {a1 : Int32} {h : hs_H} {r : Int32 × hs_H} (e : hf_9 a1 h = some r) (q : Q (some (hs_i r.1)) r.2) : hs_call hs_ms S D 9 [hs_r 0 0, hs_i a1] h Q := by
  refine hs_go (R := 1) hD rfl (Nat.le_of_ble_eq_true rfl) (fun d hd => ?_)
  show hs_W S d 1 hs_p9 Q 0 [hs_r 0 0, hs_i a1, hs_u, hs_u] [] h
  unfold hf_9 at e
  refine hs_wb 2 (c := a1 < 0) (t := 12) (f := 4) (ls' := [hs_r 0 0, hs_i a1, hs_u, hs_u]) (st' := []) (h' := h) (fun n w => w) (fun b1 => ?_) (fun b1 => ?_)
  · rw [if_pos b1] at e
    exact hw_9_12 hd e q
  · rw [if_neg b1] at e
    refine hs_wb 4 (c := a1 < (h.1 0 0 7)) (t := 15) (f := 12) (ls' := [hs_r 0 0, hs_i a1, hs_u, hs_u]) (st' := []) (h' := h) (fun n w => w) (fun b2 => ?_) (fun b2 => ?_)
    · rw [if_pos b2] at e
      refine hs_wb 6 (c := ¬ a1 = ((h.1 0 0 7) - (nI 1))) (t := 34) (f := 25) (ls' := [hs_r 0 0, hs_i a1, hs_u, hs_u]) (st' := []) (h' := h) (fun n w => w) (fun b3 => ?_) (fun b3 => ?_)
      · rw [if_pos b3] at e
        refine hs_w 8 (pc' := 46) (ls' := [hs_r 0 0, hs_i a1, hs_i (h.1 0 0 8), hs_i ((h.1 0 0 7) - (nI 2))]) (st' := []) (h' := h) (fun n w => w) ?_
        exact hw_9_46_lp hd hs_big e  q
      · rw [if_neg b3] at e
        obtain ⟨q7, eq7, e⟩ := hs_bind_some e
        try dsimp only at e
        refine hs_wc 4 (y := 7) (a := [hs_r 0 0, hs_i (h.1 0 0 8)]) (v := some (hs_i q7.1)) (pc' := 33) (ls' := [hs_r 0 0, hs_i a1, hs_u, hs_u]) (st' := []) (h' := h) (h2 := q7.2) (fun n w => w) (fun q => hc_7 (by omega) eq7 q) ?_
        obtain rfl := Option.some.inj e
        exact hs_wr 1 (v := some (hs_i q7.1)) (h' := q7.2) (fun n w => w) q
    · rw [if_neg b2] at e
      exact hw_9_12 hd e q
def hb_128_48     (h : hs_H) : Option (Int32 × hs_H) := some (nI 4294967295, h)
set_option maxHeartbeats 1000000 in
theorem hw_128_48 {S : hs_S} {d : Nat} {Q : hs_Q} (hd : 5 ≤ d)      {v1 : hs_V} {v2 : hs_V} {v3 : hs_V} {v4 : hs_V} {h : hs_H} {r : Int32 × hs_H} (e : hb_128_48 h = some r) (q : Q (some (hs_i r.1)) r.2) : hs_W S d 1 hs_p128 Q 48 [hs_r 11 0, v1, v2, v3, v4] [] h := by
  unfold hb_128_48 at e
  obtain rfl := Option.some.inj e
  exact hs_wr 2 (v := some (hs_i (nI 4294967295))) (h' := h) (fun n w => w) q
def hb_128_85    (s0 : Int32) (h : hs_H) : Option (Int32 × hs_H) := some (s0, h)
set_option maxHeartbeats 1000000 in
theorem hw_128_85 {S : hs_S} {d : Nat} {Q : hs_Q} (hd : 5 ≤ d)     {s0 : Int32} {v1 : hs_V} {v2 : hs_V} {v3 : hs_V} {v4 : hs_V} {h : hs_H} {r : Int32 × hs_H} (e : hb_128_85 s0 h = some r) (q : Q (some (hs_i r.1)) r.2) : hs_W S d 1 hs_p128 Q 85 [hs_r 11 0, v1, v2, v3, v4] [hs_i s0] h := by
  unfold hb_128_85 at e
  obtain rfl := Option.some.inj e
  exact hs_wr 1 (v := some (hs_i s0)) (h' := h) (fun n w => w) q
def hb_128_50   (x1 : Int32) (x2 : Int32) (x3 : Int32)  (h : hs_H) : Option (Int32 × hs_H) := (hf_0 x1 x2 h).bind (fun q8 => if ¬ x3 = 0 then ((hf_9 (x3 - (nI 10)) q8).bind (fun q10 => some (q10.1, q10.2))) else (if (q8.1 0 0 7) ≤ 0 then (hb_128_85 (nI 4294967292) q8) else (hb_128_85 (q8.1 0 0 7) q8)))
set_option maxHeartbeats 1000000 in
theorem hw_128_50 {S : hs_S} {d : Nat} {Q : hs_Q} (hd : 5 ≤ d)    {x1 : Int32} {x2 : Int32} {x3 : Int32}  {v4 : hs_V} {h : hs_H} {r : Int32 × hs_H} (e : hb_128_50 x1 x2 x3 h = some r) (q : Q (some (hs_i r.1)) r.2) : hs_W S d 1 hs_p128 Q 50 [hs_r 11 0, hs_i x1, hs_i x2, hs_i x3, v4] [] h := by
  unfold hb_128_50 at e
  obtain ⟨q8, eq8, e⟩ := hs_bind_some e
  try dsimp only at e
  refine hs_wc 5 (y := 0) (a := [hs_r 0 0, hs_i x1, hs_i x2]) (v := none) (pc' := 59) (ls' := [hs_r 11 0, hs_i x1, hs_i x2, hs_i x3, v4]) (st' := []) (h' := h) (h2 := q8) (fun n w => w) (fun q => hc_0 (by omega) eq8 q) ?_
  refine hs_wb 2 (c := ¬ x3 = 0) (t := 86) (f := 63) (ls' := [hs_r 11 0, hs_i x1, hs_i x2, hs_i x3, v4]) (st' := []) (h' := q8) (fun n w => w) (fun b9 => ?_) (fun b9 => ?_)
  · rw [if_pos b9] at e
    obtain ⟨q10, eq10, e⟩ := hs_bind_some e
    try dsimp only at e
    refine hs_wc 6 (y := 9) (a := [hs_r 0 0, hs_i (x3 - (nI 10))]) (v := some (hs_i q10.1)) (pc' := 97) (ls' := [hs_r 11 0, hs_i x1, hs_i x2, hs_i x3, v4]) (st' := []) (h' := q8) (h2 := q10.2) (fun n w => w) (fun q => hc_9 (by omega) eq10 q) ?_
    obtain rfl := Option.some.inj e
    exact hs_wr 1 (v := some (hs_i q10.1)) (h' := q10.2) (fun n w => w) q
  · rw [if_neg b9] at e
    refine hs_wb 4 (c := (q8.1 0 0 7) ≤ 0) (t := 83) (f := 73) (ls' := [hs_r 11 0, hs_i x1, hs_i x2, hs_i x3, v4]) (st' := []) (h' := q8) (fun n w => w) (fun b11 => ?_) (fun b11 => ?_)
    · rw [if_pos b11] at e
      refine hs_w 1 (pc' := 85) (ls' := [hs_r 11 0, hs_i x1, hs_i x2, hs_i x3, v4]) (st' := [hs_i (nI 4294967292)]) (h' := q8) (fun n w => w) ?_
      exact hw_128_85 hd e q
    · rw [if_neg b11] at e
      refine hs_w 4 (pc' := 85) (ls' := [hs_r 11 0, hs_i x1, hs_i x2, hs_i x3, v4]) (st' := [hs_i (q8.1 0 0 7)]) (h' := q8) (fun n w => w) ?_
      exact hw_128_85 hd e q
/-- HuntedScent.casts(III)I -/
def hf_128 (a1 : Int32) (a2 : Int32) (a3 : Int32) (h : hs_H) : Option (Int32 × hs_H) := (hf_146 (nI 1023) (a3.toInt64 - (lN 10)) h).bind (fun q1 => if a1 < (nI 1) then (hb_128_48 q1.2) else (if (nI 5) < a1 then (hb_128_48 q1.2) else (if a2 = 0 then (hb_128_48 q1.2) else ((hf_30 0 a2 q1.2).bind (fun q5 => if q5.1 = 0 then (hb_128_48 q5.2) else (if a3 = 0 then (hb_128_50 a1 a2 a3 q5.2) else (if ¬ q1.1 = 0 then (hb_128_50 a1 a2 a3 q5.2) else (hb_128_48 q5.2))))))))
set_option maxHeartbeats 1000000 in
theorem hc_128 {S : hs_S} {D : Nat} {Q : hs_Q} (hD : 6 ≤ D) {a1 : Int32} {a2 : Int32} {a3 : Int32} {h : hs_H} {r : Int32 × hs_H} (e : hf_128 a1 a2 a3 h = some r) (q : Q (some (hs_i r.1)) r.2) : hs_call hs_ms S D 128 [hs_r 11 0, hs_i a1, hs_i a2, hs_i a3] h Q := by
  refine hs_go (R := 5) hD rfl (Nat.le_of_ble_eq_true rfl) (fun d hd => ?_)
  show hs_W S d 1 hs_p128 Q 0 [hs_r 11 0, hs_i a1, hs_i a2, hs_i a3, hs_u] [] h
  unfold hf_128 at e
  obtain ⟨q1, eq1, e⟩ := hs_bind_some e
  try dsimp only at e
  refine hs_wc 6 (y := 146) (a := [hs_i (nI 1023), hs_l (a3.toInt64 - (lN 10))]) (v := some (hs_i q1.1)) (pc' := 12) (ls' := [hs_r 11 0, hs_i a1, hs_i a2, hs_i a3, hs_u]) (st' := []) (h' := h) (h2 := q1.2) (fun n w => w) (fun q => hc_146 (by omega) eq1 q) ?_
  refine hs_wb 4 (c := a1 < (nI 1)) (t := 48) (f := 19) (ls' := [hs_r 11 0, hs_i a1, hs_i a2, hs_i a3, hs_i q1.1]) (st' := []) (h' := q1.2) (fun n w => w) (fun b2 => ?_) (fun b2 => ?_)
  · rw [if_pos b2] at e
    exact hw_128_48 hd e q
  · rw [if_neg b2] at e
    refine hs_wb 3 (c := (nI 5) < a1) (t := 48) (f := 24) (ls' := [hs_r 11 0, hs_i a1, hs_i a2, hs_i a3, hs_i q1.1]) (st' := []) (h' := q1.2) (fun n w => w) (fun b3 => ?_) (fun b3 => ?_)
    · rw [if_pos b3] at e
      exact hw_128_48 hd e q
    · rw [if_neg b3] at e
      refine hs_wb 2 (c := a2 = 0) (t := 48) (f := 28) (ls' := [hs_r 11 0, hs_i a1, hs_i a2, hs_i a3, hs_i q1.1]) (st' := []) (h' := q1.2) (fun n w => w) (fun b4 => ?_) (fun b4 => ?_)
      · rw [if_pos b4] at e
        exact hw_128_48 hd e q
      · rw [if_neg b4] at e
        obtain ⟨q5, eq5, e⟩ := hs_bind_some e
        try dsimp only at e
        refine hs_wc 4 (y := 30) (a := [hs_r 4 0, hs_i a2]) (v := some (hs_i q5.1)) (pc' := 36) (ls' := [hs_r 11 0, hs_i a1, hs_i a2, hs_i a3, hs_i q1.1]) (st' := []) (h' := q1.2) (h2 := q5.2) (fun n w => w) (fun q => hc_30 (by omega) eq5 q) ?_
        refine hs_wb 1 (c := q5.1 = 0) (t := 48) (f := 39) (ls' := [hs_r 11 0, hs_i a1, hs_i a2, hs_i a3, hs_i q1.1]) (st' := []) (h' := q5.2) (fun n w => w) (fun b6 => ?_) (fun b6 => ?_)
        · rw [if_pos b6] at e
          exact hw_128_48 hd e q
        · rw [if_neg b6] at e
          refine hs_wb 2 (c := a3 = 0) (t := 50) (f := 43) (ls' := [hs_r 11 0, hs_i a1, hs_i a2, hs_i a3, hs_i q1.1]) (st' := []) (h' := q5.2) (fun n w => w) (fun b7 => ?_) (fun b7 => ?_)
          · rw [if_pos b7] at e
            exact hw_128_50 hd e q
          · rw [if_neg b7] at e
            refine hs_wb 2 (c := ¬ q1.1 = 0) (t := 50) (f := 48) (ls' := [hs_r 11 0, hs_i a1, hs_i a2, hs_i a3, hs_i q1.1]) (st' := []) (h' := q5.2) (fun n w => w) (fun b12 => ?_) (fun b12 => ?_)
            · rw [if_pos b12] at e
              exact hw_128_50 hd e q
            · rw [if_neg b12] at e
              exact hw_128_48 hd e q
def hb_129_2  (k2 : Int32 × hs_H → Option (Int32 × hs_H)) (x1 : Int32)  (h : hs_H) : Option (Int32 × hs_H) := if (nI 5) < x1 then (some (nI 4294967292, h)) else ((hf_31 0 h).bind (fun q2 => (hf_0 x1 q2.1 q2.2).bind (fun q3 => if (q3.1 0 0 7) ≤ 0 then (k2 (x1 + nI 1, q3)) else (some (x1, q3)))))
set_option maxHeartbeats 1000000 in
theorem hw_129_2 {S : hs_S} {d : Nat} {Q : hs_Q} (hd : 5 ≤ d)  {k2 : Int32 × hs_H → Option (Int32 × hs_H)} (hk2 : ∀ (x1 : Int32) (h : hs_H) (r : Int32 × hs_H) , k2 (x1, h) = some r → Q (some (hs_i r.1)) r.2 → hs_W S d 1 hs_p129 Q 2 [hs_r 11 0, hs_i x1] [] h) {x1 : Int32}   {h : hs_H} {r : Int32 × hs_H} (e : hb_129_2 k2 x1 h = some r) (q : Q (some (hs_i r.1)) r.2) : hs_W S d 1 hs_p129 Q 2 [hs_r 11 0, hs_i x1] [] h := by
  unfold hb_129_2 at e
  refine hs_wb 3 (c := (nI 5) < x1) (t := 40) (f := 7) (ls' := [hs_r 11 0, hs_i x1]) (st' := []) (h' := h) (fun n w => w) (fun b1 => ?_) (fun b1 => ?_)
  · rw [if_pos b1] at e
    obtain rfl := Option.some.inj e
    exact hs_wr 2 (v := some (hs_i (nI 4294967292))) (h' := h) (fun n w => w) q
  · rw [if_neg b1] at e
    obtain ⟨q2, eq2, e⟩ := hs_bind_some e
    try dsimp only at e
    refine hs_wc 6 (y := 31) (a := [hs_r 4 0]) (v := some (hs_i q2.1)) (pc' := 19) (ls' := [hs_r 11 0, hs_i x1]) (st' := [hs_i x1, hs_r 0 0]) (h' := h) (h2 := q2.2) (fun n w => w) (fun q => hc_31 (by omega) eq2 q) ?_
    obtain ⟨q3, eq3, e⟩ := hs_bind_some e
    try dsimp only at e
    refine hs_wc 1 (y := 0) (a := [hs_r 0 0, hs_i x1, hs_i q2.1]) (v := none) (pc' := 22) (ls' := [hs_r 11 0, hs_i x1]) (st' := []) (h' := q2.2) (h2 := q3) (fun n w => w) (fun q => hc_0 (by omega) eq3 q) ?_
    refine hs_wb 4 (c := (q3.1 0 0 7) ≤ 0) (t := 34) (f := 32) (ls' := [hs_r 11 0, hs_i x1]) (st' := []) (h' := q3) (fun n w => w) (fun b4 => ?_) (fun b4 => ?_)
    · rw [if_pos b4] at e
      refine hs_w 2 (pc' := 2) (ls' := [hs_r 11 0, hs_i (x1 + nI 1)]) (st' := []) (h' := q3) (fun n w => w) ?_
      exact hk2 _ _ _  e q
    · rw [if_neg b4] at e
      obtain rfl := Option.some.inj e
      exact hs_wr 2 (v := some (hs_i x1)) (h' := q3) (fun n w => w) q
theorem hw_129_2_lp {S : hs_S} {d : Nat} {Q : hs_Q} (hd : 5 ≤ d)    (n : Nat) {x1 : Int32} {h : hs_H} {r : Int32 × hs_H} (e : hs_lp (fun k s => hb_129_2 k s.1 s.2) n (x1, h) = some r)  (q : Q (some (hs_i r.1)) r.2) : hs_W S d 1 hs_p129 Q 2 [hs_r 11 0, hs_i x1] [] h := by
  refine hs_lp_ind (P := fun (s : Int32 × hs_H) (r : Int32 × hs_H) => ∀ (_ : True), Q (some (hs_i r.1)) r.2 → hs_W S d 1 hs_p129 Q 2 [hs_r 11 0, hs_i s.1] [] s.2) (fun k hk s r e _ q => ?_) n (x1, h) r e trivial q
  exact hw_129_2 hd (fun x1 h r  e q => hk (x1, h) r e trivial q) e q
/-- HuntedScent.need()I -/
def hf_129  (h : hs_H) : Option (Int32 × hs_H) := hs_lp (fun k s => hb_129_2 k s.1 s.2) hs_big (nI 1, h)
set_option maxHeartbeats 1000000 in
theorem hc_129 {S : hs_S} {D : Nat} {Q : hs_Q} (hD : 6 ≤ D)  {h : hs_H} {r : Int32 × hs_H} (e : hf_129 h = some r) (q : Q (some (hs_i r.1)) r.2) : hs_call hs_ms S D 129 [hs_r 11 0] h Q := by
  refine hs_go (R := 5) hD rfl (Nat.le_of_ble_eq_true rfl) (fun d hd => ?_)
  show hs_W S d 1 hs_p129 Q 0 [hs_r 11 0, hs_u] [] h
  unfold hf_129 at e
  refine hs_w 2 (pc' := 2) (ls' := [hs_r 11 0, hs_i (nI 1)]) (st' := []) (h' := h) (fun n w => w) ?_
  exact hw_129_2_lp hd hs_big e  q
def hb_41_30 (o : Nat) (k4 : Int32 × Int32 × Int32 × hs_H → Option (Int32 × hs_H)) (x1 : Int32) (x3 : Int32) (s0 : Int32) (s1 : Int32) (h : hs_H) : Option (Int32 × hs_H) := k4 (x1, s1 ||| s0, x3 + nI 1, h)
set_option maxHeartbeats 1000000 in
theorem hw_41_30 {S : hs_S} {d : Nat} {Q : hs_Q} (hd : 3 ≤ d) {o : Nat} {k4 : Int32 × Int32 × Int32 × hs_H → Option (Int32 × hs_H)} (hk4 : ∀ (x1 : Int32) (x2 : Int32) (x3 : Int32) (h : hs_H) (r : Int32 × hs_H) , k4 (x1, x2, x3, h) = some r → Q (some (hs_i r.1)) r.2 → hs_W S d 1 hs_p41 Q 4 [hs_r 4 o, hs_i x1, hs_i x2, hs_i x3] [] h) {x1 : Int32} {x3 : Int32} {s0 : Int32} {s1 : Int32} {v2 : hs_V} {h : hs_H} {r : Int32 × hs_H} (e : hb_41_30 o k4 x1 x3 s0 s1 h = some r) (q : Q (some (hs_i r.1)) r.2) : hs_W S d 1 hs_p41 Q 30 [hs_r 4 o, hs_i x1, v2, hs_i x3] [hs_i s0, hs_i s1] h := by
  unfold hb_41_30 at e
  refine hs_w 4 (pc' := 4) (ls' := [hs_r 4 o, hs_i x1, hs_i (s1 ||| s0), hs_i (x3 + nI 1)]) (st' := []) (h' := h) (fun n w => w) ?_
  exact hk4 _ _ _ _ _  e q
def hb_41_4 (o : Nat) (k4 : Int32 × Int32 × Int32 × hs_H → Option (Int32 × hs_H)) (x1 : Int32) (x2 : Int32) (x3 : Int32)  (h : hs_H) : Option (Int32 × hs_H) := if (h.1 4 o 1) ≤ x3 then (some (x2, h)) else ((hf_147 x1 x3 h).bind (fun q2 => if q2.1 = 0 then (hb_41_30 o k4 x1 x3 (nI 0) x2 q2.2) else ((hf_40 o x3 q2.2).bind (fun q4 => hb_41_30 o k4 x1 x3 q4.1 x2 q4.2))))
set_option maxHeartbeats 1000000 in
theorem hw_41_4 {S : hs_S} {d : Nat} {Q : hs_Q} (hd : 3 ≤ d) {o : Nat} {k4 : Int32 × Int32 × Int32 × hs_H → Option (Int32 × hs_H)} (hk4 : ∀ (x1 : Int32) (x2 : Int32) (x3 : Int32) (h : hs_H) (r : Int32 × hs_H) , k4 (x1, x2, x3, h) = some r → Q (some (hs_i r.1)) r.2 → hs_W S d 1 hs_p41 Q 4 [hs_r 4 o, hs_i x1, hs_i x2, hs_i x3] [] h) {x1 : Int32} {x2 : Int32} {x3 : Int32}   {h : hs_H} {r : Int32 × hs_H} (e : hb_41_4 o k4 x1 x2 x3 h = some r) (q : Q (some (hs_i r.1)) r.2) : hs_W S d 1 hs_p41 Q 4 [hs_r 4 o, hs_i x1, hs_i x2, hs_i x3] [] h := by
  unfold hb_41_4 at e
  refine hs_wb 4 (c := (h.1 4 o 1) ≤ x3) (t := 38) (f := 12) (ls' := [hs_r 4 o, hs_i x1, hs_i x2, hs_i x3]) (st' := []) (h' := h) (fun n w => w) (fun b1 => ?_) (fun b1 => ?_)
  · rw [if_pos b1] at e
    obtain rfl := Option.some.inj e
    exact hs_wr 2 (v := some (hs_i x2)) (h' := h) (fun n w => w) q
  · rw [if_neg b1] at e
    obtain ⟨q2, eq2, e⟩ := hs_bind_some e
    try dsimp only at e
    refine hs_wc 4 (y := 147) (a := [hs_i x1, hs_i x3]) (v := some (hs_i q2.1)) (pc' := 18) (ls' := [hs_r 4 o, hs_i x1, hs_i x2, hs_i x3]) (st' := [hs_i x2]) (h' := h) (h2 := q2.2) (fun n w => w) (fun q => hc_147 (by omega) eq2 q) ?_
    refine hs_wb 1 (c := q2.1 = 0) (t := 29) (f := 21) (ls' := [hs_r 4 o, hs_i x1, hs_i x2, hs_i x3]) (st' := [hs_i x2]) (h' := q2.2) (fun n w => w) (fun b3 => ?_) (fun b3 => ?_)
    · rw [if_pos b3] at e
      refine hs_w 1 (pc' := 30) (ls' := [hs_r 4 o, hs_i x1, hs_i x2, hs_i x3]) (st' := [hs_i (nI 0), hs_i x2]) (h' := q2.2) (fun n w => w) ?_
      exact hw_41_30 hd hk4 e q
    · rw [if_neg b3] at e
      obtain ⟨q4, eq4, e⟩ := hs_bind_some e
      try dsimp only at e
      refine hs_wc 3 (y := 40) (a := [hs_r 4 o, hs_i x3]) (v := some (hs_i q4.1)) (pc' := 26) (ls' := [hs_r 4 o, hs_i x1, hs_i x2, hs_i x3]) (st' := [hs_i x2]) (h' := q2.2) (h2 := q4.2) (fun n w => w) (fun q => hc_40 (by omega) eq4 q) ?_
      refine hs_w 1 (pc' := 30) (ls' := [hs_r 4 o, hs_i x1, hs_i x2, hs_i x3]) (st' := [hs_i q4.1, hs_i x2]) (h' := q4.2) (fun n w => w) ?_
      exact hw_41_30 hd hk4 e q
theorem hw_41_4_lp {S : hs_S} {d : Nat} {Q : hs_Q} (hd : 3 ≤ d) {o : Nat}   (n : Nat) {x1 : Int32} {x2 : Int32} {x3 : Int32} {h : hs_H} {r : Int32 × hs_H} (e : hs_lp (fun k s => hb_41_4 o k s.1 s.2.1 s.2.2.1 s.2.2.2) n (x1, x2, x3, h) = some r)  (q : Q (some (hs_i r.1)) r.2) : hs_W S d 1 hs_p41 Q 4 [hs_r 4 o, hs_i x1, hs_i x2, hs_i x3] [] h := by
  refine hs_lp_ind (P := fun (s : Int32 × Int32 × Int32 × hs_H) (r : Int32 × hs_H) => ∀ (_ : True), Q (some (hs_i r.1)) r.2 → hs_W S d 1 hs_p41 Q 4 [hs_r 4 o, hs_i s.1, hs_i s.2.1, hs_i s.2.2.1] [] s.2.2.2) (fun k hk s r e _ q => ?_) n (x1, x2, x3, h) r e trivial q
  exact hw_41_4 hd (fun x1 x2 x3 h r  e q => hk (x1, x2, x3, h) r e trivial q) e q
/-- HuntedScent$Net.stepsOfAll(I)I -/
def hf_41 (o : Nat) (a1 : Int32) (h : hs_H) : Option (Int32 × hs_H) := hs_lp (fun k s => hb_41_4 o k s.1 s.2.1 s.2.2.1 s.2.2.2) hs_big (a1, nI 0, nI 0, h)
set_option maxHeartbeats 1000000 in
theorem hc_41 {S : hs_S} {D : Nat} {Q : hs_Q} (hD : 4 ≤ D) {o : Nat} {a1 : Int32} {h : hs_H} {r : Int32 × hs_H} (e : hf_41 o a1 h = some r) (q : Q (some (hs_i r.1)) r.2) : hs_call hs_ms S D 41 [hs_r 4 o, hs_i a1] h Q := by
  refine hs_go (R := 3) hD rfl (Nat.le_of_ble_eq_true rfl) (fun d hd => ?_)
  show hs_W S d 1 hs_p41 Q 0 [hs_r 4 o, hs_i a1, hs_u, hs_u] [] h
  unfold hf_41 at e
  refine hs_w 4 (pc' := 4) (ls' := [hs_r 4 o, hs_i a1, hs_i (nI 0), hs_i (nI 0)]) (st' := []) (h' := h) (fun n w => w) ?_
  exact hw_41_4_lp hd hs_big e  q
def hb_130_38    (s0 : Int32) (h : hs_H) : Option (Int32 × hs_H) := some (s0, h)
set_option maxHeartbeats 1000000 in
theorem hw_130_38 {S : hs_S} {d : Nat} {Q : hs_Q} (hd : 4 ≤ d)     {s0 : Int32} {v1 : hs_V} {v2 : hs_V} {h : hs_H} {r : Int32 × hs_H} (e : hb_130_38 s0 h = some r) (q : Q (some (hs_i r.1)) r.2) : hs_W S d 1 hs_p130 Q 38 [hs_r 11 0, v1, v2] [hs_i s0] h := by
  unfold hb_130_38 at e
  obtain rfl := Option.some.inj e
  exact hs_wr 1 (v := some (hs_i s0)) (h' := h) (fun n w => w) q
def hb_130_37     (h : hs_H) : Option (Int32 × hs_H) := hb_130_38 (nI 4294967295) h
set_option maxHeartbeats 1000000 in
theorem hw_130_37 {S : hs_S} {d : Nat} {Q : hs_Q} (hd : 4 ≤ d)      {v1 : hs_V} {v2 : hs_V} {h : hs_H} {r : Int32 × hs_H} (e : hb_130_37 h = some r) (q : Q (some (hs_i r.1)) r.2) : hs_W S d 1 hs_p130 Q 37 [hs_r 11 0, v1, v2] [] h := by
  unfold hb_130_37 at e
  refine hs_w 1 (pc' := 38) (ls' := [hs_r 11 0, v1, v2]) (st' := [hs_i (nI 4294967295)]) (h' := h) (fun n w => w) ?_
  exact hw_130_38 hd e q
/-- HuntedScent.left(II)I -/
def hf_130 (a1 : Int32) (a2 : Int32) (h : hs_H) : Option (Int32 × hs_H) := (hf_30 0 a1 h).bind (fun q1 => if q1.1 = 0 then (hb_130_37 q1.2) else ((hf_30 0 a2 q1.2).bind (fun q3 => if q3.1 = 0 then (hb_130_37 q3.2) else ((hf_41 0 (a1 &&& (a2 ^^^ (nI 4294967295))) q3.2).bind (fun q5 => hb_130_38 q5.1 q5.2)))))
set_option maxHeartbeats 1000000 in
theorem hc_130 {S : hs_S} {D : Nat} {Q : hs_Q} (hD : 5 ≤ D) {a1 : Int32} {a2 : Int32} {h : hs_H} {r : Int32 × hs_H} (e : hf_130 a1 a2 h = some r) (q : Q (some (hs_i r.1)) r.2) : hs_call hs_ms S D 130 [hs_r 11 0, hs_i a1, hs_i a2] h Q := by
  refine hs_go (R := 4) hD rfl (Nat.le_of_ble_eq_true rfl) (fun d hd => ?_)
  show hs_W S d 1 hs_p130 Q 0 [hs_r 11 0, hs_i a1, hs_i a2] [] h
  unfold hf_130 at e
  obtain ⟨q1, eq1, e⟩ := hs_bind_some e
  try dsimp only at e
  refine hs_wc 4 (y := 30) (a := [hs_r 4 0, hs_i a1]) (v := some (hs_i q1.1)) (pc' := 8) (ls' := [hs_r 11 0, hs_i a1, hs_i a2]) (st' := []) (h' := h) (h2 := q1.2) (fun n w => w) (fun q => hc_30 (by omega) eq1 q) ?_
  refine hs_wb 1 (c := q1.1 = 0) (t := 37) (f := 11) (ls' := [hs_r 11 0, hs_i a1, hs_i a2]) (st' := []) (h' := q1.2) (fun n w => w) (fun b2 => ?_) (fun b2 => ?_)
  · rw [if_pos b2] at e
    exact hw_130_37 hd e q
  · rw [if_neg b2] at e
    obtain ⟨q3, eq3, e⟩ := hs_bind_some e
    try dsimp only at e
    refine hs_wc 4 (y := 30) (a := [hs_r 4 0, hs_i a2]) (v := some (hs_i q3.1)) (pc' := 19) (ls' := [hs_r 11 0, hs_i a1, hs_i a2]) (st' := []) (h' := q1.2) (h2 := q3.2) (fun n w => w) (fun q => hc_30 (by omega) eq3 q) ?_
    refine hs_wb 1 (c := q3.1 = 0) (t := 37) (f := 22) (ls' := [hs_r 11 0, hs_i a1, hs_i a2]) (st' := []) (h' := q3.2) (fun n w => w) (fun b4 => ?_) (fun b4 => ?_)
    · rw [if_pos b4] at e
      exact hw_130_37 hd e q
    · rw [if_neg b4] at e
      obtain ⟨q5, eq5, e⟩ := hs_bind_some e
      try dsimp only at e
      refine hs_wc 8 (y := 41) (a := [hs_r 4 0, hs_i (a1 &&& (a2 ^^^ (nI 4294967295)))]) (v := some (hs_i q5.1)) (pc' := 34) (ls' := [hs_r 11 0, hs_i a1, hs_i a2]) (st' := []) (h' := q3.2) (h2 := q5.2) (fun n w => w) (fun q => hc_41 (by omega) eq5 q) ?_
      refine hs_w 1 (pc' := 38) (ls' := [hs_r 11 0, hs_i a1, hs_i a2]) (st' := [hs_i q5.1]) (h' := q5.2) (fun n w => w) ?_
      exact hw_130_38 hd e q
def hb_241_18   (x2 : Int32)  (h : hs_H) : Option (Int32 × hs_H) := some (x2, h)
set_option maxHeartbeats 1000000 in
theorem hw_241_18 {S : hs_S} {d : Nat} {Q : hs_Q} (hd : 0 ≤ d)    {x2 : Int32}  {v0 : hs_V} {v1 : hs_V} {h : hs_H} {r : Int32 × hs_H} (e : hb_241_18 x2 h = some r) (q : Q (some (hs_i r.1)) r.2) : hs_W S d 1 hs_p241 Q 18 [v0, v1, hs_i x2] [] h := by
  unfold hb_241_18 at e
  obtain rfl := Option.some.inj e
  exact hs_wr 2 (v := some (hs_i x2)) (h' := h) (fun n w => w) q
/-- java/lang/Math.floorMod(II)I -/
def hf_241 (a0 : Int32) (a1 : Int32) (h : hs_H) : Option (Int32 × hs_H) := hs_ck (hs_nz a1) (if 0 ≤ (a0 ^^^ a1) then (hb_241_18 (a0 - a0 / a1 * a1) h) else (if (a0 - a0 / a1 * a1) = 0 then (hb_241_18 (a0 - a0 / a1 * a1) h) else (some ((a0 - a0 / a1 * a1) + a1, h))))
set_option maxHeartbeats 1000000 in
theorem hc_241 {S : hs_S} {D : Nat} {Q : hs_Q} (hD : 1 ≤ D) {a0 : Int32} {a1 : Int32} {h : hs_H} {r : Int32 × hs_H} (e : hf_241 a0 a1 h = some r) (q : Q (some (hs_i r.1)) r.2) : hs_call hs_ms S D 241 [hs_i a0, hs_i a1] h Q := by
  refine hs_go (R := 0) hD rfl (Nat.le_of_ble_eq_true rfl) (fun d hd => ?_)
  show hs_W S d 1 hs_p241 Q 0 [hs_i a0, hs_i a1, hs_u] [] h
  unfold hf_241 at e
  obtain ⟨c1, e⟩ := hs_ck_some e
  refine hs_wa 3 (c := ¬ a1 = 0) (pc' := 3) (ls' := [hs_i a0, hs_i a1, hs_u]) (st' := [hs_i (a0 - a0 / a1 * a1)]) (h' := h) (fun n w => w) (hs_nz_iff.mp c1) ?_
  refine hs_wb 5 (c := 0 ≤ (a0 ^^^ a1)) (t := 18) (f := 10) (ls' := [hs_i a0, hs_i a1, hs_i (a0 - a0 / a1 * a1)]) (st' := []) (h' := h) (fun n w => w) (fun b2 => ?_) (fun b2 => ?_)
  · rw [if_pos b2] at e
    exact hw_241_18 hd e q
  · rw [if_neg b2] at e
    refine hs_wb 2 (c := (a0 - a0 / a1 * a1) = 0) (t := 18) (f := 14) (ls' := [hs_i a0, hs_i a1, hs_i (a0 - a0 / a1 * a1)]) (st' := []) (h' := h) (fun n w => w) (fun b3 => ?_) (fun b3 => ?_)
    · rw [if_pos b3] at e
      exact hw_241_18 hd e q
    · rw [if_neg b3] at e
      obtain rfl := Option.some.inj e
      exact hs_wr 4 (v := some (hs_i ((a0 - a0 / a1 * a1) + a1))) (h' := h) (fun n w => w) q
/-- HuntedScent$Chase.indexOf(II)I -/
def hf_21 (a0 : Int32) (a1 : Int32) (h : hs_H) : Option (Int32 × hs_H) := (hf_241 (((nI 10) * a0) + a1) (nI 100) h).bind (fun q1 => some (q1.1, q1.2))
set_option maxHeartbeats 1000000 in
theorem hc_21 {S : hs_S} {D : Nat} {Q : hs_Q} (hD : 2 ≤ D) {a0 : Int32} {a1 : Int32} {h : hs_H} {r : Int32 × hs_H} (e : hf_21 a0 a1 h = some r) (q : Q (some (hs_i r.1)) r.2) : hs_call hs_ms S D 21 [hs_i a0, hs_i a1] h Q := by
  refine hs_go (R := 1) hD rfl (Nat.le_of_ble_eq_true rfl) (fun d hd => ?_)
  show hs_W S d 1 hs_p21 Q 0 [hs_i a0, hs_i a1] [] h
  unfold hf_21 at e
  obtain ⟨q1, eq1, e⟩ := hs_bind_some e
  try dsimp only at e
  refine hs_wc 7 (y := 241) (a := [hs_i (((nI 10) * a0) + a1), hs_i (nI 100)]) (v := some (hs_i q1.1)) (pc' := 11) (ls' := [hs_i a0, hs_i a1]) (st' := []) (h' := h) (h2 := q1.2) (fun n w => w) (fun q => hc_241 (by omega) eq1 q) ?_
  obtain rfl := Option.some.inj e
  exact hs_wr 1 (v := some (hs_i q1.1)) (h' := q1.2) (fun n w => w) q
/-- HuntedScent$Chase.indexOf(III)I -/
def hf_22 (a0 : Int32) (a1 : Int32) (a2 : Int32) (h : hs_H) : Option (Int32 × hs_H) := (hf_241 ((((nI 100) * a0) + ((nI 10) * a1)) + a2) (nI 1000) h).bind (fun q1 => some (q1.1, q1.2))
set_option maxHeartbeats 1000000 in
theorem hc_22 {S : hs_S} {D : Nat} {Q : hs_Q} (hD : 2 ≤ D) {a0 : Int32} {a1 : Int32} {a2 : Int32} {h : hs_H} {r : Int32 × hs_H} (e : hf_22 a0 a1 a2 h = some r) (q : Q (some (hs_i r.1)) r.2) : hs_call hs_ms S D 22 [hs_i a0, hs_i a1, hs_i a2] h Q := by
  refine hs_go (R := 1) hD rfl (Nat.le_of_ble_eq_true rfl) (fun d hd => ?_)
  show hs_W S d 1 hs_p22 Q 0 [hs_i a0, hs_i a1, hs_i a2] [] h
  unfold hf_22 at e
  obtain ⟨q1, eq1, e⟩ := hs_bind_some e
  try dsimp only at e
  refine hs_wc 11 (y := 241) (a := [hs_i ((((nI 100) * a0) + ((nI 10) * a1)) + a2), hs_i (nI 1000)]) (v := some (hs_i q1.1)) (pc' := 17) (ls' := [hs_i a0, hs_i a1, hs_i a2]) (st' := []) (h' := h) (h2 := q1.2) (fun n w => w) (fun q => hc_241 (by omega) eq1 q) ?_
  obtain rfl := Option.some.inj e
  exact hs_wr 1 (v := some (hs_i q1.1)) (h' := q1.2) (fun n w => w) q
def hb_11_38  (k25 : Int32 × hs_H → Option (hs_H)) (k38 : Int32 × Int32 × hs_H → Option (hs_H)) (x1 : Int32) (x2 : Int32)  (h : hs_H) : Option (hs_H) := if (h.1 4 0 1) ≤ x2 then (k25 (x1 + nI 1, h)) else ((hf_21 x1 x2 h).bind (fun q4 => hs_ck (hs_inb q4.1 100) ((hf_22 x1 x1 x2 (hs_put q4.2 25 0 q4.1.toNatClampNeg (((nI 1) <<< (x1 &&& 31)) ||| ((nI 1) <<< (x2 &&& 31))))).bind (fun q6 => hs_ck (hs_inb q6.1 1000) ((hf_22 x2 x1 x2 (hs_put q6.2 24 0 q6.1.toNatClampNeg (nI 0))).bind (fun q8 => hs_ck (hs_inb q8.1 1000) (k38 (x1, x2 + nI 1, hs_put q8.2 24 0 q8.1.toNatClampNeg (nI 0)))))))))
set_option maxHeartbeats 1000000 in
theorem hw_11_38 {S : hs_S} {d : Nat} {Q : hs_Q} (hd : 2 ≤ d)  {k25 : Int32 × hs_H → Option (hs_H)} {k38 : Int32 × Int32 × hs_H → Option (hs_H)} (hk25 : ∀ (x1 : Int32) (h : hs_H) (r : hs_H) (v2 : hs_V), k25 (x1, h) = some r → Q none r → hs_W S d 0 hs_p11 Q 25 [hs_r 1 0, hs_i x1, v2] [] h) (hk38 : ∀ (x1 : Int32) (x2 : Int32) (h : hs_H) (r : hs_H) , k38 (x1, x2, h) = some r → Q none r → hs_W S d 0 hs_p11 Q 38 [hs_r 1 0, hs_i x1, hs_i x2] [] h) {x1 : Int32} {x2 : Int32}   {h : hs_H} {r : hs_H} (e : hb_11_38 k25 k38 x1 x2 h = some r) (q : Q none r) : hs_W S d 0 hs_p11 Q 38 [hs_r 1 0, hs_i x1, hs_i x2] [] h := by
  unfold hb_11_38 at e
  refine hs_wb 5 (c := (h.1 4 0 1) ≤ x2) (t := 96) (f := 49) (ls' := [hs_r 1 0, hs_i x1, hs_i x2]) (st' := []) (h' := h) (fun n w => w) (fun b3 => ?_) (fun b3 => ?_)
  · rw [if_pos b3] at e
    refine hs_w 2 (pc' := 25) (ls' := [hs_r 1 0, hs_i (x1 + nI 1), hs_i x2]) (st' := []) (h' := h) (fun n w => w) ?_
    exact hk25 _ _ _ _ e q
  · rw [if_neg b3] at e
    obtain ⟨q4, eq4, e⟩ := hs_bind_some e
    try dsimp only at e
    refine hs_wc 5 (y := 21) (a := [hs_i x1, hs_i x2]) (v := some (hs_i q4.1)) (pc' := 58) (ls' := [hs_r 1 0, hs_i x1, hs_i x2]) (st' := [hs_r 25 0]) (h' := h) (h2 := q4.2) (fun n w => w) (fun q => hc_21 (by omega) eq4 q) ?_
    obtain ⟨c5, e⟩ := hs_ck_some e
    refine hs_wa 8 (c := vp_in q4.1 100) (pc' := 66) (ls' := [hs_r 1 0, hs_i x1, hs_i x2]) (st' := []) (h' := hs_put q4.2 25 0 q4.1.toNatClampNeg (((nI 1) <<< (x1 &&& 31)) ||| ((nI 1) <<< (x2 &&& 31)))) (fun n w => w) (hs_inb_iff.mp c5) ?_
    obtain ⟨q6, eq6, e⟩ := hs_bind_some e
    try dsimp only at e
    refine hs_wc 6 (y := 22) (a := [hs_i x1, hs_i x1, hs_i x2]) (v := some (hs_i q6.1)) (pc' := 76) (ls' := [hs_r 1 0, hs_i x1, hs_i x2]) (st' := [hs_r 24 0]) (h' := hs_put q4.2 25 0 q4.1.toNatClampNeg (((nI 1) <<< (x1 &&& 31)) ||| ((nI 1) <<< (x2 &&& 31)))) (h2 := q6.2) (fun n w => w) (fun q => hc_22 (by omega) eq6 q) ?_
    obtain ⟨c7, e⟩ := hs_ck_some e
    refine hs_wa 2 (c := vp_in q6.1 1000) (pc' := 78) (ls' := [hs_r 1 0, hs_i x1, hs_i x2]) (st' := []) (h' := hs_put q6.2 24 0 q6.1.toNatClampNeg (nI 0)) (fun n w => w) (hs_inb_iff.mp c7) ?_
    obtain ⟨q8, eq8, e⟩ := hs_bind_some e
    try dsimp only at e
    refine hs_wc 6 (y := 22) (a := [hs_i x2, hs_i x1, hs_i x2]) (v := some (hs_i q8.1)) (pc' := 88) (ls' := [hs_r 1 0, hs_i x1, hs_i x2]) (st' := [hs_r 24 0]) (h' := hs_put q6.2 24 0 q6.1.toNatClampNeg (nI 0)) (h2 := q8.2) (fun n w => w) (fun q => hc_22 (by omega) eq8 q) ?_
    obtain ⟨c9, e⟩ := hs_ck_some e
    refine hs_wa 2 (c := vp_in q8.1 1000) (pc' := 90) (ls' := [hs_r 1 0, hs_i x1, hs_i x2]) (st' := []) (h' := hs_put q8.2 24 0 q8.1.toNatClampNeg (nI 0)) (fun n w => w) (hs_inb_iff.mp c9) ?_
    refine hs_w 2 (pc' := 38) (ls' := [hs_r 1 0, hs_i x1, hs_i (x2 + nI 1)]) (st' := []) (h' := hs_put q8.2 24 0 q8.1.toNatClampNeg (nI 0)) (fun n w => w) ?_
    exact hk38 _ _ _ _  e q
theorem hw_11_38_lp {S : hs_S} {d : Nat} {Q : hs_Q} (hd : 2 ≤ d)  {k25 : Int32 × hs_H → Option (hs_H)} (hk25 : ∀ (x1 : Int32) (h : hs_H) (r : hs_H) (v2 : hs_V), k25 (x1, h) = some r → Q none r → hs_W S d 0 hs_p11 Q 25 [hs_r 1 0, hs_i x1, v2] [] h) (n : Nat) {x1 : Int32} {x2 : Int32} {h : hs_H} {r : hs_H} (e : hs_lp (fun k s => hb_11_38 k25 k s.1 s.2.1 s.2.2) n (x1, x2, h) = some r)  (q : Q none r) : hs_W S d 0 hs_p11 Q 38 [hs_r 1 0, hs_i x1, hs_i x2] [] h := by
  refine hs_lp_ind (P := fun (s : Int32 × Int32 × hs_H) (r : hs_H) => ∀ (_ : True), Q none r → hs_W S d 0 hs_p11 Q 38 [hs_r 1 0, hs_i s.1, hs_i s.2.1] [] s.2.2) (fun k hk s r e _ q => ?_) n (x1, x2, h) r e trivial q
  exact hw_11_38 hd hk25 (fun x1 x2 h r  e q => hk (x1, x2, h) r e trivial q) e q
def hb_11_25  (k25 : Int32 × hs_H → Option (hs_H)) (x1 : Int32)  (h : hs_H) : Option (hs_H) := if (h.1 4 0 1) ≤ x1 then (some h) else (hs_lp (fun k s => hb_11_38 k25 k s.1 s.2.1 s.2.2) hs_big (x1, nI 0, h))
set_option maxHeartbeats 1000000 in
theorem hw_11_25 {S : hs_S} {d : Nat} {Q : hs_Q} (hd : 2 ≤ d)  {k25 : Int32 × hs_H → Option (hs_H)} (hk25 : ∀ (x1 : Int32) (h : hs_H) (r : hs_H) (v2 : hs_V), k25 (x1, h) = some r → Q none r → hs_W S d 0 hs_p11 Q 25 [hs_r 1 0, hs_i x1, v2] [] h) {x1 : Int32}  {v2 : hs_V} {h : hs_H} {r : hs_H} (e : hb_11_25 k25 x1 h = some r) (q : Q none r) : hs_W S d 0 hs_p11 Q 25 [hs_r 1 0, hs_i x1, v2] [] h := by
  unfold hb_11_25 at e
  refine hs_wb 5 (c := (h.1 4 0 1) ≤ x1) (t := 102) (f := 36) (ls' := [hs_r 1 0, hs_i x1, v2]) (st' := []) (h' := h) (fun n w => w) (fun b2 => ?_) (fun b2 => ?_)
  · rw [if_pos b2] at e
    obtain rfl := Option.some.inj e
    exact hs_wr 1 (v := none) (h' := h) (fun n w => w) q
  · rw [if_neg b2] at e
    refine hs_w 2 (pc' := 38) (ls' := [hs_r 1 0, hs_i x1, hs_i (nI 0)]) (st' := []) (h' := h) (fun n w => w) ?_
    exact hw_11_38_lp hd hk25 hs_big e  q
theorem hw_11_25_lp {S : hs_S} {d : Nat} {Q : hs_Q} (hd : 2 ≤ d)    (n : Nat) {x1 : Int32} {h : hs_H} {r : hs_H} (e : hs_lp (fun k s => hb_11_25 k s.1 s.2) n (x1, h) = some r) (v2 : hs_V) (q : Q none r) : hs_W S d 0 hs_p11 Q 25 [hs_r 1 0, hs_i x1, v2] [] h := by
  refine hs_lp_ind (P := fun (s : Int32 × hs_H) (r : hs_H) => ∀ (v2 : hs_V), Q none r → hs_W S d 0 hs_p11 Q 25 [hs_r 1 0, hs_i s.1, v2] [] s.2) (fun k hk s r e v2 q => ?_) n (x1, h) r e v2 q
  exact hw_11_25 hd (fun x1 h r v2 e q => hk (x1, h) r e v2 q) e q
def hb_11_2  (k2 : Int32 × hs_H → Option (hs_H)) (x1 : Int32)  (h : hs_H) : Option (hs_H) := if (nI 1000) ≤ x1 then (hs_lp (fun k s => hb_11_25 k s.1 s.2) hs_big (nI 0, h)) else (hs_ck (hs_inb x1 1000) (k2 (x1 + nI 1, hs_put h 24 0 x1.toNatClampNeg (nI 1000000))))
set_option maxHeartbeats 1000000 in
theorem hw_11_2 {S : hs_S} {d : Nat} {Q : hs_Q} (hd : 2 ≤ d)  {k2 : Int32 × hs_H → Option (hs_H)} (hk2 : ∀ (x1 : Int32) (h : hs_H) (r : hs_H) (v2 : hs_V), k2 (x1, h) = some r → Q none r → hs_W S d 0 hs_p11 Q 2 [hs_r 1 0, hs_i x1, v2] [] h) {x1 : Int32}  {v2 : hs_V} {h : hs_H} {r : hs_H} (e : hb_11_2 k2 x1 h = some r) (q : Q none r) : hs_W S d 0 hs_p11 Q 2 [hs_r 1 0, hs_i x1, v2] [] h := by
  unfold hb_11_2 at e
  refine hs_wb 3 (c := (nI 1000) ≤ x1) (t := 23) (f := 9) (ls' := [hs_r 1 0, hs_i x1, v2]) (st' := []) (h' := h) (fun n w => w) (fun b1 => ?_) (fun b1 => ?_)
  · rw [if_pos b1] at e
    refine hs_w 2 (pc' := 25) (ls' := [hs_r 1 0, hs_i (nI 0), v2]) (st' := []) (h' := h) (fun n w => w) ?_
    exact hw_11_25_lp hd hs_big e _ q
  · rw [if_neg b1] at e
    obtain ⟨c10, e⟩ := hs_ck_some e
    refine hs_wa 5 (c := vp_in x1 1000) (pc' := 17) (ls' := [hs_r 1 0, hs_i x1, v2]) (st' := []) (h' := hs_put h 24 0 x1.toNatClampNeg (nI 1000000)) (fun n w => w) (hs_inb_iff.mp c10) ?_
    refine hs_w 2 (pc' := 2) (ls' := [hs_r 1 0, hs_i (x1 + nI 1), v2]) (st' := []) (h' := hs_put h 24 0 x1.toNatClampNeg (nI 1000000)) (fun n w => w) ?_
    exact hk2 _ _ _ _ e q
theorem hw_11_2_lp {S : hs_S} {d : Nat} {Q : hs_Q} (hd : 2 ≤ d)    (n : Nat) {x1 : Int32} {h : hs_H} {r : hs_H} (e : hs_lp (fun k s => hb_11_2 k s.1 s.2) n (x1, h) = some r) (v2 : hs_V) (q : Q none r) : hs_W S d 0 hs_p11 Q 2 [hs_r 1 0, hs_i x1, v2] [] h := by
  refine hs_lp_ind (P := fun (s : Int32 × hs_H) (r : hs_H) => ∀ (v2 : hs_V), Q none r → hs_W S d 0 hs_p11 Q 2 [hs_r 1 0, hs_i s.1, v2] [] s.2) (fun k hk s r e v2 q => ?_) n (x1, h) r e v2 q
  exact hw_11_2 hd (fun x1 h r v2 e q => hk (x1, h) r e v2 q) e q
/-- HuntedScent$Chase.setOut()V -/
def hf_11  (h : hs_H) : Option (hs_H) := hs_lp (fun k s => hb_11_2 k s.1 s.2) hs_big (nI 0, h)
set_option maxHeartbeats 1000000 in
theorem hc_11 {S : hs_S} {D : Nat} {Q : hs_Q} (hD : 3 ≤ D)  {h : hs_H} {r : hs_H} (e : hf_11 h = some r) (q : Q none r) : hs_call hs_ms S D 11 [hs_r 1 0] h Q := by
  refine hs_go (R := 2) hD rfl (Nat.le_of_ble_eq_true rfl) (fun d hd => ?_)
  show hs_W S d 0 hs_p11 Q 0 [hs_r 1 0, hs_u, hs_u] [] h
  unfold hf_11 at e
  refine hs_w 2 (pc' := 2) (ls' := [hs_r 1 0, hs_i (nI 0), hs_u]) (st' := []) (h' := h) (fun n w => w) ?_
  exact hw_11_2_lp hd hs_big e _ q
/-- HuntedScent$Chase.reachOf(I)I -/
def hf_20 (a1 : Int32) (h : hs_H) : Option (Int32 × hs_H) := (hf_32 0 a1 h).bind (fun q1 => some (q1.1 ||| ((nI 1) <<< (a1 &&& 31)), q1.2))
set_option maxHeartbeats 1000000 in
theorem hc_20 {S : hs_S} {D : Nat} {Q : hs_Q} (hD : 2 ≤ D) {a1 : Int32} {h : hs_H} {r : Int32 × hs_H} (e : hf_20 a1 h = some r) (q : Q (some (hs_i r.1)) r.2) : hs_call hs_ms S D 20 [hs_r 1 0, hs_i a1] h Q := by
  refine hs_go (R := 1) hD rfl (Nat.le_of_ble_eq_true rfl) (fun d hd => ?_)
  show hs_W S d 1 hs_p20 Q 0 [hs_r 1 0, hs_i a1] [] h
  unfold hf_20 at e
  obtain ⟨q1, eq1, e⟩ := hs_bind_some e
  try dsimp only at e
  refine hs_wc 4 (y := 32) (a := [hs_r 4 0, hs_i a1]) (v := some (hs_i q1.1)) (pc' := 8) (ls' := [hs_r 1 0, hs_i a1]) (st' := []) (h' := h) (h2 := q1.2) (fun n w => w) (fun q => hc_32 (by omega) eq1 q) ?_
  obtain rfl := Option.some.inj e
  exact hs_wr 5 (v := some (hs_i (q1.1 ||| ((nI 1) <<< (a1 &&& 31))))) (h' := q1.2) (fun n w => w) q
def hb_14_92  (k19 : Int32 × Int32 × Int32 × Int32 × hs_H → Option (Int32 × hs_H)) (x3 : Int32) (x4 : Int32) (x5 : Int32) (x6 : Int32)  (h : hs_H) : Option (Int32 × hs_H) := k19 (x3, x4, x5, x6 + nI 1, h)
set_option maxHeartbeats 1000000 in
theorem hw_14_92 {S : hs_S} {d : Nat} {Q : hs_Q} (hd : 2 ≤ d)  {k19 : Int32 × Int32 × Int32 × Int32 × hs_H → Option (Int32 × hs_H)} (hk19 : ∀ (x3 : Int32) (x4 : Int32) (x5 : Int32) (x6 : Int32) (h : hs_H) (r : Int32 × hs_H) (v1 : hs_V) (v2 : hs_V) (v7 : hs_V), k19 (x3, x4, x5, x6, h) = some r → Q (some (hs_i r.1)) r.2 → hs_W S d 1 hs_p14 Q 19 [hs_r 1 0, v1, v2, hs_i x3, hs_i x4, hs_i x5, hs_i x6, v7] [] h) {x3 : Int32} {x4 : Int32} {x5 : Int32} {x6 : Int32}  {v1 : hs_V} {v2 : hs_V} {v7 : hs_V} {h : hs_H} {r : Int32 × hs_H} (e : hb_14_92 k19 x3 x4 x5 x6 h = some r) (q : Q (some (hs_i r.1)) r.2) : hs_W S d 1 hs_p14 Q 92 [hs_r 1 0, v1, v2, hs_i x3, hs_i x4, hs_i x5, hs_i x6, v7] [] h := by
  unfold hb_14_92 at e
  refine hs_w 2 (pc' := 19) (ls' := [hs_r 1 0, v1, v2, hs_i x3, hs_i x4, hs_i x5, hs_i (x6 + nI 1), v7]) (st' := []) (h' := h) (fun n w => w) ?_
  exact hk19 _ _ _ _ _ _ _ _ _ e q
def hb_14_83  (k19 : Int32 × Int32 × Int32 × Int32 × hs_H → Option (Int32 × hs_H)) (k34 : Int32 × Int32 × Int32 × Int32 × Int32 × hs_H → Option (Int32 × hs_H)) (x3 : Int32) (x4 : Int32) (x6 : Int32) (x7 : Int32) (s0 : Int32) (s1 : Int32) (h : hs_H) : Option (Int32 × hs_H) := k34 (x3, x4, s1 ||| s0, x6, x7 + nI 1, h)
set_option maxHeartbeats 1000000 in
theorem hw_14_83 {S : hs_S} {d : Nat} {Q : hs_Q} (hd : 2 ≤ d)  {k19 : Int32 × Int32 × Int32 × Int32 × hs_H → Option (Int32 × hs_H)} {k34 : Int32 × Int32 × Int32 × Int32 × Int32 × hs_H → Option (Int32 × hs_H)} (hk19 : ∀ (x3 : Int32) (x4 : Int32) (x5 : Int32) (x6 : Int32) (h : hs_H) (r : Int32 × hs_H) (v1 : hs_V) (v2 : hs_V) (v7 : hs_V), k19 (x3, x4, x5, x6, h) = some r → Q (some (hs_i r.1)) r.2 → hs_W S d 1 hs_p14 Q 19 [hs_r 1 0, v1, v2, hs_i x3, hs_i x4, hs_i x5, hs_i x6, v7] [] h) (hk34 : ∀ (x3 : Int32) (x4 : Int32) (x5 : Int32) (x6 : Int32) (x7 : Int32) (h : hs_H) (r : Int32 × hs_H) (v1 : hs_V) (v2 : hs_V), k34 (x3, x4, x5, x6, x7, h) = some r → Q (some (hs_i r.1)) r.2 → hs_W S d 1 hs_p14 Q 34 [hs_r 1 0, v1, v2, hs_i x3, hs_i x4, hs_i x5, hs_i x6, hs_i x7] [] h) {x3 : Int32} {x4 : Int32} {x6 : Int32} {x7 : Int32} {s0 : Int32} {s1 : Int32} {v1 : hs_V} {v2 : hs_V} {v5 : hs_V} {h : hs_H} {r : Int32 × hs_H} (e : hb_14_83 k19 k34 x3 x4 x6 x7 s0 s1 h = some r) (q : Q (some (hs_i r.1)) r.2) : hs_W S d 1 hs_p14 Q 83 [hs_r 1 0, v1, v2, hs_i x3, hs_i x4, v5, hs_i x6, hs_i x7] [hs_i s0, hs_i s1] h := by
  unfold hb_14_83 at e
  refine hs_w 4 (pc' := 34) (ls' := [hs_r 1 0, v1, v2, hs_i x3, hs_i x4, hs_i (s1 ||| s0), hs_i x6, hs_i (x7 + nI 1)]) (st' := []) (h' := h) (fun n w => w) ?_
  exact hk34 _ _ _ _ _ _ _ _ _ e q
def hb_14_34  (k19 : Int32 × Int32 × Int32 × Int32 × hs_H → Option (Int32 × hs_H)) (k34 : Int32 × Int32 × Int32 × Int32 × Int32 × hs_H → Option (Int32 × hs_H)) (x3 : Int32) (x4 : Int32) (x5 : Int32) (x6 : Int32) (x7 : Int32)  (h : hs_H) : Option (Int32 × hs_H) := if (h.1 4 0 1) ≤ x7 then (hb_14_92 k19 x3 x4 x5 x6 h) else ((hf_147 x3 x6 h).bind (fun q5 => if q5.1 = 0 then (hb_14_92 k19 x3 x4 x5 x6 q5.2) else ((hf_147 x4 x7 q5.2).bind (fun q7 => if q7.1 = 0 then (hb_14_83 k19 k34 x3 x4 x6 x7 (nI 0) x5 q7.2) else ((hf_21 x6 x7 q7.2).bind (fun q9 => hs_ck (hs_inb q9.1 100) (hb_14_83 k19 k34 x3 x4 x6 x7 (q9.2.1 25 0 q9.1.toNatClampNeg) x5 q9.2)))))))
set_option maxHeartbeats 1000000 in
theorem hw_14_34 {S : hs_S} {d : Nat} {Q : hs_Q} (hd : 2 ≤ d)  {k19 : Int32 × Int32 × Int32 × Int32 × hs_H → Option (Int32 × hs_H)} {k34 : Int32 × Int32 × Int32 × Int32 × Int32 × hs_H → Option (Int32 × hs_H)} (hk19 : ∀ (x3 : Int32) (x4 : Int32) (x5 : Int32) (x6 : Int32) (h : hs_H) (r : Int32 × hs_H) (v1 : hs_V) (v2 : hs_V) (v7 : hs_V), k19 (x3, x4, x5, x6, h) = some r → Q (some (hs_i r.1)) r.2 → hs_W S d 1 hs_p14 Q 19 [hs_r 1 0, v1, v2, hs_i x3, hs_i x4, hs_i x5, hs_i x6, v7] [] h) (hk34 : ∀ (x3 : Int32) (x4 : Int32) (x5 : Int32) (x6 : Int32) (x7 : Int32) (h : hs_H) (r : Int32 × hs_H) (v1 : hs_V) (v2 : hs_V), k34 (x3, x4, x5, x6, x7, h) = some r → Q (some (hs_i r.1)) r.2 → hs_W S d 1 hs_p14 Q 34 [hs_r 1 0, v1, v2, hs_i x3, hs_i x4, hs_i x5, hs_i x6, hs_i x7] [] h) {x3 : Int32} {x4 : Int32} {x5 : Int32} {x6 : Int32} {x7 : Int32}  {v1 : hs_V} {v2 : hs_V} {h : hs_H} {r : Int32 × hs_H} (e : hb_14_34 k19 k34 x3 x4 x5 x6 x7 h = some r) (q : Q (some (hs_i r.1)) r.2) : hs_W S d 1 hs_p14 Q 34 [hs_r 1 0, v1, v2, hs_i x3, hs_i x4, hs_i x5, hs_i x6, hs_i x7] [] h := by
  unfold hb_14_34 at e
  refine hs_wb 5 (c := (h.1 4 0 1) ≤ x7) (t := 92) (f := 46) (ls' := [hs_r 1 0, v1, v2, hs_i x3, hs_i x4, hs_i x5, hs_i x6, hs_i x7]) (st' := []) (h' := h) (fun n w => w) (fun b4 => ?_) (fun b4 => ?_)
  · rw [if_pos b4] at e
    exact hw_14_92 hd hk19 e q
  · rw [if_neg b4] at e
    obtain ⟨q5, eq5, e⟩ := hs_bind_some e
    try dsimp only at e
    refine hs_wc 3 (y := 147) (a := [hs_i x3, hs_i x6]) (v := some (hs_i q5.1)) (pc' := 52) (ls' := [hs_r 1 0, v1, v2, hs_i x3, hs_i x4, hs_i x5, hs_i x6, hs_i x7]) (st' := []) (h' := h) (h2 := q5.2) (fun n w => w) (fun q => hc_147 (by omega) eq5 q) ?_
    refine hs_wb 1 (c := q5.1 = 0) (t := 92) (f := 55) (ls' := [hs_r 1 0, v1, v2, hs_i x3, hs_i x4, hs_i x5, hs_i x6, hs_i x7]) (st' := []) (h' := q5.2) (fun n w => w) (fun b6 => ?_) (fun b6 => ?_)
    · rw [if_pos b6] at e
      exact hw_14_92 hd hk19 e q
    · rw [if_neg b6] at e
      obtain ⟨q7, eq7, e⟩ := hs_bind_some e
      try dsimp only at e
      refine hs_wc 4 (y := 147) (a := [hs_i x4, hs_i x7]) (v := some (hs_i q7.1)) (pc' := 64) (ls' := [hs_r 1 0, v1, v2, hs_i x3, hs_i x4, hs_i x5, hs_i x6, hs_i x7]) (st' := [hs_i x5]) (h' := q5.2) (h2 := q7.2) (fun n w => w) (fun q => hc_147 (by omega) eq7 q) ?_
      refine hs_wb 1 (c := q7.1 = 0) (t := 82) (f := 67) (ls' := [hs_r 1 0, v1, v2, hs_i x3, hs_i x4, hs_i x5, hs_i x6, hs_i x7]) (st' := [hs_i x5]) (h' := q7.2) (fun n w => w) (fun b8 => ?_) (fun b8 => ?_)
      · rw [if_pos b8] at e
        refine hs_w 1 (pc' := 83) (ls' := [hs_r 1 0, v1, v2, hs_i x3, hs_i x4, hs_i x5, hs_i x6, hs_i x7]) (st' := [hs_i (nI 0), hs_i x5]) (h' := q7.2) (fun n w => w) ?_
        exact hw_14_83 hd hk19 hk34 e q
      · rw [if_neg b8] at e
        obtain ⟨q9, eq9, e⟩ := hs_bind_some e
        try dsimp only at e
        refine hs_wc 5 (y := 21) (a := [hs_i x6, hs_i x7]) (v := some (hs_i q9.1)) (pc' := 78) (ls' := [hs_r 1 0, v1, v2, hs_i x3, hs_i x4, hs_i x5, hs_i x6, hs_i x7]) (st' := [hs_r 25 0, hs_i x5]) (h' := q7.2) (h2 := q9.2) (fun n w => w) (fun q => hc_21 (by omega) eq9 q) ?_
        obtain ⟨c10, e⟩ := hs_ck_some e
        refine hs_wa 1 (c := vp_in q9.1 100) (pc' := 79) (ls' := [hs_r 1 0, v1, v2, hs_i x3, hs_i x4, hs_i x5, hs_i x6, hs_i x7]) (st' := [hs_i (q9.2.1 25 0 q9.1.toNatClampNeg), hs_i x5]) (h' := q9.2) (fun n w => w) (hs_inb_iff.mp c10) ?_
        refine hs_w 1 (pc' := 83) (ls' := [hs_r 1 0, v1, v2, hs_i x3, hs_i x4, hs_i x5, hs_i x6, hs_i x7]) (st' := [hs_i (q9.2.1 25 0 q9.1.toNatClampNeg), hs_i x5]) (h' := q9.2) (fun n w => w) ?_
        exact hw_14_83 hd hk19 hk34 e q
theorem hw_14_34_lp {S : hs_S} {d : Nat} {Q : hs_Q} (hd : 2 ≤ d)  {k19 : Int32 × Int32 × Int32 × Int32 × hs_H → Option (Int32 × hs_H)} (hk19 : ∀ (x3 : Int32) (x4 : Int32) (x5 : Int32) (x6 : Int32) (h : hs_H) (r : Int32 × hs_H) (v1 : hs_V) (v2 : hs_V) (v7 : hs_V), k19 (x3, x4, x5, x6, h) = some r → Q (some (hs_i r.1)) r.2 → hs_W S d 1 hs_p14 Q 19 [hs_r 1 0, v1, v2, hs_i x3, hs_i x4, hs_i x5, hs_i x6, v7] [] h) (n : Nat) {x3 : Int32} {x4 : Int32} {x5 : Int32} {x6 : Int32} {x7 : Int32} {h : hs_H} {r : Int32 × hs_H} (e : hs_lp (fun k s => hb_14_34 k19 k s.1 s.2.1 s.2.2.1 s.2.2.2.1 s.2.2.2.2.1 s.2.2.2.2.2) n (x3, x4, x5, x6, x7, h) = some r) (v1 : hs_V) (v2 : hs_V) (q : Q (some (hs_i r.1)) r.2) : hs_W S d 1 hs_p14 Q 34 [hs_r 1 0, v1, v2, hs_i x3, hs_i x4, hs_i x5, hs_i x6, hs_i x7] [] h := by
  refine hs_lp_ind (P := fun (s : Int32 × Int32 × Int32 × Int32 × Int32 × hs_H) (r : Int32 × hs_H) => ∀ (v1 : hs_V) (v2 : hs_V), Q (some (hs_i r.1)) r.2 → hs_W S d 1 hs_p14 Q 34 [hs_r 1 0, v1, v2, hs_i s.1, hs_i s.2.1, hs_i s.2.2.1, hs_i s.2.2.2.1, hs_i s.2.2.2.2.1] [] s.2.2.2.2.2) (fun k hk s r e v1 v2 q => ?_) n (x3, x4, x5, x6, x7, h) r e v1 v2 q
  exact hw_14_34 hd hk19 (fun x3 x4 x5 x6 x7 h r v1 v2 e q => hk (x3, x4, x5, x6, x7, h) r e v1 v2 q) e q
def hb_14_19  (k19 : Int32 × Int32 × Int32 × Int32 × hs_H → Option (Int32 × hs_H)) (x3 : Int32) (x4 : Int32) (x5 : Int32) (x6 : Int32)  (h : hs_H) : Option (Int32 × hs_H) := if (h.1 4 0 1) ≤ x6 then (some (x5, h)) else (hs_lp (fun k s => hb_14_34 k19 k s.1 s.2.1 s.2.2.1 s.2.2.2.1 s.2.2.2.2.1 s.2.2.2.2.2) hs_big (x3, x4, x5, x6, nI 0, h))
set_option maxHeartbeats 1000000 in
theorem hw_14_19 {S : hs_S} {d : Nat} {Q : hs_Q} (hd : 2 ≤ d)  {k19 : Int32 × Int32 × Int32 × Int32 × hs_H → Option (Int32 × hs_H)} (hk19 : ∀ (x3 : Int32) (x4 : Int32) (x5 : Int32) (x6 : Int32) (h : hs_H) (r : Int32 × hs_H) (v1 : hs_V) (v2 : hs_V) (v7 : hs_V), k19 (x3, x4, x5, x6, h) = some r → Q (some (hs_i r.1)) r.2 → hs_W S d 1 hs_p14 Q 19 [hs_r 1 0, v1, v2, hs_i x3, hs_i x4, hs_i x5, hs_i x6, v7] [] h) {x3 : Int32} {x4 : Int32} {x5 : Int32} {x6 : Int32}  {v1 : hs_V} {v2 : hs_V} {v7 : hs_V} {h : hs_H} {r : Int32 × hs_H} (e : hb_14_19 k19 x3 x4 x5 x6 h = some r) (q : Q (some (hs_i r.1)) r.2) : hs_W S d 1 hs_p14 Q 19 [hs_r 1 0, v1, v2, hs_i x3, hs_i x4, hs_i x5, hs_i x6, v7] [] h := by
  unfold hb_14_19 at e
  refine hs_wb 5 (c := (h.1 4 0 1) ≤ x6) (t := 98) (f := 31) (ls' := [hs_r 1 0, v1, v2, hs_i x3, hs_i x4, hs_i x5, hs_i x6, v7]) (st' := []) (h' := h) (fun n w => w) (fun b3 => ?_) (fun b3 => ?_)
  · rw [if_pos b3] at e
    obtain rfl := Option.some.inj e
    exact hs_wr 2 (v := some (hs_i x5)) (h' := h) (fun n w => w) q
  · rw [if_neg b3] at e
    refine hs_w 2 (pc' := 34) (ls' := [hs_r 1 0, v1, v2, hs_i x3, hs_i x4, hs_i x5, hs_i x6, hs_i (nI 0)]) (st' := []) (h' := h) (fun n w => w) ?_
    exact hw_14_34_lp hd hk19 hs_big e _ _ q
theorem hw_14_19_lp {S : hs_S} {d : Nat} {Q : hs_Q} (hd : 2 ≤ d)    (n : Nat) {x3 : Int32} {x4 : Int32} {x5 : Int32} {x6 : Int32} {h : hs_H} {r : Int32 × hs_H} (e : hs_lp (fun k s => hb_14_19 k s.1 s.2.1 s.2.2.1 s.2.2.2.1 s.2.2.2.2) n (x3, x4, x5, x6, h) = some r) (v1 : hs_V) (v2 : hs_V) (v7 : hs_V) (q : Q (some (hs_i r.1)) r.2) : hs_W S d 1 hs_p14 Q 19 [hs_r 1 0, v1, v2, hs_i x3, hs_i x4, hs_i x5, hs_i x6, v7] [] h := by
  refine hs_lp_ind (P := fun (s : Int32 × Int32 × Int32 × Int32 × hs_H) (r : Int32 × hs_H) => ∀ (v1 : hs_V) (v2 : hs_V) (v7 : hs_V), Q (some (hs_i r.1)) r.2 → hs_W S d 1 hs_p14 Q 19 [hs_r 1 0, v1, v2, hs_i s.1, hs_i s.2.1, hs_i s.2.2.1, hs_i s.2.2.2.1, v7] [] s.2.2.2.2) (fun k hk s r e v1 v2 v7 q => ?_) n (x3, x4, x5, x6, h) r e v1 v2 v7 q
  exact hw_14_19 hd (fun x3 x4 x5 x6 h r v1 v2 v7 e q => hk (x3, x4, x5, x6, h) r e v1 v2 v7 q) e q
/-- HuntedScent$Chase.deadlyBy(II)I -/
def hf_14 (a1 : Int32) (a2 : Int32) (h : hs_H) : Option (Int32 × hs_H) := (hf_20 a1 h).bind (fun q1 => (hf_20 a2 q1.2).bind (fun q2 => hs_lp (fun k s => hb_14_19 k s.1 s.2.1 s.2.2.1 s.2.2.2.1 s.2.2.2.2) hs_big (q1.1, q2.1, nI 0, nI 0, q2.2)))
set_option maxHeartbeats 1000000 in
theorem hc_14 {S : hs_S} {D : Nat} {Q : hs_Q} (hD : 3 ≤ D) {a1 : Int32} {a2 : Int32} {h : hs_H} {r : Int32 × hs_H} (e : hf_14 a1 a2 h = some r) (q : Q (some (hs_i r.1)) r.2) : hs_call hs_ms S D 14 [hs_r 1 0, hs_i a1, hs_i a2] h Q := by
  refine hs_go (R := 2) hD rfl (Nat.le_of_ble_eq_true rfl) (fun d hd => ?_)
  show hs_W S d 1 hs_p14 Q 0 [hs_r 1 0, hs_i a1, hs_i a2, hs_u, hs_u, hs_u, hs_u, hs_u] [] h
  unfold hf_14 at e
  obtain ⟨q1, eq1, e⟩ := hs_bind_some e
  try dsimp only at e
  refine hs_wc 3 (y := 20) (a := [hs_r 1 0, hs_i a1]) (v := some (hs_i q1.1)) (pc' := 5) (ls' := [hs_r 1 0, hs_i a1, hs_i a2, hs_u, hs_u, hs_u, hs_u, hs_u]) (st' := []) (h' := h) (h2 := q1.2) (fun n w => w) (fun q => hc_20 (by omega) eq1 q) ?_
  obtain ⟨q2, eq2, e⟩ := hs_bind_some e
  try dsimp only at e
  refine hs_wc 4 (y := 20) (a := [hs_r 1 0, hs_i a2]) (v := some (hs_i q2.1)) (pc' := 11) (ls' := [hs_r 1 0, hs_i a1, hs_i a2, hs_i q1.1, hs_u, hs_u, hs_u, hs_u]) (st' := []) (h' := q1.2) (h2 := q2.2) (fun n w => w) (fun q => hc_20 (by omega) eq2 q) ?_
  refine hs_w 5 (pc' := 19) (ls' := [hs_r 1 0, hs_i a1, hs_i a2, hs_i q1.1, hs_i q2.1, hs_i (nI 0), hs_i (nI 0), hs_u]) (st' := []) (h' := q2.2) (fun n w => w) ?_
  exact hw_14_19_lp hd hs_big e _ _ _ q
def hb_13_61  (k14 : Int32 × Int32 × Int32 × Int32 × hs_H → Option (Int32 × hs_H)) (x3 : Int32) (x4 : Int32) (x5 : Int32) (x6 : Int32)  (h : hs_H) : Option (Int32 × hs_H) := k14 (x3, x4, x5, x6 + nI 1, h)
set_option maxHeartbeats 1000000 in
theorem hw_13_61 {S : hs_S} {d : Nat} {Q : hs_Q} (hd : 3 ≤ d)  {k14 : Int32 × Int32 × Int32 × Int32 × hs_H → Option (Int32 × hs_H)} (hk14 : ∀ (x3 : Int32) (x4 : Int32) (x5 : Int32) (x6 : Int32) (h : hs_H) (r : Int32 × hs_H) (v1 : hs_V) (v2 : hs_V), k14 (x3, x4, x5, x6, h) = some r → Q (some (hs_i r.1)) r.2 → hs_W S d 1 hs_p13 Q 14 [hs_r 1 0, v1, v2, hs_i x3, hs_i x4, hs_i x5, hs_i x6] [] h) {x3 : Int32} {x4 : Int32} {x5 : Int32} {x6 : Int32}  {v1 : hs_V} {v2 : hs_V} {h : hs_H} {r : Int32 × hs_H} (e : hb_13_61 k14 x3 x4 x5 x6 h = some r) (q : Q (some (hs_i r.1)) r.2) : hs_W S d 1 hs_p13 Q 61 [hs_r 1 0, v1, v2, hs_i x3, hs_i x4, hs_i x5, hs_i x6] [] h := by
  unfold hb_13_61 at e
  refine hs_w 2 (pc' := 14) (ls' := [hs_r 1 0, v1, v2, hs_i x3, hs_i x4, hs_i x5, hs_i (x6 + nI 1)]) (st' := []) (h' := h) (fun n w => w) ?_
  exact hk14 _ _ _ _ _ _ _ _ e q
def hb_13_14  (k14 : Int32 × Int32 × Int32 × Int32 × hs_H → Option (Int32 × hs_H)) (x3 : Int32) (x4 : Int32) (x5 : Int32) (x6 : Int32)  (h : hs_H) : Option (Int32 × hs_H) := if (h.1 4 0 1) ≤ x6 then (some (x5, h)) else ((hf_147 x3 x6 h).bind (fun q3 => if ¬ q3.1 = 0 then (hb_13_61 k14 x3 x4 x5 x6 q3.2) else ((hf_40 0 x6 q3.2).bind (fun q5 => if ¬ (q5.1 &&& (x4 ^^^ (nI 4294967295))) = 0 then (hb_13_61 k14 x3 x4 x5 x6 q5.2) else (hb_13_61 k14 x3 x4 (x5 ||| ((nI 1) <<< (x6 &&& 31))) x6 q5.2)))))
set_option maxHeartbeats 1000000 in
theorem hw_13_14 {S : hs_S} {d : Nat} {Q : hs_Q} (hd : 3 ≤ d)  {k14 : Int32 × Int32 × Int32 × Int32 × hs_H → Option (Int32 × hs_H)} (hk14 : ∀ (x3 : Int32) (x4 : Int32) (x5 : Int32) (x6 : Int32) (h : hs_H) (r : Int32 × hs_H) (v1 : hs_V) (v2 : hs_V), k14 (x3, x4, x5, x6, h) = some r → Q (some (hs_i r.1)) r.2 → hs_W S d 1 hs_p13 Q 14 [hs_r 1 0, v1, v2, hs_i x3, hs_i x4, hs_i x5, hs_i x6] [] h) {x3 : Int32} {x4 : Int32} {x5 : Int32} {x6 : Int32}  {v1 : hs_V} {v2 : hs_V} {h : hs_H} {r : Int32 × hs_H} (e : hb_13_14 k14 x3 x4 x5 x6 h = some r) (q : Q (some (hs_i r.1)) r.2) : hs_W S d 1 hs_p13 Q 14 [hs_r 1 0, v1, v2, hs_i x3, hs_i x4, hs_i x5, hs_i x6] [] h := by
  unfold hb_13_14 at e
  refine hs_wb 5 (c := (h.1 4 0 1) ≤ x6) (t := 67) (f := 26) (ls' := [hs_r 1 0, v1, v2, hs_i x3, hs_i x4, hs_i x5, hs_i x6]) (st' := []) (h' := h) (fun n w => w) (fun b2 => ?_) (fun b2 => ?_)
  · rw [if_pos b2] at e
    obtain rfl := Option.some.inj e
    exact hs_wr 2 (v := some (hs_i x5)) (h' := h) (fun n w => w) q
  · rw [if_neg b2] at e
    obtain ⟨q3, eq3, e⟩ := hs_bind_some e
    try dsimp only at e
    refine hs_wc 3 (y := 147) (a := [hs_i x3, hs_i x6]) (v := some (hs_i q3.1)) (pc' := 32) (ls' := [hs_r 1 0, v1, v2, hs_i x3, hs_i x4, hs_i x5, hs_i x6]) (st' := []) (h' := h) (h2 := q3.2) (fun n w => w) (fun q => hc_147 (by omega) eq3 q) ?_
    refine hs_wb 1 (c := ¬ q3.1 = 0) (t := 61) (f := 35) (ls' := [hs_r 1 0, v1, v2, hs_i x3, hs_i x4, hs_i x5, hs_i x6]) (st' := []) (h' := q3.2) (fun n w => w) (fun b4 => ?_) (fun b4 => ?_)
    · rw [if_pos b4] at e
      exact hw_13_61 hd hk14 e q
    · rw [if_neg b4] at e
      obtain ⟨q5, eq5, e⟩ := hs_bind_some e
      try dsimp only at e
      refine hs_wc 4 (y := 40) (a := [hs_r 4 0, hs_i x6]) (v := some (hs_i q5.1)) (pc' := 44) (ls' := [hs_r 1 0, v1, v2, hs_i x3, hs_i x4, hs_i x5, hs_i x6]) (st' := []) (h' := q3.2) (h2 := q5.2) (fun n w => w) (fun q => hc_40 (by omega) eq5 q) ?_
      refine hs_wb 5 (c := ¬ (q5.1 &&& (x4 ^^^ (nI 4294967295))) = 0) (t := 61) (f := 52) (ls' := [hs_r 1 0, v1, v2, hs_i x3, hs_i x4, hs_i x5, hs_i x6]) (st' := []) (h' := q5.2) (fun n w => w) (fun b6 => ?_) (fun b6 => ?_)
      · rw [if_pos b6] at e
        exact hw_13_61 hd hk14 e q
      · rw [if_neg b6] at e
        refine hs_w 6 (pc' := 61) (ls' := [hs_r 1 0, v1, v2, hs_i x3, hs_i x4, hs_i (x5 ||| ((nI 1) <<< (x6 &&& 31))), hs_i x6]) (st' := []) (h' := q5.2) (fun n w => w) ?_
        exact hw_13_61 hd hk14 e q
theorem hw_13_14_lp {S : hs_S} {d : Nat} {Q : hs_Q} (hd : 3 ≤ d)    (n : Nat) {x3 : Int32} {x4 : Int32} {x5 : Int32} {x6 : Int32} {h : hs_H} {r : Int32 × hs_H} (e : hs_lp (fun k s => hb_13_14 k s.1 s.2.1 s.2.2.1 s.2.2.2.1 s.2.2.2.2) n (x3, x4, x5, x6, h) = some r) (v1 : hs_V) (v2 : hs_V) (q : Q (some (hs_i r.1)) r.2) : hs_W S d 1 hs_p13 Q 14 [hs_r 1 0, v1, v2, hs_i x3, hs_i x4, hs_i x5, hs_i x6] [] h := by
  refine hs_lp_ind (P := fun (s : Int32 × Int32 × Int32 × Int32 × hs_H) (r : Int32 × hs_H) => ∀ (v1 : hs_V) (v2 : hs_V), Q (some (hs_i r.1)) r.2 → hs_W S d 1 hs_p13 Q 14 [hs_r 1 0, v1, v2, hs_i s.1, hs_i s.2.1, hs_i s.2.2.1, hs_i s.2.2.2.1] [] s.2.2.2.2) (fun k hk s r e v1 v2 q => ?_) n (x3, x4, x5, x6, h) r e v1 v2 q
  exact hw_13_14 hd (fun x3 x4 x5 x6 h r v1 v2 e q => hk (x3, x4, x5, x6, h) r e v1 v2 q) e q
/-- HuntedScent$Chase.newlyLost(III)I -/
def hf_13 (a1 : Int32) (a2 : Int32) (a3 : Int32) (h : hs_H) : Option (Int32 × hs_H) := (hf_14 a1 a2 h).bind (fun q1 => hs_lp (fun k s => hb_13_14 k s.1 s.2.1 s.2.2.1 s.2.2.2.1 s.2.2.2.2) hs_big (a3, q1.1, nI 0, nI 0, q1.2))
set_option maxHeartbeats 1000000 in
theorem hc_13 {S : hs_S} {D : Nat} {Q : hs_Q} (hD : 4 ≤ D) {a1 : Int32} {a2 : Int32} {a3 : Int32} {h : hs_H} {r : Int32 × hs_H} (e : hf_13 a1 a2 a3 h = some r) (q : Q (some (hs_i r.1)) r.2) : hs_call hs_ms S D 13 [hs_r 1 0, hs_i a1, hs_i a2, hs_i a3] h Q := by
  refine hs_go (R := 3) hD rfl (Nat.le_of_ble_eq_true rfl) (fun d hd => ?_)
  show hs_W S d 1 hs_p13 Q 0 [hs_r 1 0, hs_i a1, hs_i a2, hs_i a3, hs_u, hs_u, hs_u] [] h
  unfold hf_13 at e
  obtain ⟨q1, eq1, e⟩ := hs_bind_some e
  try dsimp only at e
  refine hs_wc 4 (y := 14) (a := [hs_r 1 0, hs_i a1, hs_i a2]) (v := some (hs_i q1.1)) (pc' := 6) (ls' := [hs_r 1 0, hs_i a1, hs_i a2, hs_i a3, hs_u, hs_u, hs_u]) (st' := []) (h' := h) (h2 := q1.2) (fun n w => w) (fun q => hc_14 (by omega) eq1 q) ?_
  refine hs_w 5 (pc' := 14) (ls' := [hs_r 1 0, hs_i a1, hs_i a2, hs_i a3, hs_i q1.1, hs_i (nI 0), hs_i (nI 0)]) (st' := []) (h' := q1.2) (fun n w => w) ?_
  exact hw_13_14_lp hd hs_big e _ _ q
def hb_15_52  (k3 : Int32 × Int32 × Int32 × Int32 × Int32 × hs_H → Option (hs_H)) (x1 : Int32) (x2 : Int32) (x3 : Int32) (x4 : Int32) (x5 : Int32)  (h : hs_H) : Option (hs_H) := k3 (x1, x2, x3, x4, x5 + nI 1, h)
set_option maxHeartbeats 1000000 in
theorem hw_15_52 {S : hs_S} {d : Nat} {Q : hs_Q} (hd : 2 ≤ d)  {k3 : Int32 × Int32 × Int32 × Int32 × Int32 × hs_H → Option (hs_H)} (hk3 : ∀ (x1 : Int32) (x2 : Int32) (x3 : Int32) (x4 : Int32) (x5 : Int32) (h : hs_H) (r : hs_H) , k3 (x1, x2, x3, x4, x5, h) = some r → Q none r → hs_W S d 0 hs_p15 Q 3 [hs_r 1 0, hs_i x1, hs_i x2, hs_i x3, hs_i x4, hs_i x5] [] h) {x1 : Int32} {x2 : Int32} {x3 : Int32} {x4 : Int32} {x5 : Int32}   {h : hs_H} {r : hs_H} (e : hb_15_52 k3 x1 x2 x3 x4 x5 h = some r) (q : Q none r) : hs_W S d 0 hs_p15 Q 52 [hs_r 1 0, hs_i x1, hs_i x2, hs_i x3, hs_i x4, hs_i x5] [] h := by
  unfold hb_15_52 at e
  refine hs_w 2 (pc' := 3) (ls' := [hs_r 1 0, hs_i x1, hs_i x2, hs_i x3, hs_i x4, hs_i (x5 + nI 1)]) (st' := []) (h' := h) (fun n w => w) ?_
  exact hk3 _ _ _ _ _ _ _  e q
def hb_15_3  (k3 : Int32 × Int32 × Int32 × Int32 × Int32 × hs_H → Option (hs_H)) (x1 : Int32) (x2 : Int32) (x3 : Int32) (x4 : Int32) (x5 : Int32)  (h : hs_H) : Option (hs_H) := if (h.1 4 0 1) ≤ x5 then (some h) else ((hf_147 x3 x5 h).bind (fun q2 => if q2.1 = 0 then (hb_15_52 k3 x1 x2 x3 x4 x5 q2.2) else ((hf_22 x5 x1 x2 q2.2).bind (fun q4 => hs_ck (hs_inb q4.1 1000) ((hf_22 x5 x2 x1 (hs_put q4.2 24 0 q4.1.toNatClampNeg x4)).bind (fun q6 => hs_ck (hs_inb q6.1 1000) (hb_15_52 k3 x1 x2 x3 x4 x5 (hs_put q6.2 24 0 q6.1.toNatClampNeg x4))))))))
set_option maxHeartbeats 1000000 in
theorem hw_15_3 {S : hs_S} {d : Nat} {Q : hs_Q} (hd : 2 ≤ d)  {k3 : Int32 × Int32 × Int32 × Int32 × Int32 × hs_H → Option (hs_H)} (hk3 : ∀ (x1 : Int32) (x2 : Int32) (x3 : Int32) (x4 : Int32) (x5 : Int32) (h : hs_H) (r : hs_H) , k3 (x1, x2, x3, x4, x5, h) = some r → Q none r → hs_W S d 0 hs_p15 Q 3 [hs_r 1 0, hs_i x1, hs_i x2, hs_i x3, hs_i x4, hs_i x5] [] h) {x1 : Int32} {x2 : Int32} {x3 : Int32} {x4 : Int32} {x5 : Int32}   {h : hs_H} {r : hs_H} (e : hb_15_3 k3 x1 x2 x3 x4 x5 h = some r) (q : Q none r) : hs_W S d 0 hs_p15 Q 3 [hs_r 1 0, hs_i x1, hs_i x2, hs_i x3, hs_i x4, hs_i x5] [] h := by
  unfold hb_15_3 at e
  refine hs_wb 5 (c := (h.1 4 0 1) ≤ x5) (t := 58) (f := 15) (ls' := [hs_r 1 0, hs_i x1, hs_i x2, hs_i x3, hs_i x4, hs_i x5]) (st' := []) (h' := h) (fun n w => w) (fun b1 => ?_) (fun b1 => ?_)
  · rw [if_pos b1] at e
    obtain rfl := Option.some.inj e
    exact hs_wr 1 (v := none) (h' := h) (fun n w => w) q
  · rw [if_neg b1] at e
    obtain ⟨q2, eq2, e⟩ := hs_bind_some e
    try dsimp only at e
    refine hs_wc 3 (y := 147) (a := [hs_i x3, hs_i x5]) (v := some (hs_i q2.1)) (pc' := 21) (ls' := [hs_r 1 0, hs_i x1, hs_i x2, hs_i x3, hs_i x4, hs_i x5]) (st' := []) (h' := h) (h2 := q2.2) (fun n w => w) (fun q => hc_147 (by omega) eq2 q) ?_
    refine hs_wb 1 (c := q2.1 = 0) (t := 52) (f := 24) (ls' := [hs_r 1 0, hs_i x1, hs_i x2, hs_i x3, hs_i x4, hs_i x5]) (st' := []) (h' := q2.2) (fun n w => w) (fun b3 => ?_) (fun b3 => ?_)
    · rw [if_pos b3] at e
      exact hw_15_52 hd hk3 e q
    · rw [if_neg b3] at e
      obtain ⟨q4, eq4, e⟩ := hs_bind_some e
      try dsimp only at e
      refine hs_wc 6 (y := 22) (a := [hs_i x5, hs_i x1, hs_i x2]) (v := some (hs_i q4.1)) (pc' := 35) (ls' := [hs_r 1 0, hs_i x1, hs_i x2, hs_i x3, hs_i x4, hs_i x5]) (st' := [hs_r 24 0]) (h' := q2.2) (h2 := q4.2) (fun n w => w) (fun q => hc_22 (by omega) eq4 q) ?_
      obtain ⟨c5, e⟩ := hs_ck_some e
      refine hs_wa 2 (c := vp_in q4.1 1000) (pc' := 38) (ls' := [hs_r 1 0, hs_i x1, hs_i x2, hs_i x3, hs_i x4, hs_i x5]) (st' := []) (h' := hs_put q4.2 24 0 q4.1.toNatClampNeg x4) (fun n w => w) (hs_inb_iff.mp c5) ?_
      obtain ⟨q6, eq6, e⟩ := hs_bind_some e
      try dsimp only at e
      refine hs_wc 6 (y := 22) (a := [hs_i x5, hs_i x2, hs_i x1]) (v := some (hs_i q6.1)) (pc' := 49) (ls' := [hs_r 1 0, hs_i x1, hs_i x2, hs_i x3, hs_i x4, hs_i x5]) (st' := [hs_r 24 0]) (h' := hs_put q4.2 24 0 q4.1.toNatClampNeg x4) (h2 := q6.2) (fun n w => w) (fun q => hc_22 (by omega) eq6 q) ?_
      obtain ⟨c7, e⟩ := hs_ck_some e
      refine hs_wa 2 (c := vp_in q6.1 1000) (pc' := 52) (ls' := [hs_r 1 0, hs_i x1, hs_i x2, hs_i x3, hs_i x4, hs_i x5]) (st' := []) (h' := hs_put q6.2 24 0 q6.1.toNatClampNeg x4) (fun n w => w) (hs_inb_iff.mp c7) ?_
      exact hw_15_52 hd hk3 e q
theorem hw_15_3_lp {S : hs_S} {d : Nat} {Q : hs_Q} (hd : 2 ≤ d)    (n : Nat) {x1 : Int32} {x2 : Int32} {x3 : Int32} {x4 : Int32} {x5 : Int32} {h : hs_H} {r : hs_H} (e : hs_lp (fun k s => hb_15_3 k s.1 s.2.1 s.2.2.1 s.2.2.2.1 s.2.2.2.2.1 s.2.2.2.2.2) n (x1, x2, x3, x4, x5, h) = some r)  (q : Q none r) : hs_W S d 0 hs_p15 Q 3 [hs_r 1 0, hs_i x1, hs_i x2, hs_i x3, hs_i x4, hs_i x5] [] h := by
  refine hs_lp_ind (P := fun (s : Int32 × Int32 × Int32 × Int32 × Int32 × hs_H) (r : hs_H) => ∀ (_ : True), Q none r → hs_W S d 0 hs_p15 Q 3 [hs_r 1 0, hs_i s.1, hs_i s.2.1, hs_i s.2.2.1, hs_i s.2.2.2.1, hs_i s.2.2.2.2.1] [] s.2.2.2.2.2) (fun k hk s r e _ q => ?_) n (x1, x2, x3, x4, x5, h) r e trivial q
  exact hw_15_3 hd (fun x1 x2 x3 x4 x5 h r  e q => hk (x1, x2, x3, x4, x5, h) r e trivial q) e q
/-- HuntedScent$Chase.noteTurns(IIII)V -/
def hf_15 (a1 : Int32) (a2 : Int32) (a3 : Int32) (a4 : Int32) (h : hs_H) : Option (hs_H) := hs_lp (fun k s => hb_15_3 k s.1 s.2.1 s.2.2.1 s.2.2.2.1 s.2.2.2.2.1 s.2.2.2.2.2) hs_big (a1, a2, a3, a4, nI 0, h)
set_option maxHeartbeats 1000000 in
theorem hc_15 {S : hs_S} {D : Nat} {Q : hs_Q} (hD : 3 ≤ D) {a1 : Int32} {a2 : Int32} {a3 : Int32} {a4 : Int32} {h : hs_H} {r : hs_H} (e : hf_15 a1 a2 a3 a4 h = some r) (q : Q none r) : hs_call hs_ms S D 15 [hs_r 1 0, hs_i a1, hs_i a2, hs_i a3, hs_i a4] h Q := by
  refine hs_go (R := 2) hD rfl (Nat.le_of_ble_eq_true rfl) (fun d hd => ?_)
  show hs_W S d 0 hs_p15 Q 0 [hs_r 1 0, hs_i a1, hs_i a2, hs_i a3, hs_i a4, hs_u] [] h
  unfold hf_15 at e
  refine hs_w 2 (pc' := 3) (ls' := [hs_r 1 0, hs_i a1, hs_i a2, hs_i a3, hs_i a4, hs_i (nI 0)]) (st' := []) (h' := h) (fun n w => w) ?_
  exact hw_15_3_lp hd hs_big e  q
def hb_12_127  (k127 : Int32 × Int32 × hs_H → Option (Int32 × hs_H)) (x2 : Int32) (x3 : Int32)  (h : hs_H) : Option (Int32 × hs_H) := if (nI 100) ≤ x3 then (hs_ck (hs_b01 x2) (some (x2, h))) else (hs_ck (hs_inb x3 100) (hs_ck (hs_inb x3 100) (k127 (x2, x3 + nI 1, hs_put h 25 0 x3.toNatClampNeg (h.1 26 0 x3.toNatClampNeg)))))
set_option maxHeartbeats 1000000 in
theorem hw_12_127 {S : hs_S} {d : Nat} {Q : hs_Q} (hd : 4 ≤ d)  {k127 : Int32 × Int32 × hs_H → Option (Int32 × hs_H)} (hk127 : ∀ (x2 : Int32) (x3 : Int32) (h : hs_H) (r : Int32 × hs_H) (v1 : hs_V) (v4 : hs_V) (v5 : hs_V) (v6 : hs_V), k127 (x2, x3, h) = some r → Q (some (hs_i r.1)) r.2 → hs_W S d 2 hs_p12 Q 127 [hs_r 1 0, v1, hs_i x2, hs_i x3, v4, v5, v6] [] h) {x2 : Int32} {x3 : Int32}  {v1 : hs_V} {v4 : hs_V} {v5 : hs_V} {v6 : hs_V} {h : hs_H} {r : Int32 × hs_H} (e : hb_12_127 k127 x2 x3 h = some r) (q : Q (some (hs_i r.1)) r.2) : hs_W S d 2 hs_p12 Q 127 [hs_r 1 0, v1, hs_i x2, hs_i x3, v4, v5, v6] [] h := by
  unfold hb_12_127 at e
  refine hs_wb 3 (c := (nI 100) ≤ x3) (t := 151) (f := 133) (ls' := [hs_r 1 0, v1, hs_i x2, hs_i x3, v4, v5, v6]) (st' := []) (h' := h) (fun n w => w) (fun b2 => ?_) (fun b2 => ?_)
  · rw [if_pos b2] at e
    obtain ⟨c3, e⟩ := hs_ck_some e
    obtain rfl := Option.some.inj e
    exact hs_wra 2 (c := x2 = 0 ∨ x2 = 1) (v := some (hs_i x2)) (h' := h) (fun n w => w) (hs_b01_iff.mp c3) q
  · rw [if_neg b2] at e
    obtain ⟨c4, e⟩ := hs_ck_some e
    refine hs_wa 7 (c := vp_in x3 100) (pc' := 144) (ls' := [hs_r 1 0, v1, hs_i x2, hs_i x3, v4, v5, v6]) (st' := [hs_i (h.1 26 0 x3.toNatClampNeg), hs_i x3, hs_r 25 0]) (h' := h) (fun n w => w) (hs_inb_iff.mp c4) ?_
    obtain ⟨c5, e⟩ := hs_ck_some e
    refine hs_wa 1 (c := vp_in x3 100) (pc' := 145) (ls' := [hs_r 1 0, v1, hs_i x2, hs_i x3, v4, v5, v6]) (st' := []) (h' := hs_put h 25 0 x3.toNatClampNeg (h.1 26 0 x3.toNatClampNeg)) (fun n w => w) (hs_inb_iff.mp c5) ?_
    refine hs_w 2 (pc' := 127) (ls' := [hs_r 1 0, v1, hs_i x2, hs_i (x3 + nI 1), v4, v5, v6]) (st' := []) (h' := hs_put h 25 0 x3.toNatClampNeg (h.1 26 0 x3.toNatClampNeg)) (fun n w => w) ?_
    exact hk127 _ _ _ _ _ _ _ _ e q
theorem hw_12_127_lp {S : hs_S} {d : Nat} {Q : hs_Q} (hd : 4 ≤ d)    (n : Nat) {x2 : Int32} {x3 : Int32} {h : hs_H} {r : Int32 × hs_H} (e : hs_lp (fun k s => hb_12_127 k s.1 s.2.1 s.2.2) n (x2, x3, h) = some r) (v1 : hs_V) (v4 : hs_V) (v5 : hs_V) (v6 : hs_V) (q : Q (some (hs_i r.1)) r.2) : hs_W S d 2 hs_p12 Q 127 [hs_r 1 0, v1, hs_i x2, hs_i x3, v4, v5, v6] [] h := by
  refine hs_lp_ind (P := fun (s : Int32 × Int32 × hs_H) (r : Int32 × hs_H) => ∀ (v1 : hs_V) (v4 : hs_V) (v5 : hs_V) (v6 : hs_V), Q (some (hs_i r.1)) r.2 → hs_W S d 2 hs_p12 Q 127 [hs_r 1 0, v1, hs_i s.1, hs_i s.2.1, v4, v5, v6] [] s.2.2) (fun k hk s r e v1 v4 v5 v6 q => ?_) n (x2, x3, h) r e v1 v4 v5 v6 q
  exact hw_12_127 hd (fun x2 x3 h r v1 v4 v5 v6 e q => hk (x2, x3, h) r e v1 v4 v5 v6 q) e q
def hb_12_111  (k4 : Int32 × Int32 × Int32 × hs_H → Option (Int32 × hs_H)) (k18 : Int32 × Int32 × Int32 × Int32 × hs_H → Option (Int32 × hs_H)) (x1 : Int32) (x3 : Int32) (x4 : Int32) (s0 : Int32) (s1 : Int32) (h : hs_H) : Option (Int32 × hs_H) := k18 (x1, s1 ||| s0, x3, x4 + nI 1, h)
set_option maxHeartbeats 1000000 in
theorem hw_12_111 {S : hs_S} {d : Nat} {Q : hs_Q} (hd : 4 ≤ d)  {k4 : Int32 × Int32 × Int32 × hs_H → Option (Int32 × hs_H)} {k18 : Int32 × Int32 × Int32 × Int32 × hs_H → Option (Int32 × hs_H)} (hk4 : ∀ (x1 : Int32) (x2 : Int32) (x3 : Int32) (h : hs_H) (r : Int32 × hs_H) (v4 : hs_V) (v5 : hs_V) (v6 : hs_V), k4 (x1, x2, x3, h) = some r → Q (some (hs_i r.1)) r.2 → hs_W S d 2 hs_p12 Q 4 [hs_r 1 0, hs_i x1, hs_i x2, hs_i x3, v4, v5, v6] [] h) (hk18 : ∀ (x1 : Int32) (x2 : Int32) (x3 : Int32) (x4 : Int32) (h : hs_H) (r : Int32 × hs_H) (v5 : hs_V) (v6 : hs_V), k18 (x1, x2, x3, x4, h) = some r → Q (some (hs_i r.1)) r.2 → hs_W S d 2 hs_p12 Q 18 [hs_r 1 0, hs_i x1, hs_i x2, hs_i x3, hs_i x4, v5, v6] [] h) {x1 : Int32} {x3 : Int32} {x4 : Int32} {s0 : Int32} {s1 : Int32} {v2 : hs_V} {v5 : hs_V} {v6 : hs_V} {h : hs_H} {r : Int32 × hs_H} (e : hb_12_111 k4 k18 x1 x3 x4 s0 s1 h = some r) (q : Q (some (hs_i r.1)) r.2) : hs_W S d 2 hs_p12 Q 111 [hs_r 1 0, hs_i x1, v2, hs_i x3, hs_i x4, v5, v6] [hs_i s0, hs_i s1] h := by
  unfold hb_12_111 at e
  refine hs_w 4 (pc' := 18) (ls' := [hs_r 1 0, hs_i x1, hs_i (s1 ||| s0), hs_i x3, hs_i (x4 + nI 1), v5, v6]) (st' := []) (h' := h) (fun n w => w) ?_
  exact hk18 _ _ _ _ _ _ _ _ e q
def hb_12_18  (k4 : Int32 × Int32 × Int32 × hs_H → Option (Int32 × hs_H)) (k18 : Int32 × Int32 × Int32 × Int32 × hs_H → Option (Int32 × hs_H)) (x1 : Int32) (x2 : Int32) (x3 : Int32) (x4 : Int32)  (h : hs_H) : Option (Int32 × hs_H) := if (h.1 4 0 1) ≤ x4 then (k4 (x1, x2, x3 + nI 1, h)) else ((hf_21 x3 x4 h).bind (fun q7 => hs_ck (hs_inb q7.1 100) ((hf_13 x3 x4 (q7.2.1 25 0 q7.1.toNatClampNeg) q7.2).bind (fun q9 => (hf_21 x3 x4 q9.2).bind (fun q10 => hs_ck (hs_inb q10.1 100) ((hf_21 x4 x3 (hs_put q10.2 26 0 q10.1.toNatClampNeg ((q7.2.1 25 0 q7.1.toNatClampNeg) ||| q9.1))).bind (fun q12 => hs_ck (hs_inb q12.1 100) ((hf_15 x3 x4 (((q7.2.1 25 0 q7.1.toNatClampNeg) ||| q9.1) &&& ((q7.2.1 25 0 q7.1.toNatClampNeg) ^^^ (nI 4294967295))) x1 (hs_put q12.2 26 0 q12.1.toNatClampNeg ((q7.2.1 25 0 q7.1.toNatClampNeg) ||| q9.1))).bind (fun q14 => if ((q7.2.1 25 0 q7.1.toNatClampNeg) ||| q9.1) = (q7.2.1 25 0 q7.1.toNatClampNeg) then (hb_12_111 k4 k18 x1 x3 x4 (nI 0) x2 q14) else (hb_12_111 k4 k18 x1 x3 x4 (nI 1) x2 q14))))))))))
set_option maxHeartbeats 1000000 in
theorem hw_12_18 {S : hs_S} {d : Nat} {Q : hs_Q} (hd : 4 ≤ d)  {k4 : Int32 × Int32 × Int32 × hs_H → Option (Int32 × hs_H)} {k18 : Int32 × Int32 × Int32 × Int32 × hs_H → Option (Int32 × hs_H)} (hk4 : ∀ (x1 : Int32) (x2 : Int32) (x3 : Int32) (h : hs_H) (r : Int32 × hs_H) (v4 : hs_V) (v5 : hs_V) (v6 : hs_V), k4 (x1, x2, x3, h) = some r → Q (some (hs_i r.1)) r.2 → hs_W S d 2 hs_p12 Q 4 [hs_r 1 0, hs_i x1, hs_i x2, hs_i x3, v4, v5, v6] [] h) (hk18 : ∀ (x1 : Int32) (x2 : Int32) (x3 : Int32) (x4 : Int32) (h : hs_H) (r : Int32 × hs_H) (v5 : hs_V) (v6 : hs_V), k18 (x1, x2, x3, x4, h) = some r → Q (some (hs_i r.1)) r.2 → hs_W S d 2 hs_p12 Q 18 [hs_r 1 0, hs_i x1, hs_i x2, hs_i x3, hs_i x4, v5, v6] [] h) {x1 : Int32} {x2 : Int32} {x3 : Int32} {x4 : Int32}  {v5 : hs_V} {v6 : hs_V} {h : hs_H} {r : Int32 × hs_H} (e : hb_12_18 k4 k18 x1 x2 x3 x4 h = some r) (q : Q (some (hs_i r.1)) r.2) : hs_W S d 2 hs_p12 Q 18 [hs_r 1 0, hs_i x1, hs_i x2, hs_i x3, hs_i x4, v5, v6] [] h := by
  unfold hb_12_18 at e
  refine hs_wb 5 (c := (h.1 4 0 1) ≤ x4) (t := 119) (f := 30) (ls' := [hs_r 1 0, hs_i x1, hs_i x2, hs_i x3, hs_i x4, v5, v6]) (st' := []) (h' := h) (fun n w => w) (fun b6 => ?_) (fun b6 => ?_)
  · rw [if_pos b6] at e
    refine hs_w 2 (pc' := 4) (ls' := [hs_r 1 0, hs_i x1, hs_i x2, hs_i (x3 + nI 1), hs_i x4, v5, v6]) (st' := []) (h' := h) (fun n w => w) ?_
    exact hk4 _ _ _ _ _ _ _ _ e q
  · rw [if_neg b6] at e
    obtain ⟨q7, eq7, e⟩ := hs_bind_some e
    try dsimp only at e
    refine hs_wc 5 (y := 21) (a := [hs_i x3, hs_i x4]) (v := some (hs_i q7.1)) (pc' := 40) (ls' := [hs_r 1 0, hs_i x1, hs_i x2, hs_i x3, hs_i x4, v5, v6]) (st' := [hs_r 25 0]) (h' := h) (h2 := q7.2) (fun n w => w) (fun q => hc_21 (by omega) eq7 q) ?_
    obtain ⟨c8, e⟩ := hs_ck_some e
    refine hs_wa 1 (c := vp_in q7.1 100) (pc' := 41) (ls' := [hs_r 1 0, hs_i x1, hs_i x2, hs_i x3, hs_i x4, v5, v6]) (st' := [hs_i (q7.2.1 25 0 q7.1.toNatClampNeg)]) (h' := q7.2) (fun n w => w) (hs_inb_iff.mp c8) ?_
    obtain ⟨q9, eq9, e⟩ := hs_bind_some e
    try dsimp only at e
    refine hs_wc 7 (y := 13) (a := [hs_r 1 0, hs_i x3, hs_i x4, hs_i (q7.2.1 25 0 q7.1.toNatClampNeg)]) (v := some (hs_i q9.1)) (pc' := 54) (ls' := [hs_r 1 0, hs_i x1, hs_i x2, hs_i x3, hs_i x4, hs_i (q7.2.1 25 0 q7.1.toNatClampNeg), v6]) (st' := [hs_i (q7.2.1 25 0 q7.1.toNatClampNeg)]) (h' := q7.2) (h2 := q9.2) (fun n w => w) (fun q => hc_13 (by omega) eq9 q) ?_
    obtain ⟨q10, eq10, e⟩ := hs_bind_some e
    try dsimp only at e
    refine hs_wc 7 (y := 21) (a := [hs_i x3, hs_i x4]) (v := some (hs_i q10.1)) (pc' := 67) (ls' := [hs_r 1 0, hs_i x1, hs_i x2, hs_i x3, hs_i x4, hs_i (q7.2.1 25 0 q7.1.toNatClampNeg), hs_i ((q7.2.1 25 0 q7.1.toNatClampNeg) ||| q9.1)]) (st' := [hs_r 26 0]) (h' := q9.2) (h2 := q10.2) (fun n w => w) (fun q => hc_21 (by omega) eq10 q) ?_
    obtain ⟨c11, e⟩ := hs_ck_some e
    refine hs_wa 2 (c := vp_in q10.1 100) (pc' := 70) (ls' := [hs_r 1 0, hs_i x1, hs_i x2, hs_i x3, hs_i x4, hs_i (q7.2.1 25 0 q7.1.toNatClampNeg), hs_i ((q7.2.1 25 0 q7.1.toNatClampNeg) ||| q9.1)]) (st' := []) (h' := hs_put q10.2 26 0 q10.1.toNatClampNeg ((q7.2.1 25 0 q7.1.toNatClampNeg) ||| q9.1)) (fun n w => w) (hs_inb_iff.mp c11) ?_
    obtain ⟨q12, eq12, e⟩ := hs_bind_some e
    try dsimp only at e
    refine hs_wc 5 (y := 21) (a := [hs_i x4, hs_i x3]) (v := some (hs_i q12.1)) (pc' := 80) (ls' := [hs_r 1 0, hs_i x1, hs_i x2, hs_i x3, hs_i x4, hs_i (q7.2.1 25 0 q7.1.toNatClampNeg), hs_i ((q7.2.1 25 0 q7.1.toNatClampNeg) ||| q9.1)]) (st' := [hs_r 26 0]) (h' := hs_put q10.2 26 0 q10.1.toNatClampNeg ((q7.2.1 25 0 q7.1.toNatClampNeg) ||| q9.1)) (h2 := q12.2) (fun n w => w) (fun q => hc_21 (by omega) eq12 q) ?_
    obtain ⟨c13, e⟩ := hs_ck_some e
    refine hs_wa 2 (c := vp_in q12.1 100) (pc' := 83) (ls' := [hs_r 1 0, hs_i x1, hs_i x2, hs_i x3, hs_i x4, hs_i (q7.2.1 25 0 q7.1.toNatClampNeg), hs_i ((q7.2.1 25 0 q7.1.toNatClampNeg) ||| q9.1)]) (st' := []) (h' := hs_put q12.2 26 0 q12.1.toNatClampNeg ((q7.2.1 25 0 q7.1.toNatClampNeg) ||| q9.1)) (fun n w => w) (hs_inb_iff.mp c13) ?_
    obtain ⟨q14, eq14, e⟩ := hs_bind_some e
    try dsimp only at e
    refine hs_wc 10 (y := 15) (a := [hs_r 1 0, hs_i x3, hs_i x4, hs_i (((q7.2.1 25 0 q7.1.toNatClampNeg) ||| q9.1) &&& ((q7.2.1 25 0 q7.1.toNatClampNeg) ^^^ (nI 4294967295))), hs_i x1]) (v := none) (pc' := 98) (ls' := [hs_r 1 0, hs_i x1, hs_i x2, hs_i x3, hs_i x4, hs_i (q7.2.1 25 0 q7.1.toNatClampNeg), hs_i ((q7.2.1 25 0 q7.1.toNatClampNeg) ||| q9.1)]) (st' := []) (h' := hs_put q12.2 26 0 q12.1.toNatClampNeg ((q7.2.1 25 0 q7.1.toNatClampNeg) ||| q9.1)) (h2 := q14) (fun n w => w) (fun q => hc_15 (by omega) eq14 q) ?_
    refine hs_wb 4 (c := ((q7.2.1 25 0 q7.1.toNatClampNeg) ||| q9.1) = (q7.2.1 25 0 q7.1.toNatClampNeg)) (t := 110) (f := 106) (ls' := [hs_r 1 0, hs_i x1, hs_i x2, hs_i x3, hs_i x4, hs_i (q7.2.1 25 0 q7.1.toNatClampNeg), hs_i ((q7.2.1 25 0 q7.1.toNatClampNeg) ||| q9.1)]) (st' := [hs_i x2]) (h' := q14) (fun n w => w) (fun b15 => ?_) (fun b15 => ?_)
    · rw [if_pos b15] at e
      refine hs_w 1 (pc' := 111) (ls' := [hs_r 1 0, hs_i x1, hs_i x2, hs_i x3, hs_i x4, hs_i (q7.2.1 25 0 q7.1.toNatClampNeg), hs_i ((q7.2.1 25 0 q7.1.toNatClampNeg) ||| q9.1)]) (st' := [hs_i (nI 0), hs_i x2]) (h' := q14) (fun n w => w) ?_
      exact hw_12_111 hd hk4 hk18 e q
    · rw [if_neg b15] at e
      refine hs_w 2 (pc' := 111) (ls' := [hs_r 1 0, hs_i x1, hs_i x2, hs_i x3, hs_i x4, hs_i (q7.2.1 25 0 q7.1.toNatClampNeg), hs_i ((q7.2.1 25 0 q7.1.toNatClampNeg) ||| q9.1)]) (st' := [hs_i (nI 1), hs_i x2]) (h' := q14) (fun n w => w) ?_
      exact hw_12_111 hd hk4 hk18 e q
theorem hw_12_18_lp {S : hs_S} {d : Nat} {Q : hs_Q} (hd : 4 ≤ d)  {k4 : Int32 × Int32 × Int32 × hs_H → Option (Int32 × hs_H)} (hk4 : ∀ (x1 : Int32) (x2 : Int32) (x3 : Int32) (h : hs_H) (r : Int32 × hs_H) (v4 : hs_V) (v5 : hs_V) (v6 : hs_V), k4 (x1, x2, x3, h) = some r → Q (some (hs_i r.1)) r.2 → hs_W S d 2 hs_p12 Q 4 [hs_r 1 0, hs_i x1, hs_i x2, hs_i x3, v4, v5, v6] [] h) (n : Nat) {x1 : Int32} {x2 : Int32} {x3 : Int32} {x4 : Int32} {h : hs_H} {r : Int32 × hs_H} (e : hs_lp (fun k s => hb_12_18 k4 k s.1 s.2.1 s.2.2.1 s.2.2.2.1 s.2.2.2.2) n (x1, x2, x3, x4, h) = some r) (v5 : hs_V) (v6 : hs_V) (q : Q (some (hs_i r.1)) r.2) : hs_W S d 2 hs_p12 Q 18 [hs_r 1 0, hs_i x1, hs_i x2, hs_i x3, hs_i x4, v5, v6] [] h := by
  refine hs_lp_ind (P := fun (s : Int32 × Int32 × Int32 × Int32 × hs_H) (r : Int32 × hs_H) => ∀ (v5 : hs_V) (v6 : hs_V), Q (some (hs_i r.1)) r.2 → hs_W S d 2 hs_p12 Q 18 [hs_r 1 0, hs_i s.1, hs_i s.2.1, hs_i s.2.2.1, hs_i s.2.2.2.1, v5, v6] [] s.2.2.2.2) (fun k hk s r e v5 v6 q => ?_) n (x1, x2, x3, x4, h) r e v5 v6 q
  exact hw_12_18 hd hk4 (fun x1 x2 x3 x4 h r v5 v6 e q => hk (x1, x2, x3, x4, h) r e v5 v6 q) e q
def hb_12_4  (k4 : Int32 × Int32 × Int32 × hs_H → Option (Int32 × hs_H)) (x1 : Int32) (x2 : Int32) (x3 : Int32)  (h : hs_H) : Option (Int32 × hs_H) := if (h.1 4 0 1) ≤ x3 then (hs_lp (fun k s => hb_12_127 k s.1 s.2.1 s.2.2) hs_big (x2, nI 0, h)) else (hs_lp (fun k s => hb_12_18 k4 k s.1 s.2.1 s.2.2.1 s.2.2.2.1 s.2.2.2.2) hs_big (x1, x2, x3, x3, h))
set_option maxHeartbeats 1000000 in
theorem hw_12_4 {S : hs_S} {d : Nat} {Q : hs_Q} (hd : 4 ≤ d)  {k4 : Int32 × Int32 × Int32 × hs_H → Option (Int32 × hs_H)} (hk4 : ∀ (x1 : Int32) (x2 : Int32) (x3 : Int32) (h : hs_H) (r : Int32 × hs_H) (v4 : hs_V) (v5 : hs_V) (v6 : hs_V), k4 (x1, x2, x3, h) = some r → Q (some (hs_i r.1)) r.2 → hs_W S d 2 hs_p12 Q 4 [hs_r 1 0, hs_i x1, hs_i x2, hs_i x3, v4, v5, v6] [] h) {x1 : Int32} {x2 : Int32} {x3 : Int32}  {v4 : hs_V} {v5 : hs_V} {v6 : hs_V} {h : hs_H} {r : Int32 × hs_H} (e : hb_12_4 k4 x1 x2 x3 h = some r) (q : Q (some (hs_i r.1)) r.2) : hs_W S d 2 hs_p12 Q 4 [hs_r 1 0, hs_i x1, hs_i x2, hs_i x3, v4, v5, v6] [] h := by
  unfold hb_12_4 at e
  refine hs_wb 5 (c := (h.1 4 0 1) ≤ x3) (t := 125) (f := 15) (ls' := [hs_r 1 0, hs_i x1, hs_i x2, hs_i x3, v4, v5, v6]) (st' := []) (h' := h) (fun n w => w) (fun b1 => ?_) (fun b1 => ?_)
  · rw [if_pos b1] at e
    refine hs_w 2 (pc' := 127) (ls' := [hs_r 1 0, hs_i x1, hs_i x2, hs_i (nI 0), v4, v5, v6]) (st' := []) (h' := h) (fun n w => w) ?_
    exact hw_12_127_lp hd hs_big e _ _ _ _ q
  · rw [if_neg b1] at e
    refine hs_w 2 (pc' := 18) (ls' := [hs_r 1 0, hs_i x1, hs_i x2, hs_i x3, hs_i x3, v5, v6]) (st' := []) (h' := h) (fun n w => w) ?_
    exact hw_12_18_lp hd hk4 hs_big e _ _ q
theorem hw_12_4_lp {S : hs_S} {d : Nat} {Q : hs_Q} (hd : 4 ≤ d)    (n : Nat) {x1 : Int32} {x2 : Int32} {x3 : Int32} {h : hs_H} {r : Int32 × hs_H} (e : hs_lp (fun k s => hb_12_4 k s.1 s.2.1 s.2.2.1 s.2.2.2) n (x1, x2, x3, h) = some r) (v4 : hs_V) (v5 : hs_V) (v6 : hs_V) (q : Q (some (hs_i r.1)) r.2) : hs_W S d 2 hs_p12 Q 4 [hs_r 1 0, hs_i x1, hs_i x2, hs_i x3, v4, v5, v6] [] h := by
  refine hs_lp_ind (P := fun (s : Int32 × Int32 × Int32 × hs_H) (r : Int32 × hs_H) => ∀ (v4 : hs_V) (v5 : hs_V) (v6 : hs_V), Q (some (hs_i r.1)) r.2 → hs_W S d 2 hs_p12 Q 4 [hs_r 1 0, hs_i s.1, hs_i s.2.1, hs_i s.2.2.1, v4, v5, v6] [] s.2.2.2) (fun k hk s r e v4 v5 v6 q => ?_) n (x1, x2, x3, h) r e v4 v5 v6 q
  exact hw_12_4 hd (fun x1 x2 x3 h r v4 v5 v6 e q => hk (x1, x2, x3, h) r e v4 v5 v6 q) e q
/-- HuntedScent$Chase.playRound(I)Z -/
def hf_12 (a1 : Int32) (h : hs_H) : Option (Int32 × hs_H) := hs_lp (fun k s => hb_12_4 k s.1 s.2.1 s.2.2.1 s.2.2.2) hs_big (a1, nI 0, nI 0, h)
set_option maxHeartbeats 1000000 in
theorem hc_12 {S : hs_S} {D : Nat} {Q : hs_Q} (hD : 5 ≤ D) {a1 : Int32} {h : hs_H} {r : Int32 × hs_H} (e : hf_12 a1 h = some r) (q : Q (some (hs_i r.1)) r.2) : hs_call hs_ms S D 12 [hs_r 1 0, hs_i a1] h Q := by
  refine hs_go (R := 4) hD rfl (Nat.le_of_ble_eq_true rfl) (fun d hd => ?_)
  show hs_W S d 2 hs_p12 Q 0 [hs_r 1 0, hs_i a1, hs_u, hs_u, hs_u, hs_u, hs_u] [] h
  unfold hf_12 at e
  refine hs_w 4 (pc' := 4) (ls' := [hs_r 1 0, hs_i a1, hs_i (nI 0), hs_i (nI 0), hs_u, hs_u, hs_u]) (st' := []) (h' := h) (fun n w => w) ?_
  exact hw_12_4_lp hd hs_big e _ _ _ q
def hb_10_65     (h : hs_H) : Option (hs_H) := some h
set_option maxHeartbeats 1000000 in
theorem hw_10_65 {S : hs_S} {d : Nat} {Q : hs_Q} (hd : 5 ≤ d)      {v1 : hs_V} {h : hs_H} {r : hs_H} (e : hb_10_65 h = some r) (q : Q none r) : hs_W S d 0 hs_p10 Q 65 [hs_r 1 0, v1] [] h := by
  unfold hb_10_65 at e
  obtain rfl := Option.some.inj e
  exact hs_wr 1 (v := none) (h' := h) (fun n w => w) q
def hb_10_44  (k44 : Int32 × hs_H → Option (hs_H)) (x1 : Int32)  (h : hs_H) : Option (hs_H) := if (nI 1000) < x1 then (hb_10_65 h) else ((hf_12 x1 h).bind (fun q4 => if q4.1 = 0 then (hb_10_65 q4.2) else (k44 (x1 + nI 1, q4.2))))
set_option maxHeartbeats 1000000 in
theorem hw_10_44 {S : hs_S} {d : Nat} {Q : hs_Q} (hd : 5 ≤ d)  {k44 : Int32 × hs_H → Option (hs_H)} (hk44 : ∀ (x1 : Int32) (h : hs_H) (r : hs_H) , k44 (x1, h) = some r → Q none r → hs_W S d 0 hs_p10 Q 44 [hs_r 1 0, hs_i x1] [] h) {x1 : Int32}   {h : hs_H} {r : hs_H} (e : hb_10_44 k44 x1 h = some r) (q : Q none r) : hs_W S d 0 hs_p10 Q 44 [hs_r 1 0, hs_i x1] [] h := by
  unfold hb_10_44 at e
  refine hs_wb 3 (c := (nI 1000) < x1) (t := 65) (f := 51) (ls' := [hs_r 1 0, hs_i x1]) (st' := []) (h' := h) (fun n w => w) (fun b3 => ?_) (fun b3 => ?_)
  · rw [if_pos b3] at e
    exact hw_10_65 hd e q
  · rw [if_neg b3] at e
    obtain ⟨q4, eq4, e⟩ := hs_bind_some e
    try dsimp only at e
    refine hs_wc 3 (y := 12) (a := [hs_r 1 0, hs_i x1]) (v := some (hs_i q4.1)) (pc' := 56) (ls' := [hs_r 1 0, hs_i x1]) (st' := []) (h' := h) (h2 := q4.2) (fun n w => w) (fun q => hc_12 (by omega) eq4 q) ?_
    refine hs_wb 1 (c := q4.1 = 0) (t := 65) (f := 59) (ls' := [hs_r 1 0, hs_i x1]) (st' := []) (h' := q4.2) (fun n w => w) (fun b5 => ?_) (fun b5 => ?_)
    · rw [if_pos b5] at e
      exact hw_10_65 hd e q
    · rw [if_neg b5] at e
      refine hs_w 2 (pc' := 44) (ls' := [hs_r 1 0, hs_i (x1 + nI 1)]) (st' := []) (h' := q4.2) (fun n w => w) ?_
      exact hk44 _ _ _  e q
theorem hw_10_44_lp {S : hs_S} {d : Nat} {Q : hs_Q} (hd : 5 ≤ d)    (n : Nat) {x1 : Int32} {h : hs_H} {r : hs_H} (e : hs_lp (fun k s => hb_10_44 k s.1 s.2) n (x1, h) = some r)  (q : Q none r) : hs_W S d 0 hs_p10 Q 44 [hs_r 1 0, hs_i x1] [] h := by
  refine hs_lp_ind (P := fun (s : Int32 × hs_H) (r : hs_H) => ∀ (_ : True), Q none r → hs_W S d 0 hs_p10 Q 44 [hs_r 1 0, hs_i s.1] [] s.2) (fun k hk s r e _ q => ?_) n (x1, h) r e trivial q
  exact hw_10_44 hd (fun x1 h r  e q => hk (x1, h) r e trivial q) e q
def hb_10_22     (h : hs_H) : Option (hs_H) := (hf_11 (hs_put (hs_put h 1 0 4 (nI 1)) 1 0 5 ((hs_put h 1 0 4 (nI 1)).1 4 0 6))).bind (fun q2 => hs_lp (fun k s => hb_10_44 k s.1 s.2) hs_big (nI 1, q2))
set_option maxHeartbeats 1000000 in
theorem hw_10_22 {S : hs_S} {d : Nat} {Q : hs_Q} (hd : 5 ≤ d)      {v1 : hs_V} {h : hs_H} {r : hs_H} (e : hb_10_22 h = some r) (q : Q none r) : hs_W S d 0 hs_p10 Q 22 [hs_r 1 0, v1] [] h := by
  unfold hb_10_22 at e
  refine hs_wa 3 (c := nI 1 = 0 ∨ nI 1 = 1) (pc' := 27) (ls' := [hs_r 1 0, v1]) (st' := []) (h' := hs_put h 1 0 4 (nI 1)) (fun n w => w) (by decide) ?_
  obtain ⟨q2, eq2, e⟩ := hs_bind_some e
  try dsimp only at e
  refine hs_wc 7 (y := 11) (a := [hs_r 1 0]) (v := none) (pc' := 42) (ls' := [hs_r 1 0, v1]) (st' := []) (h' := hs_put (hs_put h 1 0 4 (nI 1)) 1 0 5 ((hs_put h 1 0 4 (nI 1)).1 4 0 6)) (h2 := q2) (fun n w => w) (fun q => hc_11 (by omega) eq2 q) ?_
  refine hs_w 2 (pc' := 44) (ls' := [hs_r 1 0, hs_i (nI 1)]) (st' := []) (h' := q2) (fun n w => w) ?_
  exact hw_10_44_lp hd hs_big e  q
/-- HuntedScent$Chase.solve()V -/
def hf_10  (h : hs_H) : Option (hs_H) := if (h.1 1 0 4) = 0 then (hb_10_22 h) else (if ¬ (h.1 1 0 5) = (h.1 4 0 6) then (hb_10_22 h) else (some h))
set_option maxHeartbeats 1000000 in
theorem hc_10 {S : hs_S} {D : Nat} {Q : hs_Q} (hD : 6 ≤ D)  {h : hs_H} {r : hs_H} (e : hf_10 h = some r) (q : Q none r) : hs_call hs_ms S D 10 [hs_r 1 0] h Q := by
  refine hs_go (R := 5) hD rfl (Nat.le_of_ble_eq_true rfl) (fun d hd => ?_)
  show hs_W S d 0 hs_p10 Q 0 [hs_r 1 0, hs_u] [] h
  unfold hf_10 at e
  refine hs_wb 3 (c := (h.1 1 0 4) = 0) (t := 22) (f := 7) (ls' := [hs_r 1 0, hs_u]) (st' := []) (h' := h) (fun n w => w) (fun b1 => ?_) (fun b1 => ?_)
  · rw [if_pos b1] at e
    exact hw_10_22 hd e q
  · rw [if_neg b1] at e
    refine hs_wb 6 (c := ¬ (h.1 1 0 5) = (h.1 4 0 6)) (t := 22) (f := 21) (ls' := [hs_r 1 0, hs_u]) (st' := []) (h' := h) (fun n w => w) (fun b6 => ?_) (fun b6 => ?_)
    · rw [if_pos b6] at e
      exact hw_10_22 hd e q
    · rw [if_neg b6] at e
      obtain rfl := Option.some.inj e
      exact hs_wr 1 (v := none) (h' := h) (fun n w => w) q
def hb_16_27    (s0 : Int32) (h : hs_H) : Option (Int32 × hs_H) := some (s0, h)
set_option maxHeartbeats 1000000 in
theorem hw_16_27 {S : hs_S} {d : Nat} {Q : hs_Q} (hd : 2 ≤ d)     {s0 : Int32} {v1 : hs_V} {v2 : hs_V} {v3 : hs_V} {v4 : hs_V} {h : hs_H} {r : Int32 × hs_H} (e : hb_16_27 s0 h = some r) (q : Q (some (hs_i r.1)) r.2) : hs_W S d 1 hs_p16 Q 27 [hs_r 1 0, v1, v2, v3, v4] [hs_i s0] h := by
  unfold hb_16_27 at e
  obtain rfl := Option.some.inj e
  exact hs_wr 1 (v := some (hs_i s0)) (h' := h) (fun n w => w) q
/-- HuntedScent$Chase.turnsOf(III)I -/
def hf_16 (a1 : Int32) (a2 : Int32) (a3 : Int32) (h : hs_H) : Option (Int32 × hs_H) := (hf_22 a1 a2 a3 h).bind (fun q1 => hs_ck (hs_inb q1.1 1000) (if ¬ (q1.2.1 24 0 q1.1.toNatClampNeg) = (nI 1000000) then (hb_16_27 (q1.2.1 24 0 q1.1.toNatClampNeg) q1.2) else (hb_16_27 (nI 4294967292) q1.2)))
set_option maxHeartbeats 1000000 in
theorem hc_16 {S : hs_S} {D : Nat} {Q : hs_Q} (hD : 3 ≤ D) {a1 : Int32} {a2 : Int32} {a3 : Int32} {h : hs_H} {r : Int32 × hs_H} (e : hf_16 a1 a2 a3 h = some r) (q : Q (some (hs_i r.1)) r.2) : hs_call hs_ms S D 16 [hs_r 1 0, hs_i a1, hs_i a2, hs_i a3] h Q := by
  refine hs_go (R := 2) hD rfl (Nat.le_of_ble_eq_true rfl) (fun d hd => ?_)
  show hs_W S d 1 hs_p16 Q 0 [hs_r 1 0, hs_i a1, hs_i a2, hs_i a3, hs_u] [] h
  unfold hf_16 at e
  obtain ⟨q1, eq1, e⟩ := hs_bind_some e
  try dsimp only at e
  refine hs_wc 6 (y := 22) (a := [hs_i a1, hs_i a2, hs_i a3]) (v := some (hs_i q1.1)) (pc' := 10) (ls' := [hs_r 1 0, hs_i a1, hs_i a2, hs_i a3, hs_u]) (st' := [hs_r 24 0]) (h' := h) (h2 := q1.2) (fun n w => w) (fun q => hc_22 (by omega) eq1 q) ?_
  obtain ⟨c2, e⟩ := hs_ck_some e
  refine hs_wa 1 (c := vp_in q1.1 1000) (pc' := 11) (ls' := [hs_r 1 0, hs_i a1, hs_i a2, hs_i a3, hs_u]) (st' := [hs_i (q1.2.1 24 0 q1.1.toNatClampNeg)]) (h' := q1.2) (fun n w => w) (hs_inb_iff.mp c2) ?_
  refine hs_wb 4 (c := ¬ (q1.2.1 24 0 q1.1.toNatClampNeg) = (nI 1000000)) (t := 25) (f := 20) (ls' := [hs_r 1 0, hs_i a1, hs_i a2, hs_i a3, hs_i (q1.2.1 24 0 q1.1.toNatClampNeg)]) (st' := []) (h' := q1.2) (fun n w => w) (fun b3 => ?_) (fun b3 => ?_)
  · rw [if_pos b3] at e
    refine hs_w 1 (pc' := 27) (ls' := [hs_r 1 0, hs_i a1, hs_i a2, hs_i a3, hs_i (q1.2.1 24 0 q1.1.toNatClampNeg)]) (st' := [hs_i (q1.2.1 24 0 q1.1.toNatClampNeg)]) (h' := q1.2) (fun n w => w) ?_
    exact hw_16_27 hd e q
  · rw [if_neg b3] at e
    refine hs_w 2 (pc' := 27) (ls' := [hs_r 1 0, hs_i a1, hs_i a2, hs_i a3, hs_i (q1.2.1 24 0 q1.1.toNatClampNeg)]) (st' := [hs_i (nI 4294967292)]) (h' := q1.2) (fun n w => w) ?_
    exact hw_16_27 hd e q
def hb_131_33     (h : hs_H) : Option (Int32 × hs_H) := some (nI 4294967295, h)
set_option maxHeartbeats 1000000 in
theorem hw_131_33 {S : hs_S} {d : Nat} {Q : hs_Q} (hd : 6 ≤ d)      {v1 : hs_V} {v2 : hs_V} {v3 : hs_V} {h : hs_H} {r : Int32 × hs_H} (e : hb_131_33 h = some r) (q : Q (some (hs_i r.1)) r.2) : hs_W S d 1 hs_p131 Q 33 [hs_r 11 0, v1, v2, v3] [] h := by
  unfold hb_131_33 at e
  obtain rfl := Option.some.inj e
  exact hs_wr 2 (v := some (hs_i (nI 4294967295))) (h' := h) (fun n w => w) q
/-- HuntedScent.caught(III)I -/
def hf_131 (a1 : Int32) (a2 : Int32) (a3 : Int32) (h : hs_H) : Option (Int32 × hs_H) := (hf_29 0 a1 h).bind (fun q1 => if q1.1 = 0 then (hb_131_33 q1.2) else ((hf_29 0 a2 q1.2).bind (fun q3 => if q3.1 = 0 then (hb_131_33 q3.2) else ((hf_29 0 a3 q3.2).bind (fun q5 => if ¬ q5.1 = 0 then ((hf_10 q5.2).bind (fun q7 => (hf_16 a1 a2 a3 q7).bind (fun q8 => some (q8.1, q8.2)))) else (hb_131_33 q5.2))))))
set_option maxHeartbeats 1000000 in
theorem hc_131 {S : hs_S} {D : Nat} {Q : hs_Q} (hD : 7 ≤ D) {a1 : Int32} {a2 : Int32} {a3 : Int32} {h : hs_H} {r : Int32 × hs_H} (e : hf_131 a1 a2 a3 h = some r) (q : Q (some (hs_i r.1)) r.2) : hs_call hs_ms S D 131 [hs_r 11 0, hs_i a1, hs_i a2, hs_i a3] h Q := by
  refine hs_go (R := 6) hD rfl (Nat.le_of_ble_eq_true rfl) (fun d hd => ?_)
  show hs_W S d 1 hs_p131 Q 0 [hs_r 11 0, hs_i a1, hs_i a2, hs_i a3] [] h
  unfold hf_131 at e
  obtain ⟨q1, eq1, e⟩ := hs_bind_some e
  try dsimp only at e
  refine hs_wc 4 (y := 29) (a := [hs_r 4 0, hs_i a1]) (v := some (hs_i q1.1)) (pc' := 8) (ls' := [hs_r 11 0, hs_i a1, hs_i a2, hs_i a3]) (st' := []) (h' := h) (h2 := q1.2) (fun n w => w) (fun q => hc_29 (by omega) eq1 q) ?_
  refine hs_wb 1 (c := q1.1 = 0) (t := 33) (f := 11) (ls' := [hs_r 11 0, hs_i a1, hs_i a2, hs_i a3]) (st' := []) (h' := q1.2) (fun n w => w) (fun b2 => ?_) (fun b2 => ?_)
  · rw [if_pos b2] at e
    exact hw_131_33 hd e q
  · rw [if_neg b2] at e
    obtain ⟨q3, eq3, e⟩ := hs_bind_some e
    try dsimp only at e
    refine hs_wc 4 (y := 29) (a := [hs_r 4 0, hs_i a2]) (v := some (hs_i q3.1)) (pc' := 19) (ls' := [hs_r 11 0, hs_i a1, hs_i a2, hs_i a3]) (st' := []) (h' := q1.2) (h2 := q3.2) (fun n w => w) (fun q => hc_29 (by omega) eq3 q) ?_
    refine hs_wb 1 (c := q3.1 = 0) (t := 33) (f := 22) (ls' := [hs_r 11 0, hs_i a1, hs_i a2, hs_i a3]) (st' := []) (h' := q3.2) (fun n w => w) (fun b4 => ?_) (fun b4 => ?_)
    · rw [if_pos b4] at e
      exact hw_131_33 hd e q
    · rw [if_neg b4] at e
      obtain ⟨q5, eq5, e⟩ := hs_bind_some e
      try dsimp only at e
      refine hs_wc 4 (y := 29) (a := [hs_r 4 0, hs_i a3]) (v := some (hs_i q5.1)) (pc' := 30) (ls' := [hs_r 11 0, hs_i a1, hs_i a2, hs_i a3]) (st' := []) (h' := q3.2) (h2 := q5.2) (fun n w => w) (fun q => hc_29 (by omega) eq5 q) ?_
      refine hs_wb 1 (c := ¬ q5.1 = 0) (t := 35) (f := 33) (ls' := [hs_r 11 0, hs_i a1, hs_i a2, hs_i a3]) (st' := []) (h' := q5.2) (fun n w => w) (fun b6 => ?_) (fun b6 => ?_)
      · rw [if_pos b6] at e
        obtain ⟨q7, eq7, e⟩ := hs_bind_some e
        try dsimp only at e
        refine hs_wc 3 (y := 10) (a := [hs_r 1 0]) (v := none) (pc' := 42) (ls' := [hs_r 11 0, hs_i a1, hs_i a2, hs_i a3]) (st' := []) (h' := q5.2) (h2 := q7) (fun n w => w) (fun q => hc_10 (by omega) eq7 q) ?_
        obtain ⟨q8, eq8, e⟩ := hs_bind_some e
        try dsimp only at e
        refine hs_wc 6 (y := 16) (a := [hs_r 1 0, hs_i a1, hs_i a2, hs_i a3]) (v := some (hs_i q8.1)) (pc' := 52) (ls' := [hs_r 11 0, hs_i a1, hs_i a2, hs_i a3]) (st' := []) (h' := q7) (h2 := q8.2) (fun n w => w) (fun q => hc_16 (by omega) eq8 q) ?_
        obtain rfl := Option.some.inj e
        exact hs_wr 1 (v := some (hs_i q8.1)) (h' := q8.2) (fun n w => w) q
      · rw [if_neg b6] at e
        exact hw_131_33 hd e q
def hb_18_94  (k21 : Int32 × Int32 × Int32 × Int32 × Int32 × hs_H → Option (Int32 × hs_H)) (x1 : Int32) (x4 : Int32) (x5 : Int32) (x6 : Int32) (x7 : Int32)  (h : hs_H) : Option (Int32 × hs_H) := k21 (x1, x4, x5, x6, x7 + nI 1, h)
set_option maxHeartbeats 1000000 in
theorem hw_18_94 {S : hs_S} {d : Nat} {Q : hs_Q} (hd : 2 ≤ d)  {k21 : Int32 × Int32 × Int32 × Int32 × Int32 × hs_H → Option (Int32 × hs_H)} (hk21 : ∀ (x1 : Int32) (x4 : Int32) (x5 : Int32) (x6 : Int32) (x7 : Int32) (h : hs_H) (r : Int32 × hs_H) (v2 : hs_V) (v3 : hs_V) (v8 : hs_V), k21 (x1, x4, x5, x6, x7, h) = some r → Q (some (hs_i r.1)) r.2 → hs_W S d 1 hs_p18 Q 21 [hs_r 1 0, hs_i x1, v2, v3, hs_i x4, hs_i x5, hs_i x6, hs_i x7, v8] [] h) {x1 : Int32} {x4 : Int32} {x5 : Int32} {x6 : Int32} {x7 : Int32}  {v2 : hs_V} {v3 : hs_V} {v8 : hs_V} {h : hs_H} {r : Int32 × hs_H} (e : hb_18_94 k21 x1 x4 x5 x6 x7 h = some r) (q : Q (some (hs_i r.1)) r.2) : hs_W S d 1 hs_p18 Q 94 [hs_r 1 0, hs_i x1, v2, v3, hs_i x4, hs_i x5, hs_i x6, hs_i x7, v8] [] h := by
  unfold hb_18_94 at e
  refine hs_w 2 (pc' := 21) (ls' := [hs_r 1 0, hs_i x1, v2, v3, hs_i x4, hs_i x5, hs_i x6, hs_i (x7 + nI 1), v8]) (st' := []) (h' := h) (fun n w => w) ?_
  exact hk21 _ _ _ _ _ _ _ _ _ _ e q
def hb_18_88  (k21 : Int32 × Int32 × Int32 × Int32 × Int32 × hs_H → Option (Int32 × hs_H)) (k36 : Int32 × Int32 × Int32 × Int32 × Int32 × Int32 × hs_H → Option (Int32 × hs_H)) (x1 : Int32) (x4 : Int32) (x5 : Int32) (x6 : Int32) (x7 : Int32) (x8 : Int32)  (h : hs_H) : Option (Int32 × hs_H) := k36 (x1, x4, x5, x6, x7, x8 + nI 1, h)
set_option maxHeartbeats 1000000 in
theorem hw_18_88 {S : hs_S} {d : Nat} {Q : hs_Q} (hd : 2 ≤ d)  {k21 : Int32 × Int32 × Int32 × Int32 × Int32 × hs_H → Option (Int32 × hs_H)} {k36 : Int32 × Int32 × Int32 × Int32 × Int32 × Int32 × hs_H → Option (Int32 × hs_H)} (hk21 : ∀ (x1 : Int32) (x4 : Int32) (x5 : Int32) (x6 : Int32) (x7 : Int32) (h : hs_H) (r : Int32 × hs_H) (v2 : hs_V) (v3 : hs_V) (v8 : hs_V), k21 (x1, x4, x5, x6, x7, h) = some r → Q (some (hs_i r.1)) r.2 → hs_W S d 1 hs_p18 Q 21 [hs_r 1 0, hs_i x1, v2, v3, hs_i x4, hs_i x5, hs_i x6, hs_i x7, v8] [] h) (hk36 : ∀ (x1 : Int32) (x4 : Int32) (x5 : Int32) (x6 : Int32) (x7 : Int32) (x8 : Int32) (h : hs_H) (r : Int32 × hs_H) (v2 : hs_V) (v3 : hs_V), k36 (x1, x4, x5, x6, x7, x8, h) = some r → Q (some (hs_i r.1)) r.2 → hs_W S d 1 hs_p18 Q 36 [hs_r 1 0, hs_i x1, v2, v3, hs_i x4, hs_i x5, hs_i x6, hs_i x7, hs_i x8] [] h) {x1 : Int32} {x4 : Int32} {x5 : Int32} {x6 : Int32} {x7 : Int32} {x8 : Int32}  {v2 : hs_V} {v3 : hs_V} {h : hs_H} {r : Int32 × hs_H} (e : hb_18_88 k21 k36 x1 x4 x5 x6 x7 x8 h = some r) (q : Q (some (hs_i r.1)) r.2) : hs_W S d 1 hs_p18 Q 88 [hs_r 1 0, hs_i x1, v2, v3, hs_i x4, hs_i x5, hs_i x6, hs_i x7, hs_i x8] [] h := by
  unfold hb_18_88 at e
  refine hs_w 2 (pc' := 36) (ls' := [hs_r 1 0, hs_i x1, v2, v3, hs_i x4, hs_i x5, hs_i x6, hs_i x7, hs_i (x8 + nI 1)]) (st' := []) (h' := h) (fun n w => w) ?_
  exact hk36 _ _ _ _ _ _ _ _ _ _ e q
def hb_18_36  (k21 : Int32 × Int32 × Int32 × Int32 × Int32 × hs_H → Option (Int32 × hs_H)) (k36 : Int32 × Int32 × Int32 × Int32 × Int32 × Int32 × hs_H → Option (Int32 × hs_H)) (x1 : Int32) (x4 : Int32) (x5 : Int32) (x6 : Int32) (x7 : Int32) (x8 : Int32)  (h : hs_H) : Option (Int32 × hs_H) := if (h.1 4 0 1) ≤ x8 then (hb_18_94 k21 x1 x4 x5 x6 x7 h) else ((hf_147 x4 x7 h).bind (fun q5 => if q5.1 = 0 then (hb_18_94 k21 x1 x4 x5 x6 x7 q5.2) else ((hf_147 x5 x8 q5.2).bind (fun q7 => if q7.1 = 0 then (hb_18_88 k21 k36 x1 x4 x5 x6 x7 x8 q7.2) else ((hf_22 x1 x7 x8 q7.2).bind (fun q9 => hs_ck (hs_inb q9.1 1000) ((hf_243 x6 (q9.2.1 24 0 q9.1.toNatClampNeg) q9.2).bind (fun q11 => hb_18_88 k21 k36 x1 x4 x5 q11.1 x7 x8 q11.2))))))))
set_option maxHeartbeats 1000000 in
theorem hw_18_36 {S : hs_S} {d : Nat} {Q : hs_Q} (hd : 2 ≤ d)  {k21 : Int32 × Int32 × Int32 × Int32 × Int32 × hs_H → Option (Int32 × hs_H)} {k36 : Int32 × Int32 × Int32 × Int32 × Int32 × Int32 × hs_H → Option (Int32 × hs_H)} (hk21 : ∀ (x1 : Int32) (x4 : Int32) (x5 : Int32) (x6 : Int32) (x7 : Int32) (h : hs_H) (r : Int32 × hs_H) (v2 : hs_V) (v3 : hs_V) (v8 : hs_V), k21 (x1, x4, x5, x6, x7, h) = some r → Q (some (hs_i r.1)) r.2 → hs_W S d 1 hs_p18 Q 21 [hs_r 1 0, hs_i x1, v2, v3, hs_i x4, hs_i x5, hs_i x6, hs_i x7, v8] [] h) (hk36 : ∀ (x1 : Int32) (x4 : Int32) (x5 : Int32) (x6 : Int32) (x7 : Int32) (x8 : Int32) (h : hs_H) (r : Int32 × hs_H) (v2 : hs_V) (v3 : hs_V), k36 (x1, x4, x5, x6, x7, x8, h) = some r → Q (some (hs_i r.1)) r.2 → hs_W S d 1 hs_p18 Q 36 [hs_r 1 0, hs_i x1, v2, v3, hs_i x4, hs_i x5, hs_i x6, hs_i x7, hs_i x8] [] h) {x1 : Int32} {x4 : Int32} {x5 : Int32} {x6 : Int32} {x7 : Int32} {x8 : Int32}  {v2 : hs_V} {v3 : hs_V} {h : hs_H} {r : Int32 × hs_H} (e : hb_18_36 k21 k36 x1 x4 x5 x6 x7 x8 h = some r) (q : Q (some (hs_i r.1)) r.2) : hs_W S d 1 hs_p18 Q 36 [hs_r 1 0, hs_i x1, v2, v3, hs_i x4, hs_i x5, hs_i x6, hs_i x7, hs_i x8] [] h := by
  unfold hb_18_36 at e
  refine hs_wb 5 (c := (h.1 4 0 1) ≤ x8) (t := 94) (f := 48) (ls' := [hs_r 1 0, hs_i x1, v2, v3, hs_i x4, hs_i x5, hs_i x6, hs_i x7, hs_i x8]) (st' := []) (h' := h) (fun n w => w) (fun b4 => ?_) (fun b4 => ?_)
  · rw [if_pos b4] at e
    exact hw_18_94 hd hk21 e q
  · rw [if_neg b4] at e
    obtain ⟨q5, eq5, e⟩ := hs_bind_some e
    try dsimp only at e
    refine hs_wc 3 (y := 147) (a := [hs_i x4, hs_i x7]) (v := some (hs_i q5.1)) (pc' := 55) (ls' := [hs_r 1 0, hs_i x1, v2, v3, hs_i x4, hs_i x5, hs_i x6, hs_i x7, hs_i x8]) (st' := []) (h' := h) (h2 := q5.2) (fun n w => w) (fun q => hc_147 (by omega) eq5 q) ?_
    refine hs_wb 1 (c := q5.1 = 0) (t := 94) (f := 58) (ls' := [hs_r 1 0, hs_i x1, v2, v3, hs_i x4, hs_i x5, hs_i x6, hs_i x7, hs_i x8]) (st' := []) (h' := q5.2) (fun n w => w) (fun b6 => ?_) (fun b6 => ?_)
    · rw [if_pos b6] at e
      exact hw_18_94 hd hk21 e q
    · rw [if_neg b6] at e
      obtain ⟨q7, eq7, e⟩ := hs_bind_some e
      try dsimp only at e
      refine hs_wc 3 (y := 147) (a := [hs_i x5, hs_i x8]) (v := some (hs_i q7.1)) (pc' := 65) (ls' := [hs_r 1 0, hs_i x1, v2, v3, hs_i x4, hs_i x5, hs_i x6, hs_i x7, hs_i x8]) (st' := []) (h' := q5.2) (h2 := q7.2) (fun n w => w) (fun q => hc_147 (by omega) eq7 q) ?_
      refine hs_wb 1 (c := q7.1 = 0) (t := 88) (f := 68) (ls' := [hs_r 1 0, hs_i x1, v2, v3, hs_i x4, hs_i x5, hs_i x6, hs_i x7, hs_i x8]) (st' := []) (h' := q7.2) (fun n w => w) (fun b8 => ?_) (fun b8 => ?_)
      · rw [if_pos b8] at e
        exact hw_18_88 hd hk21 hk36 e q
      · rw [if_neg b8] at e
        obtain ⟨q9, eq9, e⟩ := hs_bind_some e
        try dsimp only at e
        refine hs_wc 7 (y := 22) (a := [hs_i x1, hs_i x7, hs_i x8]) (v := some (hs_i q9.1)) (pc' := 82) (ls' := [hs_r 1 0, hs_i x1, v2, v3, hs_i x4, hs_i x5, hs_i x6, hs_i x7, hs_i x8]) (st' := [hs_r 24 0, hs_i x6]) (h' := q7.2) (h2 := q9.2) (fun n w => w) (fun q => hc_22 (by omega) eq9 q) ?_
        obtain ⟨c10, e⟩ := hs_ck_some e
        refine hs_wa 1 (c := vp_in q9.1 1000) (pc' := 83) (ls' := [hs_r 1 0, hs_i x1, v2, v3, hs_i x4, hs_i x5, hs_i x6, hs_i x7, hs_i x8]) (st' := [hs_i (q9.2.1 24 0 q9.1.toNatClampNeg), hs_i x6]) (h' := q9.2) (fun n w => w) (hs_inb_iff.mp c10) ?_
        obtain ⟨q11, eq11, e⟩ := hs_bind_some e
        try dsimp only at e
        refine hs_wc 1 (y := 243) (a := [hs_i x6, hs_i (q9.2.1 24 0 q9.1.toNatClampNeg)]) (v := some (hs_i q11.1)) (pc' := 86) (ls' := [hs_r 1 0, hs_i x1, v2, v3, hs_i x4, hs_i x5, hs_i x6, hs_i x7, hs_i x8]) (st' := []) (h' := q9.2) (h2 := q11.2) (fun n w => w) (fun q => hc_243 (by omega) eq11 q) ?_
        refine hs_w 1 (pc' := 88) (ls' := [hs_r 1 0, hs_i x1, v2, v3, hs_i x4, hs_i x5, hs_i q11.1, hs_i x7, hs_i x8]) (st' := []) (h' := q11.2) (fun n w => w) ?_
        exact hw_18_88 hd hk21 hk36 e q
theorem hw_18_36_lp {S : hs_S} {d : Nat} {Q : hs_Q} (hd : 2 ≤ d)  {k21 : Int32 × Int32 × Int32 × Int32 × Int32 × hs_H → Option (Int32 × hs_H)} (hk21 : ∀ (x1 : Int32) (x4 : Int32) (x5 : Int32) (x6 : Int32) (x7 : Int32) (h : hs_H) (r : Int32 × hs_H) (v2 : hs_V) (v3 : hs_V) (v8 : hs_V), k21 (x1, x4, x5, x6, x7, h) = some r → Q (some (hs_i r.1)) r.2 → hs_W S d 1 hs_p18 Q 21 [hs_r 1 0, hs_i x1, v2, v3, hs_i x4, hs_i x5, hs_i x6, hs_i x7, v8] [] h) (n : Nat) {x1 : Int32} {x4 : Int32} {x5 : Int32} {x6 : Int32} {x7 : Int32} {x8 : Int32} {h : hs_H} {r : Int32 × hs_H} (e : hs_lp (fun k s => hb_18_36 k21 k s.1 s.2.1 s.2.2.1 s.2.2.2.1 s.2.2.2.2.1 s.2.2.2.2.2.1 s.2.2.2.2.2.2) n (x1, x4, x5, x6, x7, x8, h) = some r) (v2 : hs_V) (v3 : hs_V) (q : Q (some (hs_i r.1)) r.2) : hs_W S d 1 hs_p18 Q 36 [hs_r 1 0, hs_i x1, v2, v3, hs_i x4, hs_i x5, hs_i x6, hs_i x7, hs_i x8] [] h := by
  refine hs_lp_ind (P := fun (s : Int32 × Int32 × Int32 × Int32 × Int32 × Int32 × hs_H) (r : Int32 × hs_H) => ∀ (v2 : hs_V) (v3 : hs_V), Q (some (hs_i r.1)) r.2 → hs_W S d 1 hs_p18 Q 36 [hs_r 1 0, hs_i s.1, v2, v3, hs_i s.2.1, hs_i s.2.2.1, hs_i s.2.2.2.1, hs_i s.2.2.2.2.1, hs_i s.2.2.2.2.2.1] [] s.2.2.2.2.2.2) (fun k hk s r e v2 v3 q => ?_) n (x1, x4, x5, x6, x7, x8, h) r e v2 v3 q
  exact hw_18_36 hd hk21 (fun x1 x4 x5 x6 x7 x8 h r v2 v3 e q => hk (x1, x4, x5, x6, x7, x8, h) r e v2 v3 q) e q
def hb_18_21  (k21 : Int32 × Int32 × Int32 × Int32 × Int32 × hs_H → Option (Int32 × hs_H)) (x1 : Int32) (x4 : Int32) (x5 : Int32) (x6 : Int32) (x7 : Int32)  (h : hs_H) : Option (Int32 × hs_H) := if (h.1 4 0 1) ≤ x7 then (some (x6, h)) else (hs_lp (fun k s => hb_18_36 k21 k s.1 s.2.1 s.2.2.1 s.2.2.2.1 s.2.2.2.2.1 s.2.2.2.2.2.1 s.2.2.2.2.2.2) hs_big (x1, x4, x5, x6, x7, nI 0, h))
set_option maxHeartbeats 1000000 in
theorem hw_18_21 {S : hs_S} {d : Nat} {Q : hs_Q} (hd : 2 ≤ d)  {k21 : Int32 × Int32 × Int32 × Int32 × Int32 × hs_H → Option (Int32 × hs_H)} (hk21 : ∀ (x1 : Int32) (x4 : Int32) (x5 : Int32) (x6 : Int32) (x7 : Int32) (h : hs_H) (r : Int32 × hs_H) (v2 : hs_V) (v3 : hs_V) (v8 : hs_V), k21 (x1, x4, x5, x6, x7, h) = some r → Q (some (hs_i r.1)) r.2 → hs_W S d 1 hs_p18 Q 21 [hs_r 1 0, hs_i x1, v2, v3, hs_i x4, hs_i x5, hs_i x6, hs_i x7, v8] [] h) {x1 : Int32} {x4 : Int32} {x5 : Int32} {x6 : Int32} {x7 : Int32}  {v2 : hs_V} {v3 : hs_V} {v8 : hs_V} {h : hs_H} {r : Int32 × hs_H} (e : hb_18_21 k21 x1 x4 x5 x6 x7 h = some r) (q : Q (some (hs_i r.1)) r.2) : hs_W S d 1 hs_p18 Q 21 [hs_r 1 0, hs_i x1, v2, v3, hs_i x4, hs_i x5, hs_i x6, hs_i x7, v8] [] h := by
  unfold hb_18_21 at e
  refine hs_wb 5 (c := (h.1 4 0 1) ≤ x7) (t := 100) (f := 33) (ls' := [hs_r 1 0, hs_i x1, v2, v3, hs_i x4, hs_i x5, hs_i x6, hs_i x7, v8]) (st' := []) (h' := h) (fun n w => w) (fun b3 => ?_) (fun b3 => ?_)
  · rw [if_pos b3] at e
    obtain rfl := Option.some.inj e
    exact hs_wr 2 (v := some (hs_i x6)) (h' := h) (fun n w => w) q
  · rw [if_neg b3] at e
    refine hs_w 2 (pc' := 36) (ls' := [hs_r 1 0, hs_i x1, v2, v3, hs_i x4, hs_i x5, hs_i x6, hs_i x7, hs_i (nI 0)]) (st' := []) (h' := h) (fun n w => w) ?_
    exact hw_18_36_lp hd hk21 hs_big e _ _ q
theorem hw_18_21_lp {S : hs_S} {d : Nat} {Q : hs_Q} (hd : 2 ≤ d)    (n : Nat) {x1 : Int32} {x4 : Int32} {x5 : Int32} {x6 : Int32} {x7 : Int32} {h : hs_H} {r : Int32 × hs_H} (e : hs_lp (fun k s => hb_18_21 k s.1 s.2.1 s.2.2.1 s.2.2.2.1 s.2.2.2.2.1 s.2.2.2.2.2) n (x1, x4, x5, x6, x7, h) = some r) (v2 : hs_V) (v3 : hs_V) (v8 : hs_V) (q : Q (some (hs_i r.1)) r.2) : hs_W S d 1 hs_p18 Q 21 [hs_r 1 0, hs_i x1, v2, v3, hs_i x4, hs_i x5, hs_i x6, hs_i x7, v8] [] h := by
  refine hs_lp_ind (P := fun (s : Int32 × Int32 × Int32 × Int32 × Int32 × hs_H) (r : Int32 × hs_H) => ∀ (v2 : hs_V) (v3 : hs_V) (v8 : hs_V), Q (some (hs_i r.1)) r.2 → hs_W S d 1 hs_p18 Q 21 [hs_r 1 0, hs_i s.1, v2, v3, hs_i s.2.1, hs_i s.2.2.1, hs_i s.2.2.2.1, hs_i s.2.2.2.2.1, v8] [] s.2.2.2.2.2) (fun k hk s r e v2 v3 v8 q => ?_) n (x1, x4, x5, x6, x7, h) r e v2 v3 v8 q
  exact hw_18_21 hd (fun x1 x4 x5 x6 x7 h r v2 v3 v8 e q => hk (x1, x4, x5, x6, x7, h) r e v2 v3 v8 q) e q
/-- HuntedScent$Chase.lastsAt(III)I -/
def hf_18 (a1 : Int32) (a2 : Int32) (a3 : Int32) (h : hs_H) : Option (Int32 × hs_H) := (hf_20 a2 h).bind (fun q1 => (hf_20 a3 q1.2).bind (fun q2 => hs_lp (fun k s => hb_18_21 k s.1 s.2.1 s.2.2.1 s.2.2.2.1 s.2.2.2.2.1 s.2.2.2.2.2) hs_big (a1, q1.1, q2.1, nI 1000000, nI 0, q2.2)))
set_option maxHeartbeats 1000000 in
theorem hc_18 {S : hs_S} {D : Nat} {Q : hs_Q} (hD : 3 ≤ D) {a1 : Int32} {a2 : Int32} {a3 : Int32} {h : hs_H} {r : Int32 × hs_H} (e : hf_18 a1 a2 a3 h = some r) (q : Q (some (hs_i r.1)) r.2) : hs_call hs_ms S D 18 [hs_r 1 0, hs_i a1, hs_i a2, hs_i a3] h Q := by
  refine hs_go (R := 2) hD rfl (Nat.le_of_ble_eq_true rfl) (fun d hd => ?_)
  show hs_W S d 1 hs_p18 Q 0 [hs_r 1 0, hs_i a1, hs_i a2, hs_i a3, hs_u, hs_u, hs_u, hs_u, hs_u] [] h
  unfold hf_18 at e
  obtain ⟨q1, eq1, e⟩ := hs_bind_some e
  try dsimp only at e
  refine hs_wc 3 (y := 20) (a := [hs_r 1 0, hs_i a2]) (v := some (hs_i q1.1)) (pc' := 5) (ls' := [hs_r 1 0, hs_i a1, hs_i a2, hs_i a3, hs_u, hs_u, hs_u, hs_u, hs_u]) (st' := []) (h' := h) (h2 := q1.2) (fun n w => w) (fun q => hc_20 (by omega) eq1 q) ?_
  obtain ⟨q2, eq2, e⟩ := hs_bind_some e
  try dsimp only at e
  refine hs_wc 4 (y := 20) (a := [hs_r 1 0, hs_i a3]) (v := some (hs_i q2.1)) (pc' := 12) (ls' := [hs_r 1 0, hs_i a1, hs_i a2, hs_i a3, hs_i q1.1, hs_u, hs_u, hs_u, hs_u]) (st' := []) (h' := q1.2) (h2 := q2.2) (fun n w => w) (fun q => hc_20 (by omega) eq2 q) ?_
  refine hs_w 5 (pc' := 21) (ls' := [hs_r 1 0, hs_i a1, hs_i a2, hs_i a3, hs_i q1.1, hs_i q2.1, hs_i (nI 1000000), hs_i (nI 0), hs_u]) (st' := []) (h' := q2.2) (fun n w => w) ?_
  exact hw_18_21_lp hd hs_big e _ _ _ q
def hb_17_68  (k21 : Int32 × Int32 × Int32 × Int32 × Int32 × Int32 × hs_H → Option (Int32 × hs_H)) (x2 : Int32) (x3 : Int32) (x4 : Int32) (x5 : Int32) (x6 : Int32) (x7 : Int32)  (h : hs_H) : Option (Int32 × hs_H) := k21 (x2, x3, x4, x5, x6, x7 + nI 1, h)
set_option maxHeartbeats 1000000 in
theorem hw_17_68 {S : hs_S} {d : Nat} {Q : hs_Q} (hd : 3 ≤ d)  {k21 : Int32 × Int32 × Int32 × Int32 × Int32 × Int32 × hs_H → Option (Int32 × hs_H)} (hk21 : ∀ (x2 : Int32) (x3 : Int32) (x4 : Int32) (x5 : Int32) (x6 : Int32) (x7 : Int32) (h : hs_H) (r : Int32 × hs_H) (v1 : hs_V) (v8 : hs_V), k21 (x2, x3, x4, x5, x6, x7, h) = some r → Q (some (hs_i r.1)) r.2 → hs_W S d 1 hs_p17 Q 21 [hs_r 1 0, v1, hs_i x2, hs_i x3, hs_i x4, hs_i x5, hs_i x6, hs_i x7, v8] [] h) {x2 : Int32} {x3 : Int32} {x4 : Int32} {x5 : Int32} {x6 : Int32} {x7 : Int32}  {v1 : hs_V} {v8 : hs_V} {h : hs_H} {r : Int32 × hs_H} (e : hb_17_68 k21 x2 x3 x4 x5 x6 x7 h = some r) (q : Q (some (hs_i r.1)) r.2) : hs_W S d 1 hs_p17 Q 68 [hs_r 1 0, v1, hs_i x2, hs_i x3, hs_i x4, hs_i x5, hs_i x6, hs_i x7, v8] [] h := by
  unfold hb_17_68 at e
  refine hs_w 2 (pc' := 21) (ls' := [hs_r 1 0, v1, hs_i x2, hs_i x3, hs_i x4, hs_i x5, hs_i x6, hs_i (x7 + nI 1), v8]) (st' := []) (h' := h) (fun n w => w) ?_
  exact hk21 _ _ _ _ _ _ _ _ _ _ e q
def hb_17_21  (k21 : Int32 × Int32 × Int32 × Int32 × Int32 × Int32 × hs_H → Option (Int32 × hs_H)) (x2 : Int32) (x3 : Int32) (x4 : Int32) (x5 : Int32) (x6 : Int32) (x7 : Int32)  (h : hs_H) : Option (Int32 × hs_H) := if (h.1 4 0 1) ≤ x7 then (some (x5, h)) else ((hf_147 x4 x7 h).bind (fun q3 => if q3.1 = 0 then (hb_17_68 k21 x2 x3 x4 x5 x6 x7 q3.2) else ((hf_18 x7 x2 x3 q3.2).bind (fun q5 => if q5.1 ≤ x6 then (hb_17_68 k21 x2 x3 x4 x5 x6 x7 q5.2) else (hb_17_68 k21 x2 x3 x4 x7 q5.1 x7 q5.2)))))
set_option maxHeartbeats 1000000 in
theorem hw_17_21 {S : hs_S} {d : Nat} {Q : hs_Q} (hd : 3 ≤ d)  {k21 : Int32 × Int32 × Int32 × Int32 × Int32 × Int32 × hs_H → Option (Int32 × hs_H)} (hk21 : ∀ (x2 : Int32) (x3 : Int32) (x4 : Int32) (x5 : Int32) (x6 : Int32) (x7 : Int32) (h : hs_H) (r : Int32 × hs_H) (v1 : hs_V) (v8 : hs_V), k21 (x2, x3, x4, x5, x6, x7, h) = some r → Q (some (hs_i r.1)) r.2 → hs_W S d 1 hs_p17 Q 21 [hs_r 1 0, v1, hs_i x2, hs_i x3, hs_i x4, hs_i x5, hs_i x6, hs_i x7, v8] [] h) {x2 : Int32} {x3 : Int32} {x4 : Int32} {x5 : Int32} {x6 : Int32} {x7 : Int32}  {v1 : hs_V} {v8 : hs_V} {h : hs_H} {r : Int32 × hs_H} (e : hb_17_21 k21 x2 x3 x4 x5 x6 x7 h = some r) (q : Q (some (hs_i r.1)) r.2) : hs_W S d 1 hs_p17 Q 21 [hs_r 1 0, v1, hs_i x2, hs_i x3, hs_i x4, hs_i x5, hs_i x6, hs_i x7, v8] [] h := by
  unfold hb_17_21 at e
  refine hs_wb 5 (c := (h.1 4 0 1) ≤ x7) (t := 74) (f := 33) (ls' := [hs_r 1 0, v1, hs_i x2, hs_i x3, hs_i x4, hs_i x5, hs_i x6, hs_i x7, v8]) (st' := []) (h' := h) (fun n w => w) (fun b2 => ?_) (fun b2 => ?_)
  · rw [if_pos b2] at e
    obtain rfl := Option.some.inj e
    exact hs_wr 2 (v := some (hs_i x5)) (h' := h) (fun n w => w) q
  · rw [if_neg b2] at e
    obtain ⟨q3, eq3, e⟩ := hs_bind_some e
    try dsimp only at e
    refine hs_wc 3 (y := 147) (a := [hs_i x4, hs_i x7]) (v := some (hs_i q3.1)) (pc' := 40) (ls' := [hs_r 1 0, v1, hs_i x2, hs_i x3, hs_i x4, hs_i x5, hs_i x6, hs_i x7, v8]) (st' := []) (h' := h) (h2 := q3.2) (fun n w => w) (fun q => hc_147 (by omega) eq3 q) ?_
    refine hs_wb 1 (c := q3.1 = 0) (t := 68) (f := 43) (ls' := [hs_r 1 0, v1, hs_i x2, hs_i x3, hs_i x4, hs_i x5, hs_i x6, hs_i x7, v8]) (st' := []) (h' := q3.2) (fun n w => w) (fun b4 => ?_) (fun b4 => ?_)
    · rw [if_pos b4] at e
      exact hw_17_68 hd hk21 e q
    · rw [if_neg b4] at e
      obtain ⟨q5, eq5, e⟩ := hs_bind_some e
      try dsimp only at e
      refine hs_wc 5 (y := 18) (a := [hs_r 1 0, hs_i x7, hs_i x2, hs_i x3]) (v := some (hs_i q5.1)) (pc' := 51) (ls' := [hs_r 1 0, v1, hs_i x2, hs_i x3, hs_i x4, hs_i x5, hs_i x6, hs_i x7, v8]) (st' := []) (h' := q3.2) (h2 := q5.2) (fun n w => w) (fun q => hc_18 (by omega) eq5 q) ?_
      refine hs_wb 4 (c := q5.1 ≤ x6) (t := 68) (f := 60) (ls' := [hs_r 1 0, v1, hs_i x2, hs_i x3, hs_i x4, hs_i x5, hs_i x6, hs_i x7, hs_i q5.1]) (st' := []) (h' := q5.2) (fun n w => w) (fun b6 => ?_) (fun b6 => ?_)
      · rw [if_pos b6] at e
        exact hw_17_68 hd hk21 e q
      · rw [if_neg b6] at e
        refine hs_w 4 (pc' := 68) (ls' := [hs_r 1 0, v1, hs_i x2, hs_i x3, hs_i x4, hs_i x7, hs_i q5.1, hs_i x7, hs_i q5.1]) (st' := []) (h' := q5.2) (fun n w => w) ?_
        exact hw_17_68 hd hk21 e q
theorem hw_17_21_lp {S : hs_S} {d : Nat} {Q : hs_Q} (hd : 3 ≤ d)    (n : Nat) {x2 : Int32} {x3 : Int32} {x4 : Int32} {x5 : Int32} {x6 : Int32} {x7 : Int32} {h : hs_H} {r : Int32 × hs_H} (e : hs_lp (fun k s => hb_17_21 k s.1 s.2.1 s.2.2.1 s.2.2.2.1 s.2.2.2.2.1 s.2.2.2.2.2.1 s.2.2.2.2.2.2) n (x2, x3, x4, x5, x6, x7, h) = some r) (v1 : hs_V) (v8 : hs_V) (q : Q (some (hs_i r.1)) r.2) : hs_W S d 1 hs_p17 Q 21 [hs_r 1 0, v1, hs_i x2, hs_i x3, hs_i x4, hs_i x5, hs_i x6, hs_i x7, v8] [] h := by
  refine hs_lp_ind (P := fun (s : Int32 × Int32 × Int32 × Int32 × Int32 × Int32 × hs_H) (r : Int32 × hs_H) => ∀ (v1 : hs_V) (v8 : hs_V), Q (some (hs_i r.1)) r.2 → hs_W S d 1 hs_p17 Q 21 [hs_r 1 0, v1, hs_i s.1, hs_i s.2.1, hs_i s.2.2.1, hs_i s.2.2.2.1, hs_i s.2.2.2.2.1, hs_i s.2.2.2.2.2.1, v8] [] s.2.2.2.2.2.2) (fun k hk s r e v1 v8 q => ?_) n (x2, x3, x4, x5, x6, x7, h) r e v1 v8 q
  exact hw_17_21 hd (fun x2 x3 x4 x5 x6 x7 h r v1 v8 e q => hk (x2, x3, x4, x5, x6, x7, h) r e v1 v8 q) e q
/-- HuntedScent$Chase.bestMove(III)I -/
def hf_17 (a1 : Int32) (a2 : Int32) (a3 : Int32) (h : hs_H) : Option (Int32 × hs_H) := (hf_40 0 a1 h).bind (fun q1 => hs_lp (fun k s => hb_17_21 k s.1 s.2.1 s.2.2.1 s.2.2.2.1 s.2.2.2.2.1 s.2.2.2.2.2.1 s.2.2.2.2.2.2) hs_big (a2, a3, q1.1, nI 4294967292, nI 4294967292, nI 0, q1.2))
set_option maxHeartbeats 1000000 in
theorem hc_17 {S : hs_S} {D : Nat} {Q : hs_Q} (hD : 4 ≤ D) {a1 : Int32} {a2 : Int32} {a3 : Int32} {h : hs_H} {r : Int32 × hs_H} (e : hf_17 a1 a2 a3 h = some r) (q : Q (some (hs_i r.1)) r.2) : hs_call hs_ms S D 17 [hs_r 1 0, hs_i a1, hs_i a2, hs_i a3] h Q := by
  refine hs_go (R := 3) hD rfl (Nat.le_of_ble_eq_true rfl) (fun d hd => ?_)
  show hs_W S d 1 hs_p17 Q 0 [hs_r 1 0, hs_i a1, hs_i a2, hs_i a3, hs_u, hs_u, hs_u, hs_u, hs_u] [] h
  unfold hf_17 at e
  obtain ⟨q1, eq1, e⟩ := hs_bind_some e
  try dsimp only at e
  refine hs_wc 4 (y := 40) (a := [hs_r 4 0, hs_i a1]) (v := some (hs_i q1.1)) (pc' := 8) (ls' := [hs_r 1 0, hs_i a1, hs_i a2, hs_i a3, hs_u, hs_u, hs_u, hs_u, hs_u]) (st' := []) (h' := h) (h2 := q1.2) (fun n w => w) (fun q => hc_40 (by omega) eq1 q) ?_
  refine hs_w 7 (pc' := 21) (ls' := [hs_r 1 0, hs_i a1, hs_i a2, hs_i a3, hs_i q1.1, hs_i (nI 4294967292), hs_i (nI 4294967292), hs_i (nI 0), hs_u]) (st' := []) (h' := q1.2) (fun n w => w) ?_
  exact hw_17_21_lp hd hs_big e _ _ q
def hb_132_33     (h : hs_H) : Option (Int32 × hs_H) := some (nI 4294967295, h)
set_option maxHeartbeats 1000000 in
theorem hw_132_33 {S : hs_S} {d : Nat} {Q : hs_Q} (hd : 6 ≤ d)      {v1 : hs_V} {v2 : hs_V} {v3 : hs_V} {h : hs_H} {r : Int32 × hs_H} (e : hb_132_33 h = some r) (q : Q (some (hs_i r.1)) r.2) : hs_W S d 1 hs_p132 Q 33 [hs_r 11 0, v1, v2, v3] [] h := by
  unfold hb_132_33 at e
  obtain rfl := Option.some.inj e
  exact hs_wr 2 (v := some (hs_i (nI 4294967295))) (h' := h) (fun n w => w) q
def hb_132_45     (h : hs_H) : Option (Int32 × hs_H) := some (nI 4294967294, h)
set_option maxHeartbeats 1000000 in
theorem hw_132_45 {S : hs_S} {d : Nat} {Q : hs_Q} (hd : 6 ≤ d)      {v1 : hs_V} {v2 : hs_V} {v3 : hs_V} {h : hs_H} {r : Int32 × hs_H} (e : hb_132_45 h = some r) (q : Q (some (hs_i r.1)) r.2) : hs_W S d 1 hs_p132 Q 45 [hs_r 11 0, v1, v2, v3] [] h := by
  unfold hb_132_45 at e
  obtain rfl := Option.some.inj e
  exact hs_wr 2 (v := some (hs_i (nI 4294967294))) (h' := h) (fun n w => w) q
/-- HuntedScent.flees(III)I -/
def hf_132 (a1 : Int32) (a2 : Int32) (a3 : Int32) (h : hs_H) : Option (Int32 × hs_H) := (hf_29 0 a1 h).bind (fun q1 => if q1.1 = 0 then (hb_132_33 q1.2) else ((hf_29 0 a2 q1.2).bind (fun q3 => if q3.1 = 0 then (hb_132_33 q3.2) else ((hf_29 0 a3 q3.2).bind (fun q5 => if ¬ q5.1 = 0 then (if a1 = a2 then (hb_132_45 q5.2) else (if ¬ a1 = a3 then ((hf_10 q5.2).bind (fun q9 => (hf_17 a1 a2 a3 q9).bind (fun q10 => some (q10.1, q10.2)))) else (hb_132_45 q5.2))) else (hb_132_33 q5.2))))))
set_option maxHeartbeats 1000000 in
theorem hc_132 {S : hs_S} {D : Nat} {Q : hs_Q} (hD : 7 ≤ D) {a1 : Int32} {a2 : Int32} {a3 : Int32} {h : hs_H} {r : Int32 × hs_H} (e : hf_132 a1 a2 a3 h = some r) (q : Q (some (hs_i r.1)) r.2) : hs_call hs_ms S D 132 [hs_r 11 0, hs_i a1, hs_i a2, hs_i a3] h Q := by
  refine hs_go (R := 6) hD rfl (Nat.le_of_ble_eq_true rfl) (fun d hd => ?_)
  show hs_W S d 1 hs_p132 Q 0 [hs_r 11 0, hs_i a1, hs_i a2, hs_i a3] [] h
  unfold hf_132 at e
  obtain ⟨q1, eq1, e⟩ := hs_bind_some e
  try dsimp only at e
  refine hs_wc 4 (y := 29) (a := [hs_r 4 0, hs_i a1]) (v := some (hs_i q1.1)) (pc' := 8) (ls' := [hs_r 11 0, hs_i a1, hs_i a2, hs_i a3]) (st' := []) (h' := h) (h2 := q1.2) (fun n w => w) (fun q => hc_29 (by omega) eq1 q) ?_
  refine hs_wb 1 (c := q1.1 = 0) (t := 33) (f := 11) (ls' := [hs_r 11 0, hs_i a1, hs_i a2, hs_i a3]) (st' := []) (h' := q1.2) (fun n w => w) (fun b2 => ?_) (fun b2 => ?_)
  · rw [if_pos b2] at e
    exact hw_132_33 hd e q
  · rw [if_neg b2] at e
    obtain ⟨q3, eq3, e⟩ := hs_bind_some e
    try dsimp only at e
    refine hs_wc 4 (y := 29) (a := [hs_r 4 0, hs_i a2]) (v := some (hs_i q3.1)) (pc' := 19) (ls' := [hs_r 11 0, hs_i a1, hs_i a2, hs_i a3]) (st' := []) (h' := q1.2) (h2 := q3.2) (fun n w => w) (fun q => hc_29 (by omega) eq3 q) ?_
    refine hs_wb 1 (c := q3.1 = 0) (t := 33) (f := 22) (ls' := [hs_r 11 0, hs_i a1, hs_i a2, hs_i a3]) (st' := []) (h' := q3.2) (fun n w => w) (fun b4 => ?_) (fun b4 => ?_)
    · rw [if_pos b4] at e
      exact hw_132_33 hd e q
    · rw [if_neg b4] at e
      obtain ⟨q5, eq5, e⟩ := hs_bind_some e
      try dsimp only at e
      refine hs_wc 4 (y := 29) (a := [hs_r 4 0, hs_i a3]) (v := some (hs_i q5.1)) (pc' := 30) (ls' := [hs_r 11 0, hs_i a1, hs_i a2, hs_i a3]) (st' := []) (h' := q3.2) (h2 := q5.2) (fun n w => w) (fun q => hc_29 (by omega) eq5 q) ?_
      refine hs_wb 1 (c := ¬ q5.1 = 0) (t := 35) (f := 33) (ls' := [hs_r 11 0, hs_i a1, hs_i a2, hs_i a3]) (st' := []) (h' := q5.2) (fun n w => w) (fun b6 => ?_) (fun b6 => ?_)
      · rw [if_pos b6] at e
        refine hs_wb 3 (c := a1 = a2) (t := 45) (f := 40) (ls' := [hs_r 11 0, hs_i a1, hs_i a2, hs_i a3]) (st' := []) (h' := q5.2) (fun n w => w) (fun b7 => ?_) (fun b7 => ?_)
        · rw [if_pos b7] at e
          exact hw_132_45 hd e q
        · rw [if_neg b7] at e
          refine hs_wb 3 (c := ¬ a1 = a3) (t := 48) (f := 45) (ls' := [hs_r 11 0, hs_i a1, hs_i a2, hs_i a3]) (st' := []) (h' := q5.2) (fun n w => w) (fun b8 => ?_) (fun b8 => ?_)
          · rw [if_pos b8] at e
            obtain ⟨q9, eq9, e⟩ := hs_bind_some e
            try dsimp only at e
            refine hs_wc 3 (y := 10) (a := [hs_r 1 0]) (v := none) (pc' := 55) (ls' := [hs_r 11 0, hs_i a1, hs_i a2, hs_i a3]) (st' := []) (h' := q5.2) (h2 := q9) (fun n w => w) (fun q => hc_10 (by omega) eq9 q) ?_
            obtain ⟨q10, eq10, e⟩ := hs_bind_some e
            try dsimp only at e
            refine hs_wc 6 (y := 17) (a := [hs_r 1 0, hs_i a1, hs_i a2, hs_i a3]) (v := some (hs_i q10.1)) (pc' := 65) (ls' := [hs_r 11 0, hs_i a1, hs_i a2, hs_i a3]) (st' := []) (h' := q9) (h2 := q10.2) (fun n w => w) (fun q => hc_17 (by omega) eq10 q) ?_
            obtain rfl := Option.some.inj e
            exact hs_wr 1 (v := some (hs_i q10.1)) (h' := q10.2) (fun n w => w) q
          · rw [if_neg b8] at e
            exact hw_132_45 hd e q
      · rw [if_neg b6] at e
        exact hw_132_33 hd e q
def hb_242_10    (s0 : Int32) (h : hs_H) : Option (Int32 × hs_H) := some (s0, h)
set_option maxHeartbeats 1000000 in
theorem hw_242_10 {S : hs_S} {d : Nat} {Q : hs_Q} (hd : 0 ≤ d)     {s0 : Int32} {v0 : hs_V} {v1 : hs_V} {h : hs_H} {r : Int32 × hs_H} (e : hb_242_10 s0 h = some r) (q : Q (some (hs_i r.1)) r.2) : hs_W S d 1 hs_p242 Q 10 [v0, v1] [hs_i s0] h := by
  unfold hb_242_10 at e
  obtain rfl := Option.some.inj e
  exact hs_wr 1 (v := some (hs_i s0)) (h' := h) (fun n w => w) q
/-- java/lang/Math.max(II)I -/
def hf_242 (a0 : Int32) (a1 : Int32) (h : hs_H) : Option (Int32 × hs_H) := if a0 < a1 then (hb_242_10 a1 h) else (hb_242_10 a0 h)
set_option maxHeartbeats 1000000 in
theorem hc_242 {S : hs_S} {D : Nat} {Q : hs_Q} (hD : 1 ≤ D) {a0 : Int32} {a1 : Int32} {h : hs_H} {r : Int32 × hs_H} (e : hf_242 a0 a1 h = some r) (q : Q (some (hs_i r.1)) r.2) : hs_call hs_ms S D 242 [hs_i a0, hs_i a1] h Q := by
  refine hs_go (R := 0) hD rfl (Nat.le_of_ble_eq_true rfl) (fun d hd => ?_)
  show hs_W S d 1 hs_p242 Q 0 [hs_i a0, hs_i a1] [] h
  unfold hf_242 at e
  refine hs_wb 3 (c := a0 < a1) (t := 9) (f := 5) (ls' := [hs_i a0, hs_i a1]) (st' := []) (h' := h) (fun n w => w) (fun b1 => ?_) (fun b1 => ?_)
  · rw [if_pos b1] at e
    refine hs_w 1 (pc' := 10) (ls' := [hs_i a0, hs_i a1]) (st' := [hs_i a1]) (h' := h) (fun n w => w) ?_
    exact hw_242_10 hd e q
  · rw [if_neg b1] at e
    refine hs_w 2 (pc' := 10) (ls' := [hs_i a0, hs_i a1]) (st' := [hs_i a0]) (h' := h) (fun n w => w) ?_
    exact hw_242_10 hd e q
def hb_19_52    (s0 : Int32) (h : hs_H) : Option (Int32 × hs_H) := some (s0, h)
set_option maxHeartbeats 1000000 in
theorem hw_19_52 {S : hs_S} {d : Nat} {Q : hs_Q} (hd : 2 ≤ d)     {s0 : Int32} {v1 : hs_V} {v2 : hs_V} {v3 : hs_V} {v4 : hs_V} {h : hs_H} {r : Int32 × hs_H} (e : hb_19_52 s0 h = some r) (q : Q (some (hs_i r.1)) r.2) : hs_W S d 1 hs_p19 Q 52 [hs_r 1 0, v1, v2, v3, v4] [hs_i s0] h := by
  unfold hb_19_52 at e
  obtain rfl := Option.some.inj e
  exact hs_wr 1 (v := some (hs_i s0)) (h' := h) (fun n w => w) q
def hb_19_5  (k5 : Int32 × Int32 × Int32 × Int32 × hs_H → Option (Int32 × hs_H)) (x1 : Int32) (x2 : Int32) (x3 : Int32) (x4 : Int32)  (h : hs_H) : Option (Int32 × hs_H) := if (h.1 4 0 1) ≤ x4 then (if ¬ x3 = (nI 1000000) then (hb_19_52 x3 h) else (hb_19_52 (nI 4294967292) h)) else ((hf_22 x4 x1 x2 h).bind (fun q3 => hs_ck (hs_inb q3.1 1000) ((hf_242 x3 (q3.2.1 24 0 q3.1.toNatClampNeg) q3.2).bind (fun q5 => k5 (x1, x2, q5.1, x4 + nI 1, q5.2)))))
set_option maxHeartbeats 1000000 in
theorem hw_19_5 {S : hs_S} {d : Nat} {Q : hs_Q} (hd : 2 ≤ d)  {k5 : Int32 × Int32 × Int32 × Int32 × hs_H → Option (Int32 × hs_H)} (hk5 : ∀ (x1 : Int32) (x2 : Int32) (x3 : Int32) (x4 : Int32) (h : hs_H) (r : Int32 × hs_H) , k5 (x1, x2, x3, x4, h) = some r → Q (some (hs_i r.1)) r.2 → hs_W S d 1 hs_p19 Q 5 [hs_r 1 0, hs_i x1, hs_i x2, hs_i x3, hs_i x4] [] h) {x1 : Int32} {x2 : Int32} {x3 : Int32} {x4 : Int32}   {h : hs_H} {r : Int32 × hs_H} (e : hb_19_5 k5 x1 x2 x3 x4 h = some r) (q : Q (some (hs_i r.1)) r.2) : hs_W S d 1 hs_p19 Q 5 [hs_r 1 0, hs_i x1, hs_i x2, hs_i x3, hs_i x4] [] h := by
  unfold hb_19_5 at e
  refine hs_wb 5 (c := (h.1 4 0 1) ≤ x4) (t := 40) (f := 17) (ls' := [hs_r 1 0, hs_i x1, hs_i x2, hs_i x3, hs_i x4]) (st' := []) (h' := h) (fun n w => w) (fun b1 => ?_) (fun b1 => ?_)
  · rw [if_pos b1] at e
    refine hs_wb 3 (c := ¬ x3 = (nI 1000000)) (t := 51) (f := 46) (ls' := [hs_r 1 0, hs_i x1, hs_i x2, hs_i x3, hs_i x4]) (st' := []) (h' := h) (fun n w => w) (fun b2 => ?_) (fun b2 => ?_)
    · rw [if_pos b2] at e
      refine hs_w 1 (pc' := 52) (ls' := [hs_r 1 0, hs_i x1, hs_i x2, hs_i x3, hs_i x4]) (st' := [hs_i x3]) (h' := h) (fun n w => w) ?_
      exact hw_19_52 hd e q
    · rw [if_neg b2] at e
      refine hs_w 2 (pc' := 52) (ls' := [hs_r 1 0, hs_i x1, hs_i x2, hs_i x3, hs_i x4]) (st' := [hs_i (nI 4294967292)]) (h' := h) (fun n w => w) ?_
      exact hw_19_52 hd e q
  · rw [if_neg b1] at e
    obtain ⟨q3, eq3, e⟩ := hs_bind_some e
    try dsimp only at e
    refine hs_wc 7 (y := 22) (a := [hs_i x4, hs_i x1, hs_i x2]) (v := some (hs_i q3.1)) (pc' := 29) (ls' := [hs_r 1 0, hs_i x1, hs_i x2, hs_i x3, hs_i x4]) (st' := [hs_r 24 0, hs_i x3]) (h' := h) (h2 := q3.2) (fun n w => w) (fun q => hc_22 (by omega) eq3 q) ?_
    obtain ⟨c4, e⟩ := hs_ck_some e
    refine hs_wa 1 (c := vp_in q3.1 1000) (pc' := 30) (ls' := [hs_r 1 0, hs_i x1, hs_i x2, hs_i x3, hs_i x4]) (st' := [hs_i (q3.2.1 24 0 q3.1.toNatClampNeg), hs_i x3]) (h' := q3.2) (fun n w => w) (hs_inb_iff.mp c4) ?_
    obtain ⟨q5, eq5, e⟩ := hs_bind_some e
    try dsimp only at e
    refine hs_wc 1 (y := 242) (a := [hs_i x3, hs_i (q3.2.1 24 0 q3.1.toNatClampNeg)]) (v := some (hs_i q5.1)) (pc' := 33) (ls' := [hs_r 1 0, hs_i x1, hs_i x2, hs_i x3, hs_i x4]) (st' := []) (h' := q3.2) (h2 := q5.2) (fun n w => w) (fun q => hc_242 (by omega) eq5 q) ?_
    refine hs_w 3 (pc' := 5) (ls' := [hs_r 1 0, hs_i x1, hs_i x2, hs_i q5.1, hs_i (x4 + nI 1)]) (st' := []) (h' := q5.2) (fun n w => w) ?_
    exact hk5 _ _ _ _ _ _  e q
theorem hw_19_5_lp {S : hs_S} {d : Nat} {Q : hs_Q} (hd : 2 ≤ d)    (n : Nat) {x1 : Int32} {x2 : Int32} {x3 : Int32} {x4 : Int32} {h : hs_H} {r : Int32 × hs_H} (e : hs_lp (fun k s => hb_19_5 k s.1 s.2.1 s.2.2.1 s.2.2.2.1 s.2.2.2.2) n (x1, x2, x3, x4, h) = some r)  (q : Q (some (hs_i r.1)) r.2) : hs_W S d 1 hs_p19 Q 5 [hs_r 1 0, hs_i x1, hs_i x2, hs_i x3, hs_i x4] [] h := by
  refine hs_lp_ind (P := fun (s : Int32 × Int32 × Int32 × Int32 × hs_H) (r : Int32 × hs_H) => ∀ (_ : True), Q (some (hs_i r.1)) r.2 → hs_W S d 1 hs_p19 Q 5 [hs_r 1 0, hs_i s.1, hs_i s.2.1, hs_i s.2.2.1, hs_i s.2.2.2.1] [] s.2.2.2.2) (fun k hk s r e _ q => ?_) n (x1, x2, x3, x4, h) r e trivial q
  exact hw_19_5 hd (fun x1 x2 x3 x4 h r  e q => hk (x1, x2, x3, x4, h) r e trivial q) e q
/-- HuntedScent$Chase.worstFrom(II)I -/
def hf_19 (a1 : Int32) (a2 : Int32) (h : hs_H) : Option (Int32 × hs_H) := hs_lp (fun k s => hb_19_5 k s.1 s.2.1 s.2.2.1 s.2.2.2.1 s.2.2.2.2) hs_big (a1, a2, nI 0, nI 0, h)
set_option maxHeartbeats 1000000 in
theorem hc_19 {S : hs_S} {D : Nat} {Q : hs_Q} (hD : 3 ≤ D) {a1 : Int32} {a2 : Int32} {h : hs_H} {r : Int32 × hs_H} (e : hf_19 a1 a2 h = some r) (q : Q (some (hs_i r.1)) r.2) : hs_call hs_ms S D 19 [hs_r 1 0, hs_i a1, hs_i a2] h Q := by
  refine hs_go (R := 2) hD rfl (Nat.le_of_ble_eq_true rfl) (fun d hd => ?_)
  show hs_W S d 1 hs_p19 Q 0 [hs_r 1 0, hs_i a1, hs_i a2, hs_u, hs_u] [] h
  unfold hf_19 at e
  refine hs_w 4 (pc' := 5) (ls' := [hs_r 1 0, hs_i a1, hs_i a2, hs_i (nI 0), hs_i (nI 0)]) (st' := []) (h' := h) (fun n w => w) ?_
  exact hw_19_5_lp hd hs_big e  q
/-- HuntedScent.pairOf(II)I -/
def hf_149 (a0 : Int32) (a1 : Int32) (h : hs_H) : Option (Int32 × hs_H) := some (((nI 10) * a0) + a1, h)
set_option maxHeartbeats 1000000 in
theorem hc_149 {S : hs_S} {D : Nat} {Q : hs_Q} (hD : 1 ≤ D) {a0 : Int32} {a1 : Int32} {h : hs_H} {r : Int32 × hs_H} (e : hf_149 a0 a1 h = some r) (q : Q (some (hs_i r.1)) r.2) : hs_call hs_ms S D 149 [hs_i a0, hs_i a1] h Q := by
  refine hs_go (R := 0) hD rfl (Nat.le_of_ble_eq_true rfl) (fun d hd => ?_)
  show hs_W S d 1 hs_p149 Q 0 [hs_i a0, hs_i a1] [] h
  unfold hf_149 at e
  obtain rfl := Option.some.inj e
  exact hs_wr 6 (v := some (hs_i (((nI 10) * a0) + a1))) (h' := h) (fun n w => w) q
def hb_133_9     (h : hs_H) : Option (Int32 × hs_H) := some (nI 4294967295, h)
set_option maxHeartbeats 1000000 in
theorem hw_133_9 {S : hs_S} {d : Nat} {Q : hs_Q} (hd : 6 ≤ d)      {v1 : hs_V} {v2 : hs_V} {v3 : hs_V} {v4 : hs_V} {v5 : hs_V} {v6 : hs_V} {h : hs_H} {r : Int32 × hs_H} (e : hb_133_9 h = some r) (q : Q (some (hs_i r.1)) r.2) : hs_W S d 1 hs_p133 Q 9 [hs_r 11 0, v1, v2, v3, v4, v5, v6] [] h := by
  unfold hb_133_9 at e
  obtain rfl := Option.some.inj e
  exact hs_wr 2 (v := some (hs_i (nI 4294967295))) (h' := h) (fun n w => w) q
def hb_133_119    (s0 : Int32) (h : hs_H) : Option (Int32 × hs_H) := some (s0, h)
set_option maxHeartbeats 1000000 in
theorem hw_133_119 {S : hs_S} {d : Nat} {Q : hs_Q} (hd : 6 ≤ d)     {s0 : Int32} {v1 : hs_V} {v2 : hs_V} {v3 : hs_V} {v4 : hs_V} {v5 : hs_V} {v6 : hs_V} {h : hs_H} {r : Int32 × hs_H} (e : hb_133_119 s0 h = some r) (q : Q (some (hs_i r.1)) r.2) : hs_W S d 1 hs_p133 Q 119 [hs_r 11 0, v1, v2, v3, v4, v5, v6] [hs_i s0] h := by
  unfold hb_133_119 at e
  obtain rfl := Option.some.inj e
  exact hs_wr 1 (v := some (hs_i s0)) (h' := h) (fun n w => w) q
def hb_133_98  (k27 : Int32 × Int32 × Int32 × Int32 × hs_H → Option (Int32 × hs_H)) (k43 : Int32 × Int32 × Int32 × Int32 × Int32 × hs_H → Option (Int32 × hs_H)) (x1 : Int32) (x2 : Int32) (x3 : Int32) (x4 : Int32) (x5 : Int32)  (h : hs_H) : Option (Int32 × hs_H) := k43 (x1, x2, x3, x4, x5 + nI 1, h)
set_option maxHeartbeats 1000000 in
theorem hw_133_98 {S : hs_S} {d : Nat} {Q : hs_Q} (hd : 6 ≤ d)  {k27 : Int32 × Int32 × Int32 × Int32 × hs_H → Option (Int32 × hs_H)} {k43 : Int32 × Int32 × Int32 × Int32 × Int32 × hs_H → Option (Int32 × hs_H)} (hk27 : ∀ (x1 : Int32) (x2 : Int32) (x3 : Int32) (x4 : Int32) (h : hs_H) (r : Int32 × hs_H) (v5 : hs_V) (v6 : hs_V), k27 (x1, x2, x3, x4, h) = some r → Q (some (hs_i r.1)) r.2 → hs_W S d 1 hs_p133 Q 27 [hs_r 11 0, hs_i x1, hs_i x2, hs_i x3, hs_i x4, v5, v6] [] h) (hk43 : ∀ (x1 : Int32) (x2 : Int32) (x3 : Int32) (x4 : Int32) (x5 : Int32) (h : hs_H) (r : Int32 × hs_H) (v6 : hs_V), k43 (x1, x2, x3, x4, x5, h) = some r → Q (some (hs_i r.1)) r.2 → hs_W S d 1 hs_p133 Q 43 [hs_r 11 0, hs_i x1, hs_i x2, hs_i x3, hs_i x4, hs_i x5, v6] [] h) {x1 : Int32} {x2 : Int32} {x3 : Int32} {x4 : Int32} {x5 : Int32}  {v6 : hs_V} {h : hs_H} {r : Int32 × hs_H} (e : hb_133_98 k27 k43 x1 x2 x3 x4 x5 h = some r) (q : Q (some (hs_i r.1)) r.2) : hs_W S d 1 hs_p133 Q 98 [hs_r 11 0, hs_i x1, hs_i x2, hs_i x3, hs_i x4, hs_i x5, v6] [] h := by
  unfold hb_133_98 at e
  refine hs_w 2 (pc' := 43) (ls' := [hs_r 11 0, hs_i x1, hs_i x2, hs_i x3, hs_i x4, hs_i (x5 + nI 1), v6]) (st' := []) (h' := h) (fun n w => w) ?_
  exact hk43 _ _ _ _ _ _ _ _ e q
def hb_133_87  (k27 : Int32 × Int32 × Int32 × Int32 × hs_H → Option (Int32 × hs_H)) (k43 : Int32 × Int32 × Int32 × Int32 × Int32 × hs_H → Option (Int32 × hs_H)) (x1 : Int32) (x4 : Int32) (x5 : Int32) (x6 : Int32)  (h : hs_H) : Option (Int32 × hs_H) := (hf_149 x4 x5 h).bind (fun q10 => hb_133_98 k27 k43 x1 q10.1 x6 x4 x5 q10.2)
set_option maxHeartbeats 1000000 in
theorem hw_133_87 {S : hs_S} {d : Nat} {Q : hs_Q} (hd : 6 ≤ d)  {k27 : Int32 × Int32 × Int32 × Int32 × hs_H → Option (Int32 × hs_H)} {k43 : Int32 × Int32 × Int32 × Int32 × Int32 × hs_H → Option (Int32 × hs_H)} (hk27 : ∀ (x1 : Int32) (x2 : Int32) (x3 : Int32) (x4 : Int32) (h : hs_H) (r : Int32 × hs_H) (v5 : hs_V) (v6 : hs_V), k27 (x1, x2, x3, x4, h) = some r → Q (some (hs_i r.1)) r.2 → hs_W S d 1 hs_p133 Q 27 [hs_r 11 0, hs_i x1, hs_i x2, hs_i x3, hs_i x4, v5, v6] [] h) (hk43 : ∀ (x1 : Int32) (x2 : Int32) (x3 : Int32) (x4 : Int32) (x5 : Int32) (h : hs_H) (r : Int32 × hs_H) (v6 : hs_V), k43 (x1, x2, x3, x4, x5, h) = some r → Q (some (hs_i r.1)) r.2 → hs_W S d 1 hs_p133 Q 43 [hs_r 11 0, hs_i x1, hs_i x2, hs_i x3, hs_i x4, hs_i x5, v6] [] h) {x1 : Int32} {x4 : Int32} {x5 : Int32} {x6 : Int32}  {v2 : hs_V} {v3 : hs_V} {h : hs_H} {r : Int32 × hs_H} (e : hb_133_87 k27 k43 x1 x4 x5 x6 h = some r) (q : Q (some (hs_i r.1)) r.2) : hs_W S d 1 hs_p133 Q 87 [hs_r 11 0, hs_i x1, v2, v3, hs_i x4, hs_i x5, hs_i x6] [] h := by
  unfold hb_133_87 at e
  obtain ⟨q10, eq10, e⟩ := hs_bind_some e
  try dsimp only at e
  refine hs_wc 3 (y := 149) (a := [hs_i x4, hs_i x5]) (v := some (hs_i q10.1)) (pc' := 94) (ls' := [hs_r 11 0, hs_i x1, v2, v3, hs_i x4, hs_i x5, hs_i x6]) (st' := []) (h' := h) (h2 := q10.2) (fun n w => w) (fun q => hc_149 (by omega) eq10 q) ?_
  refine hs_w 3 (pc' := 98) (ls' := [hs_r 11 0, hs_i x1, hs_i q10.1, hs_i x6, hs_i x4, hs_i x5, hs_i x6]) (st' := []) (h' := q10.2) (fun n w => w) ?_
  exact hw_133_98 hd hk27 hk43 e q
def hb_133_43  (k27 : Int32 × Int32 × Int32 × Int32 × hs_H → Option (Int32 × hs_H)) (k43 : Int32 × Int32 × Int32 × Int32 × Int32 × hs_H → Option (Int32 × hs_H)) (x1 : Int32) (x2 : Int32) (x3 : Int32) (x4 : Int32) (x5 : Int32)  (h : hs_H) : Option (Int32 × hs_H) := if (h.1 4 0 1) ≤ x5 then (k27 (x1, x2, x3, x4 + nI 1, h)) else ((hf_19 x4 x5 h).bind (fun q7 => if q7.1 = (nI 4294967292) then (hb_133_98 k27 k43 x1 x2 x3 x4 x5 q7.2) else (if x2 = (nI 4294967292) then (hb_133_87 k27 k43 x1 x4 x5 q7.1 q7.2) else (if x3 ≤ q7.1 then (hb_133_98 k27 k43 x1 x2 x3 x4 x5 q7.2) else (hb_133_87 k27 k43 x1 x4 x5 q7.1 q7.2)))))
set_option maxHeartbeats 1000000 in
theorem hw_133_43 {S : hs_S} {d : Nat} {Q : hs_Q} (hd : 6 ≤ d)  {k27 : Int32 × Int32 × Int32 × Int32 × hs_H → Option (Int32 × hs_H)} {k43 : Int32 × Int32 × Int32 × Int32 × Int32 × hs_H → Option (Int32 × hs_H)} (hk27 : ∀ (x1 : Int32) (x2 : Int32) (x3 : Int32) (x4 : Int32) (h : hs_H) (r : Int32 × hs_H) (v5 : hs_V) (v6 : hs_V), k27 (x1, x2, x3, x4, h) = some r → Q (some (hs_i r.1)) r.2 → hs_W S d 1 hs_p133 Q 27 [hs_r 11 0, hs_i x1, hs_i x2, hs_i x3, hs_i x4, v5, v6] [] h) (hk43 : ∀ (x1 : Int32) (x2 : Int32) (x3 : Int32) (x4 : Int32) (x5 : Int32) (h : hs_H) (r : Int32 × hs_H) (v6 : hs_V), k43 (x1, x2, x3, x4, x5, h) = some r → Q (some (hs_i r.1)) r.2 → hs_W S d 1 hs_p133 Q 43 [hs_r 11 0, hs_i x1, hs_i x2, hs_i x3, hs_i x4, hs_i x5, v6] [] h) {x1 : Int32} {x2 : Int32} {x3 : Int32} {x4 : Int32} {x5 : Int32}  {v6 : hs_V} {h : hs_H} {r : Int32 × hs_H} (e : hb_133_43 k27 k43 x1 x2 x3 x4 x5 h = some r) (q : Q (some (hs_i r.1)) r.2) : hs_W S d 1 hs_p133 Q 43 [hs_r 11 0, hs_i x1, hs_i x2, hs_i x3, hs_i x4, hs_i x5, v6] [] h := by
  unfold hb_133_43 at e
  refine hs_wb 5 (c := (h.1 4 0 1) ≤ x5) (t := 104) (f := 55) (ls' := [hs_r 11 0, hs_i x1, hs_i x2, hs_i x3, hs_i x4, hs_i x5, v6]) (st' := []) (h' := h) (fun n w => w) (fun b6 => ?_) (fun b6 => ?_)
  · rw [if_pos b6] at e
    refine hs_w 2 (pc' := 27) (ls' := [hs_r 11 0, hs_i x1, hs_i x2, hs_i x3, hs_i (x4 + nI 1), hs_i x5, v6]) (st' := []) (h' := h) (fun n w => w) ?_
    exact hk27 _ _ _ _ _ _ _ _ e q
  · rw [if_neg b6] at e
    obtain ⟨q7, eq7, e⟩ := hs_bind_some e
    try dsimp only at e
    refine hs_wc 5 (y := 19) (a := [hs_r 1 0, hs_i x4, hs_i x5]) (v := some (hs_i q7.1)) (pc' := 66) (ls' := [hs_r 11 0, hs_i x1, hs_i x2, hs_i x3, hs_i x4, hs_i x5, v6]) (st' := []) (h' := h) (h2 := q7.2) (fun n w => w) (fun q => hc_19 (by omega) eq7 q) ?_
    refine hs_wb 4 (c := q7.1 = (nI 4294967292)) (t := 98) (f := 75) (ls' := [hs_r 11 0, hs_i x1, hs_i x2, hs_i x3, hs_i x4, hs_i x5, hs_i q7.1]) (st' := []) (h' := q7.2) (fun n w => w) (fun b8 => ?_) (fun b8 => ?_)
    · rw [if_pos b8] at e
      exact hw_133_98 hd hk27 hk43 e q
    · rw [if_neg b8] at e
      refine hs_wb 3 (c := x2 = (nI 4294967292)) (t := 87) (f := 81) (ls' := [hs_r 11 0, hs_i x1, hs_i x2, hs_i x3, hs_i x4, hs_i x5, hs_i q7.1]) (st' := []) (h' := q7.2) (fun n w => w) (fun b9 => ?_) (fun b9 => ?_)
      · rw [if_pos b9] at e
        exact hw_133_87 hd hk27 hk43 e q
      · rw [if_neg b9] at e
        refine hs_wb 3 (c := x3 ≤ q7.1) (t := 98) (f := 87) (ls' := [hs_r 11 0, hs_i x1, hs_i x2, hs_i x3, hs_i x4, hs_i x5, hs_i q7.1]) (st' := []) (h' := q7.2) (fun n w => w) (fun b11 => ?_) (fun b11 => ?_)
        · rw [if_pos b11] at e
          exact hw_133_98 hd hk27 hk43 e q
        · rw [if_neg b11] at e
          exact hw_133_87 hd hk27 hk43 e q
theorem hw_133_43_lp {S : hs_S} {d : Nat} {Q : hs_Q} (hd : 6 ≤ d)  {k27 : Int32 × Int32 × Int32 × Int32 × hs_H → Option (Int32 × hs_H)} (hk27 : ∀ (x1 : Int32) (x2 : Int32) (x3 : Int32) (x4 : Int32) (h : hs_H) (r : Int32 × hs_H) (v5 : hs_V) (v6 : hs_V), k27 (x1, x2, x3, x4, h) = some r → Q (some (hs_i r.1)) r.2 → hs_W S d 1 hs_p133 Q 27 [hs_r 11 0, hs_i x1, hs_i x2, hs_i x3, hs_i x4, v5, v6] [] h) (n : Nat) {x1 : Int32} {x2 : Int32} {x3 : Int32} {x4 : Int32} {x5 : Int32} {h : hs_H} {r : Int32 × hs_H} (e : hs_lp (fun k s => hb_133_43 k27 k s.1 s.2.1 s.2.2.1 s.2.2.2.1 s.2.2.2.2.1 s.2.2.2.2.2) n (x1, x2, x3, x4, x5, h) = some r) (v6 : hs_V) (q : Q (some (hs_i r.1)) r.2) : hs_W S d 1 hs_p133 Q 43 [hs_r 11 0, hs_i x1, hs_i x2, hs_i x3, hs_i x4, hs_i x5, v6] [] h := by
  refine hs_lp_ind (P := fun (s : Int32 × Int32 × Int32 × Int32 × Int32 × hs_H) (r : Int32 × hs_H) => ∀ (v6 : hs_V), Q (some (hs_i r.1)) r.2 → hs_W S d 1 hs_p133 Q 43 [hs_r 11 0, hs_i s.1, hs_i s.2.1, hs_i s.2.2.1, hs_i s.2.2.2.1, hs_i s.2.2.2.2.1, v6] [] s.2.2.2.2.2) (fun k hk s r e v6 q => ?_) n (x1, x2, x3, x4, x5, h) r e v6 q
  exact hw_133_43 hd hk27 (fun x1 x2 x3 x4 x5 h r v6 e q => hk (x1, x2, x3, x4, x5, h) r e v6 q) e q
def hb_133_27  (k27 : Int32 × Int32 × Int32 × Int32 × hs_H → Option (Int32 × hs_H)) (x1 : Int32) (x2 : Int32) (x3 : Int32) (x4 : Int32)  (h : hs_H) : Option (Int32 × hs_H) := if (h.1 4 0 1) ≤ x4 then (if ¬ x1 = 0 then (hb_133_119 x3 h) else (hb_133_119 x2 h)) else (hs_lp (fun k s => hb_133_43 k27 k s.1 s.2.1 s.2.2.1 s.2.2.2.1 s.2.2.2.2.1 s.2.2.2.2.2) hs_big (x1, x2, x3, x4, x4, h))
set_option maxHeartbeats 1000000 in
theorem hw_133_27 {S : hs_S} {d : Nat} {Q : hs_Q} (hd : 6 ≤ d)  {k27 : Int32 × Int32 × Int32 × Int32 × hs_H → Option (Int32 × hs_H)} (hk27 : ∀ (x1 : Int32) (x2 : Int32) (x3 : Int32) (x4 : Int32) (h : hs_H) (r : Int32 × hs_H) (v5 : hs_V) (v6 : hs_V), k27 (x1, x2, x3, x4, h) = some r → Q (some (hs_i r.1)) r.2 → hs_W S d 1 hs_p133 Q 27 [hs_r 11 0, hs_i x1, hs_i x2, hs_i x3, hs_i x4, v5, v6] [] h) {x1 : Int32} {x2 : Int32} {x3 : Int32} {x4 : Int32}  {v5 : hs_V} {v6 : hs_V} {h : hs_H} {r : Int32 × hs_H} (e : hb_133_27 k27 x1 x2 x3 x4 h = some r) (q : Q (some (hs_i r.1)) r.2) : hs_W S d 1 hs_p133 Q 27 [hs_r 11 0, hs_i x1, hs_i x2, hs_i x3, hs_i x4, v5, v6] [] h := by
  unfold hb_133_27 at e
  refine hs_wb 5 (c := (h.1 4 0 1) ≤ x4) (t := 110) (f := 39) (ls' := [hs_r 11 0, hs_i x1, hs_i x2, hs_i x3, hs_i x4, v5, v6]) (st' := []) (h' := h) (fun n w => w) (fun b4 => ?_) (fun b4 => ?_)
  · rw [if_pos b4] at e
    refine hs_wb 2 (c := ¬ x1 = 0) (t := 118) (f := 114) (ls' := [hs_r 11 0, hs_i x1, hs_i x2, hs_i x3, hs_i x4, v5, v6]) (st' := []) (h' := h) (fun n w => w) (fun b5 => ?_) (fun b5 => ?_)
    · rw [if_pos b5] at e
      refine hs_w 1 (pc' := 119) (ls' := [hs_r 11 0, hs_i x1, hs_i x2, hs_i x3, hs_i x4, v5, v6]) (st' := [hs_i x3]) (h' := h) (fun n w => w) ?_
      exact hw_133_119 hd e q
    · rw [if_neg b5] at e
      refine hs_w 2 (pc' := 119) (ls' := [hs_r 11 0, hs_i x1, hs_i x2, hs_i x3, hs_i x4, v5, v6]) (st' := [hs_i x2]) (h' := h) (fun n w => w) ?_
      exact hw_133_119 hd e q
  · rw [if_neg b4] at e
    refine hs_w 2 (pc' := 43) (ls' := [hs_r 11 0, hs_i x1, hs_i x2, hs_i x3, hs_i x4, hs_i x4, v6]) (st' := []) (h' := h) (fun n w => w) ?_
    exact hw_133_43_lp hd hk27 hs_big e _ q
theorem hw_133_27_lp {S : hs_S} {d : Nat} {Q : hs_Q} (hd : 6 ≤ d)    (n : Nat) {x1 : Int32} {x2 : Int32} {x3 : Int32} {x4 : Int32} {h : hs_H} {r : Int32 × hs_H} (e : hs_lp (fun k s => hb_133_27 k s.1 s.2.1 s.2.2.1 s.2.2.2.1 s.2.2.2.2) n (x1, x2, x3, x4, h) = some r) (v5 : hs_V) (v6 : hs_V) (q : Q (some (hs_i r.1)) r.2) : hs_W S d 1 hs_p133 Q 27 [hs_r 11 0, hs_i x1, hs_i x2, hs_i x3, hs_i x4, v5, v6] [] h := by
  refine hs_lp_ind (P := fun (s : Int32 × Int32 × Int32 × Int32 × hs_H) (r : Int32 × hs_H) => ∀ (v5 : hs_V) (v6 : hs_V), Q (some (hs_i r.1)) r.2 → hs_W S d 1 hs_p133 Q 27 [hs_r 11 0, hs_i s.1, hs_i s.2.1, hs_i s.2.2.1, hs_i s.2.2.2.1, v5, v6] [] s.2.2.2.2) (fun k hk s r e v5 v6 q => ?_) n (x1, x2, x3, x4, h) r e v5 v6 q
  exact hw_133_27 hd (fun x1 x2 x3 x4 h r v5 v6 e q => hk (x1, x2, x3, x4, h) r e v5 v6 q) e q
/-- HuntedScent.best(I)I -/
def hf_133 (a1 : Int32) (h : hs_H) : Option (Int32 × hs_H) := if a1 < 0 then (hb_133_9 h) else (if a1 ≤ (nI 1) then ((hf_10 h).bind (fun q3 => hs_lp (fun k s => hb_133_27 k s.1 s.2.1 s.2.2.1 s.2.2.2.1 s.2.2.2.2) hs_big (a1, nI 4294967292, nI 4294967292, nI 0, q3))) else (hb_133_9 h))
set_option maxHeartbeats 1000000 in
theorem hc_133 {S : hs_S} {D : Nat} {Q : hs_Q} (hD : 7 ≤ D) {a1 : Int32} {h : hs_H} {r : Int32 × hs_H} (e : hf_133 a1 h = some r) (q : Q (some (hs_i r.1)) r.2) : hs_call hs_ms S D 133 [hs_r 11 0, hs_i a1] h Q := by
  refine hs_go (R := 6) hD rfl (Nat.le_of_ble_eq_true rfl) (fun d hd => ?_)
  show hs_W S d 1 hs_p133 Q 0 [hs_r 11 0, hs_i a1, hs_u, hs_u, hs_u, hs_u, hs_u] [] h
  unfold hf_133 at e
  refine hs_wb 2 (c := a1 < 0) (t := 9) (f := 4) (ls' := [hs_r 11 0, hs_i a1, hs_u, hs_u, hs_u, hs_u, hs_u]) (st' := []) (h' := h) (fun n w => w) (fun b1 => ?_) (fun b1 => ?_)
  · rw [if_pos b1] at e
    exact hw_133_9 hd e q
  · rw [if_neg b1] at e
    refine hs_wb 3 (c := a1 ≤ (nI 1)) (t := 11) (f := 9) (ls' := [hs_r 11 0, hs_i a1, hs_u, hs_u, hs_u, hs_u, hs_u]) (st' := []) (h' := h) (fun n w => w) (fun b2 => ?_) (fun b2 => ?_)
    · rw [if_pos b2] at e
      obtain ⟨q3, eq3, e⟩ := hs_bind_some e
      try dsimp only at e
      refine hs_wc 3 (y := 10) (a := [hs_r 1 0]) (v := none) (pc' := 18) (ls' := [hs_r 11 0, hs_i a1, hs_u, hs_u, hs_u, hs_u, hs_u]) (st' := []) (h' := h) (h2 := q3) (fun n w => w) (fun q => hc_10 (by omega) eq3 q) ?_
      refine hs_w 6 (pc' := 27) (ls' := [hs_r 11 0, hs_i a1, hs_i (nI 4294967292), hs_i (nI 4294967292), hs_i (nI 0), hs_u, hs_u]) (st' := []) (h' := q3) (fun n w => w) ?_
      exact hw_133_27_lp hd hs_big e _ _ q
    · rw [if_neg b2] at e
      exact hw_133_9 hd e q
def hb_44_70 (o : Nat)  (x5 : Int32)  (h : hs_H) : Option (Int32 × hs_H) := some (x5 &&& (h.1 4 o 5), h)
set_option maxHeartbeats 1000000 in
theorem hw_44_70 {S : hs_S} {d : Nat} {Q : hs_Q} (hd : 2 ≤ d) {o : Nat}   {x5 : Int32}  {v1 : hs_V} {v2 : hs_V} {v3 : hs_V} {v4 : hs_V} {v6 : hs_V} {h : hs_H} {r : Int32 × hs_H} (e : hb_44_70 o x5 h = some r) (q : Q (some (hs_i r.1)) r.2) : hs_W S d 1 hs_p44 Q 70 [hs_r 4 o, v1, v2, v3, v4, hs_i x5, v6] [] h := by
  unfold hb_44_70 at e
  obtain rfl := Option.some.inj e
  exact hs_wr 5 (v := some (hs_i (x5 &&& (h.1 4 o 5)))) (h' := h) (fun n w => w) q
def hb_44_18 (o : Nat) (k18 : Int32 × Int32 × Int32 × Int32 × hs_H → Option (Int32 × hs_H)) (x3 : Int32) (x4 : Int32) (x5 : Int32) (x6 : Int32)  (h : hs_H) : Option (Int32 × hs_H) := if (h.1 4 o 1) ≤ x6 then (hb_44_70 o x5 h) else (if x4 = 0 then (hb_44_70 o x5 h) else ((hf_42 o x3 h).bind (fun q3 => (hf_42 o x4 q3.2).bind (fun q4 => k18 (x3 ||| q3.1, (q4.1 &&& ((x3 ||| q3.1) ^^^ (nI 4294967295))) &&& (x5 ^^^ (nI 4294967295)), x5 ||| ((q4.1 &&& ((x3 ||| q3.1) ^^^ (nI 4294967295))) &&& (x5 ^^^ (nI 4294967295))), x6 + nI 1, q4.2)))))
set_option maxHeartbeats 1000000 in
theorem hw_44_18 {S : hs_S} {d : Nat} {Q : hs_Q} (hd : 2 ≤ d) {o : Nat} {k18 : Int32 × Int32 × Int32 × Int32 × hs_H → Option (Int32 × hs_H)} (hk18 : ∀ (x3 : Int32) (x4 : Int32) (x5 : Int32) (x6 : Int32) (h : hs_H) (r : Int32 × hs_H) (v1 : hs_V) (v2 : hs_V), k18 (x3, x4, x5, x6, h) = some r → Q (some (hs_i r.1)) r.2 → hs_W S d 1 hs_p44 Q 18 [hs_r 4 o, v1, v2, hs_i x3, hs_i x4, hs_i x5, hs_i x6] [] h) {x3 : Int32} {x4 : Int32} {x5 : Int32} {x6 : Int32}  {v1 : hs_V} {v2 : hs_V} {h : hs_H} {r : Int32 × hs_H} (e : hb_44_18 o k18 x3 x4 x5 x6 h = some r) (q : Q (some (hs_i r.1)) r.2) : hs_W S d 1 hs_p44 Q 18 [hs_r 4 o, v1, v2, hs_i x3, hs_i x4, hs_i x5, hs_i x6] [] h := by
  unfold hb_44_18 at e
  refine hs_wb 4 (c := (h.1 4 o 1) ≤ x6) (t := 70) (f := 27) (ls' := [hs_r 4 o, v1, v2, hs_i x3, hs_i x4, hs_i x5, hs_i x6]) (st' := []) (h' := h) (fun n w => w) (fun b1 => ?_) (fun b1 => ?_)
  · rw [if_pos b1] at e
    exact hw_44_70 hd e q
  · rw [if_neg b1] at e
    refine hs_wb 2 (c := x4 = 0) (t := 70) (f := 32) (ls' := [hs_r 4 o, v1, v2, hs_i x3, hs_i x4, hs_i x5, hs_i x6]) (st' := []) (h' := h) (fun n w => w) (fun b2 => ?_) (fun b2 => ?_)
    · rw [if_pos b2] at e
      exact hw_44_70 hd e q
    · rw [if_neg b2] at e
      obtain ⟨q3, eq3, e⟩ := hs_bind_some e
      try dsimp only at e
      refine hs_wc 4 (y := 42) (a := [hs_r 4 o, hs_i x3]) (v := some (hs_i q3.1)) (pc' := 38) (ls' := [hs_r 4 o, v1, v2, hs_i x3, hs_i x4, hs_i x5, hs_i x6]) (st' := [hs_i x3]) (h' := h) (h2 := q3.2) (fun n w => w) (fun q => hc_42 (by omega) eq3 q) ?_
      obtain ⟨q4, eq4, e⟩ := hs_bind_some e
      try dsimp only at e
      refine hs_wc 5 (y := 42) (a := [hs_r 4 o, hs_i x4]) (v := some (hs_i q4.1)) (pc' := 46) (ls' := [hs_r 4 o, v1, v2, hs_i (x3 ||| q3.1), hs_i x4, hs_i x5, hs_i x6]) (st' := []) (h' := q3.2) (h2 := q4.2) (fun n w => w) (fun q => hc_42 (by omega) eq4 q) ?_
      refine hs_w 15 (pc' := 18) (ls' := [hs_r 4 o, v1, v2, hs_i (x3 ||| q3.1), hs_i ((q4.1 &&& ((x3 ||| q3.1) ^^^ (nI 4294967295))) &&& (x5 ^^^ (nI 4294967295))), hs_i (x5 ||| ((q4.1 &&& ((x3 ||| q3.1) ^^^ (nI 4294967295))) &&& (x5 ^^^ (nI 4294967295)))), hs_i (x6 + nI 1)]) (st' := []) (h' := q4.2) (fun n w => w) ?_
      exact hk18 _ _ _ _ _ _ _ _ e q
theorem hw_44_18_lp {S : hs_S} {d : Nat} {Q : hs_Q} (hd : 2 ≤ d) {o : Nat}   (n : Nat) {x3 : Int32} {x4 : Int32} {x5 : Int32} {x6 : Int32} {h : hs_H} {r : Int32 × hs_H} (e : hs_lp (fun k s => hb_44_18 o k s.1 s.2.1 s.2.2.1 s.2.2.2.1 s.2.2.2.2) n (x3, x4, x5, x6, h) = some r) (v1 : hs_V) (v2 : hs_V) (q : Q (some (hs_i r.1)) r.2) : hs_W S d 1 hs_p44 Q 18 [hs_r 4 o, v1, v2, hs_i x3, hs_i x4, hs_i x5, hs_i x6] [] h := by
  refine hs_lp_ind (P := fun (s : Int32 × Int32 × Int32 × Int32 × hs_H) (r : Int32 × hs_H) => ∀ (v1 : hs_V) (v2 : hs_V), Q (some (hs_i r.1)) r.2 → hs_W S d 1 hs_p44 Q 18 [hs_r 4 o, v1, v2, hs_i s.1, hs_i s.2.1, hs_i s.2.2.1, hs_i s.2.2.2.1] [] s.2.2.2.2) (fun k hk s r e v1 v2 q => ?_) n (x3, x4, x5, x6, h) r e v1 v2 q
  exact hw_44_18 hd (fun x3 x4 x5 x6 h r v1 v2 e q => hk (x3, x4, x5, x6, h) r e v1 v2 q) e q
/-- HuntedScent$Net.openTo(II)I -/
def hf_44 (o : Nat) (a1 : Int32) (a2 : Int32) (h : hs_H) : Option (Int32 × hs_H) := hs_lp (fun k s => hb_44_18 o k s.1 s.2.1 s.2.2.1 s.2.2.2.1 s.2.2.2.2) hs_big (a2, ((nI 1) <<< (a1 &&& 31)) &&& (a2 ^^^ (nI 4294967295)), ((nI 1) <<< (a1 &&& 31)) &&& (a2 ^^^ (nI 4294967295)), nI 1, h)
set_option maxHeartbeats 1000000 in
theorem hc_44 {S : hs_S} {D : Nat} {Q : hs_Q} (hD : 3 ≤ D) {o : Nat} {a1 : Int32} {a2 : Int32} {h : hs_H} {r : Int32 × hs_H} (e : hf_44 o a1 a2 h = some r) (q : Q (some (hs_i r.1)) r.2) : hs_call hs_ms S D 44 [hs_r 4 o, hs_i a1, hs_i a2] h Q := by
  refine hs_go (R := 2) hD rfl (Nat.le_of_ble_eq_true rfl) (fun d hd => ?_)
  show hs_W S d 1 hs_p44 Q 0 [hs_r 4 o, hs_i a1, hs_i a2, hs_u, hs_u, hs_u, hs_u] [] h
  unfold hf_44 at e
  refine hs_w 14 (pc' := 18) (ls' := [hs_r 4 o, hs_i a1, hs_i a2, hs_i a2, hs_i (((nI 1) <<< (a1 &&& 31)) &&& (a2 ^^^ (nI 4294967295))), hs_i (((nI 1) <<< (a1 &&& 31)) &&& (a2 ^^^ (nI 4294967295))), hs_i (nI 1)]) (st' := []) (h' := h) (fun n w => w) ?_
  exact hw_44_18_lp hd hs_big e _ _ q
