/-! What the methods compute, by program; and that the small machine computes it. -/
def hb_51_16  (k16 : Int64 × Int32 × hs_H → Option (Int32 × hs_H)) (x1 : Int64) (x3 : Int32)  (h : hs_H) : Option (Int32 × hs_H) := if x3 < 0 then (some (h.1 6 0 3, h)) else (hs_ck (hs_inb (h.1 6 0 3) 320) (k16 (x1, x3 + nI 4294967295, hs_put (hs_put h 31 0 (h.1 6 0 3).toNatClampNeg (((x1 >>> (((nI 8) * x3).toInt64 &&& 63)).toInt32) &&& (nI 255))) 6 0 3 (((hs_put h 31 0 (h.1 6 0 3).toNatClampNeg (((x1 >>> (((nI 8) * x3).toInt64 &&& 63)).toInt32) &&& (nI 255))).1 6 0 3) + (nI 1)))))
set_option maxHeartbeats 1000000 in
theorem hw_51_16 {S : hs_S} {d : Nat} {Q : hs_Q} (hd : 0 ≤ d)  {k16 : Int64 × Int32 × hs_H → Option (Int32 × hs_H)} (hk16 : ∀ (x1 : Int64) (x3 : Int32) (h : hs_H) (r : Int32 × hs_H) , k16 (x1, x3, h) = some r → Q (some (hs_i r.1)) r.2 → hs_W S d 1 hs_p51 Q 16 [hs_r 6 0, hs_l x1, hs_u, hs_i x3] [] h) {x1 : Int64} {x3 : Int32}   {h : hs_H} {r : Int32 × hs_H} (e : hb_51_16 k16 x1 x3 h = some r) (q : Q (some (hs_i r.1)) r.2) : hs_W S d 1 hs_p51 Q 16 [hs_r 6 0, hs_l x1, hs_u, hs_i x3] [] h := by
  unfold hb_51_16 at e
  refine hs_wb 2 (c := x3 < 0) (t := 56) (f := 20) (ls' := [hs_r 6 0, hs_l x1, hs_u, hs_i x3]) (st' := []) (h' := h) (fun n w => w) (fun b2 => ?_) (fun b2 => ?_)
  · rw [if_pos b2] at e
    obtain rfl := Option.some.inj e
    exact hs_wr 3 (v := some (hs_i (h.1 6 0 3))) (h' := h) (fun n w => w) q
  · rw [if_neg b2] at e
    obtain ⟨c3, e⟩ := hs_ck_some e
    refine hs_wa 13 (c := vp_in (h.1 6 0 3) 320) (pc' := 40) (ls' := [hs_r 6 0, hs_l x1, hs_u, hs_i x3]) (st' := []) (h' := hs_put h 31 0 (h.1 6 0 3).toNatClampNeg (((x1 >>> (((nI 8) * x3).toInt64 &&& 63)).toInt32) &&& (nI 255))) (fun n w => w) (hs_inb_iff.mp c3) ?_
    refine hs_w 8 (pc' := 16) (ls' := [hs_r 6 0, hs_l x1, hs_u, hs_i (x3 + nI 4294967295)]) (st' := []) (h' := hs_put (hs_put h 31 0 (h.1 6 0 3).toNatClampNeg (((x1 >>> (((nI 8) * x3).toInt64 &&& 63)).toInt32) &&& (nI 255))) 6 0 3 (((hs_put h 31 0 (h.1 6 0 3).toNatClampNeg (((x1 >>> (((nI 8) * x3).toInt64 &&& 63)).toInt32) &&& (nI 255))).1 6 0 3) + (nI 1))) (fun n w => w) ?_
    exact hk16 _ _ _ _  e q
theorem hw_51_16_lp {S : hs_S} {d : Nat} {Q : hs_Q} (hd : 0 ≤ d)    (n : Nat) {x1 : Int64} {x3 : Int32} {h : hs_H} {r : Int32 × hs_H} (e : hs_lp (fun k s => hb_51_16 k s.1 s.2.1 s.2.2) n (x1, x3, h) = some r)  (q : Q (some (hs_i r.1)) r.2) : hs_W S d 1 hs_p51 Q 16 [hs_r 6 0, hs_l x1, hs_u, hs_i x3] [] h := by
  refine hs_lp_ind (P := fun (s : Int64 × Int32 × hs_H) (r : Int32 × hs_H) => ∀ (_ : True), Q (some (hs_i r.1)) r.2 → hs_W S d 1 hs_p51 Q 16 [hs_r 6 0, hs_l s.1, hs_u, hs_i s.2.1] [] s.2.2) (fun k hk s r e _ q => ?_) n (x1, x3, h) r e trivial q
  exact hw_51_16 hd (fun x1 x3 h r  e q => hk (x1, x3, h) r e trivial q) e q
/-- HuntedScent$Reader.append(J)I -/
def hf_51 (a1 : Int64) (h : hs_H) : Option (Int32 × hs_H) := if (h.1 6 0 3) ≤ (nI 312) then (hs_lp (fun k s => hb_51_16 k s.1 s.2.1 s.2.2) hs_big (a1, nI 7, h)) else (some (nI 4294967293, h))
set_option maxHeartbeats 1000000 in
theorem hc_51 {S : hs_S} {D : Nat} {Q : hs_Q} (hD : 1 ≤ D) {a1 : Int64} {h : hs_H} {r : Int32 × hs_H} (e : hf_51 a1 h = some r) (q : Q (some (hs_i r.1)) r.2) : hs_call hs_ms S D 51 [hs_r 6 0, hs_l a1] h Q := by
  refine hs_go (R := 0) hD rfl (Nat.le_of_ble_eq_true rfl) (fun d hd => ?_)
  show hs_W S d 1 hs_p51 Q 0 [hs_r 6 0, hs_l a1, hs_u, hs_u] [] h
  unfold hf_51 at e
  refine hs_wb 4 (c := (h.1 6 0 3) ≤ (nI 312)) (t := 13) (f := 10) (ls' := [hs_r 6 0, hs_l a1, hs_u, hs_u]) (st' := []) (h' := h) (fun n w => w) (fun b1 => ?_) (fun b1 => ?_)
  · rw [if_pos b1] at e
    refine hs_w 2 (pc' := 16) (ls' := [hs_r 6 0, hs_l a1, hs_u, hs_i (nI 7)]) (st' := []) (h' := h) (fun n w => w) ?_
    exact hw_51_16_lp hd hs_big e  q
  · rw [if_neg b1] at e
    obtain rfl := Option.some.inj e
    exact hs_wr 2 (v := some (hs_i (nI 4294967293))) (h' := h) (fun n w => w) q
/-- HuntedScent.feed(J)I -/
def hf_105 (a1 : Int64) (h : hs_H) : Option (Int32 × hs_H) := (hf_51 a1 h).bind (fun q1 => some (q1.1, q1.2))
set_option maxHeartbeats 1000000 in
theorem hc_105 {S : hs_S} {D : Nat} {Q : hs_Q} (hD : 2 ≤ D) {a1 : Int64} {h : hs_H} {r : Int32 × hs_H} (e : hf_105 a1 h = some r) (q : Q (some (hs_i r.1)) r.2) : hs_call hs_ms S D 105 [hs_r 11 0, hs_l a1] h Q := by
  refine hs_go (R := 1) hD rfl (Nat.le_of_ble_eq_true rfl) (fun d hd => ?_)
  show hs_W S d 1 hs_p105 Q 0 [hs_r 11 0, hs_l a1, hs_u] [] h
  unfold hf_105 at e
  obtain ⟨q1, eq1, e⟩ := hs_bind_some e
  try dsimp only at e
  refine hs_wc 4 (y := 51) (a := [hs_r 6 0, hs_l a1]) (v := some (hs_i q1.1)) (pc' := 8) (ls' := [hs_r 11 0, hs_l a1, hs_u]) (st' := []) (h' := h) (h2 := q1.2) (fun n w => w) (fun q => hc_51 (by omega) eq1 q) ?_
  obtain rfl := Option.some.inj e
  exact hs_wr 1 (v := some (hs_i q1.1)) (h' := q1.2) (fun n w => w) q
def hb_52_12     (h : hs_H) : Option (Int32 × hs_H) := some (nI 4294967295, h)
set_option maxHeartbeats 1000000 in
theorem hw_52_12 {S : hs_S} {d : Nat} {Q : hs_Q} (hd : 0 ≤ d)      {v1 : hs_V} {v2 : hs_V} {h : hs_H} {r : Int32 × hs_H} (e : hb_52_12 h = some r) (q : Q (some (hs_i r.1)) r.2) : hs_W S d 1 hs_p52 Q 12 [hs_r 6 0, v1, v2] [] h := by
  unfold hb_52_12 at e
  obtain rfl := Option.some.inj e
  exact hs_wr 2 (v := some (hs_i (nI 4294967295))) (h' := h) (fun n w => w) q
/-- HuntedScent$Reader.shorten(I)I -/
def hf_52 (a1 : Int32) (h : hs_H) : Option (Int32 × hs_H) := if a1 < 0 then (hb_52_12 h) else (if a1 ≤ (h.1 6 0 3) then (some (h.1 6 0 3, hs_put h 6 0 3 a1)) else (hb_52_12 h))
set_option maxHeartbeats 1000000 in
theorem hc_52 {S : hs_S} {D : Nat} {Q : hs_Q} (hD : 1 ≤ D) {a1 : Int32} {h : hs_H} {r : Int32 × hs_H} (e : hf_52 a1 h = some r) (q : Q (some (hs_i r.1)) r.2) : hs_call hs_ms S D 52 [hs_r 6 0, hs_i a1] h Q := by
  refine hs_go (R := 0) hD rfl (Nat.le_of_ble_eq_true rfl) (fun d hd => ?_)
  show hs_W S d 1 hs_p52 Q 0 [hs_r 6 0, hs_i a1, hs_u] [] h
  unfold hf_52 at e
  refine hs_wb 2 (c := a1 < 0) (t := 12) (f := 4) (ls' := [hs_r 6 0, hs_i a1, hs_u]) (st' := []) (h' := h) (fun n w => w) (fun b1 => ?_) (fun b1 => ?_)
  · rw [if_pos b1] at e
    exact hw_52_12 hd e q
  · rw [if_neg b1] at e
    refine hs_wb 4 (c := a1 ≤ (h.1 6 0 3)) (t := 14) (f := 12) (ls' := [hs_r 6 0, hs_i a1, hs_u]) (st' := []) (h' := h) (fun n w => w) (fun b2 => ?_) (fun b2 => ?_)
    · rw [if_pos b2] at e
      obtain rfl := Option.some.inj e
      exact hs_wr 8 (v := some (hs_i (h.1 6 0 3))) (h' := hs_put h 6 0 3 a1) (fun n w => w) q
    · rw [if_neg b2] at e
      exact hw_52_12 hd e q
/-- HuntedScent.end(I)I -/
def hf_106 (a1 : Int32) (h : hs_H) : Option (Int32 × hs_H) := (hf_52 a1 h).bind (fun q1 => some (q1.1, q1.2))
set_option maxHeartbeats 1000000 in
theorem hc_106 {S : hs_S} {D : Nat} {Q : hs_Q} (hD : 2 ≤ D) {a1 : Int32} {h : hs_H} {r : Int32 × hs_H} (e : hf_106 a1 h = some r) (q : Q (some (hs_i r.1)) r.2) : hs_call hs_ms S D 106 [hs_r 11 0, hs_i a1] h Q := by
  refine hs_go (R := 1) hD rfl (Nat.le_of_ble_eq_true rfl) (fun d hd => ?_)
  show hs_W S d 1 hs_p106 Q 0 [hs_r 11 0, hs_i a1] [] h
  unfold hf_106 at e
  obtain ⟨q1, eq1, e⟩ := hs_bind_some e
  try dsimp only at e
  refine hs_wc 4 (y := 52) (a := [hs_r 6 0, hs_i a1]) (v := some (hs_i q1.1)) (pc' := 8) (ls' := [hs_r 11 0, hs_i a1]) (st' := []) (h' := h) (h2 := q1.2) (fun n w => w) (fun q => hc_52 (by omega) eq1 q) ?_
  obtain rfl := Option.some.inj e
  exact hs_wr 1 (v := some (hs_i q1.1)) (h' := q1.2) (fun n w => w) q
def hb_27_2 (o : Nat) (k2 : Int32 × hs_H → Option (hs_H)) (x1 : Int32)  (h : hs_H) : Option (hs_H) := if (nI 10) ≤ x1 then (some (hs_put (hs_put (hs_put (hs_put (hs_put (hs_put h 4 o 1 (nI 5)) 4 o 2 (nI 0)) 4 o 3 (nI 4294967292)) 4 o 4 (nI 0)) 4 o 5 (nI 0)) 4 o 6 (((hs_put (hs_put (hs_put (hs_put (hs_put h 4 o 1 (nI 5)) 4 o 2 (nI 0)) 4 o 3 (nI 4294967292)) 4 o 4 (nI 0)) 4 o 5 (nI 0)).1 4 o 6) + (nI 1)))) else (hs_ck (hs_inb x1 10) (k2 (x1 + nI 1, hs_put h 27 o x1.toNatClampNeg (nI 0))))
set_option maxHeartbeats 1000000 in
theorem hw_27_2 {S : hs_S} {d : Nat} {Q : hs_Q} (hd : 0 ≤ d) {o : Nat} {k2 : Int32 × hs_H → Option (hs_H)} (hk2 : ∀ (x1 : Int32) (h : hs_H) (r : hs_H) , k2 (x1, h) = some r → Q none r → hs_W S d 0 hs_p27 Q 2 [hs_r 4 o, hs_i x1] [] h) {x1 : Int32}   {h : hs_H} {r : hs_H} (e : hb_27_2 o k2 x1 h = some r) (q : Q none r) : hs_W S d 0 hs_p27 Q 2 [hs_r 4 o, hs_i x1] [] h := by
  unfold hb_27_2 at e
  refine hs_wb 3 (c := (nI 10) ≤ x1) (t := 21) (f := 8) (ls' := [hs_r 4 o, hs_i x1]) (st' := []) (h' := h) (fun n w => w) (fun b1 => ?_) (fun b1 => ?_)
  · rw [if_pos b1] at e
    obtain rfl := Option.some.inj e
    exact hs_wr 22 (v := none) (h' := hs_put (hs_put (hs_put (hs_put (hs_put (hs_put h 4 o 1 (nI 5)) 4 o 2 (nI 0)) 4 o 3 (nI 4294967292)) 4 o 4 (nI 0)) 4 o 5 (nI 0)) 4 o 6 (((hs_put (hs_put (hs_put (hs_put (hs_put h 4 o 1 (nI 5)) 4 o 2 (nI 0)) 4 o 3 (nI 4294967292)) 4 o 4 (nI 0)) 4 o 5 (nI 0)).1 4 o 6) + (nI 1))) (fun n w => w) q
  · rw [if_neg b1] at e
    obtain ⟨c2, e⟩ := hs_ck_some e
    refine hs_wa 5 (c := vp_in x1 10) (pc' := 15) (ls' := [hs_r 4 o, hs_i x1]) (st' := []) (h' := hs_put h 27 o x1.toNatClampNeg (nI 0)) (fun n w => w) (hs_inb_iff.mp c2) ?_
    refine hs_w 2 (pc' := 2) (ls' := [hs_r 4 o, hs_i (x1 + nI 1)]) (st' := []) (h' := hs_put h 27 o x1.toNatClampNeg (nI 0)) (fun n w => w) ?_
    exact hk2 _ _ _  e q
theorem hw_27_2_lp {S : hs_S} {d : Nat} {Q : hs_Q} (hd : 0 ≤ d) {o : Nat}   (n : Nat) {x1 : Int32} {h : hs_H} {r : hs_H} (e : hs_lp (fun k s => hb_27_2 o k s.1 s.2) n (x1, h) = some r)  (q : Q none r) : hs_W S d 0 hs_p27 Q 2 [hs_r 4 o, hs_i x1] [] h := by
  refine hs_lp_ind (P := fun (s : Int32 × hs_H) (r : hs_H) => ∀ (_ : True), Q none r → hs_W S d 0 hs_p27 Q 2 [hs_r 4 o, hs_i s.1] [] s.2) (fun k hk s r e _ q => ?_) n (x1, h) r e trivial q
  exact hw_27_2 hd (fun x1 h r  e q => hk (x1, h) r e trivial q) e q
/-- HuntedScent$Net.clear()V -/
def hf_27 (o : Nat) (h : hs_H) : Option (hs_H) := hs_lp (fun k s => hb_27_2 o k s.1 s.2) hs_big (nI 0, h)
set_option maxHeartbeats 1000000 in
theorem hc_27 {S : hs_S} {D : Nat} {Q : hs_Q} (hD : 1 ≤ D) {o : Nat} {h : hs_H} {r : hs_H} (e : hf_27 o h = some r) (q : Q none r) : hs_call hs_ms S D 27 [hs_r 4 o] h Q := by
  refine hs_go (R := 0) hD rfl (Nat.le_of_ble_eq_true rfl) (fun d hd => ?_)
  show hs_W S d 0 hs_p27 Q 0 [hs_r 4 o, hs_u] [] h
  unfold hf_27 at e
  refine hs_w 2 (pc' := 2) (ls' := [hs_r 4 o, hs_i (nI 0)]) (st' := []) (h' := h) (fun n w => w) ?_
  exact hw_27_2_lp hd hs_big e  q
def hb_47_27 (o : Nat)    (h : hs_H) : Option (hs_H) := some h
set_option maxHeartbeats 1000000 in
theorem hw_47_27 {S : hs_S} {d : Nat} {Q : hs_Q} (hd : 0 ≤ d) {o : Nat}     {v1 : hs_V} {h : hs_H} {r : hs_H} (e : hb_47_27 o h = some r) (q : Q none r) : hs_W S d 0 hs_p47 Q 27 [hs_r 5 o, v1] [] h := by
  unfold hb_47_27 at e
  obtain rfl := Option.some.inj e
  exact hs_wr 1 (v := none) (h' := h) (fun n w => w) q
/-- HuntedScent$Notes.cut(I)V -/
def hf_47 (o : Nat) (a1 : Int32) (h : hs_H) : Option (hs_H) := if a1 < 0 then (hb_47_27 o h) else (if (h.1 5 o 3) ≤ a1 then (hb_47_27 o h) else (hb_47_27 o (hs_put (hs_put h 5 o 3 a1) 5 o 4 (((hs_put h 5 o 3 a1).1 5 o 4) + (nI 1)))))
set_option maxHeartbeats 1000000 in
theorem hc_47 {S : hs_S} {D : Nat} {Q : hs_Q} (hD : 1 ≤ D) {o : Nat} {a1 : Int32} {h : hs_H} {r : hs_H} (e : hf_47 o a1 h = some r) (q : Q none r) : hs_call hs_ms S D 47 [hs_r 5 o, hs_i a1] h Q := by
  refine hs_go (R := 0) hD rfl (Nat.le_of_ble_eq_true rfl) (fun d hd => ?_)
  show hs_W S d 0 hs_p47 Q 0 [hs_r 5 o, hs_i a1] [] h
  unfold hf_47 at e
  refine hs_wb 2 (c := a1 < 0) (t := 27) (f := 4) (ls' := [hs_r 5 o, hs_i a1]) (st' := []) (h' := h) (fun n w => w) (fun b1 => ?_) (fun b1 => ?_)
  · rw [if_pos b1] at e
    exact hw_47_27 hd e q
  · rw [if_neg b1] at e
    refine hs_wb 4 (c := (h.1 5 o 3) ≤ a1) (t := 27) (f := 12) (ls' := [hs_r 5 o, hs_i a1]) (st' := []) (h' := h) (fun n w => w) (fun b2 => ?_) (fun b2 => ?_)
    · rw [if_pos b2] at e
      exact hw_47_27 hd e q
    · rw [if_neg b2] at e
      refine hs_w 9 (pc' := 27) (ls' := [hs_r 5 o, hs_i a1]) (st' := []) (h' := hs_put (hs_put h 5 o 3 a1) 5 o 4 (((hs_put h 5 o 3 a1).1 5 o 4) + (nI 1))) (fun n w => w) ?_
      exact hw_47_27 hd e q
/-- HuntedScent$Net.all()I -/
def hf_31 (o : Nat) (h : hs_H) : Option (Int32 × hs_H) := some (((nI 1) <<< ((h.1 4 o 1) &&& 31)) - (nI 1), h)
set_option maxHeartbeats 1000000 in
theorem hc_31 {S : hs_S} {D : Nat} {Q : hs_Q} (hD : 1 ≤ D) {o : Nat} {h : hs_H} {r : Int32 × hs_H} (e : hf_31 o h = some r) (q : Q (some (hs_i r.1)) r.2) : hs_call hs_ms S D 31 [hs_r 4 o] h Q := by
  refine hs_go (R := 0) hD rfl (Nat.le_of_ble_eq_true rfl) (fun d hd => ?_)
  show hs_W S d 1 hs_p31 Q 0 [hs_r 4 o] [] h
  unfold hf_31 at e
  obtain rfl := Option.some.inj e
  exact hs_wr 7 (v := some (hs_i (((nI 1) <<< ((h.1 4 o 1) &&& 31)) - (nI 1)))) (h' := h) (fun n w => w) q
def hb_30_16 (o : Nat)   (s0 : Int32) (h : hs_H) : Option (Int32 × hs_H) := hs_ck (hs_b01 s0) (some (s0, h))
set_option maxHeartbeats 1000000 in
theorem hw_30_16 {S : hs_S} {d : Nat} {Q : hs_Q} (hd : 1 ≤ d) {o : Nat}    {s0 : Int32} {v1 : hs_V} {h : hs_H} {r : Int32 × hs_H} (e : hb_30_16 o s0 h = some r) (q : Q (some (hs_i r.1)) r.2) : hs_W S d 2 hs_p30 Q 16 [hs_r 4 o, v1] [hs_i s0] h := by
  unfold hb_30_16 at e
  obtain ⟨c3, e⟩ := hs_ck_some e
  obtain rfl := Option.some.inj e
  exact hs_wra 1 (c := s0 = 0 ∨ s0 = 1) (v := some (hs_i s0)) (h' := h) (fun n w => w) (hs_b01_iff.mp c3) q
/-- HuntedScent$Net.hasAll(I)Z -/
def hf_30 (o : Nat) (a1 : Int32) (h : hs_H) : Option (Int32 × hs_H) := (hf_31 o h).bind (fun q1 => if ¬ (a1 &&& (q1.1 ^^^ (nI 4294967295))) = 0 then (hb_30_16 o (nI 0) q1.2) else (hb_30_16 o (nI 1) q1.2))
set_option maxHeartbeats 1000000 in
theorem hc_30 {S : hs_S} {D : Nat} {Q : hs_Q} (hD : 2 ≤ D) {o : Nat} {a1 : Int32} {h : hs_H} {r : Int32 × hs_H} (e : hf_30 o a1 h = some r) (q : Q (some (hs_i r.1)) r.2) : hs_call hs_ms S D 30 [hs_r 4 o, hs_i a1] h Q := by
  refine hs_go (R := 1) hD rfl (Nat.le_of_ble_eq_true rfl) (fun d hd => ?_)
  show hs_W S d 2 hs_p30 Q 0 [hs_r 4 o, hs_i a1] [] h
  unfold hf_30 at e
  obtain ⟨q1, eq1, e⟩ := hs_bind_some e
  try dsimp only at e
  refine hs_wc 3 (y := 31) (a := [hs_r 4 o]) (v := some (hs_i q1.1)) (pc' := 5) (ls' := [hs_r 4 o, hs_i a1]) (st' := [hs_i a1]) (h' := h) (h2 := q1.2) (fun n w => w) (fun q => hc_31 (by omega) eq1 q) ?_
  refine hs_wb 4 (c := ¬ (a1 &&& (q1.1 ^^^ (nI 4294967295))) = 0) (t := 15) (f := 11) (ls' := [hs_r 4 o, hs_i a1]) (st' := []) (h' := q1.2) (fun n w => w) (fun b2 => ?_) (fun b2 => ?_)
  · rw [if_pos b2] at e
    refine hs_w 1 (pc' := 16) (ls' := [hs_r 4 o, hs_i a1]) (st' := [hs_i (nI 0)]) (h' := q1.2) (fun n w => w) ?_
    exact hw_30_16 hd e q
  · rw [if_neg b2] at e
    refine hs_w 2 (pc' := 16) (ls' := [hs_r 4 o, hs_i a1]) (st' := [hs_i (nI 1)]) (h' := q1.2) (fun n w => w) ?_
    exact hw_30_16 hd e q
/-- HuntedScent$Reader.fail(II)Z -/
def hf_54 (a1 : Int32) (a2 : Int32) (h : hs_H) : Option (Int32 × hs_H) := some (nI 0, hs_put (hs_put h 6 0 10 a1) 6 0 11 a2)
set_option maxHeartbeats 1000000 in
theorem hc_54 {S : hs_S} {D : Nat} {Q : hs_Q} (hD : 1 ≤ D) {a1 : Int32} {a2 : Int32} {h : hs_H} {r : Int32 × hs_H} (e : hf_54 a1 a2 h = some r) (q : Q (some (hs_i r.1)) r.2) : hs_call hs_ms S D 54 [hs_r 6 0, hs_i a1, hs_i a2] h Q := by
  refine hs_go (R := 0) hD rfl (Nat.le_of_ble_eq_true rfl) (fun d hd => ?_)
  show hs_W S d 2 hs_p54 Q 0 [hs_r 6 0, hs_i a1, hs_i a2] [] h
  unfold hf_54 at e
  obtain rfl := Option.some.inj e
  exact hs_wra 8 (c := nI 0 = 0 ∨ nI 0 = 1) (v := some (hs_i (nI 0))) (h' := hs_put (hs_put h 6 0 10 a1) 6 0 11 a2) (fun n w => w) (by decide) q
def hb_71_19     (h : hs_H) : Option (Int32 × hs_H) := some (nI 0, h)
set_option maxHeartbeats 1000000 in
theorem hw_71_19 {S : hs_S} {d : Nat} {Q : hs_Q} (hd : 0 ≤ d)      {v1 : hs_V} {h : hs_H} {r : Int32 × hs_H} (e : hb_71_19 h = some r) (q : Q (some (hs_i r.1)) r.2) : hs_W S d 1 hs_p71 Q 19 [hs_r 6 0, v1] [] h := by
  unfold hb_71_19 at e
  obtain rfl := Option.some.inj e
  exact hs_wr 2 (v := some (hs_i (nI 0))) (h' := h) (fun n w => w) q
def hb_71_98    (s0 : Int32) (h : hs_H) : Option (Int32 × hs_H) := some (s0, h)
set_option maxHeartbeats 1000000 in
theorem hw_71_98 {S : hs_S} {d : Nat} {Q : hs_Q} (hd : 0 ≤ d)     {s0 : Int32} {v1 : hs_V} {h : hs_H} {r : Int32 × hs_H} (e : hb_71_98 s0 h = some r) (q : Q (some (hs_i r.1)) r.2) : hs_W S d 1 hs_p71 Q 98 [hs_r 6 0, v1] [hs_i s0] h := by
  unfold hb_71_98 at e
  obtain rfl := Option.some.inj e
  exact hs_wr 1 (v := some (hs_i s0)) (h' := h) (fun n w => w) q
def hb_71_69   (x1 : Int32)  (h : hs_H) : Option (Int32 × hs_H) := hs_ck (hs_inb x1 320) (if ¬ (h.1 31 0 x1.toNatClampNeg) = (nI 59) then (hs_ck (hs_inb x1 320) (if ¬ (h.1 31 0 x1.toNatClampNeg) = (nI 32) then (hb_71_98 (nI 5) h) else (hb_71_98 (nI 4) h))) else (some (nI 3, h)))
set_option maxHeartbeats 1000000 in
theorem hw_71_69 {S : hs_S} {d : Nat} {Q : hs_Q} (hd : 0 ≤ d)    {x1 : Int32}   {h : hs_H} {r : Int32 × hs_H} (e : hb_71_69 x1 h = some r) (q : Q (some (hs_i r.1)) r.2) : hs_W S d 1 hs_p71 Q 69 [hs_r 6 0, hs_i x1] [] h := by
  unfold hb_71_69 at e
  obtain ⟨c8, e⟩ := hs_ck_some e
  refine hs_wa 4 (c := vp_in x1 320) (pc' := 75) (ls' := [hs_r 6 0, hs_i x1]) (st' := [hs_i (h.1 31 0 x1.toNatClampNeg)]) (h' := h) (fun n w => w) (hs_inb_iff.mp c8) ?_
  refine hs_wb 2 (c := ¬ (h.1 31 0 x1.toNatClampNeg) = (nI 59)) (t := 82) (f := 80) (ls' := [hs_r 6 0, hs_i x1]) (st' := []) (h' := h) (fun n w => w) (fun b9 => ?_) (fun b9 => ?_)
  · rw [if_pos b9] at e
    obtain ⟨c10, e⟩ := hs_ck_some e
    refine hs_wa 4 (c := vp_in x1 320) (pc' := 88) (ls' := [hs_r 6 0, hs_i x1]) (st' := [hs_i (h.1 31 0 x1.toNatClampNeg)]) (h' := h) (fun n w => w) (hs_inb_iff.mp c10) ?_
    refine hs_wb 2 (c := ¬ (h.1 31 0 x1.toNatClampNeg) = (nI 32)) (t := 97) (f := 93) (ls' := [hs_r 6 0, hs_i x1]) (st' := []) (h' := h) (fun n w => w) (fun b11 => ?_) (fun b11 => ?_)
    · rw [if_pos b11] at e
      refine hs_w 1 (pc' := 98) (ls' := [hs_r 6 0, hs_i x1]) (st' := [hs_i (nI 5)]) (h' := h) (fun n w => w) ?_
      exact hw_71_98 hd e q
    · rw [if_neg b11] at e
      refine hs_w 2 (pc' := 98) (ls' := [hs_r 6 0, hs_i x1]) (st' := [hs_i (nI 4)]) (h' := h) (fun n w => w) ?_
      exact hw_71_98 hd e q
  · rw [if_neg b9] at e
    obtain rfl := Option.some.inj e
    exact hs_wr 2 (v := some (hs_i (nI 3))) (h' := h) (fun n w => w) q
def hb_71_45   (x1 : Int32)  (h : hs_H) : Option (Int32 × hs_H) := hs_ck (hs_inb x1 320) (if (h.1 31 0 x1.toNatClampNeg) < (nI 48) then (hb_71_69 x1 h) else (hs_ck (hs_inb x1 320) (if (nI 57) < (h.1 31 0 x1.toNatClampNeg) then (hb_71_69 x1 h) else (some (nI 2, h)))))
set_option maxHeartbeats 1000000 in
theorem hw_71_45 {S : hs_S} {d : Nat} {Q : hs_Q} (hd : 0 ≤ d)    {x1 : Int32}   {h : hs_H} {r : Int32 × hs_H} (e : hb_71_45 x1 h = some r) (q : Q (some (hs_i r.1)) r.2) : hs_W S d 1 hs_p71 Q 45 [hs_r 6 0, hs_i x1] [] h := by
  unfold hb_71_45 at e
  obtain ⟨c6, e⟩ := hs_ck_some e
  refine hs_wa 4 (c := vp_in x1 320) (pc' := 51) (ls' := [hs_r 6 0, hs_i x1]) (st' := [hs_i (h.1 31 0 x1.toNatClampNeg)]) (h' := h) (fun n w => w) (hs_inb_iff.mp c6) ?_
  refine hs_wb 2 (c := (h.1 31 0 x1.toNatClampNeg) < (nI 48)) (t := 69) (f := 56) (ls' := [hs_r 6 0, hs_i x1]) (st' := []) (h' := h) (fun n w => w) (fun b7 => ?_) (fun b7 => ?_)
  · rw [if_pos b7] at e
    exact hw_71_69 hd e q
  · rw [if_neg b7] at e
    obtain ⟨c12, e⟩ := hs_ck_some e
    refine hs_wa 4 (c := vp_in x1 320) (pc' := 62) (ls' := [hs_r 6 0, hs_i x1]) (st' := [hs_i (h.1 31 0 x1.toNatClampNeg)]) (h' := h) (fun n w => w) (hs_inb_iff.mp c12) ?_
    refine hs_wb 2 (c := (nI 57) < (h.1 31 0 x1.toNatClampNeg)) (t := 69) (f := 67) (ls' := [hs_r 6 0, hs_i x1]) (st' := []) (h' := h) (fun n w => w) (fun b13 => ?_) (fun b13 => ?_)
    · rw [if_pos b13] at e
      exact hw_71_69 hd e q
    · rw [if_neg b13] at e
      obtain rfl := Option.some.inj e
      exact hs_wr 2 (v := some (hs_i (nI 2))) (h' := h) (fun n w => w) q
/-- HuntedScent$Reader.kindAt(I)I -/
def hf_71 (a1 : Int32) (h : hs_H) : Option (Int32 × hs_H) := if a1 < 0 then (hb_71_19 h) else (if (h.1 6 0 3) ≤ a1 then (hb_71_19 h) else (if a1 < (nI 320) then (hs_ck (hs_inb a1 320) (if (h.1 31 0 a1.toNatClampNeg) < (nI 97) then (hb_71_45 a1 h) else (hs_ck (hs_inb a1 320) (if (nI 122) < (h.1 31 0 a1.toNatClampNeg) then (hb_71_45 a1 h) else (some (nI 1, h)))))) else (hb_71_19 h)))
set_option maxHeartbeats 1000000 in
theorem hc_71 {S : hs_S} {D : Nat} {Q : hs_Q} (hD : 1 ≤ D) {a1 : Int32} {h : hs_H} {r : Int32 × hs_H} (e : hf_71 a1 h = some r) (q : Q (some (hs_i r.1)) r.2) : hs_call hs_ms S D 71 [hs_r 6 0, hs_i a1] h Q := by
  refine hs_go (R := 0) hD rfl (Nat.le_of_ble_eq_true rfl) (fun d hd => ?_)
  show hs_W S d 1 hs_p71 Q 0 [hs_r 6 0, hs_i a1] [] h
  unfold hf_71 at e
  refine hs_wb 2 (c := a1 < 0) (t := 19) (f := 4) (ls' := [hs_r 6 0, hs_i a1]) (st' := []) (h' := h) (fun n w => w) (fun b1 => ?_) (fun b1 => ?_)
  · rw [if_pos b1] at e
    exact hw_71_19 hd e q
  · rw [if_neg b1] at e
    refine hs_wb 4 (c := (h.1 6 0 3) ≤ a1) (t := 19) (f := 12) (ls' := [hs_r 6 0, hs_i a1]) (st' := []) (h' := h) (fun n w => w) (fun b2 => ?_) (fun b2 => ?_)
    · rw [if_pos b2] at e
      exact hw_71_19 hd e q
    · rw [if_neg b2] at e
      refine hs_wb 3 (c := a1 < (nI 320)) (t := 21) (f := 19) (ls' := [hs_r 6 0, hs_i a1]) (st' := []) (h' := h) (fun n w => w) (fun b3 => ?_) (fun b3 => ?_)
      · rw [if_pos b3] at e
        obtain ⟨c4, e⟩ := hs_ck_some e
        refine hs_wa 4 (c := vp_in a1 320) (pc' := 27) (ls' := [hs_r 6 0, hs_i a1]) (st' := [hs_i (h.1 31 0 a1.toNatClampNeg)]) (h' := h) (fun n w => w) (hs_inb_iff.mp c4) ?_
        refine hs_wb 2 (c := (h.1 31 0 a1.toNatClampNeg) < (nI 97)) (t := 45) (f := 32) (ls' := [hs_r 6 0, hs_i a1]) (st' := []) (h' := h) (fun n w => w) (fun b5 => ?_) (fun b5 => ?_)
        · rw [if_pos b5] at e
          exact hw_71_45 hd e q
        · rw [if_neg b5] at e
          obtain ⟨c14, e⟩ := hs_ck_some e
          refine hs_wa 4 (c := vp_in a1 320) (pc' := 38) (ls' := [hs_r 6 0, hs_i a1]) (st' := [hs_i (h.1 31 0 a1.toNatClampNeg)]) (h' := h) (fun n w => w) (hs_inb_iff.mp c14) ?_
          refine hs_wb 2 (c := (nI 122) < (h.1 31 0 a1.toNatClampNeg)) (t := 45) (f := 43) (ls' := [hs_r 6 0, hs_i a1]) (st' := []) (h' := h) (fun n w => w) (fun b15 => ?_) (fun b15 => ?_)
          · rw [if_pos b15] at e
            exact hw_71_45 hd e q
          · rw [if_neg b15] at e
            obtain rfl := Option.some.inj e
            exact hs_wr 2 (v := some (hs_i (nI 1))) (h' := h) (fun n w => w) q
      · rw [if_neg b3] at e
        exact hw_71_19 hd e q
def hb_70_43   (x1 : Int32)  (h : hs_H) : Option (Int32 × hs_H) := some (x1, h)
set_option maxHeartbeats 1000000 in
theorem hw_70_43 {S : hs_S} {d : Nat} {Q : hs_Q} (hd : 0 ≤ d)    {x1 : Int32}  {v2 : hs_V} {h : hs_H} {r : Int32 × hs_H} (e : hb_70_43 x1 h = some r) (q : Q (some (hs_i r.1)) r.2) : hs_W S d 1 hs_p70 Q 43 [hs_r 6 0, hs_i x1, v2] [] h := by
  unfold hb_70_43 at e
  obtain rfl := Option.some.inj e
  exact hs_wr 2 (v := some (hs_i x1)) (h' := h) (fun n w => w) q
def hb_70_7  (k7 : Int32 × Int32 × hs_H → Option (Int32 × hs_H)) (x1 : Int32) (x2 : Int32)  (h : hs_H) : Option (Int32 × hs_H) := if (h.1 6 0 4) ≤ x2 then (hb_70_43 x1 h) else (if (nI 320) ≤ x2 then (hb_70_43 x1 h) else (hs_ck (hs_inb x2 320) (k7 ((((nI 10) * x1) + (h.1 31 0 x2.toNatClampNeg)) - (nI 48), x2 + nI 1, h))))
set_option maxHeartbeats 1000000 in
theorem hw_70_7 {S : hs_S} {d : Nat} {Q : hs_Q} (hd : 0 ≤ d)  {k7 : Int32 × Int32 × hs_H → Option (Int32 × hs_H)} (hk7 : ∀ (x1 : Int32) (x2 : Int32) (h : hs_H) (r : Int32 × hs_H) , k7 (x1, x2, h) = some r → Q (some (hs_i r.1)) r.2 → hs_W S d 1 hs_p70 Q 7 [hs_r 6 0, hs_i x1, hs_i x2] [] h) {x1 : Int32} {x2 : Int32}   {h : hs_H} {r : Int32 × hs_H} (e : hb_70_7 k7 x1 x2 h = some r) (q : Q (some (hs_i r.1)) r.2) : hs_W S d 1 hs_p70 Q 7 [hs_r 6 0, hs_i x1, hs_i x2] [] h := by
  unfold hb_70_7 at e
  refine hs_wb 4 (c := (h.1 6 0 4) ≤ x2) (t := 43) (f := 15) (ls' := [hs_r 6 0, hs_i x1, hs_i x2]) (st' := []) (h' := h) (fun n w => w) (fun b1 => ?_) (fun b1 => ?_)
  · rw [if_pos b1] at e
    exact hw_70_43 hd e q
  · rw [if_neg b1] at e
    refine hs_wb 3 (c := (nI 320) ≤ x2) (t := 43) (f := 22) (ls' := [hs_r 6 0, hs_i x1, hs_i x2]) (st' := []) (h' := h) (fun n w => w) (fun b2 => ?_) (fun b2 => ?_)
    · rw [if_pos b2] at e
      exact hw_70_43 hd e q
    · rw [if_neg b2] at e
      obtain ⟨c3, e⟩ := hs_ck_some e
      refine hs_wa 7 (c := vp_in x2 320) (pc' := 32) (ls' := [hs_r 6 0, hs_i x1, hs_i x2]) (st' := [hs_i (h.1 31 0 x2.toNatClampNeg), hs_i ((nI 10) * x1)]) (h' := h) (fun n w => w) (hs_inb_iff.mp c3) ?_
      refine hs_w 6 (pc' := 7) (ls' := [hs_r 6 0, hs_i ((((nI 10) * x1) + (h.1 31 0 x2.toNatClampNeg)) - (nI 48)), hs_i (x2 + nI 1)]) (st' := []) (h' := h) (fun n w => w) ?_
      exact hk7 _ _ _ _  e q
theorem hw_70_7_lp {S : hs_S} {d : Nat} {Q : hs_Q} (hd : 0 ≤ d)    (n : Nat) {x1 : Int32} {x2 : Int32} {h : hs_H} {r : Int32 × hs_H} (e : hs_lp (fun k s => hb_70_7 k s.1 s.2.1 s.2.2) n (x1, x2, h) = some r)  (q : Q (some (hs_i r.1)) r.2) : hs_W S d 1 hs_p70 Q 7 [hs_r 6 0, hs_i x1, hs_i x2] [] h := by
  refine hs_lp_ind (P := fun (s : Int32 × Int32 × hs_H) (r : Int32 × hs_H) => ∀ (_ : True), Q (some (hs_i r.1)) r.2 → hs_W S d 1 hs_p70 Q 7 [hs_r 6 0, hs_i s.1, hs_i s.2.1] [] s.2.2) (fun k hk s r e _ q => ?_) n (x1, x2, h) r e trivial q
  exact hw_70_7 hd (fun x1 x2 h r  e q => hk (x1, x2, h) r e trivial q) e q
/-- HuntedScent$Reader.figuresTaken()I -/
def hf_70  (h : hs_H) : Option (Int32 × hs_H) := hs_lp (fun k s => hb_70_7 k s.1 s.2.1 s.2.2) hs_big (nI 0, h.1 6 0 6, h)
set_option maxHeartbeats 1000000 in
theorem hc_70 {S : hs_S} {D : Nat} {Q : hs_Q} (hD : 1 ≤ D)  {h : hs_H} {r : Int32 × hs_H} (e : hf_70 h = some r) (q : Q (some (hs_i r.1)) r.2) : hs_call hs_ms S D 70 [hs_r 6 0] h Q := by
  refine hs_go (R := 0) hD rfl (Nat.le_of_ble_eq_true rfl) (fun d hd => ?_)
  show hs_W S d 1 hs_p70 Q 0 [hs_r 6 0, hs_u, hs_u] [] h
  unfold hf_70 at e
  refine hs_w 5 (pc' := 7) (ls' := [hs_r 6 0, hs_i (nI 0), hs_i (h.1 6 0 6)]) (st' := []) (h' := h) (fun n w => w) ?_
  exact hw_70_7_lp hd hs_big e  q
def hb_69_161     (h : hs_H) : Option (Int32 × hs_H) := (hf_54 (nI 1) (h.1 6 0 6) h).bind (fun q6 => hs_ck (hs_b01 q6.1) (some (q6.1, q6.2)))
set_option maxHeartbeats 1000000 in
theorem hw_69_161 {S : hs_S} {d : Nat} {Q : hs_Q} (hd : 1 ≤ d)       {h : hs_H} {r : Int32 × hs_H} (e : hb_69_161 h = some r) (q : Q (some (hs_i r.1)) r.2) : hs_W S d 2 hs_p69 Q 161 [hs_r 6 0] [] h := by
  unfold hb_69_161 at e
  obtain ⟨q6, eq6, e⟩ := hs_bind_some e
  try dsimp only at e
  refine hs_wc 5 (y := 54) (a := [hs_r 6 0, hs_i (nI 1), hs_i (h.1 6 0 6)]) (v := some (hs_i q6.1)) (pc' := 170) (ls' := [hs_r 6 0]) (st' := []) (h' := h) (h2 := q6.2) (fun n w => w) (fun q => hc_54 (by omega) eq6 q) ?_
  obtain ⟨c7, e⟩ := hs_ck_some e
  obtain rfl := Option.some.inj e
  exact hs_wra 1 (c := q6.1 = 0 ∨ q6.1 = 1) (v := some (hs_i q6.1)) (h' := q6.2) (fun n w => w) (hs_b01_iff.mp c7) q
def hb_69_188    (s0 : Int32) (h : hs_H) : Option (Int32 × hs_H) := some (nI 1, hs_put h 6 0 7 s0)
set_option maxHeartbeats 1000000 in
theorem hw_69_188 {S : hs_S} {d : Nat} {Q : hs_Q} (hd : 1 ≤ d)     {s0 : Int32}  {h : hs_H} {r : Int32 × hs_H} (e : hb_69_188 s0 h = some r) (q : Q (some (hs_i r.1)) r.2) : hs_W S d 2 hs_p69 Q 188 [hs_r 6 0] [hs_i s0, hs_r 6 0] h := by
  unfold hb_69_188 at e
  obtain rfl := Option.some.inj e
  exact hs_wra 3 (c := nI 1 = 0 ∨ nI 1 = 1) (v := some (hs_i (nI 1))) (h' := hs_put h 6 0 7 s0) (fun n w => w) (by decide) q
def hb_69_171     (h : hs_H) : Option (Int32 × hs_H) := if ¬ (h.1 6 0 5) = (nI 2) then (hb_69_188 (nI 0) h) else ((hf_70 h).bind (fun q10 => hb_69_188 q10.1 q10.2))
set_option maxHeartbeats 1000000 in
theorem hw_69_171 {S : hs_S} {d : Nat} {Q : hs_Q} (hd : 1 ≤ d)       {h : hs_H} {r : Int32 × hs_H} (e : hb_69_171 h = some r) (q : Q (some (hs_i r.1)) r.2) : hs_W S d 2 hs_p69 Q 171 [hs_r 6 0] [] h := by
  unfold hb_69_171 at e
  refine hs_wb 5 (c := ¬ (h.1 6 0 5) = (nI 2)) (t := 187) (f := 180) (ls' := [hs_r 6 0]) (st' := [hs_r 6 0]) (h' := h) (fun n w => w) (fun b9 => ?_) (fun b9 => ?_)
  · rw [if_pos b9] at e
    refine hs_w 1 (pc' := 188) (ls' := [hs_r 6 0]) (st' := [hs_i (nI 0), hs_r 6 0]) (h' := h) (fun n w => w) ?_
    exact hw_69_188 hd e q
  · rw [if_neg b9] at e
    obtain ⟨q10, eq10, e⟩ := hs_bind_some e
    try dsimp only at e
    refine hs_wc 2 (y := 70) (a := [hs_r 6 0]) (v := some (hs_i q10.1)) (pc' := 184) (ls' := [hs_r 6 0]) (st' := [hs_r 6 0]) (h' := h) (h2 := q10.2) (fun n w => w) (fun q => hc_70 (by omega) eq10 q) ?_
    refine hs_w 1 (pc' := 188) (ls' := [hs_r 6 0]) (st' := [hs_i q10.1, hs_r 6 0]) (h' := q10.2) (fun n w => w) ?_
    exact hw_69_188 hd e q
def hb_69_132     (h : hs_H) : Option (Int32 × hs_H) := if (h.1 6 0 5) = (nI 5) then (hb_69_161 h) else (if ¬ (h.1 6 0 5) = (nI 2) then (hb_69_171 h) else (if ((h.1 6 0 4) - (h.1 6 0 6)) ≤ (nI 2) then (hb_69_171 h) else (hb_69_161 h)))
set_option maxHeartbeats 1000000 in
theorem hw_69_132 {S : hs_S} {d : Nat} {Q : hs_Q} (hd : 1 ≤ d)       {h : hs_H} {r : Int32 × hs_H} (e : hb_69_132 h = some r) (q : Q (some (hs_i r.1)) r.2) : hs_W S d 2 hs_p69 Q 132 [hs_r 6 0] [] h := by
  unfold hb_69_132 at e
  refine hs_wb 4 (c := (h.1 6 0 5) = (nI 5)) (t := 161) (f := 140) (ls' := [hs_r 6 0]) (st' := []) (h' := h) (fun n w => w) (fun b5 => ?_) (fun b5 => ?_)
  · rw [if_pos b5] at e
    exact hw_69_161 hd e q
  · rw [if_neg b5] at e
    refine hs_wb 4 (c := ¬ (h.1 6 0 5) = (nI 2)) (t := 171) (f := 148) (ls' := [hs_r 6 0]) (st' := []) (h' := h) (fun n w => w) (fun b8 => ?_) (fun b8 => ?_)
    · rw [if_pos b8] at e
      exact hw_69_171 hd e q
    · rw [if_neg b8] at e
      refine hs_wb 7 (c := ((h.1 6 0 4) - (h.1 6 0 6)) ≤ (nI 2)) (t := 171) (f := 161) (ls' := [hs_r 6 0]) (st' := []) (h' := h) (fun n w => w) (fun b11 => ?_) (fun b11 => ?_)
      · rw [if_pos b11] at e
        exact hw_69_171 hd e q
      · rw [if_neg b11] at e
        exact hw_69_161 hd e q
def hb_69_104  (k77 : hs_H → Option (Int32 × hs_H))   (h : hs_H) : Option (Int32 × hs_H) := (hf_71 (h.1 6 0 4) h).bind (fun q13 => if ¬ q13.1 = (q13.2.1 6 0 5) then (hb_69_132 q13.2) else (k77 (hs_put q13.2 6 0 4 ((q13.2.1 6 0 4) + (nI 1)))))
set_option maxHeartbeats 1000000 in
theorem hw_69_104 {S : hs_S} {d : Nat} {Q : hs_Q} (hd : 1 ≤ d)  {k77 : hs_H → Option (Int32 × hs_H)} (hk77 : ∀  (h : hs_H) (r : Int32 × hs_H) , k77 (h) = some r → Q (some (hs_i r.1)) r.2 → hs_W S d 2 hs_p69 Q 77 [hs_r 6 0] [] h)    {h : hs_H} {r : Int32 × hs_H} (e : hb_69_104 k77 h = some r) (q : Q (some (hs_i r.1)) r.2) : hs_W S d 2 hs_p69 Q 104 [hs_r 6 0] [] h := by
  unfold hb_69_104 at e
  obtain ⟨q13, eq13, e⟩ := hs_bind_some e
  try dsimp only at e
  refine hs_wc 4 (y := 71) (a := [hs_r 6 0, hs_i (h.1 6 0 4)]) (v := some (hs_i q13.1)) (pc' := 112) (ls' := [hs_r 6 0]) (st' := []) (h' := h) (h2 := q13.2) (fun n w => w) (fun q => hc_71 (by omega) eq13 q) ?_
  refine hs_wb 3 (c := ¬ q13.1 = (q13.2.1 6 0 5)) (t := 132) (f := 119) (ls' := [hs_r 6 0]) (st' := []) (h' := q13.2) (fun n w => w) (fun b14 => ?_) (fun b14 => ?_)
  · rw [if_pos b14] at e
    exact hw_69_132 hd e q
  · rw [if_neg b14] at e
    refine hs_w 7 (pc' := 77) (ls' := [hs_r 6 0]) (st' := []) (h' := hs_put q13.2 6 0 4 ((q13.2.1 6 0 4) + (nI 1))) (fun n w => w) ?_
    exact hk77  _ _  e q
def hb_69_77  (k77 : hs_H → Option (Int32 × hs_H))   (h : hs_H) : Option (Int32 × hs_H) := if (h.1 6 0 3) ≤ (h.1 6 0 4) then (hb_69_132 h) else (if (h.1 6 0 5) = (nI 1) then (hb_69_104 k77 h) else (if ¬ (h.1 6 0 5) = (nI 2) then (hb_69_132 h) else (hb_69_104 k77 h)))
set_option maxHeartbeats 1000000 in
theorem hw_69_77 {S : hs_S} {d : Nat} {Q : hs_Q} (hd : 1 ≤ d)  {k77 : hs_H → Option (Int32 × hs_H)} (hk77 : ∀  (h : hs_H) (r : Int32 × hs_H) , k77 (h) = some r → Q (some (hs_i r.1)) r.2 → hs_W S d 2 hs_p69 Q 77 [hs_r 6 0] [] h)    {h : hs_H} {r : Int32 × hs_H} (e : hb_69_77 k77 h = some r) (q : Q (some (hs_i r.1)) r.2) : hs_W S d 2 hs_p69 Q 77 [hs_r 6 0] [] h := by
  unfold hb_69_77 at e
  refine hs_wb 5 (c := (h.1 6 0 3) ≤ (h.1 6 0 4)) (t := 132) (f := 88) (ls' := [hs_r 6 0]) (st' := []) (h' := h) (fun n w => w) (fun b4 => ?_) (fun b4 => ?_)
  · rw [if_pos b4] at e
    exact hw_69_132 hd e q
  · rw [if_neg b4] at e
    refine hs_wb 4 (c := (h.1 6 0 5) = (nI 1)) (t := 104) (f := 96) (ls' := [hs_r 6 0]) (st' := []) (h' := h) (fun n w => w) (fun b12 => ?_) (fun b12 => ?_)
    · rw [if_pos b12] at e
      exact hw_69_104 hd hk77 e q
    · rw [if_neg b12] at e
      refine hs_wb 4 (c := ¬ (h.1 6 0 5) = (nI 2)) (t := 132) (f := 104) (ls' := [hs_r 6 0]) (st' := []) (h' := h) (fun n w => w) (fun b15 => ?_) (fun b15 => ?_)
      · rw [if_pos b15] at e
        exact hw_69_132 hd e q
      · rw [if_neg b15] at e
        exact hw_69_104 hd hk77 e q
theorem hw_69_77_lp {S : hs_S} {d : Nat} {Q : hs_Q} (hd : 1 ≤ d)    (n : Nat)  {h : hs_H} {r : Int32 × hs_H} (e : hs_lp (fun k s => hb_69_77 k s) n (h) = some r)  (q : Q (some (hs_i r.1)) r.2) : hs_W S d 2 hs_p69 Q 77 [hs_r 6 0] [] h := by
  refine hs_lp_ind (P := fun (s : hs_H) (r : Int32 × hs_H) => ∀ (_ : True), Q (some (hs_i r.1)) r.2 → hs_W S d 2 hs_p69 Q 77 [hs_r 6 0] [] s) (fun k hk s r e _ q => ?_) n (h) r e trivial q
  exact hw_69_77 hd (fun  h r  e q => hk (h) r e trivial q) e q
def hb_69_73    (s0 : Int32) (s1 : Int32) (h : hs_H) : Option (Int32 × hs_H) := hs_lp (fun k s => hb_69_77 k s) hs_big (hs_put h 6 0 4 (s1 + s0))
set_option maxHeartbeats 1000000 in
theorem hw_69_73 {S : hs_S} {d : Nat} {Q : hs_Q} (hd : 1 ≤ d)     {s0 : Int32} {s1 : Int32}  {h : hs_H} {r : Int32 × hs_H} (e : hb_69_73 s0 s1 h = some r) (q : Q (some (hs_i r.1)) r.2) : hs_W S d 2 hs_p69 Q 73 [hs_r 6 0] [hs_i s0, hs_i s1, hs_r 6 0] h := by
  unfold hb_69_73 at e
  refine hs_w 2 (pc' := 77) (ls' := [hs_r 6 0]) (st' := []) (h' := hs_put h 6 0 4 (s1 + s0)) (fun n w => w) ?_
  exact hw_69_77_lp hd hs_big e  q
def hb_69_36     (h : hs_H) : Option (Int32 × hs_H) := (hf_71 ((hs_put h 6 0 6 (h.1 6 0 4)).1 6 0 4) (hs_put h 6 0 6 (h.1 6 0 4))).bind (fun q2 => if ¬ ((hs_put q2.2 6 0 5 q2.1).1 6 0 5) = 0 then (hb_69_73 (nI 1) ((hs_put q2.2 6 0 5 q2.1).1 6 0 4) (hs_put q2.2 6 0 5 q2.1)) else (hb_69_73 (nI 0) ((hs_put q2.2 6 0 5 q2.1).1 6 0 4) (hs_put q2.2 6 0 5 q2.1)))
set_option maxHeartbeats 1000000 in
theorem hw_69_36 {S : hs_S} {d : Nat} {Q : hs_Q} (hd : 1 ≤ d)       {h : hs_H} {r : Int32 × hs_H} (e : hb_69_36 h = some r) (q : Q (some (hs_i r.1)) r.2) : hs_W S d 2 hs_p69 Q 36 [hs_r 6 0] [] h := by
  unfold hb_69_36 at e
  obtain ⟨q2, eq2, e⟩ := hs_bind_some e
  try dsimp only at e
  refine hs_wc 9 (y := 71) (a := [hs_r 6 0, hs_i ((hs_put h 6 0 6 (h.1 6 0 4)).1 6 0 4)]) (v := some (hs_i q2.1)) (pc' := 53) (ls' := [hs_r 6 0]) (st' := [hs_r 6 0]) (h' := hs_put h 6 0 6 (h.1 6 0 4)) (h2 := q2.2) (fun n w => w) (fun q => hc_71 (by omega) eq2 q) ?_
  refine hs_wb 7 (c := ¬ ((hs_put q2.2 6 0 5 q2.1).1 6 0 5) = 0) (t := 72) (f := 68) (ls' := [hs_r 6 0]) (st' := [hs_i ((hs_put q2.2 6 0 5 q2.1).1 6 0 4), hs_r 6 0]) (h' := hs_put q2.2 6 0 5 q2.1) (fun n w => w) (fun b3 => ?_) (fun b3 => ?_)
  · rw [if_pos b3] at e
    refine hs_w 1 (pc' := 73) (ls' := [hs_r 6 0]) (st' := [hs_i (nI 1), hs_i ((hs_put q2.2 6 0 5 q2.1).1 6 0 4), hs_r 6 0]) (h' := hs_put q2.2 6 0 5 q2.1) (fun n w => w) ?_
    exact hw_69_73 hd e q
  · rw [if_neg b3] at e
    refine hs_w 2 (pc' := 73) (ls' := [hs_r 6 0]) (st' := [hs_i (nI 0), hs_i ((hs_put q2.2 6 0 5 q2.1).1 6 0 4), hs_r 6 0]) (h' := hs_put q2.2 6 0 5 q2.1) (fun n w => w) ?_
    exact hw_69_73 hd e q
def hb_69_0  (k0 : hs_H → Option (Int32 × hs_H))   (h : hs_H) : Option (Int32 × hs_H) := if (h.1 6 0 3) ≤ (h.1 6 0 4) then (hb_69_36 h) else ((hf_71 (h.1 6 0 4) h).bind (fun q16 => if ¬ q16.1 = (nI 4) then (hb_69_36 q16.2) else (k0 (hs_put q16.2 6 0 4 ((q16.2.1 6 0 4) + (nI 1))))))
set_option maxHeartbeats 1000000 in
theorem hw_69_0 {S : hs_S} {d : Nat} {Q : hs_Q} (hd : 1 ≤ d)  {k0 : hs_H → Option (Int32 × hs_H)} (hk0 : ∀  (h : hs_H) (r : Int32 × hs_H) , k0 (h) = some r → Q (some (hs_i r.1)) r.2 → hs_W S d 2 hs_p69 Q 0 [hs_r 6 0] [] h)    {h : hs_H} {r : Int32 × hs_H} (e : hb_69_0 k0 h = some r) (q : Q (some (hs_i r.1)) r.2) : hs_W S d 2 hs_p69 Q 0 [hs_r 6 0] [] h := by
  unfold hb_69_0 at e
  refine hs_wb 5 (c := (h.1 6 0 3) ≤ (h.1 6 0 4)) (t := 36) (f := 11) (ls' := [hs_r 6 0]) (st' := []) (h' := h) (fun n w => w) (fun b1 => ?_) (fun b1 => ?_)
  · rw [if_pos b1] at e
    exact hw_69_36 hd e q
  · rw [if_neg b1] at e
    obtain ⟨q16, eq16, e⟩ := hs_bind_some e
    try dsimp only at e
    refine hs_wc 4 (y := 71) (a := [hs_r 6 0, hs_i (h.1 6 0 4)]) (v := some (hs_i q16.1)) (pc' := 19) (ls' := [hs_r 6 0]) (st' := []) (h' := h) (h2 := q16.2) (fun n w => w) (fun q => hc_71 (by omega) eq16 q) ?_
    refine hs_wb 2 (c := ¬ q16.1 = (nI 4)) (t := 36) (f := 23) (ls' := [hs_r 6 0]) (st' := []) (h' := q16.2) (fun n w => w) (fun b17 => ?_) (fun b17 => ?_)
    · rw [if_pos b17] at e
      exact hw_69_36 hd e q
    · rw [if_neg b17] at e
      refine hs_w 7 (pc' := 0) (ls' := [hs_r 6 0]) (st' := []) (h' := hs_put q16.2 6 0 4 ((q16.2.1 6 0 4) + (nI 1))) (fun n w => w) ?_
      exact hk0  _ _  e q
theorem hw_69_0_lp {S : hs_S} {d : Nat} {Q : hs_Q} (hd : 1 ≤ d)    (n : Nat)  {h : hs_H} {r : Int32 × hs_H} (e : hs_lp (fun k s => hb_69_0 k s) n (h) = some r)  (q : Q (some (hs_i r.1)) r.2) : hs_W S d 2 hs_p69 Q 0 [hs_r 6 0] [] h := by
  refine hs_lp_ind (P := fun (s : hs_H) (r : Int32 × hs_H) => ∀ (_ : True), Q (some (hs_i r.1)) r.2 → hs_W S d 2 hs_p69 Q 0 [hs_r 6 0] [] s) (fun k hk s r e _ q => ?_) n (h) r e trivial q
  exact hw_69_0 hd (fun  h r  e q => hk (h) r e trivial q) e q
/-- HuntedScent$Reader.takeToken()Z -/
def hf_69  (h : hs_H) : Option (Int32 × hs_H) := hs_lp (fun k s => hb_69_0 k s) hs_big (h)
set_option maxHeartbeats 1000000 in
theorem hc_69 {S : hs_S} {D : Nat} {Q : hs_Q} (hD : 2 ≤ D)  {h : hs_H} {r : Int32 × hs_H} (e : hf_69 h = some r) (q : Q (some (hs_i r.1)) r.2) : hs_call hs_ms S D 69 [hs_r 6 0] h Q := by
  refine hs_go (R := 1) hD rfl (Nat.le_of_ble_eq_true rfl) (fun d hd => ?_)
  show hs_W S d 2 hs_p69 Q 0 [hs_r 6 0] [] h
  unfold hf_69 at e
  exact hw_69_0_lp hd hs_big e  q
def hb_72_64_67 (p1 : Nat)    (h : hs_H) : Option (Int32 × hs_H) := some (nI 1, h)
set_option maxHeartbeats 1000000 in
theorem hw_72_64_67 {S : hs_S} {d : Nat} {Q : hs_Q} (hd : 1 ≤ d) {p1 : Nat}     {v2 : hs_V} {h : hs_H} {r : Int32 × hs_H} (e : hb_72_64_67 p1 h = some r) (q : Q (some (hs_i r.1)) r.2) : hs_W S d 2 hs_p72 Q 67 [hs_r 6 0, hs_r 64 p1, v2] [] h := by
  unfold hb_72_64_67 at e
  obtain rfl := Option.some.inj e
  exact hs_wra 2 (c := nI 1 = 0 ∨ nI 1 = 1) (v := some (hs_i (nI 1))) (h' := h) (fun n w => w) (by decide) q
def hb_72_64_20 (p1 : Nat) (k20 : Int32 × hs_H → Option (Int32 × hs_H)) (x2 : Int32)  (h : hs_H) : Option (Int32 × hs_H) := hs_ck (Nat.blt p1 7) (if (nI (hs_txt p1).length) ≤ x2 then (hb_72_64_67 p1 h) else (if (nI 320) ≤ ((h.1 6 0 6) + x2) then (hb_72_64_67 p1 h) else (hs_ck (hs_inb ((h.1 6 0 6) + x2) 320) (hs_ck (Nat.blt p1 7) (hs_ck (hs_inb x2 (hs_txt p1).length) (if (h.1 31 0 ((h.1 6 0 6) + x2).toNatClampNeg) = (nI ((hs_txt p1).getD x2.toNatClampNeg 0)) then (k20 (x2 + nI 1, h)) else (some (nI 0, h))))))))
set_option maxHeartbeats 1000000 in
theorem hw_72_64_20 {S : hs_S} {d : Nat} {Q : hs_Q} (hd : 1 ≤ d) {p1 : Nat} {k20 : Int32 × hs_H → Option (Int32 × hs_H)} (hk20 : ∀ (x2 : Int32) (h : hs_H) (r : Int32 × hs_H) , k20 (x2, h) = some r → Q (some (hs_i r.1)) r.2 → hs_W S d 2 hs_p72 Q 20 [hs_r 6 0, hs_r 64 p1, hs_i x2] [] h) {x2 : Int32}   {h : hs_H} {r : Int32 × hs_H} (e : hb_72_64_20 p1 k20 x2 h = some r) (q : Q (some (hs_i r.1)) r.2) : hs_W S d 2 hs_p72 Q 20 [hs_r 6 0, hs_r 64 p1, hs_i x2] [] h := by
  unfold hb_72_64_20 at e
  obtain ⟨c3, e⟩ := hs_ck_some e
  refine hs_wc 3 (y := 900) (a := [hs_r 64 p1]) (v := some (hs_i (nI (hs_txt p1).length))) (pc' := 25) (ls' := [hs_r 6 0, hs_r 64 p1, hs_i x2]) (st' := [hs_i x2]) (h' := h) (h2 := h) (fun n w => w) (fun q => hs_len_call (by omega) (Nat.le_of_ble_eq_true c3) q) ?_
  refine hs_wb 1 (c := (nI (hs_txt p1).length) ≤ x2) (t := 67) (f := 28) (ls' := [hs_r 6 0, hs_r 64 p1, hs_i x2]) (st' := []) (h' := h) (fun n w => w) (fun b4 => ?_) (fun b4 => ?_)
  · rw [if_pos b4] at e
    exact hw_72_64_67 hd e q
  · rw [if_neg b4] at e
    refine hs_wb 6 (c := (nI 320) ≤ ((h.1 6 0 6) + x2)) (t := 67) (f := 40) (ls' := [hs_r 6 0, hs_r 64 p1, hs_i x2]) (st' := []) (h' := h) (fun n w => w) (fun b5 => ?_) (fun b5 => ?_)
    · rw [if_pos b5] at e
      exact hw_72_64_67 hd e q
    · rw [if_neg b5] at e
      obtain ⟨c6, e⟩ := hs_ck_some e
      refine hs_wa 7 (c := vp_in ((h.1 6 0 6) + x2) 320) (pc' := 51) (ls' := [hs_r 6 0, hs_r 64 p1, hs_i x2]) (st' := [hs_i (h.1 31 0 ((h.1 6 0 6) + x2).toNatClampNeg)]) (h' := h) (fun n w => w) (hs_inb_iff.mp c6) ?_
      obtain ⟨c7, e⟩ := hs_ck_some e
      obtain ⟨c8, e⟩ := hs_ck_some e
      refine hs_wc 3 (y := 901) (a := [hs_r 64 p1, hs_i x2]) (v := some (hs_i (nI ((hs_txt p1).getD x2.toNatClampNeg 0)))) (pc' := 56) (ls' := [hs_r 6 0, hs_r 64 p1, hs_i x2]) (st' := [hs_i (h.1 31 0 ((h.1 6 0 6) + x2).toNatClampNeg)]) (h' := h) (h2 := h) (fun n w => w) (fun q => hs_chr_call (by omega) (Nat.le_of_ble_eq_true c7) (hs_inb_iff.mp c8) q) ?_
      refine hs_wb 1 (c := (h.1 31 0 ((h.1 6 0 6) + x2).toNatClampNeg) = (nI ((hs_txt p1).getD x2.toNatClampNeg 0))) (t := 61) (f := 59) (ls' := [hs_r 6 0, hs_r 64 p1, hs_i x2]) (st' := []) (h' := h) (fun n w => w) (fun b9 => ?_) (fun b9 => ?_)
      · rw [if_pos b9] at e
        refine hs_w 2 (pc' := 20) (ls' := [hs_r 6 0, hs_r 64 p1, hs_i (x2 + nI 1)]) (st' := []) (h' := h) (fun n w => w) ?_
        exact hk20 _ _ _  e q
      · rw [if_neg b9] at e
        obtain rfl := Option.some.inj e
        exact hs_wra 2 (c := nI 0 = 0 ∨ nI 0 = 1) (v := some (hs_i (nI 0))) (h' := h) (fun n w => w) (by decide) q
theorem hw_72_64_20_lp {S : hs_S} {d : Nat} {Q : hs_Q} (hd : 1 ≤ d) {p1 : Nat}   (n : Nat) {x2 : Int32} {h : hs_H} {r : Int32 × hs_H} (e : hs_lp (fun k s => hb_72_64_20 p1 k s.1 s.2) n (x2, h) = some r)  (q : Q (some (hs_i r.1)) r.2) : hs_W S d 2 hs_p72 Q 20 [hs_r 6 0, hs_r 64 p1, hs_i x2] [] h := by
  refine hs_lp_ind (P := fun (s : Int32 × hs_H) (r : Int32 × hs_H) => ∀ (_ : True), Q (some (hs_i r.1)) r.2 → hs_W S d 2 hs_p72 Q 20 [hs_r 6 0, hs_r 64 p1, hs_i s.1] [] s.2) (fun k hk s r e _ q => ?_) n (x2, h) r e trivial q
  exact hw_72_64_20 hd (fun x2 h r  e q => hk (x2, h) r e trivial q) e q
/-- HuntedScent$Reader.says(Ljava/lang/String;)Z -/
def hf_72_64 (p1 : Nat) (h : hs_H) : Option (Int32 × hs_H) := hs_ck (Nat.blt p1 7) (if ((h.1 6 0 4) - (h.1 6 0 6)) = (nI (hs_txt p1).length) then (hs_lp (fun k s => hb_72_64_20 p1 k s.1 s.2) hs_big (nI 0, h)) else (some (nI 0, h)))
set_option maxHeartbeats 1000000 in
theorem hc_72_64 {S : hs_S} {D : Nat} {Q : hs_Q} (hD : 2 ≤ D) {p1 : Nat} {h : hs_H} {r : Int32 × hs_H} (e : hf_72_64 p1 h = some r) (q : Q (some (hs_i r.1)) r.2) : hs_call hs_ms S D 72 [hs_r 6 0, hs_r 64 p1] h Q := by
  refine hs_go (R := 1) hD rfl (Nat.le_of_ble_eq_true rfl) (fun d hd => ?_)
  show hs_W S d 2 hs_p72 Q 0 [hs_r 6 0, hs_r 64 p1, hs_u] [] h
  unfold hf_72_64 at e
  obtain ⟨c1, e⟩ := hs_ck_some e
  refine hs_wc 7 (y := 900) (a := [hs_r 64 p1]) (v := some (hs_i (nI (hs_txt p1).length))) (pc' := 13) (ls' := [hs_r 6 0, hs_r 64 p1, hs_u]) (st' := [hs_i ((h.1 6 0 4) - (h.1 6 0 6))]) (h' := h) (h2 := h) (fun n w => w) (fun q => hs_len_call (by omega) (Nat.le_of_ble_eq_true c1) q) ?_
  refine hs_wb 1 (c := ((h.1 6 0 4) - (h.1 6 0 6)) = (nI (hs_txt p1).length)) (t := 18) (f := 16) (ls' := [hs_r 6 0, hs_r 64 p1, hs_u]) (st' := []) (h' := h) (fun n w => w) (fun b2 => ?_) (fun b2 => ?_)
  · rw [if_pos b2] at e
    refine hs_w 2 (pc' := 20) (ls' := [hs_r 6 0, hs_r 64 p1, hs_i (nI 0)]) (st' := []) (h' := h) (fun n w => w) ?_
    exact hw_72_64_20_lp hd hs_big e  q
  · rw [if_neg b2] at e
    obtain rfl := Option.some.inj e
    exact hs_wra 2 (c := nI 0 = 0 ∨ nI 0 = 1) (v := some (hs_i (nI 0))) (h' := h) (fun n w => w) (by decide) q
def hb_65_51    (s0 : Int32) (h : hs_H) : Option (Int32 × hs_H) := hs_ck (hs_b01 s0) (some (s0, h))
set_option maxHeartbeats 1000000 in
theorem hw_65_51 {S : hs_S} {d : Nat} {Q : hs_Q} (hd : 1 ≤ d)     {s0 : Int32} {v1 : hs_V} {v2 : hs_V} {h : hs_H} {r : Int32 × hs_H} (e : hb_65_51 s0 h = some r) (q : Q (some (hs_i r.1)) r.2) : hs_W S d 2 hs_p65 Q 51 [hs_r 6 0, v1, v2] [hs_i s0] h := by
  unfold hb_65_51 at e
  obtain ⟨c5, e⟩ := hs_ck_some e
  obtain rfl := Option.some.inj e
  exact hs_wra 1 (c := s0 = 0 ∨ s0 = 1) (v := some (hs_i s0)) (h' := h) (fun n w => w) (hs_b01_iff.mp c5) q
def hb_65_46     (h : hs_H) : Option (Int32 × hs_H) := hb_65_51 (nI 1) h
set_option maxHeartbeats 1000000 in
theorem hw_65_46 {S : hs_S} {d : Nat} {Q : hs_Q} (hd : 1 ≤ d)      {v1 : hs_V} {v2 : hs_V} {h : hs_H} {r : Int32 × hs_H} (e : hb_65_46 h = some r) (q : Q (some (hs_i r.1)) r.2) : hs_W S d 2 hs_p65 Q 46 [hs_r 6 0, v1, v2] [] h := by
  unfold hb_65_46 at e
  refine hs_w 2 (pc' := 51) (ls' := [hs_r 6 0, v1, v2]) (st' := [hs_i (nI 1)]) (h' := h) (fun n w => w) ?_
  exact hw_65_51 hd e q
def hb_65_34     (h : hs_H) : Option (Int32 × hs_H) := (hf_54 (nI 3) (h.1 6 0 6) h).bind (fun q3 => if q3.1 = 0 then (hb_65_51 (nI 0) q3.2) else (hb_65_46 q3.2))
set_option maxHeartbeats 1000000 in
theorem hw_65_34 {S : hs_S} {d : Nat} {Q : hs_Q} (hd : 1 ≤ d)      {v1 : hs_V} {v2 : hs_V} {h : hs_H} {r : Int32 × hs_H} (e : hb_65_34 h = some r) (q : Q (some (hs_i r.1)) r.2) : hs_W S d 2 hs_p65 Q 34 [hs_r 6 0, v1, v2] [] h := by
  unfold hb_65_34 at e
  obtain ⟨q3, eq3, e⟩ := hs_bind_some e
  try dsimp only at e
  refine hs_wc 5 (y := 54) (a := [hs_r 6 0, hs_i (nI 3), hs_i (h.1 6 0 6)]) (v := some (hs_i q3.1)) (pc' := 43) (ls' := [hs_r 6 0, v1, v2]) (st' := []) (h' := h) (h2 := q3.2) (fun n w => w) (fun q => hc_54 (by omega) eq3 q) ?_
  refine hs_wb 1 (c := q3.1 = 0) (t := 50) (f := 46) (ls' := [hs_r 6 0, v1, v2]) (st' := []) (h' := q3.2) (fun n w => w) (fun b4 => ?_) (fun b4 => ?_)
  · rw [if_pos b4] at e
    refine hs_w 1 (pc' := 51) (ls' := [hs_r 6 0, v1, v2]) (st' := [hs_i (nI 0)]) (h' := q3.2) (fun n w => w) ?_
    exact hw_65_51 hd e q
  · rw [if_neg b4] at e
    exact hw_65_46 hd e q
/-- HuntedScent$Reader.isNumber(II)Z -/
def hf_65 (a1 : Int32) (a2 : Int32) (h : hs_H) : Option (Int32 × hs_H) := if (h.1 6 0 5) = (nI 2) then (if (h.1 6 0 7) < a1 then (hb_65_34 h) else (if (h.1 6 0 7) ≤ a2 then (hb_65_46 h) else (hb_65_34 h))) else ((hf_54 (nI 2) (h.1 6 0 6) h).bind (fun q7 => hs_ck (hs_b01 q7.1) (some (q7.1, q7.2))))
set_option maxHeartbeats 1000000 in
theorem hc_65 {S : hs_S} {D : Nat} {Q : hs_Q} (hD : 2 ≤ D) {a1 : Int32} {a2 : Int32} {h : hs_H} {r : Int32 × hs_H} (e : hf_65 a1 a2 h = some r) (q : Q (some (hs_i r.1)) r.2) : hs_call hs_ms S D 65 [hs_r 6 0, hs_i a1, hs_i a2] h Q := by
  refine hs_go (R := 1) hD rfl (Nat.le_of_ble_eq_true rfl) (fun d hd => ?_)
  show hs_W S d 2 hs_p65 Q 0 [hs_r 6 0, hs_i a1, hs_i a2] [] h
  unfold hf_65 at e
  refine hs_wb 4 (c := (h.1 6 0 5) = (nI 2)) (t := 18) (f := 8) (ls' := [hs_r 6 0, hs_i a1, hs_i a2]) (st' := []) (h' := h) (fun n w => w) (fun b1 => ?_) (fun b1 => ?_)
  · rw [if_pos b1] at e
    refine hs_wb 4 (c := (h.1 6 0 7) < a1) (t := 34) (f := 26) (ls' := [hs_r 6 0, hs_i a1, hs_i a2]) (st' := []) (h' := h) (fun n w => w) (fun b2 => ?_) (fun b2 => ?_)
    · rw [if_pos b2] at e
      exact hw_65_34 hd e q
    · rw [if_neg b2] at e
      refine hs_wb 4 (c := (h.1 6 0 7) ≤ a2) (t := 46) (f := 34) (ls' := [hs_r 6 0, hs_i a1, hs_i a2]) (st' := []) (h' := h) (fun n w => w) (fun b6 => ?_) (fun b6 => ?_)
      · rw [if_pos b6] at e
        exact hw_65_46 hd e q
      · rw [if_neg b6] at e
        exact hw_65_34 hd e q
  · rw [if_neg b1] at e
    obtain ⟨q7, eq7, e⟩ := hs_bind_some e
    try dsimp only at e
    refine hs_wc 5 (y := 54) (a := [hs_r 6 0, hs_i (nI 2), hs_i (h.1 6 0 6)]) (v := some (hs_i q7.1)) (pc' := 17) (ls' := [hs_r 6 0, hs_i a1, hs_i a2]) (st' := []) (h' := h) (h2 := q7.2) (fun n w => w) (fun q => hc_54 (by omega) eq7 q) ?_
    obtain ⟨c8, e⟩ := hs_ck_some e
    obtain rfl := Option.some.inj e
    exact hs_wra 1 (c := q7.1 = 0 ∨ q7.1 = 1) (v := some (hs_i q7.1)) (h' := q7.2) (fun n w => w) (hs_b01_iff.mp c8) q
def hb_64_21    (s0 : Int32) (h : hs_H) : Option (Int32 × hs_H) := hs_ck (hs_b01 s0) (some (s0, h))
set_option maxHeartbeats 1000000 in
theorem hw_64_21 {S : hs_S} {d : Nat} {Q : hs_Q} (hd : 2 ≤ d)     {s0 : Int32} {v1 : hs_V} {v2 : hs_V} {h : hs_H} {r : Int32 × hs_H} (e : hb_64_21 s0 h = some r) (q : Q (some (hs_i r.1)) r.2) : hs_W S d 2 hs_p64 Q 21 [hs_r 6 0, v1, v2] [hs_i s0] h := by
  unfold hb_64_21 at e
  obtain ⟨c3, e⟩ := hs_ck_some e
  obtain rfl := Option.some.inj e
  exact hs_wra 1 (c := s0 = 0 ∨ s0 = 1) (v := some (hs_i s0)) (h' := h) (fun n w => w) (hs_b01_iff.mp c3) q
def hb_64_20     (h : hs_H) : Option (Int32 × hs_H) := hb_64_21 (nI 0) h
set_option maxHeartbeats 1000000 in
theorem hw_64_20 {S : hs_S} {d : Nat} {Q : hs_Q} (hd : 2 ≤ d)      {v1 : hs_V} {v2 : hs_V} {h : hs_H} {r : Int32 × hs_H} (e : hb_64_20 h = some r) (q : Q (some (hs_i r.1)) r.2) : hs_W S d 2 hs_p64 Q 20 [hs_r 6 0, v1, v2] [] h := by
  unfold hb_64_20 at e
  refine hs_w 1 (pc' := 21) (ls' := [hs_r 6 0, v1, v2]) (st' := [hs_i (nI 0)]) (h' := h) (fun n w => w) ?_
  exact hw_64_21 hd e q
/-- HuntedScent$Reader.takeNumber(II)Z -/
def hf_64 (a1 : Int32) (a2 : Int32) (h : hs_H) : Option (Int32 × hs_H) := (hf_69 h).bind (fun q1 => if q1.1 = 0 then (hb_64_20 q1.2) else ((hf_65 a1 a2 q1.2).bind (fun q4 => if q4.1 = 0 then (hb_64_20 q4.2) else (hb_64_21 (nI 1) q4.2))))
set_option maxHeartbeats 1000000 in
theorem hc_64 {S : hs_S} {D : Nat} {Q : hs_Q} (hD : 3 ≤ D) {a1 : Int32} {a2 : Int32} {h : hs_H} {r : Int32 × hs_H} (e : hf_64 a1 a2 h = some r) (q : Q (some (hs_i r.1)) r.2) : hs_call hs_ms S D 64 [hs_r 6 0, hs_i a1, hs_i a2] h Q := by
  refine hs_go (R := 2) hD rfl (Nat.le_of_ble_eq_true rfl) (fun d hd => ?_)
  show hs_W S d 2 hs_p64 Q 0 [hs_r 6 0, hs_i a1, hs_i a2] [] h
  unfold hf_64 at e
  obtain ⟨q1, eq1, e⟩ := hs_bind_some e
  try dsimp only at e
  refine hs_wc 2 (y := 69) (a := [hs_r 6 0]) (v := some (hs_i q1.1)) (pc' := 4) (ls' := [hs_r 6 0, hs_i a1, hs_i a2]) (st' := []) (h' := h) (h2 := q1.2) (fun n w => w) (fun q => hc_69 (by omega) eq1 q) ?_
  refine hs_wb 1 (c := q1.1 = 0) (t := 20) (f := 7) (ls' := [hs_r 6 0, hs_i a1, hs_i a2]) (st' := []) (h' := q1.2) (fun n w => w) (fun b2 => ?_) (fun b2 => ?_)
  · rw [if_pos b2] at e
    exact hw_64_20 hd e q
  · rw [if_neg b2] at e
    obtain ⟨q4, eq4, e⟩ := hs_bind_some e
    try dsimp only at e
    refine hs_wc 4 (y := 65) (a := [hs_r 6 0, hs_i a1, hs_i a2]) (v := some (hs_i q4.1)) (pc' := 13) (ls' := [hs_r 6 0, hs_i a1, hs_i a2]) (st' := []) (h' := q1.2) (h2 := q4.2) (fun n w => w) (fun q => hc_65 (by omega) eq4 q) ?_
    refine hs_wb 1 (c := q4.1 = 0) (t := 20) (f := 16) (ls' := [hs_r 6 0, hs_i a1, hs_i a2]) (st' := []) (h' := q4.2) (fun n w => w) (fun b5 => ?_) (fun b5 => ?_)
    · rw [if_pos b5] at e
      exact hw_64_20 hd e q
    · rw [if_neg b5] at e
      refine hs_w 2 (pc' := 21) (ls' := [hs_r 6 0, hs_i a1, hs_i a2]) (st' := [hs_i (nI 1)]) (h' := q4.2) (fun n w => w) ?_
      exact hw_64_21 hd e q
def hb_67_34     (h : hs_H) : Option (Int32 × hs_H) := (hf_54 (nI 3) (h.1 6 0 6) h).bind (fun q3 => hs_ck (hs_b01 q3.1) (some (q3.1, q3.2)))
set_option maxHeartbeats 1000000 in
theorem hw_67_34 {S : hs_S} {d : Nat} {Q : hs_Q} (hd : 1 ≤ d)       {h : hs_H} {r : Int32 × hs_H} (e : hb_67_34 h = some r) (q : Q (some (hs_i r.1)) r.2) : hs_W S d 2 hs_p67 Q 34 [hs_r 6 0] [] h := by
  unfold hb_67_34 at e
  obtain ⟨q3, eq3, e⟩ := hs_bind_some e
  try dsimp only at e
  refine hs_wc 5 (y := 54) (a := [hs_r 6 0, hs_i (nI 3), hs_i (h.1 6 0 6)]) (v := some (hs_i q3.1)) (pc' := 43) (ls' := [hs_r 6 0]) (st' := []) (h' := h) (h2 := q3.2) (fun n w => w) (fun q => hc_54 (by omega) eq3 q) ?_
  obtain ⟨c4, e⟩ := hs_ck_some e
  obtain rfl := Option.some.inj e
  exact hs_wra 1 (c := q3.1 = 0 ∨ q3.1 = 1) (v := some (hs_i q3.1)) (h' := q3.2) (fun n w => w) (hs_b01_iff.mp c4) q
/-- HuntedScent$Reader.isNode()Z -/
def hf_67  (h : hs_H) : Option (Int32 × hs_H) := if (h.1 6 0 5) = (nI 2) then (if (h.1 6 0 7) < 0 then (hb_67_34 h) else (if (h.1 6 0 7) < (nI 10) then (some (nI 1, hs_put h 6 0 9 ((h.1 6 0 9) ||| ((nI 1) <<< ((h.1 6 0 7) &&& 31))))) else (hb_67_34 h))) else ((hf_54 (nI 2) (h.1 6 0 6) h).bind (fun q6 => hs_ck (hs_b01 q6.1) (some (q6.1, q6.2))))
set_option maxHeartbeats 1000000 in
theorem hc_67 {S : hs_S} {D : Nat} {Q : hs_Q} (hD : 2 ≤ D)  {h : hs_H} {r : Int32 × hs_H} (e : hf_67 h = some r) (q : Q (some (hs_i r.1)) r.2) : hs_call hs_ms S D 67 [hs_r 6 0] h Q := by
  refine hs_go (R := 1) hD rfl (Nat.le_of_ble_eq_true rfl) (fun d hd => ?_)
  show hs_W S d 2 hs_p67 Q 0 [hs_r 6 0] [] h
  unfold hf_67 at e
  refine hs_wb 4 (c := (h.1 6 0 5) = (nI 2)) (t := 18) (f := 8) (ls' := [hs_r 6 0]) (st' := []) (h' := h) (fun n w => w) (fun b1 => ?_) (fun b1 => ?_)
  · rw [if_pos b1] at e
    refine hs_wb 3 (c := (h.1 6 0 7) < 0) (t := 34) (f := 25) (ls' := [hs_r 6 0]) (st' := []) (h' := h) (fun n w => w) (fun b2 => ?_) (fun b2 => ?_)
    · rw [if_pos b2] at e
      exact hw_67_34 hd e q
    · rw [if_neg b2] at e
      refine hs_wb 4 (c := (h.1 6 0 7) < (nI 10)) (t := 44) (f := 34) (ls' := [hs_r 6 0]) (st' := []) (h' := h) (fun n w => w) (fun b5 => ?_) (fun b5 => ?_)
      · rw [if_pos b5] at e
        obtain rfl := Option.some.inj e
        exact hs_wra 11 (c := nI 1 = 0 ∨ nI 1 = 1) (v := some (hs_i (nI 1))) (h' := hs_put h 6 0 9 ((h.1 6 0 9) ||| ((nI 1) <<< ((h.1 6 0 7) &&& 31)))) (fun n w => w) (by decide) q
      · rw [if_neg b5] at e
        exact hw_67_34 hd e q
  · rw [if_neg b1] at e
    obtain ⟨q6, eq6, e⟩ := hs_bind_some e
    try dsimp only at e
    refine hs_wc 5 (y := 54) (a := [hs_r 6 0, hs_i (nI 2), hs_i (h.1 6 0 6)]) (v := some (hs_i q6.1)) (pc' := 17) (ls' := [hs_r 6 0]) (st' := []) (h' := h) (h2 := q6.2) (fun n w => w) (fun q => hc_54 (by omega) eq6 q) ?_
    obtain ⟨c7, e⟩ := hs_ck_some e
    obtain rfl := Option.some.inj e
    exact hs_wra 1 (c := q6.1 = 0 ∨ q6.1 = 1) (v := some (hs_i q6.1)) (h' := q6.2) (fun n w => w) (hs_b01_iff.mp c7) q
def hb_66_19    (s0 : Int32) (h : hs_H) : Option (Int32 × hs_H) := hs_ck (hs_b01 s0) (some (s0, h))
set_option maxHeartbeats 1000000 in
theorem hw_66_19 {S : hs_S} {d : Nat} {Q : hs_Q} (hd : 2 ≤ d)     {s0 : Int32}  {h : hs_H} {r : Int32 × hs_H} (e : hb_66_19 s0 h = some r) (q : Q (some (hs_i r.1)) r.2) : hs_W S d 2 hs_p66 Q 19 [hs_r 6 0] [hs_i s0] h := by
  unfold hb_66_19 at e
  obtain ⟨c3, e⟩ := hs_ck_some e
  obtain rfl := Option.some.inj e
  exact hs_wra 1 (c := s0 = 0 ∨ s0 = 1) (v := some (hs_i s0)) (h' := h) (fun n w => w) (hs_b01_iff.mp c3) q
def hb_66_18     (h : hs_H) : Option (Int32 × hs_H) := hb_66_19 (nI 0) h
set_option maxHeartbeats 1000000 in
theorem hw_66_18 {S : hs_S} {d : Nat} {Q : hs_Q} (hd : 2 ≤ d)       {h : hs_H} {r : Int32 × hs_H} (e : hb_66_18 h = some r) (q : Q (some (hs_i r.1)) r.2) : hs_W S d 2 hs_p66 Q 18 [hs_r 6 0] [] h := by
  unfold hb_66_18 at e
  refine hs_w 1 (pc' := 19) (ls' := [hs_r 6 0]) (st' := [hs_i (nI 0)]) (h' := h) (fun n w => w) ?_
  exact hw_66_19 hd e q
/-- HuntedScent$Reader.takeNode()Z -/
def hf_66  (h : hs_H) : Option (Int32 × hs_H) := (hf_69 h).bind (fun q1 => if q1.1 = 0 then (hb_66_18 q1.2) else ((hf_67 q1.2).bind (fun q4 => if q4.1 = 0 then (hb_66_18 q4.2) else (hb_66_19 (nI 1) q4.2))))
set_option maxHeartbeats 1000000 in
theorem hc_66 {S : hs_S} {D : Nat} {Q : hs_Q} (hD : 3 ≤ D)  {h : hs_H} {r : Int32 × hs_H} (e : hf_66 h = some r) (q : Q (some (hs_i r.1)) r.2) : hs_call hs_ms S D 66 [hs_r 6 0] h Q := by
  refine hs_go (R := 2) hD rfl (Nat.le_of_ble_eq_true rfl) (fun d hd => ?_)
  show hs_W S d 2 hs_p66 Q 0 [hs_r 6 0] [] h
  unfold hf_66 at e
  obtain ⟨q1, eq1, e⟩ := hs_bind_some e
  try dsimp only at e
  refine hs_wc 2 (y := 69) (a := [hs_r 6 0]) (v := some (hs_i q1.1)) (pc' := 4) (ls' := [hs_r 6 0]) (st' := []) (h' := h) (h2 := q1.2) (fun n w => w) (fun q => hc_69 (by omega) eq1 q) ?_
  refine hs_wb 1 (c := q1.1 = 0) (t := 18) (f := 7) (ls' := [hs_r 6 0]) (st' := []) (h' := q1.2) (fun n w => w) (fun b2 => ?_) (fun b2 => ?_)
  · rw [if_pos b2] at e
    exact hw_66_18 hd e q
  · rw [if_neg b2] at e
    obtain ⟨q4, eq4, e⟩ := hs_bind_some e
    try dsimp only at e
    refine hs_wc 2 (y := 67) (a := [hs_r 6 0]) (v := some (hs_i q4.1)) (pc' := 11) (ls' := [hs_r 6 0]) (st' := []) (h' := q1.2) (h2 := q4.2) (fun n w => w) (fun q => hc_67 (by omega) eq4 q) ?_
    refine hs_wb 1 (c := q4.1 = 0) (t := 18) (f := 14) (ls' := [hs_r 6 0]) (st' := []) (h' := q4.2) (fun n w => w) (fun b5 => ?_) (fun b5 => ?_)
    · rw [if_pos b5] at e
      exact hw_66_18 hd e q
    · rw [if_neg b5] at e
      refine hs_w 2 (pc' := 19) (ls' := [hs_r 6 0]) (st' := [hs_i (nI 1)]) (h' := q4.2) (fun n w => w) ?_
      exact hw_66_19 hd e q
/-- HuntedScent$Notes.add(III)Z -/
def hf_46 (o : Nat) (a1 : Int32) (a2 : Int32) (a3 : Int32) (h : hs_H) : Option (Int32 × hs_H) := if (h.1 5 o 3) < (nI 10) then (hs_ck (hs_inb (h.1 5 o 3) 10) (hs_ck (hs_inb ((hs_put h 28 o (h.1 5 o 3).toNatClampNeg a1).1 5 o 3) 10) (hs_ck (hs_inb ((hs_put (hs_put h 28 o (h.1 5 o 3).toNatClampNeg a1) 29 o ((hs_put h 28 o (h.1 5 o 3).toNatClampNeg a1).1 5 o 3).toNatClampNeg a2).1 5 o 3) 10) (some (nI 1, hs_put (hs_put (hs_put (hs_put (hs_put h 28 o (h.1 5 o 3).toNatClampNeg a1) 29 o ((hs_put h 28 o (h.1 5 o 3).toNatClampNeg a1).1 5 o 3).toNatClampNeg a2) 30 o ((hs_put (hs_put h 28 o (h.1 5 o 3).toNatClampNeg a1) 29 o ((hs_put h 28 o (h.1 5 o 3).toNatClampNeg a1).1 5 o 3).toNatClampNeg a2).1 5 o 3).toNatClampNeg a3) 5 o 3 (((hs_put (hs_put (hs_put h 28 o (h.1 5 o 3).toNatClampNeg a1) 29 o ((hs_put h 28 o (h.1 5 o 3).toNatClampNeg a1).1 5 o 3).toNatClampNeg a2) 30 o ((hs_put (hs_put h 28 o (h.1 5 o 3).toNatClampNeg a1) 29 o ((hs_put h 28 o (h.1 5 o 3).toNatClampNeg a1).1 5 o 3).toNatClampNeg a2).1 5 o 3).toNatClampNeg a3).1 5 o 3) + (nI 1))) 5 o 4 (((hs_put (hs_put (hs_put (hs_put h 28 o (h.1 5 o 3).toNatClampNeg a1) 29 o ((hs_put h 28 o (h.1 5 o 3).toNatClampNeg a1).1 5 o 3).toNatClampNeg a2) 30 o ((hs_put (hs_put h 28 o (h.1 5 o 3).toNatClampNeg a1) 29 o ((hs_put h 28 o (h.1 5 o 3).toNatClampNeg a1).1 5 o 3).toNatClampNeg a2).1 5 o 3).toNatClampNeg a3) 5 o 3 (((hs_put (hs_put (hs_put h 28 o (h.1 5 o 3).toNatClampNeg a1) 29 o ((hs_put h 28 o (h.1 5 o 3).toNatClampNeg a1).1 5 o 3).toNatClampNeg a2) 30 o ((hs_put (hs_put h 28 o (h.1 5 o 3).toNatClampNeg a1) 29 o ((hs_put h 28 o (h.1 5 o 3).toNatClampNeg a1).1 5 o 3).toNatClampNeg a2).1 5 o 3).toNatClampNeg a3).1 5 o 3) + (nI 1))).1 5 o 4) + (nI 1))))))) else (some (nI 0, h))
set_option maxHeartbeats 1000000 in
theorem hc_46 {S : hs_S} {D : Nat} {Q : hs_Q} (hD : 1 ≤ D) {o : Nat} {a1 : Int32} {a2 : Int32} {a3 : Int32} {h : hs_H} {r : Int32 × hs_H} (e : hf_46 o a1 a2 a3 h = some r) (q : Q (some (hs_i r.1)) r.2) : hs_call hs_ms S D 46 [hs_r 5 o, hs_i a1, hs_i a2, hs_i a3] h Q := by
  refine hs_go (R := 0) hD rfl (Nat.le_of_ble_eq_true rfl) (fun d hd => ?_)
  show hs_W S d 2 hs_p46 Q 0 [hs_r 5 o, hs_i a1, hs_i a2, hs_i a3] [] h
  unfold hf_46 at e
  refine hs_wb 4 (c := (h.1 5 o 3) < (nI 10)) (t := 11) (f := 9) (ls' := [hs_r 5 o, hs_i a1, hs_i a2, hs_i a3]) (st' := []) (h' := h) (fun n w => w) (fun b1 => ?_) (fun b1 => ?_)
  · rw [if_pos b1] at e
    obtain ⟨c2, e⟩ := hs_ck_some e
    refine hs_wa 6 (c := vp_in (h.1 5 o 3) 10) (pc' := 21) (ls' := [hs_r 5 o, hs_i a1, hs_i a2, hs_i a3]) (st' := []) (h' := hs_put h 28 o (h.1 5 o 3).toNatClampNeg a1) (fun n w => w) (hs_inb_iff.mp c2) ?_
    obtain ⟨c3, e⟩ := hs_ck_some e
    refine hs_wa 6 (c := vp_in ((hs_put h 28 o (h.1 5 o 3).toNatClampNeg a1).1 5 o 3) 10) (pc' := 31) (ls' := [hs_r 5 o, hs_i a1, hs_i a2, hs_i a3]) (st' := []) (h' := hs_put (hs_put h 28 o (h.1 5 o 3).toNatClampNeg a1) 29 o ((hs_put h 28 o (h.1 5 o 3).toNatClampNeg a1).1 5 o 3).toNatClampNeg a2) (fun n w => w) (hs_inb_iff.mp c3) ?_
    obtain ⟨c4, e⟩ := hs_ck_some e
    refine hs_wa 6 (c := vp_in ((hs_put (hs_put h 28 o (h.1 5 o 3).toNatClampNeg a1) 29 o ((hs_put h 28 o (h.1 5 o 3).toNatClampNeg a1).1 5 o 3).toNatClampNeg a2).1 5 o 3) 10) (pc' := 41) (ls' := [hs_r 5 o, hs_i a1, hs_i a2, hs_i a3]) (st' := []) (h' := hs_put (hs_put (hs_put h 28 o (h.1 5 o 3).toNatClampNeg a1) 29 o ((hs_put h 28 o (h.1 5 o 3).toNatClampNeg a1).1 5 o 3).toNatClampNeg a2) 30 o ((hs_put (hs_put h 28 o (h.1 5 o 3).toNatClampNeg a1) 29 o ((hs_put h 28 o (h.1 5 o 3).toNatClampNeg a1).1 5 o 3).toNatClampNeg a2).1 5 o 3).toNatClampNeg a3) (fun n w => w) (hs_inb_iff.mp c4) ?_
    obtain rfl := Option.some.inj e
    exact hs_wra 14 (c := nI 1 = 0 ∨ nI 1 = 1) (v := some (hs_i (nI 1))) (h' := hs_put (hs_put (hs_put (hs_put (hs_put h 28 o (h.1 5 o 3).toNatClampNeg a1) 29 o ((hs_put h 28 o (h.1 5 o 3).toNatClampNeg a1).1 5 o 3).toNatClampNeg a2) 30 o ((hs_put (hs_put h 28 o (h.1 5 o 3).toNatClampNeg a1) 29 o ((hs_put h 28 o (h.1 5 o 3).toNatClampNeg a1).1 5 o 3).toNatClampNeg a2).1 5 o 3).toNatClampNeg a3) 5 o 3 (((hs_put (hs_put (hs_put h 28 o (h.1 5 o 3).toNatClampNeg a1) 29 o ((hs_put h 28 o (h.1 5 o 3).toNatClampNeg a1).1 5 o 3).toNatClampNeg a2) 30 o ((hs_put (hs_put h 28 o (h.1 5 o 3).toNatClampNeg a1) 29 o ((hs_put h 28 o (h.1 5 o 3).toNatClampNeg a1).1 5 o 3).toNatClampNeg a2).1 5 o 3).toNatClampNeg a3).1 5 o 3) + (nI 1))) 5 o 4 (((hs_put (hs_put (hs_put (hs_put h 28 o (h.1 5 o 3).toNatClampNeg a1) 29 o ((hs_put h 28 o (h.1 5 o 3).toNatClampNeg a1).1 5 o 3).toNatClampNeg a2) 30 o ((hs_put (hs_put h 28 o (h.1 5 o 3).toNatClampNeg a1) 29 o ((hs_put h 28 o (h.1 5 o 3).toNatClampNeg a1).1 5 o 3).toNatClampNeg a2).1 5 o 3).toNatClampNeg a3) 5 o 3 (((hs_put (hs_put (hs_put h 28 o (h.1 5 o 3).toNatClampNeg a1) 29 o ((hs_put h 28 o (h.1 5 o 3).toNatClampNeg a1).1 5 o 3).toNatClampNeg a2) 30 o ((hs_put (hs_put h 28 o (h.1 5 o 3).toNatClampNeg a1) 29 o ((hs_put h 28 o (h.1 5 o 3).toNatClampNeg a1).1 5 o 3).toNatClampNeg a2).1 5 o 3).toNatClampNeg a3).1 5 o 3) + (nI 1))).1 5 o 4) + (nI 1))) (fun n w => w) (by decide) q
  · rw [if_neg b1] at e
    obtain rfl := Option.some.inj e
    exact hs_wra 2 (c := nI 0 = 0 ∨ nI 0 = 1) (v := some (hs_i (nI 0))) (h' := h) (fun n w => w) (by decide) q
def hb_68_32    (s0 : Int32) (h : hs_H) : Option (Int32 × hs_H) := hs_ck (hs_b01 s0) (some (s0, h))
set_option maxHeartbeats 1000000 in
theorem hw_68_32 {S : hs_S} {d : Nat} {Q : hs_Q} (hd : 2 ≤ d)     {s0 : Int32}  {h : hs_H} {r : Int32 × hs_H} (e : hb_68_32 s0 h = some r) (q : Q (some (hs_i r.1)) r.2) : hs_W S d 2 hs_p68 Q 32 [hs_r 6 0] [hs_i s0] h := by
  unfold hb_68_32 at e
  obtain ⟨c3, e⟩ := hs_ck_some e
  obtain rfl := Option.some.inj e
  exact hs_wra 1 (c := s0 = 0 ∨ s0 = 1) (v := some (hs_i s0)) (h' := h) (fun n w => w) (hs_b01_iff.mp c3) q
def hb_68_31     (h : hs_H) : Option (Int32 × hs_H) := hb_68_32 (nI 0) h
set_option maxHeartbeats 1000000 in
theorem hw_68_31 {S : hs_S} {d : Nat} {Q : hs_Q} (hd : 2 ≤ d)       {h : hs_H} {r : Int32 × hs_H} (e : hb_68_31 h = some r) (q : Q (some (hs_i r.1)) r.2) : hs_W S d 2 hs_p68 Q 31 [hs_r 6 0] [] h := by
  unfold hb_68_31 at e
  refine hs_w 1 (pc' := 32) (ls' := [hs_r 6 0]) (st' := [hs_i (nI 0)]) (h' := h) (fun n w => w) ?_
  exact hw_68_32 hd e q
def hb_68_27     (h : hs_H) : Option (Int32 × hs_H) := hb_68_32 (nI 1) h
set_option maxHeartbeats 1000000 in
theorem hw_68_27 {S : hs_S} {d : Nat} {Q : hs_Q} (hd : 2 ≤ d)       {h : hs_H} {r : Int32 × hs_H} (e : hb_68_27 h = some r) (q : Q (some (hs_i r.1)) r.2) : hs_W S d 2 hs_p68 Q 27 [hs_r 6 0] [] h := by
  unfold hb_68_27 at e
  refine hs_w 2 (pc' := 32) (ls' := [hs_r 6 0]) (st' := [hs_i (nI 1)]) (h' := h) (fun n w => w) ?_
  exact hw_68_32 hd e q
/-- HuntedScent$Reader.takeSign()Z -/
def hf_68  (h : hs_H) : Option (Int32 × hs_H) := (hf_69 h).bind (fun q1 => if q1.1 = 0 then (hb_68_31 q1.2) else (if (q1.2.1 6 0 5) = (nI 3) then (hb_68_27 q1.2) else ((hf_54 (nI 2) (q1.2.1 6 0 6) q1.2).bind (fun q5 => if q5.1 = 0 then (hb_68_31 q5.2) else (hb_68_27 q5.2)))))
set_option maxHeartbeats 1000000 in
theorem hc_68 {S : hs_S} {D : Nat} {Q : hs_Q} (hD : 3 ≤ D)  {h : hs_H} {r : Int32 × hs_H} (e : hf_68 h = some r) (q : Q (some (hs_i r.1)) r.2) : hs_call hs_ms S D 68 [hs_r 6 0] h Q := by
  refine hs_go (R := 2) hD rfl (Nat.le_of_ble_eq_true rfl) (fun d hd => ?_)
  show hs_W S d 2 hs_p68 Q 0 [hs_r 6 0] [] h
  unfold hf_68 at e
  obtain ⟨q1, eq1, e⟩ := hs_bind_some e
  try dsimp only at e
  refine hs_wc 2 (y := 69) (a := [hs_r 6 0]) (v := some (hs_i q1.1)) (pc' := 4) (ls' := [hs_r 6 0]) (st' := []) (h' := h) (h2 := q1.2) (fun n w => w) (fun q => hc_69 (by omega) eq1 q) ?_
  refine hs_wb 1 (c := q1.1 = 0) (t := 31) (f := 7) (ls' := [hs_r 6 0]) (st' := []) (h' := q1.2) (fun n w => w) (fun b2 => ?_) (fun b2 => ?_)
  · rw [if_pos b2] at e
    exact hw_68_31 hd e q
  · rw [if_neg b2] at e
    refine hs_wb 4 (c := (q1.2.1 6 0 5) = (nI 3)) (t := 27) (f := 15) (ls' := [hs_r 6 0]) (st' := []) (h' := q1.2) (fun n w => w) (fun b4 => ?_) (fun b4 => ?_)
    · rw [if_pos b4] at e
      exact hw_68_27 hd e q
    · rw [if_neg b4] at e
      obtain ⟨q5, eq5, e⟩ := hs_bind_some e
      try dsimp only at e
      refine hs_wc 5 (y := 54) (a := [hs_r 6 0, hs_i (nI 2), hs_i (q1.2.1 6 0 6)]) (v := some (hs_i q5.1)) (pc' := 24) (ls' := [hs_r 6 0]) (st' := []) (h' := q1.2) (h2 := q5.2) (fun n w => w) (fun q => hc_54 (by omega) eq5 q) ?_
      refine hs_wb 1 (c := q5.1 = 0) (t := 31) (f := 27) (ls' := [hs_r 6 0]) (st' := []) (h' := q5.2) (fun n w => w) (fun b6 => ?_) (fun b6 => ?_)
      · rw [if_pos b6] at e
        exact hw_68_31 hd e q
      · rw [if_neg b6] at e
        exact hw_68_27 hd e q
def hb_62_90    (s0 : Int32) (h : hs_H) : Option (Int32 × hs_H) := hs_ck (hs_b01 s0) (some (s0, h))
set_option maxHeartbeats 1000000 in
theorem hw_62_90 {S : hs_S} {d : Nat} {Q : hs_Q} (hd : 3 ≤ d)     {s0 : Int32} {v1 : hs_V} {v2 : hs_V} {h : hs_H} {r : Int32 × hs_H} (e : hb_62_90 s0 h = some r) (q : Q (some (hs_i r.1)) r.2) : hs_W S d 2 hs_p62 Q 90 [hs_r 6 0, v1, v2] [hs_i s0] h := by
  unfold hb_62_90 at e
  obtain ⟨c8, e⟩ := hs_ck_some e
  obtain rfl := Option.some.inj e
  exact hs_wra 1 (c := s0 = 0 ∨ s0 = 1) (v := some (hs_i s0)) (h' := h) (fun n w => w) (hs_b01_iff.mp c8) q
def hb_62_89     (h : hs_H) : Option (Int32 × hs_H) := hb_62_90 (nI 0) h
set_option maxHeartbeats 1000000 in
theorem hw_62_89 {S : hs_S} {d : Nat} {Q : hs_Q} (hd : 3 ≤ d)      {v1 : hs_V} {v2 : hs_V} {h : hs_H} {r : Int32 × hs_H} (e : hb_62_89 h = some r) (q : Q (some (hs_i r.1)) r.2) : hs_W S d 2 hs_p62 Q 89 [hs_r 6 0, v1, v2] [] h := by
  unfold hb_62_89 at e
  refine hs_w 1 (pc' := 90) (ls' := [hs_r 6 0, v1, v2]) (st' := [hs_i (nI 0)]) (h' := h) (fun n w => w) ?_
  exact hw_62_90 hd e q
/-- HuntedScent$Reader.takeSmelt()Z -/
def hf_62  (h : hs_H) : Option (Int32 × hs_H) := if (h.1 5 1 3) < (nI 10) then ((hf_64 (nI 0) (nI 5) h).bind (fun q2 => if ¬ q2.1 = 0 then ((hf_66 q2.2).bind (fun q4 => if ¬ q4.1 = 0 then ((hf_64 (nI 0) (nI 18) q4.2).bind (fun q6 => if q6.1 = 0 then (hb_62_89 q6.2) else ((hf_46 1 (q2.2.1 6 0 7) (q4.2.1 6 0 7) (q6.2.1 6 0 7) q6.2).bind (fun q9 => if q9.1 = 0 then (hb_62_89 q9.2) else ((hf_68 q9.2).bind (fun q11 => if q11.1 = 0 then (hb_62_89 q11.2) else (hb_62_90 (nI 1) q11.2))))))) else (some (nI 0, q4.2)))) else (some (nI 0, q2.2)))) else ((hf_54 (nI 5) (h.1 6 0 6) h).bind (fun q13 => hs_ck (hs_b01 q13.1) (some (q13.1, q13.2))))
set_option maxHeartbeats 1000000 in
theorem hc_62 {S : hs_S} {D : Nat} {Q : hs_Q} (hD : 4 ≤ D)  {h : hs_H} {r : Int32 × hs_H} (e : hf_62 h = some r) (q : Q (some (hs_i r.1)) r.2) : hs_call hs_ms S D 62 [hs_r 6 0] h Q := by
  refine hs_go (R := 3) hD rfl (Nat.le_of_ble_eq_true rfl) (fun d hd => ?_)
  show hs_W S d 2 hs_p62 Q 0 [hs_r 6 0, hs_u, hs_u] [] h
  unfold hf_62 at e
  refine hs_wb 5 (c := (h.1 5 1 3) < (nI 10)) (t := 22) (f := 12) (ls' := [hs_r 6 0, hs_u, hs_u]) (st' := []) (h' := h) (fun n w => w) (fun b1 => ?_) (fun b1 => ?_)
  · rw [if_pos b1] at e
    obtain ⟨q2, eq2, e⟩ := hs_bind_some e
    try dsimp only at e
    refine hs_wc 4 (y := 64) (a := [hs_r 6 0, hs_i (nI 0), hs_i (nI 5)]) (v := some (hs_i q2.1)) (pc' := 28) (ls' := [hs_r 6 0, hs_u, hs_u]) (st' := []) (h' := h) (h2 := q2.2) (fun n w => w) (fun q => hc_64 (by omega) eq2 q) ?_
    refine hs_wb 1 (c := ¬ q2.1 = 0) (t := 33) (f := 31) (ls' := [hs_r 6 0, hs_u, hs_u]) (st' := []) (h' := q2.2) (fun n w => w) (fun b3 => ?_) (fun b3 => ?_)
    · rw [if_pos b3] at e
      obtain ⟨q4, eq4, e⟩ := hs_bind_some e
      try dsimp only at e
      refine hs_wc 5 (y := 66) (a := [hs_r 6 0]) (v := some (hs_i q4.1)) (pc' := 42) (ls' := [hs_r 6 0, hs_i (q2.2.1 6 0 7), hs_u]) (st' := []) (h' := q2.2) (h2 := q4.2) (fun n w => w) (fun q => hc_66 (by omega) eq4 q) ?_
      refine hs_wb 1 (c := ¬ q4.1 = 0) (t := 47) (f := 45) (ls' := [hs_r 6 0, hs_i (q2.2.1 6 0 7), hs_u]) (st' := []) (h' := q4.2) (fun n w => w) (fun b5 => ?_) (fun b5 => ?_)
      · rw [if_pos b5] at e
        obtain ⟨q6, eq6, e⟩ := hs_bind_some e
        try dsimp only at e
        refine hs_wc 7 (y := 64) (a := [hs_r 6 0, hs_i (nI 0), hs_i (nI 18)]) (v := some (hs_i q6.1)) (pc' := 59) (ls' := [hs_r 6 0, hs_i (q2.2.1 6 0 7), hs_i (q4.2.1 6 0 7)]) (st' := []) (h' := q4.2) (h2 := q6.2) (fun n w => w) (fun q => hc_64 (by omega) eq6 q) ?_
        refine hs_wb 1 (c := q6.1 = 0) (t := 89) (f := 62) (ls' := [hs_r 6 0, hs_i (q2.2.1 6 0 7), hs_i (q4.2.1 6 0 7)]) (st' := []) (h' := q6.2) (fun n w => w) (fun b7 => ?_) (fun b7 => ?_)
        · rw [if_pos b7] at e
          exact hw_62_89 hd e q
        · rw [if_neg b7] at e
          obtain ⟨q9, eq9, e⟩ := hs_bind_some e
          try dsimp only at e
          refine hs_wc 7 (y := 46) (a := [hs_r 5 1, hs_i (q2.2.1 6 0 7), hs_i (q4.2.1 6 0 7), hs_i (q6.2.1 6 0 7)]) (v := some (hs_i q9.1)) (pc' := 75) (ls' := [hs_r 6 0, hs_i (q2.2.1 6 0 7), hs_i (q4.2.1 6 0 7)]) (st' := []) (h' := q6.2) (h2 := q9.2) (fun n w => w) (fun q => hc_46 (by omega) eq9 q) ?_
          refine hs_wb 1 (c := q9.1 = 0) (t := 89) (f := 78) (ls' := [hs_r 6 0, hs_i (q2.2.1 6 0 7), hs_i (q4.2.1 6 0 7)]) (st' := []) (h' := q9.2) (fun n w => w) (fun b10 => ?_) (fun b10 => ?_)
          · rw [if_pos b10] at e
            exact hw_62_89 hd e q
          · rw [if_neg b10] at e
            obtain ⟨q11, eq11, e⟩ := hs_bind_some e
            try dsimp only at e
            refine hs_wc 2 (y := 68) (a := [hs_r 6 0]) (v := some (hs_i q11.1)) (pc' := 82) (ls' := [hs_r 6 0, hs_i (q2.2.1 6 0 7), hs_i (q4.2.1 6 0 7)]) (st' := []) (h' := q9.2) (h2 := q11.2) (fun n w => w) (fun q => hc_68 (by omega) eq11 q) ?_
            refine hs_wb 1 (c := q11.1 = 0) (t := 89) (f := 85) (ls' := [hs_r 6 0, hs_i (q2.2.1 6 0 7), hs_i (q4.2.1 6 0 7)]) (st' := []) (h' := q11.2) (fun n w => w) (fun b12 => ?_) (fun b12 => ?_)
            · rw [if_pos b12] at e
              exact hw_62_89 hd e q
            · rw [if_neg b12] at e
              refine hs_w 2 (pc' := 90) (ls' := [hs_r 6 0, hs_i (q2.2.1 6 0 7), hs_i (q4.2.1 6 0 7)]) (st' := [hs_i (nI 1)]) (h' := q11.2) (fun n w => w) ?_
              exact hw_62_90 hd e q
      · rw [if_neg b5] at e
        obtain rfl := Option.some.inj e
        exact hs_wra 2 (c := nI 0 = 0 ∨ nI 0 = 1) (v := some (hs_i (nI 0))) (h' := q4.2) (fun n w => w) (by decide) q
    · rw [if_neg b3] at e
      obtain rfl := Option.some.inj e
      exact hs_wra 2 (c := nI 0 = 0 ∨ nI 0 = 1) (v := some (hs_i (nI 0))) (h' := q2.2) (fun n w => w) (by decide) q
  · rw [if_neg b1] at e
    obtain ⟨q13, eq13, e⟩ := hs_bind_some e
    try dsimp only at e
    refine hs_wc 5 (y := 54) (a := [hs_r 6 0, hs_i (nI 5), hs_i (h.1 6 0 6)]) (v := some (hs_i q13.1)) (pc' := 21) (ls' := [hs_r 6 0, hs_u, hs_u]) (st' := []) (h' := h) (h2 := q13.2) (fun n w => w) (fun q => hc_54 (by omega) eq13 q) ?_
    obtain ⟨c14, e⟩ := hs_ck_some e
    obtain rfl := Option.some.inj e
    exact hs_wra 1 (c := q13.1 = 0 ∨ q13.1 = 1) (v := some (hs_i q13.1)) (h' := q13.2) (fun n w => w) (hs_b01_iff.mp c14) q
def hb_147_13    (s0 : Int32) (h : hs_H) : Option (Int32 × hs_H) := hs_ck (hs_b01 s0) (some (s0, h))
set_option maxHeartbeats 1000000 in
theorem hw_147_13 {S : hs_S} {d : Nat} {Q : hs_Q} (hd : 0 ≤ d)     {s0 : Int32} {v0 : hs_V} {v1 : hs_V} {h : hs_H} {r : Int32 × hs_H} (e : hb_147_13 s0 h = some r) (q : Q (some (hs_i r.1)) r.2) : hs_W S d 2 hs_p147 Q 13 [v0, v1] [hs_i s0] h := by
  unfold hb_147_13 at e
  obtain ⟨c2, e⟩ := hs_ck_some e
  obtain rfl := Option.some.inj e
  exact hs_wra 1 (c := s0 = 0 ∨ s0 = 1) (v := some (hs_i s0)) (h' := h) (fun n w => w) (hs_b01_iff.mp c2) q
/-- HuntedScent.isIn(II)Z -/
def hf_147 (a0 : Int32) (a1 : Int32) (h : hs_H) : Option (Int32 × hs_H) := if ((a0 >>> (a1 &&& 31)) &&& (nI 1)) = 0 then (hb_147_13 (nI 0) h) else (hb_147_13 (nI 1) h)
set_option maxHeartbeats 1000000 in
theorem hc_147 {S : hs_S} {D : Nat} {Q : hs_Q} (hD : 1 ≤ D) {a0 : Int32} {a1 : Int32} {h : hs_H} {r : Int32 × hs_H} (e : hf_147 a0 a1 h = some r) (q : Q (some (hs_i r.1)) r.2) : hs_call hs_ms S D 147 [hs_i a0, hs_i a1] h Q := by
  refine hs_go (R := 0) hD rfl (Nat.le_of_ble_eq_true rfl) (fun d hd => ?_)
  show hs_W S d 2 hs_p147 Q 0 [hs_i a0, hs_i a1] [] h
  unfold hf_147 at e
  refine hs_wb 6 (c := ((a0 >>> (a1 &&& 31)) &&& (nI 1)) = 0) (t := 12) (f := 8) (ls' := [hs_i a0, hs_i a1]) (st' := []) (h' := h) (fun n w => w) (fun b1 => ?_) (fun b1 => ?_)
  · rw [if_pos b1] at e
    refine hs_w 1 (pc' := 13) (ls' := [hs_i a0, hs_i a1]) (st' := [hs_i (nI 0)]) (h' := h) (fun n w => w) ?_
    exact hw_147_13 hd e q
  · rw [if_neg b1] at e
    refine hs_w 2 (pc' := 13) (ls' := [hs_i a0, hs_i a1]) (st' := [hs_i (nI 1)]) (h' := h) (fun n w => w) ?_
    exact hw_147_13 hd e q
/-- HuntedScent$Reader.takeHole()Z -/
def hf_61  (h : hs_H) : Option (Int32 × hs_H) := (hf_66 h).bind (fun q1 => if ¬ q1.1 = 0 then ((hf_147 (q1.2.1 4 1 5) (q1.2.1 6 0 7) q1.2).bind (fun q3 => if q3.1 = 0 then ((hf_68 (hs_put q3.2 4 1 5 ((q3.2.1 4 1 5) ||| ((nI 1) <<< ((q3.2.1 6 0 7) &&& 31))))).bind (fun q5 => hs_ck (hs_b01 q5.1) (some (q5.1, q5.2)))) else ((hf_54 (nI 4) (q3.2.1 6 0 6) q3.2).bind (fun q7 => hs_ck (hs_b01 q7.1) (some (q7.1, q7.2)))))) else (some (nI 0, q1.2)))
set_option maxHeartbeats 1000000 in
theorem hc_61 {S : hs_S} {D : Nat} {Q : hs_Q} (hD : 4 ≤ D)  {h : hs_H} {r : Int32 × hs_H} (e : hf_61 h = some r) (q : Q (some (hs_i r.1)) r.2) : hs_call hs_ms S D 61 [hs_r 6 0] h Q := by
  refine hs_go (R := 3) hD rfl (Nat.le_of_ble_eq_true rfl) (fun d hd => ?_)
  show hs_W S d 2 hs_p61 Q 0 [hs_r 6 0] [] h
  unfold hf_61 at e
  obtain ⟨q1, eq1, e⟩ := hs_bind_some e
  try dsimp only at e
  refine hs_wc 2 (y := 66) (a := [hs_r 6 0]) (v := some (hs_i q1.1)) (pc' := 4) (ls' := [hs_r 6 0]) (st' := []) (h' := h) (h2 := q1.2) (fun n w => w) (fun q => hc_66 (by omega) eq1 q) ?_
  refine hs_wb 1 (c := ¬ q1.1 = 0) (t := 9) (f := 7) (ls' := [hs_r 6 0]) (st' := []) (h' := q1.2) (fun n w => w) (fun b2 => ?_) (fun b2 => ?_)
  · rw [if_pos b2] at e
    obtain ⟨q3, eq3, e⟩ := hs_bind_some e
    try dsimp only at e
    refine hs_wc 6 (y := 147) (a := [hs_i (q1.2.1 4 1 5), hs_i (q1.2.1 6 0 7)]) (v := some (hs_i q3.1)) (pc' := 23) (ls' := [hs_r 6 0]) (st' := []) (h' := q1.2) (h2 := q3.2) (fun n w => w) (fun q => hc_147 (by omega) eq3 q) ?_
    refine hs_wb 1 (c := q3.1 = 0) (t := 36) (f := 26) (ls' := [hs_r 6 0]) (st' := []) (h' := q3.2) (fun n w => w) (fun b4 => ?_) (fun b4 => ?_)
    · rw [if_pos b4] at e
      obtain ⟨q5, eq5, e⟩ := hs_bind_some e
      try dsimp only at e
      refine hs_wc 12 (y := 68) (a := [hs_r 6 0]) (v := some (hs_i q5.1)) (pc' := 58) (ls' := [hs_r 6 0]) (st' := []) (h' := hs_put q3.2 4 1 5 ((q3.2.1 4 1 5) ||| ((nI 1) <<< ((q3.2.1 6 0 7) &&& 31)))) (h2 := q5.2) (fun n w => w) (fun q => hc_68 (by omega) eq5 q) ?_
      obtain ⟨c6, e⟩ := hs_ck_some e
      obtain rfl := Option.some.inj e
      exact hs_wra 1 (c := q5.1 = 0 ∨ q5.1 = 1) (v := some (hs_i q5.1)) (h' := q5.2) (fun n w => w) (hs_b01_iff.mp c6) q
    · rw [if_neg b4] at e
      obtain ⟨q7, eq7, e⟩ := hs_bind_some e
      try dsimp only at e
      refine hs_wc 5 (y := 54) (a := [hs_r 6 0, hs_i (nI 4), hs_i (q3.2.1 6 0 6)]) (v := some (hs_i q7.1)) (pc' := 35) (ls' := [hs_r 6 0]) (st' := []) (h' := q3.2) (h2 := q7.2) (fun n w => w) (fun q => hc_54 (by omega) eq7 q) ?_
      obtain ⟨c8, e⟩ := hs_ck_some e
      obtain rfl := Option.some.inj e
      exact hs_wra 1 (c := q7.1 = 0 ∨ q7.1 = 1) (v := some (hs_i q7.1)) (h' := q7.2) (fun n w => w) (hs_b01_iff.mp c8) q
  · rw [if_neg b2] at e
    obtain rfl := Option.some.inj e
    exact hs_wra 2 (c := nI 0 = 0 ∨ nI 0 = 1) (v := some (hs_i (nI 0))) (h' := q1.2) (fun n w => w) (by decide) q
/-- HuntedScent$Reader.takeWater()Z -/
def hf_60  (h : hs_H) : Option (Int32 × hs_H) := (hf_66 h).bind (fun q1 => if ¬ q1.1 = 0 then ((hf_147 (q1.2.1 4 1 4) (q1.2.1 6 0 7) q1.2).bind (fun q3 => if q3.1 = 0 then ((hf_68 (hs_put q3.2 4 1 4 ((q3.2.1 4 1 4) ||| ((nI 1) <<< ((q3.2.1 6 0 7) &&& 31))))).bind (fun q5 => hs_ck (hs_b01 q5.1) (some (q5.1, q5.2)))) else ((hf_54 (nI 4) (q3.2.1 6 0 6) q3.2).bind (fun q7 => hs_ck (hs_b01 q7.1) (some (q7.1, q7.2)))))) else (some (nI 0, q1.2)))
set_option maxHeartbeats 1000000 in
theorem hc_60 {S : hs_S} {D : Nat} {Q : hs_Q} (hD : 4 ≤ D)  {h : hs_H} {r : Int32 × hs_H} (e : hf_60 h = some r) (q : Q (some (hs_i r.1)) r.2) : hs_call hs_ms S D 60 [hs_r 6 0] h Q := by
  refine hs_go (R := 3) hD rfl (Nat.le_of_ble_eq_true rfl) (fun d hd => ?_)
  show hs_W S d 2 hs_p60 Q 0 [hs_r 6 0] [] h
  unfold hf_60 at e
  obtain ⟨q1, eq1, e⟩ := hs_bind_some e
  try dsimp only at e
  refine hs_wc 2 (y := 66) (a := [hs_r 6 0]) (v := some (hs_i q1.1)) (pc' := 4) (ls' := [hs_r 6 0]) (st' := []) (h' := h) (h2 := q1.2) (fun n w => w) (fun q => hc_66 (by omega) eq1 q) ?_
  refine hs_wb 1 (c := ¬ q1.1 = 0) (t := 9) (f := 7) (ls' := [hs_r 6 0]) (st' := []) (h' := q1.2) (fun n w => w) (fun b2 => ?_) (fun b2 => ?_)
  · rw [if_pos b2] at e
    obtain ⟨q3, eq3, e⟩ := hs_bind_some e
    try dsimp only at e
    refine hs_wc 6 (y := 147) (a := [hs_i (q1.2.1 4 1 4), hs_i (q1.2.1 6 0 7)]) (v := some (hs_i q3.1)) (pc' := 23) (ls' := [hs_r 6 0]) (st' := []) (h' := q1.2) (h2 := q3.2) (fun n w => w) (fun q => hc_147 (by omega) eq3 q) ?_
    refine hs_wb 1 (c := q3.1 = 0) (t := 36) (f := 26) (ls' := [hs_r 6 0]) (st' := []) (h' := q3.2) (fun n w => w) (fun b4 => ?_) (fun b4 => ?_)
    · rw [if_pos b4] at e
      obtain ⟨q5, eq5, e⟩ := hs_bind_some e
      try dsimp only at e
      refine hs_wc 12 (y := 68) (a := [hs_r 6 0]) (v := some (hs_i q5.1)) (pc' := 58) (ls' := [hs_r 6 0]) (st' := []) (h' := hs_put q3.2 4 1 4 ((q3.2.1 4 1 4) ||| ((nI 1) <<< ((q3.2.1 6 0 7) &&& 31)))) (h2 := q5.2) (fun n w => w) (fun q => hc_68 (by omega) eq5 q) ?_
      obtain ⟨c6, e⟩ := hs_ck_some e
      obtain rfl := Option.some.inj e
      exact hs_wra 1 (c := q5.1 = 0 ∨ q5.1 = 1) (v := some (hs_i q5.1)) (h' := q5.2) (fun n w => w) (hs_b01_iff.mp c6) q
    · rw [if_neg b4] at e
      obtain ⟨q7, eq7, e⟩ := hs_bind_some e
      try dsimp only at e
      refine hs_wc 5 (y := 54) (a := [hs_r 6 0, hs_i (nI 4), hs_i (q3.2.1 6 0 6)]) (v := some (hs_i q7.1)) (pc' := 35) (ls' := [hs_r 6 0]) (st' := []) (h' := q3.2) (h2 := q7.2) (fun n w => w) (fun q => hc_54 (by omega) eq7 q) ?_
      obtain ⟨c8, e⟩ := hs_ck_some e
      obtain rfl := Option.some.inj e
      exact hs_wra 1 (c := q7.1 = 0 ∨ q7.1 = 1) (v := some (hs_i q7.1)) (h' := q7.2) (fun n w => w) (hs_b01_iff.mp c8) q
  · rw [if_neg b2] at e
    obtain rfl := Option.some.inj e
    exact hs_wra 2 (c := nI 0 = 0 ∨ nI 0 = 1) (v := some (hs_i (nI 0))) (h' := q1.2) (fun n w => w) (by decide) q
def hb_32_20 (o : Nat)   (s0 : Int32) (h : hs_H) : Option (Int32 × hs_H) := some (s0, h)
set_option maxHeartbeats 1000000 in
theorem hw_32_20 {S : hs_S} {d : Nat} {Q : hs_Q} (hd : 0 ≤ d) {o : Nat}    {s0 : Int32} {v1 : hs_V} {h : hs_H} {r : Int32 × hs_H} (e : hb_32_20 o s0 h = some r) (q : Q (some (hs_i r.1)) r.2) : hs_W S d 1 hs_p32 Q 20 [hs_r 4 o, v1] [hs_i s0] h := by
  unfold hb_32_20 at e
  obtain rfl := Option.some.inj e
  exact hs_wr 1 (v := some (hs_i s0)) (h' := h) (fun n w => w) q
def hb_32_19 (o : Nat)    (h : hs_H) : Option (Int32 × hs_H) := hb_32_20 o (nI 0) h
set_option maxHeartbeats 1000000 in
theorem hw_32_19 {S : hs_S} {d : Nat} {Q : hs_Q} (hd : 0 ≤ d) {o : Nat}     {v1 : hs_V} {h : hs_H} {r : Int32 × hs_H} (e : hb_32_19 o h = some r) (q : Q (some (hs_i r.1)) r.2) : hs_W S d 1 hs_p32 Q 19 [hs_r 4 o, v1] [] h := by
  unfold hb_32_19 at e
  refine hs_w 1 (pc' := 20) (ls' := [hs_r 4 o, v1]) (st' := [hs_i (nI 0)]) (h' := h) (fun n w => w) ?_
  exact hw_32_20 hd e q
/-- HuntedScent$Net.joinedTo(I)I -/
def hf_32 (o : Nat) (a1 : Int32) (h : hs_H) : Option (Int32 × hs_H) := if a1 < 0 then (hb_32_19 o h) else (if (nI 10) ≤ a1 then (hb_32_19 o h) else (hs_ck (hs_inb a1 10) (hb_32_20 o (h.1 27 o a1.toNatClampNeg) h)))
set_option maxHeartbeats 1000000 in
theorem hc_32 {S : hs_S} {D : Nat} {Q : hs_Q} (hD : 1 ≤ D) {o : Nat} {a1 : Int32} {h : hs_H} {r : Int32 × hs_H} (e : hf_32 o a1 h = some r) (q : Q (some (hs_i r.1)) r.2) : hs_call hs_ms S D 32 [hs_r 4 o, hs_i a1] h Q := by
  refine hs_go (R := 0) hD rfl (Nat.le_of_ble_eq_true rfl) (fun d hd => ?_)
  show hs_W S d 1 hs_p32 Q 0 [hs_r 4 o, hs_i a1] [] h
  unfold hf_32 at e
  refine hs_wb 2 (c := a1 < 0) (t := 19) (f := 4) (ls' := [hs_r 4 o, hs_i a1]) (st' := []) (h' := h) (fun n w => w) (fun b1 => ?_) (fun b1 => ?_)
  · rw [if_pos b1] at e
    exact hw_32_19 hd e q
  · rw [if_neg b1] at e
    refine hs_wb 3 (c := (nI 10) ≤ a1) (t := 19) (f := 10) (ls' := [hs_r 4 o, hs_i a1]) (st' := []) (h' := h) (fun n w => w) (fun b2 => ?_) (fun b2 => ?_)
    · rw [if_pos b2] at e
      exact hw_32_19 hd e q
    · rw [if_neg b2] at e
      obtain ⟨c3, e⟩ := hs_ck_some e
      refine hs_wa 4 (c := vp_in a1 10) (pc' := 16) (ls' := [hs_r 4 o, hs_i a1]) (st' := [hs_i (h.1 27 o a1.toNatClampNeg)]) (h' := h) (fun n w => w) (hs_inb_iff.mp c3) ?_
      refine hs_w 1 (pc' := 20) (ls' := [hs_r 4 o, hs_i a1]) (st' := [hs_i (h.1 27 o a1.toNatClampNeg)]) (h' := h) (fun n w => w) ?_
      exact hw_32_20 hd e q
/-- HuntedScent$Net.areJoined(II)Z -/
def hf_33 (o : Nat) (a1 : Int32) (a2 : Int32) (h : hs_H) : Option (Int32 × hs_H) := (hf_32 o a1 h).bind (fun q1 => (hf_147 q1.1 a2 q1.2).bind (fun q2 => hs_ck (hs_b01 q2.1) (some (q2.1, q2.2))))
set_option maxHeartbeats 1000000 in
theorem hc_33 {S : hs_S} {D : Nat} {Q : hs_Q} (hD : 2 ≤ D) {o : Nat} {a1 : Int32} {a2 : Int32} {h : hs_H} {r : Int32 × hs_H} (e : hf_33 o a1 a2 h = some r) (q : Q (some (hs_i r.1)) r.2) : hs_call hs_ms S D 33 [hs_r 4 o, hs_i a1, hs_i a2] h Q := by
  refine hs_go (R := 1) hD rfl (Nat.le_of_ble_eq_true rfl) (fun d hd => ?_)
  show hs_W S d 2 hs_p33 Q 0 [hs_r 4 o, hs_i a1, hs_i a2] [] h
  unfold hf_33 at e
  obtain ⟨q1, eq1, e⟩ := hs_bind_some e
  try dsimp only at e
  refine hs_wc 3 (y := 32) (a := [hs_r 4 o, hs_i a1]) (v := some (hs_i q1.1)) (pc' := 5) (ls' := [hs_r 4 o, hs_i a1, hs_i a2]) (st' := []) (h' := h) (h2 := q1.2) (fun n w => w) (fun q => hc_32 (by omega) eq1 q) ?_
  obtain ⟨q2, eq2, e⟩ := hs_bind_some e
  try dsimp only at e
  refine hs_wc 2 (y := 147) (a := [hs_i q1.1, hs_i a2]) (v := some (hs_i q2.1)) (pc' := 9) (ls' := [hs_r 4 o, hs_i a1, hs_i a2]) (st' := []) (h' := q1.2) (h2 := q2.2) (fun n w => w) (fun q => hc_147 (by omega) eq2 q) ?_
  obtain ⟨c3, e⟩ := hs_ck_some e
  obtain rfl := Option.some.inj e
  exact hs_wra 1 (c := q2.1 = 0 ∨ q2.1 = 1) (v := some (hs_i q2.1)) (h' := q2.2) (fun n w => w) (hs_b01_iff.mp c3) q
def hb_34_20 (o : Nat)    (h : hs_H) : Option (hs_H) := some h
set_option maxHeartbeats 1000000 in
theorem hw_34_20 {S : hs_S} {d : Nat} {Q : hs_Q} (hd : 0 ≤ d) {o : Nat}     {v1 : hs_V} {v2 : hs_V} {v3 : hs_V} {h : hs_H} {r : hs_H} (e : hb_34_20 o h = some r) (q : Q none r) : hs_W S d 0 hs_p34 Q 20 [hs_r 4 o, v1, v2, v3] [] h := by
  unfold hb_34_20 at e
  obtain rfl := Option.some.inj e
  exact hs_wr 1 (v := none) (h' := h) (fun n w => w) q
def hb_34_90 (o : Nat)   (s0 : Int32) (s1 : Int32) (s2 : Nat) (h : hs_H) : Option (hs_H) := hs_ck (hs_inb s1 10) (some (hs_put (hs_put h 27 s2 s1.toNatClampNeg s0) 4 o 6 (((hs_put h 27 s2 s1.toNatClampNeg s0).1 4 o 6) + (nI 1))))
set_option maxHeartbeats 1000000 in
theorem hw_34_90 {S : hs_S} {d : Nat} {Q : hs_Q} (hd : 0 ≤ d) {o : Nat}    {s0 : Int32} {s1 : Int32} {s2 : Nat} {v1 : hs_V} {v2 : hs_V} {v3 : hs_V} {h : hs_H} {r : hs_H} (e : hb_34_90 o s0 s1 s2 h = some r) (q : Q none r) : hs_W S d 0 hs_p34 Q 90 [hs_r 4 o, v1, v2, v3] [hs_i s0, hs_i s1, hs_r 27 s2] h := by
  unfold hb_34_90 at e
  obtain ⟨c10, e⟩ := hs_ck_some e
  refine hs_wa 1 (c := vp_in s1 10) (pc' := 91) (ls' := [hs_r 4 o, v1, v2, v3]) (st' := []) (h' := hs_put h 27 s2 s1.toNatClampNeg s0) (fun n w => w) (hs_inb_iff.mp c10) ?_
  obtain rfl := Option.some.inj e
  exact hs_wr 7 (v := none) (h' := hs_put (hs_put h 27 s2 s1.toNatClampNeg s0) 4 o 6 (((hs_put h 27 s2 s1.toNatClampNeg s0).1 4 o 6) + (nI 1))) (fun n w => w) q
def hb_34_55 (o : Nat)  (x1 : Int32) (x2 : Int32) (x3 : Int32) (s0 : Int32) (s1 : Int32) (s2 : Nat) (h : hs_H) : Option (hs_H) := hs_ck (hs_inb s1 10) (if x3 = 0 then (hs_ck (hs_inb x2 10) (hb_34_90 o (((hs_put h 27 s2 s1.toNatClampNeg s0).1 27 o x2.toNatClampNeg) &&& (((nI 1) <<< (x1 &&& 31)) ^^^ (nI 4294967295))) x2 o (hs_put h 27 s2 s1.toNatClampNeg s0))) else (hs_ck (hs_inb x2 10) (hb_34_90 o (((hs_put h 27 s2 s1.toNatClampNeg s0).1 27 o x2.toNatClampNeg) ||| ((nI 1) <<< (x1 &&& 31))) x2 o (hs_put h 27 s2 s1.toNatClampNeg s0))))
set_option maxHeartbeats 1000000 in
theorem hw_34_55 {S : hs_S} {d : Nat} {Q : hs_Q} (hd : 0 ≤ d) {o : Nat}   {x1 : Int32} {x2 : Int32} {x3 : Int32} {s0 : Int32} {s1 : Int32} {s2 : Nat}  {h : hs_H} {r : hs_H} (e : hb_34_55 o x1 x2 x3 s0 s1 s2 h = some r) (q : Q none r) : hs_W S d 0 hs_p34 Q 55 [hs_r 4 o, hs_i x1, hs_i x2, hs_i x3] [hs_i s0, hs_i s1, hs_r 27 s2] h := by
  unfold hb_34_55 at e
  obtain ⟨c7, e⟩ := hs_ck_some e
  refine hs_wa 1 (c := vp_in s1 10) (pc' := 56) (ls' := [hs_r 4 o, hs_i x1, hs_i x2, hs_i x3]) (st' := []) (h' := hs_put h 27 s2 s1.toNatClampNeg s0) (fun n w => w) (hs_inb_iff.mp c7) ?_
  refine hs_wb 5 (c := x3 = 0) (t := 78) (f := 65) (ls' := [hs_r 4 o, hs_i x1, hs_i x2, hs_i x3]) (st' := [hs_i x2, hs_r 27 o]) (h' := hs_put h 27 s2 s1.toNatClampNeg s0) (fun n w => w) (fun b8 => ?_) (fun b8 => ?_)
  · rw [if_pos b8] at e
    obtain ⟨c9, e⟩ := hs_ck_some e
    refine hs_wa 4 (c := vp_in x2 10) (pc' := 84) (ls' := [hs_r 4 o, hs_i x1, hs_i x2, hs_i x3]) (st' := [hs_i ((hs_put h 27 s2 s1.toNatClampNeg s0).1 27 o x2.toNatClampNeg), hs_i x2, hs_r 27 o]) (h' := hs_put h 27 s2 s1.toNatClampNeg s0) (fun n w => w) (hs_inb_iff.mp c9) ?_
    refine hs_w 6 (pc' := 90) (ls' := [hs_r 4 o, hs_i x1, hs_i x2, hs_i x3]) (st' := [hs_i (((hs_put h 27 s2 s1.toNatClampNeg s0).1 27 o x2.toNatClampNeg) &&& (((nI 1) <<< (x1 &&& 31)) ^^^ (nI 4294967295))), hs_i x2, hs_r 27 o]) (h' := hs_put h 27 s2 s1.toNatClampNeg s0) (fun n w => w) ?_
    exact hw_34_90 hd e q
  · rw [if_neg b8] at e
    obtain ⟨c11, e⟩ := hs_ck_some e
    refine hs_wa 4 (c := vp_in x2 10) (pc' := 71) (ls' := [hs_r 4 o, hs_i x1, hs_i x2, hs_i x3]) (st' := [hs_i ((hs_put h 27 s2 s1.toNatClampNeg s0).1 27 o x2.toNatClampNeg), hs_i x2, hs_r 27 o]) (h' := hs_put h 27 s2 s1.toNatClampNeg s0) (fun n w => w) (hs_inb_iff.mp c11) ?_
    refine hs_w 5 (pc' := 90) (ls' := [hs_r 4 o, hs_i x1, hs_i x2, hs_i x3]) (st' := [hs_i (((hs_put h 27 s2 s1.toNatClampNeg s0).1 27 o x2.toNatClampNeg) ||| ((nI 1) <<< (x1 &&& 31))), hs_i x2, hs_r 27 o]) (h' := hs_put h 27 s2 s1.toNatClampNeg s0) (fun n w => w) ?_
    exact hw_34_90 hd e q
/-- HuntedScent$Net.tie(IIZ)V -/
def hf_34 (o : Nat) (a1 : Int32) (a2 : Int32) (a3 : Int32) (h : hs_H) : Option (hs_H) := if a1 < 0 then (hb_34_20 o h) else (if (nI 10) ≤ a1 then (hb_34_20 o h) else (if a2 < 0 then (hb_34_20 o h) else (if a2 < (nI 10) then (if a3 = 0 then (hs_ck (hs_inb a1 10) (hb_34_55 o a1 a2 a3 ((h.1 27 o a1.toNatClampNeg) &&& (((nI 1) <<< (a2 &&& 31)) ^^^ (nI 4294967295))) a1 o h)) else (hs_ck (hs_inb a1 10) (hb_34_55 o a1 a2 a3 ((h.1 27 o a1.toNatClampNeg) ||| ((nI 1) <<< (a2 &&& 31))) a1 o h))) else (hb_34_20 o h))))
set_option maxHeartbeats 1000000 in
theorem hc_34 {S : hs_S} {D : Nat} {Q : hs_Q} (hD : 1 ≤ D) {o : Nat} {a1 : Int32} {a2 : Int32} {a3 : Int32} {h : hs_H} {r : hs_H} (e : hf_34 o a1 a2 a3 h = some r) (q : Q none r) : hs_call hs_ms S D 34 [hs_r 4 o, hs_i a1, hs_i a2, hs_i a3] h Q := by
  refine hs_go (R := 0) hD rfl (Nat.le_of_ble_eq_true rfl) (fun d hd => ?_)
  show hs_W S d 0 hs_p34 Q 0 [hs_r 4 o, hs_i a1, hs_i a2, hs_i a3] [] h
  unfold hf_34 at e
  refine hs_wb 2 (c := a1 < 0) (t := 20) (f := 4) (ls' := [hs_r 4 o, hs_i a1, hs_i a2, hs_i a3]) (st' := []) (h' := h) (fun n w => w) (fun b1 => ?_) (fun b1 => ?_)
  · rw [if_pos b1] at e
    exact hw_34_20 hd e q
  · rw [if_neg b1] at e
    refine hs_wb 3 (c := (nI 10) ≤ a1) (t := 20) (f := 10) (ls' := [hs_r 4 o, hs_i a1, hs_i a2, hs_i a3]) (st' := []) (h' := h) (fun n w => w) (fun b2 => ?_) (fun b2 => ?_)
    · rw [if_pos b2] at e
      exact hw_34_20 hd e q
    · rw [if_neg b2] at e
      refine hs_wb 2 (c := a2 < 0) (t := 20) (f := 14) (ls' := [hs_r 4 o, hs_i a1, hs_i a2, hs_i a3]) (st' := []) (h' := h) (fun n w => w) (fun b3 => ?_) (fun b3 => ?_)
      · rw [if_pos b3] at e
        exact hw_34_20 hd e q
      · rw [if_neg b3] at e
        refine hs_wb 3 (c := a2 < (nI 10)) (t := 21) (f := 20) (ls' := [hs_r 4 o, hs_i a1, hs_i a2, hs_i a3]) (st' := []) (h' := h) (fun n w => w) (fun b4 => ?_) (fun b4 => ?_)
        · rw [if_pos b4] at e
          refine hs_wb 5 (c := a3 = 0) (t := 43) (f := 30) (ls' := [hs_r 4 o, hs_i a1, hs_i a2, hs_i a3]) (st' := [hs_i a1, hs_r 27 o]) (h' := h) (fun n w => w) (fun b5 => ?_) (fun b5 => ?_)
          · rw [if_pos b5] at e
            obtain ⟨c6, e⟩ := hs_ck_some e
            refine hs_wa 4 (c := vp_in a1 10) (pc' := 49) (ls' := [hs_r 4 o, hs_i a1, hs_i a2, hs_i a3]) (st' := [hs_i (h.1 27 o a1.toNatClampNeg), hs_i a1, hs_r 27 o]) (h' := h) (fun n w => w) (hs_inb_iff.mp c6) ?_
            refine hs_w 6 (pc' := 55) (ls' := [hs_r 4 o, hs_i a1, hs_i a2, hs_i a3]) (st' := [hs_i ((h.1 27 o a1.toNatClampNeg) &&& (((nI 1) <<< (a2 &&& 31)) ^^^ (nI 4294967295))), hs_i a1, hs_r 27 o]) (h' := h) (fun n w => w) ?_
            exact hw_34_55 hd e q
          · rw [if_neg b5] at e
            obtain ⟨c12, e⟩ := hs_ck_some e
            refine hs_wa 4 (c := vp_in a1 10) (pc' := 36) (ls' := [hs_r 4 o, hs_i a1, hs_i a2, hs_i a3]) (st' := [hs_i (h.1 27 o a1.toNatClampNeg), hs_i a1, hs_r 27 o]) (h' := h) (fun n w => w) (hs_inb_iff.mp c12) ?_
            refine hs_w 5 (pc' := 55) (ls' := [hs_r 4 o, hs_i a1, hs_i a2, hs_i a3]) (st' := [hs_i ((h.1 27 o a1.toNatClampNeg) ||| ((nI 1) <<< (a2 &&& 31))), hs_i a1, hs_r 27 o]) (h' := h) (fun n w => w) ?_
            exact hw_34_55 hd e q
        · rw [if_neg b4] at e
          exact hw_34_20 hd e q
def hb_59_113     (h : hs_H) : Option (Int32 × hs_H) := some (nI 0, h)
set_option maxHeartbeats 1000000 in
theorem hw_59_113 {S : hs_S} {d : Nat} {Q : hs_Q} (hd : 3 ≤ d)      {v1 : hs_V} {v2 : hs_V} {v3 : hs_V} {h : hs_H} {r : Int32 × hs_H} (e : hb_59_113 h = some r) (q : Q (some (hs_i r.1)) r.2) : hs_W S d 2 hs_p59 Q 113 [hs_r 6 0, v1, v2, v3] [] h := by
  unfold hb_59_113 at e
  obtain rfl := Option.some.inj e
  exact hs_wra 2 (c := nI 0 = 0 ∨ nI 0 = 1) (v := some (hs_i (nI 0))) (h' := h) (fun n w => w) (by decide) q
def hb_59_55     (h : hs_H) : Option (Int32 × hs_H) := (hf_54 (nI 4) (h.1 6 0 6) h).bind (fun q7 => hs_ck (hs_b01 q7.1) (some (q7.1, q7.2)))
set_option maxHeartbeats 1000000 in
theorem hw_59_55 {S : hs_S} {d : Nat} {Q : hs_Q} (hd : 3 ≤ d)      {v1 : hs_V} {v2 : hs_V} {v3 : hs_V} {h : hs_H} {r : Int32 × hs_H} (e : hb_59_55 h = some r) (q : Q (some (hs_i r.1)) r.2) : hs_W S d 2 hs_p59 Q 55 [hs_r 6 0, v1, v2, v3] [] h := by
  unfold hb_59_55 at e
  obtain ⟨q7, eq7, e⟩ := hs_bind_some e
  try dsimp only at e
  refine hs_wc 5 (y := 54) (a := [hs_r 6 0, hs_i (nI 4), hs_i (h.1 6 0 6)]) (v := some (hs_i q7.1)) (pc' := 64) (ls' := [hs_r 6 0, v1, v2, v3]) (st' := []) (h' := h) (h2 := q7.2) (fun n w => w) (fun q => hc_54 (by omega) eq7 q) ?_
  obtain ⟨c8, e⟩ := hs_ck_some e
  obtain rfl := Option.some.inj e
  exact hs_wra 1 (c := q7.1 = 0 ∨ q7.1 = 1) (v := some (hs_i q7.1)) (h' := q7.2) (fun n w => w) (hs_b01_iff.mp c8) q
def hb_59_21  (k21 : Int32 × Int32 × Int32 × hs_H → Option (Int32 × hs_H)) (x1 : Int32) (x2 : Int32) (x3 : Int32)  (h : hs_H) : Option (Int32 × hs_H) := if (nI 320) ≤ x3 then (hb_59_113 h) else (if x2 = 0 then (hb_59_113 h) else (if (h.1 6 0 7) = x1 then (hb_59_55 h) else ((hf_33 1 x1 (h.1 6 0 7) h).bind (fun q9 => if q9.1 = 0 then ((hf_34 1 x1 (q9.2.1 6 0 7) (nI 1) q9.2).bind (fun q11 => (hf_69 q11).bind (fun q12 => if ¬ q12.1 = 0 then (if ¬ (q12.2.1 6 0 5) = (nI 3) then ((hf_67 q12.2).bind (fun q15 => k21 (q11.1 6 0 7, q15.1, x3 + nI 1, q15.2))) else (some (nI 1, q12.2))) else (some (nI 0, q12.2))))) else (hb_59_55 q9.2)))))
set_option maxHeartbeats 1000000 in
theorem hw_59_21 {S : hs_S} {d : Nat} {Q : hs_Q} (hd : 3 ≤ d)  {k21 : Int32 × Int32 × Int32 × hs_H → Option (Int32 × hs_H)} (hk21 : ∀ (x1 : Int32) (x2 : Int32) (x3 : Int32) (h : hs_H) (r : Int32 × hs_H) , k21 (x1, x2, x3, h) = some r → Q (some (hs_i r.1)) r.2 → hs_W S d 2 hs_p59 Q 21 [hs_r 6 0, hs_i x1, hs_i x2, hs_i x3] [] h) {x1 : Int32} {x2 : Int32} {x3 : Int32}   {h : hs_H} {r : Int32 × hs_H} (e : hb_59_21 k21 x1 x2 x3 h = some r) (q : Q (some (hs_i r.1)) r.2) : hs_W S d 2 hs_p59 Q 21 [hs_r 6 0, hs_i x1, hs_i x2, hs_i x3] [] h := by
  unfold hb_59_21 at e
  refine hs_wb 3 (c := (nI 320) ≤ x3) (t := 113) (f := 28) (ls' := [hs_r 6 0, hs_i x1, hs_i x2, hs_i x3]) (st' := []) (h' := h) (fun n w => w) (fun b4 => ?_) (fun b4 => ?_)
  · rw [if_pos b4] at e
    exact hw_59_113 hd e q
  · rw [if_neg b4] at e
    refine hs_wb 2 (c := x2 = 0) (t := 113) (f := 32) (ls' := [hs_r 6 0, hs_i x1, hs_i x2, hs_i x3]) (st' := []) (h' := h) (fun n w => w) (fun b5 => ?_) (fun b5 => ?_)
    · rw [if_pos b5] at e
      exact hw_59_113 hd e q
    · rw [if_neg b5] at e
      refine hs_wb 4 (c := (h.1 6 0 7) = x1) (t := 55) (f := 40) (ls' := [hs_r 6 0, hs_i x1, hs_i x2, hs_i x3]) (st' := []) (h' := h) (fun n w => w) (fun b6 => ?_) (fun b6 => ?_)
      · rw [if_pos b6] at e
        exact hw_59_55 hd e q
      · rw [if_neg b6] at e
        obtain ⟨q9, eq9, e⟩ := hs_bind_some e
        try dsimp only at e
        refine hs_wc 6 (y := 33) (a := [hs_r 4 1, hs_i x1, hs_i (h.1 6 0 7)]) (v := some (hs_i q9.1)) (pc' := 52) (ls' := [hs_r 6 0, hs_i x1, hs_i x2, hs_i x3]) (st' := []) (h' := h) (h2 := q9.2) (fun n w => w) (fun q => hc_33 (by omega) eq9 q) ?_
        refine hs_wb 1 (c := q9.1 = 0) (t := 65) (f := 55) (ls' := [hs_r 6 0, hs_i x1, hs_i x2, hs_i x3]) (st' := []) (h' := q9.2) (fun n w => w) (fun b10 => ?_) (fun b10 => ?_)
        · rw [if_pos b10] at e
          obtain ⟨q11, eq11, e⟩ := hs_bind_some e
          try dsimp only at e
          refine hs_wc 7 (y := 34) (a := [hs_r 4 1, hs_i x1, hs_i (q9.2.1 6 0 7), hs_i (nI 1)]) (v := none) (pc' := 78) (ls' := [hs_r 6 0, hs_i x1, hs_i x2, hs_i x3]) (st' := []) (h' := q9.2) (h2 := q11) (fun n w => w) (fun q => hc_34 (by omega) eq11 q) ?_
          obtain ⟨q12, eq12, e⟩ := hs_bind_some e
          try dsimp only at e
          refine hs_wc 5 (y := 69) (a := [hs_r 6 0]) (v := some (hs_i q12.1)) (pc' := 87) (ls' := [hs_r 6 0, hs_i (q11.1 6 0 7), hs_i x2, hs_i x3]) (st' := []) (h' := q11) (h2 := q12.2) (fun n w => w) (fun q => hc_69 (by omega) eq12 q) ?_
          refine hs_wb 1 (c := ¬ q12.1 = 0) (t := 92) (f := 90) (ls' := [hs_r 6 0, hs_i (q11.1 6 0 7), hs_i x2, hs_i x3]) (st' := []) (h' := q12.2) (fun n w => w) (fun b13 => ?_) (fun b13 => ?_)
          · rw [if_pos b13] at e
            refine hs_wb 4 (c := ¬ (q12.2.1 6 0 5) = (nI 3)) (t := 102) (f := 100) (ls' := [hs_r 6 0, hs_i (q11.1 6 0 7), hs_i x2, hs_i x3]) (st' := []) (h' := q12.2) (fun n w => w) (fun b14 => ?_) (fun b14 => ?_)
            · rw [if_pos b14] at e
              obtain ⟨q15, eq15, e⟩ := hs_bind_some e
              try dsimp only at e
              refine hs_wc 2 (y := 67) (a := [hs_r 6 0]) (v := some (hs_i q15.1)) (pc' := 106) (ls' := [hs_r 6 0, hs_i (q11.1 6 0 7), hs_i x2, hs_i x3]) (st' := []) (h' := q12.2) (h2 := q15.2) (fun n w => w) (fun q => hc_67 (by omega) eq15 q) ?_
              refine hs_w 3 (pc' := 21) (ls' := [hs_r 6 0, hs_i (q11.1 6 0 7), hs_i q15.1, hs_i (x3 + nI 1)]) (st' := []) (h' := q15.2) (fun n w => w) ?_
              exact hk21 _ _ _ _ _  e q
            · rw [if_neg b14] at e
              obtain rfl := Option.some.inj e
              exact hs_wra 2 (c := nI 1 = 0 ∨ nI 1 = 1) (v := some (hs_i (nI 1))) (h' := q12.2) (fun n w => w) (by decide) q
          · rw [if_neg b13] at e
            obtain rfl := Option.some.inj e
            exact hs_wra 2 (c := nI 0 = 0 ∨ nI 0 = 1) (v := some (hs_i (nI 0))) (h' := q12.2) (fun n w => w) (by decide) q
        · rw [if_neg b10] at e
          exact hw_59_55 hd e q
theorem hw_59_21_lp {S : hs_S} {d : Nat} {Q : hs_Q} (hd : 3 ≤ d)    (n : Nat) {x1 : Int32} {x2 : Int32} {x3 : Int32} {h : hs_H} {r : Int32 × hs_H} (e : hs_lp (fun k s => hb_59_21 k s.1 s.2.1 s.2.2.1 s.2.2.2) n (x1, x2, x3, h) = some r)  (q : Q (some (hs_i r.1)) r.2) : hs_W S d 2 hs_p59 Q 21 [hs_r 6 0, hs_i x1, hs_i x2, hs_i x3] [] h := by
  refine hs_lp_ind (P := fun (s : Int32 × Int32 × Int32 × hs_H) (r : Int32 × hs_H) => ∀ (_ : True), Q (some (hs_i r.1)) r.2 → hs_W S d 2 hs_p59 Q 21 [hs_r 6 0, hs_i s.1, hs_i s.2.1, hs_i s.2.2.1] [] s.2.2.2) (fun k hk s r e _ q => ?_) n (x1, x2, x3, h) r e trivial q
  exact hw_59_21 hd (fun x1 x2 x3 h r  e q => hk (x1, x2, x3, h) r e trivial q) e q
/-- HuntedScent$Reader.takeLane()Z -/
def hf_59  (h : hs_H) : Option (Int32 × hs_H) := (hf_66 h).bind (fun q1 => if ¬ q1.1 = 0 then ((hf_66 q1.2).bind (fun q3 => hs_lp (fun k s => hb_59_21 k s.1 s.2.1 s.2.2.1 s.2.2.2) hs_big (q1.2.1 6 0 7, q3.1, nI 0, q3.2))) else (some (nI 0, q1.2)))
set_option maxHeartbeats 1000000 in
theorem hc_59 {S : hs_S} {D : Nat} {Q : hs_Q} (hD : 4 ≤ D)  {h : hs_H} {r : Int32 × hs_H} (e : hf_59 h = some r) (q : Q (some (hs_i r.1)) r.2) : hs_call hs_ms S D 59 [hs_r 6 0] h Q := by
  refine hs_go (R := 3) hD rfl (Nat.le_of_ble_eq_true rfl) (fun d hd => ?_)
  show hs_W S d 2 hs_p59 Q 0 [hs_r 6 0, hs_u, hs_u, hs_u] [] h
  unfold hf_59 at e
  obtain ⟨q1, eq1, e⟩ := hs_bind_some e
  try dsimp only at e
  refine hs_wc 2 (y := 66) (a := [hs_r 6 0]) (v := some (hs_i q1.1)) (pc' := 4) (ls' := [hs_r 6 0, hs_u, hs_u, hs_u]) (st' := []) (h' := h) (h2 := q1.2) (fun n w => w) (fun q => hc_66 (by omega) eq1 q) ?_
  refine hs_wb 1 (c := ¬ q1.1 = 0) (t := 9) (f := 7) (ls' := [hs_r 6 0, hs_u, hs_u, hs_u]) (st' := []) (h' := q1.2) (fun n w => w) (fun b2 => ?_) (fun b2 => ?_)
  · rw [if_pos b2] at e
    obtain ⟨q3, eq3, e⟩ := hs_bind_some e
    try dsimp only at e
    refine hs_wc 5 (y := 66) (a := [hs_r 6 0]) (v := some (hs_i q3.1)) (pc' := 18) (ls' := [hs_r 6 0, hs_i (q1.2.1 6 0 7), hs_u, hs_u]) (st' := []) (h' := q1.2) (h2 := q3.2) (fun n w => w) (fun q => hc_66 (by omega) eq3 q) ?_
    refine hs_w 3 (pc' := 21) (ls' := [hs_r 6 0, hs_i (q1.2.1 6 0 7), hs_i q3.1, hs_i (nI 0)]) (st' := []) (h' := q3.2) (fun n w => w) ?_
    exact hw_59_21_lp hd hs_big e  q
  · rw [if_neg b2] at e
    obtain rfl := Option.some.inj e
    exact hs_wra 2 (c := nI 0 = 0 ∨ nI 0 = 1) (v := some (hs_i (nI 0))) (h' := q1.2) (fun n w => w) (by decide) q
/-- HuntedScent$Reader.isFirst(I)Z -/
def hf_63 (a1 : Int32) (h : hs_H) : Option (Int32 × hs_H) := if ((h.1 6 0 8) &&& a1) = 0 then (some (nI 1, hs_put h 6 0 8 ((h.1 6 0 8) ||| a1))) else ((hf_54 (nI 4) (h.1 6 0 6) h).bind (fun q2 => hs_ck (hs_b01 q2.1) (some (q2.1, q2.2))))
set_option maxHeartbeats 1000000 in
theorem hc_63 {S : hs_S} {D : Nat} {Q : hs_Q} (hD : 2 ≤ D) {a1 : Int32} {h : hs_H} {r : Int32 × hs_H} (e : hf_63 a1 h = some r) (q : Q (some (hs_i r.1)) r.2) : hs_call hs_ms S D 63 [hs_r 6 0, hs_i a1] h Q := by
  refine hs_go (R := 1) hD rfl (Nat.le_of_ble_eq_true rfl) (fun d hd => ?_)
  show hs_W S d 2 hs_p63 Q 0 [hs_r 6 0, hs_i a1] [] h
  unfold hf_63 at e
  refine hs_wb 5 (c := ((h.1 6 0 8) &&& a1) = 0) (t := 19) (f := 9) (ls' := [hs_r 6 0, hs_i a1]) (st' := []) (h' := h) (fun n w => w) (fun b1 => ?_) (fun b1 => ?_)
  · rw [if_pos b1] at e
    obtain rfl := Option.some.inj e
    exact hs_wra 8 (c := nI 1 = 0 ∨ nI 1 = 1) (v := some (hs_i (nI 1))) (h' := hs_put h 6 0 8 ((h.1 6 0 8) ||| a1)) (fun n w => w) (by decide) q
  · rw [if_neg b1] at e
    obtain ⟨q2, eq2, e⟩ := hs_bind_some e
    try dsimp only at e
    refine hs_wc 5 (y := 54) (a := [hs_r 6 0, hs_i (nI 4), hs_i (h.1 6 0 6)]) (v := some (hs_i q2.1)) (pc' := 18) (ls' := [hs_r 6 0, hs_i a1]) (st' := []) (h' := h) (h2 := q2.2) (fun n w => w) (fun q => hc_54 (by omega) eq2 q) ?_
    obtain ⟨c3, e⟩ := hs_ck_some e
    obtain rfl := Option.some.inj e
    exact hs_wra 1 (c := q2.1 = 0 ∨ q2.1 = 1) (v := some (hs_i q2.1)) (h' := q2.2) (fun n w => w) (hs_b01_iff.mp c3) q
def hb_58_15     (h : hs_H) : Option (Int32 × hs_H) := some (nI 0, h)
set_option maxHeartbeats 1000000 in
theorem hw_58_15 {S : hs_S} {d : Nat} {Q : hs_Q} (hd : 3 ≤ d)       {h : hs_H} {r : Int32 × hs_H} (e : hb_58_15 h = some r) (q : Q (some (hs_i r.1)) r.2) : hs_W S d 2 hs_p58 Q 15 [hs_r 6 0] [] h := by
  unfold hb_58_15 at e
  obtain rfl := Option.some.inj e
  exact hs_wra 2 (c := nI 0 = 0 ∨ nI 0 = 1) (v := some (hs_i (nI 0))) (h' := h) (fun n w => w) (by decide) q
/-- HuntedScent$Reader.takeStart()Z -/
def hf_58  (h : hs_H) : Option (Int32 × hs_H) := (hf_63 (nI 4) h).bind (fun q1 => if q1.1 = 0 then (hb_58_15 q1.2) else ((hf_66 q1.2).bind (fun q3 => if ¬ q3.1 = 0 then ((hf_68 (hs_put q3.2 4 1 3 (q3.2.1 6 0 7))).bind (fun q5 => hs_ck (hs_b01 q5.1) (some (q5.1, q5.2)))) else (hb_58_15 q3.2))))
set_option maxHeartbeats 1000000 in
theorem hc_58 {S : hs_S} {D : Nat} {Q : hs_Q} (hD : 4 ≤ D)  {h : hs_H} {r : Int32 × hs_H} (e : hf_58 h = some r) (q : Q (some (hs_i r.1)) r.2) : hs_call hs_ms S D 58 [hs_r 6 0] h Q := by
  refine hs_go (R := 3) hD rfl (Nat.le_of_ble_eq_true rfl) (fun d hd => ?_)
  show hs_W S d 2 hs_p58 Q 0 [hs_r 6 0] [] h
  unfold hf_58 at e
  obtain ⟨q1, eq1, e⟩ := hs_bind_some e
  try dsimp only at e
  refine hs_wc 3 (y := 63) (a := [hs_r 6 0, hs_i (nI 4)]) (v := some (hs_i q1.1)) (pc' := 5) (ls' := [hs_r 6 0]) (st' := []) (h' := h) (h2 := q1.2) (fun n w => w) (fun q => hc_63 (by omega) eq1 q) ?_
  refine hs_wb 1 (c := q1.1 = 0) (t := 15) (f := 8) (ls' := [hs_r 6 0]) (st' := []) (h' := q1.2) (fun n w => w) (fun b2 => ?_) (fun b2 => ?_)
  · rw [if_pos b2] at e
    exact hw_58_15 hd e q
  · rw [if_neg b2] at e
    obtain ⟨q3, eq3, e⟩ := hs_bind_some e
    try dsimp only at e
    refine hs_wc 2 (y := 66) (a := [hs_r 6 0]) (v := some (hs_i q3.1)) (pc' := 12) (ls' := [hs_r 6 0]) (st' := []) (h' := q1.2) (h2 := q3.2) (fun n w => w) (fun q => hc_66 (by omega) eq3 q) ?_
    refine hs_wb 1 (c := ¬ q3.1 = 0) (t := 17) (f := 15) (ls' := [hs_r 6 0]) (st' := []) (h' := q3.2) (fun n w => w) (fun b4 => ?_) (fun b4 => ?_)
    · rw [if_pos b4] at e
      obtain ⟨q5, eq5, e⟩ := hs_bind_some e
      try dsimp only at e
      refine hs_wc 7 (y := 68) (a := [hs_r 6 0]) (v := some (hs_i q5.1)) (pc' := 32) (ls' := [hs_r 6 0]) (st' := []) (h' := hs_put q3.2 4 1 3 (q3.2.1 6 0 7)) (h2 := q5.2) (fun n w => w) (fun q => hc_68 (by omega) eq5 q) ?_
      obtain ⟨c6, e⟩ := hs_ck_some e
      obtain rfl := Option.some.inj e
      exact hs_wra 1 (c := q5.1 = 0 ∨ q5.1 = 1) (v := some (hs_i q5.1)) (h' := q5.2) (fun n w => w) (hs_b01_iff.mp c6) q
    · rw [if_neg b4] at e
      exact hw_58_15 hd e q
/-- HuntedScent$Reader.takeRest()Z -/
def hf_57  (h : hs_H) : Option (Int32 × hs_H) := (hf_63 (nI 2) h).bind (fun q1 => if ¬ q1.1 = 0 then ((hf_68 (hs_put q1.2 4 1 2 (nI 1))).bind (fun q3 => hs_ck (hs_b01 q3.1) (some (q3.1, q3.2)))) else (some (nI 0, q1.2)))
set_option maxHeartbeats 1000000 in
theorem hc_57 {S : hs_S} {D : Nat} {Q : hs_Q} (hD : 4 ≤ D)  {h : hs_H} {r : Int32 × hs_H} (e : hf_57 h = some r) (q : Q (some (hs_i r.1)) r.2) : hs_call hs_ms S D 57 [hs_r 6 0] h Q := by
  refine hs_go (R := 3) hD rfl (Nat.le_of_ble_eq_true rfl) (fun d hd => ?_)
  show hs_W S d 2 hs_p57 Q 0 [hs_r 6 0] [] h
  unfold hf_57 at e
  obtain ⟨q1, eq1, e⟩ := hs_bind_some e
  try dsimp only at e
  refine hs_wc 3 (y := 63) (a := [hs_r 6 0, hs_i (nI 2)]) (v := some (hs_i q1.1)) (pc' := 5) (ls' := [hs_r 6 0]) (st' := []) (h' := h) (h2 := q1.2) (fun n w => w) (fun q => hc_63 (by omega) eq1 q) ?_
  refine hs_wb 1 (c := ¬ q1.1 = 0) (t := 10) (f := 8) (ls' := [hs_r 6 0]) (st' := []) (h' := q1.2) (fun n w => w) (fun b2 => ?_) (fun b2 => ?_)
  · rw [if_pos b2] at e
    obtain ⟨q3, eq3, e⟩ := hs_bind_some e
    try dsimp only at e
    refine hs_wc 6 (y := 68) (a := [hs_r 6 0]) (v := some (hs_i q3.1)) (pc' := 22) (ls' := [hs_r 6 0]) (st' := []) (h' := hs_put q1.2 4 1 2 (nI 1)) (h2 := q3.2) (fun n w => w) (fun q => hc_68 (by omega) eq3 q) ?_
    obtain ⟨c4, e⟩ := hs_ck_some e
    obtain rfl := Option.some.inj e
    exact hs_wra 1 (c := q3.1 = 0 ∨ q3.1 = 1) (v := some (hs_i q3.1)) (h' := q3.2) (fun n w => w) (hs_b01_iff.mp c4) q
  · rw [if_neg b2] at e
    obtain rfl := Option.some.inj e
    exact hs_wra 2 (c := nI 0 = 0 ∨ nI 0 = 1) (v := some (hs_i (nI 0))) (h' := q1.2) (fun n w => w) (by decide) q
def hb_56_18     (h : hs_H) : Option (Int32 × hs_H) := some (nI 0, h)
set_option maxHeartbeats 1000000 in
theorem hw_56_18 {S : hs_S} {d : Nat} {Q : hs_Q} (hd : 3 ≤ d)       {h : hs_H} {r : Int32 × hs_H} (e : hb_56_18 h = some r) (q : Q (some (hs_i r.1)) r.2) : hs_W S d 2 hs_p56 Q 18 [hs_r 6 0] [] h := by
  unfold hb_56_18 at e
  obtain rfl := Option.some.inj e
  exact hs_wra 2 (c := nI 0 = 0 ∨ nI 0 = 1) (v := some (hs_i (nI 0))) (h' := h) (fun n w => w) (by decide) q
/-- HuntedScent$Reader.takeNodes()Z -/
def hf_56  (h : hs_H) : Option (Int32 × hs_H) := (hf_63 (nI 1) h).bind (fun q1 => if q1.1 = 0 then (hb_56_18 q1.2) else ((hf_64 (nI 2) (nI 10) q1.2).bind (fun q3 => if ¬ q3.1 = 0 then ((hf_68 (hs_put q3.2 4 1 1 (q3.2.1 6 0 7))).bind (fun q5 => hs_ck (hs_b01 q5.1) (some (q5.1, q5.2)))) else (hb_56_18 q3.2))))
set_option maxHeartbeats 1000000 in
theorem hc_56 {S : hs_S} {D : Nat} {Q : hs_Q} (hD : 4 ≤ D)  {h : hs_H} {r : Int32 × hs_H} (e : hf_56 h = some r) (q : Q (some (hs_i r.1)) r.2) : hs_call hs_ms S D 56 [hs_r 6 0] h Q := by
  refine hs_go (R := 3) hD rfl (Nat.le_of_ble_eq_true rfl) (fun d hd => ?_)
  show hs_W S d 2 hs_p56 Q 0 [hs_r 6 0] [] h
  unfold hf_56 at e
  obtain ⟨q1, eq1, e⟩ := hs_bind_some e
  try dsimp only at e
  refine hs_wc 3 (y := 63) (a := [hs_r 6 0, hs_i (nI 1)]) (v := some (hs_i q1.1)) (pc' := 5) (ls' := [hs_r 6 0]) (st' := []) (h' := h) (h2 := q1.2) (fun n w => w) (fun q => hc_63 (by omega) eq1 q) ?_
  refine hs_wb 1 (c := q1.1 = 0) (t := 18) (f := 8) (ls' := [hs_r 6 0]) (st' := []) (h' := q1.2) (fun n w => w) (fun b2 => ?_) (fun b2 => ?_)
  · rw [if_pos b2] at e
    exact hw_56_18 hd e q
  · rw [if_neg b2] at e
    obtain ⟨q3, eq3, e⟩ := hs_bind_some e
    try dsimp only at e
    refine hs_wc 4 (y := 64) (a := [hs_r 6 0, hs_i (nI 2), hs_i (nI 10)]) (v := some (hs_i q3.1)) (pc' := 15) (ls' := [hs_r 6 0]) (st' := []) (h' := q1.2) (h2 := q3.2) (fun n w => w) (fun q => hc_64 (by omega) eq3 q) ?_
    refine hs_wb 1 (c := ¬ q3.1 = 0) (t := 20) (f := 18) (ls' := [hs_r 6 0]) (st' := []) (h' := q3.2) (fun n w => w) (fun b4 => ?_) (fun b4 => ?_)
    · rw [if_pos b4] at e
      obtain ⟨q5, eq5, e⟩ := hs_bind_some e
      try dsimp only at e
      refine hs_wc 7 (y := 68) (a := [hs_r 6 0]) (v := some (hs_i q5.1)) (pc' := 35) (ls' := [hs_r 6 0]) (st' := []) (h' := hs_put q3.2 4 1 1 (q3.2.1 6 0 7)) (h2 := q5.2) (fun n w => w) (fun q => hc_68 (by omega) eq5 q) ?_
      obtain ⟨c6, e⟩ := hs_ck_some e
      obtain rfl := Option.some.inj e
      exact hs_wra 1 (c := q5.1 = 0 ∨ q5.1 = 1) (v := some (hs_i q5.1)) (h' := q5.2) (fun n w => w) (hs_b01_iff.mp c6) q
    · rw [if_neg b4] at e
      exact hw_56_18 hd e q
def hb_55_14     (h : hs_H) : Option (Int32 × hs_H) := some (nI 0, h)
set_option maxHeartbeats 1000000 in
theorem hw_55_14 {S : hs_S} {d : Nat} {Q : hs_Q} (hd : 4 ≤ d)       {h : hs_H} {r : Int32 × hs_H} (e : hb_55_14 h = some r) (q : Q (some (hs_i r.1)) r.2) : hs_W S d 2 hs_p55 Q 14 [hs_r 6 0] [] h := by
  unfold hb_55_14 at e
  obtain rfl := Option.some.inj e
  exact hs_wra 2 (c := nI 0 = 0 ∨ nI 0 = 1) (v := some (hs_i (nI 0))) (h' := h) (fun n w => w) (by decide) q
def hb_55_143    (s0 : Int32) (h : hs_H) : Option (Int32 × hs_H) := hs_ck (hs_b01 s0) (some (s0, h))
set_option maxHeartbeats 1000000 in
theorem hw_55_143 {S : hs_S} {d : Nat} {Q : hs_Q} (hd : 4 ≤ d)     {s0 : Int32}  {h : hs_H} {r : Int32 × hs_H} (e : hb_55_143 s0 h = some r) (q : Q (some (hs_i r.1)) r.2) : hs_W S d 2 hs_p55 Q 143 [hs_r 6 0] [hs_i s0] h := by
  unfold hb_55_143 at e
  obtain ⟨c20, e⟩ := hs_ck_some e
  obtain rfl := Option.some.inj e
  exact hs_wra 1 (c := s0 = 0 ∨ s0 = 1) (v := some (hs_i s0)) (h' := h) (fun n w => w) (hs_b01_iff.mp c20) q
/-- HuntedScent$Reader.takeLine()Z -/
def hf_55  (h : hs_H) : Option (Int32 × hs_H) := (hf_69 h).bind (fun q1 => if q1.1 = 0 then (hb_55_14 q1.2) else (if ¬ (q1.2.1 6 0 5) = 0 then (if (q1.2.1 6 0 5) = (nI 1) then ((hf_72_64 0 q1.2).bind (fun q5 => if q5.1 = 0 then ((hf_72_64 1 q5.2).bind (fun q7 => if q7.1 = 0 then ((hf_72_64 2 q7.2).bind (fun q9 => if q9.1 = 0 then ((hf_72_64 3 q9.2).bind (fun q11 => if q11.1 = 0 then ((hf_72_64 4 q11.2).bind (fun q13 => if q13.1 = 0 then ((hf_72_64 5 q13.2).bind (fun q15 => if q15.1 = 0 then ((hf_72_64 6 q15.2).bind (fun q17 => if q17.1 = 0 then ((hf_54 (nI 2) (q17.2.1 6 0 6) q17.2).bind (fun q19 => hb_55_143 q19.1 q19.2)) else ((hf_62 q17.2).bind (fun q21 => hb_55_143 q21.1 q21.2)))) else ((hf_61 q15.2).bind (fun q22 => hs_ck (hs_b01 q22.1) (some (q22.1, q22.2)))))) else ((hf_60 q13.2).bind (fun q24 => hs_ck (hs_b01 q24.1) (some (q24.1, q24.2)))))) else ((hf_59 q11.2).bind (fun q26 => hs_ck (hs_b01 q26.1) (some (q26.1, q26.2)))))) else ((hf_58 q9.2).bind (fun q28 => hs_ck (hs_b01 q28.1) (some (q28.1, q28.2)))))) else ((hf_57 q7.2).bind (fun q30 => hs_ck (hs_b01 q30.1) (some (q30.1, q30.2)))))) else ((hf_56 q5.2).bind (fun q32 => hs_ck (hs_b01 q32.1) (some (q32.1, q32.2)))))) else ((hf_54 (nI 2) (q1.2.1 6 0 6) q1.2).bind (fun q34 => hs_ck (hs_b01 q34.1) (some (q34.1, q34.2))))) else (hb_55_14 q1.2)))
set_option maxHeartbeats 1000000 in
theorem hc_55 {S : hs_S} {D : Nat} {Q : hs_Q} (hD : 5 ≤ D)  {h : hs_H} {r : Int32 × hs_H} (e : hf_55 h = some r) (q : Q (some (hs_i r.1)) r.2) : hs_call hs_ms S D 55 [hs_r 6 0] h Q := by
  refine hs_go (R := 4) hD rfl (Nat.le_of_ble_eq_true rfl) (fun d hd => ?_)
  show hs_W S d 2 hs_p55 Q 0 [hs_r 6 0] [] h
  unfold hf_55 at e
  obtain ⟨q1, eq1, e⟩ := hs_bind_some e
  try dsimp only at e
  refine hs_wc 2 (y := 69) (a := [hs_r 6 0]) (v := some (hs_i q1.1)) (pc' := 4) (ls' := [hs_r 6 0]) (st' := []) (h' := h) (h2 := q1.2) (fun n w => w) (fun q => hc_69 (by omega) eq1 q) ?_
  refine hs_wb 1 (c := q1.1 = 0) (t := 14) (f := 7) (ls' := [hs_r 6 0]) (st' := []) (h' := q1.2) (fun n w => w) (fun b2 => ?_) (fun b2 => ?_)
  · rw [if_pos b2] at e
    exact hw_55_14 hd e q
  · rw [if_neg b2] at e
    refine hs_wb 3 (c := ¬ (q1.2.1 6 0 5) = 0) (t := 16) (f := 14) (ls' := [hs_r 6 0]) (st' := []) (h' := q1.2) (fun n w => w) (fun b3 => ?_) (fun b3 => ?_)
    · rw [if_pos b3] at e
      refine hs_wb 4 (c := (q1.2.1 6 0 5) = (nI 1)) (t := 34) (f := 24) (ls' := [hs_r 6 0]) (st' := []) (h' := q1.2) (fun n w => w) (fun b4 => ?_) (fun b4 => ?_)
      · rw [if_pos b4] at e
        obtain ⟨q5, eq5, e⟩ := hs_bind_some e
        try dsimp only at e
        refine hs_wc 3 (y := 72) (a := [hs_r 6 0, hs_r 64 0]) (v := some (hs_i q5.1)) (pc' := 40) (ls' := [hs_r 6 0]) (st' := []) (h' := q1.2) (h2 := q5.2) (fun n w => w) (fun q => hc_72_64 (by omega) eq5 q) ?_
        refine hs_wb 1 (c := q5.1 = 0) (t := 48) (f := 43) (ls' := [hs_r 6 0]) (st' := []) (h' := q5.2) (fun n w => w) (fun b6 => ?_) (fun b6 => ?_)
        · rw [if_pos b6] at e
          obtain ⟨q7, eq7, e⟩ := hs_bind_some e
          try dsimp only at e
          refine hs_wc 3 (y := 72) (a := [hs_r 6 0, hs_r 64 1]) (v := some (hs_i q7.1)) (pc' := 54) (ls' := [hs_r 6 0]) (st' := []) (h' := q5.2) (h2 := q7.2) (fun n w => w) (fun q => hc_72_64 (by omega) eq7 q) ?_
          refine hs_wb 1 (c := q7.1 = 0) (t := 62) (f := 57) (ls' := [hs_r 6 0]) (st' := []) (h' := q7.2) (fun n w => w) (fun b8 => ?_) (fun b8 => ?_)
          · rw [if_pos b8] at e
            obtain ⟨q9, eq9, e⟩ := hs_bind_some e
            try dsimp only at e
            refine hs_wc 3 (y := 72) (a := [hs_r 6 0, hs_r 64 2]) (v := some (hs_i q9.1)) (pc' := 68) (ls' := [hs_r 6 0]) (st' := []) (h' := q7.2) (h2 := q9.2) (fun n w => w) (fun q => hc_72_64 (by omega) eq9 q) ?_
            refine hs_wb 1 (c := q9.1 = 0) (t := 76) (f := 71) (ls' := [hs_r 6 0]) (st' := []) (h' := q9.2) (fun n w => w) (fun b10 => ?_) (fun b10 => ?_)
            · rw [if_pos b10] at e
              obtain ⟨q11, eq11, e⟩ := hs_bind_some e
              try dsimp only at e
              refine hs_wc 3 (y := 72) (a := [hs_r 6 0, hs_r 64 3]) (v := some (hs_i q11.1)) (pc' := 82) (ls' := [hs_r 6 0]) (st' := []) (h' := q9.2) (h2 := q11.2) (fun n w => w) (fun q => hc_72_64 (by omega) eq11 q) ?_
              refine hs_wb 1 (c := q11.1 = 0) (t := 90) (f := 85) (ls' := [hs_r 6 0]) (st' := []) (h' := q11.2) (fun n w => w) (fun b12 => ?_) (fun b12 => ?_)
              · rw [if_pos b12] at e
                obtain ⟨q13, eq13, e⟩ := hs_bind_some e
                try dsimp only at e
                refine hs_wc 3 (y := 72) (a := [hs_r 6 0, hs_r 64 4]) (v := some (hs_i q13.1)) (pc' := 96) (ls' := [hs_r 6 0]) (st' := []) (h' := q11.2) (h2 := q13.2) (fun n w => w) (fun q => hc_72_64 (by omega) eq13 q) ?_
                refine hs_wb 1 (c := q13.1 = 0) (t := 104) (f := 99) (ls' := [hs_r 6 0]) (st' := []) (h' := q13.2) (fun n w => w) (fun b14 => ?_) (fun b14 => ?_)
                · rw [if_pos b14] at e
                  obtain ⟨q15, eq15, e⟩ := hs_bind_some e
                  try dsimp only at e
                  refine hs_wc 3 (y := 72) (a := [hs_r 6 0, hs_r 64 5]) (v := some (hs_i q15.1)) (pc' := 110) (ls' := [hs_r 6 0]) (st' := []) (h' := q13.2) (h2 := q15.2) (fun n w => w) (fun q => hc_72_64 (by omega) eq15 q) ?_
                  refine hs_wb 1 (c := q15.1 = 0) (t := 118) (f := 113) (ls' := [hs_r 6 0]) (st' := []) (h' := q15.2) (fun n w => w) (fun b16 => ?_) (fun b16 => ?_)
                  · rw [if_pos b16] at e
                    obtain ⟨q17, eq17, e⟩ := hs_bind_some e
                    try dsimp only at e
                    refine hs_wc 3 (y := 72) (a := [hs_r 6 0, hs_r 64 6]) (v := some (hs_i q17.1)) (pc' := 124) (ls' := [hs_r 6 0]) (st' := []) (h' := q15.2) (h2 := q17.2) (fun n w => w) (fun q => hc_72_64 (by omega) eq17 q) ?_
                    refine hs_wb 1 (c := q17.1 = 0) (t := 134) (f := 127) (ls' := [hs_r 6 0]) (st' := []) (h' := q17.2) (fun n w => w) (fun b18 => ?_) (fun b18 => ?_)
                    · rw [if_pos b18] at e
                      obtain ⟨q19, eq19, e⟩ := hs_bind_some e
                      try dsimp only at e
                      refine hs_wc 5 (y := 54) (a := [hs_r 6 0, hs_i (nI 2), hs_i (q17.2.1 6 0 6)]) (v := some (hs_i q19.1)) (pc' := 143) (ls' := [hs_r 6 0]) (st' := []) (h' := q17.2) (h2 := q19.2) (fun n w => w) (fun q => hc_54 (by omega) eq19 q) ?_
                      exact hw_55_143 hd e q
                    · rw [if_neg b18] at e
                      obtain ⟨q21, eq21, e⟩ := hs_bind_some e
                      try dsimp only at e
                      refine hs_wc 2 (y := 62) (a := [hs_r 6 0]) (v := some (hs_i q21.1)) (pc' := 131) (ls' := [hs_r 6 0]) (st' := []) (h' := q17.2) (h2 := q21.2) (fun n w => w) (fun q => hc_62 (by omega) eq21 q) ?_
                      refine hs_w 1 (pc' := 143) (ls' := [hs_r 6 0]) (st' := [hs_i q21.1]) (h' := q21.2) (fun n w => w) ?_
                      exact hw_55_143 hd e q
                  · rw [if_neg b16] at e
                    obtain ⟨q22, eq22, e⟩ := hs_bind_some e
                    try dsimp only at e
                    refine hs_wc 2 (y := 61) (a := [hs_r 6 0]) (v := some (hs_i q22.1)) (pc' := 117) (ls' := [hs_r 6 0]) (st' := []) (h' := q15.2) (h2 := q22.2) (fun n w => w) (fun q => hc_61 (by omega) eq22 q) ?_
                    obtain ⟨c23, e⟩ := hs_ck_some e
                    obtain rfl := Option.some.inj e
                    exact hs_wra 1 (c := q22.1 = 0 ∨ q22.1 = 1) (v := some (hs_i q22.1)) (h' := q22.2) (fun n w => w) (hs_b01_iff.mp c23) q
                · rw [if_neg b14] at e
                  obtain ⟨q24, eq24, e⟩ := hs_bind_some e
                  try dsimp only at e
                  refine hs_wc 2 (y := 60) (a := [hs_r 6 0]) (v := some (hs_i q24.1)) (pc' := 103) (ls' := [hs_r 6 0]) (st' := []) (h' := q13.2) (h2 := q24.2) (fun n w => w) (fun q => hc_60 (by omega) eq24 q) ?_
                  obtain ⟨c25, e⟩ := hs_ck_some e
                  obtain rfl := Option.some.inj e
                  exact hs_wra 1 (c := q24.1 = 0 ∨ q24.1 = 1) (v := some (hs_i q24.1)) (h' := q24.2) (fun n w => w) (hs_b01_iff.mp c25) q
              · rw [if_neg b12] at e
                obtain ⟨q26, eq26, e⟩ := hs_bind_some e
                try dsimp only at e
                refine hs_wc 2 (y := 59) (a := [hs_r 6 0]) (v := some (hs_i q26.1)) (pc' := 89) (ls' := [hs_r 6 0]) (st' := []) (h' := q11.2) (h2 := q26.2) (fun n w => w) (fun q => hc_59 (by omega) eq26 q) ?_
                obtain ⟨c27, e⟩ := hs_ck_some e
                obtain rfl := Option.some.inj e
                exact hs_wra 1 (c := q26.1 = 0 ∨ q26.1 = 1) (v := some (hs_i q26.1)) (h' := q26.2) (fun n w => w) (hs_b01_iff.mp c27) q
            · rw [if_neg b10] at e
              obtain ⟨q28, eq28, e⟩ := hs_bind_some e
              try dsimp only at e
              refine hs_wc 2 (y := 58) (a := [hs_r 6 0]) (v := some (hs_i q28.1)) (pc' := 75) (ls' := [hs_r 6 0]) (st' := []) (h' := q9.2) (h2 := q28.2) (fun n w => w) (fun q => hc_58 (by omega) eq28 q) ?_
              obtain ⟨c29, e⟩ := hs_ck_some e
              obtain rfl := Option.some.inj e
              exact hs_wra 1 (c := q28.1 = 0 ∨ q28.1 = 1) (v := some (hs_i q28.1)) (h' := q28.2) (fun n w => w) (hs_b01_iff.mp c29) q
          · rw [if_neg b8] at e
            obtain ⟨q30, eq30, e⟩ := hs_bind_some e
            try dsimp only at e
            refine hs_wc 2 (y := 57) (a := [hs_r 6 0]) (v := some (hs_i q30.1)) (pc' := 61) (ls' := [hs_r 6 0]) (st' := []) (h' := q7.2) (h2 := q30.2) (fun n w => w) (fun q => hc_57 (by omega) eq30 q) ?_
            obtain ⟨c31, e⟩ := hs_ck_some e
            obtain rfl := Option.some.inj e
            exact hs_wra 1 (c := q30.1 = 0 ∨ q30.1 = 1) (v := some (hs_i q30.1)) (h' := q30.2) (fun n w => w) (hs_b01_iff.mp c31) q
        · rw [if_neg b6] at e
          obtain ⟨q32, eq32, e⟩ := hs_bind_some e
          try dsimp only at e
          refine hs_wc 2 (y := 56) (a := [hs_r 6 0]) (v := some (hs_i q32.1)) (pc' := 47) (ls' := [hs_r 6 0]) (st' := []) (h' := q5.2) (h2 := q32.2) (fun n w => w) (fun q => hc_56 (by omega) eq32 q) ?_
          obtain ⟨c33, e⟩ := hs_ck_some e
          obtain rfl := Option.some.inj e
          exact hs_wra 1 (c := q32.1 = 0 ∨ q32.1 = 1) (v := some (hs_i q32.1)) (h' := q32.2) (fun n w => w) (hs_b01_iff.mp c33) q
      · rw [if_neg b4] at e
        obtain ⟨q34, eq34, e⟩ := hs_bind_some e
        try dsimp only at e
        refine hs_wc 5 (y := 54) (a := [hs_r 6 0, hs_i (nI 2), hs_i (q1.2.1 6 0 6)]) (v := some (hs_i q34.1)) (pc' := 33) (ls' := [hs_r 6 0]) (st' := []) (h' := q1.2) (h2 := q34.2) (fun n w => w) (fun q => hc_54 (by omega) eq34 q) ?_
        obtain ⟨c35, e⟩ := hs_ck_some e
        obtain rfl := Option.some.inj e
        exact hs_wra 1 (c := q34.1 = 0 ∨ q34.1 = 1) (v := some (hs_i q34.1)) (h' := q34.2) (fun n w => w) (hs_b01_iff.mp c35) q
    · rw [if_neg b3] at e
      exact hw_55_14 hd e q
def hb_53_112    (s0 : Int32) (h : hs_H) : Option (Int32 × hs_H) := some (s0, h)
set_option maxHeartbeats 1000000 in
theorem hw_53_112 {S : hs_S} {d : Nat} {Q : hs_Q} (hd : 5 ≤ d)     {s0 : Int32} {v1 : hs_V} {h : hs_H} {r : Int32 × hs_H} (e : hb_53_112 s0 h = some r) (q : Q (some (hs_i r.1)) r.2) : hs_W S d 1 hs_p53 Q 112 [hs_r 6 0, v1] [hs_i s0] h := by
  unfold hb_53_112 at e
  obtain rfl := Option.some.inj e
  exact hs_wr 1 (v := some (hs_i s0)) (h' := h) (fun n w => w) q
def hb_53_89   (x1 : Int32)  (h : hs_H) : Option (Int32 × hs_H) := if ¬ ((hs_put h 6 0 3 (nI 0)).1 6 0 10) = 0 then (hb_53_112 ((nI 4294967286) - ((hs_put h 6 0 3 (nI 0)).1 6 0 11)) (hs_put h 6 0 3 (nI 0))) else (hb_53_112 x1 (hs_put h 6 0 3 (nI 0)))
set_option maxHeartbeats 1000000 in
theorem hw_53_89 {S : hs_S} {d : Nat} {Q : hs_Q} (hd : 5 ≤ d)    {x1 : Int32}   {h : hs_H} {r : Int32 × hs_H} (e : hb_53_89 x1 h = some r) (q : Q (some (hs_i r.1)) r.2) : hs_W S d 1 hs_p53 Q 89 [hs_r 6 0, hs_i x1] [] h := by
  unfold hb_53_89 at e
  refine hs_wb 6 (c := ¬ ((hs_put h 6 0 3 (nI 0)).1 6 0 10) = 0) (t := 105) (f := 101) (ls' := [hs_r 6 0, hs_i x1]) (st' := []) (h' := hs_put h 6 0 3 (nI 0)) (fun n w => w) (fun b5 => ?_) (fun b5 => ?_)
  · rw [if_pos b5] at e
    refine hs_w 4 (pc' := 112) (ls' := [hs_r 6 0, hs_i x1]) (st' := [hs_i ((nI 4294967286) - ((hs_put h 6 0 3 (nI 0)).1 6 0 11))]) (h' := hs_put h 6 0 3 (nI 0)) (fun n w => w) ?_
    exact hw_53_112 hd e q
  · rw [if_neg b5] at e
    refine hs_w 2 (pc' := 112) (ls' := [hs_r 6 0, hs_i x1]) (st' := [hs_i x1]) (h' := hs_put h 6 0 3 (nI 0)) (fun n w => w) ?_
    exact hw_53_112 hd e q
def hb_53_57   (x1 : Int32)  (h : hs_H) : Option (Int32 × hs_H) := if ¬ (h.1 6 0 10) = 0 then (hb_53_89 x1 h) else ((hf_30 1 (h.1 6 0 9) h).bind (fun q6 => if ¬ q6.1 = 0 then (hb_53_89 x1 q6.2) else ((hf_54 (nI 6) (q6.2.1 6 0 3) q6.2).bind (fun q8 => hb_53_89 x1 q8.2))))
set_option maxHeartbeats 1000000 in
theorem hw_53_57 {S : hs_S} {d : Nat} {Q : hs_Q} (hd : 5 ≤ d)    {x1 : Int32}   {h : hs_H} {r : Int32 × hs_H} (e : hb_53_57 x1 h = some r) (q : Q (some (hs_i r.1)) r.2) : hs_W S d 1 hs_p53 Q 57 [hs_r 6 0, hs_i x1] [] h := by
  unfold hb_53_57 at e
  refine hs_wb 3 (c := ¬ (h.1 6 0 10) = 0) (t := 89) (f := 64) (ls' := [hs_r 6 0, hs_i x1]) (st' := []) (h' := h) (fun n w => w) (fun b4 => ?_) (fun b4 => ?_)
  · rw [if_pos b4] at e
    exact hw_53_89 hd e q
  · rw [if_neg b4] at e
    obtain ⟨q6, eq6, e⟩ := hs_bind_some e
    try dsimp only at e
    refine hs_wc 5 (y := 30) (a := [hs_r 4 1, hs_i (h.1 6 0 9)]) (v := some (hs_i q6.1)) (pc' := 75) (ls' := [hs_r 6 0, hs_i x1]) (st' := []) (h' := h) (h2 := q6.2) (fun n w => w) (fun q => hc_30 (by omega) eq6 q) ?_
    refine hs_wb 1 (c := ¬ q6.1 = 0) (t := 89) (f := 78) (ls' := [hs_r 6 0, hs_i x1]) (st' := []) (h' := q6.2) (fun n w => w) (fun b7 => ?_) (fun b7 => ?_)
    · rw [if_pos b7] at e
      exact hw_53_89 hd e q
    · rw [if_neg b7] at e
      obtain ⟨q8, eq8, e⟩ := hs_bind_some e
      try dsimp only at e
      refine hs_wc 5 (y := 54) (a := [hs_r 6 0, hs_i (nI 6), hs_i (q6.2.1 6 0 3)]) (v := some (hs_i q8.1)) (pc' := 88) (ls' := [hs_r 6 0, hs_i x1]) (st' := []) (h' := q6.2) (h2 := q8.2) (fun n w => w) (fun q => hc_54 (by omega) eq8 q) ?_
      refine hs_w 1 (pc' := 89) (ls' := [hs_r 6 0, hs_i x1]) (st' := []) (h' := q8.2) (fun n w => w) ?_
      exact hw_53_89 hd e q
def hb_53_37  (k37 : Int32 × hs_H → Option (Int32 × hs_H)) (x1 : Int32)  (h : hs_H) : Option (Int32 × hs_H) := if (nI 320) < x1 then (hb_53_57 x1 h) else ((hf_55 h).bind (fun q9 => if q9.1 = 0 then (hb_53_57 x1 q9.2) else (k37 (x1 + nI 1, q9.2))))
set_option maxHeartbeats 1000000 in
theorem hw_53_37 {S : hs_S} {d : Nat} {Q : hs_Q} (hd : 5 ≤ d)  {k37 : Int32 × hs_H → Option (Int32 × hs_H)} (hk37 : ∀ (x1 : Int32) (h : hs_H) (r : Int32 × hs_H) , k37 (x1, h) = some r → Q (some (hs_i r.1)) r.2 → hs_W S d 1 hs_p53 Q 37 [hs_r 6 0, hs_i x1] [] h) {x1 : Int32}   {h : hs_H} {r : Int32 × hs_H} (e : hb_53_37 k37 x1 h = some r) (q : Q (some (hs_i r.1)) r.2) : hs_W S d 1 hs_p53 Q 37 [hs_r 6 0, hs_i x1] [] h := by
  unfold hb_53_37 at e
  refine hs_wb 3 (c := (nI 320) < x1) (t := 57) (f := 44) (ls' := [hs_r 6 0, hs_i x1]) (st' := []) (h' := h) (fun n w => w) (fun b3 => ?_) (fun b3 => ?_)
  · rw [if_pos b3] at e
    exact hw_53_57 hd e q
  · rw [if_neg b3] at e
    obtain ⟨q9, eq9, e⟩ := hs_bind_some e
    try dsimp only at e
    refine hs_wc 2 (y := 55) (a := [hs_r 6 0]) (v := some (hs_i q9.1)) (pc' := 48) (ls' := [hs_r 6 0, hs_i x1]) (st' := []) (h' := h) (h2 := q9.2) (fun n w => w) (fun q => hc_55 (by omega) eq9 q) ?_
    refine hs_wb 1 (c := q9.1 = 0) (t := 57) (f := 51) (ls' := [hs_r 6 0, hs_i x1]) (st' := []) (h' := q9.2) (fun n w => w) (fun b10 => ?_) (fun b10 => ?_)
    · rw [if_pos b10] at e
      exact hw_53_57 hd e q
    · rw [if_neg b10] at e
      refine hs_w 2 (pc' := 37) (ls' := [hs_r 6 0, hs_i (x1 + nI 1)]) (st' := []) (h' := q9.2) (fun n w => w) ?_
      exact hk37 _ _ _  e q
theorem hw_53_37_lp {S : hs_S} {d : Nat} {Q : hs_Q} (hd : 5 ≤ d)    (n : Nat) {x1 : Int32} {h : hs_H} {r : Int32 × hs_H} (e : hs_lp (fun k s => hb_53_37 k s.1 s.2) n (x1, h) = some r)  (q : Q (some (hs_i r.1)) r.2) : hs_W S d 1 hs_p53 Q 37 [hs_r 6 0, hs_i x1] [] h := by
  refine hs_lp_ind (P := fun (s : Int32 × hs_H) (r : Int32 × hs_H) => ∀ (_ : True), Q (some (hs_i r.1)) r.2 → hs_W S d 1 hs_p53 Q 37 [hs_r 6 0, hs_i s.1] [] s.2) (fun k hk s r e _ q => ?_) n (x1, h) r e trivial q
  exact hw_53_37 hd (fun x1 h r  e q => hk (x1, h) r e trivial q) e q
/-- HuntedScent$Reader.readAll()I -/
def hf_53  (h : hs_H) : Option (Int32 × hs_H) := (hf_27 1 h).bind (fun q1 => (hf_47 1 (nI 0) q1).bind (fun q2 => hs_lp (fun k s => hb_53_37 k s.1 s.2) hs_big (nI 0, hs_put (hs_put (hs_put (hs_put q2 6 0 4 (nI 0)) 6 0 8 (nI 0)) 6 0 9 (nI 0)) 6 0 10 (nI 0))))
set_option maxHeartbeats 1000000 in
theorem hc_53 {S : hs_S} {D : Nat} {Q : hs_Q} (hD : 6 ≤ D)  {h : hs_H} {r : Int32 × hs_H} (e : hf_53 h = some r) (q : Q (some (hs_i r.1)) r.2) : hs_call hs_ms S D 53 [hs_r 6 0] h Q := by
  refine hs_go (R := 5) hD rfl (Nat.le_of_ble_eq_true rfl) (fun d hd => ?_)
  show hs_W S d 1 hs_p53 Q 0 [hs_r 6 0, hs_u] [] h
  unfold hf_53 at e
  obtain ⟨q1, eq1, e⟩ := hs_bind_some e
  try dsimp only at e
  refine hs_wc 3 (y := 27) (a := [hs_r 4 1]) (v := none) (pc' := 7) (ls' := [hs_r 6 0, hs_u]) (st' := []) (h' := h) (h2 := q1) (fun n w => w) (fun q => hc_27 (by omega) eq1 q) ?_
  obtain ⟨q2, eq2, e⟩ := hs_bind_some e
  try dsimp only at e
  refine hs_wc 4 (y := 47) (a := [hs_r 5 1, hs_i (nI 0)]) (v := none) (pc' := 15) (ls' := [hs_r 6 0, hs_u]) (st' := []) (h' := q1) (h2 := q2) (fun n w => w) (fun q => hc_47 (by omega) eq2 q) ?_
  refine hs_w 14 (pc' := 37) (ls' := [hs_r 6 0, hs_i (nI 0)]) (st' := []) (h' := hs_put (hs_put (hs_put (hs_put q2 6 0 4 (nI 0)) 6 0 8 (nI 0)) 6 0 9 (nI 0)) 6 0 10 (nI 0)) (fun n w => w) ?_
  exact hw_53_37_lp hd hs_big e  q
