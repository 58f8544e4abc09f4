/-! What the methods compute, by program; and that the small machine computes it. -/
def hb_28_4_2 (o : Nat) (p1 : Nat) (k2 : Int32 × hs_H → Option (hs_H)) (x2 : Int32)  (h : hs_H) : Option (hs_H) := if (nI 10) ≤ x2 then (some (hs_put (hs_put (hs_put (hs_put (hs_put (hs_put h 4 o 1 (h.1 4 p1 1)) 4 o 2 ((hs_put h 4 o 1 (h.1 4 p1 1)).1 4 p1 2)) 4 o 3 ((hs_put (hs_put h 4 o 1 (h.1 4 p1 1)) 4 o 2 ((hs_put h 4 o 1 (h.1 4 p1 1)).1 4 p1 2)).1 4 p1 3)) 4 o 4 ((hs_put (hs_put (hs_put h 4 o 1 (h.1 4 p1 1)) 4 o 2 ((hs_put h 4 o 1 (h.1 4 p1 1)).1 4 p1 2)) 4 o 3 ((hs_put (hs_put h 4 o 1 (h.1 4 p1 1)) 4 o 2 ((hs_put h 4 o 1 (h.1 4 p1 1)).1 4 p1 2)).1 4 p1 3)).1 4 p1 4)) 4 o 5 ((hs_put (hs_put (hs_put (hs_put h 4 o 1 (h.1 4 p1 1)) 4 o 2 ((hs_put h 4 o 1 (h.1 4 p1 1)).1 4 p1 2)) 4 o 3 ((hs_put (hs_put h 4 o 1 (h.1 4 p1 1)) 4 o 2 ((hs_put h 4 o 1 (h.1 4 p1 1)).1 4 p1 2)).1 4 p1 3)) 4 o 4 ((hs_put (hs_put (hs_put h 4 o 1 (h.1 4 p1 1)) 4 o 2 ((hs_put h 4 o 1 (h.1 4 p1 1)).1 4 p1 2)) 4 o 3 ((hs_put (hs_put h 4 o 1 (h.1 4 p1 1)) 4 o 2 ((hs_put h 4 o 1 (h.1 4 p1 1)).1 4 p1 2)).1 4 p1 3)).1 4 p1 4)).1 4 p1 5)) 4 o 6 (((hs_put (hs_put (hs_put (hs_put (hs_put h 4 o 1 (h.1 4 p1 1)) 4 o 2 ((hs_put h 4 o 1 (h.1 4 p1 1)).1 4 p1 2)) 4 o 3 ((hs_put (hs_put h 4 o 1 (h.1 4 p1 1)) 4 o 2 ((hs_put h 4 o 1 (h.1 4 p1 1)).1 4 p1 2)).1 4 p1 3)) 4 o 4 ((hs_put (hs_put (hs_put h 4 o 1 (h.1 4 p1 1)) 4 o 2 ((hs_put h 4 o 1 (h.1 4 p1 1)).1 4 p1 2)) 4 o 3 ((hs_put (hs_put h 4 o 1 (h.1 4 p1 1)) 4 o 2 ((hs_put h 4 o 1 (h.1 4 p1 1)).1 4 p1 2)).1 4 p1 3)).1 4 p1 4)) 4 o 5 ((hs_put (hs_put (hs_put (hs_put h 4 o 1 (h.1 4 p1 1)) 4 o 2 ((hs_put h 4 o 1 (h.1 4 p1 1)).1 4 p1 2)) 4 o 3 ((hs_put (hs_put h 4 o 1 (h.1 4 p1 1)) 4 o 2 ((hs_put h 4 o 1 (h.1 4 p1 1)).1 4 p1 2)).1 4 p1 3)) 4 o 4 ((hs_put (hs_put (hs_put h 4 o 1 (h.1 4 p1 1)) 4 o 2 ((hs_put h 4 o 1 (h.1 4 p1 1)).1 4 p1 2)) 4 o 3 ((hs_put (hs_put h 4 o 1 (h.1 4 p1 1)) 4 o 2 ((hs_put h 4 o 1 (h.1 4 p1 1)).1 4 p1 2)).1 4 p1 3)).1 4 p1 4)).1 4 p1 5)).1 4 o 6) + (nI 1)))) else (hs_ck (hs_inb x2 10) (hs_ck (hs_inb x2 10) (k2 (x2 + nI 1, hs_put h 27 o x2.toNatClampNeg (h.1 27 p1 x2.toNatClampNeg)))))
set_option maxHeartbeats 1000000 in
theorem hw_28_4_2 {S : hs_S} {d : Nat} {Q : hs_Q} (hd : 0 ≤ d) {o : Nat} {p1 : Nat} {k2 : Int32 × hs_H → Option (hs_H)} (hk2 : ∀ (x2 : Int32) (h : hs_H) (r : hs_H) , k2 (x2, h) = some r → Q none r → hs_W S d 0 hs_p28 Q 2 [hs_r 4 o, hs_r 4 p1, hs_i x2] [] h) {x2 : Int32}   {h : hs_H} {r : hs_H} (e : hb_28_4_2 o p1 k2 x2 h = some r) (q : Q none r) : hs_W S d 0 hs_p28 Q 2 [hs_r 4 o, hs_r 4 p1, hs_i x2] [] h := by
  unfold hb_28_4_2 at e
  refine hs_wb 3 (c := (nI 10) ≤ x2) (t := 26) (f := 8) (ls' := [hs_r 4 o, hs_r 4 p1, hs_i x2]) (st' := []) (h' := h) (fun n w => w) (fun b1 => ?_) (fun b1 => ?_)
  · rw [if_pos b1] at e
    obtain rfl := Option.some.inj e
    exact hs_wr 27 (v := none) (h' := hs_put (hs_put (hs_put (hs_put (hs_put (hs_put h 4 o 1 (h.1 4 p1 1)) 4 o 2 ((hs_put h 4 o 1 (h.1 4 p1 1)).1 4 p1 2)) 4 o 3 ((hs_put (hs_put h 4 o 1 (h.1 4 p1 1)) 4 o 2 ((hs_put h 4 o 1 (h.1 4 p1 1)).1 4 p1 2)).1 4 p1 3)) 4 o 4 ((hs_put (hs_put (hs_put h 4 o 1 (h.1 4 p1 1)) 4 o 2 ((hs_put h 4 o 1 (h.1 4 p1 1)).1 4 p1 2)) 4 o 3 ((hs_put (hs_put h 4 o 1 (h.1 4 p1 1)) 4 o 2 ((hs_put h 4 o 1 (h.1 4 p1 1)).1 4 p1 2)).1 4 p1 3)).1 4 p1 4)) 4 o 5 ((hs_put (hs_put (hs_put (hs_put h 4 o 1 (h.1 4 p1 1)) 4 o 2 ((hs_put h 4 o 1 (h.1 4 p1 1)).1 4 p1 2)) 4 o 3 ((hs_put (hs_put h 4 o 1 (h.1 4 p1 1)) 4 o 2 ((hs_put h 4 o 1 (h.1 4 p1 1)).1 4 p1 2)).1 4 p1 3)) 4 o 4 ((hs_put (hs_put (hs_put h 4 o 1 (h.1 4 p1 1)) 4 o 2 ((hs_put h 4 o 1 (h.1 4 p1 1)).1 4 p1 2)) 4 o 3 ((hs_put (hs_put h 4 o 1 (h.1 4 p1 1)) 4 o 2 ((hs_put h 4 o 1 (h.1 4 p1 1)).1 4 p1 2)).1 4 p1 3)).1 4 p1 4)).1 4 p1 5)) 4 o 6 (((hs_put (hs_put (hs_put (hs_put (hs_put h 4 o 1 (h.1 4 p1 1)) 4 o 2 ((hs_put h 4 o 1 (h.1 4 p1 1)).1 4 p1 2)) 4 o 3 ((hs_put (hs_put h 4 o 1 (h.1 4 p1 1)) 4 o 2 ((hs_put h 4 o 1 (h.1 4 p1 1)).1 4 p1 2)).1 4 p1 3)) 4 o 4 ((hs_put (hs_put (hs_put h 4 o 1 (h.1 4 p1 1)) 4 o 2 ((hs_put h 4 o 1 (h.1 4 p1 1)).1 4 p1 2)) 4 o 3 ((hs_put (hs_put h 4 o 1 (h.1 4 p1 1)) 4 o 2 ((hs_put h 4 o 1 (h.1 4 p1 1)).1 4 p1 2)).1 4 p1 3)).1 4 p1 4)) 4 o 5 ((hs_put (hs_put (hs_put (hs_put h 4 o 1 (h.1 4 p1 1)) 4 o 2 ((hs_put h 4 o 1 (h.1 4 p1 1)).1 4 p1 2)) 4 o 3 ((hs_put (hs_put h 4 o 1 (h.1 4 p1 1)) 4 o 2 ((hs_put h 4 o 1 (h.1 4 p1 1)).1 4 p1 2)).1 4 p1 3)) 4 o 4 ((hs_put (hs_put (hs_put h 4 o 1 (h.1 4 p1 1)) 4 o 2 ((hs_put h 4 o 1 (h.1 4 p1 1)).1 4 p1 2)) 4 o 3 ((hs_put (hs_put h 4 o 1 (h.1 4 p1 1)) 4 o 2 ((hs_put h 4 o 1 (h.1 4 p1 1)).1 4 p1 2)).1 4 p1 3)).1 4 p1 4)).1 4 p1 5)).1 4 o 6) + (nI 1))) (fun n w => w) q
  · rw [if_neg b1] at e
    obtain ⟨c2, e⟩ := hs_ck_some e
    refine hs_wa 7 (c := vp_in x2 10) (pc' := 19) (ls' := [hs_r 4 o, hs_r 4 p1, hs_i x2]) (st' := [hs_i (h.1 27 p1 x2.toNatClampNeg), hs_i x2, hs_r 27 o]) (h' := h) (fun n w => w) (hs_inb_iff.mp c2) ?_
    obtain ⟨c3, e⟩ := hs_ck_some e
    refine hs_wa 1 (c := vp_in x2 10) (pc' := 20) (ls' := [hs_r 4 o, hs_r 4 p1, hs_i x2]) (st' := []) (h' := hs_put h 27 o x2.toNatClampNeg (h.1 27 p1 x2.toNatClampNeg)) (fun n w => w) (hs_inb_iff.mp c3) ?_
    refine hs_w 2 (pc' := 2) (ls' := [hs_r 4 o, hs_r 4 p1, hs_i (x2 + nI 1)]) (st' := []) (h' := hs_put h 27 o x2.toNatClampNeg (h.1 27 p1 x2.toNatClampNeg)) (fun n w => w) ?_
    exact hk2 _ _ _  e q
theorem hw_28_4_2_lp {S : hs_S} {d : Nat} {Q : hs_Q} (hd : 0 ≤ d) {o : Nat} {p1 : Nat}   (n : Nat) {x2 : Int32} {h : hs_H} {r : hs_H} (e : hs_lp (fun k s => hb_28_4_2 o p1 k s.1 s.2) n (x2, h) = some r)  (q : Q none r) : hs_W S d 0 hs_p28 Q 2 [hs_r 4 o, hs_r 4 p1, hs_i x2] [] h := by
  refine hs_lp_ind (P := fun (s : Int32 × hs_H) (r : hs_H) => ∀ (_ : True), Q none r → hs_W S d 0 hs_p28 Q 2 [hs_r 4 o, hs_r 4 p1, hs_i s.1] [] s.2) (fun k hk s r e _ q => ?_) n (x2, h) r e trivial q
  exact hw_28_4_2 hd (fun x2 h r  e q => hk (x2, h) r e trivial q) e q
/-- HuntedScent$Net.copyFrom(LHuntedScent$Net;)V -/
def hf_28_4 (o : Nat) (p1 : Nat) (h : hs_H) : Option (hs_H) := hs_lp (fun k s => hb_28_4_2 o p1 k s.1 s.2) hs_big (nI 0, h)
set_option maxHeartbeats 1000000 in
theorem hc_28_4 {S : hs_S} {D : Nat} {Q : hs_Q} (hD : 1 ≤ D) {o : Nat} {p1 : Nat} {h : hs_H} {r : hs_H} (e : hf_28_4 o p1 h = some r) (q : Q none r) : hs_call hs_ms S D 28 [hs_r 4 o, hs_r 4 p1] h Q := by
  refine hs_go (R := 0) hD rfl (Nat.le_of_ble_eq_true rfl) (fun d hd => ?_)
  show hs_W S d 0 hs_p28 Q 0 [hs_r 4 o, hs_r 4 p1, hs_u] [] h
  unfold hf_28_4 at e
  refine hs_w 2 (pc' := 2) (ls' := [hs_r 4 o, hs_r 4 p1, hs_i (nI 0)]) (st' := []) (h' := h) (fun n w => w) ?_
  exact hw_28_4_2_lp hd hs_big e  q
def hb_48_5_2 (o : Nat) (p1 : Nat) (k2 : Int32 × hs_H → Option (hs_H)) (x2 : Int32)  (h : hs_H) : Option (hs_H) := if (nI 10) ≤ x2 then (some (hs_put (hs_put h 5 o 3 (h.1 5 p1 3)) 5 o 4 (((hs_put h 5 o 3 (h.1 5 p1 3)).1 5 o 4) + (nI 1)))) else (hs_ck (hs_inb x2 10) (hs_ck (hs_inb x2 10) (hs_ck (hs_inb x2 10) (hs_ck (hs_inb x2 10) (hs_ck (hs_inb x2 10) (hs_ck (hs_inb x2 10) (k2 (x2 + nI 1, hs_put (hs_put (hs_put h 28 o x2.toNatClampNeg (h.1 28 p1 x2.toNatClampNeg)) 29 o x2.toNatClampNeg ((hs_put h 28 o x2.toNatClampNeg (h.1 28 p1 x2.toNatClampNeg)).1 29 p1 x2.toNatClampNeg)) 30 o x2.toNatClampNeg ((hs_put (hs_put h 28 o x2.toNatClampNeg (h.1 28 p1 x2.toNatClampNeg)) 29 o x2.toNatClampNeg ((hs_put h 28 o x2.toNatClampNeg (h.1 28 p1 x2.toNatClampNeg)).1 29 p1 x2.toNatClampNeg)).1 30 p1 x2.toNatClampNeg)))))))))
set_option maxHeartbeats 1000000 in
theorem hw_48_5_2 {S : hs_S} {d : Nat} {Q : hs_Q} (hd : 0 ≤ d) {o : Nat} {p1 : Nat} {k2 : Int32 × hs_H → Option (hs_H)} (hk2 : ∀ (x2 : Int32) (h : hs_H) (r : hs_H) , k2 (x2, h) = some r → Q none r → hs_W S d 0 hs_p48 Q 2 [hs_r 5 o, hs_r 5 p1, hs_i x2] [] h) {x2 : Int32}   {h : hs_H} {r : hs_H} (e : hb_48_5_2 o p1 k2 x2 h = some r) (q : Q none r) : hs_W S d 0 hs_p48 Q 2 [hs_r 5 o, hs_r 5 p1, hs_i x2] [] h := by
  unfold hb_48_5_2 at e
  refine hs_wb 3 (c := (nI 10) ≤ x2) (t := 50) (f := 8) (ls' := [hs_r 5 o, hs_r 5 p1, hs_i x2]) (st' := []) (h' := h) (fun n w => w) (fun b1 => ?_) (fun b1 => ?_)
  · rw [if_pos b1] at e
    obtain rfl := Option.some.inj e
    exact hs_wr 11 (v := none) (h' := hs_put (hs_put h 5 o 3 (h.1 5 p1 3)) 5 o 4 (((hs_put h 5 o 3 (h.1 5 p1 3)).1 5 o 4) + (nI 1))) (fun n w => w) q
  · rw [if_neg b1] at e
    obtain ⟨c2, e⟩ := hs_ck_some e
    refine hs_wa 7 (c := vp_in x2 10) (pc' := 19) (ls' := [hs_r 5 o, hs_r 5 p1, hs_i x2]) (st' := [hs_i (h.1 28 p1 x2.toNatClampNeg), hs_i x2, hs_r 28 o]) (h' := h) (fun n w => w) (hs_inb_iff.mp c2) ?_
    obtain ⟨c3, e⟩ := hs_ck_some e
    refine hs_wa 1 (c := vp_in x2 10) (pc' := 20) (ls' := [hs_r 5 o, hs_r 5 p1, hs_i x2]) (st' := []) (h' := hs_put h 28 o x2.toNatClampNeg (h.1 28 p1 x2.toNatClampNeg)) (fun n w => w) (hs_inb_iff.mp c3) ?_
    obtain ⟨c4, e⟩ := hs_ck_some e
    refine hs_wa 7 (c := vp_in x2 10) (pc' := 31) (ls' := [hs_r 5 o, hs_r 5 p1, hs_i x2]) (st' := [hs_i ((hs_put h 28 o x2.toNatClampNeg (h.1 28 p1 x2.toNatClampNeg)).1 29 p1 x2.toNatClampNeg), hs_i x2, hs_r 29 o]) (h' := hs_put h 28 o x2.toNatClampNeg (h.1 28 p1 x2.toNatClampNeg)) (fun n w => w) (hs_inb_iff.mp c4) ?_
    obtain ⟨c5, e⟩ := hs_ck_some e
    refine hs_wa 1 (c := vp_in x2 10) (pc' := 32) (ls' := [hs_r 5 o, hs_r 5 p1, hs_i x2]) (st' := []) (h' := hs_put (hs_put h 28 o x2.toNatClampNeg (h.1 28 p1 x2.toNatClampNeg)) 29 o x2.toNatClampNeg ((hs_put h 28 o x2.toNatClampNeg (h.1 28 p1 x2.toNatClampNeg)).1 29 p1 x2.toNatClampNeg)) (fun n w => w) (hs_inb_iff.mp c5) ?_
    obtain ⟨c6, e⟩ := hs_ck_some e
    refine hs_wa 7 (c := vp_in x2 10) (pc' := 43) (ls' := [hs_r 5 o, hs_r 5 p1, hs_i x2]) (st' := [hs_i ((hs_put (hs_put h 28 o x2.toNatClampNeg (h.1 28 p1 x2.toNatClampNeg)) 29 o x2.toNatClampNeg ((hs_put h 28 o x2.toNatClampNeg (h.1 28 p1 x2.toNatClampNeg)).1 29 p1 x2.toNatClampNeg)).1 30 p1 x2.toNatClampNeg), hs_i x2, hs_r 30 o]) (h' := hs_put (hs_put h 28 o x2.toNatClampNeg (h.1 28 p1 x2.toNatClampNeg)) 29 o x2.toNatClampNeg ((hs_put h 28 o x2.toNatClampNeg (h.1 28 p1 x2.toNatClampNeg)).1 29 p1 x2.toNatClampNeg)) (fun n w => w) (hs_inb_iff.mp c6) ?_
    obtain ⟨c7, e⟩ := hs_ck_some e
    refine hs_wa 1 (c := vp_in x2 10) (pc' := 44) (ls' := [hs_r 5 o, hs_r 5 p1, hs_i x2]) (st' := []) (h' := hs_put (hs_put (hs_put h 28 o x2.toNatClampNeg (h.1 28 p1 x2.toNatClampNeg)) 29 o x2.toNatClampNeg ((hs_put h 28 o x2.toNatClampNeg (h.1 28 p1 x2.toNatClampNeg)).1 29 p1 x2.toNatClampNeg)) 30 o x2.toNatClampNeg ((hs_put (hs_put h 28 o x2.toNatClampNeg (h.1 28 p1 x2.toNatClampNeg)) 29 o x2.toNatClampNeg ((hs_put h 28 o x2.toNatClampNeg (h.1 28 p1 x2.toNatClampNeg)).1 29 p1 x2.toNatClampNeg)).1 30 p1 x2.toNatClampNeg)) (fun n w => w) (hs_inb_iff.mp c7) ?_
    refine hs_w 2 (pc' := 2) (ls' := [hs_r 5 o, hs_r 5 p1, hs_i (x2 + nI 1)]) (st' := []) (h' := hs_put (hs_put (hs_put h 28 o x2.toNatClampNeg (h.1 28 p1 x2.toNatClampNeg)) 29 o x2.toNatClampNeg ((hs_put h 28 o x2.toNatClampNeg (h.1 28 p1 x2.toNatClampNeg)).1 29 p1 x2.toNatClampNeg)) 30 o x2.toNatClampNeg ((hs_put (hs_put h 28 o x2.toNatClampNeg (h.1 28 p1 x2.toNatClampNeg)) 29 o x2.toNatClampNeg ((hs_put h 28 o x2.toNatClampNeg (h.1 28 p1 x2.toNatClampNeg)).1 29 p1 x2.toNatClampNeg)).1 30 p1 x2.toNatClampNeg)) (fun n w => w) ?_
    exact hk2 _ _ _  e q
theorem hw_48_5_2_lp {S : hs_S} {d : Nat} {Q : hs_Q} (hd : 0 ≤ d) {o : Nat} {p1 : Nat}   (n : Nat) {x2 : Int32} {h : hs_H} {r : hs_H} (e : hs_lp (fun k s => hb_48_5_2 o p1 k s.1 s.2) n (x2, h) = some r)  (q : Q none r) : hs_W S d 0 hs_p48 Q 2 [hs_r 5 o, hs_r 5 p1, hs_i x2] [] h := by
  refine hs_lp_ind (P := fun (s : Int32 × hs_H) (r : hs_H) => ∀ (_ : True), Q none r → hs_W S d 0 hs_p48 Q 2 [hs_r 5 o, hs_r 5 p1, hs_i s.1] [] s.2) (fun k hk s r e _ q => ?_) n (x2, h) r e trivial q
  exact hw_48_5_2 hd (fun x2 h r  e q => hk (x2, h) r e trivial q) e q
/-- HuntedScent$Notes.copyFrom(LHuntedScent$Notes;)V -/
def hf_48_5 (o : Nat) (p1 : Nat) (h : hs_H) : Option (hs_H) := hs_lp (fun k s => hb_48_5_2 o p1 k s.1 s.2) hs_big (nI 0, h)
set_option maxHeartbeats 1000000 in
theorem hc_48_5 {S : hs_S} {D : Nat} {Q : hs_Q} (hD : 1 ≤ D) {o : Nat} {p1 : Nat} {h : hs_H} {r : hs_H} (e : hf_48_5 o p1 h = some r) (q : Q none r) : hs_call hs_ms S D 48 [hs_r 5 o, hs_r 5 p1] h Q := by
  refine hs_go (R := 0) hD rfl (Nat.le_of_ble_eq_true rfl) (fun d hd => ?_)
  show hs_W S d 0 hs_p48 Q 0 [hs_r 5 o, hs_r 5 p1, hs_u] [] h
  unfold hf_48_5 at e
  refine hs_w 2 (pc' := 2) (ls' := [hs_r 5 o, hs_r 5 p1, hs_i (nI 0)]) (st' := []) (h' := h) (fun n w => w) ?_
  exact hw_48_5_2_lp hd hs_big e  q
def hb_87_2 (o : Nat) (k2 : Int32 × hs_H → Option (hs_H)) (x1 : Int32)  (h : hs_H) : Option (hs_H) := if (nI 10) ≤ x1 then (some (hs_put (hs_put h 9 o 1 (nI 4294967292)) 9 o 2 (nI 0))) else (hs_ck (hs_inb x1 10) (k2 (x1 + nI 1, hs_put h 33 o x1.toNatClampNeg (nI 0))))
set_option maxHeartbeats 1000000 in
theorem hw_87_2 {S : hs_S} {d : Nat} {Q : hs_Q} (hd : 0 ≤ d) {o : Nat} {k2 : Int32 × hs_H → Option (hs_H)} (hk2 : ∀ (x1 : Int32) (h : hs_H) (r : hs_H) , k2 (x1, h) = some r → Q none r → hs_W S d 0 hs_p87 Q 2 [hs_r 9 o, hs_i x1] [] h) {x1 : Int32}   {h : hs_H} {r : hs_H} (e : hb_87_2 o k2 x1 h = some r) (q : Q none r) : hs_W S d 0 hs_p87 Q 2 [hs_r 9 o, hs_i x1] [] h := by
  unfold hb_87_2 at e
  refine hs_wb 3 (c := (nI 10) ≤ x1) (t := 21) (f := 8) (ls' := [hs_r 9 o, hs_i x1]) (st' := []) (h' := h) (fun n w => w) (fun b1 => ?_) (fun b1 => ?_)
  · rw [if_pos b1] at e
    obtain rfl := Option.some.inj e
    exact hs_wr 7 (v := none) (h' := hs_put (hs_put h 9 o 1 (nI 4294967292)) 9 o 2 (nI 0)) (fun n w => w) q
  · rw [if_neg b1] at e
    obtain ⟨c2, e⟩ := hs_ck_some e
    refine hs_wa 5 (c := vp_in x1 10) (pc' := 15) (ls' := [hs_r 9 o, hs_i x1]) (st' := []) (h' := hs_put h 33 o x1.toNatClampNeg (nI 0)) (fun n w => w) (hs_inb_iff.mp c2) ?_
    refine hs_w 2 (pc' := 2) (ls' := [hs_r 9 o, hs_i (x1 + nI 1)]) (st' := []) (h' := hs_put h 33 o x1.toNatClampNeg (nI 0)) (fun n w => w) ?_
    exact hk2 _ _ _  e q
theorem hw_87_2_lp {S : hs_S} {d : Nat} {Q : hs_Q} (hd : 0 ≤ d) {o : Nat}   (n : Nat) {x1 : Int32} {h : hs_H} {r : hs_H} (e : hs_lp (fun k s => hb_87_2 o k s.1 s.2) n (x1, h) = some r)  (q : Q none r) : hs_W S d 0 hs_p87 Q 2 [hs_r 9 o, hs_i x1] [] h := by
  refine hs_lp_ind (P := fun (s : Int32 × hs_H) (r : hs_H) => ∀ (_ : True), Q none r → hs_W S d 0 hs_p87 Q 2 [hs_r 9 o, hs_i s.1] [] s.2) (fun k hk s r e _ q => ?_) n (x1, h) r e trivial q
  exact hw_87_2 hd (fun x1 h r  e q => hk (x1, h) r e trivial q) e q
/-- HuntedScent$Trail.clear()V -/
def hf_87 (o : Nat) (h : hs_H) : Option (hs_H) := hs_lp (fun k s => hb_87_2 o k s.1 s.2) hs_big (nI 0, h)
set_option maxHeartbeats 1000000 in
theorem hc_87 {S : hs_S} {D : Nat} {Q : hs_Q} (hD : 1 ≤ D) {o : Nat} {h : hs_H} {r : hs_H} (e : hf_87 o h = some r) (q : Q none r) : hs_call hs_ms S D 87 [hs_r 9 o] h Q := by
  refine hs_go (R := 0) hD rfl (Nat.le_of_ble_eq_true rfl) (fun d hd => ?_)
  show hs_W S d 0 hs_p87 Q 0 [hs_r 9 o, hs_u] [] h
  unfold hf_87 at e
  refine hs_w 2 (pc' := 2) (ls' := [hs_r 9 o, hs_i (nI 0)]) (st' := []) (h' := h) (fun n w => w) ?_
  exact hw_87_2_lp hd hs_big e  q
def hb_107_70   (x1 : Int32)  (h : hs_H) : Option (Int32 × hs_H) := some (x1, h)
set_option maxHeartbeats 1000000 in
theorem hw_107_70 {S : hs_S} {d : Nat} {Q : hs_Q} (hd : 6 ≤ d)    {x1 : Int32}  {v2 : hs_V} {h : hs_H} {r : Int32 × hs_H} (e : hb_107_70 x1 h = some r) (q : Q (some (hs_i r.1)) r.2) : hs_W S d 1 hs_p107 Q 70 [hs_r 11 0, hs_i x1, v2] [] h := by
  unfold hb_107_70 at e
  obtain rfl := Option.some.inj e
  exact hs_wr 2 (v := some (hs_i x1)) (h' := h) (fun n w => w) q
def hb_107_49  (k49 : Int32 × Int32 × hs_H → Option (Int32 × hs_H)) (x1 : Int32) (x2 : Int32)  (h : hs_H) : Option (Int32 × hs_H) := if (nI 2) ≤ x2 then (hb_107_70 x1 h) else (hs_ck (hs_inb x2 2) (k49 (x1, x2 + nI 1, hs_put h 3 x2.toNatClampNeg 3 (nI 0))))
set_option maxHeartbeats 1000000 in
theorem hw_107_49 {S : hs_S} {d : Nat} {Q : hs_Q} (hd : 6 ≤ d)  {k49 : Int32 × Int32 × hs_H → Option (Int32 × hs_H)} (hk49 : ∀ (x1 : Int32) (x2 : Int32) (h : hs_H) (r : Int32 × hs_H) , k49 (x1, x2, h) = some r → Q (some (hs_i r.1)) r.2 → hs_W S d 1 hs_p107 Q 49 [hs_r 11 0, hs_i x1, hs_i x2] [] h) {x1 : Int32} {x2 : Int32}   {h : hs_H} {r : Int32 × hs_H} (e : hb_107_49 k49 x1 x2 h = some r) (q : Q (some (hs_i r.1)) r.2) : hs_W S d 1 hs_p107 Q 49 [hs_r 11 0, hs_i x1, hs_i x2] [] h := by
  unfold hb_107_49 at e
  refine hs_wb 3 (c := (nI 2) ≤ x2) (t := 70) (f := 54) (ls' := [hs_r 11 0, hs_i x1, hs_i x2]) (st' := []) (h' := h) (fun n w => w) (fun b6 => ?_) (fun b6 => ?_)
  · rw [if_pos b6] at e
    exact hw_107_70 hd e q
  · rw [if_neg b6] at e
    obtain ⟨c7, e⟩ := hs_ck_some e
    refine hs_wa 4 (c := vp_in x2 2) (pc' := 60) (ls' := [hs_r 11 0, hs_i x1, hs_i x2]) (st' := [hs_r 3 x2.toNatClampNeg]) (h' := h) (fun n w => w) (hs_inb_iff.mp c7) ?_
    refine hs_wa 2 (c := nI 0 = 0 ∨ nI 0 = 1) (pc' := 64) (ls' := [hs_r 11 0, hs_i x1, hs_i x2]) (st' := []) (h' := hs_put h 3 x2.toNatClampNeg 3 (nI 0)) (fun n w => w) (by decide) ?_
    refine hs_w 2 (pc' := 49) (ls' := [hs_r 11 0, hs_i x1, hs_i (x2 + nI 1)]) (st' := []) (h' := hs_put h 3 x2.toNatClampNeg 3 (nI 0)) (fun n w => w) ?_
    exact hk49 _ _ _ _  e q
theorem hw_107_49_lp {S : hs_S} {d : Nat} {Q : hs_Q} (hd : 6 ≤ d)    (n : Nat) {x1 : Int32} {x2 : Int32} {h : hs_H} {r : Int32 × hs_H} (e : hs_lp (fun k s => hb_107_49 k s.1 s.2.1 s.2.2) n (x1, x2, h) = some r)  (q : Q (some (hs_i r.1)) r.2) : hs_W S d 1 hs_p107 Q 49 [hs_r 11 0, hs_i x1, hs_i x2] [] h := by
  refine hs_lp_ind (P := fun (s : Int32 × Int32 × hs_H) (r : Int32 × hs_H) => ∀ (_ : True), Q (some (hs_i r.1)) r.2 → hs_W S d 1 hs_p107 Q 49 [hs_r 11 0, hs_i s.1, hs_i s.2.1] [] s.2.2) (fun k hk s r e _ q => ?_) n (x1, x2, h) r e trivial q
  exact hw_107_49 hd (fun x1 x2 h r  e q => hk (x1, x2, h) r e trivial q) e q
/-- HuntedScent.text()I -/
def hf_107  (h : hs_H) : Option (Int32 × hs_H) := (hf_53 h).bind (fun q1 => if q1.1 < 0 then (hb_107_70 q1.1 q1.2) else ((hf_28_4 0 1 q1.2).bind (fun q3 => (hf_48_5 0 1 q3).bind (fun q4 => (hf_87 0 q4).bind (fun q5 => hs_lp (fun k s => hb_107_49 k s.1 s.2.1 s.2.2) hs_big (q1.1, nI 0, q5))))))
set_option maxHeartbeats 1000000 in
theorem hc_107 {S : hs_S} {D : Nat} {Q : hs_Q} (hD : 7 ≤ D)  {h : hs_H} {r : Int32 × hs_H} (e : hf_107 h = some r) (q : Q (some (hs_i r.1)) r.2) : hs_call hs_ms S D 107 [hs_r 11 0] h Q := by
  refine hs_go (R := 6) hD rfl (Nat.le_of_ble_eq_true rfl) (fun d hd => ?_)
  show hs_W S d 1 hs_p107 Q 0 [hs_r 11 0, hs_u, hs_u] [] h
  unfold hf_107 at e
  obtain ⟨q1, eq1, e⟩ := hs_bind_some e
  try dsimp only at e
  refine hs_wc 3 (y := 53) (a := [hs_r 6 0]) (v := some (hs_i q1.1)) (pc' := 7) (ls' := [hs_r 11 0, hs_u, hs_u]) (st' := []) (h' := h) (h2 := q1.2) (fun n w => w) (fun q => hc_53 (by omega) eq1 q) ?_
  refine hs_wb 3 (c := q1.1 < 0) (t := 70) (f := 12) (ls' := [hs_r 11 0, hs_i q1.1, hs_u]) (st' := []) (h' := q1.2) (fun n w => w) (fun b2 => ?_) (fun b2 => ?_)
  · rw [if_pos b2] at e
    exact hw_107_70 hd e q
  · rw [if_neg b2] at e
    obtain ⟨q3, eq3, e⟩ := hs_bind_some e
    try dsimp only at e
    refine hs_wc 6 (y := 28) (a := [hs_r 4 0, hs_r 4 1]) (v := none) (pc' := 26) (ls' := [hs_r 11 0, hs_i q1.1, hs_u]) (st' := []) (h' := q1.2) (h2 := q3) (fun n w => w) (fun q => hc_28_4 (by omega) eq3 q) ?_
    obtain ⟨q4, eq4, e⟩ := hs_bind_some e
    try dsimp only at e
    refine hs_wc 6 (y := 48) (a := [hs_r 5 0, hs_r 5 1]) (v := none) (pc' := 40) (ls' := [hs_r 11 0, hs_i q1.1, hs_u]) (st' := []) (h' := q3) (h2 := q4) (fun n w => w) (fun q => hc_48_5 (by omega) eq4 q) ?_
    obtain ⟨q5, eq5, e⟩ := hs_bind_some e
    try dsimp only at e
    refine hs_wc 3 (y := 87) (a := [hs_r 9 0]) (v := none) (pc' := 47) (ls' := [hs_r 11 0, hs_i q1.1, hs_u]) (st' := []) (h' := q4) (h2 := q5) (fun n w => w) (fun q => hc_87 (by omega) eq5 q) ?_
    refine hs_w 2 (pc' := 49) (ls' := [hs_r 11 0, hs_i q1.1, hs_i (nI 0)]) (st' := []) (h' := q5) (fun n w => w) ?_
    exact hw_107_49_lp hd hs_big e  q
/-- HuntedScent.fault()I -/
def hf_108  (h : hs_H) : Option (Int32 × hs_H) := some (h.1 6 0 10, h)
set_option maxHeartbeats 1000000 in
theorem hc_108 {S : hs_S} {D : Nat} {Q : hs_Q} (hD : 1 ≤ D)  {h : hs_H} {r : Int32 × hs_H} (e : hf_108 h = some r) (q : Q (some (hs_i r.1)) r.2) : hs_call hs_ms S D 108 [hs_r 11 0] h Q := by
  refine hs_go (R := 0) hD rfl (Nat.le_of_ble_eq_true rfl) (fun d hd => ?_)
  show hs_W S d 1 hs_p108 Q 0 [hs_r 11 0] [] h
  unfold hf_108 at e
  obtain rfl := Option.some.inj e
  exact hs_wr 4 (v := some (hs_i (h.1 6 0 10))) (h' := h) (fun n w => w) q
/-- java/lang/Integer.bitCount(I)I -/
def hf_240 (a0 : Int32) (h : hs_H) : Option (Int32 × hs_H) := some ((((((((a0 - (((a0.toUInt32 >>> ((nI 1).toUInt32 &&& Int32.toUInt32 31)).toInt32) &&& (nI 1431655765))) &&& (nI 858993459)) + ((((a0 - (((a0.toUInt32 >>> ((nI 1).toUInt32 &&& Int32.toUInt32 31)).toInt32) &&& (nI 1431655765))).toUInt32 >>> ((nI 2).toUInt32 &&& Int32.toUInt32 31)).toInt32) &&& (nI 858993459))) + (((((a0 - (((a0.toUInt32 >>> ((nI 1).toUInt32 &&& Int32.toUInt32 31)).toInt32) &&& (nI 1431655765))) &&& (nI 858993459)) + ((((a0 - (((a0.toUInt32 >>> ((nI 1).toUInt32 &&& Int32.toUInt32 31)).toInt32) &&& (nI 1431655765))).toUInt32 >>> ((nI 2).toUInt32 &&& Int32.toUInt32 31)).toInt32) &&& (nI 858993459))).toUInt32 >>> ((nI 4).toUInt32 &&& Int32.toUInt32 31)).toInt32)) &&& (nI 252645135)) + (((((((a0 - (((a0.toUInt32 >>> ((nI 1).toUInt32 &&& Int32.toUInt32 31)).toInt32) &&& (nI 1431655765))) &&& (nI 858993459)) + ((((a0 - (((a0.toUInt32 >>> ((nI 1).toUInt32 &&& Int32.toUInt32 31)).toInt32) &&& (nI 1431655765))).toUInt32 >>> ((nI 2).toUInt32 &&& Int32.toUInt32 31)).toInt32) &&& (nI 858993459))) + (((((a0 - (((a0.toUInt32 >>> ((nI 1).toUInt32 &&& Int32.toUInt32 31)).toInt32) &&& (nI 1431655765))) &&& (nI 858993459)) + ((((a0 - (((a0.toUInt32 >>> ((nI 1).toUInt32 &&& Int32.toUInt32 31)).toInt32) &&& (nI 1431655765))).toUInt32 >>> ((nI 2).toUInt32 &&& Int32.toUInt32 31)).toInt32) &&& (nI 858993459))).toUInt32 >>> ((nI 4).toUInt32 &&& Int32.toUInt32 31)).toInt32)) &&& (nI 252645135)).toUInt32 >>> ((nI 8).toUInt32 &&& Int32.toUInt32 31)).toInt32)) + ((((((((a0 - (((a0.toUInt32 >>> ((nI 1).toUInt32 &&& Int32.toUInt32 31)).toInt32) &&& (nI 1431655765))) &&& (nI 858993459)) + ((((a0 - (((a0.toUInt32 >>> ((nI 1).toUInt32 &&& Int32.toUInt32 31)).toInt32) &&& (nI 1431655765))).toUInt32 >>> ((nI 2).toUInt32 &&& Int32.toUInt32 31)).toInt32) &&& (nI 858993459))) + (((((a0 - (((a0.toUInt32 >>> ((nI 1).toUInt32 &&& Int32.toUInt32 31)).toInt32) &&& (nI 1431655765))) &&& (nI 858993459)) + ((((a0 - (((a0.toUInt32 >>> ((nI 1).toUInt32 &&& Int32.toUInt32 31)).toInt32) &&& (nI 1431655765))).toUInt32 >>> ((nI 2).toUInt32 &&& Int32.toUInt32 31)).toInt32) &&& (nI 858993459))).toUInt32 >>> ((nI 4).toUInt32 &&& Int32.toUInt32 31)).toInt32)) &&& (nI 252645135)) + (((((((a0 - (((a0.toUInt32 >>> ((nI 1).toUInt32 &&& Int32.toUInt32 31)).toInt32) &&& (nI 1431655765))) &&& (nI 858993459)) + ((((a0 - (((a0.toUInt32 >>> ((nI 1).toUInt32 &&& Int32.toUInt32 31)).toInt32) &&& (nI 1431655765))).toUInt32 >>> ((nI 2).toUInt32 &&& Int32.toUInt32 31)).toInt32) &&& (nI 858993459))) + (((((a0 - (((a0.toUInt32 >>> ((nI 1).toUInt32 &&& Int32.toUInt32 31)).toInt32) &&& (nI 1431655765))) &&& (nI 858993459)) + ((((a0 - (((a0.toUInt32 >>> ((nI 1).toUInt32 &&& Int32.toUInt32 31)).toInt32) &&& (nI 1431655765))).toUInt32 >>> ((nI 2).toUInt32 &&& Int32.toUInt32 31)).toInt32) &&& (nI 858993459))).toUInt32 >>> ((nI 4).toUInt32 &&& Int32.toUInt32 31)).toInt32)) &&& (nI 252645135)).toUInt32 >>> ((nI 8).toUInt32 &&& Int32.toUInt32 31)).toInt32)).toUInt32 >>> ((nI 16).toUInt32 &&& Int32.toUInt32 31)).toInt32)) &&& (nI 63), h)
set_option maxHeartbeats 1000000 in
theorem hc_240 {S : hs_S} {D : Nat} {Q : hs_Q} (hD : 1 ≤ D) {a0 : Int32} {h : hs_H} {r : Int32 × hs_H} (e : hf_240 a0 h = some r) (q : Q (some (hs_i r.1)) r.2) : hs_call hs_ms S D 240 [hs_i a0] h Q := by
  refine hs_go (R := 0) hD rfl (Nat.le_of_ble_eq_true rfl) (fun d hd => ?_)
  show hs_W S d 1 hs_p240 Q 0 [hs_i a0] [] h
  unfold hf_240 at e
  obtain rfl := Option.some.inj e
  exact hs_wr 42 (v := some (hs_i ((((((((a0 - (((a0.toUInt32 >>> ((nI 1).toUInt32 &&& Int32.toUInt32 31)).toInt32) &&& (nI 1431655765))) &&& (nI 858993459)) + ((((a0 - (((a0.toUInt32 >>> ((nI 1).toUInt32 &&& Int32.toUInt32 31)).toInt32) &&& (nI 1431655765))).toUInt32 >>> ((nI 2).toUInt32 &&& Int32.toUInt32 31)).toInt32) &&& (nI 858993459))) + (((((a0 - (((a0.toUInt32 >>> ((nI 1).toUInt32 &&& Int32.toUInt32 31)).toInt32) &&& (nI 1431655765))) &&& (nI 858993459)) + ((((a0 - (((a0.toUInt32 >>> ((nI 1).toUInt32 &&& Int32.toUInt32 31)).toInt32) &&& (nI 1431655765))).toUInt32 >>> ((nI 2).toUInt32 &&& Int32.toUInt32 31)).toInt32) &&& (nI 858993459))).toUInt32 >>> ((nI 4).toUInt32 &&& Int32.toUInt32 31)).toInt32)) &&& (nI 252645135)) + (((((((a0 - (((a0.toUInt32 >>> ((nI 1).toUInt32 &&& Int32.toUInt32 31)).toInt32) &&& (nI 1431655765))) &&& (nI 858993459)) + ((((a0 - (((a0.toUInt32 >>> ((nI 1).toUInt32 &&& Int32.toUInt32 31)).toInt32) &&& (nI 1431655765))).toUInt32 >>> ((nI 2).toUInt32 &&& Int32.toUInt32 31)).toInt32) &&& (nI 858993459))) + (((((a0 - (((a0.toUInt32 >>> ((nI 1).toUInt32 &&& Int32.toUInt32 31)).toInt32) &&& (nI 1431655765))) &&& (nI 858993459)) + ((((a0 - (((a0.toUInt32 >>> ((nI 1).toUInt32 &&& Int32.toUInt32 31)).toInt32) &&& (nI 1431655765))).toUInt32 >>> ((nI 2).toUInt32 &&& Int32.toUInt32 31)).toInt32) &&& (nI 858993459))).toUInt32 >>> ((nI 4).toUInt32 &&& Int32.toUInt32 31)).toInt32)) &&& (nI 252645135)).toUInt32 >>> ((nI 8).toUInt32 &&& Int32.toUInt32 31)).toInt32)) + ((((((((a0 - (((a0.toUInt32 >>> ((nI 1).toUInt32 &&& Int32.toUInt32 31)).toInt32) &&& (nI 1431655765))) &&& (nI 858993459)) + ((((a0 - (((a0.toUInt32 >>> ((nI 1).toUInt32 &&& Int32.toUInt32 31)).toInt32) &&& (nI 1431655765))).toUInt32 >>> ((nI 2).toUInt32 &&& Int32.toUInt32 31)).toInt32) &&& (nI 858993459))) + (((((a0 - (((a0.toUInt32 >>> ((nI 1).toUInt32 &&& Int32.toUInt32 31)).toInt32) &&& (nI 1431655765))) &&& (nI 858993459)) + ((((a0 - (((a0.toUInt32 >>> ((nI 1).toUInt32 &&& Int32.toUInt32 31)).toInt32) &&& (nI 1431655765))).toUInt32 >>> ((nI 2).toUInt32 &&& Int32.toUInt32 31)).toInt32) &&& (nI 858993459))).toUInt32 >>> ((nI 4).toUInt32 &&& Int32.toUInt32 31)).toInt32)) &&& (nI 252645135)) + (((((((a0 - (((a0.toUInt32 >>> ((nI 1).toUInt32 &&& Int32.toUInt32 31)).toInt32) &&& (nI 1431655765))) &&& (nI 858993459)) + ((((a0 - (((a0.toUInt32 >>> ((nI 1).toUInt32 &&& Int32.toUInt32 31)).toInt32) &&& (nI 1431655765))).toUInt32 >>> ((nI 2).toUInt32 &&& Int32.toUInt32 31)).toInt32) &&& (nI 858993459))) + (((((a0 - (((a0.toUInt32 >>> ((nI 1).toUInt32 &&& Int32.toUInt32 31)).toInt32) &&& (nI 1431655765))) &&& (nI 858993459)) + ((((a0 - (((a0.toUInt32 >>> ((nI 1).toUInt32 &&& Int32.toUInt32 31)).toInt32) &&& (nI 1431655765))).toUInt32 >>> ((nI 2).toUInt32 &&& Int32.toUInt32 31)).toInt32) &&& (nI 858993459))).toUInt32 >>> ((nI 4).toUInt32 &&& Int32.toUInt32 31)).toInt32)) &&& (nI 252645135)).toUInt32 >>> ((nI 8).toUInt32 &&& Int32.toUInt32 31)).toInt32)).toUInt32 >>> ((nI 16).toUInt32 &&& Int32.toUInt32 31)).toInt32)) &&& (nI 63)))) (h' := h) (fun n w => w) q
def hb_36_4 (o : Nat) (k4 : Int32 × Int32 × hs_H → Option (Int32 × hs_H)) (x1 : Int32) (x2 : Int32)  (h : hs_H) : Option (Int32 × hs_H) := if (nI 10) ≤ x2 then (some (x1 / (nI 2), h)) else (hs_ck (hs_inb x2 10) ((hf_240 (h.1 27 o x2.toNatClampNeg) h).bind (fun q3 => k4 (x1 + q3.1, x2 + nI 1, q3.2))))
set_option maxHeartbeats 1000000 in
theorem hw_36_4 {S : hs_S} {d : Nat} {Q : hs_Q} (hd : 1 ≤ d) {o : Nat} {k4 : Int32 × Int32 × hs_H → Option (Int32 × hs_H)} (hk4 : ∀ (x1 : Int32) (x2 : Int32) (h : hs_H) (r : Int32 × hs_H) , k4 (x1, x2, h) = some r → Q (some (hs_i r.1)) r.2 → hs_W S d 1 hs_p36 Q 4 [hs_r 4 o, hs_i x1, hs_i x2] [] h) {x1 : Int32} {x2 : Int32}   {h : hs_H} {r : Int32 × hs_H} (e : hb_36_4 o k4 x1 x2 h = some r) (q : Q (some (hs_i r.1)) r.2) : hs_W S d 1 hs_p36 Q 4 [hs_r 4 o, hs_i x1, hs_i x2] [] h := by
  unfold hb_36_4 at e
  refine hs_wb 3 (c := (nI 10) ≤ x2) (t := 28) (f := 10) (ls' := [hs_r 4 o, hs_i x1, hs_i x2]) (st' := []) (h' := h) (fun n w => w) (fun b1 => ?_) (fun b1 => ?_)
  · rw [if_pos b1] at e
    refine hs_wa 3 (c := ¬ nI 2 = 0) (pc' := 31) (ls' := [hs_r 4 o, hs_i x1, hs_i x2]) (st' := [hs_i (x1 / (nI 2))]) (h' := h) (fun n w => w) (nI_ne0 (Nat.le_of_ble_eq_true rfl) (Nat.le_of_ble_eq_true rfl)) ?_
    obtain rfl := Option.some.inj e
    exact hs_wr 1 (v := some (hs_i (x1 / (nI 2)))) (h' := h) (fun n w => w) q
  · rw [if_neg b1] at e
    obtain ⟨c2, e⟩ := hs_ck_some e
    refine hs_wa 5 (c := vp_in x2 10) (pc' := 17) (ls' := [hs_r 4 o, hs_i x1, hs_i x2]) (st' := [hs_i (h.1 27 o x2.toNatClampNeg), hs_i x1]) (h' := h) (fun n w => w) (hs_inb_iff.mp c2) ?_
    obtain ⟨q3, eq3, e⟩ := hs_bind_some e
    try dsimp only at e
    refine hs_wc 1 (y := 240) (a := [hs_i (h.1 27 o x2.toNatClampNeg)]) (v := some (hs_i q3.1)) (pc' := 20) (ls' := [hs_r 4 o, hs_i x1, hs_i x2]) (st' := [hs_i x1]) (h' := h) (h2 := q3.2) (fun n w => w) (fun q => hc_240 (by omega) eq3 q) ?_
    refine hs_w 4 (pc' := 4) (ls' := [hs_r 4 o, hs_i (x1 + q3.1), hs_i (x2 + nI 1)]) (st' := []) (h' := q3.2) (fun n w => w) ?_
    exact hk4 _ _ _ _  e q
theorem hw_36_4_lp {S : hs_S} {d : Nat} {Q : hs_Q} (hd : 1 ≤ d) {o : Nat}   (n : Nat) {x1 : Int32} {x2 : Int32} {h : hs_H} {r : Int32 × hs_H} (e : hs_lp (fun k s => hb_36_4 o k s.1 s.2.1 s.2.2) n (x1, x2, h) = some r)  (q : Q (some (hs_i r.1)) r.2) : hs_W S d 1 hs_p36 Q 4 [hs_r 4 o, hs_i x1, hs_i x2] [] h := by
  refine hs_lp_ind (P := fun (s : Int32 × Int32 × hs_H) (r : Int32 × hs_H) => ∀ (_ : True), Q (some (hs_i r.1)) r.2 → hs_W S d 1 hs_p36 Q 4 [hs_r 4 o, hs_i s.1, hs_i s.2.1] [] s.2.2) (fun k hk s r e _ q => ?_) n (x1, x2, h) r e trivial q
  exact hw_36_4 hd (fun x1 x2 h r  e q => hk (x1, x2, h) r e trivial q) e q
/-- HuntedScent$Net.laneCount()I -/
def hf_36 (o : Nat) (h : hs_H) : Option (Int32 × hs_H) := hs_lp (fun k s => hb_36_4 o k s.1 s.2.1 s.2.2) hs_big (nI 0, nI 0, h)
set_option maxHeartbeats 1000000 in
theorem hc_36 {S : hs_S} {D : Nat} {Q : hs_Q} (hD : 2 ≤ D) {o : Nat} {h : hs_H} {r : Int32 × hs_H} (e : hf_36 o h = some r) (q : Q (some (hs_i r.1)) r.2) : hs_call hs_ms S D 36 [hs_r 4 o] h Q := by
  refine hs_go (R := 1) hD rfl (Nat.le_of_ble_eq_true rfl) (fun d hd => ?_)
  show hs_W S d 1 hs_p36 Q 0 [hs_r 4 o, hs_u, hs_u] [] h
  unfold hf_36 at e
  refine hs_w 4 (pc' := 4) (ls' := [hs_r 4 o, hs_i (nI 0), hs_i (nI 0)]) (st' := []) (h' := h) (fun n w => w) ?_
  exact hw_36_4_lp hd hs_big e  q
/-- HuntedScent.rule(I)I -/
def hf_109 (a1 : Int32) (h : hs_H) : Option (Int32 × hs_H) := if a1 = nI 0 then (some (h.1 4 0 1, h)) else (if a1 = nI 1 then ((hf_36 0 h).bind (fun q3 => some (q3.1, q3.2))) else (if a1 = nI 2 then (some (h.1 4 0 2, h)) else (if a1 = nI 3 then (some (h.1 4 0 3, h)) else (if a1 = nI 4 then (some (h.1 4 0 4, h)) else (if a1 = nI 5 then (some (h.1 4 0 5, h)) else (some (nI 4294967295, h)))))))
set_option maxHeartbeats 1000000 in
theorem hc_109 {S : hs_S} {D : Nat} {Q : hs_Q} (hD : 3 ≤ D) {a1 : Int32} {h : hs_H} {r : Int32 × hs_H} (e : hf_109 a1 h = some r) (q : Q (some (hs_i r.1)) r.2) : hs_call hs_ms S D 109 [hs_r 11 0, hs_i a1] h Q := by
  refine hs_go (R := 2) hD rfl (Nat.le_of_ble_eq_true rfl) (fun d hd => ?_)
  show hs_W S d 1 hs_p109 Q 0 [hs_r 11 0, hs_i a1] [] h
  unfold hf_109 at e
  refine hs_ws1 2 (df := 88) (x := a1) (ps := [0, 40, 1, 48, 2, 56, 3, 64, 4, 72, 5, 80]) (ls' := [hs_r 11 0, hs_i a1]) (st' := []) (h' := h) (fun n w => w) ?_
  refine hs_ws2 (fun b1 => ?_) (fun b1 => ?_)
  · rw [if_pos b1] at e
    obtain rfl := Option.some.inj e
    exact hs_wr 4 (v := some (hs_i (h.1 4 0 1))) (h' := h) (fun n w => w) q
  rw [if_neg b1] at e
  refine hs_ws2 (fun b2 => ?_) (fun b2 => ?_)
  · rw [if_pos b2] at e
    obtain ⟨q3, eq3, e⟩ := hs_bind_some e
    try dsimp only at e
    refine hs_wc 3 (y := 36) (a := [hs_r 4 0]) (v := some (hs_i q3.1)) (pc' := 55) (ls' := [hs_r 11 0, hs_i a1]) (st' := []) (h' := h) (h2 := q3.2) (fun n w => w) (fun q => hc_36 (by omega) eq3 q) ?_
    obtain rfl := Option.some.inj e
    exact hs_wr 1 (v := some (hs_i q3.1)) (h' := q3.2) (fun n w => w) q
  rw [if_neg b2] at e
  refine hs_ws2 (fun b4 => ?_) (fun b4 => ?_)
  · rw [if_pos b4] at e
    obtain rfl := Option.some.inj e
    exact hs_wr 4 (v := some (hs_i (h.1 4 0 2))) (h' := h) (fun n w => w) q
  rw [if_neg b4] at e
  refine hs_ws2 (fun b5 => ?_) (fun b5 => ?_)
  · rw [if_pos b5] at e
    obtain rfl := Option.some.inj e
    exact hs_wr 4 (v := some (hs_i (h.1 4 0 3))) (h' := h) (fun n w => w) q
  rw [if_neg b5] at e
  refine hs_ws2 (fun b6 => ?_) (fun b6 => ?_)
  · rw [if_pos b6] at e
    obtain rfl := Option.some.inj e
    exact hs_wr 4 (v := some (hs_i (h.1 4 0 4))) (h' := h) (fun n w => w) q
  rw [if_neg b6] at e
  refine hs_ws2 (fun b7 => ?_) (fun b7 => ?_)
  · rw [if_pos b7] at e
    obtain rfl := Option.some.inj e
    exact hs_wr 4 (v := some (hs_i (h.1 4 0 5))) (h' := h) (fun n w => w) q
  rw [if_neg b7] at e
  refine hs_ws3 ?_
  obtain rfl := Option.some.inj e
  exact hs_wr 2 (v := some (hs_i (nI 4294967295))) (h' := h) (fun n w => w) q
def hb_29_17 (o : Nat)   (s0 : Int32) (h : hs_H) : Option (Int32 × hs_H) := hs_ck (hs_b01 s0) (some (s0, h))
set_option maxHeartbeats 1000000 in
theorem hw_29_17 {S : hs_S} {d : Nat} {Q : hs_Q} (hd : 0 ≤ d) {o : Nat}    {s0 : Int32} {v1 : hs_V} {h : hs_H} {r : Int32 × hs_H} (e : hb_29_17 o s0 h = some r) (q : Q (some (hs_i r.1)) r.2) : hs_W S d 2 hs_p29 Q 17 [hs_r 4 o, v1] [hs_i s0] h := by
  unfold hb_29_17 at e
  obtain ⟨c2, e⟩ := hs_ck_some e
  obtain rfl := Option.some.inj e
  exact hs_wra 1 (c := s0 = 0 ∨ s0 = 1) (v := some (hs_i s0)) (h' := h) (fun n w => w) (hs_b01_iff.mp c2) q
def hb_29_16 (o : Nat)    (h : hs_H) : Option (Int32 × hs_H) := hb_29_17 o (nI 0) h
set_option maxHeartbeats 1000000 in
theorem hw_29_16 {S : hs_S} {d : Nat} {Q : hs_Q} (hd : 0 ≤ d) {o : Nat}     {v1 : hs_V} {h : hs_H} {r : Int32 × hs_H} (e : hb_29_16 o h = some r) (q : Q (some (hs_i r.1)) r.2) : hs_W S d 2 hs_p29 Q 16 [hs_r 4 o, v1] [] h := by
  unfold hb_29_16 at e
  refine hs_w 1 (pc' := 17) (ls' := [hs_r 4 o, v1]) (st' := [hs_i (nI 0)]) (h' := h) (fun n w => w) ?_
  exact hw_29_17 hd e q
/-- HuntedScent$Net.has(I)Z -/
def hf_29 (o : Nat) (a1 : Int32) (h : hs_H) : Option (Int32 × hs_H) := if a1 < 0 then (hb_29_16 o h) else (if (h.1 4 o 1) ≤ a1 then (hb_29_16 o h) else (hb_29_17 o (nI 1) h))
set_option maxHeartbeats 1000000 in
theorem hc_29 {S : hs_S} {D : Nat} {Q : hs_Q} (hD : 1 ≤ D) {o : Nat} {a1 : Int32} {h : hs_H} {r : Int32 × hs_H} (e : hf_29 o a1 h = some r) (q : Q (some (hs_i r.1)) r.2) : hs_call hs_ms S D 29 [hs_r 4 o, hs_i a1] h Q := by
  refine hs_go (R := 0) hD rfl (Nat.le_of_ble_eq_true rfl) (fun d hd => ?_)
  show hs_W S d 2 hs_p29 Q 0 [hs_r 4 o, hs_i a1] [] h
  unfold hf_29 at e
  refine hs_wb 2 (c := a1 < 0) (t := 16) (f := 4) (ls' := [hs_r 4 o, hs_i a1]) (st' := []) (h' := h) (fun n w => w) (fun b1 => ?_) (fun b1 => ?_)
  · rw [if_pos b1] at e
    exact hw_29_16 hd e q
  · rw [if_neg b1] at e
    refine hs_wb 4 (c := (h.1 4 o 1) ≤ a1) (t := 16) (f := 12) (ls' := [hs_r 4 o, hs_i a1]) (st' := []) (h' := h) (fun n w => w) (fun b3 => ?_) (fun b3 => ?_)
    · rw [if_pos b3] at e
      exact hw_29_16 hd e q
    · rw [if_neg b3] at e
      refine hs_w 2 (pc' := 17) (ls' := [hs_r 4 o, hs_i a1]) (st' := [hs_i (nI 1)]) (h' := h) (fun n w => w) ?_
      exact hw_29_17 hd e q
def hb_110_23    (s0 : Int32) (h : hs_H) : Option (Int32 × hs_H) := some (s0, h)
set_option maxHeartbeats 1000000 in
theorem hw_110_23 {S : hs_S} {d : Nat} {Q : hs_Q} (hd : 1 ≤ d)     {s0 : Int32} {v1 : hs_V} {h : hs_H} {r : Int32 × hs_H} (e : hb_110_23 s0 h = some r) (q : Q (some (hs_i r.1)) r.2) : hs_W S d 1 hs_p110 Q 23 [hs_r 11 0, v1] [hs_i s0] h := by
  unfold hb_110_23 at e
  obtain rfl := Option.some.inj e
  exact hs_wr 1 (v := some (hs_i s0)) (h' := h) (fun n w => w) q
/-- HuntedScent.lanes(I)I -/
def hf_110 (a1 : Int32) (h : hs_H) : Option (Int32 × hs_H) := (hf_29 0 a1 h).bind (fun q1 => if q1.1 = 0 then (hb_110_23 (nI 4294967295) q1.2) else ((hf_32 0 a1 q1.2).bind (fun q3 => hb_110_23 q3.1 q3.2)))
set_option maxHeartbeats 1000000 in
theorem hc_110 {S : hs_S} {D : Nat} {Q : hs_Q} (hD : 2 ≤ D) {a1 : Int32} {h : hs_H} {r : Int32 × hs_H} (e : hf_110 a1 h = some r) (q : Q (some (hs_i r.1)) r.2) : hs_call hs_ms S D 110 [hs_r 11 0, hs_i a1] h Q := by
  refine hs_go (R := 1) hD rfl (Nat.le_of_ble_eq_true rfl) (fun d hd => ?_)
  show hs_W S d 1 hs_p110 Q 0 [hs_r 11 0, hs_i a1] [] h
  unfold hf_110 at e
  obtain ⟨q1, eq1, e⟩ := hs_bind_some e
  try dsimp only at e
  refine hs_wc 4 (y := 29) (a := [hs_r 4 0, hs_i a1]) (v := some (hs_i q1.1)) (pc' := 8) (ls' := [hs_r 11 0, hs_i a1]) (st' := []) (h' := h) (h2 := q1.2) (fun n w => w) (fun q => hc_29 (by omega) eq1 q) ?_
  refine hs_wb 1 (c := q1.1 = 0) (t := 22) (f := 11) (ls' := [hs_r 11 0, hs_i a1]) (st' := []) (h' := q1.2) (fun n w => w) (fun b2 => ?_) (fun b2 => ?_)
  · rw [if_pos b2] at e
    refine hs_w 1 (pc' := 23) (ls' := [hs_r 11 0, hs_i a1]) (st' := [hs_i (nI 4294967295)]) (h' := q1.2) (fun n w => w) ?_
    exact hw_110_23 hd e q
  · rw [if_neg b2] at e
    obtain ⟨q3, eq3, e⟩ := hs_bind_some e
    try dsimp only at e
    refine hs_wc 4 (y := 32) (a := [hs_r 4 0, hs_i a1]) (v := some (hs_i q3.1)) (pc' := 19) (ls' := [hs_r 11 0, hs_i a1]) (st' := []) (h' := q1.2) (h2 := q3.2) (fun n w => w) (fun q => hc_32 (by omega) eq3 q) ?_
    refine hs_w 1 (pc' := 23) (ls' := [hs_r 11 0, hs_i a1]) (st' := [hs_i q3.1]) (h' := q3.2) (fun n w => w) ?_
    exact hw_110_23 hd e q
def hb_111_27     (h : hs_H) : Option (Int32 × hs_H) := some (nI 4294967295, h)
set_option maxHeartbeats 1000000 in
theorem hw_111_27 {S : hs_S} {d : Nat} {Q : hs_Q} (hd : 2 ≤ d)      {v1 : hs_V} {v2 : hs_V} {v3 : hs_V} {v4 : hs_V} {h : hs_H} {r : Int32 × hs_H} (e : hb_111_27 h = some r) (q : Q (some (hs_i r.1)) r.2) : hs_W S d 1 hs_p111 Q 27 [hs_r 11 0, v1, v2, v3, v4] [] h := by
  unfold hb_111_27 at e
  obtain rfl := Option.some.inj e
  exact hs_wr 2 (v := some (hs_i (nI 4294967295))) (h' := h) (fun n w => w) q
def hb_111_46   (x1 : Int32) (x2 : Int32) (x3 : Int32) (s0 : Int32) (h : hs_H) : Option (Int32 × hs_H) := (hf_34 0 x1 x2 x3 h).bind (fun q8 => some (s0, q8))
set_option maxHeartbeats 1000000 in
theorem hw_111_46 {S : hs_S} {d : Nat} {Q : hs_Q} (hd : 2 ≤ d)    {x1 : Int32} {x2 : Int32} {x3 : Int32} {s0 : Int32} {v4 : hs_V} {h : hs_H} {r : Int32 × hs_H} (e : hb_111_46 x1 x2 x3 s0 h = some r) (q : Q (some (hs_i r.1)) r.2) : hs_W S d 1 hs_p111 Q 46 [hs_r 11 0, hs_i x1, hs_i x2, hs_i x3, v4] [hs_i s0] h := by
  unfold hb_111_46 at e
  obtain ⟨q8, eq8, e⟩ := hs_bind_some e
  try dsimp only at e
  refine hs_wc 7 (y := 34) (a := [hs_r 4 0, hs_i x1, hs_i x2, hs_i x3]) (v := none) (pc' := 58) (ls' := [hs_r 11 0, hs_i x1, hs_i x2, hs_i x3, hs_i s0]) (st' := []) (h' := h) (h2 := q8) (fun n w => w) (fun q => hc_34 (by omega) eq8 q) ?_
  obtain rfl := Option.some.inj e
  exact hs_wr 2 (v := some (hs_i s0)) (h' := q8) (fun n w => w) q
/-- HuntedScent.join(IIZ)I -/
def hf_111 (a1 : Int32) (a2 : Int32) (a3 : Int32) (h : hs_H) : Option (Int32 × hs_H) := (hf_29 0 a1 h).bind (fun q1 => if q1.1 = 0 then (hb_111_27 q1.2) else ((hf_29 0 a2 q1.2).bind (fun q3 => if q3.1 = 0 then (hb_111_27 q3.2) else (if ¬ a1 = a2 then ((hf_33 0 a1 a2 q3.2).bind (fun q6 => if q6.1 = 0 then (hb_111_46 a1 a2 a3 (nI 0) q6.2) else (hb_111_46 a1 a2 a3 (nI 1) q6.2))) else (hb_111_27 q3.2)))))
set_option maxHeartbeats 1000000 in
theorem hc_111 {S : hs_S} {D : Nat} {Q : hs_Q} (hD : 3 ≤ D) {a1 : Int32} {a2 : Int32} {a3 : Int32} {h : hs_H} {r : Int32 × hs_H} (e : hf_111 a1 a2 a3 h = some r) (q : Q (some (hs_i r.1)) r.2) : hs_call hs_ms S D 111 [hs_r 11 0, hs_i a1, hs_i a2, hs_i a3] h Q := by
  refine hs_go (R := 2) hD rfl (Nat.le_of_ble_eq_true rfl) (fun d hd => ?_)
  show hs_W S d 1 hs_p111 Q 0 [hs_r 11 0, hs_i a1, hs_i a2, hs_i a3, hs_u] [] h
  unfold hf_111 at e
  obtain ⟨q1, eq1, e⟩ := hs_bind_some e
  try dsimp only at e
  refine hs_wc 4 (y := 29) (a := [hs_r 4 0, hs_i a1]) (v := some (hs_i q1.1)) (pc' := 8) (ls' := [hs_r 11 0, hs_i a1, hs_i a2, hs_i a3, hs_u]) (st' := []) (h' := h) (h2 := q1.2) (fun n w => w) (fun q => hc_29 (by omega) eq1 q) ?_
  refine hs_wb 1 (c := q1.1 = 0) (t := 27) (f := 11) (ls' := [hs_r 11 0, hs_i a1, hs_i a2, hs_i a3, hs_u]) (st' := []) (h' := q1.2) (fun n w => w) (fun b2 => ?_) (fun b2 => ?_)
  · rw [if_pos b2] at e
    exact hw_111_27 hd e q
  · rw [if_neg b2] at e
    obtain ⟨q3, eq3, e⟩ := hs_bind_some e
    try dsimp only at e
    refine hs_wc 4 (y := 29) (a := [hs_r 4 0, hs_i a2]) (v := some (hs_i q3.1)) (pc' := 19) (ls' := [hs_r 11 0, hs_i a1, hs_i a2, hs_i a3, hs_u]) (st' := []) (h' := q1.2) (h2 := q3.2) (fun n w => w) (fun q => hc_29 (by omega) eq3 q) ?_
    refine hs_wb 1 (c := q3.1 = 0) (t := 27) (f := 22) (ls' := [hs_r 11 0, hs_i a1, hs_i a2, hs_i a3, hs_u]) (st' := []) (h' := q3.2) (fun n w => w) (fun b4 => ?_) (fun b4 => ?_)
    · rw [if_pos b4] at e
      exact hw_111_27 hd e q
    · rw [if_neg b4] at e
      refine hs_wb 3 (c := ¬ a1 = a2) (t := 29) (f := 27) (ls' := [hs_r 11 0, hs_i a1, hs_i a2, hs_i a3, hs_u]) (st' := []) (h' := q3.2) (fun n w => w) (fun b5 => ?_) (fun b5 => ?_)
      · rw [if_pos b5] at e
        obtain ⟨q6, eq6, e⟩ := hs_bind_some e
        try dsimp only at e
        refine hs_wc 5 (y := 33) (a := [hs_r 4 0, hs_i a1, hs_i a2]) (v := some (hs_i q6.1)) (pc' := 38) (ls' := [hs_r 11 0, hs_i a1, hs_i a2, hs_i a3, hs_u]) (st' := []) (h' := q3.2) (h2 := q6.2) (fun n w => w) (fun q => hc_33 (by omega) eq6 q) ?_
        refine hs_wb 1 (c := q6.1 = 0) (t := 45) (f := 41) (ls' := [hs_r 11 0, hs_i a1, hs_i a2, hs_i a3, hs_u]) (st' := []) (h' := q6.2) (fun n w => w) (fun b7 => ?_) (fun b7 => ?_)
        · rw [if_pos b7] at e
          refine hs_w 1 (pc' := 46) (ls' := [hs_r 11 0, hs_i a1, hs_i a2, hs_i a3, hs_u]) (st' := [hs_i (nI 0)]) (h' := q6.2) (fun n w => w) ?_
          exact hw_111_46 hd e q
        · rw [if_neg b7] at e
          refine hs_w 2 (pc' := 46) (ls' := [hs_r 11 0, hs_i a1, hs_i a2, hs_i a3, hs_u]) (st' := [hs_i (nI 1)]) (h' := q6.2) (fun n w => w) ?_
          exact hw_111_46 hd e q
      · rw [if_neg b5] at e
        exact hw_111_27 hd e q
/-- HuntedScent$Net.tellStart(I)V -/
def hf_35 (o : Nat) (a1 : Int32) (h : hs_H) : Option (hs_H) := some (hs_put (hs_put h 4 o 3 a1) 4 o 6 (((hs_put h 4 o 3 a1).1 4 o 6) + (nI 1)))
set_option maxHeartbeats 1000000 in
theorem hc_35 {S : hs_S} {D : Nat} {Q : hs_Q} (hD : 1 ≤ D) {o : Nat} {a1 : Int32} {h : hs_H} {r : hs_H} (e : hf_35 o a1 h = some r) (q : Q none r) : hs_call hs_ms S D 35 [hs_r 4 o, hs_i a1] h Q := by
  refine hs_go (R := 0) hD rfl (Nat.le_of_ble_eq_true rfl) (fun d hd => ?_)
  show hs_W S d 0 hs_p35 Q 0 [hs_r 4 o, hs_i a1] [] h
  unfold hf_35 at e
  obtain rfl := Option.some.inj e
  exact hs_wr 10 (v := none) (h' := hs_put (hs_put h 4 o 3 a1) 4 o 6 (((hs_put h 4 o 3 a1).1 4 o 6) + (nI 1))) (fun n w => w) q
def hb_112_19   (x1 : Int32)  (h : hs_H) : Option (Int32 × hs_H) := (hf_35 0 x1 h).bind (fun q2 => some (h.1 4 0 3, q2))
set_option maxHeartbeats 1000000 in
theorem hw_112_19 {S : hs_S} {d : Nat} {Q : hs_Q} (hd : 1 ≤ d)    {x1 : Int32}  {v2 : hs_V} {h : hs_H} {r : Int32 × hs_H} (e : hb_112_19 x1 h = some r) (q : Q (some (hs_i r.1)) r.2) : hs_W S d 1 hs_p112 Q 19 [hs_r 11 0, hs_i x1, v2] [] h := by
  unfold hb_112_19 at e
  obtain ⟨q2, eq2, e⟩ := hs_bind_some e
  try dsimp only at e
  refine hs_wc 8 (y := 35) (a := [hs_r 4 0, hs_i x1]) (v := none) (pc' := 35) (ls' := [hs_r 11 0, hs_i x1, hs_i (h.1 4 0 3)]) (st' := []) (h' := h) (h2 := q2) (fun n w => w) (fun q => hc_35 (by omega) eq2 q) ?_
  obtain rfl := Option.some.inj e
  exact hs_wr 2 (v := some (hs_i (h.1 4 0 3))) (h' := q2) (fun n w => w) q
/-- HuntedScent.start(I)I -/
def hf_112 (a1 : Int32) (h : hs_H) : Option (Int32 × hs_H) := if a1 = (nI 4294967292) then (hb_112_19 a1 h) else ((hf_29 0 a1 h).bind (fun q3 => if ¬ q3.1 = 0 then (hb_112_19 a1 q3.2) else (some (nI 4294967295, q3.2))))
set_option maxHeartbeats 1000000 in
theorem hc_112 {S : hs_S} {D : Nat} {Q : hs_Q} (hD : 2 ≤ D) {a1 : Int32} {h : hs_H} {r : Int32 × hs_H} (e : hf_112 a1 h = some r) (q : Q (some (hs_i r.1)) r.2) : hs_call hs_ms S D 112 [hs_r 11 0, hs_i a1] h Q := by
  refine hs_go (R := 1) hD rfl (Nat.le_of_ble_eq_true rfl) (fun d hd => ?_)
  show hs_W S d 1 hs_p112 Q 0 [hs_r 11 0, hs_i a1, hs_u] [] h
  unfold hf_112 at e
  refine hs_wb 3 (c := a1 = (nI 4294967292)) (t := 19) (f := 6) (ls' := [hs_r 11 0, hs_i a1, hs_u]) (st' := []) (h' := h) (fun n w => w) (fun b1 => ?_) (fun b1 => ?_)
  · rw [if_pos b1] at e
    exact hw_112_19 hd e q
  · rw [if_neg b1] at e
    obtain ⟨q3, eq3, e⟩ := hs_bind_some e
    try dsimp only at e
    refine hs_wc 4 (y := 29) (a := [hs_r 4 0, hs_i a1]) (v := some (hs_i q3.1)) (pc' := 14) (ls' := [hs_r 11 0, hs_i a1, hs_u]) (st' := []) (h' := h) (h2 := q3.2) (fun n w => w) (fun q => hc_29 (by omega) eq3 q) ?_
    refine hs_wb 1 (c := ¬ q3.1 = 0) (t := 19) (f := 17) (ls' := [hs_r 11 0, hs_i a1, hs_u]) (st' := []) (h' := q3.2) (fun n w => w) (fun b4 => ?_) (fun b4 => ?_)
    · rw [if_pos b4] at e
      exact hw_112_19 hd e q
    · rw [if_neg b4] at e
      obtain rfl := Option.some.inj e
      exact hs_wr 2 (v := some (hs_i (nI 4294967295))) (h' := q3.2) (fun n w => w) q
def hb_42_30 (o : Nat) (k4 : Int32 × Int32 × Int32 × hs_H → Option (Int32 × hs_H)) (x1 : Int32) (x3 : Int32) (s0 : Int32) (s1 : Int32) (h : hs_H) : Option (Int32 × hs_H) := k4 (x1, s1 ||| s0, x3 + nI 1, h)
set_option maxHeartbeats 1000000 in
theorem hw_42_30 {S : hs_S} {d : Nat} {Q : hs_Q} (hd : 1 ≤ d) {o : Nat} {k4 : Int32 × Int32 × Int32 × hs_H → Option (Int32 × hs_H)} (hk4 : ∀ (x1 : Int32) (x2 : Int32) (x3 : Int32) (h : hs_H) (r : Int32 × hs_H) , k4 (x1, x2, x3, h) = some r → Q (some (hs_i r.1)) r.2 → hs_W S d 1 hs_p42 Q 4 [hs_r 4 o, hs_i x1, hs_i x2, hs_i x3] [] h) {x1 : Int32} {x3 : Int32} {s0 : Int32} {s1 : Int32} {v2 : hs_V} {h : hs_H} {r : Int32 × hs_H} (e : hb_42_30 o k4 x1 x3 s0 s1 h = some r) (q : Q (some (hs_i r.1)) r.2) : hs_W S d 1 hs_p42 Q 30 [hs_r 4 o, hs_i x1, v2, hs_i x3] [hs_i s0, hs_i s1] h := by
  unfold hb_42_30 at e
  refine hs_w 4 (pc' := 4) (ls' := [hs_r 4 o, hs_i x1, hs_i (s1 ||| s0), hs_i (x3 + nI 1)]) (st' := []) (h' := h) (fun n w => w) ?_
  exact hk4 _ _ _ _ _  e q
def hb_42_4 (o : Nat) (k4 : Int32 × Int32 × Int32 × hs_H → Option (Int32 × hs_H)) (x1 : Int32) (x2 : Int32) (x3 : Int32)  (h : hs_H) : Option (Int32 × hs_H) := if (h.1 4 o 1) ≤ x3 then (some (x2, h)) else ((hf_147 x1 x3 h).bind (fun q2 => if q2.1 = 0 then (hb_42_30 o k4 x1 x3 (nI 0) x2 q2.2) else ((hf_32 o x3 q2.2).bind (fun q4 => hb_42_30 o k4 x1 x3 q4.1 x2 q4.2))))
set_option maxHeartbeats 1000000 in
theorem hw_42_4 {S : hs_S} {d : Nat} {Q : hs_Q} (hd : 1 ≤ d) {o : Nat} {k4 : Int32 × Int32 × Int32 × hs_H → Option (Int32 × hs_H)} (hk4 : ∀ (x1 : Int32) (x2 : Int32) (x3 : Int32) (h : hs_H) (r : Int32 × hs_H) , k4 (x1, x2, x3, h) = some r → Q (some (hs_i r.1)) r.2 → hs_W S d 1 hs_p42 Q 4 [hs_r 4 o, hs_i x1, hs_i x2, hs_i x3] [] h) {x1 : Int32} {x2 : Int32} {x3 : Int32}   {h : hs_H} {r : Int32 × hs_H} (e : hb_42_4 o k4 x1 x2 x3 h = some r) (q : Q (some (hs_i r.1)) r.2) : hs_W S d 1 hs_p42 Q 4 [hs_r 4 o, hs_i x1, hs_i x2, hs_i x3] [] h := by
  unfold hb_42_4 at e
  refine hs_wb 4 (c := (h.1 4 o 1) ≤ x3) (t := 38) (f := 12) (ls' := [hs_r 4 o, hs_i x1, hs_i x2, hs_i x3]) (st' := []) (h' := h) (fun n w => w) (fun b1 => ?_) (fun b1 => ?_)
  · rw [if_pos b1] at e
    obtain rfl := Option.some.inj e
    exact hs_wr 2 (v := some (hs_i x2)) (h' := h) (fun n w => w) q
  · rw [if_neg b1] at e
    obtain ⟨q2, eq2, e⟩ := hs_bind_some e
    try dsimp only at e
    refine hs_wc 4 (y := 147) (a := [hs_i x1, hs_i x3]) (v := some (hs_i q2.1)) (pc' := 18) (ls' := [hs_r 4 o, hs_i x1, hs_i x2, hs_i x3]) (st' := [hs_i x2]) (h' := h) (h2 := q2.2) (fun n w => w) (fun q => hc_147 (by omega) eq2 q) ?_
    refine hs_wb 1 (c := q2.1 = 0) (t := 29) (f := 21) (ls' := [hs_r 4 o, hs_i x1, hs_i x2, hs_i x3]) (st' := [hs_i x2]) (h' := q2.2) (fun n w => w) (fun b3 => ?_) (fun b3 => ?_)
    · rw [if_pos b3] at e
      refine hs_w 1 (pc' := 30) (ls' := [hs_r 4 o, hs_i x1, hs_i x2, hs_i x3]) (st' := [hs_i (nI 0), hs_i x2]) (h' := q2.2) (fun n w => w) ?_
      exact hw_42_30 hd hk4 e q
    · rw [if_neg b3] at e
      obtain ⟨q4, eq4, e⟩ := hs_bind_some e
      try dsimp only at e
      refine hs_wc 3 (y := 32) (a := [hs_r 4 o, hs_i x3]) (v := some (hs_i q4.1)) (pc' := 26) (ls' := [hs_r 4 o, hs_i x1, hs_i x2, hs_i x3]) (st' := [hs_i x2]) (h' := q2.2) (h2 := q4.2) (fun n w => w) (fun q => hc_32 (by omega) eq4 q) ?_
      refine hs_w 1 (pc' := 30) (ls' := [hs_r 4 o, hs_i x1, hs_i x2, hs_i x3]) (st' := [hs_i q4.1, hs_i x2]) (h' := q4.2) (fun n w => w) ?_
      exact hw_42_30 hd hk4 e q
theorem hw_42_4_lp {S : hs_S} {d : Nat} {Q : hs_Q} (hd : 1 ≤ d) {o : Nat}   (n : Nat) {x1 : Int32} {x2 : Int32} {x3 : Int32} {h : hs_H} {r : Int32 × hs_H} (e : hs_lp (fun k s => hb_42_4 o k s.1 s.2.1 s.2.2.1 s.2.2.2) n (x1, x2, x3, h) = some r)  (q : Q (some (hs_i r.1)) r.2) : hs_W S d 1 hs_p42 Q 4 [hs_r 4 o, hs_i x1, hs_i x2, hs_i x3] [] h := by
  refine hs_lp_ind (P := fun (s : Int32 × Int32 × Int32 × hs_H) (r : Int32 × hs_H) => ∀ (_ : True), Q (some (hs_i r.1)) r.2 → hs_W S d 1 hs_p42 Q 4 [hs_r 4 o, hs_i s.1, hs_i s.2.1, hs_i s.2.2.1] [] s.2.2.2) (fun k hk s r e _ q => ?_) n (x1, x2, x3, h) r e trivial q
  exact hw_42_4 hd (fun x1 x2 x3 h r  e q => hk (x1, x2, x3, h) r e trivial q) e q
/-- HuntedScent$Net.neighboursOfAll(I)I -/
def hf_42 (o : Nat) (a1 : Int32) (h : hs_H) : Option (Int32 × hs_H) := hs_lp (fun k s => hb_42_4 o k s.1 s.2.1 s.2.2.1 s.2.2.2) hs_big (a1, nI 0, nI 0, h)
set_option maxHeartbeats 1000000 in
theorem hc_42 {S : hs_S} {D : Nat} {Q : hs_Q} (hD : 2 ≤ D) {o : Nat} {a1 : Int32} {h : hs_H} {r : Int32 × hs_H} (e : hf_42 o a1 h = some r) (q : Q (some (hs_i r.1)) r.2) : hs_call hs_ms S D 42 [hs_r 4 o, hs_i a1] h Q := by
  refine hs_go (R := 1) hD rfl (Nat.le_of_ble_eq_true rfl) (fun d hd => ?_)
  show hs_W S d 1 hs_p42 Q 0 [hs_r 4 o, hs_i a1, hs_u, hs_u] [] h
  unfold hf_42 at e
  refine hs_w 4 (pc' := 4) (ls' := [hs_r 4 o, hs_i a1, hs_i (nI 0), hs_i (nI 0)]) (st' := []) (h' := h) (fun n w => w) ?_
  exact hw_42_4_lp hd hs_big e  q
def hb_43_7 (o : Nat) (k7 : Int32 × Int32 × Int32 × hs_H → Option (Int32 × hs_H)) (x2 : Int32) (x3 : Int32) (x4 : Int32)  (h : hs_H) : Option (Int32 × hs_H) := if (h.1 4 o 1) ≤ x4 then (some (nI 4294967292, h)) else ((hf_147 x3 x2 h).bind (fun q2 => if q2.1 = 0 then ((hf_42 o x3 q2.2).bind (fun q4 => k7 (x2, x3 ||| q4.1, x4 + nI 1, q4.2))) else (some (x4, q2.2))))
set_option maxHeartbeats 1000000 in
theorem hw_43_7 {S : hs_S} {d : Nat} {Q : hs_Q} (hd : 2 ≤ d) {o : Nat} {k7 : Int32 × Int32 × Int32 × hs_H → Option (Int32 × hs_H)} (hk7 : ∀ (x2 : Int32) (x3 : Int32) (x4 : Int32) (h : hs_H) (r : Int32 × hs_H) (v1 : hs_V), k7 (x2, x3, x4, h) = some r → Q (some (hs_i r.1)) r.2 → hs_W S d 1 hs_p43 Q 7 [hs_r 4 o, v1, hs_i x2, hs_i x3, hs_i x4] [] h) {x2 : Int32} {x3 : Int32} {x4 : Int32}  {v1 : hs_V} {h : hs_H} {r : Int32 × hs_H} (e : hb_43_7 o k7 x2 x3 x4 h = some r) (q : Q (some (hs_i r.1)) r.2) : hs_W S d 1 hs_p43 Q 7 [hs_r 4 o, v1, hs_i x2, hs_i x3, hs_i x4] [] h := by
  unfold hb_43_7 at e
  refine hs_wb 4 (c := (h.1 4 o 1) ≤ x4) (t := 41) (f := 16) (ls' := [hs_r 4 o, v1, hs_i x2, hs_i x3, hs_i x4]) (st' := []) (h' := h) (fun n w => w) (fun b1 => ?_) (fun b1 => ?_)
  · rw [if_pos b1] at e
    obtain rfl := Option.some.inj e
    exact hs_wr 2 (v := some (hs_i (nI 4294967292))) (h' := h) (fun n w => w) q
  · rw [if_neg b1] at e
    obtain ⟨q2, eq2, e⟩ := hs_bind_some e
    try dsimp only at e
    refine hs_wc 3 (y := 147) (a := [hs_i x3, hs_i x2]) (v := some (hs_i q2.1)) (pc' := 21) (ls' := [hs_r 4 o, v1, hs_i x2, hs_i x3, hs_i x4]) (st' := []) (h' := h) (h2 := q2.2) (fun n w => w) (fun q => hc_147 (by omega) eq2 q) ?_
    refine hs_wb 1 (c := q2.1 = 0) (t := 27) (f := 24) (ls' := [hs_r 4 o, v1, hs_i x2, hs_i x3, hs_i x4]) (st' := []) (h' := q2.2) (fun n w => w) (fun b3 => ?_) (fun b3 => ?_)
    · rw [if_pos b3] at e
      obtain ⟨q4, eq4, e⟩ := hs_bind_some e
      try dsimp only at e
      refine hs_wc 4 (y := 42) (a := [hs_r 4 o, hs_i x3]) (v := some (hs_i q4.1)) (pc' := 33) (ls' := [hs_r 4 o, v1, hs_i x2, hs_i x3, hs_i x4]) (st' := [hs_i x3]) (h' := q2.2) (h2 := q4.2) (fun n w => w) (fun q => hc_42 (by omega) eq4 q) ?_
      refine hs_w 4 (pc' := 7) (ls' := [hs_r 4 o, v1, hs_i x2, hs_i (x3 ||| q4.1), hs_i (x4 + nI 1)]) (st' := []) (h' := q4.2) (fun n w => w) ?_
      exact hk7 _ _ _ _ _ _ e q
    · rw [if_neg b3] at e
      obtain rfl := Option.some.inj e
      exact hs_wr 2 (v := some (hs_i x4)) (h' := q2.2) (fun n w => w) q
theorem hw_43_7_lp {S : hs_S} {d : Nat} {Q : hs_Q} (hd : 2 ≤ d) {o : Nat}   (n : Nat) {x2 : Int32} {x3 : Int32} {x4 : Int32} {h : hs_H} {r : Int32 × hs_H} (e : hs_lp (fun k s => hb_43_7 o k s.1 s.2.1 s.2.2.1 s.2.2.2) n (x2, x3, x4, h) = some r) (v1 : hs_V) (q : Q (some (hs_i r.1)) r.2) : hs_W S d 1 hs_p43 Q 7 [hs_r 4 o, v1, hs_i x2, hs_i x3, hs_i x4] [] h := by
  refine hs_lp_ind (P := fun (s : Int32 × Int32 × Int32 × hs_H) (r : Int32 × hs_H) => ∀ (v1 : hs_V), Q (some (hs_i r.1)) r.2 → hs_W S d 1 hs_p43 Q 7 [hs_r 4 o, v1, hs_i s.1, hs_i s.2.1, hs_i s.2.2.1] [] s.2.2.2) (fun k hk s r e v1 q => ?_) n (x2, x3, x4, h) r e v1 q
  exact hw_43_7 hd (fun x2 x3 x4 h r v1 e q => hk (x2, x3, x4, h) r e v1 q) e q
/-- HuntedScent$Net.stepsBetween(II)I -/
def hf_43 (o : Nat) (a1 : Int32) (a2 : Int32) (h : hs_H) : Option (Int32 × hs_H) := hs_lp (fun k s => hb_43_7 o k s.1 s.2.1 s.2.2.1 s.2.2.2) hs_big (a2, (nI 1) <<< (a1 &&& 31), nI 0, h)
set_option maxHeartbeats 1000000 in
theorem hc_43 {S : hs_S} {D : Nat} {Q : hs_Q} (hD : 3 ≤ D) {o : Nat} {a1 : Int32} {a2 : Int32} {h : hs_H} {r : Int32 × hs_H} (e : hf_43 o a1 a2 h = some r) (q : Q (some (hs_i r.1)) r.2) : hs_call hs_ms S D 43 [hs_r 4 o, hs_i a1, hs_i a2] h Q := by
  refine hs_go (R := 2) hD rfl (Nat.le_of_ble_eq_true rfl) (fun d hd => ?_)
  show hs_W S d 1 hs_p43 Q 0 [hs_r 4 o, hs_i a1, hs_i a2, hs_u, hs_u] [] h
  unfold hf_43 at e
  refine hs_w 6 (pc' := 7) (ls' := [hs_r 4 o, hs_i a1, hs_i a2, hs_i ((nI 1) <<< (a1 &&& 31)), hs_i (nI 0)]) (st' := []) (h' := h) (fun n w => w) ?_
  exact hw_43_7_lp hd hs_big e _ q
def hb_113_35    (s0 : Int32) (h : hs_H) : Option (Int32 × hs_H) := some (s0, h)
set_option maxHeartbeats 1000000 in
theorem hw_113_35 {S : hs_S} {d : Nat} {Q : hs_Q} (hd : 3 ≤ d)     {s0 : Int32} {v1 : hs_V} {v2 : hs_V} {h : hs_H} {r : Int32 × hs_H} (e : hb_113_35 s0 h = some r) (q : Q (some (hs_i r.1)) r.2) : hs_W S d 1 hs_p113 Q 35 [hs_r 11 0, v1, v2] [hs_i s0] h := by
  unfold hb_113_35 at e
  obtain rfl := Option.some.inj e
  exact hs_wr 1 (v := some (hs_i s0)) (h' := h) (fun n w => w) q
def hb_113_34     (h : hs_H) : Option (Int32 × hs_H) := hb_113_35 (nI 4294967295) h
set_option maxHeartbeats 1000000 in
theorem hw_113_34 {S : hs_S} {d : Nat} {Q : hs_Q} (hd : 3 ≤ d)      {v1 : hs_V} {v2 : hs_V} {h : hs_H} {r : Int32 × hs_H} (e : hb_113_34 h = some r) (q : Q (some (hs_i r.1)) r.2) : hs_W S d 1 hs_p113 Q 34 [hs_r 11 0, v1, v2] [] h := by
  unfold hb_113_34 at e
  refine hs_w 1 (pc' := 35) (ls' := [hs_r 11 0, v1, v2]) (st' := [hs_i (nI 4294967295)]) (h' := h) (fun n w => w) ?_
  exact hw_113_35 hd e q
/-- HuntedScent.far(II)I -/
def hf_113 (a1 : Int32) (a2 : Int32) (h : hs_H) : Option (Int32 × hs_H) := (hf_29 0 a1 h).bind (fun q1 => if q1.1 = 0 then (hb_113_34 q1.2) else ((hf_29 0 a2 q1.2).bind (fun q3 => if q3.1 = 0 then (hb_113_34 q3.2) else ((hf_43 0 a1 a2 q3.2).bind (fun q5 => hb_113_35 q5.1 q5.2)))))
set_option maxHeartbeats 1000000 in
theorem hc_113 {S : hs_S} {D : Nat} {Q : hs_Q} (hD : 4 ≤ D) {a1 : Int32} {a2 : Int32} {h : hs_H} {r : Int32 × hs_H} (e : hf_113 a1 a2 h = some r) (q : Q (some (hs_i r.1)) r.2) : hs_call hs_ms S D 113 [hs_r 11 0, hs_i a1, hs_i a2] h Q := by
  refine hs_go (R := 3) hD rfl (Nat.le_of_ble_eq_true rfl) (fun d hd => ?_)
  show hs_W S d 1 hs_p113 Q 0 [hs_r 11 0, hs_i a1, hs_i a2] [] h
  unfold hf_113 at e
  obtain ⟨q1, eq1, e⟩ := hs_bind_some e
  try dsimp only at e
  refine hs_wc 4 (y := 29) (a := [hs_r 4 0, hs_i a1]) (v := some (hs_i q1.1)) (pc' := 8) (ls' := [hs_r 11 0, hs_i a1, hs_i a2]) (st' := []) (h' := h) (h2 := q1.2) (fun n w => w) (fun q => hc_29 (by omega) eq1 q) ?_
  refine hs_wb 1 (c := q1.1 = 0) (t := 34) (f := 11) (ls' := [hs_r 11 0, hs_i a1, hs_i a2]) (st' := []) (h' := q1.2) (fun n w => w) (fun b2 => ?_) (fun b2 => ?_)
  · rw [if_pos b2] at e
    exact hw_113_34 hd e q
  · rw [if_neg b2] at e
    obtain ⟨q3, eq3, e⟩ := hs_bind_some e
    try dsimp only at e
    refine hs_wc 4 (y := 29) (a := [hs_r 4 0, hs_i a2]) (v := some (hs_i q3.1)) (pc' := 19) (ls' := [hs_r 11 0, hs_i a1, hs_i a2]) (st' := []) (h' := q1.2) (h2 := q3.2) (fun n w => w) (fun q => hc_29 (by omega) eq3 q) ?_
    refine hs_wb 1 (c := q3.1 = 0) (t := 34) (f := 22) (ls' := [hs_r 11 0, hs_i a1, hs_i a2]) (st' := []) (h' := q3.2) (fun n w => w) (fun b4 => ?_) (fun b4 => ?_)
    · rw [if_pos b4] at e
      exact hw_113_34 hd e q
    · rw [if_neg b4] at e
      obtain ⟨q5, eq5, e⟩ := hs_bind_some e
      try dsimp only at e
      refine hs_wc 5 (y := 43) (a := [hs_r 4 0, hs_i a1, hs_i a2]) (v := some (hs_i q5.1)) (pc' := 31) (ls' := [hs_r 11 0, hs_i a1, hs_i a2]) (st' := []) (h' := q3.2) (h2 := q5.2) (fun n w => w) (fun q => hc_43 (by omega) eq5 q) ?_
      refine hs_w 1 (pc' := 35) (ls' := [hs_r 11 0, hs_i a1, hs_i a2]) (st' := [hs_i q5.1]) (h' := q5.2) (fun n w => w) ?_
      exact hw_113_35 hd e q
def hb_243_10    (s0 : Int32) (h : hs_H) : Option (Int32 × hs_H) := some (s0, h)
set_option maxHeartbeats 1000000 in
theorem hw_243_10 {S : hs_S} {d : Nat} {Q : hs_Q} (hd : 0 ≤ d)     {s0 : Int32} {v0 : hs_V} {v1 : hs_V} {h : hs_H} {r : Int32 × hs_H} (e : hb_243_10 s0 h = some r) (q : Q (some (hs_i r.1)) r.2) : hs_W S d 1 hs_p243 Q 10 [v0, v1] [hs_i s0] h := by
  unfold hb_243_10 at e
  obtain rfl := Option.some.inj e
  exact hs_wr 1 (v := some (hs_i s0)) (h' := h) (fun n w => w) q
/-- java/lang/Math.min(II)I -/
def hf_243 (a0 : Int32) (a1 : Int32) (h : hs_H) : Option (Int32 × hs_H) := if a1 < a0 then (hb_243_10 a1 h) else (hb_243_10 a0 h)
set_option maxHeartbeats 1000000 in
theorem hc_243 {S : hs_S} {D : Nat} {Q : hs_Q} (hD : 1 ≤ D) {a0 : Int32} {a1 : Int32} {h : hs_H} {r : Int32 × hs_H} (e : hf_243 a0 a1 h = some r) (q : Q (some (hs_i r.1)) r.2) : hs_call hs_ms S D 243 [hs_i a0, hs_i a1] h Q := by
  refine hs_go (R := 0) hD rfl (Nat.le_of_ble_eq_true rfl) (fun d hd => ?_)
  show hs_W S d 1 hs_p243 Q 0 [hs_i a0, hs_i a1] [] h
  unfold hf_243 at e
  refine hs_wb 3 (c := a1 < a0) (t := 9) (f := 5) (ls' := [hs_i a0, hs_i a1]) (st' := []) (h' := h) (fun n w => w) (fun b1 => ?_) (fun b1 => ?_)
  · rw [if_pos b1] at e
    refine hs_w 1 (pc' := 10) (ls' := [hs_i a0, hs_i a1]) (st' := [hs_i a1]) (h' := h) (fun n w => w) ?_
    exact hw_243_10 hd e q
  · rw [if_neg b1] at e
    refine hs_w 2 (pc' := 10) (ls' := [hs_i a0, hs_i a1]) (st' := [hs_i a0]) (h' := h) (fun n w => w) ?_
    exact hw_243_10 hd e q
def hb_86_17    (s0 : Int32) (h : hs_H) : Option (Int32 × hs_H) := some (s0, h)
set_option maxHeartbeats 1000000 in
theorem hw_86_17 {S : hs_S} {d : Nat} {Q : hs_Q} (hd : 1 ≤ d)     {s0 : Int32} {v0 : hs_V} {v1 : hs_V} {h : hs_H} {r : Int32 × hs_H} (e : hb_86_17 s0 h = some r) (q : Q (some (hs_i r.1)) r.2) : hs_W S d 1 hs_p86 Q 17 [v0, v1] [hs_i s0] h := by
  unfold hb_86_17 at e
  obtain rfl := Option.some.inj e
  exact hs_wr 1 (v := some (hs_i s0)) (h' := h) (fun n w => w) q
/-- HuntedScent$Trail.freshenedOf(IZ)I -/
def hf_86 (a0 : Int32) (a1 : Int32) (h : hs_H) : Option (Int32 × hs_H) := if a1 = 0 then ((hf_243 (nI 18) (a0 + (nI 9)) h).bind (fun q2 => hb_86_17 q2.1 q2.2)) else (hb_86_17 (nI 0) h)
set_option maxHeartbeats 1000000 in
theorem hc_86 {S : hs_S} {D : Nat} {Q : hs_Q} (hD : 2 ≤ D) {a0 : Int32} {a1 : Int32} {h : hs_H} {r : Int32 × hs_H} (e : hf_86 a0 a1 h = some r) (q : Q (some (hs_i r.1)) r.2) : hs_call hs_ms S D 86 [hs_i a0, hs_i a1] h Q := by
  refine hs_go (R := 1) hD rfl (Nat.le_of_ble_eq_true rfl) (fun d hd => ?_)
  show hs_W S d 1 hs_p86 Q 0 [hs_i a0, hs_i a1] [] h
  unfold hf_86 at e
  refine hs_wb 2 (c := a1 = 0) (t := 8) (f := 4) (ls' := [hs_i a0, hs_i a1]) (st' := []) (h' := h) (fun n w => w) (fun b1 => ?_) (fun b1 => ?_)
  · rw [if_pos b1] at e
    obtain ⟨q2, eq2, e⟩ := hs_bind_some e
    try dsimp only at e
    refine hs_wc 5 (y := 243) (a := [hs_i (nI 18), hs_i (a0 + (nI 9))]) (v := some (hs_i q2.1)) (pc' := 17) (ls' := [hs_i a0, hs_i a1]) (st' := []) (h' := h) (h2 := q2.2) (fun n w => w) (fun q => hc_243 (by omega) eq2 q) ?_
    exact hw_86_17 hd e q
  · rw [if_neg b1] at e
    refine hs_w 2 (pc' := 17) (ls' := [hs_i a0, hs_i a1]) (st' := [hs_i (nI 0)]) (h' := h) (fun n w => w) ?_
    exact hw_86_17 hd e q
def hb_85_11    (s0 : Int32) (h : hs_H) : Option (Int32 × hs_H) := some (s0, h)
set_option maxHeartbeats 1000000 in
theorem hw_85_11 {S : hs_S} {d : Nat} {Q : hs_Q} (hd : 0 ≤ d)     {s0 : Int32} {v0 : hs_V} {h : hs_H} {r : Int32 × hs_H} (e : hb_85_11 s0 h = some r) (q : Q (some (hs_i r.1)) r.2) : hs_W S d 1 hs_p85 Q 11 [v0] [hs_i s0] h := by
  unfold hb_85_11 at e
  obtain rfl := Option.some.inj e
  exact hs_wr 1 (v := some (hs_i s0)) (h' := h) (fun n w => w) q
/-- HuntedScent$Trail.fadedOf(I)I -/
def hf_85 (a0 : Int32) (h : hs_H) : Option (Int32 × hs_H) := if a0 ≤ 0 then (hb_85_11 (nI 0) h) else (hb_85_11 (a0 - (nI 1)) h)
set_option maxHeartbeats 1000000 in
theorem hc_85 {S : hs_S} {D : Nat} {Q : hs_Q} (hD : 1 ≤ D) {a0 : Int32} {h : hs_H} {r : Int32 × hs_H} (e : hf_85 a0 h = some r) (q : Q (some (hs_i r.1)) r.2) : hs_call hs_ms S D 85 [hs_i a0] h Q := by
  refine hs_go (R := 0) hD rfl (Nat.le_of_ble_eq_true rfl) (fun d hd => ?_)
  show hs_W S d 1 hs_p85 Q 0 [hs_i a0] [] h
  unfold hf_85 at e
  refine hs_wb 2 (c := a0 ≤ 0) (t := 10) (f := 4) (ls' := [hs_i a0]) (st' := []) (h' := h) (fun n w => w) (fun b1 => ?_) (fun b1 => ?_)
  · rw [if_pos b1] at e
    refine hs_w 1 (pc' := 11) (ls' := [hs_i a0]) (st' := [hs_i (nI 0)]) (h' := h) (fun n w => w) ?_
    exact hw_85_11 hd e q
  · rw [if_neg b1] at e
    refine hs_w 4 (pc' := 11) (ls' := [hs_i a0]) (st' := [hs_i (a0 - (nI 1))]) (h' := h) (fun n w => w) ?_
    exact hw_85_11 hd e q
def hb_84_33_33_65 (p0 : Nat) (p1 : Nat)    (h : hs_H) : Option (hs_H) := some h
set_option maxHeartbeats 1000000 in
theorem hw_84_33_33_65 {S : hs_S} {d : Nat} {Q : hs_Q} (hd : 2 ≤ d) {p0 : Nat} {p1 : Nat}     {v2 : hs_V} {v3 : hs_V} {v4 : hs_V} {h : hs_H} {r : hs_H} (e : hb_84_33_33_65 p0 p1 h = some r) (q : Q none r) : hs_W S d 0 hs_p84 Q 65 [hs_r 33 p0, hs_r 33 p1, v2, v3, v4] [] h := by
  unfold hb_84_33_33_65 at e
  obtain rfl := Option.some.inj e
  exact hs_wr 1 (v := none) (h' := h) (fun n w => w) q
def hb_84_33_33_41 (p0 : Nat) (p1 : Nat)  (x2 : Int32) (x3 : Int32)  (h : hs_H) : Option (hs_H) := if x2 < 0 then (hb_84_33_33_65 p0 p1 h) else (if (nI 10) ≤ x2 then (hb_84_33_33_65 p0 p1 h) else (hs_ck (hs_inb x2 10) ((hf_147 x3 x2 h).bind (fun q5 => (hf_86 (h.1 33 p1 x2.toNatClampNeg) q5.1 q5.2).bind (fun q6 => hs_ck (hs_inb x2 10) (hb_84_33_33_65 p0 p1 (hs_put q6.2 33 p1 x2.toNatClampNeg q6.1)))))))
set_option maxHeartbeats 1000000 in
theorem hw_84_33_33_41 {S : hs_S} {d : Nat} {Q : hs_Q} (hd : 2 ≤ d) {p0 : Nat} {p1 : Nat}   {x2 : Int32} {x3 : Int32}  {v4 : hs_V} {h : hs_H} {r : hs_H} (e : hb_84_33_33_41 p0 p1 x2 x3 h = some r) (q : Q none r) : hs_W S d 0 hs_p84 Q 41 [hs_r 33 p0, hs_r 33 p1, hs_i x2, hs_i x3, v4] [] h := by
  unfold hb_84_33_33_41 at e
  refine hs_wb 2 (c := x2 < 0) (t := 65) (f := 45) (ls' := [hs_r 33 p0, hs_r 33 p1, hs_i x2, hs_i x3, v4]) (st' := []) (h' := h) (fun n w => w) (fun b2 => ?_) (fun b2 => ?_)
  · rw [if_pos b2] at e
    exact hw_84_33_33_65 hd e q
  · rw [if_neg b2] at e
    refine hs_wb 4 (c := (nI 10) ≤ x2) (t := 65) (f := 51) (ls' := [hs_r 33 p0, hs_r 33 p1, hs_i x2, hs_i x3, v4]) (st' := []) (h' := h) (fun n w => w) (fun b3 => ?_) (fun b3 => ?_)
    · rw [if_pos b3] at e
      exact hw_84_33_33_65 hd e q
    · rw [if_neg b3] at e
      obtain ⟨c4, e⟩ := hs_ck_some e
      refine hs_wa 5 (c := vp_in x2 10) (pc' := 56) (ls' := [hs_r 33 p0, hs_r 33 p1, hs_i x2, hs_i x3, v4]) (st' := [hs_i (h.1 33 p1 x2.toNatClampNeg), hs_i x2, hs_r 33 p1]) (h' := h) (fun n w => w) (hs_inb_iff.mp c4) ?_
      obtain ⟨q5, eq5, e⟩ := hs_bind_some e
      try dsimp only at e
      refine hs_wc 3 (y := 147) (a := [hs_i x3, hs_i x2]) (v := some (hs_i q5.1)) (pc' := 61) (ls' := [hs_r 33 p0, hs_r 33 p1, hs_i x2, hs_i x3, v4]) (st' := [hs_i (h.1 33 p1 x2.toNatClampNeg), hs_i x2, hs_r 33 p1]) (h' := h) (h2 := q5.2) (fun n w => w) (fun q => hc_147 (by omega) eq5 q) ?_
      obtain ⟨q6, eq6, e⟩ := hs_bind_some e
      try dsimp only at e
      refine hs_wc 1 (y := 86) (a := [hs_i (h.1 33 p1 x2.toNatClampNeg), hs_i q5.1]) (v := some (hs_i q6.1)) (pc' := 64) (ls' := [hs_r 33 p0, hs_r 33 p1, hs_i x2, hs_i x3, v4]) (st' := [hs_i x2, hs_r 33 p1]) (h' := q5.2) (h2 := q6.2) (fun n w => w) (fun q => hc_86 (by omega) eq6 q) ?_
      obtain ⟨c7, e⟩ := hs_ck_some e
      refine hs_wa 1 (c := vp_in x2 10) (pc' := 65) (ls' := [hs_r 33 p0, hs_r 33 p1, hs_i x2, hs_i x3, v4]) (st' := []) (h' := hs_put q6.2 33 p1 x2.toNatClampNeg q6.1) (fun n w => w) (hs_inb_iff.mp c7) ?_
      exact hw_84_33_33_65 hd e q
def hb_84_33_33_3 (p0 : Nat) (p1 : Nat) (k3 : Int32 × Int32 × Int32 × hs_H → Option (hs_H)) (x2 : Int32) (x3 : Int32) (x4 : Int32)  (h : hs_H) : Option (hs_H) := if (nI 10) ≤ x4 then (hb_84_33_33_41 p0 p1 x2 x3 h) else (if (nI 10) ≤ x4 then (hb_84_33_33_41 p0 p1 x2 x3 h) else (if (nI 10) ≤ x4 then (hb_84_33_33_41 p0 p1 x2 x3 h) else (hs_ck (hs_inb x4 10) ((hf_85 (h.1 33 p0 x4.toNatClampNeg) h).bind (fun q11 => hs_ck (hs_inb x4 10) (k3 (x2, x3, x4 + nI 1, hs_put q11.2 33 p1 x4.toNatClampNeg q11.1)))))))
set_option maxHeartbeats 1000000 in
theorem hw_84_33_33_3 {S : hs_S} {d : Nat} {Q : hs_Q} (hd : 2 ≤ d) {p0 : Nat} {p1 : Nat} {k3 : Int32 × Int32 × Int32 × hs_H → Option (hs_H)} (hk3 : ∀ (x2 : Int32) (x3 : Int32) (x4 : Int32) (h : hs_H) (r : hs_H) , k3 (x2, x3, x4, h) = some r → Q none r → hs_W S d 0 hs_p84 Q 3 [hs_r 33 p0, hs_r 33 p1, hs_i x2, hs_i x3, hs_i x4] [] h) {x2 : Int32} {x3 : Int32} {x4 : Int32}   {h : hs_H} {r : hs_H} (e : hb_84_33_33_3 p0 p1 k3 x2 x3 x4 h = some r) (q : Q none r) : hs_W S d 0 hs_p84 Q 3 [hs_r 33 p0, hs_r 33 p1, hs_i x2, hs_i x3, hs_i x4] [] h := by
  unfold hb_84_33_33_3 at e
  refine hs_wb 3 (c := (nI 10) ≤ x4) (t := 41) (f := 10) (ls' := [hs_r 33 p0, hs_r 33 p1, hs_i x2, hs_i x3, hs_i x4]) (st' := []) (h' := h) (fun n w => w) (fun b1 => ?_) (fun b1 => ?_)
  · rw [if_pos b1] at e
    exact hw_84_33_33_41 hd e q
  · rw [if_neg b1] at e
    refine hs_wb 4 (c := (nI 10) ≤ x4) (t := 41) (f := 17) (ls' := [hs_r 33 p0, hs_r 33 p1, hs_i x2, hs_i x3, hs_i x4]) (st' := []) (h' := h) (fun n w => w) (fun b8 => ?_) (fun b8 => ?_)
    · rw [if_pos b8] at e
      exact hw_84_33_33_41 hd e q
    · rw [if_neg b8] at e
      refine hs_wb 4 (c := (nI 10) ≤ x4) (t := 41) (f := 24) (ls' := [hs_r 33 p0, hs_r 33 p1, hs_i x2, hs_i x3, hs_i x4]) (st' := []) (h' := h) (fun n w => w) (fun b9 => ?_) (fun b9 => ?_)
      · rw [if_pos b9] at e
        exact hw_84_33_33_41 hd e q
      · rw [if_neg b9] at e
        obtain ⟨c10, e⟩ := hs_ck_some e
        refine hs_wa 5 (c := vp_in x4 10) (pc' := 31) (ls' := [hs_r 33 p0, hs_r 33 p1, hs_i x2, hs_i x3, hs_i x4]) (st' := [hs_i (h.1 33 p0 x4.toNatClampNeg), hs_i x4, hs_r 33 p1]) (h' := h) (fun n w => w) (hs_inb_iff.mp c10) ?_
        obtain ⟨q11, eq11, e⟩ := hs_bind_some e
        try dsimp only at e
        refine hs_wc 1 (y := 85) (a := [hs_i (h.1 33 p0 x4.toNatClampNeg)]) (v := some (hs_i q11.1)) (pc' := 34) (ls' := [hs_r 33 p0, hs_r 33 p1, hs_i x2, hs_i x3, hs_i x4]) (st' := [hs_i x4, hs_r 33 p1]) (h' := h) (h2 := q11.2) (fun n w => w) (fun q => hc_85 (by omega) eq11 q) ?_
        obtain ⟨c12, e⟩ := hs_ck_some e
        refine hs_wa 1 (c := vp_in x4 10) (pc' := 35) (ls' := [hs_r 33 p0, hs_r 33 p1, hs_i x2, hs_i x3, hs_i x4]) (st' := []) (h' := hs_put q11.2 33 p1 x4.toNatClampNeg q11.1) (fun n w => w) (hs_inb_iff.mp c12) ?_
        refine hs_w 2 (pc' := 3) (ls' := [hs_r 33 p0, hs_r 33 p1, hs_i x2, hs_i x3, hs_i (x4 + nI 1)]) (st' := []) (h' := hs_put q11.2 33 p1 x4.toNatClampNeg q11.1) (fun n w => w) ?_
        exact hk3 _ _ _ _ _  e q
theorem hw_84_33_33_3_lp {S : hs_S} {d : Nat} {Q : hs_Q} (hd : 2 ≤ d) {p0 : Nat} {p1 : Nat}   (n : Nat) {x2 : Int32} {x3 : Int32} {x4 : Int32} {h : hs_H} {r : hs_H} (e : hs_lp (fun k s => hb_84_33_33_3 p0 p1 k s.1 s.2.1 s.2.2.1 s.2.2.2) n (x2, x3, x4, h) = some r)  (q : Q none r) : hs_W S d 0 hs_p84 Q 3 [hs_r 33 p0, hs_r 33 p1, hs_i x2, hs_i x3, hs_i x4] [] h := by
  refine hs_lp_ind (P := fun (s : Int32 × Int32 × Int32 × hs_H) (r : hs_H) => ∀ (_ : True), Q none r → hs_W S d 0 hs_p84 Q 3 [hs_r 33 p0, hs_r 33 p1, hs_i s.1, hs_i s.2.1, hs_i s.2.2.1] [] s.2.2.2) (fun k hk s r e _ q => ?_) n (x2, x3, x4, h) r e trivial q
  exact hw_84_33_33_3 hd (fun x2 x3 x4 h r  e q => hk (x2, x3, x4, h) r e trivial q) e q
/-- HuntedScent$Trail.pass([I[III)V -/
def hf_84_33_33 (p0 : Nat) (p1 : Nat) (a2 : Int32) (a3 : Int32) (h : hs_H) : Option (hs_H) := hs_lp (fun k s => hb_84_33_33_3 p0 p1 k s.1 s.2.1 s.2.2.1 s.2.2.2) hs_big (a2, a3, nI 0, h)
set_option maxHeartbeats 1000000 in
theorem hc_84_33_33 {S : hs_S} {D : Nat} {Q : hs_Q} (hD : 3 ≤ D) {p0 : Nat} {p1 : Nat} {a2 : Int32} {a3 : Int32} {h : hs_H} {r : hs_H} (e : hf_84_33_33 p0 p1 a2 a3 h = some r) (q : Q none r) : hs_call hs_ms S D 84 [hs_r 33 p0, hs_r 33 p1, hs_i a2, hs_i a3] h Q := by
  refine hs_go (R := 2) hD rfl (Nat.le_of_ble_eq_true rfl) (fun d hd => ?_)
  show hs_W S d 0 hs_p84 Q 0 [hs_r 33 p0, hs_r 33 p1, hs_i a2, hs_i a3, hs_u] [] h
  unfold hf_84_33_33 at e
  refine hs_w 2 (pc' := 3) (ls' := [hs_r 33 p0, hs_r 33 p1, hs_i a2, hs_i a3, hs_i (nI 0)]) (st' := []) (h' := h) (fun n w => w) ?_
  exact hw_84_33_33_3_lp hd hs_big e  q
/-- HuntedScent$Trail.begin(II)V -/
def hf_89 (o : Nat) (a1 : Int32) (a2 : Int32) (h : hs_H) : Option (hs_H) := (hf_87 o h).bind (fun q1 => (hf_84_33_33 o o a1 a2 q1).bind (fun q2 => some (hs_put q2 9 o 1 a1)))
set_option maxHeartbeats 1000000 in
theorem hc_89 {S : hs_S} {D : Nat} {Q : hs_Q} (hD : 4 ≤ D) {o : Nat} {a1 : Int32} {a2 : Int32} {h : hs_H} {r : hs_H} (e : hf_89 o a1 a2 h = some r) (q : Q none r) : hs_call hs_ms S D 89 [hs_r 9 o, hs_i a1, hs_i a2] h Q := by
  refine hs_go (R := 3) hD rfl (Nat.le_of_ble_eq_true rfl) (fun d hd => ?_)
  show hs_W S d 0 hs_p89 Q 0 [hs_r 9 o, hs_i a1, hs_i a2] [] h
  unfold hf_89 at e
  obtain ⟨q1, eq1, e⟩ := hs_bind_some e
  try dsimp only at e
  refine hs_wc 2 (y := 87) (a := [hs_r 9 o]) (v := none) (pc' := 4) (ls' := [hs_r 9 o, hs_i a1, hs_i a2]) (st' := []) (h' := h) (h2 := q1) (fun n w => w) (fun q => hc_87 (by omega) eq1 q) ?_
  obtain ⟨q2, eq2, e⟩ := hs_bind_some e
  try dsimp only at e
  refine hs_wc 7 (y := 84) (a := [hs_r 33 o, hs_r 33 o, hs_i a1, hs_i a2]) (v := none) (pc' := 17) (ls' := [hs_r 9 o, hs_i a1, hs_i a2]) (st' := []) (h' := q1) (h2 := q2) (fun n w => w) (fun q => hc_84_33_33 (by omega) eq2 q) ?_
  obtain rfl := Option.some.inj e
  exact hs_wr 4 (v := none) (h' := hs_put q2 9 o 1 a1) (fun n w => w) q
def hb_91_20 (o : Nat)   (s0 : Int32) (h : hs_H) : Option (Int32 × hs_H) := some (s0, h)
set_option maxHeartbeats 1000000 in
theorem hw_91_20 {S : hs_S} {d : Nat} {Q : hs_Q} (hd : 0 ≤ d) {o : Nat}    {s0 : Int32} {v1 : hs_V} {h : hs_H} {r : Int32 × hs_H} (e : hb_91_20 o s0 h = some r) (q : Q (some (hs_i r.1)) r.2) : hs_W S d 1 hs_p91 Q 20 [hs_r 9 o, v1] [hs_i s0] h := by
  unfold hb_91_20 at e
  obtain rfl := Option.some.inj e
  exact hs_wr 1 (v := some (hs_i s0)) (h' := h) (fun n w => w) q
def hb_91_19 (o : Nat)    (h : hs_H) : Option (Int32 × hs_H) := hb_91_20 o (nI 0) h
set_option maxHeartbeats 1000000 in
theorem hw_91_19 {S : hs_S} {d : Nat} {Q : hs_Q} (hd : 0 ≤ d) {o : Nat}     {v1 : hs_V} {h : hs_H} {r : Int32 × hs_H} (e : hb_91_19 o h = some r) (q : Q (some (hs_i r.1)) r.2) : hs_W S d 1 hs_p91 Q 19 [hs_r 9 o, v1] [] h := by
  unfold hb_91_19 at e
  refine hs_w 1 (pc' := 20) (ls' := [hs_r 9 o, v1]) (st' := [hs_i (nI 0)]) (h' := h) (fun n w => w) ?_
  exact hw_91_20 hd e q
/-- HuntedScent$Trail.smellOf(I)I -/
def hf_91 (o : Nat) (a1 : Int32) (h : hs_H) : Option (Int32 × hs_H) := if a1 < 0 then (hb_91_19 o h) else (if (nI 10) ≤ a1 then (hb_91_19 o h) else (hs_ck (hs_inb a1 10) (hb_91_20 o (h.1 33 o a1.toNatClampNeg) h)))
set_option maxHeartbeats 1000000 in
theorem hc_91 {S : hs_S} {D : Nat} {Q : hs_Q} (hD : 1 ≤ D) {o : Nat} {a1 : Int32} {h : hs_H} {r : Int32 × hs_H} (e : hf_91 o a1 h = some r) (q : Q (some (hs_i r.1)) r.2) : hs_call hs_ms S D 91 [hs_r 9 o, hs_i a1] h Q := by
  refine hs_go (R := 0) hD rfl (Nat.le_of_ble_eq_true rfl) (fun d hd => ?_)
  show hs_W S d 1 hs_p91 Q 0 [hs_r 9 o, hs_i a1] [] h
  unfold hf_91 at e
  refine hs_wb 2 (c := a1 < 0) (t := 19) (f := 4) (ls' := [hs_r 9 o, hs_i a1]) (st' := []) (h' := h) (fun n w => w) (fun b1 => ?_) (fun b1 => ?_)
  · rw [if_pos b1] at e
    exact hw_91_19 hd e q
  · rw [if_neg b1] at e
    refine hs_wb 3 (c := (nI 10) ≤ a1) (t := 19) (f := 10) (ls' := [hs_r 9 o, hs_i a1]) (st' := []) (h' := h) (fun n w => w) (fun b2 => ?_) (fun b2 => ?_)
    · rw [if_pos b2] at e
      exact hw_91_19 hd e q
    · rw [if_neg b2] at e
      obtain ⟨c3, e⟩ := hs_ck_some e
      refine hs_wa 4 (c := vp_in a1 10) (pc' := 16) (ls' := [hs_r 9 o, hs_i a1]) (st' := [hs_i (h.1 33 o a1.toNatClampNeg)]) (h' := h) (fun n w => w) (hs_inb_iff.mp c3) ?_
      refine hs_w 1 (pc' := 20) (ls' := [hs_r 9 o, hs_i a1]) (st' := [hs_i (h.1 33 o a1.toNatClampNeg)]) (h' := h) (fun n w => w) ?_
      exact hw_91_20 hd e q
/-- HuntedScent.fox(I)I -/
def hf_114 (a1 : Int32) (h : hs_H) : Option (Int32 × hs_H) := (hf_29 0 a1 h).bind (fun q1 => if ¬ q1.1 = 0 then ((hf_89 0 a1 (q1.2.1 4 0 4) q1.2).bind (fun q3 => (hf_91 0 a1 q3).bind (fun q4 => some (q4.1, q4.2)))) else (some (nI 4294967295, q1.2)))
set_option maxHeartbeats 1000000 in
theorem hc_114 {S : hs_S} {D : Nat} {Q : hs_Q} (hD : 5 ≤ D) {a1 : Int32} {h : hs_H} {r : Int32 × hs_H} (e : hf_114 a1 h = some r) (q : Q (some (hs_i r.1)) r.2) : hs_call hs_ms S D 114 [hs_r 11 0, hs_i a1] h Q := by
  refine hs_go (R := 4) hD rfl (Nat.le_of_ble_eq_true rfl) (fun d hd => ?_)
  show hs_W S d 1 hs_p114 Q 0 [hs_r 11 0, hs_i a1] [] h
  unfold hf_114 at e
  obtain ⟨q1, eq1, e⟩ := hs_bind_some e
  try dsimp only at e
  refine hs_wc 4 (y := 29) (a := [hs_r 4 0, hs_i a1]) (v := some (hs_i q1.1)) (pc' := 8) (ls' := [hs_r 11 0, hs_i a1]) (st' := []) (h' := h) (h2 := q1.2) (fun n w => w) (fun q => hc_29 (by omega) eq1 q) ?_
  refine hs_wb 1 (c := ¬ q1.1 = 0) (t := 13) (f := 11) (ls' := [hs_r 11 0, hs_i a1]) (st' := []) (h' := q1.2) (fun n w => w) (fun b2 => ?_) (fun b2 => ?_)
  · rw [if_pos b2] at e
    obtain ⟨q3, eq3, e⟩ := hs_bind_some e
    try dsimp only at e
    refine hs_wc 7 (y := 89) (a := [hs_r 9 0, hs_i a1, hs_i (q1.2.1 4 0 4)]) (v := none) (pc' := 28) (ls' := [hs_r 11 0, hs_i a1]) (st' := []) (h' := q1.2) (h2 := q3) (fun n w => w) (fun q => hc_89 (by omega) eq3 q) ?_
    obtain ⟨q4, eq4, e⟩ := hs_bind_some e
    try dsimp only at e
    refine hs_wc 4 (y := 91) (a := [hs_r 9 0, hs_i a1]) (v := some (hs_i q4.1)) (pc' := 36) (ls' := [hs_r 11 0, hs_i a1]) (st' := []) (h' := q3) (h2 := q4.2) (fun n w => w) (fun q => hc_91 (by omega) eq4 q) ?_
    obtain rfl := Option.some.inj e
    exact hs_wr 1 (v := some (hs_i q4.1)) (h' := q4.2) (fun n w => w) q
  · rw [if_neg b2] at e
    obtain rfl := Option.some.inj e
    exact hs_wr 2 (v := some (hs_i (nI 4294967295))) (h' := q1.2) (fun n w => w) q
def hb_38_24 (o : Nat)   (s0 : Int32) (h : hs_H) : Option (Int32 × hs_H) := some (s0, h)
set_option maxHeartbeats 1000000 in
theorem hw_38_24 {S : hs_S} {d : Nat} {Q : hs_Q} (hd : 1 ≤ d) {o : Nat}    {s0 : Int32} {v1 : hs_V} {h : hs_H} {r : Int32 × hs_H} (e : hb_38_24 o s0 h = some r) (q : Q (some (hs_i r.1)) r.2) : hs_W S d 1 hs_p38 Q 24 [hs_r 4 o, v1] [hs_i s0] h := by
  unfold hb_38_24 at e
  obtain rfl := Option.some.inj e
  exact hs_wr 1 (v := some (hs_i s0)) (h' := h) (fun n w => w) q
/-- HuntedScent$Net.movesOf(I)I -/
def hf_38 (o : Nat) (a1 : Int32) (h : hs_H) : Option (Int32 × hs_H) := (hf_29 o a1 h).bind (fun q1 => if q1.1 = 0 then (hb_38_24 o (nI 0) q1.2) else ((hf_32 o a1 q1.2).bind (fun q3 => hb_38_24 o (q3.1 ||| ((q3.2.1 4 o 2) <<< (a1 &&& 31))) q3.2)))
set_option maxHeartbeats 1000000 in
theorem hc_38 {S : hs_S} {D : Nat} {Q : hs_Q} (hD : 2 ≤ D) {o : Nat} {a1 : Int32} {h : hs_H} {r : Int32 × hs_H} (e : hf_38 o a1 h = some r) (q : Q (some (hs_i r.1)) r.2) : hs_call hs_ms S D 38 [hs_r 4 o, hs_i a1] h Q := by
  refine hs_go (R := 1) hD rfl (Nat.le_of_ble_eq_true rfl) (fun d hd => ?_)
  show hs_W S d 1 hs_p38 Q 0 [hs_r 4 o, hs_i a1] [] h
  unfold hf_38 at e
  obtain ⟨q1, eq1, e⟩ := hs_bind_some e
  try dsimp only at e
  refine hs_wc 3 (y := 29) (a := [hs_r 4 o, hs_i a1]) (v := some (hs_i q1.1)) (pc' := 5) (ls' := [hs_r 4 o, hs_i a1]) (st' := []) (h' := h) (h2 := q1.2) (fun n w => w) (fun q => hc_29 (by omega) eq1 q) ?_
  refine hs_wb 1 (c := q1.1 = 0) (t := 23) (f := 8) (ls' := [hs_r 4 o, hs_i a1]) (st' := []) (h' := q1.2) (fun n w => w) (fun b2 => ?_) (fun b2 => ?_)
  · rw [if_pos b2] at e
    refine hs_w 1 (pc' := 24) (ls' := [hs_r 4 o, hs_i a1]) (st' := [hs_i (nI 0)]) (h' := q1.2) (fun n w => w) ?_
    exact hw_38_24 hd e q
  · rw [if_neg b2] at e
    obtain ⟨q3, eq3, e⟩ := hs_bind_some e
    try dsimp only at e
    refine hs_wc 3 (y := 32) (a := [hs_r 4 o, hs_i a1]) (v := some (hs_i q3.1)) (pc' := 13) (ls' := [hs_r 4 o, hs_i a1]) (st' := []) (h' := q1.2) (h2 := q3.2) (fun n w => w) (fun q => hc_32 (by omega) eq3 q) ?_
    refine hs_w 6 (pc' := 24) (ls' := [hs_r 4 o, hs_i a1]) (st' := [hs_i (q3.1 ||| ((q3.2.1 4 o 2) <<< (a1 &&& 31)))]) (h' := q3.2) (fun n w => w) ?_
    exact hw_38_24 hd e q
/-- HuntedScent$Trail.move(II)V -/
def hf_90 (o : Nat) (a1 : Int32) (a2 : Int32) (h : hs_H) : Option (hs_H) := (hf_84_33_33 o o a1 a2 h).bind (fun q1 => some (hs_put (hs_put q1 9 o 1 a1) 9 o 2 (((hs_put q1 9 o 1 a1).1 9 o 2) + (nI 1))))
set_option maxHeartbeats 1000000 in
theorem hc_90 {S : hs_S} {D : Nat} {Q : hs_Q} (hD : 4 ≤ D) {o : Nat} {a1 : Int32} {a2 : Int32} {h : hs_H} {r : hs_H} (e : hf_90 o a1 a2 h = some r) (q : Q none r) : hs_call hs_ms S D 90 [hs_r 9 o, hs_i a1, hs_i a2] h Q := by
  refine hs_go (R := 3) hD rfl (Nat.le_of_ble_eq_true rfl) (fun d hd => ?_)
  show hs_W S d 0 hs_p90 Q 0 [hs_r 9 o, hs_i a1, hs_i a2] [] h
  unfold hf_90 at e
  obtain ⟨q1, eq1, e⟩ := hs_bind_some e
  try dsimp only at e
  refine hs_wc 7 (y := 84) (a := [hs_r 33 o, hs_r 33 o, hs_i a1, hs_i a2]) (v := none) (pc' := 13) (ls' := [hs_r 9 o, hs_i a1, hs_i a2]) (st' := []) (h' := h) (h2 := q1) (fun n w => w) (fun q => hc_84_33_33 (by omega) eq1 q) ?_
  obtain rfl := Option.some.inj e
  exact hs_wr 10 (v := none) (h' := hs_put (hs_put q1 9 o 1 a1) 9 o 2 (((hs_put q1 9 o 1 a1).1 9 o 2) + (nI 1))) (fun n w => w) q
/-- HuntedScent.go(I)I -/
def hf_115 (a1 : Int32) (h : hs_H) : Option (Int32 × hs_H) := (hf_29 0 a1 h).bind (fun q1 => if ¬ q1.1 = 0 then (if ¬ (q1.2.1 9 0 1) = (nI 4294967292) then ((hf_38 0 (q1.2.1 9 0 1) q1.2).bind (fun q4 => (hf_147 q4.1 a1 q4.2).bind (fun q5 => if ¬ q5.1 = 0 then ((hf_90 0 a1 (q5.2.1 4 0 4) q5.2).bind (fun q7 => (hf_91 0 a1 q7).bind (fun q8 => some (q8.1, q8.2)))) else (some (nI 4294967292, q5.2))))) else (some (nI 4294967294, q1.2))) else (some (nI 4294967295, q1.2)))
set_option maxHeartbeats 1000000 in
theorem hc_115 {S : hs_S} {D : Nat} {Q : hs_Q} (hD : 5 ≤ D) {a1 : Int32} {h : hs_H} {r : Int32 × hs_H} (e : hf_115 a1 h = some r) (q : Q (some (hs_i r.1)) r.2) : hs_call hs_ms S D 115 [hs_r 11 0, hs_i a1] h Q := by
  refine hs_go (R := 4) hD rfl (Nat.le_of_ble_eq_true rfl) (fun d hd => ?_)
  show hs_W S d 1 hs_p115 Q 0 [hs_r 11 0, hs_i a1] [] h
  unfold hf_115 at e
  obtain ⟨q1, eq1, e⟩ := hs_bind_some e
  try dsimp only at e
  refine hs_wc 4 (y := 29) (a := [hs_r 4 0, hs_i a1]) (v := some (hs_i q1.1)) (pc' := 8) (ls' := [hs_r 11 0, hs_i a1]) (st' := []) (h' := h) (h2 := q1.2) (fun n w => w) (fun q => hc_29 (by omega) eq1 q) ?_
  refine hs_wb 1 (c := ¬ q1.1 = 0) (t := 13) (f := 11) (ls' := [hs_r 11 0, hs_i a1]) (st' := []) (h' := q1.2) (fun n w => w) (fun b2 => ?_) (fun b2 => ?_)
  · rw [if_pos b2] at e
    refine hs_wb 5 (c := ¬ (q1.2.1 9 0 1) = (nI 4294967292)) (t := 28) (f := 25) (ls' := [hs_r 11 0, hs_i a1]) (st' := []) (h' := q1.2) (fun n w => w) (fun b3 => ?_) (fun b3 => ?_)
    · rw [if_pos b3] at e
      obtain ⟨q4, eq4, e⟩ := hs_bind_some e
      try dsimp only at e
      refine hs_wc 6 (y := 38) (a := [hs_r 4 0, hs_i (q1.2.1 9 0 1)]) (v := some (hs_i q4.1)) (pc' := 42) (ls' := [hs_r 11 0, hs_i a1]) (st' := []) (h' := q1.2) (h2 := q4.2) (fun n w => w) (fun q => hc_38 (by omega) eq4 q) ?_
      obtain ⟨q5, eq5, e⟩ := hs_bind_some e
      try dsimp only at e
      refine hs_wc 2 (y := 147) (a := [hs_i q4.1, hs_i a1]) (v := some (hs_i q5.1)) (pc' := 46) (ls' := [hs_r 11 0, hs_i a1]) (st' := []) (h' := q4.2) (h2 := q5.2) (fun n w => w) (fun q => hc_147 (by omega) eq5 q) ?_
      refine hs_wb 1 (c := ¬ q5.1 = 0) (t := 52) (f := 49) (ls' := [hs_r 11 0, hs_i a1]) (st' := []) (h' := q5.2) (fun n w => w) (fun b6 => ?_) (fun b6 => ?_)
      · rw [if_pos b6] at e
        obtain ⟨q7, eq7, e⟩ := hs_bind_some e
        try dsimp only at e
        refine hs_wc 7 (y := 90) (a := [hs_r 9 0, hs_i a1, hs_i (q5.2.1 4 0 4)]) (v := none) (pc' := 67) (ls' := [hs_r 11 0, hs_i a1]) (st' := []) (h' := q5.2) (h2 := q7) (fun n w => w) (fun q => hc_90 (by omega) eq7 q) ?_
        obtain ⟨q8, eq8, e⟩ := hs_bind_some e
        try dsimp only at e
        refine hs_wc 4 (y := 91) (a := [hs_r 9 0, hs_i a1]) (v := some (hs_i q8.1)) (pc' := 75) (ls' := [hs_r 11 0, hs_i a1]) (st' := []) (h' := q7) (h2 := q8.2) (fun n w => w) (fun q => hc_91 (by omega) eq8 q) ?_
        obtain rfl := Option.some.inj e
        exact hs_wr 1 (v := some (hs_i q8.1)) (h' := q8.2) (fun n w => w) q
      · rw [if_neg b6] at e
        obtain rfl := Option.some.inj e
        exact hs_wr 2 (v := some (hs_i (nI 4294967292))) (h' := q5.2) (fun n w => w) q
    · rw [if_neg b3] at e
      obtain rfl := Option.some.inj e
      exact hs_wr 2 (v := some (hs_i (nI 4294967294))) (h' := q1.2) (fun n w => w) q
  · rw [if_neg b2] at e
    obtain rfl := Option.some.inj e
    exact hs_wr 2 (v := some (hs_i (nI 4294967295))) (h' := q1.2) (fun n w => w) q
def hb_116_23    (s0 : Int32) (h : hs_H) : Option (Int32 × hs_H) := some (s0, h)
set_option maxHeartbeats 1000000 in
theorem hw_116_23 {S : hs_S} {d : Nat} {Q : hs_Q} (hd : 1 ≤ d)     {s0 : Int32} {v1 : hs_V} {h : hs_H} {r : Int32 × hs_H} (e : hb_116_23 s0 h = some r) (q : Q (some (hs_i r.1)) r.2) : hs_W S d 1 hs_p116 Q 23 [hs_r 11 0, v1] [hs_i s0] h := by
  unfold hb_116_23 at e
  obtain rfl := Option.some.inj e
  exact hs_wr 1 (v := some (hs_i s0)) (h' := h) (fun n w => w) q
/-- HuntedScent.smell(I)I -/
def hf_116 (a1 : Int32) (h : hs_H) : Option (Int32 × hs_H) := (hf_29 0 a1 h).bind (fun q1 => if q1.1 = 0 then (hb_116_23 (nI 4294967295) q1.2) else ((hf_91 0 a1 q1.2).bind (fun q3 => hb_116_23 q3.1 q3.2)))
set_option maxHeartbeats 1000000 in
theorem hc_116 {S : hs_S} {D : Nat} {Q : hs_Q} (hD : 2 ≤ D) {a1 : Int32} {h : hs_H} {r : Int32 × hs_H} (e : hf_116 a1 h = some r) (q : Q (some (hs_i r.1)) r.2) : hs_call hs_ms S D 116 [hs_r 11 0, hs_i a1] h Q := by
  refine hs_go (R := 1) hD rfl (Nat.le_of_ble_eq_true rfl) (fun d hd => ?_)
  show hs_W S d 1 hs_p116 Q 0 [hs_r 11 0, hs_i a1] [] h
  unfold hf_116 at e
  obtain ⟨q1, eq1, e⟩ := hs_bind_some e
  try dsimp only at e
  refine hs_wc 4 (y := 29) (a := [hs_r 4 0, hs_i a1]) (v := some (hs_i q1.1)) (pc' := 8) (ls' := [hs_r 11 0, hs_i a1]) (st' := []) (h' := h) (h2 := q1.2) (fun n w => w) (fun q => hc_29 (by omega) eq1 q) ?_
  refine hs_wb 1 (c := q1.1 = 0) (t := 22) (f := 11) (ls' := [hs_r 11 0, hs_i a1]) (st' := []) (h' := q1.2) (fun n w => w) (fun b2 => ?_) (fun b2 => ?_)
  · rw [if_pos b2] at e
    refine hs_w 1 (pc' := 23) (ls' := [hs_r 11 0, hs_i a1]) (st' := [hs_i (nI 4294967295)]) (h' := q1.2) (fun n w => w) ?_
    exact hw_116_23 hd e q
  · rw [if_neg b2] at e
    obtain ⟨q3, eq3, e⟩ := hs_bind_some e
    try dsimp only at e
    refine hs_wc 4 (y := 91) (a := [hs_r 9 0, hs_i a1]) (v := some (hs_i q3.1)) (pc' := 19) (ls' := [hs_r 11 0, hs_i a1]) (st' := []) (h' := q1.2) (h2 := q3.2) (fun n w => w) (fun q => hc_91 (by omega) eq3 q) ?_
    refine hs_w 1 (pc' := 23) (ls' := [hs_r 11 0, hs_i a1]) (st' := [hs_i q3.1]) (h' := q3.2) (fun n w => w) ?_
    exact hw_116_23 hd e q
def hb_92_46 (o : Nat) (k8 : Int32 × Int32 × Int32 × Int32 × hs_H → Option (Int32 × hs_H)) (x1 : Int32) (x2 : Int32) (x3 : Int32) (x4 : Int32)  (h : hs_H) : Option (Int32 × hs_H) := k8 (x1, x2, x3, x4 + nI 1, h)
set_option maxHeartbeats 1000000 in
theorem hw_92_46 {S : hs_S} {d : Nat} {Q : hs_Q} (hd : 1 ≤ d) {o : Nat} {k8 : Int32 × Int32 × Int32 × Int32 × hs_H → Option (Int32 × hs_H)} (hk8 : ∀ (x1 : Int32) (x2 : Int32) (x3 : Int32) (x4 : Int32) (h : hs_H) (r : Int32 × hs_H) , k8 (x1, x2, x3, x4, h) = some r → Q (some (hs_i r.1)) r.2 → hs_W S d 1 hs_p92 Q 8 [hs_r 9 o, hs_i x1, hs_i x2, hs_i x3, hs_i x4] [] h) {x1 : Int32} {x2 : Int32} {x3 : Int32} {x4 : Int32}   {h : hs_H} {r : Int32 × hs_H} (e : hb_92_46 o k8 x1 x2 x3 x4 h = some r) (q : Q (some (hs_i r.1)) r.2) : hs_W S d 1 hs_p92 Q 46 [hs_r 9 o, hs_i x1, hs_i x2, hs_i x3, hs_i x4] [] h := by
  unfold hb_92_46 at e
  refine hs_w 2 (pc' := 8) (ls' := [hs_r 9 o, hs_i x1, hs_i x2, hs_i x3, hs_i (x4 + nI 1)]) (st' := []) (h' := h) (fun n w => w) ?_
  exact hk8 _ _ _ _ _ _  e q
def hb_92_8 (o : Nat) (k8 : Int32 × Int32 × Int32 × Int32 × hs_H → Option (Int32 × hs_H)) (x1 : Int32) (x2 : Int32) (x3 : Int32) (x4 : Int32)  (h : hs_H) : Option (Int32 × hs_H) := if (nI 10) ≤ x4 then (some (x2, h)) else ((hf_147 x1 x4 h).bind (fun q2 => if q2.1 = 0 then (hb_92_46 o k8 x1 x2 x3 x4 q2.2) else (hs_ck (hs_inb x4 10) (if (q2.2.1 33 o x4.toNatClampNeg) ≤ x3 then (hb_92_46 o k8 x1 x2 x3 x4 q2.2) else (hs_ck (hs_inb x4 10) (hb_92_46 o k8 x1 x4 (q2.2.1 33 o x4.toNatClampNeg) x4 q2.2))))))
set_option maxHeartbeats 1000000 in
theorem hw_92_8 {S : hs_S} {d : Nat} {Q : hs_Q} (hd : 1 ≤ d) {o : Nat} {k8 : Int32 × Int32 × Int32 × Int32 × hs_H → Option (Int32 × hs_H)} (hk8 : ∀ (x1 : Int32) (x2 : Int32) (x3 : Int32) (x4 : Int32) (h : hs_H) (r : Int32 × hs_H) , k8 (x1, x2, x3, x4, h) = some r → Q (some (hs_i r.1)) r.2 → hs_W S d 1 hs_p92 Q 8 [hs_r 9 o, hs_i x1, hs_i x2, hs_i x3, hs_i x4] [] h) {x1 : Int32} {x2 : Int32} {x3 : Int32} {x4 : Int32}   {h : hs_H} {r : Int32 × hs_H} (e : hb_92_8 o k8 x1 x2 x3 x4 h = some r) (q : Q (some (hs_i r.1)) r.2) : hs_W S d 1 hs_p92 Q 8 [hs_r 9 o, hs_i x1, hs_i x2, hs_i x3, hs_i x4] [] h := by
  unfold hb_92_8 at e
  refine hs_wb 3 (c := (nI 10) ≤ x4) (t := 52) (f := 15) (ls' := [hs_r 9 o, hs_i x1, hs_i x2, hs_i x3, hs_i x4]) (st' := []) (h' := h) (fun n w => w) (fun b1 => ?_) (fun b1 => ?_)
  · rw [if_pos b1] at e
    obtain rfl := Option.some.inj e
    exact hs_wr 2 (v := some (hs_i x2)) (h' := h) (fun n w => w) q
  · rw [if_neg b1] at e
    obtain ⟨q2, eq2, e⟩ := hs_bind_some e
    try dsimp only at e
    refine hs_wc 3 (y := 147) (a := [hs_i x1, hs_i x4]) (v := some (hs_i q2.1)) (pc' := 21) (ls' := [hs_r 9 o, hs_i x1, hs_i x2, hs_i x3, hs_i x4]) (st' := []) (h' := h) (h2 := q2.2) (fun n w => w) (fun q => hc_147 (by omega) eq2 q) ?_
    refine hs_wb 1 (c := q2.1 = 0) (t := 46) (f := 24) (ls' := [hs_r 9 o, hs_i x1, hs_i x2, hs_i x3, hs_i x4]) (st' := []) (h' := q2.2) (fun n w => w) (fun b3 => ?_) (fun b3 => ?_)
    · rw [if_pos b3] at e
      exact hw_92_46 hd hk8 e q
    · rw [if_neg b3] at e
      obtain ⟨c4, e⟩ := hs_ck_some e
      refine hs_wa 4 (c := vp_in x4 10) (pc' := 31) (ls' := [hs_r 9 o, hs_i x1, hs_i x2, hs_i x3, hs_i x4]) (st' := [hs_i (q2.2.1 33 o x4.toNatClampNeg)]) (h' := q2.2) (fun n w => w) (hs_inb_iff.mp c4) ?_
      refine hs_wb 2 (c := (q2.2.1 33 o x4.toNatClampNeg) ≤ x3) (t := 46) (f := 35) (ls' := [hs_r 9 o, hs_i x1, hs_i x2, hs_i x3, hs_i x4]) (st' := []) (h' := q2.2) (fun n w => w) (fun b5 => ?_) (fun b5 => ?_)
      · rw [if_pos b5] at e
        exact hw_92_46 hd hk8 e q
      · rw [if_neg b5] at e
        obtain ⟨c6, e⟩ := hs_ck_some e
        refine hs_wa 6 (c := vp_in x4 10) (pc' := 45) (ls' := [hs_r 9 o, hs_i x1, hs_i x4, hs_i x3, hs_i x4]) (st' := [hs_i (q2.2.1 33 o x4.toNatClampNeg)]) (h' := q2.2) (fun n w => w) (hs_inb_iff.mp c6) ?_
        refine hs_w 1 (pc' := 46) (ls' := [hs_r 9 o, hs_i x1, hs_i x4, hs_i (q2.2.1 33 o x4.toNatClampNeg), hs_i x4]) (st' := []) (h' := q2.2) (fun n w => w) ?_
        exact hw_92_46 hd hk8 e q
theorem hw_92_8_lp {S : hs_S} {d : Nat} {Q : hs_Q} (hd : 1 ≤ d) {o : Nat}   (n : Nat) {x1 : Int32} {x2 : Int32} {x3 : Int32} {x4 : Int32} {h : hs_H} {r : Int32 × hs_H} (e : hs_lp (fun k s => hb_92_8 o k s.1 s.2.1 s.2.2.1 s.2.2.2.1 s.2.2.2.2) n (x1, x2, x3, x4, h) = some r)  (q : Q (some (hs_i r.1)) r.2) : hs_W S d 1 hs_p92 Q 8 [hs_r 9 o, hs_i x1, hs_i x2, hs_i x3, hs_i x4] [] h := by
  refine hs_lp_ind (P := fun (s : Int32 × Int32 × Int32 × Int32 × hs_H) (r : Int32 × hs_H) => ∀ (_ : True), Q (some (hs_i r.1)) r.2 → hs_W S d 1 hs_p92 Q 8 [hs_r 9 o, hs_i s.1, hs_i s.2.1, hs_i s.2.2.1, hs_i s.2.2.2.1] [] s.2.2.2.2) (fun k hk s r e _ q => ?_) n (x1, x2, x3, x4, h) r e trivial q
  exact hw_92_8 hd (fun x1 x2 x3 x4 h r  e q => hk (x1, x2, x3, x4, h) r e trivial q) e q
/-- HuntedScent$Trail.strongestOf(I)I -/
def hf_92 (o : Nat) (a1 : Int32) (h : hs_H) : Option (Int32 × hs_H) := hs_lp (fun k s => hb_92_8 o k s.1 s.2.1 s.2.2.1 s.2.2.2.1 s.2.2.2.2) hs_big (a1, nI 4294967292, nI 0, nI 0, h)
set_option maxHeartbeats 1000000 in
theorem hc_92 {S : hs_S} {D : Nat} {Q : hs_Q} (hD : 2 ≤ D) {o : Nat} {a1 : Int32} {h : hs_H} {r : Int32 × hs_H} (e : hf_92 o a1 h = some r) (q : Q (some (hs_i r.1)) r.2) : hs_call hs_ms S D 92 [hs_r 9 o, hs_i a1] h Q := by
  refine hs_go (R := 1) hD rfl (Nat.le_of_ble_eq_true rfl) (fun d hd => ?_)
  show hs_W S d 1 hs_p92 Q 0 [hs_r 9 o, hs_i a1, hs_u, hs_u, hs_u] [] h
  unfold hf_92 at e
  refine hs_w 6 (pc' := 8) (ls' := [hs_r 9 o, hs_i a1, hs_i (nI 4294967292), hs_i (nI 0), hs_i (nI 0)]) (st' := []) (h' := h) (fun n w => w) ?_
  exact hw_92_8_lp hd hs_big e  q
def hb_93_4 (o : Nat) (k4 : Int32 × Int32 × hs_H → Option (Int32 × hs_H)) (x1 : Int32) (x2 : Int32)  (h : hs_H) : Option (Int32 × hs_H) := if (nI 10) ≤ x2 then (some (x1, h)) else (hs_ck (hs_inb x2 10) (k4 (x1 + (h.1 33 o x2.toNatClampNeg), x2 + nI 1, h)))
set_option maxHeartbeats 1000000 in
theorem hw_93_4 {S : hs_S} {d : Nat} {Q : hs_Q} (hd : 0 ≤ d) {o : Nat} {k4 : Int32 × Int32 × hs_H → Option (Int32 × hs_H)} (hk4 : ∀ (x1 : Int32) (x2 : Int32) (h : hs_H) (r : Int32 × hs_H) , k4 (x1, x2, h) = some r → Q (some (hs_i r.1)) r.2 → hs_W S d 1 hs_p93 Q 4 [hs_r 9 o, hs_i x1, hs_i x2] [] h) {x1 : Int32} {x2 : Int32}   {h : hs_H} {r : Int32 × hs_H} (e : hb_93_4 o k4 x1 x2 h = some r) (q : Q (some (hs_i r.1)) r.2) : hs_W S d 1 hs_p93 Q 4 [hs_r 9 o, hs_i x1, hs_i x2] [] h := by
  unfold hb_93_4 at e
  refine hs_wb 3 (c := (nI 10) ≤ x2) (t := 25) (f := 10) (ls' := [hs_r 9 o, hs_i x1, hs_i x2]) (st' := []) (h' := h) (fun n w => w) (fun b1 => ?_) (fun b1 => ?_)
  · rw [if_pos b1] at e
    obtain rfl := Option.some.inj e
    exact hs_wr 2 (v := some (hs_i x1)) (h' := h) (fun n w => w) q
  · rw [if_neg b1] at e
    obtain ⟨c2, e⟩ := hs_ck_some e
    refine hs_wa 5 (c := vp_in x2 10) (pc' := 17) (ls' := [hs_r 9 o, hs_i x1, hs_i x2]) (st' := [hs_i (h.1 33 o x2.toNatClampNeg), hs_i x1]) (h' := h) (fun n w => w) (hs_inb_iff.mp c2) ?_
    refine hs_w 4 (pc' := 4) (ls' := [hs_r 9 o, hs_i (x1 + (h.1 33 o x2.toNatClampNeg)), hs_i (x2 + nI 1)]) (st' := []) (h' := h) (fun n w => w) ?_
    exact hk4 _ _ _ _  e q
theorem hw_93_4_lp {S : hs_S} {d : Nat} {Q : hs_Q} (hd : 0 ≤ d) {o : Nat}   (n : Nat) {x1 : Int32} {x2 : Int32} {h : hs_H} {r : Int32 × hs_H} (e : hs_lp (fun k s => hb_93_4 o k s.1 s.2.1 s.2.2) n (x1, x2, h) = some r)  (q : Q (some (hs_i r.1)) r.2) : hs_W S d 1 hs_p93 Q 4 [hs_r 9 o, hs_i x1, hs_i x2] [] h := by
  refine hs_lp_ind (P := fun (s : Int32 × Int32 × hs_H) (r : Int32 × hs_H) => ∀ (_ : True), Q (some (hs_i r.1)) r.2 → hs_W S d 1 hs_p93 Q 4 [hs_r 9 o, hs_i s.1, hs_i s.2.1] [] s.2.2) (fun k hk s r e _ q => ?_) n (x1, x2, h) r e trivial q
  exact hw_93_4 hd (fun x1 x2 h r  e q => hk (x1, x2, h) r e trivial q) e q
/-- HuntedScent$Trail.sum()I -/
def hf_93 (o : Nat) (h : hs_H) : Option (Int32 × hs_H) := hs_lp (fun k s => hb_93_4 o k s.1 s.2.1 s.2.2) hs_big (nI 0, nI 0, h)
set_option maxHeartbeats 1000000 in
theorem hc_93 {S : hs_S} {D : Nat} {Q : hs_Q} (hD : 1 ≤ D) {o : Nat} {h : hs_H} {r : Int32 × hs_H} (e : hf_93 o h = some r) (q : Q (some (hs_i r.1)) r.2) : hs_call hs_ms S D 93 [hs_r 9 o] h Q := by
  refine hs_go (R := 0) hD rfl (Nat.le_of_ble_eq_true rfl) (fun d hd => ?_)
  show hs_W S d 1 hs_p93 Q 0 [hs_r 9 o, hs_u, hs_u] [] h
  unfold hf_93 at e
  refine hs_w 4 (pc' := 4) (ls' := [hs_r 9 o, hs_i (nI 0), hs_i (nI 0)]) (st' := []) (h' := h) (fun n w => w) ?_
  exact hw_93_4_lp hd hs_big e  q
/-- HuntedScent.now(I)I -/
def hf_117 (a1 : Int32) (h : hs_H) : Option (Int32 × hs_H) := if a1 = nI 0 then (some (h.1 9 0 1, h)) else (if a1 = nI 1 then (some (h.1 9 0 2, h)) else (if a1 = nI 2 then ((hf_32 0 (h.1 9 0 1) h).bind (fun q4 => (hf_92 0 q4.1 q4.2).bind (fun q5 => some (q5.1, q5.2)))) else (if a1 = nI 3 then ((hf_93 0 h).bind (fun q7 => some (q7.1, q7.2))) else (some (nI 4294967295, h)))))
set_option maxHeartbeats 1000000 in
theorem hc_117 {S : hs_S} {D : Nat} {Q : hs_Q} (hD : 3 ≤ D) {a1 : Int32} {h : hs_H} {r : Int32 × hs_H} (e : hf_117 a1 h = some r) (q : Q (some (hs_i r.1)) r.2) : hs_call hs_ms S D 117 [hs_r 11 0, hs_i a1] h Q := by
  refine hs_go (R := 2) hD rfl (Nat.le_of_ble_eq_true rfl) (fun d hd => ?_)
  show hs_W S d 1 hs_p117 Q 0 [hs_r 11 0, hs_i a1] [] h
  unfold hf_117 at e
  refine hs_ws1 2 (df := 78) (x := a1) (ps := [0, 32, 1, 40, 2, 48, 3, 70]) (ls' := [hs_r 11 0, hs_i a1]) (st' := []) (h' := h) (fun n w => w) ?_
  refine hs_ws2 (fun b1 => ?_) (fun b1 => ?_)
  · rw [if_pos b1] at e
    obtain rfl := Option.some.inj e
    exact hs_wr 4 (v := some (hs_i (h.1 9 0 1))) (h' := h) (fun n w => w) q
  rw [if_neg b1] at e
  refine hs_ws2 (fun b2 => ?_) (fun b2 => ?_)
  · rw [if_pos b2] at e
    obtain rfl := Option.some.inj e
    exact hs_wr 4 (v := some (hs_i (h.1 9 0 2))) (h' := h) (fun n w => w) q
  rw [if_neg b2] at e
  refine hs_ws2 (fun b3 => ?_) (fun b3 => ?_)
  · rw [if_pos b3] at e
    obtain ⟨q4, eq4, e⟩ := hs_bind_some e
    try dsimp only at e
    refine hs_wc 8 (y := 32) (a := [hs_r 4 0, hs_i (h.1 9 0 1)]) (v := some (hs_i q4.1)) (pc' := 66) (ls' := [hs_r 11 0, hs_i a1]) (st' := [hs_r 9 0]) (h' := h) (h2 := q4.2) (fun n w => w) (fun q => hc_32 (by omega) eq4 q) ?_
    obtain ⟨q5, eq5, e⟩ := hs_bind_some e
    try dsimp only at e
    refine hs_wc 1 (y := 92) (a := [hs_r 9 0, hs_i q4.1]) (v := some (hs_i q5.1)) (pc' := 69) (ls' := [hs_r 11 0, hs_i a1]) (st' := []) (h' := q4.2) (h2 := q5.2) (fun n w => w) (fun q => hc_92 (by omega) eq5 q) ?_
    obtain rfl := Option.some.inj e
    exact hs_wr 1 (v := some (hs_i q5.1)) (h' := q5.2) (fun n w => w) q
  rw [if_neg b3] at e
  refine hs_ws2 (fun b6 => ?_) (fun b6 => ?_)
  · rw [if_pos b6] at e
    obtain ⟨q7, eq7, e⟩ := hs_bind_some e
    try dsimp only at e
    refine hs_wc 3 (y := 93) (a := [hs_r 9 0]) (v := some (hs_i q7.1)) (pc' := 77) (ls' := [hs_r 11 0, hs_i a1]) (st' := []) (h' := h) (h2 := q7.2) (fun n w => w) (fun q => hc_93 (by omega) eq7 q) ?_
    obtain rfl := Option.some.inj e
    exact hs_wr 1 (v := some (hs_i q7.1)) (h' := q7.2) (fun n w => w) q
  rw [if_neg b6] at e
  refine hs_ws3 ?_
  obtain rfl := Option.some.inj e
  exact hs_wr 2 (v := some (hs_i (nI 4294967295))) (h' := h) (fun n w => w) q
def hb_118_30     (h : hs_H) : Option (Int32 × hs_H) := some (nI 4294967295, h)
set_option maxHeartbeats 1000000 in
theorem hw_118_30 {S : hs_S} {d : Nat} {Q : hs_Q} (hd : 1 ≤ d)      {v1 : hs_V} {v2 : hs_V} {v3 : hs_V} {h : hs_H} {r : Int32 × hs_H} (e : hb_118_30 h = some r) (q : Q (some (hs_i r.1)) r.2) : hs_W S d 1 hs_p118 Q 30 [hs_r 11 0, v1, v2, v3] [] h := by
  unfold hb_118_30 at e
  obtain rfl := Option.some.inj e
  exact hs_wr 2 (v := some (hs_i (nI 4294967295))) (h' := h) (fun n w => w) q
def hb_118_57    (s0 : Int32) (h : hs_H) : Option (Int32 × hs_H) := some (s0, h)
set_option maxHeartbeats 1000000 in
theorem hw_118_57 {S : hs_S} {d : Nat} {Q : hs_Q} (hd : 1 ≤ d)     {s0 : Int32} {v1 : hs_V} {v2 : hs_V} {v3 : hs_V} {h : hs_H} {r : Int32 × hs_H} (e : hb_118_57 s0 h = some r) (q : Q (some (hs_i r.1)) r.2) : hs_W S d 1 hs_p118 Q 57 [hs_r 11 0, v1, v2, v3] [hs_i s0] h := by
  unfold hb_118_57 at e
  obtain rfl := Option.some.inj e
  exact hs_wr 1 (v := some (hs_i s0)) (h' := h) (fun n w => w) q
/-- HuntedScent.smelt(III)I -/
def hf_118 (a1 : Int32) (a2 : Int32) (a3 : Int32) (h : hs_H) : Option (Int32 × hs_H) := if a1 < 0 then (hb_118_30 h) else (if (nI 5) < a1 then (hb_118_30 h) else ((hf_29 0 a2 h).bind (fun q3 => if q3.1 = 0 then (hb_118_30 q3.2) else (if a3 < 0 then (hb_118_30 q3.2) else (if a3 ≤ (nI 18) then ((hf_46 0 a1 a2 a3 q3.2).bind (fun q7 => if q7.1 = 0 then (hb_118_57 (nI 4294967293) q7.2) else (hb_118_57 (q7.2.1 5 0 3) q7.2))) else (hb_118_30 q3.2))))))
set_option maxHeartbeats 1000000 in
theorem hc_118 {S : hs_S} {D : Nat} {Q : hs_Q} (hD : 2 ≤ D) {a1 : Int32} {a2 : Int32} {a3 : Int32} {h : hs_H} {r : Int32 × hs_H} (e : hf_118 a1 a2 a3 h = some r) (q : Q (some (hs_i r.1)) r.2) : hs_call hs_ms S D 118 [hs_r 11 0, hs_i a1, hs_i a2, hs_i a3] h Q := by
  refine hs_go (R := 1) hD rfl (Nat.le_of_ble_eq_true rfl) (fun d hd => ?_)
  show hs_W S d 1 hs_p118 Q 0 [hs_r 11 0, hs_i a1, hs_i a2, hs_i a3] [] h
  unfold hf_118 at e
  refine hs_wb 2 (c := a1 < 0) (t := 30) (f := 4) (ls' := [hs_r 11 0, hs_i a1, hs_i a2, hs_i a3]) (st' := []) (h' := h) (fun n w => w) (fun b1 => ?_) (fun b1 => ?_)
  · rw [if_pos b1] at e
    exact hw_118_30 hd e q
  · rw [if_neg b1] at e
    refine hs_wb 3 (c := (nI 5) < a1) (t := 30) (f := 9) (ls' := [hs_r 11 0, hs_i a1, hs_i a2, hs_i a3]) (st' := []) (h' := h) (fun n w => w) (fun b2 => ?_) (fun b2 => ?_)
    · rw [if_pos b2] at e
      exact hw_118_30 hd e q
    · rw [if_neg b2] at e
      obtain ⟨q3, eq3, e⟩ := hs_bind_some e
      try dsimp only at e
      refine hs_wc 4 (y := 29) (a := [hs_r 4 0, hs_i a2]) (v := some (hs_i q3.1)) (pc' := 17) (ls' := [hs_r 11 0, hs_i a1, hs_i a2, hs_i a3]) (st' := []) (h' := h) (h2 := q3.2) (fun n w => w) (fun q => hc_29 (by omega) eq3 q) ?_
      refine hs_wb 1 (c := q3.1 = 0) (t := 30) (f := 20) (ls' := [hs_r 11 0, hs_i a1, hs_i a2, hs_i a3]) (st' := []) (h' := q3.2) (fun n w => w) (fun b4 => ?_) (fun b4 => ?_)
      · rw [if_pos b4] at e
        exact hw_118_30 hd e q
      · rw [if_neg b4] at e
        refine hs_wb 2 (c := a3 < 0) (t := 30) (f := 24) (ls' := [hs_r 11 0, hs_i a1, hs_i a2, hs_i a3]) (st' := []) (h' := q3.2) (fun n w => w) (fun b5 => ?_) (fun b5 => ?_)
        · rw [if_pos b5] at e
          exact hw_118_30 hd e q
        · rw [if_neg b5] at e
          refine hs_wb 3 (c := a3 ≤ (nI 18)) (t := 32) (f := 30) (ls' := [hs_r 11 0, hs_i a1, hs_i a2, hs_i a3]) (st' := []) (h' := q3.2) (fun n w => w) (fun b6 => ?_) (fun b6 => ?_)
          · rw [if_pos b6] at e
            obtain ⟨q7, eq7, e⟩ := hs_bind_some e
            try dsimp only at e
            refine hs_wc 6 (y := 46) (a := [hs_r 5 0, hs_i a1, hs_i a2, hs_i a3]) (v := some (hs_i q7.1)) (pc' := 42) (ls' := [hs_r 11 0, hs_i a1, hs_i a2, hs_i a3]) (st' := []) (h' := q3.2) (h2 := q7.2) (fun n w => w) (fun q => hc_46 (by omega) eq7 q) ?_
            refine hs_wb 1 (c := q7.1 = 0) (t := 55) (f := 45) (ls' := [hs_r 11 0, hs_i a1, hs_i a2, hs_i a3]) (st' := []) (h' := q7.2) (fun n w => w) (fun b8 => ?_) (fun b8 => ?_)
            · rw [if_pos b8] at e
              refine hs_w 1 (pc' := 57) (ls' := [hs_r 11 0, hs_i a1, hs_i a2, hs_i a3]) (st' := [hs_i (nI 4294967293)]) (h' := q7.2) (fun n w => w) ?_
              exact hw_118_57 hd e q
            · rw [if_neg b8] at e
              refine hs_w 4 (pc' := 57) (ls' := [hs_r 11 0, hs_i a1, hs_i a2, hs_i a3]) (st' := [hs_i (q7.2.1 5 0 3)]) (h' := q7.2) (fun n w => w) ?_
              exact hw_118_57 hd e q
          · rw [if_neg b6] at e
            exact hw_118_30 hd e q
def hb_119_15     (h : hs_H) : Option (Int32 × hs_H) := some (nI 4294967295, h)
set_option maxHeartbeats 1000000 in
theorem hw_119_15 {S : hs_S} {d : Nat} {Q : hs_Q} (hd : 1 ≤ d)      {v1 : hs_V} {v2 : hs_V} {h : hs_H} {r : Int32 × hs_H} (e : hb_119_15 h = some r) (q : Q (some (hs_i r.1)) r.2) : hs_W S d 1 hs_p119 Q 15 [hs_r 11 0, v1, v2] [] h := by
  unfold hb_119_15 at e
  obtain rfl := Option.some.inj e
  exact hs_wr 2 (v := some (hs_i (nI 4294967295))) (h' := h) (fun n w => w) q
/-- HuntedScent.forget(I)I -/
def hf_119 (a1 : Int32) (h : hs_H) : Option (Int32 × hs_H) := if a1 < 0 then (hb_119_15 h) else (if a1 ≤ (h.1 5 0 3) then ((hf_47 0 a1 h).bind (fun q3 => some (h.1 5 0 3, q3))) else (hb_119_15 h))
set_option maxHeartbeats 1000000 in
theorem hc_119 {S : hs_S} {D : Nat} {Q : hs_Q} (hD : 2 ≤ D) {a1 : Int32} {h : hs_H} {r : Int32 × hs_H} (e : hf_119 a1 h = some r) (q : Q (some (hs_i r.1)) r.2) : hs_call hs_ms S D 119 [hs_r 11 0, hs_i a1] h Q := by
  refine hs_go (R := 1) hD rfl (Nat.le_of_ble_eq_true rfl) (fun d hd => ?_)
  show hs_W S d 1 hs_p119 Q 0 [hs_r 11 0, hs_i a1, hs_u] [] h
  unfold hf_119 at e
  refine hs_wb 2 (c := a1 < 0) (t := 15) (f := 4) (ls' := [hs_r 11 0, hs_i a1, hs_u]) (st' := []) (h' := h) (fun n w => w) (fun b1 => ?_) (fun b1 => ?_)
  · rw [if_pos b1] at e
    exact hw_119_15 hd e q
  · rw [if_neg b1] at e
    refine hs_wb 5 (c := a1 ≤ (h.1 5 0 3)) (t := 17) (f := 15) (ls' := [hs_r 11 0, hs_i a1, hs_u]) (st' := []) (h' := h) (fun n w => w) (fun b2 => ?_) (fun b2 => ?_)
    · rw [if_pos b2] at e
      obtain ⟨q3, eq3, e⟩ := hs_bind_some e
      try dsimp only at e
      refine hs_wc 8 (y := 47) (a := [hs_r 5 0, hs_i a1]) (v := none) (pc' := 33) (ls' := [hs_r 11 0, hs_i a1, hs_i (h.1 5 0 3)]) (st' := []) (h' := h) (h2 := q3) (fun n w => w) (fun q => hc_47 (by omega) eq3 q) ?_
      obtain rfl := Option.some.inj e
      exact hs_wr 2 (v := some (hs_i (h.1 5 0 3))) (h' := q3) (fun n w => w) q
    · rw [if_neg b2] at e
      exact hw_119_15 hd e q
def hb_146_18    (s0 : Int32) (h : hs_H) : Option (Int32 × hs_H) := hs_ck (hs_b01 s0) (some (s0, h))
set_option maxHeartbeats 1000000 in
theorem hw_146_18 {S : hs_S} {d : Nat} {Q : hs_Q} (hd : 0 ≤ d)     {s0 : Int32} {v0 : hs_V} {v1 : hs_V} {v2 : hs_V} {h : hs_H} {r : Int32 × hs_H} (e : hb_146_18 s0 h = some r) (q : Q (some (hs_i r.1)) r.2) : hs_W S d 2 hs_p146 Q 18 [v0, v1, v2] [hs_i s0] h := by
  unfold hb_146_18 at e
  obtain ⟨c2, e⟩ := hs_ck_some e
  obtain rfl := Option.some.inj e
  exact hs_wra 1 (c := s0 = 0 ∨ s0 = 1) (v := some (hs_i s0)) (h' := h) (fun n w => w) (hs_b01_iff.mp c2) q
def hb_146_17     (h : hs_H) : Option (Int32 × hs_H) := hb_146_18 (nI 0) h
set_option maxHeartbeats 1000000 in
theorem hw_146_17 {S : hs_S} {d : Nat} {Q : hs_Q} (hd : 0 ≤ d)      {v0 : hs_V} {v1 : hs_V} {v2 : hs_V} {h : hs_H} {r : Int32 × hs_H} (e : hb_146_17 h = some r) (q : Q (some (hs_i r.1)) r.2) : hs_W S d 2 hs_p146 Q 17 [v0, v1, v2] [] h := by
  unfold hb_146_17 at e
  refine hs_w 1 (pc' := 18) (ls' := [v0, v1, v2]) (st' := [hs_i (nI 0)]) (h' := h) (fun n w => w) ?_
  exact hw_146_18 hd e q
/-- HuntedScent.isTurnOf(IJ)Z -/
def hf_146 (a0 : Int32) (a1 : Int64) (h : hs_H) : Option (Int32 × hs_H) := if (lg_cmp a1 (lN 0)) < 0 then (hb_146_17 h) else (if 0 < (lg_cmp a1 a0.toInt64) then (hb_146_17 h) else (hb_146_18 (nI 1) h))
set_option maxHeartbeats 1000000 in
theorem hc_146 {S : hs_S} {D : Nat} {Q : hs_Q} (hD : 1 ≤ D) {a0 : Int32} {a1 : Int64} {h : hs_H} {r : Int32 × hs_H} (e : hf_146 a0 a1 h = some r) (q : Q (some (hs_i r.1)) r.2) : hs_call hs_ms S D 146 [hs_i a0, hs_l a1] h Q := by
  refine hs_go (R := 0) hD rfl (Nat.le_of_ble_eq_true rfl) (fun d hd => ?_)
  show hs_W S d 2 hs_p146 Q 0 [hs_i a0, hs_l a1, hs_u] [] h
  unfold hf_146 at e
  refine hs_wb 4 (c := (lg_cmp a1 (lN 0)) < 0) (t := 17) (f := 6) (ls' := [hs_i a0, hs_l a1, hs_u]) (st' := []) (h' := h) (fun n w => w) (fun b1 => ?_) (fun b1 => ?_)
  · rw [if_pos b1] at e
    exact hw_146_17 hd e q
  · rw [if_neg b1] at e
    refine hs_wb 5 (c := 0 < (lg_cmp a1 a0.toInt64)) (t := 17) (f := 13) (ls' := [hs_i a0, hs_l a1, hs_u]) (st' := []) (h' := h) (fun n w => w) (fun b3 => ?_) (fun b3 => ?_)
    · rw [if_pos b3] at e
      exact hw_146_17 hd e q
    · rw [if_neg b3] at e
      refine hs_w 2 (pc' := 18) (ls' := [hs_i a0, hs_l a1, hs_u]) (st' := [hs_i (nI 1)]) (h' := h) (fun n w => w) ?_
      exact hw_146_18 hd e q
def hb_49_56 (o : Nat)  (x3 : Int32)  (h : hs_H) : Option (Int32 × hs_H) := some (x3, h)
set_option maxHeartbeats 1000000 in
theorem hw_49_56 {S : hs_S} {d : Nat} {Q : hs_Q} (hd : 0 ≤ d) {o : Nat}   {x3 : Int32}  {v1 : hs_V} {v2 : hs_V} {v4 : hs_V} {h : hs_H} {r : Int32 × hs_H} (e : hb_49_56 o x3 h = some r) (q : Q (some (hs_i r.1)) r.2) : hs_W S d 1 hs_p49 Q 56 [hs_r 5 o, v1, v2, hs_i x3, v4] [] h := by
  unfold hb_49_56 at e
  obtain rfl := Option.some.inj e
  exact hs_wr 2 (v := some (hs_i x3)) (h' := h) (fun n w => w) q
def hb_49_50 (o : Nat) (k5 : Int32 × Int32 × Int32 × Int32 × hs_H → Option (Int32 × hs_H)) (x1 : Int32) (x2 : Int32) (x3 : Int32) (x4 : Int32)  (h : hs_H) : Option (Int32 × hs_H) := k5 (x1, x2, x3, x4 + nI 1, h)
set_option maxHeartbeats 1000000 in
theorem hw_49_50 {S : hs_S} {d : Nat} {Q : hs_Q} (hd : 0 ≤ d) {o : Nat} {k5 : Int32 × Int32 × Int32 × Int32 × hs_H → Option (Int32 × hs_H)} (hk5 : ∀ (x1 : Int32) (x2 : Int32) (x3 : Int32) (x4 : Int32) (h : hs_H) (r : Int32 × hs_H) , k5 (x1, x2, x3, x4, h) = some r → Q (some (hs_i r.1)) r.2 → hs_W S d 1 hs_p49 Q 5 [hs_r 5 o, hs_i x1, hs_i x2, hs_i x3, hs_i x4] [] h) {x1 : Int32} {x2 : Int32} {x3 : Int32} {x4 : Int32}   {h : hs_H} {r : Int32 × hs_H} (e : hb_49_50 o k5 x1 x2 x3 x4 h = some r) (q : Q (some (hs_i r.1)) r.2) : hs_W S d 1 hs_p49 Q 50 [hs_r 5 o, hs_i x1, hs_i x2, hs_i x3, hs_i x4] [] h := by
  unfold hb_49_50 at e
  refine hs_w 2 (pc' := 5) (ls' := [hs_r 5 o, hs_i x1, hs_i x2, hs_i x3, hs_i (x4 + nI 1)]) (st' := []) (h' := h) (fun n w => w) ?_
  exact hk5 _ _ _ _ _ _  e q
def hb_49_5 (o : Nat) (k5 : Int32 × Int32 × Int32 × Int32 × hs_H → Option (Int32 × hs_H)) (x1 : Int32) (x2 : Int32) (x3 : Int32) (x4 : Int32)  (h : hs_H) : Option (Int32 × hs_H) := if x1 ≤ x4 then (hb_49_56 o x3 h) else (if (h.1 5 o 3) ≤ x4 then (hb_49_56 o x3 h) else (hs_ck (hs_inb x4 10) (if x2 < (h.1 28 o x4.toNatClampNeg) then (hb_49_50 o k5 x1 x2 x3 x4 h) else (hs_ck (hs_inb x4 10) (if (h.1 28 o x4.toNatClampNeg) ≤ x3 then (hb_49_50 o k5 x1 x2 x3 x4 h) else (hs_ck (hs_inb x4 10) (hb_49_50 o k5 x1 x2 (h.1 28 o x4.toNatClampNeg) x4 h)))))))
set_option maxHeartbeats 1000000 in
theorem hw_49_5 {S : hs_S} {d : Nat} {Q : hs_Q} (hd : 0 ≤ d) {o : Nat} {k5 : Int32 × Int32 × Int32 × Int32 × hs_H → Option (Int32 × hs_H)} (hk5 : ∀ (x1 : Int32) (x2 : Int32) (x3 : Int32) (x4 : Int32) (h : hs_H) (r : Int32 × hs_H) , k5 (x1, x2, x3, x4, h) = some r → Q (some (hs_i r.1)) r.2 → hs_W S d 1 hs_p49 Q 5 [hs_r 5 o, hs_i x1, hs_i x2, hs_i x3, hs_i x4] [] h) {x1 : Int32} {x2 : Int32} {x3 : Int32} {x4 : Int32}   {h : hs_H} {r : Int32 × hs_H} (e : hb_49_5 o k5 x1 x2 x3 x4 h = some r) (q : Q (some (hs_i r.1)) r.2) : hs_W S d 1 hs_p49 Q 5 [hs_r 5 o, hs_i x1, hs_i x2, hs_i x3, hs_i x4] [] h := by
  unfold hb_49_5 at e
  refine hs_wb 3 (c := x1 ≤ x4) (t := 56) (f := 11) (ls' := [hs_r 5 o, hs_i x1, hs_i x2, hs_i x3, hs_i x4]) (st' := []) (h' := h) (fun n w => w) (fun b1 => ?_) (fun b1 => ?_)
  · rw [if_pos b1] at e
    exact hw_49_56 hd e q
  · rw [if_neg b1] at e
    refine hs_wb 4 (c := (h.1 5 o 3) ≤ x4) (t := 56) (f := 20) (ls' := [hs_r 5 o, hs_i x1, hs_i x2, hs_i x3, hs_i x4]) (st' := []) (h' := h) (fun n w => w) (fun b2 => ?_) (fun b2 => ?_)
    · rw [if_pos b2] at e
      exact hw_49_56 hd e q
    · rw [if_neg b2] at e
      obtain ⟨c3, e⟩ := hs_ck_some e
      refine hs_wa 4 (c := vp_in x4 10) (pc' := 27) (ls' := [hs_r 5 o, hs_i x1, hs_i x2, hs_i x3, hs_i x4]) (st' := [hs_i (h.1 28 o x4.toNatClampNeg)]) (h' := h) (fun n w => w) (hs_inb_iff.mp c3) ?_
      refine hs_wb 2 (c := x2 < (h.1 28 o x4.toNatClampNeg)) (t := 50) (f := 31) (ls' := [hs_r 5 o, hs_i x1, hs_i x2, hs_i x3, hs_i x4]) (st' := []) (h' := h) (fun n w => w) (fun b4 => ?_) (fun b4 => ?_)
      · rw [if_pos b4] at e
        exact hw_49_50 hd hk5 e q
      · rw [if_neg b4] at e
        obtain ⟨c5, e⟩ := hs_ck_some e
        refine hs_wa 4 (c := vp_in x4 10) (pc' := 38) (ls' := [hs_r 5 o, hs_i x1, hs_i x2, hs_i x3, hs_i x4]) (st' := [hs_i (h.1 28 o x4.toNatClampNeg)]) (h' := h) (fun n w => w) (hs_inb_iff.mp c5) ?_
        refine hs_wb 2 (c := (h.1 28 o x4.toNatClampNeg) ≤ x3) (t := 50) (f := 42) (ls' := [hs_r 5 o, hs_i x1, hs_i x2, hs_i x3, hs_i x4]) (st' := []) (h' := h) (fun n w => w) (fun b6 => ?_) (fun b6 => ?_)
        · rw [if_pos b6] at e
          exact hw_49_50 hd hk5 e q
        · rw [if_neg b6] at e
          obtain ⟨c7, e⟩ := hs_ck_some e
          refine hs_wa 4 (c := vp_in x4 10) (pc' := 49) (ls' := [hs_r 5 o, hs_i x1, hs_i x2, hs_i x3, hs_i x4]) (st' := [hs_i (h.1 28 o x4.toNatClampNeg)]) (h' := h) (fun n w => w) (hs_inb_iff.mp c7) ?_
          refine hs_w 1 (pc' := 50) (ls' := [hs_r 5 o, hs_i x1, hs_i x2, hs_i (h.1 28 o x4.toNatClampNeg), hs_i x4]) (st' := []) (h' := h) (fun n w => w) ?_
          exact hw_49_50 hd hk5 e q
theorem hw_49_5_lp {S : hs_S} {d : Nat} {Q : hs_Q} (hd : 0 ≤ d) {o : Nat}   (n : Nat) {x1 : Int32} {x2 : Int32} {x3 : Int32} {x4 : Int32} {h : hs_H} {r : Int32 × hs_H} (e : hs_lp (fun k s => hb_49_5 o k s.1 s.2.1 s.2.2.1 s.2.2.2.1 s.2.2.2.2) n (x1, x2, x3, x4, h) = some r)  (q : Q (some (hs_i r.1)) r.2) : hs_W S d 1 hs_p49 Q 5 [hs_r 5 o, hs_i x1, hs_i x2, hs_i x3, hs_i x4] [] h := by
  refine hs_lp_ind (P := fun (s : Int32 × Int32 × Int32 × Int32 × hs_H) (r : Int32 × hs_H) => ∀ (_ : True), Q (some (hs_i r.1)) r.2 → hs_W S d 1 hs_p49 Q 5 [hs_r 5 o, hs_i s.1, hs_i s.2.1, hs_i s.2.2.1, hs_i s.2.2.2.1] [] s.2.2.2.2) (fun k hk s r e _ q => ?_) n (x1, x2, x3, x4, h) r e trivial q
  exact hw_49_5 hd (fun x1 x2 x3 x4 h r  e q => hk (x1, x2, x3, x4, h) r e trivial q) e q
/-- HuntedScent$Notes.latestTurn(II)I -/
def hf_49 (o : Nat) (a1 : Int32) (a2 : Int32) (h : hs_H) : Option (Int32 × hs_H) := hs_lp (fun k s => hb_49_5 o k s.1 s.2.1 s.2.2.1 s.2.2.2.1 s.2.2.2.2) hs_big (a1, a2, nI 0, nI 0, h)
set_option maxHeartbeats 1000000 in
theorem hc_49 {S : hs_S} {D : Nat} {Q : hs_Q} (hD : 1 ≤ D) {o : Nat} {a1 : Int32} {a2 : Int32} {h : hs_H} {r : Int32 × hs_H} (e : hf_49 o a1 a2 h = some r) (q : Q (some (hs_i r.1)) r.2) : hs_call hs_ms S D 49 [hs_r 5 o, hs_i a1, hs_i a2] h Q := by
  refine hs_go (R := 0) hD rfl (Nat.le_of_ble_eq_true rfl) (fun d hd => ?_)
  show hs_W S d 1 hs_p49 Q 0 [hs_r 5 o, hs_i a1, hs_i a2, hs_u, hs_u] [] h
  unfold hf_49 at e
  refine hs_w 4 (pc' := 5) (ls' := [hs_r 5 o, hs_i a1, hs_i a2, hs_i (nI 0), hs_i (nI 0)]) (st' := []) (h' := h) (fun n w => w) ?_
  exact hw_49_5_lp hd hs_big e  q
def hb_99_52   (x3 : Int32)  (h : hs_H) : Option (Int32 × hs_H) := some (x3, h)
set_option maxHeartbeats 1000000 in
theorem hw_99_52 {S : hs_S} {d : Nat} {Q : hs_Q} (hd : 1 ≤ d)    {x3 : Int32}  {v1 : hs_V} {v2 : hs_V} {v4 : hs_V} {h : hs_H} {r : Int32 × hs_H} (e : hb_99_52 x3 h = some r) (q : Q (some (hs_i r.1)) r.2) : hs_W S d 1 hs_p99 Q 52 [hs_r 10 0, v1, v2, hs_i x3, v4] [] h := by
  unfold hb_99_52 at e
  obtain rfl := Option.some.inj e
  exact hs_wr 2 (v := some (hs_i x3)) (h' := h) (fun n w => w) q
def hb_99_44  (k5 : Int32 × Int32 × Int32 × Int32 × hs_H → Option (Int32 × hs_H)) (x1 : Int32) (x2 : Int32) (x4 : Int32) (s0 : Int32) (s1 : Int32) (h : hs_H) : Option (Int32 × hs_H) := k5 (x1, x2, s1 + s0, x4 + nI 1, h)
set_option maxHeartbeats 1000000 in
theorem hw_99_44 {S : hs_S} {d : Nat} {Q : hs_Q} (hd : 1 ≤ d)  {k5 : Int32 × Int32 × Int32 × Int32 × hs_H → Option (Int32 × hs_H)} (hk5 : ∀ (x1 : Int32) (x2 : Int32) (x3 : Int32) (x4 : Int32) (h : hs_H) (r : Int32 × hs_H) , k5 (x1, x2, x3, x4, h) = some r → Q (some (hs_i r.1)) r.2 → hs_W S d 1 hs_p99 Q 5 [hs_r 10 0, hs_i x1, hs_i x2, hs_i x3, hs_i x4] [] h) {x1 : Int32} {x2 : Int32} {x4 : Int32} {s0 : Int32} {s1 : Int32} {v3 : hs_V} {h : hs_H} {r : Int32 × hs_H} (e : hb_99_44 k5 x1 x2 x4 s0 s1 h = some r) (q : Q (some (hs_i r.1)) r.2) : hs_W S d 1 hs_p99 Q 44 [hs_r 10 0, hs_i x1, hs_i x2, v3, hs_i x4] [hs_i s0, hs_i s1] h := by
  unfold hb_99_44 at e
  refine hs_w 4 (pc' := 5) (ls' := [hs_r 10 0, hs_i x1, hs_i x2, hs_i (s1 + s0), hs_i (x4 + nI 1)]) (st' := []) (h' := h) (fun n w => w) ?_
  exact hk5 _ _ _ _ _ _  e q
def hb_99_5  (k5 : Int32 × Int32 × Int32 × Int32 × hs_H → Option (Int32 × hs_H)) (x1 : Int32) (x2 : Int32) (x3 : Int32) (x4 : Int32)  (h : hs_H) : Option (Int32 × hs_H) := if (nI 10) ≤ x4 then (hb_99_52 x3 h) else (if x1 < 0 then (hb_99_52 x3 h) else (if (nI 5) < x1 then (hb_99_52 x3 h) else ((hf_147 x2 x4 h).bind (fun q4 => if q4.1 = 0 then (hb_99_44 k5 x1 x2 x4 (nI 0) x3 q4.2) else (hs_ck (hs_inb x1 6) (hs_ck (hs_inb x4 10) (hb_99_44 k5 x1 x2 x4 (q4.2.1 37 x1.toNatClampNeg x4.toNatClampNeg) x3 q4.2)))))))
set_option maxHeartbeats 1000000 in
theorem hw_99_5 {S : hs_S} {d : Nat} {Q : hs_Q} (hd : 1 ≤ d)  {k5 : Int32 × Int32 × Int32 × Int32 × hs_H → Option (Int32 × hs_H)} (hk5 : ∀ (x1 : Int32) (x2 : Int32) (x3 : Int32) (x4 : Int32) (h : hs_H) (r : Int32 × hs_H) , k5 (x1, x2, x3, x4, h) = some r → Q (some (hs_i r.1)) r.2 → hs_W S d 1 hs_p99 Q 5 [hs_r 10 0, hs_i x1, hs_i x2, hs_i x3, hs_i x4] [] h) {x1 : Int32} {x2 : Int32} {x3 : Int32} {x4 : Int32}   {h : hs_H} {r : Int32 × hs_H} (e : hb_99_5 k5 x1 x2 x3 x4 h = some r) (q : Q (some (hs_i r.1)) r.2) : hs_W S d 1 hs_p99 Q 5 [hs_r 10 0, hs_i x1, hs_i x2, hs_i x3, hs_i x4] [] h := by
  unfold hb_99_5 at e
  refine hs_wb 3 (c := (nI 10) ≤ x4) (t := 52) (f := 12) (ls' := [hs_r 10 0, hs_i x1, hs_i x2, hs_i x3, hs_i x4]) (st' := []) (h' := h) (fun n w => w) (fun b1 => ?_) (fun b1 => ?_)
  · rw [if_pos b1] at e
    exact hw_99_52 hd e q
  · rw [if_neg b1] at e
    refine hs_wb 2 (c := x1 < 0) (t := 52) (f := 16) (ls' := [hs_r 10 0, hs_i x1, hs_i x2, hs_i x3, hs_i x4]) (st' := []) (h' := h) (fun n w => w) (fun b2 => ?_) (fun b2 => ?_)
    · rw [if_pos b2] at e
      exact hw_99_52 hd e q
    · rw [if_neg b2] at e
      refine hs_wb 3 (c := (nI 5) < x1) (t := 52) (f := 21) (ls' := [hs_r 10 0, hs_i x1, hs_i x2, hs_i x3, hs_i x4]) (st' := []) (h' := h) (fun n w => w) (fun b3 => ?_) (fun b3 => ?_)
      · rw [if_pos b3] at e
        exact hw_99_52 hd e q
      · rw [if_neg b3] at e
        obtain ⟨q4, eq4, e⟩ := hs_bind_some e
        try dsimp only at e
        refine hs_wc 4 (y := 147) (a := [hs_i x2, hs_i x4]) (v := some (hs_i q4.1)) (pc' := 28) (ls' := [hs_r 10 0, hs_i x1, hs_i x2, hs_i x3, hs_i x4]) (st' := [hs_i x3]) (h' := h) (h2 := q4.2) (fun n w => w) (fun q => hc_147 (by omega) eq4 q) ?_
        refine hs_wb 1 (c := q4.1 = 0) (t := 43) (f := 31) (ls' := [hs_r 10 0, hs_i x1, hs_i x2, hs_i x3, hs_i x4]) (st' := [hs_i x3]) (h' := q4.2) (fun n w => w) (fun b5 => ?_) (fun b5 => ?_)
        · rw [if_pos b5] at e
          refine hs_w 1 (pc' := 44) (ls' := [hs_r 10 0, hs_i x1, hs_i x2, hs_i x3, hs_i x4]) (st' := [hs_i (nI 0), hs_i x3]) (h' := q4.2) (fun n w => w) ?_
          exact hw_99_44 hd hk5 e q
        · rw [if_neg b5] at e
          obtain ⟨c6, e⟩ := hs_ck_some e
          refine hs_wa 4 (c := vp_in x1 6) (pc' := 37) (ls' := [hs_r 10 0, hs_i x1, hs_i x2, hs_i x3, hs_i x4]) (st' := [hs_r 37 x1.toNatClampNeg, hs_i x3]) (h' := q4.2) (fun n w => w) (hs_inb_iff.mp c6) ?_
          obtain ⟨c7, e⟩ := hs_ck_some e
          refine hs_wa 2 (c := vp_in x4 10) (pc' := 40) (ls' := [hs_r 10 0, hs_i x1, hs_i x2, hs_i x3, hs_i x4]) (st' := [hs_i (q4.2.1 37 x1.toNatClampNeg x4.toNatClampNeg), hs_i x3]) (h' := q4.2) (fun n w => w) (hs_inb_iff.mp c7) ?_
          refine hs_w 1 (pc' := 44) (ls' := [hs_r 10 0, hs_i x1, hs_i x2, hs_i x3, hs_i x4]) (st' := [hs_i (q4.2.1 37 x1.toNatClampNeg x4.toNatClampNeg), hs_i x3]) (h' := q4.2) (fun n w => w) ?_
          exact hw_99_44 hd hk5 e q
theorem hw_99_5_lp {S : hs_S} {d : Nat} {Q : hs_Q} (hd : 1 ≤ d)    (n : Nat) {x1 : Int32} {x2 : Int32} {x3 : Int32} {x4 : Int32} {h : hs_H} {r : Int32 × hs_H} (e : hs_lp (fun k s => hb_99_5 k s.1 s.2.1 s.2.2.1 s.2.2.2.1 s.2.2.2.2) n (x1, x2, x3, x4, h) = some r)  (q : Q (some (hs_i r.1)) r.2) : hs_W S d 1 hs_p99 Q 5 [hs_r 10 0, hs_i x1, hs_i x2, hs_i x3, hs_i x4] [] h := by
  refine hs_lp_ind (P := fun (s : Int32 × Int32 × Int32 × Int32 × hs_H) (r : Int32 × hs_H) => ∀ (_ : True), Q (some (hs_i r.1)) r.2 → hs_W S d 1 hs_p99 Q 5 [hs_r 10 0, hs_i s.1, hs_i s.2.1, hs_i s.2.2.1, hs_i s.2.2.2.1] [] s.2.2.2.2) (fun k hk s r e _ q => ?_) n (x1, x2, x3, x4, h) r e trivial q
  exact hw_99_5 hd (fun x1 x2 x3 x4 h r  e q => hk (x1, x2, x3, x4, h) r e trivial q) e q
/-- HuntedScent$Wayfinder.walksFrom(II)I -/
def hf_99 (a1 : Int32) (a2 : Int32) (h : hs_H) : Option (Int32 × hs_H) := hs_lp (fun k s => hb_99_5 k s.1 s.2.1 s.2.2.1 s.2.2.2.1 s.2.2.2.2) hs_big (a1, a2, nI 0, nI 0, h)
set_option maxHeartbeats 1000000 in
theorem hc_99 {S : hs_S} {D : Nat} {Q : hs_Q} (hD : 2 ≤ D) {a1 : Int32} {a2 : Int32} {h : hs_H} {r : Int32 × hs_H} (e : hf_99 a1 a2 h = some r) (q : Q (some (hs_i r.1)) r.2) : hs_call hs_ms S D 99 [hs_r 10 0, hs_i a1, hs_i a2] h Q := by
  refine hs_go (R := 1) hD rfl (Nat.le_of_ble_eq_true rfl) (fun d hd => ?_)
  show hs_W S d 1 hs_p99 Q 0 [hs_r 10 0, hs_i a1, hs_i a2, hs_u, hs_u] [] h
  unfold hf_99 at e
  refine hs_w 4 (pc' := 5) (ls' := [hs_r 10 0, hs_i a1, hs_i a2, hs_i (nI 0), hs_i (nI 0)]) (st' := []) (h' := h) (fun n w => w) ?_
  exact hw_99_5_lp hd hs_big e  q
def hb_98_139     (h : hs_H) : Option (hs_H) := some h
set_option maxHeartbeats 1000000 in
theorem hw_98_139 {S : hs_S} {d : Nat} {Q : hs_Q} (hd : 2 ≤ d)      {v1 : hs_V} {v2 : hs_V} {h : hs_H} {r : hs_H} (e : hb_98_139 h = some r) (q : Q none r) : hs_W S d 0 hs_p98 Q 139 [hs_r 10 0, v1, v2] [] h := by
  unfold hb_98_139 at e
  obtain rfl := Option.some.inj e
  exact hs_wr 1 (v := none) (h' := h) (fun n w => w) q
def hb_98_133  (k38 : Int32 × hs_H → Option (hs_H)) (x1 : Int32)  (h : hs_H) : Option (hs_H) := k38 (x1 + nI 1, h)
set_option maxHeartbeats 1000000 in
theorem hw_98_133 {S : hs_S} {d : Nat} {Q : hs_Q} (hd : 2 ≤ d)  {k38 : Int32 × hs_H → Option (hs_H)} (hk38 : ∀ (x1 : Int32) (h : hs_H) (r : hs_H) (v2 : hs_V), k38 (x1, h) = some r → Q none r → hs_W S d 0 hs_p98 Q 38 [hs_r 10 0, hs_i x1, v2] [] h) {x1 : Int32}  {v2 : hs_V} {h : hs_H} {r : hs_H} (e : hb_98_133 k38 x1 h = some r) (q : Q none r) : hs_W S d 0 hs_p98 Q 133 [hs_r 10 0, hs_i x1, v2] [] h := by
  unfold hb_98_133 at e
  refine hs_w 2 (pc' := 38) (ls' := [hs_r 10 0, hs_i (x1 + nI 1), v2]) (st' := []) (h' := h) (fun n w => w) ?_
  exact hk38 _ _ _ _ e q
def hb_98_125  (k38 : Int32 × hs_H → Option (hs_H)) (k60 : Int32 × Int32 × hs_H → Option (hs_H)) (x1 : Int32) (x2 : Int32) (s0 : Int32) (s1 : Int32) (s2 : Int32) (h : hs_H) : Option (hs_H) := hs_ck (hs_inb s2 6) (k60 (x1, x2 + nI 1, hs_put h 38 0 s2.toNatClampNeg (s1 ||| s0)))
set_option maxHeartbeats 1000000 in
theorem hw_98_125 {S : hs_S} {d : Nat} {Q : hs_Q} (hd : 2 ≤ d)  {k38 : Int32 × hs_H → Option (hs_H)} {k60 : Int32 × Int32 × hs_H → Option (hs_H)} (hk38 : ∀ (x1 : Int32) (h : hs_H) (r : hs_H) (v2 : hs_V), k38 (x1, h) = some r → Q none r → hs_W S d 0 hs_p98 Q 38 [hs_r 10 0, hs_i x1, v2] [] h) (hk60 : ∀ (x1 : Int32) (x2 : Int32) (h : hs_H) (r : hs_H) , k60 (x1, x2, h) = some r → Q none r → hs_W S d 0 hs_p98 Q 60 [hs_r 10 0, hs_i x1, hs_i x2] [] h) {x1 : Int32} {x2 : Int32} {s0 : Int32} {s1 : Int32} {s2 : Int32}  {h : hs_H} {r : hs_H} (e : hb_98_125 k38 k60 x1 x2 s0 s1 s2 h = some r) (q : Q none r) : hs_W S d 0 hs_p98 Q 125 [hs_r 10 0, hs_i x1, hs_i x2] [hs_i s0, hs_i s1, hs_i s2, hs_r 38 0] h := by
  unfold hb_98_125 at e
  obtain ⟨c17, e⟩ := hs_ck_some e
  refine hs_wa 2 (c := vp_in s2 6) (pc' := 127) (ls' := [hs_r 10 0, hs_i x1, hs_i x2]) (st' := []) (h' := hs_put h 38 0 s2.toNatClampNeg (s1 ||| s0)) (fun n w => w) (hs_inb_iff.mp c17) ?_
  refine hs_w 2 (pc' := 60) (ls' := [hs_r 10 0, hs_i x1, hs_i (x2 + nI 1)]) (st' := []) (h' := hs_put h 38 0 s2.toNatClampNeg (s1 ||| s0)) (fun n w => w) ?_
  exact hk60 _ _ _ _  e q
def hb_98_60  (k38 : Int32 × hs_H → Option (hs_H)) (k60 : Int32 × Int32 × hs_H → Option (hs_H)) (x1 : Int32) (x2 : Int32)  (h : hs_H) : Option (hs_H) := if (h.1 4 0 1) ≤ x2 then (hb_98_133 k38 x1 h) else (if (nI 10) ≤ x2 then (hb_98_133 k38 x1 h) else (hs_ck (hs_inb x1 6) ((hf_38 0 x2 h).bind (fun q10 => (hf_99 (x1 - (nI 1)) q10.1 q10.2).bind (fun q11 => hs_ck (hs_inb x2 10) (hs_ck (hs_inb x1 6) (hs_ck (hs_inb x1 6) (hs_ck (hs_inb x2 10) (if ((hs_put q11.2 37 x1.toNatClampNeg x2.toNatClampNeg q11.1).1 37 x1.toNatClampNeg x2.toNatClampNeg) ≤ 0 then (hb_98_125 k38 k60 x1 x2 (nI 0) ((hs_put q11.2 37 x1.toNatClampNeg x2.toNatClampNeg q11.1).1 38 0 x1.toNatClampNeg) x1 (hs_put q11.2 37 x1.toNatClampNeg x2.toNatClampNeg q11.1)) else (hb_98_125 k38 k60 x1 x2 ((nI 1) <<< (x2 &&& 31)) ((hs_put q11.2 37 x1.toNatClampNeg x2.toNatClampNeg q11.1).1 38 0 x1.toNatClampNeg) x1 (hs_put q11.2 37 x1.toNatClampNeg x2.toNatClampNeg q11.1)))))))))))
set_option maxHeartbeats 1000000 in
theorem hw_98_60 {S : hs_S} {d : Nat} {Q : hs_Q} (hd : 2 ≤ d)  {k38 : Int32 × hs_H → Option (hs_H)} {k60 : Int32 × Int32 × hs_H → Option (hs_H)} (hk38 : ∀ (x1 : Int32) (h : hs_H) (r : hs_H) (v2 : hs_V), k38 (x1, h) = some r → Q none r → hs_W S d 0 hs_p98 Q 38 [hs_r 10 0, hs_i x1, v2] [] h) (hk60 : ∀ (x1 : Int32) (x2 : Int32) (h : hs_H) (r : hs_H) , k60 (x1, x2, h) = some r → Q none r → hs_W S d 0 hs_p98 Q 60 [hs_r 10 0, hs_i x1, hs_i x2] [] h) {x1 : Int32} {x2 : Int32}   {h : hs_H} {r : hs_H} (e : hb_98_60 k38 k60 x1 x2 h = some r) (q : Q none r) : hs_W S d 0 hs_p98 Q 60 [hs_r 10 0, hs_i x1, hs_i x2] [] h := by
  unfold hb_98_60 at e
  refine hs_wb 5 (c := (h.1 4 0 1) ≤ x2) (t := 133) (f := 71) (ls' := [hs_r 10 0, hs_i x1, hs_i x2]) (st' := []) (h' := h) (fun n w => w) (fun b7 => ?_) (fun b7 => ?_)
  · rw [if_pos b7] at e
    exact hw_98_133 hd hk38 e q
  · rw [if_neg b7] at e
    refine hs_wb 3 (c := (nI 10) ≤ x2) (t := 133) (f := 77) (ls' := [hs_r 10 0, hs_i x1, hs_i x2]) (st' := []) (h' := h) (fun n w => w) (fun b8 => ?_) (fun b8 => ?_)
    · rw [if_pos b8] at e
      exact hw_98_133 hd hk38 e q
    · rw [if_neg b8] at e
      obtain ⟨c9, e⟩ := hs_ck_some e
      refine hs_wa 4 (c := vp_in x1 6) (pc' := 83) (ls' := [hs_r 10 0, hs_i x1, hs_i x2]) (st' := [hs_r 37 x1.toNatClampNeg]) (h' := h) (fun n w => w) (hs_inb_iff.mp c9) ?_
      obtain ⟨q10, eq10, e⟩ := hs_bind_some e
      try dsimp only at e
      refine hs_wc 9 (y := 38) (a := [hs_r 4 0, hs_i x2]) (v := some (hs_i q10.1)) (pc' := 96) (ls' := [hs_r 10 0, hs_i x1, hs_i x2]) (st' := [hs_i (x1 - (nI 1)), hs_r 10 0, hs_i x2, hs_r 37 x1.toNatClampNeg]) (h' := h) (h2 := q10.2) (fun n w => w) (fun q => hc_38 (by omega) eq10 q) ?_
      obtain ⟨q11, eq11, e⟩ := hs_bind_some e
      try dsimp only at e
      refine hs_wc 1 (y := 99) (a := [hs_r 10 0, hs_i (x1 - (nI 1)), hs_i q10.1]) (v := some (hs_i q11.1)) (pc' := 99) (ls' := [hs_r 10 0, hs_i x1, hs_i x2]) (st' := [hs_i x2, hs_r 37 x1.toNatClampNeg]) (h' := q10.2) (h2 := q11.2) (fun n w => w) (fun q => hc_99 (by omega) eq11 q) ?_
      obtain ⟨c12, e⟩ := hs_ck_some e
      refine hs_wa 1 (c := vp_in x2 10) (pc' := 100) (ls' := [hs_r 10 0, hs_i x1, hs_i x2]) (st' := []) (h' := hs_put q11.2 37 x1.toNatClampNeg x2.toNatClampNeg q11.1) (fun n w => w) (hs_inb_iff.mp c12) ?_
      obtain ⟨c13, e⟩ := hs_ck_some e
      refine hs_wa 5 (c := vp_in x1 6) (pc' := 107) (ls' := [hs_r 10 0, hs_i x1, hs_i x2]) (st' := [hs_i ((hs_put q11.2 37 x1.toNatClampNeg x2.toNatClampNeg q11.1).1 38 0 x1.toNatClampNeg), hs_i x1, hs_r 38 0]) (h' := hs_put q11.2 37 x1.toNatClampNeg x2.toNatClampNeg q11.1) (fun n w => w) (hs_inb_iff.mp c13) ?_
      obtain ⟨c14, e⟩ := hs_ck_some e
      refine hs_wa 4 (c := vp_in x1 6) (pc' := 113) (ls' := [hs_r 10 0, hs_i x1, hs_i x2]) (st' := [hs_r 37 x1.toNatClampNeg, hs_i ((hs_put q11.2 37 x1.toNatClampNeg x2.toNatClampNeg q11.1).1 38 0 x1.toNatClampNeg), hs_i x1, hs_r 38 0]) (h' := hs_put q11.2 37 x1.toNatClampNeg x2.toNatClampNeg q11.1) (fun n w => w) (hs_inb_iff.mp c14) ?_
      obtain ⟨c15, e⟩ := hs_ck_some e
      refine hs_wa 2 (c := vp_in x2 10) (pc' := 115) (ls' := [hs_r 10 0, hs_i x1, hs_i x2]) (st' := [hs_i ((hs_put q11.2 37 x1.toNatClampNeg x2.toNatClampNeg q11.1).1 37 x1.toNatClampNeg x2.toNatClampNeg), hs_i ((hs_put q11.2 37 x1.toNatClampNeg x2.toNatClampNeg q11.1).1 38 0 x1.toNatClampNeg), hs_i x1, hs_r 38 0]) (h' := hs_put q11.2 37 x1.toNatClampNeg x2.toNatClampNeg q11.1) (fun n w => w) (hs_inb_iff.mp c15) ?_
      refine hs_wb 1 (c := ((hs_put q11.2 37 x1.toNatClampNeg x2.toNatClampNeg q11.1).1 37 x1.toNatClampNeg x2.toNatClampNeg) ≤ 0) (t := 124) (f := 118) (ls' := [hs_r 10 0, hs_i x1, hs_i x2]) (st' := [hs_i ((hs_put q11.2 37 x1.toNatClampNeg x2.toNatClampNeg q11.1).1 38 0 x1.toNatClampNeg), hs_i x1, hs_r 38 0]) (h' := hs_put q11.2 37 x1.toNatClampNeg x2.toNatClampNeg q11.1) (fun n w => w) (fun b16 => ?_) (fun b16 => ?_)
      · rw [if_pos b16] at e
        refine hs_w 1 (pc' := 125) (ls' := [hs_r 10 0, hs_i x1, hs_i x2]) (st' := [hs_i (nI 0), hs_i ((hs_put q11.2 37 x1.toNatClampNeg x2.toNatClampNeg q11.1).1 38 0 x1.toNatClampNeg), hs_i x1, hs_r 38 0]) (h' := hs_put q11.2 37 x1.toNatClampNeg x2.toNatClampNeg q11.1) (fun n w => w) ?_
        exact hw_98_125 hd hk38 hk60 e q
      · rw [if_neg b16] at e
        refine hs_w 4 (pc' := 125) (ls' := [hs_r 10 0, hs_i x1, hs_i x2]) (st' := [hs_i ((nI 1) <<< (x2 &&& 31)), hs_i ((hs_put q11.2 37 x1.toNatClampNeg x2.toNatClampNeg q11.1).1 38 0 x1.toNatClampNeg), hs_i x1, hs_r 38 0]) (h' := hs_put q11.2 37 x1.toNatClampNeg x2.toNatClampNeg q11.1) (fun n w => w) ?_
        exact hw_98_125 hd hk38 hk60 e q
theorem hw_98_60_lp {S : hs_S} {d : Nat} {Q : hs_Q} (hd : 2 ≤ d)  {k38 : Int32 × hs_H → Option (hs_H)} (hk38 : ∀ (x1 : Int32) (h : hs_H) (r : hs_H) (v2 : hs_V), k38 (x1, h) = some r → Q none r → hs_W S d 0 hs_p98 Q 38 [hs_r 10 0, hs_i x1, v2] [] h) (n : Nat) {x1 : Int32} {x2 : Int32} {h : hs_H} {r : hs_H} (e : hs_lp (fun k s => hb_98_60 k38 k s.1 s.2.1 s.2.2) n (x1, x2, h) = some r)  (q : Q none r) : hs_W S d 0 hs_p98 Q 60 [hs_r 10 0, hs_i x1, hs_i x2] [] h := by
  refine hs_lp_ind (P := fun (s : Int32 × Int32 × hs_H) (r : hs_H) => ∀ (_ : True), Q none r → hs_W S d 0 hs_p98 Q 60 [hs_r 10 0, hs_i s.1, hs_i s.2.1] [] s.2.2) (fun k hk s r e _ q => ?_) n (x1, x2, h) r e trivial q
  exact hw_98_60 hd hk38 (fun x1 x2 h r  e q => hk (x1, x2, h) r e trivial q) e q
def hb_98_38  (k38 : Int32 × hs_H → Option (hs_H)) (x1 : Int32)  (h : hs_H) : Option (hs_H) := if (h.1 10 0 9) < x1 then (hb_98_139 h) else (if (nI 5) < x1 then (hb_98_139 h) else (hs_ck (hs_inb x1 6) (hs_lp (fun k s => hb_98_60 k38 k s.1 s.2.1 s.2.2) hs_big (x1, nI 0, hs_put h 38 0 x1.toNatClampNeg (nI 0)))))
set_option maxHeartbeats 1000000 in
theorem hw_98_38 {S : hs_S} {d : Nat} {Q : hs_Q} (hd : 2 ≤ d)  {k38 : Int32 × hs_H → Option (hs_H)} (hk38 : ∀ (x1 : Int32) (h : hs_H) (r : hs_H) (v2 : hs_V), k38 (x1, h) = some r → Q none r → hs_W S d 0 hs_p98 Q 38 [hs_r 10 0, hs_i x1, v2] [] h) {x1 : Int32}  {v2 : hs_V} {h : hs_H} {r : hs_H} (e : hb_98_38 k38 x1 h = some r) (q : Q none r) : hs_W S d 0 hs_p98 Q 38 [hs_r 10 0, hs_i x1, v2] [] h := by
  unfold hb_98_38 at e
  refine hs_wb 4 (c := (h.1 10 0 9) < x1) (t := 139) (f := 46) (ls' := [hs_r 10 0, hs_i x1, v2]) (st' := []) (h' := h) (fun n w => w) (fun b4 => ?_) (fun b4 => ?_)
  · rw [if_pos b4] at e
    exact hw_98_139 hd e q
  · rw [if_neg b4] at e
    refine hs_wb 3 (c := (nI 5) < x1) (t := 139) (f := 51) (ls' := [hs_r 10 0, hs_i x1, v2]) (st' := []) (h' := h) (fun n w => w) (fun b5 => ?_) (fun b5 => ?_)
    · rw [if_pos b5] at e
      exact hw_98_139 hd e q
    · rw [if_neg b5] at e
      obtain ⟨c6, e⟩ := hs_ck_some e
      refine hs_wa 5 (c := vp_in x1 6) (pc' := 58) (ls' := [hs_r 10 0, hs_i x1, v2]) (st' := []) (h' := hs_put h 38 0 x1.toNatClampNeg (nI 0)) (fun n w => w) (hs_inb_iff.mp c6) ?_
      refine hs_w 2 (pc' := 60) (ls' := [hs_r 10 0, hs_i x1, hs_i (nI 0)]) (st' := []) (h' := hs_put h 38 0 x1.toNatClampNeg (nI 0)) (fun n w => w) ?_
      exact hw_98_60_lp hd hk38 hs_big e  q
theorem hw_98_38_lp {S : hs_S} {d : Nat} {Q : hs_Q} (hd : 2 ≤ d)    (n : Nat) {x1 : Int32} {h : hs_H} {r : hs_H} (e : hs_lp (fun k s => hb_98_38 k s.1 s.2) n (x1, h) = some r) (v2 : hs_V) (q : Q none r) : hs_W S d 0 hs_p98 Q 38 [hs_r 10 0, hs_i x1, v2] [] h := by
  refine hs_lp_ind (P := fun (s : Int32 × hs_H) (r : hs_H) => ∀ (v2 : hs_V), Q none r → hs_W S d 0 hs_p98 Q 38 [hs_r 10 0, hs_i s.1, v2] [] s.2) (fun k hk s r e v2 q => ?_) n (x1, h) r e v2 q
  exact hw_98_38 hd (fun x1 h r v2 e q => hk (x1, h) r e v2 q) e q
def hb_98_15  (k15 : Int32 × hs_H → Option (hs_H)) (x1 : Int32)  (h : hs_H) : Option (hs_H) := if (nI 10) ≤ x1 then (hs_lp (fun k s => hb_98_38 k s.1 s.2) hs_big (nI 1, h)) else (hs_ck (hs_inb (nI 0) 6) (hs_ck (hs_inb x1 10) (k15 (x1 + nI 1, hs_put h 37 ((nI 0).toNatClampNeg) x1.toNatClampNeg (nI 1)))))
set_option maxHeartbeats 1000000 in
theorem hw_98_15 {S : hs_S} {d : Nat} {Q : hs_Q} (hd : 2 ≤ d)  {k15 : Int32 × hs_H → Option (hs_H)} (hk15 : ∀ (x1 : Int32) (h : hs_H) (r : hs_H) (v2 : hs_V), k15 (x1, h) = some r → Q none r → hs_W S d 0 hs_p98 Q 15 [hs_r 10 0, hs_i x1, v2] [] h) {x1 : Int32}  {v2 : hs_V} {h : hs_H} {r : hs_H} (e : hb_98_15 k15 x1 h = some r) (q : Q none r) : hs_W S d 0 hs_p98 Q 15 [hs_r 10 0, hs_i x1, v2] [] h := by
  unfold hb_98_15 at e
  refine hs_wb 3 (c := (nI 10) ≤ x1) (t := 36) (f := 21) (ls' := [hs_r 10 0, hs_i x1, v2]) (st' := []) (h' := h) (fun n w => w) (fun b3 => ?_) (fun b3 => ?_)
  · rw [if_pos b3] at e
    refine hs_w 2 (pc' := 38) (ls' := [hs_r 10 0, hs_i (nI 1), v2]) (st' := []) (h' := h) (fun n w => w) ?_
    exact hw_98_38_lp hd hs_big e _ q
  · rw [if_neg b3] at e
    obtain ⟨c18, e⟩ := hs_ck_some e
    refine hs_wa 4 (c := vp_in (nI 0) 6) (pc' := 27) (ls' := [hs_r 10 0, hs_i x1, v2]) (st' := [hs_r 37 ((nI 0).toNatClampNeg)]) (h' := h) (fun n w => w) (hs_inb_iff.mp c18) ?_
    obtain ⟨c19, e⟩ := hs_ck_some e
    refine hs_wa 3 (c := vp_in x1 10) (pc' := 30) (ls' := [hs_r 10 0, hs_i x1, v2]) (st' := []) (h' := hs_put h 37 ((nI 0).toNatClampNeg) x1.toNatClampNeg (nI 1)) (fun n w => w) (hs_inb_iff.mp c19) ?_
    refine hs_w 2 (pc' := 15) (ls' := [hs_r 10 0, hs_i (x1 + nI 1), v2]) (st' := []) (h' := hs_put h 37 ((nI 0).toNatClampNeg) x1.toNatClampNeg (nI 1)) (fun n w => w) ?_
    exact hk15 _ _ _ _ e q
theorem hw_98_15_lp {S : hs_S} {d : Nat} {Q : hs_Q} (hd : 2 ≤ d)    (n : Nat) {x1 : Int32} {h : hs_H} {r : hs_H} (e : hs_lp (fun k s => hb_98_15 k s.1 s.2) n (x1, h) = some r) (v2 : hs_V) (q : Q none r) : hs_W S d 0 hs_p98 Q 15 [hs_r 10 0, hs_i x1, v2] [] h := by
  refine hs_lp_ind (P := fun (s : Int32 × hs_H) (r : hs_H) => ∀ (v2 : hs_V), Q none r → hs_W S d 0 hs_p98 Q 15 [hs_r 10 0, hs_i s.1, v2] [] s.2) (fun k hk s r e v2 q => ?_) n (x1, h) r e v2 q
  exact hw_98_15 hd (fun x1 h r v2 e q => hk (x1, h) r e v2 q) e q
/-- HuntedScent$Wayfinder.countWalks()V -/
def hf_98  (h : hs_H) : Option (hs_H) := (hf_31 0 h).bind (fun q1 => hs_ck (hs_inb (nI 0) 6) (hs_lp (fun k s => hb_98_15 k s.1 s.2) hs_big (nI 0, hs_put q1.2 38 0 (nI 0).toNatClampNeg q1.1)))
set_option maxHeartbeats 1000000 in
theorem hc_98 {S : hs_S} {D : Nat} {Q : hs_Q} (hD : 3 ≤ D)  {h : hs_H} {r : hs_H} (e : hf_98 h = some r) (q : Q none r) : hs_call hs_ms S D 98 [hs_r 10 0] h Q := by
  refine hs_go (R := 2) hD rfl (Nat.le_of_ble_eq_true rfl) (fun d hd => ?_)
  show hs_W S d 0 hs_p98 Q 0 [hs_r 10 0, hs_u, hs_u] [] h
  unfold hf_98 at e
  obtain ⟨q1, eq1, e⟩ := hs_bind_some e
  try dsimp only at e
  refine hs_wc 6 (y := 31) (a := [hs_r 4 0]) (v := some (hs_i q1.1)) (pc' := 12) (ls' := [hs_r 10 0, hs_u, hs_u]) (st' := [hs_i (nI 0), hs_r 38 0]) (h' := h) (h2 := q1.2) (fun n w => w) (fun q => hc_31 (by omega) eq1 q) ?_
  obtain ⟨c2, e⟩ := hs_ck_some e
  refine hs_wa 1 (c := vp_in (nI 0) 6) (pc' := 13) (ls' := [hs_r 10 0, hs_u, hs_u]) (st' := []) (h' := hs_put q1.2 38 0 (nI 0).toNatClampNeg q1.1) (fun n w => w) (hs_inb_iff.mp c2) ?_
  refine hs_w 2 (pc' := 15) (ls' := [hs_r 10 0, hs_i (nI 0), hs_u]) (st' := []) (h' := hs_put q1.2 38 0 (nI 0).toNatClampNeg q1.1) (fun n w => w) ?_
  exact hw_98_15_lp hd hs_big e _ q
def hb_100_19    (s0 : Int32) (h : hs_H) : Option (Int32 × hs_H) := some (s0, h)
set_option maxHeartbeats 1000000 in
theorem hw_100_19 {S : hs_S} {d : Nat} {Q : hs_Q} (hd : 0 ≤ d)     {s0 : Int32} {v1 : hs_V} {h : hs_H} {r : Int32 × hs_H} (e : hb_100_19 s0 h = some r) (q : Q (some (hs_i r.1)) r.2) : hs_W S d 1 hs_p100 Q 19 [hs_r 10 0, v1] [hs_i s0] h := by
  unfold hb_100_19 at e
  obtain rfl := Option.some.inj e
  exact hs_wr 1 (v := some (hs_i s0)) (h' := h) (fun n w => w) q
def hb_100_18     (h : hs_H) : Option (Int32 × hs_H) := hb_100_19 (nI 0) h
set_option maxHeartbeats 1000000 in
theorem hw_100_18 {S : hs_S} {d : Nat} {Q : hs_Q} (hd : 0 ≤ d)      {v1 : hs_V} {h : hs_H} {r : Int32 × hs_H} (e : hb_100_18 h = some r) (q : Q (some (hs_i r.1)) r.2) : hs_W S d 1 hs_p100 Q 18 [hs_r 10 0, v1] [] h := by
  unfold hb_100_18 at e
  refine hs_w 1 (pc' := 19) (ls' := [hs_r 10 0, v1]) (st' := [hs_i (nI 0)]) (h' := h) (fun n w => w) ?_
  exact hw_100_19 hd e q
/-- HuntedScent$Wayfinder.onwardOf(I)I -/
def hf_100 (a1 : Int32) (h : hs_H) : Option (Int32 × hs_H) := if a1 < 0 then (hb_100_18 h) else (if (nI 5) < a1 then (hb_100_18 h) else (hs_ck (hs_inb a1 6) (hb_100_19 (h.1 38 0 a1.toNatClampNeg) h)))
set_option maxHeartbeats 1000000 in
theorem hc_100 {S : hs_S} {D : Nat} {Q : hs_Q} (hD : 1 ≤ D) {a1 : Int32} {h : hs_H} {r : Int32 × hs_H} (e : hf_100 a1 h = some r) (q : Q (some (hs_i r.1)) r.2) : hs_call hs_ms S D 100 [hs_r 10 0, hs_i a1] h Q := by
  refine hs_go (R := 0) hD rfl (Nat.le_of_ble_eq_true rfl) (fun d hd => ?_)
  show hs_W S d 1 hs_p100 Q 0 [hs_r 10 0, hs_i a1] [] h
  unfold hf_100 at e
  refine hs_wb 2 (c := a1 < 0) (t := 18) (f := 4) (ls' := [hs_r 10 0, hs_i a1]) (st' := []) (h' := h) (fun n w => w) (fun b1 => ?_) (fun b1 => ?_)
  · rw [if_pos b1] at e
    exact hw_100_18 hd e q
  · rw [if_neg b1] at e
    refine hs_wb 3 (c := (nI 5) < a1) (t := 18) (f := 9) (ls' := [hs_r 10 0, hs_i a1]) (st' := []) (h' := h) (fun n w => w) (fun b2 => ?_) (fun b2 => ?_)
    · rw [if_pos b2] at e
      exact hw_100_18 hd e q
    · rw [if_neg b2] at e
      obtain ⟨c3, e⟩ := hs_ck_some e
      refine hs_wa 4 (c := vp_in a1 6) (pc' := 15) (ls' := [hs_r 10 0, hs_i a1]) (st' := [hs_i (h.1 38 0 a1.toNatClampNeg)]) (h' := h) (fun n w => w) (hs_inb_iff.mp c3) ?_
      refine hs_w 1 (pc' := 19) (ls' := [hs_r 10 0, hs_i a1]) (st' := [hs_i (h.1 38 0 a1.toNatClampNeg)]) (h' := h) (fun n w => w) ?_
      exact hw_100_19 hd e q
def hb_50_35_140 (o : Nat) (p3 : Nat)  (x5 : Int32)  (h : hs_H) : Option (Int32 × hs_H) := some (x5, h)
set_option maxHeartbeats 1000000 in
theorem hw_50_35_140 {S : hs_S} {d : Nat} {Q : hs_Q} (hd : 2 ≤ d) {o : Nat} {p3 : Nat}   {x5 : Int32}  {v1 : hs_V} {v2 : hs_V} {v4 : hs_V} {v6 : hs_V} {v7 : hs_V} {v8 : hs_V} {v9 : hs_V} {v10 : hs_V} {v11 : hs_V} {h : hs_H} {r : Int32 × hs_H} (e : hb_50_35_140 o p3 x5 h = some r) (q : Q (some (hs_i r.1)) r.2) : hs_W S d 1 hs_p50 Q 140 [hs_r 5 o, v1, v2, hs_r 35 p3, v4, hs_i x5, v6, v7, v8, v9, v10, v11] [] h := by
  unfold hb_50_35_140 at e
  obtain rfl := Option.some.inj e
  exact hs_wr 2 (v := some (hs_i x5)) (h' := h) (fun n w => w) q
def hb_50_35_134 (o : Nat) (p3 : Nat) (k8 : Int32 × Int32 × Int32 × Int32 × Int32 × hs_H → Option (Int32 × hs_H)) (x1 : Int32) (x2 : Int32) (x4 : Int32) (x5 : Int32) (x6 : Int32)  (h : hs_H) : Option (Int32 × hs_H) := k8 (x1, x2, x4, x5, x6 + nI 1, h)
set_option maxHeartbeats 1000000 in
theorem hw_50_35_134 {S : hs_S} {d : Nat} {Q : hs_Q} (hd : 2 ≤ d) {o : Nat} {p3 : Nat} {k8 : Int32 × Int32 × Int32 × Int32 × Int32 × hs_H → Option (Int32 × hs_H)} (hk8 : ∀ (x1 : Int32) (x2 : Int32) (x4 : Int32) (x5 : Int32) (x6 : Int32) (h : hs_H) (r : Int32 × hs_H) (v7 : hs_V) (v8 : hs_V) (v9 : hs_V) (v10 : hs_V) (v11 : hs_V), k8 (x1, x2, x4, x5, x6, h) = some r → Q (some (hs_i r.1)) r.2 → hs_W S d 1 hs_p50 Q 8 [hs_r 5 o, hs_i x1, hs_i x2, hs_r 35 p3, hs_i x4, hs_i x5, hs_i x6, v7, v8, v9, v10, v11] [] h) {x1 : Int32} {x2 : Int32} {x4 : Int32} {x5 : Int32} {x6 : Int32}  {v7 : hs_V} {v8 : hs_V} {v9 : hs_V} {v10 : hs_V} {v11 : hs_V} {h : hs_H} {r : Int32 × hs_H} (e : hb_50_35_134 o p3 k8 x1 x2 x4 x5 x6 h = some r) (q : Q (some (hs_i r.1)) r.2) : hs_W S d 1 hs_p50 Q 134 [hs_r 5 o, hs_i x1, hs_i x2, hs_r 35 p3, hs_i x4, hs_i x5, hs_i x6, v7, v8, v9, v10, v11] [] h := by
  unfold hb_50_35_134 at e
  refine hs_w 2 (pc' := 8) (ls' := [hs_r 5 o, hs_i x1, hs_i x2, hs_r 35 p3, hs_i x4, hs_i x5, hs_i (x6 + nI 1), v7, v8, v9, v10, v11]) (st' := []) (h' := h) (fun n w => w) ?_
  exact hk8 _ _ _ _ _ _ _ _ _ _ _ _ e q
def hb_50_35_122 (o : Nat) (p3 : Nat) (k8 : Int32 × Int32 × Int32 × Int32 × Int32 × hs_H → Option (Int32 × hs_H)) (x1 : Int32) (x2 : Int32) (x4 : Int32) (x5 : Int32) (x6 : Int32) (x10 : Int32) (s0 : Int32) (h : hs_H) : Option (Int32 × hs_H) := hb_50_35_134 o p3 k8 x1 x2 x4 (x5 &&& (x10 ||| s0)) x6 h
set_option maxHeartbeats 1000000 in
theorem hw_50_35_122 {S : hs_S} {d : Nat} {Q : hs_Q} (hd : 2 ≤ d) {o : Nat} {p3 : Nat} {k8 : Int32 × Int32 × Int32 × Int32 × Int32 × hs_H → Option (Int32 × hs_H)} (hk8 : ∀ (x1 : Int32) (x2 : Int32) (x4 : Int32) (x5 : Int32) (x6 : Int32) (h : hs_H) (r : Int32 × hs_H) (v7 : hs_V) (v8 : hs_V) (v9 : hs_V) (v10 : hs_V) (v11 : hs_V), k8 (x1, x2, x4, x5, x6, h) = some r → Q (some (hs_i r.1)) r.2 → hs_W S d 1 hs_p50 Q 8 [hs_r 5 o, hs_i x1, hs_i x2, hs_r 35 p3, hs_i x4, hs_i x5, hs_i x6, v7, v8, v9, v10, v11] [] h) {x1 : Int32} {x2 : Int32} {x4 : Int32} {x5 : Int32} {x6 : Int32} {x10 : Int32} {s0 : Int32} {v7 : hs_V} {v8 : hs_V} {v9 : hs_V} {v11 : hs_V} {h : hs_H} {r : Int32 × hs_H} (e : hb_50_35_122 o p3 k8 x1 x2 x4 x5 x6 x10 s0 h = some r) (q : Q (some (hs_i r.1)) r.2) : hs_W S d 1 hs_p50 Q 122 [hs_r 5 o, hs_i x1, hs_i x2, hs_r 35 p3, hs_i x4, hs_i x5, hs_i x6, v7, v8, v9, hs_i x10, v11] [hs_i s0] h := by
  unfold hb_50_35_122 at e
  refine hs_w 7 (pc' := 134) (ls' := [hs_r 5 o, hs_i x1, hs_i x2, hs_r 35 p3, hs_i x4, hs_i (x5 &&& (x10 ||| s0)), hs_i x6, v7, v8, v9, hs_i x10, hs_i s0]) (st' := []) (h' := h) (fun n w => w) ?_
  exact hw_50_35_134 hd hk8 e q
def hb_50_35_98 (o : Nat) (p3 : Nat) (k8 : Int32 × Int32 × Int32 × Int32 × Int32 × hs_H → Option (Int32 × hs_H)) (x1 : Int32) (x2 : Int32) (x4 : Int32) (x5 : Int32) (x6 : Int32) (x7 : Int32) (x8 : Int32) (s0 : Int32) (h : hs_H) : Option (Int32 × hs_H) := hs_ck (hs_inb x6 10) (if ¬ (h.1 30 o x6.toNatClampNeg) = x8 then (hb_50_35_122 o p3 k8 x1 x2 x4 x5 x6 s0 (nI 0) h) else (hb_50_35_122 o p3 k8 x1 x2 x4 x5 x6 s0 (((nI 1) <<< (x7 &&& 31)) ^^^ (nI 4294967295)) h))
set_option maxHeartbeats 1000000 in
theorem hw_50_35_98 {S : hs_S} {d : Nat} {Q : hs_Q} (hd : 2 ≤ d) {o : Nat} {p3 : Nat} {k8 : Int32 × Int32 × Int32 × Int32 × Int32 × hs_H → Option (Int32 × hs_H)} (hk8 : ∀ (x1 : Int32) (x2 : Int32) (x4 : Int32) (x5 : Int32) (x6 : Int32) (h : hs_H) (r : Int32 × hs_H) (v7 : hs_V) (v8 : hs_V) (v9 : hs_V) (v10 : hs_V) (v11 : hs_V), k8 (x1, x2, x4, x5, x6, h) = some r → Q (some (hs_i r.1)) r.2 → hs_W S d 1 hs_p50 Q 8 [hs_r 5 o, hs_i x1, hs_i x2, hs_r 35 p3, hs_i x4, hs_i x5, hs_i x6, v7, v8, v9, v10, v11] [] h) {x1 : Int32} {x2 : Int32} {x4 : Int32} {x5 : Int32} {x6 : Int32} {x7 : Int32} {x8 : Int32} {s0 : Int32} {v9 : hs_V} {v10 : hs_V} {v11 : hs_V} {h : hs_H} {r : Int32 × hs_H} (e : hb_50_35_98 o p3 k8 x1 x2 x4 x5 x6 x7 x8 s0 h = some r) (q : Q (some (hs_i r.1)) r.2) : hs_W S d 1 hs_p50 Q 98 [hs_r 5 o, hs_i x1, hs_i x2, hs_r 35 p3, hs_i x4, hs_i x5, hs_i x6, hs_i x7, hs_i x8, v9, v10, v11] [hs_i s0] h := by
  unfold hb_50_35_98 at e
  obtain ⟨c14, e⟩ := hs_ck_some e
  refine hs_wa 5 (c := vp_in x6 10) (pc' := 107) (ls' := [hs_r 5 o, hs_i x1, hs_i x2, hs_r 35 p3, hs_i x4, hs_i x5, hs_i x6, hs_i x7, hs_i x8, v9, hs_i s0, v11]) (st' := [hs_i (h.1 30 o x6.toNatClampNeg)]) (h' := h) (fun n w => w) (hs_inb_iff.mp c14) ?_
  refine hs_wb 2 (c := ¬ (h.1 30 o x6.toNatClampNeg) = x8) (t := 121) (f := 112) (ls' := [hs_r 5 o, hs_i x1, hs_i x2, hs_r 35 p3, hs_i x4, hs_i x5, hs_i x6, hs_i x7, hs_i x8, v9, hs_i s0, v11]) (st' := []) (h' := h) (fun n w => w) (fun b15 => ?_) (fun b15 => ?_)
  · rw [if_pos b15] at e
    refine hs_w 1 (pc' := 122) (ls' := [hs_r 5 o, hs_i x1, hs_i x2, hs_r 35 p3, hs_i x4, hs_i x5, hs_i x6, hs_i x7, hs_i x8, v9, hs_i s0, v11]) (st' := [hs_i (nI 0)]) (h' := h) (fun n w => w) ?_
    exact hw_50_35_122 hd hk8 e q
  · rw [if_neg b15] at e
    refine hs_w 6 (pc' := 122) (ls' := [hs_r 5 o, hs_i x1, hs_i x2, hs_r 35 p3, hs_i x4, hs_i x5, hs_i x6, hs_i x7, hs_i x8, v9, hs_i s0, v11]) (st' := [hs_i (((nI 1) <<< (x7 &&& 31)) ^^^ (nI 4294967295))]) (h' := h) (fun n w => w) ?_
    exact hw_50_35_122 hd hk8 e q
def hb_50_35_8 (o : Nat) (p3 : Nat) (k8 : Int32 × Int32 × Int32 × Int32 × Int32 × hs_H → Option (Int32 × hs_H)) (x1 : Int32) (x2 : Int32) (x4 : Int32) (x5 : Int32) (x6 : Int32)  (h : hs_H) : Option (Int32 × hs_H) := if x2 ≤ x6 then (hb_50_35_140 o p3 x5 h) else (if (h.1 5 o 3) ≤ x6 then (hb_50_35_140 o p3 x5 h) else (hs_ck (hs_inb x6 10) (hs_ck (hs_inb x6 10) (if ¬ (h.1 28 o x6.toNatClampNeg) = x1 then (hb_50_35_134 o p3 k8 x1 x2 x4 x5 x6 h) else (if (h.1 29 o x6.toNatClampNeg) < 0 then (hb_50_35_134 o p3 k8 x1 x2 x4 x5 x6 h) else (if (nI 10) ≤ (h.1 29 o x6.toNatClampNeg) then (hb_50_35_134 o p3 k8 x1 x2 x4 x5 x6 h) else (hs_ck (hs_inb (h.1 29 o x6.toNatClampNeg) 10) ((hf_85 (h.1 35 p3 (h.1 29 o x6.toNatClampNeg).toNatClampNeg) h).bind (fun q9 => (hf_147 x4 (h.1 29 o x6.toNatClampNeg) q9.2).bind (fun q10 => (hf_86 q9.1 q10.1 q10.2).bind (fun q11 => hs_ck (hs_inb x6 10) (if ¬ (q11.2.1 30 o x6.toNatClampNeg) = q11.1 then (hb_50_35_98 o p3 k8 x1 x2 x4 x5 x6 (h.1 29 o x6.toNatClampNeg) q9.1 (nI 0) q11.2) else (hb_50_35_98 o p3 k8 x1 x2 x4 x5 x6 (h.1 29 o x6.toNatClampNeg) q9.1 ((nI 1) <<< ((h.1 29 o x6.toNatClampNeg) &&& 31)) q11.2)))))))))))))
set_option maxHeartbeats 1000000 in
theorem hw_50_35_8 {S : hs_S} {d : Nat} {Q : hs_Q} (hd : 2 ≤ d) {o : Nat} {p3 : Nat} {k8 : Int32 × Int32 × Int32 × Int32 × Int32 × hs_H → Option (Int32 × hs_H)} (hk8 : ∀ (x1 : Int32) (x2 : Int32) (x4 : Int32) (x5 : Int32) (x6 : Int32) (h : hs_H) (r : Int32 × hs_H) (v7 : hs_V) (v8 : hs_V) (v9 : hs_V) (v10 : hs_V) (v11 : hs_V), k8 (x1, x2, x4, x5, x6, h) = some r → Q (some (hs_i r.1)) r.2 → hs_W S d 1 hs_p50 Q 8 [hs_r 5 o, hs_i x1, hs_i x2, hs_r 35 p3, hs_i x4, hs_i x5, hs_i x6, v7, v8, v9, v10, v11] [] h) {x1 : Int32} {x2 : Int32} {x4 : Int32} {x5 : Int32} {x6 : Int32}  {v7 : hs_V} {v8 : hs_V} {v9 : hs_V} {v10 : hs_V} {v11 : hs_V} {h : hs_H} {r : Int32 × hs_H} (e : hb_50_35_8 o p3 k8 x1 x2 x4 x5 x6 h = some r) (q : Q (some (hs_i r.1)) r.2) : hs_W S d 1 hs_p50 Q 8 [hs_r 5 o, hs_i x1, hs_i x2, hs_r 35 p3, hs_i x4, hs_i x5, hs_i x6, v7, v8, v9, v10, v11] [] h := by
  unfold hb_50_35_8 at e
  refine hs_wb 3 (c := x2 ≤ x6) (t := 140) (f := 14) (ls' := [hs_r 5 o, hs_i x1, hs_i x2, hs_r 35 p3, hs_i x4, hs_i x5, hs_i x6, v7, v8, v9, v10, v11]) (st' := []) (h' := h) (fun n w => w) (fun b1 => ?_) (fun b1 => ?_)
  · rw [if_pos b1] at e
    exact hw_50_35_140 hd e q
  · rw [if_neg b1] at e
    refine hs_wb 4 (c := (h.1 5 o 3) ≤ x6) (t := 140) (f := 23) (ls' := [hs_r 5 o, hs_i x1, hs_i x2, hs_r 35 p3, hs_i x4, hs_i x5, hs_i x6, v7, v8, v9, v10, v11]) (st' := []) (h' := h) (fun n w => w) (fun b2 => ?_) (fun b2 => ?_)
    · rw [if_pos b2] at e
      exact hw_50_35_140 hd e q
    · rw [if_neg b2] at e
      obtain ⟨c3, e⟩ := hs_ck_some e
      refine hs_wa 4 (c := vp_in x6 10) (pc' := 30) (ls' := [hs_r 5 o, hs_i x1, hs_i x2, hs_r 35 p3, hs_i x4, hs_i x5, hs_i x6, v7, v8, v9, v10, v11]) (st' := [hs_i (h.1 29 o x6.toNatClampNeg)]) (h' := h) (fun n w => w) (hs_inb_iff.mp c3) ?_
      obtain ⟨c4, e⟩ := hs_ck_some e
      refine hs_wa 5 (c := vp_in x6 10) (pc' := 39) (ls' := [hs_r 5 o, hs_i x1, hs_i x2, hs_r 35 p3, hs_i x4, hs_i x5, hs_i x6, hs_i (h.1 29 o x6.toNatClampNeg), v8, v9, v10, v11]) (st' := [hs_i (h.1 28 o x6.toNatClampNeg)]) (h' := h) (fun n w => w) (hs_inb_iff.mp c4) ?_
      refine hs_wb 2 (c := ¬ (h.1 28 o x6.toNatClampNeg) = x1) (t := 134) (f := 43) (ls' := [hs_r 5 o, hs_i x1, hs_i x2, hs_r 35 p3, hs_i x4, hs_i x5, hs_i x6, hs_i (h.1 29 o x6.toNatClampNeg), v8, v9, v10, v11]) (st' := []) (h' := h) (fun n w => w) (fun b5 => ?_) (fun b5 => ?_)
      · rw [if_pos b5] at e
        exact hw_50_35_134 hd hk8 e q
      · rw [if_neg b5] at e
        refine hs_wb 2 (c := (h.1 29 o x6.toNatClampNeg) < 0) (t := 134) (f := 48) (ls' := [hs_r 5 o, hs_i x1, hs_i x2, hs_r 35 p3, hs_i x4, hs_i x5, hs_i x6, hs_i (h.1 29 o x6.toNatClampNeg), v8, v9, v10, v11]) (st' := []) (h' := h) (fun n w => w) (fun b6 => ?_) (fun b6 => ?_)
        · rw [if_pos b6] at e
          exact hw_50_35_134 hd hk8 e q
        · rw [if_neg b6] at e
          refine hs_wb 4 (c := (nI 10) ≤ (h.1 29 o x6.toNatClampNeg)) (t := 134) (f := 55) (ls' := [hs_r 5 o, hs_i x1, hs_i x2, hs_r 35 p3, hs_i x4, hs_i x5, hs_i x6, hs_i (h.1 29 o x6.toNatClampNeg), v8, v9, v10, v11]) (st' := []) (h' := h) (fun n w => w) (fun b7 => ?_) (fun b7 => ?_)
          · rw [if_pos b7] at e
            exact hw_50_35_134 hd hk8 e q
          · rw [if_neg b7] at e
            obtain ⟨c8, e⟩ := hs_ck_some e
            refine hs_wa 3 (c := vp_in (h.1 29 o x6.toNatClampNeg) 10) (pc' := 59) (ls' := [hs_r 5 o, hs_i x1, hs_i x2, hs_r 35 p3, hs_i x4, hs_i x5, hs_i x6, hs_i (h.1 29 o x6.toNatClampNeg), v8, v9, v10, v11]) (st' := [hs_i (h.1 35 p3 (h.1 29 o x6.toNatClampNeg).toNatClampNeg)]) (h' := h) (fun n w => w) (hs_inb_iff.mp c8) ?_
            obtain ⟨q9, eq9, e⟩ := hs_bind_some e
            try dsimp only at e
            refine hs_wc 1 (y := 85) (a := [hs_i (h.1 35 p3 (h.1 29 o x6.toNatClampNeg).toNatClampNeg)]) (v := some (hs_i q9.1)) (pc' := 62) (ls' := [hs_r 5 o, hs_i x1, hs_i x2, hs_r 35 p3, hs_i x4, hs_i x5, hs_i x6, hs_i (h.1 29 o x6.toNatClampNeg), v8, v9, v10, v11]) (st' := []) (h' := h) (h2 := q9.2) (fun n w => w) (fun q => hc_85 (by omega) eq9 q) ?_
            obtain ⟨q10, eq10, e⟩ := hs_bind_some e
            try dsimp only at e
            refine hs_wc 5 (y := 147) (a := [hs_i x4, hs_i (h.1 29 o x6.toNatClampNeg)]) (v := some (hs_i q10.1)) (pc' := 73) (ls' := [hs_r 5 o, hs_i x1, hs_i x2, hs_r 35 p3, hs_i x4, hs_i x5, hs_i x6, hs_i (h.1 29 o x6.toNatClampNeg), hs_i q9.1, v9, v10, v11]) (st' := [hs_i q9.1]) (h' := q9.2) (h2 := q10.2) (fun n w => w) (fun q => hc_147 (by omega) eq10 q) ?_
            obtain ⟨q11, eq11, e⟩ := hs_bind_some e
            try dsimp only at e
            refine hs_wc 1 (y := 86) (a := [hs_i q9.1, hs_i q10.1]) (v := some (hs_i q11.1)) (pc' := 76) (ls' := [hs_r 5 o, hs_i x1, hs_i x2, hs_r 35 p3, hs_i x4, hs_i x5, hs_i x6, hs_i (h.1 29 o x6.toNatClampNeg), hs_i q9.1, v9, v10, v11]) (st' := []) (h' := q10.2) (h2 := q11.2) (fun n w => w) (fun q => hc_86 (by omega) eq11 q) ?_
            obtain ⟨c12, e⟩ := hs_ck_some e
            refine hs_wa 5 (c := vp_in x6 10) (pc' := 85) (ls' := [hs_r 5 o, hs_i x1, hs_i x2, hs_r 35 p3, hs_i x4, hs_i x5, hs_i x6, hs_i (h.1 29 o x6.toNatClampNeg), hs_i q9.1, hs_i q11.1, v10, v11]) (st' := [hs_i (q11.2.1 30 o x6.toNatClampNeg)]) (h' := q11.2) (fun n w => w) (hs_inb_iff.mp c12) ?_
            refine hs_wb 2 (c := ¬ (q11.2.1 30 o x6.toNatClampNeg) = q11.1) (t := 97) (f := 90) (ls' := [hs_r 5 o, hs_i x1, hs_i x2, hs_r 35 p3, hs_i x4, hs_i x5, hs_i x6, hs_i (h.1 29 o x6.toNatClampNeg), hs_i q9.1, hs_i q11.1, v10, v11]) (st' := []) (h' := q11.2) (fun n w => w) (fun b13 => ?_) (fun b13 => ?_)
            · rw [if_pos b13] at e
              refine hs_w 1 (pc' := 98) (ls' := [hs_r 5 o, hs_i x1, hs_i x2, hs_r 35 p3, hs_i x4, hs_i x5, hs_i x6, hs_i (h.1 29 o x6.toNatClampNeg), hs_i q9.1, hs_i q11.1, v10, v11]) (st' := [hs_i (nI 0)]) (h' := q11.2) (fun n w => w) ?_
              exact hw_50_35_98 hd hk8 e q
            · rw [if_neg b13] at e
              refine hs_w 4 (pc' := 98) (ls' := [hs_r 5 o, hs_i x1, hs_i x2, hs_r 35 p3, hs_i x4, hs_i x5, hs_i x6, hs_i (h.1 29 o x6.toNatClampNeg), hs_i q9.1, hs_i q11.1, v10, v11]) (st' := [hs_i ((nI 1) <<< ((h.1 29 o x6.toNatClampNeg) &&& 31))]) (h' := q11.2) (fun n w => w) ?_
              exact hw_50_35_98 hd hk8 e q
theorem hw_50_35_8_lp {S : hs_S} {d : Nat} {Q : hs_Q} (hd : 2 ≤ d) {o : Nat} {p3 : Nat}   (n : Nat) {x1 : Int32} {x2 : Int32} {x4 : Int32} {x5 : Int32} {x6 : Int32} {h : hs_H} {r : Int32 × hs_H} (e : hs_lp (fun k s => hb_50_35_8 o p3 k s.1 s.2.1 s.2.2.1 s.2.2.2.1 s.2.2.2.2.1 s.2.2.2.2.2) n (x1, x2, x4, x5, x6, h) = some r) (v7 : hs_V) (v8 : hs_V) (v9 : hs_V) (v10 : hs_V) (v11 : hs_V) (q : Q (some (hs_i r.1)) r.2) : hs_W S d 1 hs_p50 Q 8 [hs_r 5 o, hs_i x1, hs_i x2, hs_r 35 p3, hs_i x4, hs_i x5, hs_i x6, v7, v8, v9, v10, v11] [] h := by
  refine hs_lp_ind (P := fun (s : Int32 × Int32 × Int32 × Int32 × Int32 × hs_H) (r : Int32 × hs_H) => ∀ (v7 : hs_V) (v8 : hs_V) (v9 : hs_V) (v10 : hs_V) (v11 : hs_V), Q (some (hs_i r.1)) r.2 → hs_W S d 1 hs_p50 Q 8 [hs_r 5 o, hs_i s.1, hs_i s.2.1, hs_r 35 p3, hs_i s.2.2.1, hs_i s.2.2.2.1, hs_i s.2.2.2.2.1, v7, v8, v9, v10, v11] [] s.2.2.2.2.2) (fun k hk s r e v7 v8 v9 v10 v11 q => ?_) n (x1, x2, x4, x5, x6, h) r e v7 v8 v9 v10 v11 q
  exact hw_50_35_8 hd (fun x1 x2 x4 x5 x6 h r v7 v8 v9 v10 v11 e q => hk (x1, x2, x4, x5, x6, h) r e v7 v8 v9 v10 v11 q) e q
/-- HuntedScent$Notes.allowedIn(II[II)I -/
def hf_50_35 (o : Nat) (a1 : Int32) (a2 : Int32) (p3 : Nat) (a4 : Int32) (h : hs_H) : Option (Int32 × hs_H) := hs_lp (fun k s => hb_50_35_8 o p3 k s.1 s.2.1 s.2.2.1 s.2.2.2.1 s.2.2.2.2.1 s.2.2.2.2.2) hs_big (a1, a2, a4, nI 1023, nI 0, h)
set_option maxHeartbeats 1000000 in
theorem hc_50_35 {S : hs_S} {D : Nat} {Q : hs_Q} (hD : 3 ≤ D) {o : Nat} {a1 : Int32} {a2 : Int32} {p3 : Nat} {a4 : Int32} {h : hs_H} {r : Int32 × hs_H} (e : hf_50_35 o a1 a2 p3 a4 h = some r) (q : Q (some (hs_i r.1)) r.2) : hs_call hs_ms S D 50 [hs_r 5 o, hs_i a1, hs_i a2, hs_r 35 p3, hs_i a4] h Q := by
  refine hs_go (R := 2) hD rfl (Nat.le_of_ble_eq_true rfl) (fun d hd => ?_)
  show hs_W S d 1 hs_p50 Q 0 [hs_r 5 o, hs_i a1, hs_i a2, hs_r 35 p3, hs_i a4, hs_u, hs_u, hs_u, hs_u, hs_u, hs_u, hs_u] [] h
  unfold hf_50_35 at e
  refine hs_w 4 (pc' := 8) (ls' := [hs_r 5 o, hs_i a1, hs_i a2, hs_r 35 p3, hs_i a4, hs_i (nI 1023), hs_i (nI 0), hs_u, hs_u, hs_u, hs_u, hs_u]) (st' := []) (h' := h) (fun n w => w) ?_
  exact hw_50_35_8_lp hd hs_big e _ _ _ _ _ q
