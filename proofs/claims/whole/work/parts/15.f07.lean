/-! What the methods compute, by program; and that the small machine computes it. -/
def hb_187_32     (h : hs_H) : Option (Int32 × hs_H) := some (nI 4294967295, h)
set_option maxHeartbeats 1000000 in
theorem hw_187_32 {S : hs_S} {d : Nat} {Q : hs_Q} (hd : 2 ≤ d)      {v1 : hs_V} {v2 : hs_V} {v3 : hs_V} {v4 : hs_V} {h : hs_H} {r : Int32 × hs_H} (e : hb_187_32 h = some r) (q : Q (some (hs_i r.1)) r.2) : hs_W S d 1 hs_p187 Q 32 [hs_r 12 0, v1, v2, v3, v4] [] h := by
  unfold hb_187_32 at e
  obtain rfl := Option.some.inj e
  exact hs_wr 2 (v := some (hs_i (nI 4294967295))) (h' := h) (fun n w => w) q
/-- HuntedScentModel.smelt(III)I -/
def hf_187 (a1 : Int32) (a2 : Int32) (a3 : Int32) (h : hs_H) : Option (Int32 × hs_H) := (hf_150 a1.toInt64 (lN 0) (lN 5) h).bind (fun q1 => if q1.1 = 0 then (hb_187_32 q1.2) else ((hf_171 a2 q1.2).bind (fun q3 => if q3.1 = 0 then (hb_187_32 q3.2) else ((hf_150 a3.toInt64 (lN 0) (lN 18) q3.2).bind (fun q5 => if ¬ q5.1 = 0 then (hs_ck (hs_inb (nI 23) 162) (if ¬ (q5.2.1 44 0 (nI 23).toNatClampNeg) = (nI 10) then (hs_ck (hs_inb (nI 23) 162) (hs_ck (hs_inb ((nI 24) + ((nI 3) * (q5.2.1 44 0 (nI 23).toNatClampNeg))) 162) (hs_ck (hs_inb (((nI 24) + ((nI 3) * (q5.2.1 44 0 (nI 23).toNatClampNeg))) + (nI 1)) 162) (hs_ck (hs_inb (((nI 24) + ((nI 3) * (q5.2.1 44 0 (nI 23).toNatClampNeg))) + (nI 2)) 162) (hs_ck (hs_inb (nI 23) 162) (hs_ck (hs_inb (nI 23) 162) (hs_ck (hs_inb (nI 23) 162) (some ((hs_put (hs_put (hs_put (hs_put q5.2 44 0 ((nI 24) + ((nI 3) * (q5.2.1 44 0 (nI 23).toNatClampNeg))).toNatClampNeg a1) 44 0 (((nI 24) + ((nI 3) * (q5.2.1 44 0 (nI 23).toNatClampNeg))) + (nI 1)).toNatClampNeg a2) 44 0 (((nI 24) + ((nI 3) * (q5.2.1 44 0 (nI 23).toNatClampNeg))) + (nI 2)).toNatClampNeg a3) 44 0 (nI 23).toNatClampNeg (((hs_put (hs_put (hs_put q5.2 44 0 ((nI 24) + ((nI 3) * (q5.2.1 44 0 (nI 23).toNatClampNeg))).toNatClampNeg a1) 44 0 (((nI 24) + ((nI 3) * (q5.2.1 44 0 (nI 23).toNatClampNeg))) + (nI 1)).toNatClampNeg a2) 44 0 (((nI 24) + ((nI 3) * (q5.2.1 44 0 (nI 23).toNatClampNeg))) + (nI 2)).toNatClampNeg a3).1 44 0 (nI 23).toNatClampNeg) + (nI 1))).1 44 0 (nI 23).toNatClampNeg, hs_put (hs_put (hs_put (hs_put q5.2 44 0 ((nI 24) + ((nI 3) * (q5.2.1 44 0 (nI 23).toNatClampNeg))).toNatClampNeg a1) 44 0 (((nI 24) + ((nI 3) * (q5.2.1 44 0 (nI 23).toNatClampNeg))) + (nI 1)).toNatClampNeg a2) 44 0 (((nI 24) + ((nI 3) * (q5.2.1 44 0 (nI 23).toNatClampNeg))) + (nI 2)).toNatClampNeg a3) 44 0 (nI 23).toNatClampNeg (((hs_put (hs_put (hs_put q5.2 44 0 ((nI 24) + ((nI 3) * (q5.2.1 44 0 (nI 23).toNatClampNeg))).toNatClampNeg a1) 44 0 (((nI 24) + ((nI 3) * (q5.2.1 44 0 (nI 23).toNatClampNeg))) + (nI 1)).toNatClampNeg a2) 44 0 (((nI 24) + ((nI 3) * (q5.2.1 44 0 (nI 23).toNatClampNeg))) + (nI 2)).toNatClampNeg a3).1 44 0 (nI 23).toNatClampNeg) + (nI 1))))))))))) else (some (nI 4294967293, q5.2)))) else (hb_187_32 q5.2))))))
set_option maxHeartbeats 1000000 in
theorem hc_187 {S : hs_S} {D : Nat} {Q : hs_Q} (hD : 3 ≤ D) {a1 : Int32} {a2 : Int32} {a3 : Int32} {h : hs_H} {r : Int32 × hs_H} (e : hf_187 a1 a2 a3 h = some r) (q : Q (some (hs_i r.1)) r.2) : hs_call hs_ms S D 187 [hs_r 12 0, hs_i a1, hs_i a2, hs_i a3] h Q := by
  refine hs_go (R := 2) hD rfl (Nat.le_of_ble_eq_true rfl) (fun d hd => ?_)
  show hs_W S d 1 hs_p187 Q 0 [hs_r 12 0, hs_i a1, hs_i a2, hs_i a3, hs_u] [] h
  unfold hf_187 at e
  obtain ⟨q1, eq1, e⟩ := hs_bind_some e
  try dsimp only at e
  refine hs_wc 5 (y := 150) (a := [hs_l a1.toInt64, hs_l (lN 0), hs_l (lN 5)]) (v := some (hs_i q1.1)) (pc' := 9) (ls' := [hs_r 12 0, hs_i a1, hs_i a2, hs_i a3, hs_u]) (st' := []) (h' := h) (h2 := q1.2) (fun n w => w) (fun q => hc_150 (by omega) eq1 q) ?_
  refine hs_wb 1 (c := q1.1 = 0) (t := 32) (f := 12) (ls' := [hs_r 12 0, hs_i a1, hs_i a2, hs_i a3, hs_u]) (st' := []) (h' := q1.2) (fun n w => w) (fun b2 => ?_) (fun b2 => ?_)
  · rw [if_pos b2] at e
    exact hw_187_32 hd e q
  · rw [if_neg b2] at e
    obtain ⟨q3, eq3, e⟩ := hs_bind_some e
    try dsimp only at e
    refine hs_wc 3 (y := 171) (a := [hs_r 12 0, hs_i a2]) (v := some (hs_i q3.1)) (pc' := 17) (ls' := [hs_r 12 0, hs_i a1, hs_i a2, hs_i a3, hs_u]) (st' := []) (h' := q1.2) (h2 := q3.2) (fun n w => w) (fun q => hc_171 (by omega) eq3 q) ?_
    refine hs_wb 1 (c := q3.1 = 0) (t := 32) (f := 20) (ls' := [hs_r 12 0, hs_i a1, hs_i a2, hs_i a3, hs_u]) (st' := []) (h' := q3.2) (fun n w => w) (fun b4 => ?_) (fun b4 => ?_)
    · rw [if_pos b4] at e
      exact hw_187_32 hd e q
    · rw [if_neg b4] at e
      obtain ⟨q5, eq5, e⟩ := hs_bind_some e
      try dsimp only at e
      refine hs_wc 5 (y := 150) (a := [hs_l a3.toInt64, hs_l (lN 0), hs_l (lN 18)]) (v := some (hs_i q5.1)) (pc' := 29) (ls' := [hs_r 12 0, hs_i a1, hs_i a2, hs_i a3, hs_u]) (st' := []) (h' := q3.2) (h2 := q5.2) (fun n w => w) (fun q => hc_150 (by omega) eq5 q) ?_
      refine hs_wb 1 (c := ¬ q5.1 = 0) (t := 34) (f := 32) (ls' := [hs_r 12 0, hs_i a1, hs_i a2, hs_i a3, hs_u]) (st' := []) (h' := q5.2) (fun n w => w) (fun b6 => ?_) (fun b6 => ?_)
      · rw [if_pos b6] at e
        obtain ⟨c7, e⟩ := hs_ck_some e
        refine hs_wa 4 (c := vp_in (nI 23) 162) (pc' := 41) (ls' := [hs_r 12 0, hs_i a1, hs_i a2, hs_i a3, hs_u]) (st' := [hs_i (q5.2.1 44 0 (nI 23).toNatClampNeg)]) (h' := q5.2) (fun n w => w) (hs_inb_iff.mp c7) ?_
        refine hs_wb 2 (c := ¬ (q5.2.1 44 0 (nI 23).toNatClampNeg) = (nI 10)) (t := 49) (f := 46) (ls' := [hs_r 12 0, hs_i a1, hs_i a2, hs_i a3, hs_u]) (st' := []) (h' := q5.2) (fun n w => w) (fun b8 => ?_) (fun b8 => ?_)
        · rw [if_pos b8] at e
          obtain ⟨c9, e⟩ := hs_ck_some e
          refine hs_wa 6 (c := vp_in (nI 23) 162) (pc' := 59) (ls' := [hs_r 12 0, hs_i a1, hs_i a2, hs_i a3, hs_u]) (st' := [hs_i (q5.2.1 44 0 (nI 23).toNatClampNeg), hs_i (nI 3), hs_i (nI 24)]) (h' := q5.2) (fun n w => w) (hs_inb_iff.mp c9) ?_
          obtain ⟨c10, e⟩ := hs_ck_some e
          refine hs_wa 8 (c := vp_in ((nI 24) + ((nI 3) * (q5.2.1 44 0 (nI 23).toNatClampNeg))) 162) (pc' := 71) (ls' := [hs_r 12 0, hs_i a1, hs_i a2, hs_i a3, hs_i ((nI 24) + ((nI 3) * (q5.2.1 44 0 (nI 23).toNatClampNeg)))]) (st' := []) (h' := hs_put q5.2 44 0 ((nI 24) + ((nI 3) * (q5.2.1 44 0 (nI 23).toNatClampNeg))).toNatClampNeg a1) (fun n w => w) (hs_inb_iff.mp c10) ?_
          obtain ⟨c11, e⟩ := hs_ck_some e
          refine hs_wa 7 (c := vp_in (((nI 24) + ((nI 3) * (q5.2.1 44 0 (nI 23).toNatClampNeg))) + (nI 1)) 162) (pc' := 81) (ls' := [hs_r 12 0, hs_i a1, hs_i a2, hs_i a3, hs_i ((nI 24) + ((nI 3) * (q5.2.1 44 0 (nI 23).toNatClampNeg)))]) (st' := []) (h' := hs_put (hs_put q5.2 44 0 ((nI 24) + ((nI 3) * (q5.2.1 44 0 (nI 23).toNatClampNeg))).toNatClampNeg a1) 44 0 (((nI 24) + ((nI 3) * (q5.2.1 44 0 (nI 23).toNatClampNeg))) + (nI 1)).toNatClampNeg a2) (fun n w => w) (hs_inb_iff.mp c11) ?_
          obtain ⟨c12, e⟩ := hs_ck_some e
          refine hs_wa 7 (c := vp_in (((nI 24) + ((nI 3) * (q5.2.1 44 0 (nI 23).toNatClampNeg))) + (nI 2)) 162) (pc' := 91) (ls' := [hs_r 12 0, hs_i a1, hs_i a2, hs_i a3, hs_i ((nI 24) + ((nI 3) * (q5.2.1 44 0 (nI 23).toNatClampNeg)))]) (st' := []) (h' := hs_put (hs_put (hs_put q5.2 44 0 ((nI 24) + ((nI 3) * (q5.2.1 44 0 (nI 23).toNatClampNeg))).toNatClampNeg a1) 44 0 (((nI 24) + ((nI 3) * (q5.2.1 44 0 (nI 23).toNatClampNeg))) + (nI 1)).toNatClampNeg a2) 44 0 (((nI 24) + ((nI 3) * (q5.2.1 44 0 (nI 23).toNatClampNeg))) + (nI 2)).toNatClampNeg a3) (fun n w => w) (hs_inb_iff.mp c12) ?_
          obtain ⟨c13, e⟩ := hs_ck_some e
          refine hs_wa 5 (c := vp_in (nI 23) 162) (pc' := 99) (ls' := [hs_r 12 0, hs_i a1, hs_i a2, hs_i a3, hs_i ((nI 24) + ((nI 3) * (q5.2.1 44 0 (nI 23).toNatClampNeg)))]) (st' := [hs_i ((hs_put (hs_put (hs_put q5.2 44 0 ((nI 24) + ((nI 3) * (q5.2.1 44 0 (nI 23).toNatClampNeg))).toNatClampNeg a1) 44 0 (((nI 24) + ((nI 3) * (q5.2.1 44 0 (nI 23).toNatClampNeg))) + (nI 1)).toNatClampNeg a2) 44 0 (((nI 24) + ((nI 3) * (q5.2.1 44 0 (nI 23).toNatClampNeg))) + (nI 2)).toNatClampNeg a3).1 44 0 (nI 23).toNatClampNeg), hs_i (nI 23), hs_r 44 0]) (h' := hs_put (hs_put (hs_put q5.2 44 0 ((nI 24) + ((nI 3) * (q5.2.1 44 0 (nI 23).toNatClampNeg))).toNatClampNeg a1) 44 0 (((nI 24) + ((nI 3) * (q5.2.1 44 0 (nI 23).toNatClampNeg))) + (nI 1)).toNatClampNeg a2) 44 0 (((nI 24) + ((nI 3) * (q5.2.1 44 0 (nI 23).toNatClampNeg))) + (nI 2)).toNatClampNeg a3) (fun n w => w) (hs_inb_iff.mp c13) ?_
          obtain ⟨c14, e⟩ := hs_ck_some e
          refine hs_wa 3 (c := vp_in (nI 23) 162) (pc' := 102) (ls' := [hs_r 12 0, hs_i a1, hs_i a2, hs_i a3, hs_i ((nI 24) + ((nI 3) * (q5.2.1 44 0 (nI 23).toNatClampNeg)))]) (st' := []) (h' := hs_put (hs_put (hs_put (hs_put q5.2 44 0 ((nI 24) + ((nI 3) * (q5.2.1 44 0 (nI 23).toNatClampNeg))).toNatClampNeg a1) 44 0 (((nI 24) + ((nI 3) * (q5.2.1 44 0 (nI 23).toNatClampNeg))) + (nI 1)).toNatClampNeg a2) 44 0 (((nI 24) + ((nI 3) * (q5.2.1 44 0 (nI 23).toNatClampNeg))) + (nI 2)).toNatClampNeg a3) 44 0 (nI 23).toNatClampNeg (((hs_put (hs_put (hs_put q5.2 44 0 ((nI 24) + ((nI 3) * (q5.2.1 44 0 (nI 23).toNatClampNeg))).toNatClampNeg a1) 44 0 (((nI 24) + ((nI 3) * (q5.2.1 44 0 (nI 23).toNatClampNeg))) + (nI 1)).toNatClampNeg a2) 44 0 (((nI 24) + ((nI 3) * (q5.2.1 44 0 (nI 23).toNatClampNeg))) + (nI 2)).toNatClampNeg a3).1 44 0 (nI 23).toNatClampNeg) + (nI 1))) (fun n w => w) (hs_inb_iff.mp c14) ?_
          obtain ⟨c15, e⟩ := hs_ck_some e
          refine hs_wa 4 (c := vp_in (nI 23) 162) (pc' := 109) (ls' := [hs_r 12 0, hs_i a1, hs_i a2, hs_i a3, hs_i ((nI 24) + ((nI 3) * (q5.2.1 44 0 (nI 23).toNatClampNeg)))]) (st' := [hs_i ((hs_put (hs_put (hs_put (hs_put q5.2 44 0 ((nI 24) + ((nI 3) * (q5.2.1 44 0 (nI 23).toNatClampNeg))).toNatClampNeg a1) 44 0 (((nI 24) + ((nI 3) * (q5.2.1 44 0 (nI 23).toNatClampNeg))) + (nI 1)).toNatClampNeg a2) 44 0 (((nI 24) + ((nI 3) * (q5.2.1 44 0 (nI 23).toNatClampNeg))) + (nI 2)).toNatClampNeg a3) 44 0 (nI 23).toNatClampNeg (((hs_put (hs_put (hs_put q5.2 44 0 ((nI 24) + ((nI 3) * (q5.2.1 44 0 (nI 23).toNatClampNeg))).toNatClampNeg a1) 44 0 (((nI 24) + ((nI 3) * (q5.2.1 44 0 (nI 23).toNatClampNeg))) + (nI 1)).toNatClampNeg a2) 44 0 (((nI 24) + ((nI 3) * (q5.2.1 44 0 (nI 23).toNatClampNeg))) + (nI 2)).toNatClampNeg a3).1 44 0 (nI 23).toNatClampNeg) + (nI 1))).1 44 0 (nI 23).toNatClampNeg)]) (h' := hs_put (hs_put (hs_put (hs_put q5.2 44 0 ((nI 24) + ((nI 3) * (q5.2.1 44 0 (nI 23).toNatClampNeg))).toNatClampNeg a1) 44 0 (((nI 24) + ((nI 3) * (q5.2.1 44 0 (nI 23).toNatClampNeg))) + (nI 1)).toNatClampNeg a2) 44 0 (((nI 24) + ((nI 3) * (q5.2.1 44 0 (nI 23).toNatClampNeg))) + (nI 2)).toNatClampNeg a3) 44 0 (nI 23).toNatClampNeg (((hs_put (hs_put (hs_put q5.2 44 0 ((nI 24) + ((nI 3) * (q5.2.1 44 0 (nI 23).toNatClampNeg))).toNatClampNeg a1) 44 0 (((nI 24) + ((nI 3) * (q5.2.1 44 0 (nI 23).toNatClampNeg))) + (nI 1)).toNatClampNeg a2) 44 0 (((nI 24) + ((nI 3) * (q5.2.1 44 0 (nI 23).toNatClampNeg))) + (nI 2)).toNatClampNeg a3).1 44 0 (nI 23).toNatClampNeg) + (nI 1))) (fun n w => w) (hs_inb_iff.mp c15) ?_
          obtain rfl := Option.some.inj e
          exact hs_wr 1 (v := some (hs_i ((hs_put (hs_put (hs_put (hs_put q5.2 44 0 ((nI 24) + ((nI 3) * (q5.2.1 44 0 (nI 23).toNatClampNeg))).toNatClampNeg a1) 44 0 (((nI 24) + ((nI 3) * (q5.2.1 44 0 (nI 23).toNatClampNeg))) + (nI 1)).toNatClampNeg a2) 44 0 (((nI 24) + ((nI 3) * (q5.2.1 44 0 (nI 23).toNatClampNeg))) + (nI 2)).toNatClampNeg a3) 44 0 (nI 23).toNatClampNeg (((hs_put (hs_put (hs_put q5.2 44 0 ((nI 24) + ((nI 3) * (q5.2.1 44 0 (nI 23).toNatClampNeg))).toNatClampNeg a1) 44 0 (((nI 24) + ((nI 3) * (q5.2.1 44 0 (nI 23).toNatClampNeg))) + (nI 1)).toNatClampNeg a2) 44 0 (((nI 24) + ((nI 3) * (q5.2.1 44 0 (nI 23).toNatClampNeg))) + (nI 2)).toNatClampNeg a3).1 44 0 (nI 23).toNatClampNeg) + (nI 1))).1 44 0 (nI 23).toNatClampNeg))) (h' := hs_put (hs_put (hs_put (hs_put q5.2 44 0 ((nI 24) + ((nI 3) * (q5.2.1 44 0 (nI 23).toNatClampNeg))).toNatClampNeg a1) 44 0 (((nI 24) + ((nI 3) * (q5.2.1 44 0 (nI 23).toNatClampNeg))) + (nI 1)).toNatClampNeg a2) 44 0 (((nI 24) + ((nI 3) * (q5.2.1 44 0 (nI 23).toNatClampNeg))) + (nI 2)).toNatClampNeg a3) 44 0 (nI 23).toNatClampNeg (((hs_put (hs_put (hs_put q5.2 44 0 ((nI 24) + ((nI 3) * (q5.2.1 44 0 (nI 23).toNatClampNeg))).toNatClampNeg a1) 44 0 (((nI 24) + ((nI 3) * (q5.2.1 44 0 (nI 23).toNatClampNeg))) + (nI 1)).toNatClampNeg a2) 44 0 (((nI 24) + ((nI 3) * (q5.2.1 44 0 (nI 23).toNatClampNeg))) + (nI 2)).toNatClampNeg a3).1 44 0 (nI 23).toNatClampNeg) + (nI 1))) (fun n w => w) q
        · rw [if_neg b8] at e
          obtain rfl := Option.some.inj e
          exact hs_wr 2 (v := some (hs_i (nI 4294967293))) (h' := q5.2) (fun n w => w) q
      · rw [if_neg b6] at e
        exact hw_187_32 hd e q
/-- HuntedScentModel.forget(I)I -/
def hf_188 (a1 : Int32) (h : hs_H) : Option (Int32 × hs_H) := hs_ck (hs_inb (nI 23) 162) ((hf_150 a1.toInt64 (lN 0) ((h.1 44 0 (nI 23).toNatClampNeg).toInt64) h).bind (fun q2 => if ¬ q2.1 = 0 then (hs_ck (hs_inb (nI 23) 162) (hs_ck (hs_inb (nI 23) 162) (some (q2.2.1 44 0 (nI 23).toNatClampNeg, hs_put q2.2 44 0 (nI 23).toNatClampNeg a1)))) else (some (nI 4294967295, q2.2))))
set_option maxHeartbeats 1000000 in
theorem hc_188 {S : hs_S} {D : Nat} {Q : hs_Q} (hD : 2 ≤ D) {a1 : Int32} {h : hs_H} {r : Int32 × hs_H} (e : hf_188 a1 h = some r) (q : Q (some (hs_i r.1)) r.2) : hs_call hs_ms S D 188 [hs_r 12 0, hs_i a1] h Q := by
  refine hs_go (R := 1) hD rfl (Nat.le_of_ble_eq_true rfl) (fun d hd => ?_)
  show hs_W S d 1 hs_p188 Q 0 [hs_r 12 0, hs_i a1, hs_u] [] h
  unfold hf_188 at e
  obtain ⟨c1, e⟩ := hs_ck_some e
  refine hs_wa 7 (c := vp_in (nI 23) 162) (pc' := 10) (ls' := [hs_r 12 0, hs_i a1, hs_u]) (st' := [hs_i (h.1 44 0 (nI 23).toNatClampNeg), hs_l (lN 0), hs_l a1.toInt64]) (h' := h) (fun n w => w) (hs_inb_iff.mp c1) ?_
  obtain ⟨q2, eq2, e⟩ := hs_bind_some e
  try dsimp only at e
  refine hs_wc 2 (y := 150) (a := [hs_l a1.toInt64, hs_l (lN 0), hs_l ((h.1 44 0 (nI 23).toNatClampNeg).toInt64)]) (v := some (hs_i q2.1)) (pc' := 14) (ls' := [hs_r 12 0, hs_i a1, hs_u]) (st' := []) (h' := h) (h2 := q2.2) (fun n w => w) (fun q => hc_150 (by omega) eq2 q) ?_
  refine hs_wb 1 (c := ¬ q2.1 = 0) (t := 19) (f := 17) (ls' := [hs_r 12 0, hs_i a1, hs_u]) (st' := []) (h' := q2.2) (fun n w => w) (fun b3 => ?_) (fun b3 => ?_)
  · rw [if_pos b3] at e
    obtain ⟨c4, e⟩ := hs_ck_some e
    refine hs_wa 4 (c := vp_in (nI 23) 162) (pc' := 26) (ls' := [hs_r 12 0, hs_i a1, hs_u]) (st' := [hs_i (q2.2.1 44 0 (nI 23).toNatClampNeg)]) (h' := q2.2) (fun n w => w) (hs_inb_iff.mp c4) ?_
    obtain ⟨c5, e⟩ := hs_ck_some e
    refine hs_wa 6 (c := vp_in (nI 23) 162) (pc' := 35) (ls' := [hs_r 12 0, hs_i a1, hs_i (q2.2.1 44 0 (nI 23).toNatClampNeg)]) (st' := []) (h' := hs_put q2.2 44 0 (nI 23).toNatClampNeg a1) (fun n w => w) (hs_inb_iff.mp c5) ?_
    obtain rfl := Option.some.inj e
    exact hs_wr 2 (v := some (hs_i (q2.2.1 44 0 (nI 23).toNatClampNeg))) (h' := hs_put q2.2 44 0 (nI 23).toNatClampNeg a1) (fun n w => w) q
  · rw [if_neg b3] at e
    obtain rfl := Option.some.inj e
    exact hs_wr 2 (v := some (hs_i (nI 4294967295))) (h' := q2.2) (fun n w => w) q
def hb_189_73  (k9 : Int32 × Int32 × Int32 × hs_H → Option (hs_H)) (x1 : Int32) (x2 : Int32) (x3 : Int32) (s0 : Int32) (s1 : Int32) (h : hs_H) : Option (hs_H) := hs_ck (hs_inb s1 60) (k9 (x1, x2, x3 + nI 1, hs_put h 50 0 s1.toNatClampNeg s0))
set_option maxHeartbeats 1000000 in
theorem hw_189_73 {S : hs_S} {d : Nat} {Q : hs_Q} (hd : 2 ≤ d)  {k9 : Int32 × Int32 × Int32 × hs_H → Option (hs_H)} (hk9 : ∀ (x1 : Int32) (x2 : Int32) (x3 : Int32) (h : hs_H) (r : hs_H) , k9 (x1, x2, x3, h) = some r → Q none r → hs_W S d 0 hs_p189 Q 9 [hs_r 12 0, hs_i x1, hs_i x2, hs_i x3] [] h) {x1 : Int32} {x2 : Int32} {x3 : Int32} {s0 : Int32} {s1 : Int32}  {h : hs_H} {r : hs_H} (e : hb_189_73 k9 x1 x2 x3 s0 s1 h = some r) (q : Q none r) : hs_W S d 0 hs_p189 Q 73 [hs_r 12 0, hs_i x1, hs_i x2, hs_i x3] [hs_i s0, hs_i s1, hs_r 50 0] h := by
  unfold hb_189_73 at e
  obtain ⟨c5, e⟩ := hs_ck_some e
  refine hs_wa 1 (c := vp_in s1 60) (pc' := 74) (ls' := [hs_r 12 0, hs_i x1, hs_i x2, hs_i x3]) (st' := []) (h' := hs_put h 50 0 s1.toNatClampNeg s0) (fun n w => w) (hs_inb_iff.mp c5) ?_
  refine hs_w 2 (pc' := 9) (ls' := [hs_r 12 0, hs_i x1, hs_i x2, hs_i (x3 + nI 1)]) (st' := []) (h' := hs_put h 50 0 s1.toNatClampNeg s0) (fun n w => w) ?_
  exact hk9 _ _ _ _ _  e q
def hb_189_72  (k9 : Int32 × Int32 × Int32 × hs_H → Option (hs_H)) (x1 : Int32) (x2 : Int32) (x3 : Int32) (s0 : Int32) (h : hs_H) : Option (hs_H) := hb_189_73 k9 x1 x2 x3 (nI 0) s0 h
set_option maxHeartbeats 1000000 in
theorem hw_189_72 {S : hs_S} {d : Nat} {Q : hs_Q} (hd : 2 ≤ d)  {k9 : Int32 × Int32 × Int32 × hs_H → Option (hs_H)} (hk9 : ∀ (x1 : Int32) (x2 : Int32) (x3 : Int32) (h : hs_H) (r : hs_H) , k9 (x1, x2, x3, h) = some r → Q none r → hs_W S d 0 hs_p189 Q 9 [hs_r 12 0, hs_i x1, hs_i x2, hs_i x3] [] h) {x1 : Int32} {x2 : Int32} {x3 : Int32} {s0 : Int32}  {h : hs_H} {r : hs_H} (e : hb_189_72 k9 x1 x2 x3 s0 h = some r) (q : Q none r) : hs_W S d 0 hs_p189 Q 72 [hs_r 12 0, hs_i x1, hs_i x2, hs_i x3] [hs_i s0, hs_r 50 0] h := by
  unfold hb_189_72 at e
  refine hs_w 1 (pc' := 73) (ls' := [hs_r 12 0, hs_i x1, hs_i x2, hs_i x3]) (st' := [hs_i (nI 0), hs_i s0, hs_r 50 0]) (h' := h) (fun n w => w) ?_
  exact hw_189_73 hd hk9 e q
def hb_189_9  (k9 : Int32 × Int32 × Int32 × hs_H → Option (hs_H)) (x1 : Int32) (x2 : Int32) (x3 : Int32)  (h : hs_H) : Option (hs_H) := if (h.1 12 0 2) ≤ x3 then (some h) else (if x1 ≤ 0 then (if ¬ x3 = x2 then (hb_189_72 k9 x1 x2 x3 (((nI 10) * x1) + x3) h) else ((hf_180 x3 h).bind (fun q6 => if ¬ q6.1 = 0 then (hb_189_72 k9 x1 x2 x3 (((nI 10) * x1) + x3) q6.2) else (hb_189_73 k9 x1 x2 x3 (nI 9) (((nI 10) * x1) + x3) q6.2)))) else (hs_ck (hs_inb ((((nI 10) * x1) - (nI 10)) + x3) 60) ((hf_183 (h.1 50 0 ((((nI 10) * x1) - (nI 10)) + x3).toNatClampNeg) x3 x2 h).bind (fun q9 => hb_189_73 k9 x1 x2 x3 q9.1 (((nI 10) * x1) + x3) q9.2))))
set_option maxHeartbeats 1000000 in
theorem hw_189_9 {S : hs_S} {d : Nat} {Q : hs_Q} (hd : 2 ≤ d)  {k9 : Int32 × Int32 × Int32 × hs_H → Option (hs_H)} (hk9 : ∀ (x1 : Int32) (x2 : Int32) (x3 : Int32) (h : hs_H) (r : hs_H) , k9 (x1, x2, x3, h) = some r → Q none r → hs_W S d 0 hs_p189 Q 9 [hs_r 12 0, hs_i x1, hs_i x2, hs_i x3] [] h) {x1 : Int32} {x2 : Int32} {x3 : Int32}   {h : hs_H} {r : hs_H} (e : hb_189_9 k9 x1 x2 x3 h = some r) (q : Q none r) : hs_W S d 0 hs_p189 Q 9 [hs_r 12 0, hs_i x1, hs_i x2, hs_i x3] [] h := by
  unfold hb_189_9 at e
  refine hs_wb 4 (c := (h.1 12 0 2) ≤ x3) (t := 80) (f := 17) (ls' := [hs_r 12 0, hs_i x1, hs_i x2, hs_i x3]) (st' := []) (h' := h) (fun n w => w) (fun b2 => ?_) (fun b2 => ?_)
  · rw [if_pos b2] at e
    obtain rfl := Option.some.inj e
    exact hs_wr 1 (v := none) (h' := h) (fun n w => w) q
  · rw [if_neg b2] at e
    refine hs_wb 9 (c := x1 ≤ 0) (t := 54) (f := 31) (ls' := [hs_r 12 0, hs_i x1, hs_i x2, hs_i x3]) (st' := [hs_i (((nI 10) * x1) + x3), hs_r 50 0]) (h' := h) (fun n w => w) (fun b3 => ?_) (fun b3 => ?_)
    · rw [if_pos b3] at e
      refine hs_wb 3 (c := ¬ x3 = x2) (t := 72) (f := 59) (ls' := [hs_r 12 0, hs_i x1, hs_i x2, hs_i x3]) (st' := [hs_i (((nI 10) * x1) + x3), hs_r 50 0]) (h' := h) (fun n w => w) (fun b4 => ?_) (fun b4 => ?_)
      · rw [if_pos b4] at e
        exact hw_189_72 hd hk9 e q
      · rw [if_neg b4] at e
        obtain ⟨q6, eq6, e⟩ := hs_bind_some e
        try dsimp only at e
        refine hs_wc 3 (y := 180) (a := [hs_r 12 0, hs_i x3]) (v := some (hs_i q6.1)) (pc' := 64) (ls' := [hs_r 12 0, hs_i x1, hs_i x2, hs_i x3]) (st' := [hs_i (((nI 10) * x1) + x3), hs_r 50 0]) (h' := h) (h2 := q6.2) (fun n w => w) (fun q => hc_180 (by omega) eq6 q) ?_
        refine hs_wb 1 (c := ¬ q6.1 = 0) (t := 72) (f := 67) (ls' := [hs_r 12 0, hs_i x1, hs_i x2, hs_i x3]) (st' := [hs_i (((nI 10) * x1) + x3), hs_r 50 0]) (h' := q6.2) (fun n w => w) (fun b7 => ?_) (fun b7 => ?_)
        · rw [if_pos b7] at e
          exact hw_189_72 hd hk9 e q
        · rw [if_neg b7] at e
          refine hs_w 2 (pc' := 73) (ls' := [hs_r 12 0, hs_i x1, hs_i x2, hs_i x3]) (st' := [hs_i (nI 9), hs_i (((nI 10) * x1) + x3), hs_r 50 0]) (h' := q6.2) (fun n w => w) ?_
          exact hw_189_73 hd hk9 e q
    · rw [if_neg b3] at e
      obtain ⟨c8, e⟩ := hs_ck_some e
      refine hs_wa 11 (c := vp_in ((((nI 10) * x1) - (nI 10)) + x3) 60) (pc' := 46) (ls' := [hs_r 12 0, hs_i x1, hs_i x2, hs_i x3]) (st' := [hs_i (h.1 50 0 ((((nI 10) * x1) - (nI 10)) + x3).toNatClampNeg), hs_r 12 0, hs_i (((nI 10) * x1) + x3), hs_r 50 0]) (h' := h) (fun n w => w) (hs_inb_iff.mp c8) ?_
      obtain ⟨q9, eq9, e⟩ := hs_bind_some e
      try dsimp only at e
      refine hs_wc 3 (y := 183) (a := [hs_r 12 0, hs_i (h.1 50 0 ((((nI 10) * x1) - (nI 10)) + x3).toNatClampNeg), hs_i x3, hs_i x2]) (v := some (hs_i q9.1)) (pc' := 51) (ls' := [hs_r 12 0, hs_i x1, hs_i x2, hs_i x3]) (st' := [hs_i (((nI 10) * x1) + x3), hs_r 50 0]) (h' := h) (h2 := q9.2) (fun n w => w) (fun q => hc_183 (by omega) eq9 q) ?_
      refine hs_w 1 (pc' := 73) (ls' := [hs_r 12 0, hs_i x1, hs_i x2, hs_i x3]) (st' := [hs_i q9.1, hs_i (((nI 10) * x1) + x3), hs_r 50 0]) (h' := q9.2) (fun n w => w) ?_
      exact hw_189_73 hd hk9 e q
theorem hw_189_9_lp {S : hs_S} {d : Nat} {Q : hs_Q} (hd : 2 ≤ d)    (n : Nat) {x1 : Int32} {x2 : Int32} {x3 : Int32} {h : hs_H} {r : hs_H} (e : hs_lp (fun k s => hb_189_9 k s.1 s.2.1 s.2.2.1 s.2.2.2) n (x1, x2, x3, h) = some r)  (q : Q none r) : hs_W S d 0 hs_p189 Q 9 [hs_r 12 0, hs_i x1, hs_i x2, hs_i x3] [] h := by
  refine hs_lp_ind (P := fun (s : Int32 × Int32 × Int32 × hs_H) (r : hs_H) => ∀ (_ : True), Q none r → hs_W S d 0 hs_p189 Q 9 [hs_r 12 0, hs_i s.1, hs_i s.2.1, hs_i s.2.2.1] [] s.2.2.2) (fun k hk s r e _ q => ?_) n (x1, x2, x3, h) r e trivial q
  exact hw_189_9 hd (fun x1 x2 x3 h r  e q => hk (x1, x2, x3, h) r e trivial q) e q
/-- HuntedScentModel.stepsTo(II)V -/
def hf_189 (a1 : Int32) (a2 : Int32) (h : hs_H) : Option (hs_H) := hs_ck (hs_inb a1 6) (hs_lp (fun k s => hb_189_9 k s.1 s.2.1 s.2.2.1 s.2.2.2) hs_big (a1, a2, nI 0, hs_put h 49 0 a1.toNatClampNeg a2))
set_option maxHeartbeats 1000000 in
theorem hc_189 {S : hs_S} {D : Nat} {Q : hs_Q} (hD : 3 ≤ D) {a1 : Int32} {a2 : Int32} {h : hs_H} {r : hs_H} (e : hf_189 a1 a2 h = some r) (q : Q none r) : hs_call hs_ms S D 189 [hs_r 12 0, hs_i a1, hs_i a2] h Q := by
  refine hs_go (R := 2) hD rfl (Nat.le_of_ble_eq_true rfl) (fun d hd => ?_)
  show hs_W S d 0 hs_p189 Q 0 [hs_r 12 0, hs_i a1, hs_i a2, hs_u] [] h
  unfold hf_189 at e
  obtain ⟨c1, e⟩ := hs_ck_some e
  refine hs_wa 5 (c := vp_in a1 6) (pc' := 7) (ls' := [hs_r 12 0, hs_i a1, hs_i a2, hs_u]) (st' := []) (h' := hs_put h 49 0 a1.toNatClampNeg a2) (fun n w => w) (hs_inb_iff.mp c1) ?_
  refine hs_w 2 (pc' := 9) (ls' := [hs_r 12 0, hs_i a1, hs_i a2, hs_i (nI 0)]) (st' := []) (h' := hs_put h 49 0 a1.toNatClampNeg a2) (fun n w => w) ?_
  exact hw_189_9_lp hd hs_big e  q
def hb_190_71  (k5 : Int32 × Int32 × Int32 × Int32 × hs_H → Option (Int32 × hs_H)) (x1 : Int32) (x2 : Int32) (x4 : Int32) (s0 : Int32) (h : hs_H) : Option (Int32 × hs_H) := k5 (x1, x2, s0, x4 + nI 1, h)
set_option maxHeartbeats 1000000 in
theorem hw_190_71 {S : hs_S} {d : Nat} {Q : hs_Q} (hd : 0 ≤ d)  {k5 : Int32 × Int32 × Int32 × Int32 × hs_H → Option (Int32 × hs_H)} (hk5 : ∀ (x1 : Int32) (x2 : Int32) (x3 : Int32) (x4 : Int32) (h : hs_H) (r : Int32 × hs_H) (v5 : hs_V), k5 (x1, x2, x3, x4, h) = some r → Q (some (hs_i r.1)) r.2 → hs_W S d 2 hs_p190 Q 5 [hs_r 12 0, hs_i x1, hs_i x2, hs_i x3, hs_i x4, v5] [] h) {x1 : Int32} {x2 : Int32} {x4 : Int32} {s0 : Int32} {v3 : hs_V} {v5 : hs_V} {h : hs_H} {r : Int32 × hs_H} (e : hb_190_71 k5 x1 x2 x4 s0 h = some r) (q : Q (some (hs_i r.1)) r.2) : hs_W S d 2 hs_p190 Q 71 [hs_r 12 0, hs_i x1, hs_i x2, v3, hs_i x4, v5] [hs_i s0] h := by
  unfold hb_190_71 at e
  refine hs_w 3 (pc' := 5) (ls' := [hs_r 12 0, hs_i x1, hs_i x2, hs_i s0, hs_i (x4 + nI 1), v5]) (st' := []) (h' := h) (fun n w => w) ?_
  exact hk5 _ _ _ _ _ _ _ e q
def hb_190_70  (k5 : Int32 × Int32 × Int32 × Int32 × hs_H → Option (Int32 × hs_H)) (x1 : Int32) (x2 : Int32) (x4 : Int32)  (h : hs_H) : Option (Int32 × hs_H) := hb_190_71 k5 x1 x2 x4 (nI 0) h
set_option maxHeartbeats 1000000 in
theorem hw_190_70 {S : hs_S} {d : Nat} {Q : hs_Q} (hd : 0 ≤ d)  {k5 : Int32 × Int32 × Int32 × Int32 × hs_H → Option (Int32 × hs_H)} (hk5 : ∀ (x1 : Int32) (x2 : Int32) (x3 : Int32) (x4 : Int32) (h : hs_H) (r : Int32 × hs_H) (v5 : hs_V), k5 (x1, x2, x3, x4, h) = some r → Q (some (hs_i r.1)) r.2 → hs_W S d 2 hs_p190 Q 5 [hs_r 12 0, hs_i x1, hs_i x2, hs_i x3, hs_i x4, v5] [] h) {x1 : Int32} {x2 : Int32} {x4 : Int32}  {v3 : hs_V} {v5 : hs_V} {h : hs_H} {r : Int32 × hs_H} (e : hb_190_70 k5 x1 x2 x4 h = some r) (q : Q (some (hs_i r.1)) r.2) : hs_W S d 2 hs_p190 Q 70 [hs_r 12 0, hs_i x1, hs_i x2, v3, hs_i x4, v5] [] h := by
  unfold hb_190_70 at e
  refine hs_w 1 (pc' := 71) (ls' := [hs_r 12 0, hs_i x1, hs_i x2, v3, hs_i x4, v5]) (st' := [hs_i (nI 0)]) (h' := h) (fun n w => w) ?_
  exact hw_190_71 hd hk5 e q
def hb_190_66  (k5 : Int32 × Int32 × Int32 × Int32 × hs_H → Option (Int32 × hs_H)) (x1 : Int32) (x2 : Int32) (x4 : Int32)  (h : hs_H) : Option (Int32 × hs_H) := hb_190_71 k5 x1 x2 x4 (nI 1) h
set_option maxHeartbeats 1000000 in
theorem hw_190_66 {S : hs_S} {d : Nat} {Q : hs_Q} (hd : 0 ≤ d)  {k5 : Int32 × Int32 × Int32 × Int32 × hs_H → Option (Int32 × hs_H)} (hk5 : ∀ (x1 : Int32) (x2 : Int32) (x3 : Int32) (x4 : Int32) (h : hs_H) (r : Int32 × hs_H) (v5 : hs_V), k5 (x1, x2, x3, x4, h) = some r → Q (some (hs_i r.1)) r.2 → hs_W S d 2 hs_p190 Q 5 [hs_r 12 0, hs_i x1, hs_i x2, hs_i x3, hs_i x4, v5] [] h) {x1 : Int32} {x2 : Int32} {x4 : Int32}  {v3 : hs_V} {v5 : hs_V} {h : hs_H} {r : Int32 × hs_H} (e : hb_190_66 k5 x1 x2 x4 h = some r) (q : Q (some (hs_i r.1)) r.2) : hs_W S d 2 hs_p190 Q 66 [hs_r 12 0, hs_i x1, hs_i x2, v3, hs_i x4, v5] [] h := by
  unfold hb_190_66 at e
  refine hs_w 2 (pc' := 71) (ls' := [hs_r 12 0, hs_i x1, hs_i x2, v3, hs_i x4, v5]) (st' := [hs_i (nI 1)]) (h' := h) (fun n w => w) ?_
  exact hw_190_71 hd hk5 e q
def hb_190_5  (k5 : Int32 × Int32 × Int32 × Int32 × hs_H → Option (Int32 × hs_H)) (x1 : Int32) (x2 : Int32) (x3 : Int32) (x4 : Int32)  (h : hs_H) : Option (Int32 × hs_H) := if x2 ≤ x4 then (hs_ck (hs_b01 x3) (some (x3, h))) else (if x3 = 0 then (hb_190_70 k5 x1 x2 x4 h) else (hs_ck (hs_inb ((nI 24) + ((nI 3) * x4)) 162) (if ¬ (h.1 44 0 ((nI 24) + ((nI 3) * x4)).toNatClampNeg) = x1 then (hb_190_66 k5 x1 x2 x4 h) else (hs_ck (hs_inb (((nI 24) + ((nI 3) * x4)) + (nI 1)) 162) (hs_ck (hs_inb (((nI 10) * x1) + (h.1 44 0 (((nI 24) + ((nI 3) * x4)) + (nI 1)).toNatClampNeg)) 60) (hs_ck (hs_inb (((nI 24) + ((nI 3) * x4)) + (nI 2)) 162) (if ¬ (h.1 50 0 (((nI 10) * x1) + (h.1 44 0 (((nI 24) + ((nI 3) * x4)) + (nI 1)).toNatClampNeg)).toNatClampNeg) = (h.1 44 0 (((nI 24) + ((nI 3) * x4)) + (nI 2)).toNatClampNeg) then (hb_190_70 k5 x1 x2 x4 h) else (hb_190_66 k5 x1 x2 x4 h))))))))
set_option maxHeartbeats 1000000 in
theorem hw_190_5 {S : hs_S} {d : Nat} {Q : hs_Q} (hd : 0 ≤ d)  {k5 : Int32 × Int32 × Int32 × Int32 × hs_H → Option (Int32 × hs_H)} (hk5 : ∀ (x1 : Int32) (x2 : Int32) (x3 : Int32) (x4 : Int32) (h : hs_H) (r : Int32 × hs_H) (v5 : hs_V), k5 (x1, x2, x3, x4, h) = some r → Q (some (hs_i r.1)) r.2 → hs_W S d 2 hs_p190 Q 5 [hs_r 12 0, hs_i x1, hs_i x2, hs_i x3, hs_i x4, v5] [] h) {x1 : Int32} {x2 : Int32} {x3 : Int32} {x4 : Int32}  {v5 : hs_V} {h : hs_H} {r : Int32 × hs_H} (e : hb_190_5 k5 x1 x2 x3 x4 h = some r) (q : Q (some (hs_i r.1)) r.2) : hs_W S d 2 hs_p190 Q 5 [hs_r 12 0, hs_i x1, hs_i x2, hs_i x3, hs_i x4, v5] [] h := by
  unfold hb_190_5 at e
  refine hs_wb 3 (c := x2 ≤ x4) (t := 78) (f := 11) (ls' := [hs_r 12 0, hs_i x1, hs_i x2, hs_i x3, hs_i x4, v5]) (st' := []) (h' := h) (fun n w => w) (fun b1 => ?_) (fun b1 => ?_)
  · rw [if_pos b1] at e
    obtain ⟨c2, e⟩ := hs_ck_some e
    obtain rfl := Option.some.inj e
    exact hs_wra 2 (c := x3 = 0 ∨ x3 = 1) (v := some (hs_i x3)) (h' := h) (fun n w => w) (hs_b01_iff.mp c2) q
  · rw [if_neg b1] at e
    refine hs_wb 8 (c := x3 = 0) (t := 70) (f := 24) (ls' := [hs_r 12 0, hs_i x1, hs_i x2, hs_i x3, hs_i x4, hs_i ((nI 24) + ((nI 3) * x4))]) (st' := []) (h' := h) (fun n w => w) (fun b3 => ?_) (fun b3 => ?_)
    · rw [if_pos b3] at e
      exact hw_190_70 hd hk5 e q
    · rw [if_neg b3] at e
      obtain ⟨c4, e⟩ := hs_ck_some e
      refine hs_wa 4 (c := vp_in ((nI 24) + ((nI 3) * x4)) 162) (pc' := 31) (ls' := [hs_r 12 0, hs_i x1, hs_i x2, hs_i x3, hs_i x4, hs_i ((nI 24) + ((nI 3) * x4))]) (st' := [hs_i (h.1 44 0 ((nI 24) + ((nI 3) * x4)).toNatClampNeg)]) (h' := h) (fun n w => w) (hs_inb_iff.mp c4) ?_
      refine hs_wb 2 (c := ¬ (h.1 44 0 ((nI 24) + ((nI 3) * x4)).toNatClampNeg) = x1) (t := 66) (f := 35) (ls' := [hs_r 12 0, hs_i x1, hs_i x2, hs_i x3, hs_i x4, hs_i ((nI 24) + ((nI 3) * x4))]) (st' := []) (h' := h) (fun n w => w) (fun b5 => ?_) (fun b5 => ?_)
      · rw [if_pos b5] at e
        exact hw_190_66 hd hk5 e q
      · rw [if_neg b5] at e
        obtain ⟨c6, e⟩ := hs_ck_some e
        refine hs_wa 11 (c := vp_in (((nI 24) + ((nI 3) * x4)) + (nI 1)) 162) (pc' := 52) (ls' := [hs_r 12 0, hs_i x1, hs_i x2, hs_i x3, hs_i x4, hs_i ((nI 24) + ((nI 3) * x4))]) (st' := [hs_i (h.1 44 0 (((nI 24) + ((nI 3) * x4)) + (nI 1)).toNatClampNeg), hs_i ((nI 10) * x1), hs_r 50 0]) (h' := h) (fun n w => w) (hs_inb_iff.mp c6) ?_
        obtain ⟨c7, e⟩ := hs_ck_some e
        refine hs_wa 2 (c := vp_in (((nI 10) * x1) + (h.1 44 0 (((nI 24) + ((nI 3) * x4)) + (nI 1)).toNatClampNeg)) 60) (pc' := 54) (ls' := [hs_r 12 0, hs_i x1, hs_i x2, hs_i x3, hs_i x4, hs_i ((nI 24) + ((nI 3) * x4))]) (st' := [hs_i (h.1 50 0 (((nI 10) * x1) + (h.1 44 0 (((nI 24) + ((nI 3) * x4)) + (nI 1)).toNatClampNeg)).toNatClampNeg)]) (h' := h) (fun n w => w) (hs_inb_iff.mp c7) ?_
        obtain ⟨c8, e⟩ := hs_ck_some e
        refine hs_wa 6 (c := vp_in (((nI 24) + ((nI 3) * x4)) + (nI 2)) 162) (pc' := 63) (ls' := [hs_r 12 0, hs_i x1, hs_i x2, hs_i x3, hs_i x4, hs_i ((nI 24) + ((nI 3) * x4))]) (st' := [hs_i (h.1 44 0 (((nI 24) + ((nI 3) * x4)) + (nI 2)).toNatClampNeg), hs_i (h.1 50 0 (((nI 10) * x1) + (h.1 44 0 (((nI 24) + ((nI 3) * x4)) + (nI 1)).toNatClampNeg)).toNatClampNeg)]) (h' := h) (fun n w => w) (hs_inb_iff.mp c8) ?_
        refine hs_wb 1 (c := ¬ (h.1 50 0 (((nI 10) * x1) + (h.1 44 0 (((nI 24) + ((nI 3) * x4)) + (nI 1)).toNatClampNeg)).toNatClampNeg) = (h.1 44 0 (((nI 24) + ((nI 3) * x4)) + (nI 2)).toNatClampNeg)) (t := 70) (f := 66) (ls' := [hs_r 12 0, hs_i x1, hs_i x2, hs_i x3, hs_i x4, hs_i ((nI 24) + ((nI 3) * x4))]) (st' := []) (h' := h) (fun n w => w) (fun b9 => ?_) (fun b9 => ?_)
        · rw [if_pos b9] at e
          exact hw_190_70 hd hk5 e q
        · rw [if_neg b9] at e
          exact hw_190_66 hd hk5 e q
theorem hw_190_5_lp {S : hs_S} {d : Nat} {Q : hs_Q} (hd : 0 ≤ d)    (n : Nat) {x1 : Int32} {x2 : Int32} {x3 : Int32} {x4 : Int32} {h : hs_H} {r : Int32 × hs_H} (e : hs_lp (fun k s => hb_190_5 k s.1 s.2.1 s.2.2.1 s.2.2.2.1 s.2.2.2.2) n (x1, x2, x3, x4, h) = some r) (v5 : hs_V) (q : Q (some (hs_i r.1)) r.2) : hs_W S d 2 hs_p190 Q 5 [hs_r 12 0, hs_i x1, hs_i x2, hs_i x3, hs_i x4, v5] [] h := by
  refine hs_lp_ind (P := fun (s : Int32 × Int32 × Int32 × Int32 × hs_H) (r : Int32 × hs_H) => ∀ (v5 : hs_V), Q (some (hs_i r.1)) r.2 → hs_W S d 2 hs_p190 Q 5 [hs_r 12 0, hs_i s.1, hs_i s.2.1, hs_i s.2.2.1, hs_i s.2.2.2.1, v5] [] s.2.2.2.2) (fun k hk s r e v5 q => ?_) n (x1, x2, x3, x4, h) r e v5 q
  exact hw_190_5 hd (fun x1 x2 x3 x4 h r v5 e q => hk (x1, x2, x3, x4, h) r e v5 q) e q
/-- HuntedScentModel.isSmelt(II)Z -/
def hf_190 (a1 : Int32) (a2 : Int32) (h : hs_H) : Option (Int32 × hs_H) := hs_lp (fun k s => hb_190_5 k s.1 s.2.1 s.2.2.1 s.2.2.2.1 s.2.2.2.2) hs_big (a1, a2, nI 1, nI 0, h)
set_option maxHeartbeats 1000000 in
theorem hc_190 {S : hs_S} {D : Nat} {Q : hs_Q} (hD : 1 ≤ D) {a1 : Int32} {a2 : Int32} {h : hs_H} {r : Int32 × hs_H} (e : hf_190 a1 a2 h = some r) (q : Q (some (hs_i r.1)) r.2) : hs_call hs_ms S D 190 [hs_r 12 0, hs_i a1, hs_i a2] h Q := by
  refine hs_go (R := 0) hD rfl (Nat.le_of_ble_eq_true rfl) (fun d hd => ?_)
  show hs_W S d 2 hs_p190 Q 0 [hs_r 12 0, hs_i a1, hs_i a2, hs_u, hs_u, hs_u] [] h
  unfold hf_190 at e
  refine hs_w 4 (pc' := 5) (ls' := [hs_r 12 0, hs_i a1, hs_i a2, hs_i (nI 1), hs_i (nI 0), hs_u]) (st' := []) (h' := h) (fun n w => w) ?_
  exact hw_190_5_lp hd hs_big e _ q
def hb_191_28    (s0 : Int32) (h : hs_H) : Option (Int32 × hs_H) := hs_ck (hs_b01 s0) (some (s0, h))
set_option maxHeartbeats 1000000 in
theorem hw_191_28 {S : hs_S} {d : Nat} {Q : hs_Q} (hd : 0 ≤ d)     {s0 : Int32} {v1 : hs_V} {h : hs_H} {r : Int32 × hs_H} (e : hb_191_28 s0 h = some r) (q : Q (some (hs_i r.1)) r.2) : hs_W S d 2 hs_p191 Q 28 [hs_r 12 0, v1] [hs_i s0] h := by
  unfold hb_191_28 at e
  obtain ⟨c3, e⟩ := hs_ck_some e
  obtain rfl := Option.some.inj e
  exact hs_wra 1 (c := s0 = 0 ∨ s0 = 1) (v := some (hs_i s0)) (h' := h) (fun n w => w) (hs_b01_iff.mp c3) q
def hb_191_23     (h : hs_H) : Option (Int32 × hs_H) := hb_191_28 (nI 1) h
set_option maxHeartbeats 1000000 in
theorem hw_191_23 {S : hs_S} {d : Nat} {Q : hs_Q} (hd : 0 ≤ d)      {v1 : hs_V} {h : hs_H} {r : Int32 × hs_H} (e : hb_191_23 h = some r) (q : Q (some (hs_i r.1)) r.2) : hs_W S d 2 hs_p191 Q 23 [hs_r 12 0, v1] [] h := by
  unfold hb_191_23 at e
  refine hs_w 2 (pc' := 28) (ls' := [hs_r 12 0, v1]) (st' := [hs_i (nI 1)]) (h' := h) (fun n w => w) ?_
  exact hw_191_28 hd e q
/-- HuntedScentModel.isStart(I)Z -/
def hf_191 (a1 : Int32) (h : hs_H) : Option (Int32 × hs_H) := hs_ck (hs_inb (nI 10) 162) (if (h.1 44 0 (nI 10).toNatClampNeg) = (nI 4294967292) then (hb_191_23 h) else (hs_ck (hs_inb (nI 10) 162) (if ¬ (h.1 44 0 (nI 10).toNatClampNeg) = a1 then (hb_191_28 (nI 0) h) else (hb_191_23 h))))
set_option maxHeartbeats 1000000 in
theorem hc_191 {S : hs_S} {D : Nat} {Q : hs_Q} (hD : 1 ≤ D) {a1 : Int32} {h : hs_H} {r : Int32 × hs_H} (e : hf_191 a1 h = some r) (q : Q (some (hs_i r.1)) r.2) : hs_call hs_ms S D 191 [hs_r 12 0, hs_i a1] h Q := by
  refine hs_go (R := 0) hD rfl (Nat.le_of_ble_eq_true rfl) (fun d hd => ?_)
  show hs_W S d 2 hs_p191 Q 0 [hs_r 12 0, hs_i a1] [] h
  unfold hf_191 at e
  obtain ⟨c1, e⟩ := hs_ck_some e
  refine hs_wa 4 (c := vp_in (nI 10) 162) (pc' := 7) (ls' := [hs_r 12 0, hs_i a1]) (st' := [hs_i (h.1 44 0 (nI 10).toNatClampNeg)]) (h' := h) (fun n w => w) (hs_inb_iff.mp c1) ?_
  refine hs_wb 2 (c := (h.1 44 0 (nI 10).toNatClampNeg) = (nI 4294967292)) (t := 23) (f := 12) (ls' := [hs_r 12 0, hs_i a1]) (st' := []) (h' := h) (fun n w => w) (fun b2 => ?_) (fun b2 => ?_)
  · rw [if_pos b2] at e
    exact hw_191_23 hd e q
  · rw [if_neg b2] at e
    obtain ⟨c4, e⟩ := hs_ck_some e
    refine hs_wa 4 (c := vp_in (nI 10) 162) (pc' := 19) (ls' := [hs_r 12 0, hs_i a1]) (st' := [hs_i (h.1 44 0 (nI 10).toNatClampNeg)]) (h' := h) (fun n w => w) (hs_inb_iff.mp c4) ?_
    refine hs_wb 2 (c := ¬ (h.1 44 0 (nI 10).toNatClampNeg) = a1) (t := 27) (f := 23) (ls' := [hs_r 12 0, hs_i a1]) (st' := []) (h' := h) (fun n w => w) (fun b5 => ?_) (fun b5 => ?_)
    · rw [if_pos b5] at e
      refine hs_w 1 (pc' := 28) (ls' := [hs_r 12 0, hs_i a1]) (st' := [hs_i (nI 0)]) (h' := h) (fun n w => w) ?_
      exact hw_191_28 hd e q
    · rw [if_neg b5] at e
      exact hw_191_23 hd e q
def hb_192_51  (k2 : Int32 × Int32 × hs_H → Option (hs_H)) (x1 : Int32) (x2 : Int32) (s0 : Int32) (s1 : Int32) (h : hs_H) : Option (hs_H) := hs_ck (hs_inb s1 6) (k2 (x1, x2 + nI 1, hs_put h 52 0 s1.toNatClampNeg s0))
set_option maxHeartbeats 1000000 in
theorem hw_192_51 {S : hs_S} {d : Nat} {Q : hs_Q} (hd : 0 ≤ d)  {k2 : Int32 × Int32 × hs_H → Option (hs_H)} (hk2 : ∀ (x1 : Int32) (x2 : Int32) (h : hs_H) (r : hs_H) , k2 (x1, x2, h) = some r → Q none r → hs_W S d 0 hs_p192 Q 2 [hs_r 12 0, hs_i x1, hs_i x2] [] h) {x1 : Int32} {x2 : Int32} {s0 : Int32} {s1 : Int32}  {h : hs_H} {r : hs_H} (e : hb_192_51 k2 x1 x2 s0 s1 h = some r) (q : Q none r) : hs_W S d 0 hs_p192 Q 51 [hs_r 12 0, hs_i x1, hs_i x2] [hs_i s0, hs_i s1, hs_r 52 0] h := by
  unfold hb_192_51 at e
  obtain ⟨c7, e⟩ := hs_ck_some e
  refine hs_wa 1 (c := vp_in s1 6) (pc' := 52) (ls' := [hs_r 12 0, hs_i x1, hs_i x2]) (st' := []) (h' := hs_put h 52 0 s1.toNatClampNeg s0) (fun n w => w) (hs_inb_iff.mp c7) ?_
  refine hs_w 2 (pc' := 2) (ls' := [hs_r 12 0, hs_i x1, hs_i (x2 + nI 1)]) (st' := []) (h' := hs_put h 52 0 s1.toNatClampNeg s0) (fun n w => w) ?_
  exact hk2 _ _ _ _  e q
def hb_192_2  (k2 : Int32 × Int32 × hs_H → Option (hs_H)) (x1 : Int32) (x2 : Int32)  (h : hs_H) : Option (hs_H) := if x1 < x2 then (some (hs_put h 12 0 24 ((h.1 12 0 24) + (nI 1)))) else (hs_ck (hs_inb x2 6) (hs_ck (hs_inb x2 6) (hs_ck (hs_inb x2 6) (if ¬ ((hs_put h 51 0 x2.toNatClampNeg ((h.1 51 0 x2.toNatClampNeg) ||| ((nI 1) <<< ((h.1 49 0 x2.toNatClampNeg) &&& 31)))).1 12 0 24) = 0 then (hs_ck (hs_inb x2 6) (hb_192_51 k2 x1 x2 ((hs_put h 51 0 x2.toNatClampNeg ((h.1 51 0 x2.toNatClampNeg) ||| ((nI 1) <<< ((h.1 49 0 x2.toNatClampNeg) &&& 31)))).1 52 0 x2.toNatClampNeg) x2 (hs_put h 51 0 x2.toNatClampNeg ((h.1 51 0 x2.toNatClampNeg) ||| ((nI 1) <<< ((h.1 49 0 x2.toNatClampNeg) &&& 31)))))) else (hs_ck (hs_inb x2 6) (hb_192_51 k2 x1 x2 ((hs_put h 51 0 x2.toNatClampNeg ((h.1 51 0 x2.toNatClampNeg) ||| ((nI 1) <<< ((h.1 49 0 x2.toNatClampNeg) &&& 31)))).1 49 0 x2.toNatClampNeg) x2 (hs_put h 51 0 x2.toNatClampNeg ((h.1 51 0 x2.toNatClampNeg) ||| ((nI 1) <<< ((h.1 49 0 x2.toNatClampNeg) &&& 31))))))))))
set_option maxHeartbeats 1000000 in
theorem hw_192_2 {S : hs_S} {d : Nat} {Q : hs_Q} (hd : 0 ≤ d)  {k2 : Int32 × Int32 × hs_H → Option (hs_H)} (hk2 : ∀ (x1 : Int32) (x2 : Int32) (h : hs_H) (r : hs_H) , k2 (x1, x2, h) = some r → Q none r → hs_W S d 0 hs_p192 Q 2 [hs_r 12 0, hs_i x1, hs_i x2] [] h) {x1 : Int32} {x2 : Int32}   {h : hs_H} {r : hs_H} (e : hb_192_2 k2 x1 x2 h = some r) (q : Q none r) : hs_W S d 0 hs_p192 Q 2 [hs_r 12 0, hs_i x1, hs_i x2] [] h := by
  unfold hb_192_2 at e
  refine hs_wb 3 (c := x1 < x2) (t := 58) (f := 7) (ls' := [hs_r 12 0, hs_i x1, hs_i x2]) (st' := []) (h' := h) (fun n w => w) (fun b1 => ?_) (fun b1 => ?_)
  · rw [if_pos b1] at e
    obtain rfl := Option.some.inj e
    exact hs_wr 7 (v := none) (h' := hs_put h 12 0 24 ((h.1 12 0 24) + (nI 1))) (fun n w => w) q
  · rw [if_neg b1] at e
    obtain ⟨c2, e⟩ := hs_ck_some e
    refine hs_wa 5 (c := vp_in x2 6) (pc' := 14) (ls' := [hs_r 12 0, hs_i x1, hs_i x2]) (st' := [hs_i (h.1 51 0 x2.toNatClampNeg), hs_i x2, hs_r 51 0]) (h' := h) (fun n w => w) (hs_inb_iff.mp c2) ?_
    obtain ⟨c3, e⟩ := hs_ck_some e
    refine hs_wa 5 (c := vp_in x2 6) (pc' := 21) (ls' := [hs_r 12 0, hs_i x1, hs_i x2]) (st' := [hs_i (h.1 49 0 x2.toNatClampNeg), hs_i (nI 1), hs_i (h.1 51 0 x2.toNatClampNeg), hs_i x2, hs_r 51 0]) (h' := h) (fun n w => w) (hs_inb_iff.mp c3) ?_
    obtain ⟨c4, e⟩ := hs_ck_some e
    refine hs_wa 3 (c := vp_in x2 6) (pc' := 24) (ls' := [hs_r 12 0, hs_i x1, hs_i x2]) (st' := []) (h' := hs_put h 51 0 x2.toNatClampNeg ((h.1 51 0 x2.toNatClampNeg) ||| ((nI 1) <<< ((h.1 49 0 x2.toNatClampNeg) &&& 31)))) (fun n w => w) (hs_inb_iff.mp c4) ?_
    refine hs_wb 6 (c := ¬ ((hs_put h 51 0 x2.toNatClampNeg ((h.1 51 0 x2.toNatClampNeg) ||| ((nI 1) <<< ((h.1 49 0 x2.toNatClampNeg) &&& 31)))).1 12 0 24) = 0) (t := 45) (f := 36) (ls' := [hs_r 12 0, hs_i x1, hs_i x2]) (st' := [hs_i x2, hs_r 52 0]) (h' := hs_put h 51 0 x2.toNatClampNeg ((h.1 51 0 x2.toNatClampNeg) ||| ((nI 1) <<< ((h.1 49 0 x2.toNatClampNeg) &&& 31)))) (fun n w => w) (fun b5 => ?_) (fun b5 => ?_)
    · rw [if_pos b5] at e
      obtain ⟨c6, e⟩ := hs_ck_some e
      refine hs_wa 4 (c := vp_in x2 6) (pc' := 51) (ls' := [hs_r 12 0, hs_i x1, hs_i x2]) (st' := [hs_i ((hs_put h 51 0 x2.toNatClampNeg ((h.1 51 0 x2.toNatClampNeg) ||| ((nI 1) <<< ((h.1 49 0 x2.toNatClampNeg) &&& 31)))).1 52 0 x2.toNatClampNeg), hs_i x2, hs_r 52 0]) (h' := hs_put h 51 0 x2.toNatClampNeg ((h.1 51 0 x2.toNatClampNeg) ||| ((nI 1) <<< ((h.1 49 0 x2.toNatClampNeg) &&& 31)))) (fun n w => w) (hs_inb_iff.mp c6) ?_
      exact hw_192_51 hd hk2 e q
    · rw [if_neg b5] at e
      obtain ⟨c8, e⟩ := hs_ck_some e
      refine hs_wa 4 (c := vp_in x2 6) (pc' := 42) (ls' := [hs_r 12 0, hs_i x1, hs_i x2]) (st' := [hs_i ((hs_put h 51 0 x2.toNatClampNeg ((h.1 51 0 x2.toNatClampNeg) ||| ((nI 1) <<< ((h.1 49 0 x2.toNatClampNeg) &&& 31)))).1 49 0 x2.toNatClampNeg), hs_i x2, hs_r 52 0]) (h' := hs_put h 51 0 x2.toNatClampNeg ((h.1 51 0 x2.toNatClampNeg) ||| ((nI 1) <<< ((h.1 49 0 x2.toNatClampNeg) &&& 31)))) (fun n w => w) (hs_inb_iff.mp c8) ?_
      refine hs_w 1 (pc' := 51) (ls' := [hs_r 12 0, hs_i x1, hs_i x2]) (st' := [hs_i ((hs_put h 51 0 x2.toNatClampNeg ((h.1 51 0 x2.toNatClampNeg) ||| ((nI 1) <<< ((h.1 49 0 x2.toNatClampNeg) &&& 31)))).1 49 0 x2.toNatClampNeg), hs_i x2, hs_r 52 0]) (h' := hs_put h 51 0 x2.toNatClampNeg ((h.1 51 0 x2.toNatClampNeg) ||| ((nI 1) <<< ((h.1 49 0 x2.toNatClampNeg) &&& 31)))) (fun n w => w) ?_
      exact hw_192_51 hd hk2 e q
theorem hw_192_2_lp {S : hs_S} {d : Nat} {Q : hs_Q} (hd : 0 ≤ d)    (n : Nat) {x1 : Int32} {x2 : Int32} {h : hs_H} {r : hs_H} (e : hs_lp (fun k s => hb_192_2 k s.1 s.2.1 s.2.2) n (x1, x2, h) = some r)  (q : Q none r) : hs_W S d 0 hs_p192 Q 2 [hs_r 12 0, hs_i x1, hs_i x2] [] h := by
  refine hs_lp_ind (P := fun (s : Int32 × Int32 × hs_H) (r : hs_H) => ∀ (_ : True), Q none r → hs_W S d 0 hs_p192 Q 2 [hs_r 12 0, hs_i s.1, hs_i s.2.1] [] s.2.2) (fun k hk s r e _ q => ?_) n (x1, x2, h) r e trivial q
  exact hw_192_2 hd (fun x1 x2 h r  e q => hk (x1, x2, h) r e trivial q) e q
/-- HuntedScentModel.takesWay(I)V -/
def hf_192 (a1 : Int32) (h : hs_H) : Option (hs_H) := hs_lp (fun k s => hb_192_2 k s.1 s.2.1 s.2.2) hs_big (a1, nI 0, h)
set_option maxHeartbeats 1000000 in
theorem hc_192 {S : hs_S} {D : Nat} {Q : hs_Q} (hD : 1 ≤ D) {a1 : Int32} {h : hs_H} {r : hs_H} (e : hf_192 a1 h = some r) (q : Q none r) : hs_call hs_ms S D 192 [hs_r 12 0, hs_i a1] h Q := by
  refine hs_go (R := 0) hD rfl (Nat.le_of_ble_eq_true rfl) (fun d hd => ?_)
  show hs_W S d 0 hs_p192 Q 0 [hs_r 12 0, hs_i a1, hs_u] [] h
  unfold hf_192 at e
  refine hs_w 2 (pc' := 2) (ls' := [hs_r 12 0, hs_i a1, hs_i (nI 0)]) (st' := []) (h' := h) (fun n w => w) ?_
  exact hw_192_2_lp hd hs_big e  q
def hb_193_200     (h : hs_H) : Option (hs_H) := some h
set_option maxHeartbeats 1000000 in
theorem hw_193_200 {S : hs_S} {d : Nat} {Q : hs_Q} (hd : 3 ≤ d)      {v1 : hs_V} {v2 : hs_V} {v3 : hs_V} {v4 : hs_V} {v5 : hs_V} {v6 : hs_V} {h : hs_H} {r : hs_H} (e : hb_193_200 h = some r) (q : Q none r) : hs_W S d 0 hs_p193 Q 200 [hs_r 12 0, v1, v2, v3, v4, v5, v6] [] h := by
  unfold hb_193_200 at e
  obtain rfl := Option.some.inj e
  exact hs_wr 1 (v := none) (h' := h) (fun n w => w) q
def hb_193_197  (k34 : Int32 × Int32 × Int32 × Int32 × Int32 × hs_H → Option (hs_H)) (x1 : Int32) (x2 : Int32) (x3 : Int32) (x4 : Int32) (x5 : Int32)  (h : hs_H) : Option (hs_H) := k34 (x1, x2, x3, x4, x5, h)
set_option maxHeartbeats 1000000 in
theorem hw_193_197 {S : hs_S} {d : Nat} {Q : hs_Q} (hd : 3 ≤ d)  {k34 : Int32 × Int32 × Int32 × Int32 × Int32 × hs_H → Option (hs_H)} (hk34 : ∀ (x1 : Int32) (x2 : Int32) (x3 : Int32) (x4 : Int32) (x5 : Int32) (h : hs_H) (r : hs_H) (v6 : hs_V), k34 (x1, x2, x3, x4, x5, h) = some r → Q none r → hs_W S d 0 hs_p193 Q 34 [hs_r 12 0, hs_i x1, hs_i x2, hs_i x3, hs_i x4, hs_i x5, v6] [] h) {x1 : Int32} {x2 : Int32} {x3 : Int32} {x4 : Int32} {x5 : Int32}  {v6 : hs_V} {h : hs_H} {r : hs_H} (e : hb_193_197 k34 x1 x2 x3 x4 x5 h = some r) (q : Q none r) : hs_W S d 0 hs_p193 Q 197 [hs_r 12 0, hs_i x1, hs_i x2, hs_i x3, hs_i x4, hs_i x5, v6] [] h := by
  unfold hb_193_197 at e
  refine hs_w 1 (pc' := 34) (ls' := [hs_r 12 0, hs_i x1, hs_i x2, hs_i x3, hs_i x4, hs_i x5, v6]) (st' := []) (h' := h) (fun n w => w) ?_
  exact hk34 _ _ _ _ _ _ _ _ e q
def hb_193_195  (k34 : Int32 × Int32 × Int32 × Int32 × Int32 × hs_H → Option (hs_H)) (x1 : Int32) (x2 : Int32) (x3 : Int32) (x4 : Int32) (s0 : Int32) (h : hs_H) : Option (hs_H) := hb_193_197 k34 x1 x2 x3 x4 s0 h
set_option maxHeartbeats 1000000 in
theorem hw_193_195 {S : hs_S} {d : Nat} {Q : hs_Q} (hd : 3 ≤ d)  {k34 : Int32 × Int32 × Int32 × Int32 × Int32 × hs_H → Option (hs_H)} (hk34 : ∀ (x1 : Int32) (x2 : Int32) (x3 : Int32) (x4 : Int32) (x5 : Int32) (h : hs_H) (r : hs_H) (v6 : hs_V), k34 (x1, x2, x3, x4, x5, h) = some r → Q none r → hs_W S d 0 hs_p193 Q 34 [hs_r 12 0, hs_i x1, hs_i x2, hs_i x3, hs_i x4, hs_i x5, v6] [] h) {x1 : Int32} {x2 : Int32} {x3 : Int32} {x4 : Int32} {s0 : Int32} {v5 : hs_V} {v6 : hs_V} {h : hs_H} {r : hs_H} (e : hb_193_195 k34 x1 x2 x3 x4 s0 h = some r) (q : Q none r) : hs_W S d 0 hs_p193 Q 195 [hs_r 12 0, hs_i x1, hs_i x2, hs_i x3, hs_i x4, v5, v6] [hs_i s0] h := by
  unfold hb_193_195 at e
  refine hs_w 1 (pc' := 197) (ls' := [hs_r 12 0, hs_i x1, hs_i x2, hs_i x3, hs_i x4, hs_i s0, v6]) (st' := []) (h' := h) (fun n w => w) ?_
  exact hw_193_197 hd hk34 e q
def hb_193_145  (k34 : Int32 × Int32 × Int32 × Int32 × Int32 × hs_H → Option (hs_H)) (x1 : Int32) (x2 : Int32) (x3 : Int32) (x4 : Int32) (x5 : Int32) (x6 : Int32)  (h : hs_H) : Option (hs_H) := if x6 = 0 then (if (h.1 12 0 2) ≤ x5 then (if 0 ≤ (x4 + nI 4294967295) then (hs_ck (hs_inb (x4 + nI 4294967295) 6) (hb_193_195 k34 x1 x2 x3 (x4 + nI 4294967295) ((h.1 49 0 (x4 + nI 4294967295).toNatClampNeg) + (nI 1)) h)) else (hb_193_195 k34 x1 x2 x3 (x4 + nI 4294967295) (nI 0) h)) else (hb_193_197 k34 x1 x2 x3 x4 (x5 + nI 1) h)) else (hb_193_197 k34 x1 x2 x3 (x4 + nI 1) (nI 0) h)
set_option maxHeartbeats 1000000 in
theorem hw_193_145 {S : hs_S} {d : Nat} {Q : hs_Q} (hd : 3 ≤ d)  {k34 : Int32 × Int32 × Int32 × Int32 × Int32 × hs_H → Option (hs_H)} (hk34 : ∀ (x1 : Int32) (x2 : Int32) (x3 : Int32) (x4 : Int32) (x5 : Int32) (h : hs_H) (r : hs_H) (v6 : hs_V), k34 (x1, x2, x3, x4, x5, h) = some r → Q none r → hs_W S d 0 hs_p193 Q 34 [hs_r 12 0, hs_i x1, hs_i x2, hs_i x3, hs_i x4, hs_i x5, v6] [] h) {x1 : Int32} {x2 : Int32} {x3 : Int32} {x4 : Int32} {x5 : Int32} {x6 : Int32}   {h : hs_H} {r : hs_H} (e : hb_193_145 k34 x1 x2 x3 x4 x5 x6 h = some r) (q : Q none r) : hs_W S d 0 hs_p193 Q 145 [hs_r 12 0, hs_i x1, hs_i x2, hs_i x3, hs_i x4, hs_i x5, hs_i x6] [] h := by
  unfold hb_193_145 at e
  refine hs_wb 2 (c := x6 = 0) (t := 159) (f := 150) (ls' := [hs_r 12 0, hs_i x1, hs_i x2, hs_i x3, hs_i x4, hs_i x5, hs_i x6]) (st' := []) (h' := h) (fun n w => w) (fun b7 => ?_) (fun b7 => ?_)
  · rw [if_pos b7] at e
    refine hs_wb 4 (c := (h.1 12 0 2) ≤ x5) (t := 174) (f := 168) (ls' := [hs_r 12 0, hs_i x1, hs_i x2, hs_i x3, hs_i x4, hs_i x5, hs_i x6]) (st' := []) (h' := h) (fun n w => w) (fun b8 => ?_) (fun b8 => ?_)
    · rw [if_pos b8] at e
      refine hs_wb 3 (c := 0 ≤ (x4 + nI 4294967295)) (t := 186) (f := 182) (ls' := [hs_r 12 0, hs_i x1, hs_i x2, hs_i x3, hs_i (x4 + nI 4294967295), hs_i x5, hs_i x6]) (st' := []) (h' := h) (fun n w => w) (fun b9 => ?_) (fun b9 => ?_)
      · rw [if_pos b9] at e
        obtain ⟨c10, e⟩ := hs_ck_some e
        refine hs_wa 4 (c := vp_in (x4 + nI 4294967295) 6) (pc' := 193) (ls' := [hs_r 12 0, hs_i x1, hs_i x2, hs_i x3, hs_i (x4 + nI 4294967295), hs_i x5, hs_i x6]) (st' := [hs_i (h.1 49 0 (x4 + nI 4294967295).toNatClampNeg)]) (h' := h) (fun n w => w) (hs_inb_iff.mp c10) ?_
        refine hs_w 2 (pc' := 195) (ls' := [hs_r 12 0, hs_i x1, hs_i x2, hs_i x3, hs_i (x4 + nI 4294967295), hs_i x5, hs_i x6]) (st' := [hs_i ((h.1 49 0 (x4 + nI 4294967295).toNatClampNeg) + (nI 1))]) (h' := h) (fun n w => w) ?_
        exact hw_193_195 hd hk34 e q
      · rw [if_neg b9] at e
        refine hs_w 2 (pc' := 195) (ls' := [hs_r 12 0, hs_i x1, hs_i x2, hs_i x3, hs_i (x4 + nI 4294967295), hs_i x5, hs_i x6]) (st' := [hs_i (nI 0)]) (h' := h) (fun n w => w) ?_
        exact hw_193_195 hd hk34 e q
    · rw [if_neg b8] at e
      refine hs_w 2 (pc' := 197) (ls' := [hs_r 12 0, hs_i x1, hs_i x2, hs_i x3, hs_i x4, hs_i (x5 + nI 1), hs_i x6]) (st' := []) (h' := h) (fun n w => w) ?_
      exact hw_193_197 hd hk34 e q
  · rw [if_neg b7] at e
    refine hs_w 4 (pc' := 197) (ls' := [hs_r 12 0, hs_i x1, hs_i x2, hs_i x3, hs_i (x4 + nI 1), hs_i (nI 0), hs_i x6]) (st' := []) (h' := h) (fun n w => w) ?_
    exact hw_193_197 hd hk34 e q
def hb_193_123  (k34 : Int32 × Int32 × Int32 × Int32 × Int32 × hs_H → Option (hs_H)) (x1 : Int32) (x2 : Int32) (x3 : Int32) (x4 : Int32) (x5 : Int32) (x6 : Int32)  (h : hs_H) : Option (hs_H) := if x6 = 0 then (hb_193_145 k34 x1 x2 x3 x4 x5 x6 h) else (if ¬ x4 = x1 then (hb_193_145 k34 x1 x2 x3 x4 x5 x6 h) else ((hf_192 x1 h).bind (fun q12 => hb_193_197 k34 x1 x2 x3 x4 (x5 + nI 1) q12)))
set_option maxHeartbeats 1000000 in
theorem hw_193_123 {S : hs_S} {d : Nat} {Q : hs_Q} (hd : 3 ≤ d)  {k34 : Int32 × Int32 × Int32 × Int32 × Int32 × hs_H → Option (hs_H)} (hk34 : ∀ (x1 : Int32) (x2 : Int32) (x3 : Int32) (x4 : Int32) (x5 : Int32) (h : hs_H) (r : hs_H) (v6 : hs_V), k34 (x1, x2, x3, x4, x5, h) = some r → Q none r → hs_W S d 0 hs_p193 Q 34 [hs_r 12 0, hs_i x1, hs_i x2, hs_i x3, hs_i x4, hs_i x5, v6] [] h) {x1 : Int32} {x2 : Int32} {x3 : Int32} {x4 : Int32} {x5 : Int32} {x6 : Int32}   {h : hs_H} {r : hs_H} (e : hb_193_123 k34 x1 x2 x3 x4 x5 x6 h = some r) (q : Q none r) : hs_W S d 0 hs_p193 Q 123 [hs_r 12 0, hs_i x1, hs_i x2, hs_i x3, hs_i x4, hs_i x5, hs_i x6] [] h := by
  unfold hb_193_123 at e
  refine hs_wb 2 (c := x6 = 0) (t := 145) (f := 128) (ls' := [hs_r 12 0, hs_i x1, hs_i x2, hs_i x3, hs_i x4, hs_i x5, hs_i x6]) (st' := []) (h' := h) (fun n w => w) (fun b6 => ?_) (fun b6 => ?_)
  · rw [if_pos b6] at e
    exact hw_193_145 hd hk34 e q
  · rw [if_neg b6] at e
    refine hs_wb 3 (c := ¬ x4 = x1) (t := 145) (f := 134) (ls' := [hs_r 12 0, hs_i x1, hs_i x2, hs_i x3, hs_i x4, hs_i x5, hs_i x6]) (st' := []) (h' := h) (fun n w => w) (fun b11 => ?_) (fun b11 => ?_)
    · rw [if_pos b11] at e
      exact hw_193_145 hd hk34 e q
    · rw [if_neg b11] at e
      obtain ⟨q12, eq12, e⟩ := hs_bind_some e
      try dsimp only at e
      refine hs_wc 3 (y := 192) (a := [hs_r 12 0, hs_i x1]) (v := none) (pc' := 139) (ls' := [hs_r 12 0, hs_i x1, hs_i x2, hs_i x3, hs_i x4, hs_i x5, hs_i x6]) (st' := []) (h' := h) (h2 := q12) (fun n w => w) (fun q => hc_192 (by omega) eq12 q) ?_
      refine hs_w 2 (pc' := 197) (ls' := [hs_r 12 0, hs_i x1, hs_i x2, hs_i x3, hs_i x4, hs_i (x5 + nI 1), hs_i x6]) (st' := []) (h' := q12) (fun n w => w) ?_
      exact hw_193_197 hd hk34 e q
def hb_193_99  (k34 : Int32 × Int32 × Int32 × Int32 × Int32 × hs_H → Option (hs_H)) (x1 : Int32) (x2 : Int32) (x3 : Int32) (x4 : Int32) (x5 : Int32) (s0 : Int32) (h : hs_H) : Option (hs_H) := if s0 = 0 then (hb_193_123 k34 x1 x2 x3 x4 x5 s0 h) else ((hf_189 x4 x5 h).bind (fun q13 => (hf_190 x4 x2 q13).bind (fun q14 => hb_193_123 k34 x1 x2 x3 x4 x5 q14.1 q14.2)))
set_option maxHeartbeats 1000000 in
theorem hw_193_99 {S : hs_S} {d : Nat} {Q : hs_Q} (hd : 3 ≤ d)  {k34 : Int32 × Int32 × Int32 × Int32 × Int32 × hs_H → Option (hs_H)} (hk34 : ∀ (x1 : Int32) (x2 : Int32) (x3 : Int32) (x4 : Int32) (x5 : Int32) (h : hs_H) (r : hs_H) (v6 : hs_V), k34 (x1, x2, x3, x4, x5, h) = some r → Q none r → hs_W S d 0 hs_p193 Q 34 [hs_r 12 0, hs_i x1, hs_i x2, hs_i x3, hs_i x4, hs_i x5, v6] [] h) {x1 : Int32} {x2 : Int32} {x3 : Int32} {x4 : Int32} {x5 : Int32} {s0 : Int32} {v6 : hs_V} {h : hs_H} {r : hs_H} (e : hb_193_99 k34 x1 x2 x3 x4 x5 s0 h = some r) (q : Q none r) : hs_W S d 0 hs_p193 Q 99 [hs_r 12 0, hs_i x1, hs_i x2, hs_i x3, hs_i x4, hs_i x5, v6] [hs_i s0] h := by
  unfold hb_193_99 at e
  refine hs_wb 3 (c := s0 = 0) (t := 123) (f := 106) (ls' := [hs_r 12 0, hs_i x1, hs_i x2, hs_i x3, hs_i x4, hs_i x5, hs_i s0]) (st' := []) (h' := h) (fun n w => w) (fun b5 => ?_) (fun b5 => ?_)
  · rw [if_pos b5] at e
    exact hw_193_123 hd hk34 e q
  · rw [if_neg b5] at e
    obtain ⟨q13, eq13, e⟩ := hs_bind_some e
    try dsimp only at e
    refine hs_wc 4 (y := 189) (a := [hs_r 12 0, hs_i x4, hs_i x5]) (v := none) (pc' := 114) (ls' := [hs_r 12 0, hs_i x1, hs_i x2, hs_i x3, hs_i x4, hs_i x5, hs_i s0]) (st' := []) (h' := h) (h2 := q13) (fun n w => w) (fun q => hc_189 (by omega) eq13 q) ?_
    obtain ⟨q14, eq14, e⟩ := hs_bind_some e
    try dsimp only at e
    refine hs_wc 4 (y := 190) (a := [hs_r 12 0, hs_i x4, hs_i x2]) (v := some (hs_i q14.1)) (pc' := 121) (ls' := [hs_r 12 0, hs_i x1, hs_i x2, hs_i x3, hs_i x4, hs_i x5, hs_i s0]) (st' := []) (h' := q13) (h2 := q14.2) (fun n w => w) (fun q => hc_190 (by omega) eq14 q) ?_
    refine hs_w 1 (pc' := 123) (ls' := [hs_r 12 0, hs_i x1, hs_i x2, hs_i x3, hs_i x4, hs_i x5, hs_i q14.1]) (st' := []) (h' := q14.2) (fun n w => w) ?_
    exact hw_193_123 hd hk34 e q
def hb_193_98  (k34 : Int32 × Int32 × Int32 × Int32 × Int32 × hs_H → Option (hs_H)) (x1 : Int32) (x2 : Int32) (x3 : Int32) (x4 : Int32) (x5 : Int32)  (h : hs_H) : Option (hs_H) := hb_193_99 k34 x1 x2 x3 x4 x5 (nI 0) h
set_option maxHeartbeats 1000000 in
theorem hw_193_98 {S : hs_S} {d : Nat} {Q : hs_Q} (hd : 3 ≤ d)  {k34 : Int32 × Int32 × Int32 × Int32 × Int32 × hs_H → Option (hs_H)} (hk34 : ∀ (x1 : Int32) (x2 : Int32) (x3 : Int32) (x4 : Int32) (x5 : Int32) (h : hs_H) (r : hs_H) (v6 : hs_V), k34 (x1, x2, x3, x4, x5, h) = some r → Q none r → hs_W S d 0 hs_p193 Q 34 [hs_r 12 0, hs_i x1, hs_i x2, hs_i x3, hs_i x4, hs_i x5, v6] [] h) {x1 : Int32} {x2 : Int32} {x3 : Int32} {x4 : Int32} {x5 : Int32}  {v6 : hs_V} {h : hs_H} {r : hs_H} (e : hb_193_98 k34 x1 x2 x3 x4 x5 h = some r) (q : Q none r) : hs_W S d 0 hs_p193 Q 98 [hs_r 12 0, hs_i x1, hs_i x2, hs_i x3, hs_i x4, hs_i x5, v6] [] h := by
  unfold hb_193_98 at e
  refine hs_w 1 (pc' := 99) (ls' := [hs_r 12 0, hs_i x1, hs_i x2, hs_i x3, hs_i x4, hs_i x5, v6]) (st' := [hs_i (nI 0)]) (h' := h) (fun n w => w) ?_
  exact hw_193_99 hd hk34 e q
def hb_193_94  (k34 : Int32 × Int32 × Int32 × Int32 × Int32 × hs_H → Option (hs_H)) (x1 : Int32) (x2 : Int32) (x3 : Int32) (x4 : Int32) (x5 : Int32)  (h : hs_H) : Option (hs_H) := hb_193_99 k34 x1 x2 x3 x4 x5 (nI 1) h
set_option maxHeartbeats 1000000 in
theorem hw_193_94 {S : hs_S} {d : Nat} {Q : hs_Q} (hd : 3 ≤ d)  {k34 : Int32 × Int32 × Int32 × Int32 × Int32 × hs_H → Option (hs_H)} (hk34 : ∀ (x1 : Int32) (x2 : Int32) (x3 : Int32) (x4 : Int32) (x5 : Int32) (h : hs_H) (r : hs_H) (v6 : hs_V), k34 (x1, x2, x3, x4, x5, h) = some r → Q none r → hs_W S d 0 hs_p193 Q 34 [hs_r 12 0, hs_i x1, hs_i x2, hs_i x3, hs_i x4, hs_i x5, v6] [] h) {x1 : Int32} {x2 : Int32} {x3 : Int32} {x4 : Int32} {x5 : Int32}  {v6 : hs_V} {h : hs_H} {r : hs_H} (e : hb_193_94 k34 x1 x2 x3 x4 x5 h = some r) (q : Q none r) : hs_W S d 0 hs_p193 Q 94 [hs_r 12 0, hs_i x1, hs_i x2, hs_i x3, hs_i x4, hs_i x5, v6] [] h := by
  unfold hb_193_94 at e
  refine hs_w 2 (pc' := 99) (ls' := [hs_r 12 0, hs_i x1, hs_i x2, hs_i x3, hs_i x4, hs_i x5, v6]) (st' := [hs_i (nI 1)]) (h' := h) (fun n w => w) ?_
  exact hw_193_99 hd hk34 e q
def hb_193_50  (k34 : Int32 × Int32 × Int32 × Int32 × Int32 × hs_H → Option (hs_H)) (x1 : Int32) (x2 : Int32) (x3 : Int32) (x4 : Int32) (x5 : Int32)  (h : hs_H) : Option (hs_H) := if (h.1 12 0 2) ≤ x5 then (hb_193_98 k34 x1 x2 x3 x4 x5 h) else (if ¬ x4 = 0 then (hs_ck (hs_inb (x4 - (nI 1)) 6) ((hf_181 (h.1 49 0 (x4 - (nI 1)).toNatClampNeg) x5 h).bind (fun q17 => if q17.1 = 0 then (hb_193_98 k34 x1 x2 x3 x4 x5 q17.2) else (hb_193_94 k34 x1 x2 x3 x4 x5 q17.2)))) else ((hf_191 x5 h).bind (fun q19 => if q19.1 = 0 then (hb_193_98 k34 x1 x2 x3 x4 x5 q19.2) else (hb_193_94 k34 x1 x2 x3 x4 x5 q19.2))))
set_option maxHeartbeats 1000000 in
theorem hw_193_50 {S : hs_S} {d : Nat} {Q : hs_Q} (hd : 3 ≤ d)  {k34 : Int32 × Int32 × Int32 × Int32 × Int32 × hs_H → Option (hs_H)} (hk34 : ∀ (x1 : Int32) (x2 : Int32) (x3 : Int32) (x4 : Int32) (x5 : Int32) (h : hs_H) (r : hs_H) (v6 : hs_V), k34 (x1, x2, x3, x4, x5, h) = some r → Q none r → hs_W S d 0 hs_p193 Q 34 [hs_r 12 0, hs_i x1, hs_i x2, hs_i x3, hs_i x4, hs_i x5, v6] [] h) {x1 : Int32} {x2 : Int32} {x3 : Int32} {x4 : Int32} {x5 : Int32}  {v6 : hs_V} {h : hs_H} {r : hs_H} (e : hb_193_50 k34 x1 x2 x3 x4 x5 h = some r) (q : Q none r) : hs_W S d 0 hs_p193 Q 50 [hs_r 12 0, hs_i x1, hs_i x2, hs_i x3, hs_i x4, hs_i x5, v6] [] h := by
  unfold hb_193_50 at e
  refine hs_wb 4 (c := (h.1 12 0 2) ≤ x5) (t := 98) (f := 59) (ls' := [hs_r 12 0, hs_i x1, hs_i x2, hs_i x3, hs_i x4, hs_i x5, v6]) (st' := []) (h' := h) (fun n w => w) (fun b4 => ?_) (fun b4 => ?_)
  · rw [if_pos b4] at e
    exact hw_193_98 hd hk34 e q
  · rw [if_neg b4] at e
    refine hs_wb 2 (c := ¬ x4 = 0) (t := 76) (f := 64) (ls' := [hs_r 12 0, hs_i x1, hs_i x2, hs_i x3, hs_i x4, hs_i x5, v6]) (st' := []) (h' := h) (fun n w => w) (fun b15 => ?_) (fun b15 => ?_)
    · rw [if_pos b15] at e
      obtain ⟨c16, e⟩ := hs_ck_some e
      refine hs_wa 7 (c := vp_in (x4 - (nI 1)) 6) (pc' := 86) (ls' := [hs_r 12 0, hs_i x1, hs_i x2, hs_i x3, hs_i x4, hs_i x5, v6]) (st' := [hs_i (h.1 49 0 (x4 - (nI 1)).toNatClampNeg), hs_r 12 0]) (h' := h) (fun n w => w) (hs_inb_iff.mp c16) ?_
      obtain ⟨q17, eq17, e⟩ := hs_bind_some e
      try dsimp only at e
      refine hs_wc 2 (y := 181) (a := [hs_r 12 0, hs_i (h.1 49 0 (x4 - (nI 1)).toNatClampNeg), hs_i x5]) (v := some (hs_i q17.1)) (pc' := 91) (ls' := [hs_r 12 0, hs_i x1, hs_i x2, hs_i x3, hs_i x4, hs_i x5, v6]) (st' := []) (h' := h) (h2 := q17.2) (fun n w => w) (fun q => hc_181 (by omega) eq17 q) ?_
      refine hs_wb 1 (c := q17.1 = 0) (t := 98) (f := 94) (ls' := [hs_r 12 0, hs_i x1, hs_i x2, hs_i x3, hs_i x4, hs_i x5, v6]) (st' := []) (h' := q17.2) (fun n w => w) (fun b18 => ?_) (fun b18 => ?_)
      · rw [if_pos b18] at e
        exact hw_193_98 hd hk34 e q
      · rw [if_neg b18] at e
        exact hw_193_94 hd hk34 e q
    · rw [if_neg b15] at e
      obtain ⟨q19, eq19, e⟩ := hs_bind_some e
      try dsimp only at e
      refine hs_wc 3 (y := 191) (a := [hs_r 12 0, hs_i x5]) (v := some (hs_i q19.1)) (pc' := 70) (ls' := [hs_r 12 0, hs_i x1, hs_i x2, hs_i x3, hs_i x4, hs_i x5, v6]) (st' := []) (h' := h) (h2 := q19.2) (fun n w => w) (fun q => hc_191 (by omega) eq19 q) ?_
      refine hs_wb 1 (c := q19.1 = 0) (t := 98) (f := 73) (ls' := [hs_r 12 0, hs_i x1, hs_i x2, hs_i x3, hs_i x4, hs_i x5, v6]) (st' := []) (h' := q19.2) (fun n w => w) (fun b20 => ?_) (fun b20 => ?_)
      · rw [if_pos b20] at e
        exact hw_193_98 hd hk34 e q
      · rw [if_neg b20] at e
        refine hs_w 1 (pc' := 94) (ls' := [hs_r 12 0, hs_i x1, hs_i x2, hs_i x3, hs_i x4, hs_i x5, v6]) (st' := []) (h' := q19.2) (fun n w => w) ?_
        exact hw_193_94 hd hk34 e q
def hb_193_34  (k34 : Int32 × Int32 × Int32 × Int32 × Int32 × hs_H → Option (hs_H)) (x1 : Int32) (x2 : Int32) (x3 : Int32) (x4 : Int32) (x5 : Int32)  (h : hs_H) : Option (hs_H) := if x4 < 0 then (hb_193_200 h) else (if x3 = 0 then (hb_193_50 k34 x1 x2 x3 x4 x5 h) else (if 0 < (h.1 12 0 24) then (hb_193_200 h) else (hb_193_50 k34 x1 x2 x3 x4 x5 h)))
set_option maxHeartbeats 1000000 in
theorem hw_193_34 {S : hs_S} {d : Nat} {Q : hs_Q} (hd : 3 ≤ d)  {k34 : Int32 × Int32 × Int32 × Int32 × Int32 × hs_H → Option (hs_H)} (hk34 : ∀ (x1 : Int32) (x2 : Int32) (x3 : Int32) (x4 : Int32) (x5 : Int32) (h : hs_H) (r : hs_H) (v6 : hs_V), k34 (x1, x2, x3, x4, x5, h) = some r → Q none r → hs_W S d 0 hs_p193 Q 34 [hs_r 12 0, hs_i x1, hs_i x2, hs_i x3, hs_i x4, hs_i x5, v6] [] h) {x1 : Int32} {x2 : Int32} {x3 : Int32} {x4 : Int32} {x5 : Int32}  {v6 : hs_V} {h : hs_H} {r : hs_H} (e : hb_193_34 k34 x1 x2 x3 x4 x5 h = some r) (q : Q none r) : hs_W S d 0 hs_p193 Q 34 [hs_r 12 0, hs_i x1, hs_i x2, hs_i x3, hs_i x4, hs_i x5, v6] [] h := by
  unfold hb_193_34 at e
  refine hs_wb 2 (c := x4 < 0) (t := 200) (f := 39) (ls' := [hs_r 12 0, hs_i x1, hs_i x2, hs_i x3, hs_i x4, hs_i x5, v6]) (st' := []) (h' := h) (fun n w => w) (fun b2 => ?_) (fun b2 => ?_)
  · rw [if_pos b2] at e
    exact hw_193_200 hd e q
  · rw [if_neg b2] at e
    refine hs_wb 2 (c := x3 = 0) (t := 50) (f := 43) (ls' := [hs_r 12 0, hs_i x1, hs_i x2, hs_i x3, hs_i x4, hs_i x5, v6]) (st' := []) (h' := h) (fun n w => w) (fun b3 => ?_) (fun b3 => ?_)
    · rw [if_pos b3] at e
      exact hw_193_50 hd hk34 e q
    · rw [if_neg b3] at e
      refine hs_wb 3 (c := 0 < (h.1 12 0 24)) (t := 200) (f := 50) (ls' := [hs_r 12 0, hs_i x1, hs_i x2, hs_i x3, hs_i x4, hs_i x5, v6]) (st' := []) (h' := h) (fun n w => w) (fun b21 => ?_) (fun b21 => ?_)
      · rw [if_pos b21] at e
        exact hw_193_200 hd e q
      · rw [if_neg b21] at e
        exact hw_193_50 hd hk34 e q
theorem hw_193_34_lp {S : hs_S} {d : Nat} {Q : hs_Q} (hd : 3 ≤ d)    (n : Nat) {x1 : Int32} {x2 : Int32} {x3 : Int32} {x4 : Int32} {x5 : Int32} {h : hs_H} {r : hs_H} (e : hs_lp (fun k s => hb_193_34 k s.1 s.2.1 s.2.2.1 s.2.2.2.1 s.2.2.2.2.1 s.2.2.2.2.2) n (x1, x2, x3, x4, x5, h) = some r) (v6 : hs_V) (q : Q none r) : hs_W S d 0 hs_p193 Q 34 [hs_r 12 0, hs_i x1, hs_i x2, hs_i x3, hs_i x4, hs_i x5, v6] [] h := by
  refine hs_lp_ind (P := fun (s : Int32 × Int32 × Int32 × Int32 × Int32 × hs_H) (r : hs_H) => ∀ (v6 : hs_V), Q none r → hs_W S d 0 hs_p193 Q 34 [hs_r 12 0, hs_i s.1, hs_i s.2.1, hs_i s.2.2.1, hs_i s.2.2.2.1, hs_i s.2.2.2.2.1, v6] [] s.2.2.2.2.2) (fun k hk s r e v6 q => ?_) n (x1, x2, x3, x4, x5, h) r e v6 q
  exact hw_193_34 hd (fun x1 x2 x3 x4 x5 h r v6 e q => hk (x1, x2, x3, x4, x5, h) r e v6 q) e q
def hb_193_8  (k8 : Int32 × Int32 × Int32 × Int32 × hs_H → Option (hs_H)) (x1 : Int32) (x2 : Int32) (x3 : Int32) (x4 : Int32)  (h : hs_H) : Option (hs_H) := if (nI 5) < x4 then (hs_lp (fun k s => hb_193_34 k s.1 s.2.1 s.2.2.1 s.2.2.2.1 s.2.2.2.2.1 s.2.2.2.2.2) hs_big (x1, x2, x3, nI 0, nI 0, h)) else (hs_ck (hs_inb x4 6) (k8 (x1, x2, x3, x4 + nI 1, hs_put h 51 0 x4.toNatClampNeg (nI 0))))
set_option maxHeartbeats 1000000 in
theorem hw_193_8 {S : hs_S} {d : Nat} {Q : hs_Q} (hd : 3 ≤ d)  {k8 : Int32 × Int32 × Int32 × Int32 × hs_H → Option (hs_H)} (hk8 : ∀ (x1 : Int32) (x2 : Int32) (x3 : Int32) (x4 : Int32) (h : hs_H) (r : hs_H) (v5 : hs_V) (v6 : hs_V), k8 (x1, x2, x3, x4, h) = some r → Q none r → hs_W S d 0 hs_p193 Q 8 [hs_r 12 0, hs_i x1, hs_i x2, hs_i x3, hs_i x4, v5, v6] [] h) {x1 : Int32} {x2 : Int32} {x3 : Int32} {x4 : Int32}  {v5 : hs_V} {v6 : hs_V} {h : hs_H} {r : hs_H} (e : hb_193_8 k8 x1 x2 x3 x4 h = some r) (q : Q none r) : hs_W S d 0 hs_p193 Q 8 [hs_r 12 0, hs_i x1, hs_i x2, hs_i x3, hs_i x4, v5, v6] [] h := by
  unfold hb_193_8 at e
  refine hs_wb 3 (c := (nI 5) < x4) (t := 28) (f := 14) (ls' := [hs_r 12 0, hs_i x1, hs_i x2, hs_i x3, hs_i x4, v5, v6]) (st' := []) (h' := h) (fun n w => w) (fun b1 => ?_) (fun b1 => ?_)
  · rw [if_pos b1] at e
    refine hs_w 4 (pc' := 34) (ls' := [hs_r 12 0, hs_i x1, hs_i x2, hs_i x3, hs_i (nI 0), hs_i (nI 0), v6]) (st' := []) (h' := h) (fun n w => w) ?_
    exact hw_193_34_lp hd hs_big e _ q
  · rw [if_neg b1] at e
    obtain ⟨c22, e⟩ := hs_ck_some e
    refine hs_wa 5 (c := vp_in x4 6) (pc' := 22) (ls' := [hs_r 12 0, hs_i x1, hs_i x2, hs_i x3, hs_i x4, v5, v6]) (st' := []) (h' := hs_put h 51 0 x4.toNatClampNeg (nI 0)) (fun n w => w) (hs_inb_iff.mp c22) ?_
    refine hs_w 2 (pc' := 8) (ls' := [hs_r 12 0, hs_i x1, hs_i x2, hs_i x3, hs_i (x4 + nI 1), v5, v6]) (st' := []) (h' := hs_put h 51 0 x4.toNatClampNeg (nI 0)) (fun n w => w) ?_
    exact hk8 _ _ _ _ _ _ _ _ e q
theorem hw_193_8_lp {S : hs_S} {d : Nat} {Q : hs_Q} (hd : 3 ≤ d)    (n : Nat) {x1 : Int32} {x2 : Int32} {x3 : Int32} {x4 : Int32} {h : hs_H} {r : hs_H} (e : hs_lp (fun k s => hb_193_8 k s.1 s.2.1 s.2.2.1 s.2.2.2.1 s.2.2.2.2) n (x1, x2, x3, x4, h) = some r) (v5 : hs_V) (v6 : hs_V) (q : Q none r) : hs_W S d 0 hs_p193 Q 8 [hs_r 12 0, hs_i x1, hs_i x2, hs_i x3, hs_i x4, v5, v6] [] h := by
  refine hs_lp_ind (P := fun (s : Int32 × Int32 × Int32 × Int32 × hs_H) (r : hs_H) => ∀ (v5 : hs_V) (v6 : hs_V), Q none r → hs_W S d 0 hs_p193 Q 8 [hs_r 12 0, hs_i s.1, hs_i s.2.1, hs_i s.2.2.1, hs_i s.2.2.2.1, v5, v6] [] s.2.2.2.2) (fun k hk s r e v5 v6 q => ?_) n (x1, x2, x3, x4, h) r e v5 v6 q
  exact hw_193_8 hd (fun x1 x2 x3 x4 h r v5 v6 e q => hk (x1, x2, x3, x4, h) r e v5 v6 q) e q
/-- HuntedScentModel.findWays(IIZ)V -/
def hf_193 (a1 : Int32) (a2 : Int32) (a3 : Int32) (h : hs_H) : Option (hs_H) := hs_lp (fun k s => hb_193_8 k s.1 s.2.1 s.2.2.1 s.2.2.2.1 s.2.2.2.2) hs_big (a1, a2, a3, nI 0, hs_put h 12 0 24 (nI 0))
set_option maxHeartbeats 1000000 in
theorem hc_193 {S : hs_S} {D : Nat} {Q : hs_Q} (hD : 4 ≤ D) {a1 : Int32} {a2 : Int32} {a3 : Int32} {h : hs_H} {r : hs_H} (e : hf_193 a1 a2 a3 h = some r) (q : Q none r) : hs_call hs_ms S D 193 [hs_r 12 0, hs_i a1, hs_i a2, hs_i a3] h Q := by
  refine hs_go (R := 3) hD rfl (Nat.le_of_ble_eq_true rfl) (fun d hd => ?_)
  show hs_W S d 0 hs_p193 Q 0 [hs_r 12 0, hs_i a1, hs_i a2, hs_i a3, hs_u, hs_u, hs_u] [] h
  unfold hf_193 at e
  refine hs_w 5 (pc' := 8) (ls' := [hs_r 12 0, hs_i a1, hs_i a2, hs_i a3, hs_i (nI 0), hs_u, hs_u]) (st' := []) (h' := hs_put h 12 0 24 (nI 0)) (fun n w => w) ?_
  exact hw_193_8_lp hd hs_big e _ _ q
/-- HuntedScentModel.isTurns(I)Z -/
def hf_194 (a0 : Int32) (h : hs_H) : Option (Int32 × hs_H) := (hf_150 a0.toInt64 (lN 0) (lN 5) h).bind (fun q1 => hs_ck (hs_b01 q1.1) (some (q1.1, q1.2)))
set_option maxHeartbeats 1000000 in
theorem hc_194 {S : hs_S} {D : Nat} {Q : hs_Q} (hD : 2 ≤ D) {a0 : Int32} {h : hs_H} {r : Int32 × hs_H} (e : hf_194 a0 h = some r) (q : Q (some (hs_i r.1)) r.2) : hs_call hs_ms S D 194 [hs_i a0] h Q := by
  refine hs_go (R := 1) hD rfl (Nat.le_of_ble_eq_true rfl) (fun d hd => ?_)
  show hs_W S d 2 hs_p194 Q 0 [hs_i a0] [] h
  unfold hf_194 at e
  obtain ⟨q1, eq1, e⟩ := hs_bind_some e
  try dsimp only at e
  refine hs_wc 5 (y := 150) (a := [hs_l a0.toInt64, hs_l (lN 0), hs_l (lN 5)]) (v := some (hs_i q1.1)) (pc' := 9) (ls' := [hs_i a0]) (st' := []) (h' := h) (h2 := q1.2) (fun n w => w) (fun q => hc_150 (by omega) eq1 q) ?_
  obtain ⟨c2, e⟩ := hs_ck_some e
  obtain rfl := Option.some.inj e
  exact hs_wra 1 (c := q1.1 = 0 ∨ q1.1 = 1) (v := some (hs_i q1.1)) (h' := q1.2) (fun n w => w) (hs_b01_iff.mp c2) q
/-- HuntedScentModel.ways(I)I -/
def hf_195 (a1 : Int32) (h : hs_H) : Option (Int32 × hs_H) := (hf_194 a1 h).bind (fun q1 => if ¬ q1.1 = 0 then (hs_ck (hs_inb (nI 23) 162) ((hf_193 a1 (q1.2.1 44 0 (nI 23).toNatClampNeg) (nI 0) q1.2).bind (fun q4 => some (q4.1 12 0 24, q4)))) else (some (nI 4294967295, q1.2)))
set_option maxHeartbeats 1000000 in
theorem hc_195 {S : hs_S} {D : Nat} {Q : hs_Q} (hD : 5 ≤ D) {a1 : Int32} {h : hs_H} {r : Int32 × hs_H} (e : hf_195 a1 h = some r) (q : Q (some (hs_i r.1)) r.2) : hs_call hs_ms S D 195 [hs_r 12 0, hs_i a1] h Q := by
  refine hs_go (R := 4) hD rfl (Nat.le_of_ble_eq_true rfl) (fun d hd => ?_)
  show hs_W S d 1 hs_p195 Q 0 [hs_r 12 0, hs_i a1] [] h
  unfold hf_195 at e
  obtain ⟨q1, eq1, e⟩ := hs_bind_some e
  try dsimp only at e
  refine hs_wc 2 (y := 194) (a := [hs_i a1]) (v := some (hs_i q1.1)) (pc' := 4) (ls' := [hs_r 12 0, hs_i a1]) (st' := []) (h' := h) (h2 := q1.2) (fun n w => w) (fun q => hc_194 (by omega) eq1 q) ?_
  refine hs_wb 1 (c := ¬ q1.1 = 0) (t := 9) (f := 7) (ls' := [hs_r 12 0, hs_i a1]) (st' := []) (h' := q1.2) (fun n w => w) (fun b2 => ?_) (fun b2 => ?_)
  · rw [if_pos b2] at e
    obtain ⟨c3, e⟩ := hs_ck_some e
    refine hs_wa 6 (c := vp_in (nI 23) 162) (pc' := 18) (ls' := [hs_r 12 0, hs_i a1]) (st' := [hs_i (q1.2.1 44 0 (nI 23).toNatClampNeg), hs_i a1, hs_r 12 0]) (h' := q1.2) (fun n w => w) (hs_inb_iff.mp c3) ?_
    obtain ⟨q4, eq4, e⟩ := hs_bind_some e
    try dsimp only at e
    refine hs_wc 2 (y := 193) (a := [hs_r 12 0, hs_i a1, hs_i (q1.2.1 44 0 (nI 23).toNatClampNeg), hs_i (nI 0)]) (v := none) (pc' := 22) (ls' := [hs_r 12 0, hs_i a1]) (st' := []) (h' := q1.2) (h2 := q4) (fun n w => w) (fun q => hc_193 (by omega) eq4 q) ?_
    obtain rfl := Option.some.inj e
    exact hs_wr 3 (v := some (hs_i (q4.1 12 0 24))) (h' := q4) (fun n w => w) q
  · rw [if_neg b2] at e
    obtain rfl := Option.some.inj e
    exact hs_wr 2 (v := some (hs_i (nI 4294967295))) (h' := q1.2) (fun n w => w) q
def hb_196_18     (h : hs_H) : Option (Int32 × hs_H) := some (nI 4294967295, h)
set_option maxHeartbeats 1000000 in
theorem hw_196_18 {S : hs_S} {d : Nat} {Q : hs_Q} (hd : 4 ≤ d)      {v1 : hs_V} {v2 : hs_V} {h : hs_H} {r : Int32 × hs_H} (e : hb_196_18 h = some r) (q : Q (some (hs_i r.1)) r.2) : hs_W S d 1 hs_p196 Q 18 [hs_r 12 0, v1, v2] [] h := by
  unfold hb_196_18 at e
  obtain rfl := Option.some.inj e
  exact hs_wr 2 (v := some (hs_i (nI 4294967295))) (h' := h) (fun n w => w) q
/-- HuntedScentModel.can(II)I -/
def hf_196 (a1 : Int32) (a2 : Int32) (h : hs_H) : Option (Int32 × hs_H) := (hf_194 a1 h).bind (fun q1 => if q1.1 = 0 then (hb_196_18 q1.2) else ((hf_150 a2.toInt64 (lN 0) a1.toInt64 q1.2).bind (fun q3 => if ¬ q3.1 = 0 then (hs_ck (hs_inb (nI 23) 162) ((hf_193 a1 (q3.2.1 44 0 (nI 23).toNatClampNeg) (nI 0) q3.2).bind (fun q6 => hs_ck (hs_inb a2 6) (some (q6.1 51 0 a2.toNatClampNeg, q6))))) else (hb_196_18 q3.2))))
set_option maxHeartbeats 1000000 in
theorem hc_196 {S : hs_S} {D : Nat} {Q : hs_Q} (hD : 5 ≤ D) {a1 : Int32} {a2 : Int32} {h : hs_H} {r : Int32 × hs_H} (e : hf_196 a1 a2 h = some r) (q : Q (some (hs_i r.1)) r.2) : hs_call hs_ms S D 196 [hs_r 12 0, hs_i a1, hs_i a2] h Q := by
  refine hs_go (R := 4) hD rfl (Nat.le_of_ble_eq_true rfl) (fun d hd => ?_)
  show hs_W S d 1 hs_p196 Q 0 [hs_r 12 0, hs_i a1, hs_i a2] [] h
  unfold hf_196 at e
  obtain ⟨q1, eq1, e⟩ := hs_bind_some e
  try dsimp only at e
  refine hs_wc 2 (y := 194) (a := [hs_i a1]) (v := some (hs_i q1.1)) (pc' := 4) (ls' := [hs_r 12 0, hs_i a1, hs_i a2]) (st' := []) (h' := h) (h2 := q1.2) (fun n w => w) (fun q => hc_194 (by omega) eq1 q) ?_
  refine hs_wb 1 (c := q1.1 = 0) (t := 18) (f := 7) (ls' := [hs_r 12 0, hs_i a1, hs_i a2]) (st' := []) (h' := q1.2) (fun n w => w) (fun b2 => ?_) (fun b2 => ?_)
  · rw [if_pos b2] at e
    exact hw_196_18 hd e q
  · rw [if_neg b2] at e
    obtain ⟨q3, eq3, e⟩ := hs_bind_some e
    try dsimp only at e
    refine hs_wc 6 (y := 150) (a := [hs_l a2.toInt64, hs_l (lN 0), hs_l a1.toInt64]) (v := some (hs_i q3.1)) (pc' := 15) (ls' := [hs_r 12 0, hs_i a1, hs_i a2]) (st' := []) (h' := q1.2) (h2 := q3.2) (fun n w => w) (fun q => hc_150 (by omega) eq3 q) ?_
    refine hs_wb 1 (c := ¬ q3.1 = 0) (t := 20) (f := 18) (ls' := [hs_r 12 0, hs_i a1, hs_i a2]) (st' := []) (h' := q3.2) (fun n w => w) (fun b4 => ?_) (fun b4 => ?_)
    · rw [if_pos b4] at e
      obtain ⟨c5, e⟩ := hs_ck_some e
      refine hs_wa 6 (c := vp_in (nI 23) 162) (pc' := 29) (ls' := [hs_r 12 0, hs_i a1, hs_i a2]) (st' := [hs_i (q3.2.1 44 0 (nI 23).toNatClampNeg), hs_i a1, hs_r 12 0]) (h' := q3.2) (fun n w => w) (hs_inb_iff.mp c5) ?_
      obtain ⟨q6, eq6, e⟩ := hs_bind_some e
      try dsimp only at e
      refine hs_wc 2 (y := 193) (a := [hs_r 12 0, hs_i a1, hs_i (q3.2.1 44 0 (nI 23).toNatClampNeg), hs_i (nI 0)]) (v := none) (pc' := 33) (ls' := [hs_r 12 0, hs_i a1, hs_i a2]) (st' := []) (h' := q3.2) (h2 := q6) (fun n w => w) (fun q => hc_193 (by omega) eq6 q) ?_
      obtain ⟨c7, e⟩ := hs_ck_some e
      refine hs_wa 4 (c := vp_in a2 6) (pc' := 39) (ls' := [hs_r 12 0, hs_i a1, hs_i a2]) (st' := [hs_i (q6.1 51 0 a2.toNatClampNeg)]) (h' := q6) (fun n w => w) (hs_inb_iff.mp c7) ?_
      obtain rfl := Option.some.inj e
      exact hs_wr 1 (v := some (hs_i (q6.1 51 0 a2.toNatClampNeg))) (h' := q6) (fun n w => w) q
    · rw [if_neg b4] at e
      exact hw_196_18 hd e q
def hb_197_18     (h : hs_H) : Option (Int32 × hs_H) := some (nI 4294967295, h)
set_option maxHeartbeats 1000000 in
theorem hw_197_18 {S : hs_S} {d : Nat} {Q : hs_Q} (hd : 4 ≤ d)      {v1 : hs_V} {v2 : hs_V} {h : hs_H} {r : Int32 × hs_H} (e : hb_197_18 h = some r) (q : Q (some (hs_i r.1)) r.2) : hs_W S d 1 hs_p197 Q 18 [hs_r 12 0, v1, v2] [] h := by
  unfold hb_197_18 at e
  obtain rfl := Option.some.inj e
  exact hs_wr 2 (v := some (hs_i (nI 4294967295))) (h' := h) (fun n w => w) q
def hb_197_68    (s0 : Int32) (h : hs_H) : Option (Int32 × hs_H) := some (s0, h)
set_option maxHeartbeats 1000000 in
theorem hw_197_68 {S : hs_S} {d : Nat} {Q : hs_Q} (hd : 4 ≤ d)     {s0 : Int32} {v1 : hs_V} {v2 : hs_V} {h : hs_H} {r : Int32 × hs_H} (e : hb_197_68 s0 h = some r) (q : Q (some (hs_i r.1)) r.2) : hs_W S d 1 hs_p197 Q 68 [hs_r 12 0, v1, v2] [hs_i s0] h := by
  unfold hb_197_68 at e
  obtain rfl := Option.some.inj e
  exact hs_wr 1 (v := some (hs_i s0)) (h' := h) (fun n w => w) q
def hb_197_66     (h : hs_H) : Option (Int32 × hs_H) := hb_197_68 (nI 4294967292) h
set_option maxHeartbeats 1000000 in
theorem hw_197_66 {S : hs_S} {d : Nat} {Q : hs_Q} (hd : 4 ≤ d)      {v1 : hs_V} {v2 : hs_V} {h : hs_H} {r : Int32 × hs_H} (e : hb_197_66 h = some r) (q : Q (some (hs_i r.1)) r.2) : hs_W S d 1 hs_p197 Q 66 [hs_r 12 0, v1, v2] [] h := by
  unfold hb_197_66 at e
  refine hs_w 1 (pc' := 68) (ls' := [hs_r 12 0, v1, v2]) (st' := [hs_i (nI 4294967292)]) (h' := h) (fun n w => w) ?_
  exact hw_197_68 hd e q
/-- HuntedScentModel.sure(II)I -/
def hf_197 (a1 : Int32) (a2 : Int32) (h : hs_H) : Option (Int32 × hs_H) := (hf_194 a1 h).bind (fun q1 => if q1.1 = 0 then (hb_197_18 q1.2) else ((hf_150 a2.toInt64 (lN 0) a1.toInt64 q1.2).bind (fun q3 => if ¬ q3.1 = 0 then (hs_ck (hs_inb (nI 23) 162) ((hf_193 a1 (q3.2.1 44 0 (nI 23).toNatClampNeg) (nI 0) q3.2).bind (fun q6 => if (q6.1 12 0 24) ≤ 0 then (hb_197_66 q6) else (hs_ck (hs_inb a2 6) (hs_ck (hs_inb a2 6) (if ¬ (q6.1 51 0 a2.toNatClampNeg) = ((nI 1) <<< ((q6.1 52 0 a2.toNatClampNeg) &&& 31)) then (hb_197_66 q6) else (hs_ck (hs_inb a2 6) (hb_197_68 (q6.1 52 0 a2.toNatClampNeg) q6)))))))) else (hb_197_18 q3.2))))
set_option maxHeartbeats 1000000 in
theorem hc_197 {S : hs_S} {D : Nat} {Q : hs_Q} (hD : 5 ≤ D) {a1 : Int32} {a2 : Int32} {h : hs_H} {r : Int32 × hs_H} (e : hf_197 a1 a2 h = some r) (q : Q (some (hs_i r.1)) r.2) : hs_call hs_ms S D 197 [hs_r 12 0, hs_i a1, hs_i a2] h Q := by
  refine hs_go (R := 4) hD rfl (Nat.le_of_ble_eq_true rfl) (fun d hd => ?_)
  show hs_W S d 1 hs_p197 Q 0 [hs_r 12 0, hs_i a1, hs_i a2] [] h
  unfold hf_197 at e
  obtain ⟨q1, eq1, e⟩ := hs_bind_some e
  try dsimp only at e
  refine hs_wc 2 (y := 194) (a := [hs_i a1]) (v := some (hs_i q1.1)) (pc' := 4) (ls' := [hs_r 12 0, hs_i a1, hs_i a2]) (st' := []) (h' := h) (h2 := q1.2) (fun n w => w) (fun q => hc_194 (by omega) eq1 q) ?_
  refine hs_wb 1 (c := q1.1 = 0) (t := 18) (f := 7) (ls' := [hs_r 12 0, hs_i a1, hs_i a2]) (st' := []) (h' := q1.2) (fun n w => w) (fun b2 => ?_) (fun b2 => ?_)
  · rw [if_pos b2] at e
    exact hw_197_18 hd e q
  · rw [if_neg b2] at e
    obtain ⟨q3, eq3, e⟩ := hs_bind_some e
    try dsimp only at e
    refine hs_wc 6 (y := 150) (a := [hs_l a2.toInt64, hs_l (lN 0), hs_l a1.toInt64]) (v := some (hs_i q3.1)) (pc' := 15) (ls' := [hs_r 12 0, hs_i a1, hs_i a2]) (st' := []) (h' := q1.2) (h2 := q3.2) (fun n w => w) (fun q => hc_150 (by omega) eq3 q) ?_
    refine hs_wb 1 (c := ¬ q3.1 = 0) (t := 20) (f := 18) (ls' := [hs_r 12 0, hs_i a1, hs_i a2]) (st' := []) (h' := q3.2) (fun n w => w) (fun b4 => ?_) (fun b4 => ?_)
    · rw [if_pos b4] at e
      obtain ⟨c5, e⟩ := hs_ck_some e
      refine hs_wa 6 (c := vp_in (nI 23) 162) (pc' := 29) (ls' := [hs_r 12 0, hs_i a1, hs_i a2]) (st' := [hs_i (q3.2.1 44 0 (nI 23).toNatClampNeg), hs_i a1, hs_r 12 0]) (h' := q3.2) (fun n w => w) (hs_inb_iff.mp c5) ?_
      obtain ⟨q6, eq6, e⟩ := hs_bind_some e
      try dsimp only at e
      refine hs_wc 2 (y := 193) (a := [hs_r 12 0, hs_i a1, hs_i (q3.2.1 44 0 (nI 23).toNatClampNeg), hs_i (nI 0)]) (v := none) (pc' := 33) (ls' := [hs_r 12 0, hs_i a1, hs_i a2]) (st' := []) (h' := q3.2) (h2 := q6) (fun n w => w) (fun q => hc_193 (by omega) eq6 q) ?_
      refine hs_wb 3 (c := (q6.1 12 0 24) ≤ 0) (t := 66) (f := 40) (ls' := [hs_r 12 0, hs_i a1, hs_i a2]) (st' := []) (h' := q6) (fun n w => w) (fun b7 => ?_) (fun b7 => ?_)
      · rw [if_pos b7] at e
        exact hw_197_66 hd e q
      · rw [if_neg b7] at e
        obtain ⟨c8, e⟩ := hs_ck_some e
        refine hs_wa 4 (c := vp_in a2 6) (pc' := 46) (ls' := [hs_r 12 0, hs_i a1, hs_i a2]) (st' := [hs_i (q6.1 51 0 a2.toNatClampNeg)]) (h' := q6) (fun n w => w) (hs_inb_iff.mp c8) ?_
        obtain ⟨c9, e⟩ := hs_ck_some e
        refine hs_wa 5 (c := vp_in a2 6) (pc' := 53) (ls' := [hs_r 12 0, hs_i a1, hs_i a2]) (st' := [hs_i (q6.1 52 0 a2.toNatClampNeg), hs_i (nI 1), hs_i (q6.1 51 0 a2.toNatClampNeg)]) (h' := q6) (fun n w => w) (hs_inb_iff.mp c9) ?_
        refine hs_wb 2 (c := ¬ (q6.1 51 0 a2.toNatClampNeg) = ((nI 1) <<< ((q6.1 52 0 a2.toNatClampNeg) &&& 31))) (t := 66) (f := 57) (ls' := [hs_r 12 0, hs_i a1, hs_i a2]) (st' := []) (h' := q6) (fun n w => w) (fun b10 => ?_) (fun b10 => ?_)
        · rw [if_pos b10] at e
          exact hw_197_66 hd e q
        · rw [if_neg b10] at e
          obtain ⟨c11, e⟩ := hs_ck_some e
          refine hs_wa 4 (c := vp_in a2 6) (pc' := 63) (ls' := [hs_r 12 0, hs_i a1, hs_i a2]) (st' := [hs_i (q6.1 52 0 a2.toNatClampNeg)]) (h' := q6) (fun n w => w) (hs_inb_iff.mp c11) ?_
          refine hs_w 1 (pc' := 68) (ls' := [hs_r 12 0, hs_i a1, hs_i a2]) (st' := [hs_i (q6.1 52 0 a2.toNatClampNeg)]) (h' := q6) (fun n w => w) ?_
          exact hw_197_68 hd e q
    · rw [if_neg b4] at e
      exact hw_197_18 hd e q
def hb_198_18     (h : hs_H) : Option (Int32 × hs_H) := some (nI 4294967295, h)
set_option maxHeartbeats 1000000 in
theorem hw_198_18 {S : hs_S} {d : Nat} {Q : hs_Q} (hd : 4 ≤ d)      {v1 : hs_V} {v2 : hs_V} {h : hs_H} {r : Int32 × hs_H} (e : hb_198_18 h = some r) (q : Q (some (hs_i r.1)) r.2) : hs_W S d 1 hs_p198 Q 18 [hs_r 12 0, v1, v2] [] h := by
  unfold hb_198_18 at e
  obtain rfl := Option.some.inj e
  exact hs_wr 2 (v := some (hs_i (nI 4294967295))) (h' := h) (fun n w => w) q
def hb_198_51    (s0 : Int32) (h : hs_H) : Option (Int32 × hs_H) := some (s0, h)
set_option maxHeartbeats 1000000 in
theorem hw_198_51 {S : hs_S} {d : Nat} {Q : hs_Q} (hd : 4 ≤ d)     {s0 : Int32} {v1 : hs_V} {v2 : hs_V} {h : hs_H} {r : Int32 × hs_H} (e : hb_198_51 s0 h = some r) (q : Q (some (hs_i r.1)) r.2) : hs_W S d 1 hs_p198 Q 51 [hs_r 12 0, v1, v2] [hs_i s0] h := by
  unfold hb_198_51 at e
  obtain rfl := Option.some.inj e
  exact hs_wr 1 (v := some (hs_i s0)) (h' := h) (fun n w => w) q
/-- HuntedScentModel.way(II)I -/
def hf_198 (a1 : Int32) (a2 : Int32) (h : hs_H) : Option (Int32 × hs_H) := (hf_194 a1 h).bind (fun q1 => if q1.1 = 0 then (hb_198_18 q1.2) else ((hf_150 a2.toInt64 (lN 0) a1.toInt64 q1.2).bind (fun q3 => if ¬ q3.1 = 0 then (hs_ck (hs_inb (nI 23) 162) ((hf_193 a1 (q3.2.1 44 0 (nI 23).toNatClampNeg) (nI 1) q3.2).bind (fun q6 => if (q6.1 12 0 24) ≤ 0 then (hb_198_51 (nI 4294967292) q6) else (hs_ck (hs_inb a2 6) (hb_198_51 (q6.1 52 0 a2.toNatClampNeg) q6))))) else (hb_198_18 q3.2))))
set_option maxHeartbeats 1000000 in
theorem hc_198 {S : hs_S} {D : Nat} {Q : hs_Q} (hD : 5 ≤ D) {a1 : Int32} {a2 : Int32} {h : hs_H} {r : Int32 × hs_H} (e : hf_198 a1 a2 h = some r) (q : Q (some (hs_i r.1)) r.2) : hs_call hs_ms S D 198 [hs_r 12 0, hs_i a1, hs_i a2] h Q := by
  refine hs_go (R := 4) hD rfl (Nat.le_of_ble_eq_true rfl) (fun d hd => ?_)
  show hs_W S d 1 hs_p198 Q 0 [hs_r 12 0, hs_i a1, hs_i a2] [] h
  unfold hf_198 at e
  obtain ⟨q1, eq1, e⟩ := hs_bind_some e
  try dsimp only at e
  refine hs_wc 2 (y := 194) (a := [hs_i a1]) (v := some (hs_i q1.1)) (pc' := 4) (ls' := [hs_r 12 0, hs_i a1, hs_i a2]) (st' := []) (h' := h) (h2 := q1.2) (fun n w => w) (fun q => hc_194 (by omega) eq1 q) ?_
  refine hs_wb 1 (c := q1.1 = 0) (t := 18) (f := 7) (ls' := [hs_r 12 0, hs_i a1, hs_i a2]) (st' := []) (h' := q1.2) (fun n w => w) (fun b2 => ?_) (fun b2 => ?_)
  · rw [if_pos b2] at e
    exact hw_198_18 hd e q
  · rw [if_neg b2] at e
    obtain ⟨q3, eq3, e⟩ := hs_bind_some e
    try dsimp only at e
    refine hs_wc 6 (y := 150) (a := [hs_l a2.toInt64, hs_l (lN 0), hs_l a1.toInt64]) (v := some (hs_i q3.1)) (pc' := 15) (ls' := [hs_r 12 0, hs_i a1, hs_i a2]) (st' := []) (h' := q1.2) (h2 := q3.2) (fun n w => w) (fun q => hc_150 (by omega) eq3 q) ?_
    refine hs_wb 1 (c := ¬ q3.1 = 0) (t := 20) (f := 18) (ls' := [hs_r 12 0, hs_i a1, hs_i a2]) (st' := []) (h' := q3.2) (fun n w => w) (fun b4 => ?_) (fun b4 => ?_)
    · rw [if_pos b4] at e
      obtain ⟨c5, e⟩ := hs_ck_some e
      refine hs_wa 6 (c := vp_in (nI 23) 162) (pc' := 29) (ls' := [hs_r 12 0, hs_i a1, hs_i a2]) (st' := [hs_i (q3.2.1 44 0 (nI 23).toNatClampNeg), hs_i a1, hs_r 12 0]) (h' := q3.2) (fun n w => w) (hs_inb_iff.mp c5) ?_
      obtain ⟨q6, eq6, e⟩ := hs_bind_some e
      try dsimp only at e
      refine hs_wc 2 (y := 193) (a := [hs_r 12 0, hs_i a1, hs_i (q3.2.1 44 0 (nI 23).toNatClampNeg), hs_i (nI 1)]) (v := none) (pc' := 33) (ls' := [hs_r 12 0, hs_i a1, hs_i a2]) (st' := []) (h' := q3.2) (h2 := q6) (fun n w => w) (fun q => hc_193 (by omega) eq6 q) ?_
      refine hs_wb 3 (c := (q6.1 12 0 24) ≤ 0) (t := 49) (f := 40) (ls' := [hs_r 12 0, hs_i a1, hs_i a2]) (st' := []) (h' := q6) (fun n w => w) (fun b7 => ?_) (fun b7 => ?_)
      · rw [if_pos b7] at e
        refine hs_w 1 (pc' := 51) (ls' := [hs_r 12 0, hs_i a1, hs_i a2]) (st' := [hs_i (nI 4294967292)]) (h' := q6) (fun n w => w) ?_
        exact hw_198_51 hd e q
      · rw [if_neg b7] at e
        obtain ⟨c8, e⟩ := hs_ck_some e
        refine hs_wa 4 (c := vp_in a2 6) (pc' := 46) (ls' := [hs_r 12 0, hs_i a1, hs_i a2]) (st' := [hs_i (q6.1 52 0 a2.toNatClampNeg)]) (h' := q6) (fun n w => w) (hs_inb_iff.mp c8) ?_
        refine hs_w 1 (pc' := 51) (ls' := [hs_r 12 0, hs_i a1, hs_i a2]) (st' := [hs_i (q6.1 52 0 a2.toNatClampNeg)]) (h' := q6) (fun n w => w) ?_
        exact hw_198_51 hd e q
    · rw [if_neg b4] at e
      exact hw_198_18 hd e q
def hb_199_2  (k2 : Int32 × hs_H → Option (Int32 × hs_H)) (x1 : Int32)  (h : hs_H) : Option (Int32 × hs_H) := hs_ck (hs_inb (nI 23) 162) (if (h.1 44 0 (nI 23).toNatClampNeg) ≤ x1 then (some (nI 4294967292, h)) else ((hf_193 (nI 5) (x1 + (nI 1)) (nI 1) h).bind (fun q3 => if ¬ (q3.1 12 0 24) = 0 then (k2 (x1 + nI 1, q3)) else (some (x1, q3)))))
set_option maxHeartbeats 1000000 in
theorem hw_199_2 {S : hs_S} {d : Nat} {Q : hs_Q} (hd : 4 ≤ d)  {k2 : Int32 × hs_H → Option (Int32 × hs_H)} (hk2 : ∀ (x1 : Int32) (h : hs_H) (r : Int32 × hs_H) , k2 (x1, h) = some r → Q (some (hs_i r.1)) r.2 → hs_W S d 1 hs_p199 Q 2 [hs_r 12 0, hs_i x1] [] h) {x1 : Int32}   {h : hs_H} {r : Int32 × hs_H} (e : hb_199_2 k2 x1 h = some r) (q : Q (some (hs_i r.1)) r.2) : hs_W S d 1 hs_p199 Q 2 [hs_r 12 0, hs_i x1] [] h := by
  unfold hb_199_2 at e
  obtain ⟨c1, e⟩ := hs_ck_some e
  refine hs_wa 5 (c := vp_in (nI 23) 162) (pc' := 10) (ls' := [hs_r 12 0, hs_i x1]) (st' := [hs_i (h.1 44 0 (nI 23).toNatClampNeg), hs_i x1]) (h' := h) (fun n w => w) (hs_inb_iff.mp c1) ?_
  refine hs_wb 1 (c := (h.1 44 0 (nI 23).toNatClampNeg) ≤ x1) (t := 37) (f := 13) (ls' := [hs_r 12 0, hs_i x1]) (st' := []) (h' := h) (fun n w => w) (fun b2 => ?_) (fun b2 => ?_)
  · rw [if_pos b2] at e
    obtain rfl := Option.some.inj e
    exact hs_wr 2 (v := some (hs_i (nI 4294967292))) (h' := h) (fun n w => w) q
  · rw [if_neg b2] at e
    obtain ⟨q3, eq3, e⟩ := hs_bind_some e
    try dsimp only at e
    refine hs_wc 7 (y := 193) (a := [hs_r 12 0, hs_i (nI 5), hs_i (x1 + (nI 1)), hs_i (nI 1)]) (v := none) (pc' := 22) (ls' := [hs_r 12 0, hs_i x1]) (st' := []) (h' := h) (h2 := q3) (fun n w => w) (fun q => hc_193 (by omega) eq3 q) ?_
    refine hs_wb 3 (c := ¬ (q3.1 12 0 24) = 0) (t := 31) (f := 29) (ls' := [hs_r 12 0, hs_i x1]) (st' := []) (h' := q3) (fun n w => w) (fun b4 => ?_) (fun b4 => ?_)
    · rw [if_pos b4] at e
      refine hs_w 2 (pc' := 2) (ls' := [hs_r 12 0, hs_i (x1 + nI 1)]) (st' := []) (h' := q3) (fun n w => w) ?_
      exact hk2 _ _ _  e q
    · rw [if_neg b4] at e
      obtain rfl := Option.some.inj e
      exact hs_wr 2 (v := some (hs_i x1)) (h' := q3) (fun n w => w) q
theorem hw_199_2_lp {S : hs_S} {d : Nat} {Q : hs_Q} (hd : 4 ≤ d)    (n : Nat) {x1 : Int32} {h : hs_H} {r : Int32 × hs_H} (e : hs_lp (fun k s => hb_199_2 k s.1 s.2) n (x1, h) = some r)  (q : Q (some (hs_i r.1)) r.2) : hs_W S d 1 hs_p199 Q 2 [hs_r 12 0, hs_i x1] [] h := by
  refine hs_lp_ind (P := fun (s : Int32 × hs_H) (r : Int32 × hs_H) => ∀ (_ : True), Q (some (hs_i r.1)) r.2 → hs_W S d 1 hs_p199 Q 2 [hs_r 12 0, hs_i s.1] [] s.2) (fun k hk s r e _ q => ?_) n (x1, h) r e trivial q
  exact hw_199_2 hd (fun x1 h r  e q => hk (x1, h) r e trivial q) e q
/-- HuntedScentModel.cannot()I -/
def hf_199  (h : hs_H) : Option (Int32 × hs_H) := hs_lp (fun k s => hb_199_2 k s.1 s.2) hs_big (nI 0, h)
set_option maxHeartbeats 1000000 in
theorem hc_199 {S : hs_S} {D : Nat} {Q : hs_Q} (hD : 5 ≤ D)  {h : hs_H} {r : Int32 × hs_H} (e : hf_199 h = some r) (q : Q (some (hs_i r.1)) r.2) : hs_call hs_ms S D 199 [hs_r 12 0] h Q := by
  refine hs_go (R := 4) hD rfl (Nat.le_of_ble_eq_true rfl) (fun d hd => ?_)
  show hs_W S d 1 hs_p199 Q 0 [hs_r 12 0, hs_u] [] h
  unfold hf_199 at e
  refine hs_w 2 (pc' := 2) (ls' := [hs_r 12 0, hs_i (nI 0)]) (st' := []) (h' := h) (fun n w => w) ?_
  exact hw_199_2_lp hd hs_big e  q
def hb_200_47  (k5 : Int32 × Int32 × Int64 × Int32 × hs_H → Option (Int64 × hs_H)) (x1 : Int32) (x2 : Int32) (x5 : Int32) (s0 : Int64) (h : hs_H) : Option (Int64 × hs_H) := k5 (x1, x2, s0, x5 + nI 1, h)
set_option maxHeartbeats 1000000 in
theorem hw_200_47 {S : hs_S} {d : Nat} {Q : hs_Q} (hd : 0 ≤ d)  {k5 : Int32 × Int32 × Int64 × Int32 × hs_H → Option (Int64 × hs_H)} (hk5 : ∀ (x1 : Int32) (x2 : Int32) (x3 : Int64) (x5 : Int32) (h : hs_H) (r : Int64 × hs_H) , k5 (x1, x2, x3, x5, h) = some r → Q (some (hs_l r.1)) r.2 → hs_W S d 3 hs_p200 Q 5 [hs_r 12 0, hs_i x1, hs_i x2, hs_l x3, hs_u, hs_i x5] [] h) {x1 : Int32} {x2 : Int32} {x5 : Int32} {s0 : Int64} {v3 : hs_V} {v4 : hs_V} {h : hs_H} {r : Int64 × hs_H} (e : hb_200_47 k5 x1 x2 x5 s0 h = some r) (q : Q (some (hs_l r.1)) r.2) : hs_W S d 3 hs_p200 Q 47 [hs_r 12 0, hs_i x1, hs_i x2, v3, v4, hs_i x5] [hs_l s0] h := by
  unfold hb_200_47 at e
  refine hs_w 3 (pc' := 5) (ls' := [hs_r 12 0, hs_i x1, hs_i x2, hs_l s0, hs_u, hs_i (x5 + nI 1)]) (st' := []) (h' := h) (fun n w => w) ?_
  exact hk5 _ _ _ _ _ _  e q
def hb_200_5  (k5 : Int32 × Int32 × Int64 × Int32 × hs_H → Option (Int64 × hs_H)) (x1 : Int32) (x2 : Int32) (x3 : Int64) (x5 : Int32)  (h : hs_H) : Option (Int64 × hs_H) := if (h.1 12 0 2) ≤ x5 then (some (x3, h)) else (if ¬ ((x2 >>> (x5 &&& 31)) &&& (nI 1)) = (nI 1) then (hb_200_47 k5 x1 x2 x5 x3 h) else (hs_ck (hs_inb (((nI 10) * x1) + x5) 60) (hb_200_47 k5 x1 x2 x5 (((lN 19) * x3) + ((h.1 50 0 (((nI 10) * x1) + x5).toNatClampNeg).toInt64)) h)))
set_option maxHeartbeats 1000000 in
theorem hw_200_5 {S : hs_S} {d : Nat} {Q : hs_Q} (hd : 0 ≤ d)  {k5 : Int32 × Int32 × Int64 × Int32 × hs_H → Option (Int64 × hs_H)} (hk5 : ∀ (x1 : Int32) (x2 : Int32) (x3 : Int64) (x5 : Int32) (h : hs_H) (r : Int64 × hs_H) , k5 (x1, x2, x3, x5, h) = some r → Q (some (hs_l r.1)) r.2 → hs_W S d 3 hs_p200 Q 5 [hs_r 12 0, hs_i x1, hs_i x2, hs_l x3, hs_u, hs_i x5] [] h) {x1 : Int32} {x2 : Int32} {x3 : Int64} {x5 : Int32}   {h : hs_H} {r : Int64 × hs_H} (e : hb_200_5 k5 x1 x2 x3 x5 h = some r) (q : Q (some (hs_l r.1)) r.2) : hs_W S d 3 hs_p200 Q 5 [hs_r 12 0, hs_i x1, hs_i x2, hs_l x3, hs_u, hs_i x5] [] h := by
  unfold hb_200_5 at e
  refine hs_wb 4 (c := (h.1 12 0 2) ≤ x5) (t := 54) (f := 14) (ls' := [hs_r 12 0, hs_i x1, hs_i x2, hs_l x3, hs_u, hs_i x5]) (st' := []) (h' := h) (fun n w => w) (fun b1 => ?_) (fun b1 => ?_)
  · rw [if_pos b1] at e
    obtain rfl := Option.some.inj e
    exact hs_wr 2 (v := some (hs_l x3)) (h' := h) (fun n w => w) q
  · rw [if_neg b1] at e
    refine hs_wb 7 (c := ¬ ((x2 >>> (x5 &&& 31)) &&& (nI 1)) = (nI 1)) (t := 46) (f := 24) (ls' := [hs_r 12 0, hs_i x1, hs_i x2, hs_l x3, hs_u, hs_i x5]) (st' := []) (h' := h) (fun n w => w) (fun b2 => ?_) (fun b2 => ?_)
    · rw [if_pos b2] at e
      refine hs_w 1 (pc' := 47) (ls' := [hs_r 12 0, hs_i x1, hs_i x2, hs_l x3, hs_u, hs_i x5]) (st' := [hs_l x3]) (h' := h) (fun n w => w) ?_
      exact hw_200_47 hd hk5 e q
    · rw [if_neg b2] at e
      obtain ⟨c3, e⟩ := hs_ck_some e
      refine hs_wa 11 (c := vp_in (((nI 10) * x1) + x5) 60) (pc' := 41) (ls' := [hs_r 12 0, hs_i x1, hs_i x2, hs_l x3, hs_u, hs_i x5]) (st' := [hs_i (h.1 50 0 (((nI 10) * x1) + x5).toNatClampNeg), hs_l ((lN 19) * x3)]) (h' := h) (fun n w => w) (hs_inb_iff.mp c3) ?_
      refine hs_w 3 (pc' := 47) (ls' := [hs_r 12 0, hs_i x1, hs_i x2, hs_l x3, hs_u, hs_i x5]) (st' := [hs_l (((lN 19) * x3) + ((h.1 50 0 (((nI 10) * x1) + x5).toNatClampNeg).toInt64))]) (h' := h) (fun n w => w) ?_
      exact hw_200_47 hd hk5 e q
theorem hw_200_5_lp {S : hs_S} {d : Nat} {Q : hs_Q} (hd : 0 ≤ d)    (n : Nat) {x1 : Int32} {x2 : Int32} {x3 : Int64} {x5 : Int32} {h : hs_H} {r : Int64 × hs_H} (e : hs_lp (fun k s => hb_200_5 k s.1 s.2.1 s.2.2.1 s.2.2.2.1 s.2.2.2.2) n (x1, x2, x3, x5, h) = some r)  (q : Q (some (hs_l r.1)) r.2) : hs_W S d 3 hs_p200 Q 5 [hs_r 12 0, hs_i x1, hs_i x2, hs_l x3, hs_u, hs_i x5] [] h := by
  refine hs_lp_ind (P := fun (s : Int32 × Int32 × Int64 × Int32 × hs_H) (r : Int64 × hs_H) => ∀ (_ : True), Q (some (hs_l r.1)) r.2 → hs_W S d 3 hs_p200 Q 5 [hs_r 12 0, hs_i s.1, hs_i s.2.1, hs_l s.2.2.1, hs_u, hs_i s.2.2.2.1] [] s.2.2.2.2) (fun k hk s r e _ q => ?_) n (x1, x2, x3, x5, h) r e trivial q
  exact hw_200_5 hd (fun x1 x2 x3 x5 h r  e q => hk (x1, x2, x3, x5, h) r e trivial q) e q
/-- HuntedScentModel.smeltAt(II)J -/
def hf_200 (a1 : Int32) (a2 : Int32) (h : hs_H) : Option (Int64 × hs_H) := hs_lp (fun k s => hb_200_5 k s.1 s.2.1 s.2.2.1 s.2.2.2.1 s.2.2.2.2) hs_big (a1, a2, lN 0, nI 0, h)
set_option maxHeartbeats 1000000 in
theorem hc_200 {S : hs_S} {D : Nat} {Q : hs_Q} (hD : 1 ≤ D) {a1 : Int32} {a2 : Int32} {h : hs_H} {r : Int64 × hs_H} (e : hf_200 a1 a2 h = some r) (q : Q (some (hs_l r.1)) r.2) : hs_call hs_ms S D 200 [hs_r 12 0, hs_i a1, hs_i a2] h Q := by
  refine hs_go (R := 0) hD rfl (Nat.le_of_ble_eq_true rfl) (fun d hd => ?_)
  show hs_W S d 3 hs_p200 Q 0 [hs_r 12 0, hs_i a1, hs_i a2, hs_u, hs_u, hs_u] [] h
  unfold hf_200 at e
  refine hs_w 4 (pc' := 5) (ls' := [hs_r 12 0, hs_i a1, hs_i a2, hs_l (lN 0), hs_u, hs_i (nI 0)]) (st' := []) (h' := h) (fun n w => w) ?_
  exact hw_200_5_lp hd hs_big e  q
def hb_201_101   (x1 : Int64) (x3 : Int64) (x5 : Int64) (x9 : Int32)  (h : hs_H) : Option (Int32 × hs_H) := hs_ck (hs_inb ((nI 3) * x9) 6144) (hs_ck (hs_inb (((nI 3) * x9) + (nI 1)) 6144) (hs_ck (hs_inb (((nI 3) * x9) + (nI 2)) 6144) (some (x9, hs_putL (hs_putL (hs_putL h 53 0 ((nI 3) * x9).toNatClampNeg x1) 53 0 (((nI 3) * x9) + (nI 1)).toNatClampNeg x3) 53 0 (((nI 3) * x9) + (nI 2)).toNatClampNeg x5))))
set_option maxHeartbeats 1000000 in
theorem hw_201_101 {S : hs_S} {d : Nat} {Q : hs_Q} (hd : 0 ≤ d)    {x1 : Int64} {x3 : Int64} {x5 : Int64} {x9 : Int32}  {v7 : hs_V} {v8 : hs_V} {h : hs_H} {r : Int32 × hs_H} (e : hb_201_101 x1 x3 x5 x9 h = some r) (q : Q (some (hs_i r.1)) r.2) : hs_W S d 1 hs_p201 Q 101 [hs_r 12 0, hs_l x1, hs_u, hs_l x3, hs_u, hs_l x5, hs_u, v7, v8, hs_i x9] [] h := by
  unfold hb_201_101 at e
  obtain ⟨c3, e⟩ := hs_ck_some e
  refine hs_wa 7 (c := vp_in ((nI 3) * x9) 6144) (pc' := 111) (ls' := [hs_r 12 0, hs_l x1, hs_u, hs_l x3, hs_u, hs_l x5, hs_u, v7, v8, hs_i x9]) (st' := []) (h' := hs_putL h 53 0 ((nI 3) * x9).toNatClampNeg x1) (fun n w => w) (hs_inb_iff.mp c3) ?_
  obtain ⟨c4, e⟩ := hs_ck_some e
  refine hs_wa 9 (c := vp_in (((nI 3) * x9) + (nI 1)) 6144) (pc' := 123) (ls' := [hs_r 12 0, hs_l x1, hs_u, hs_l x3, hs_u, hs_l x5, hs_u, v7, v8, hs_i x9]) (st' := []) (h' := hs_putL (hs_putL h 53 0 ((nI 3) * x9).toNatClampNeg x1) 53 0 (((nI 3) * x9) + (nI 1)).toNatClampNeg x3) (fun n w => w) (hs_inb_iff.mp c4) ?_
  obtain ⟨c5, e⟩ := hs_ck_some e
  refine hs_wa 9 (c := vp_in (((nI 3) * x9) + (nI 2)) 6144) (pc' := 136) (ls' := [hs_r 12 0, hs_l x1, hs_u, hs_l x3, hs_u, hs_l x5, hs_u, v7, v8, hs_i x9]) (st' := []) (h' := hs_putL (hs_putL (hs_putL h 53 0 ((nI 3) * x9).toNatClampNeg x1) 53 0 (((nI 3) * x9) + (nI 1)).toNatClampNeg x3) 53 0 (((nI 3) * x9) + (nI 2)).toNatClampNeg x5) (fun n w => w) (hs_inb_iff.mp c5) ?_
  obtain rfl := Option.some.inj e
  exact hs_wr 2 (v := some (hs_i x9)) (h' := hs_putL (hs_putL (hs_putL h 53 0 ((nI 3) * x9).toNatClampNeg x1) 53 0 (((nI 3) * x9) + (nI 1)).toNatClampNeg x3) 53 0 (((nI 3) * x9) + (nI 2)).toNatClampNeg x5) (fun n w => w) q
def hb_201_88  (k31 : Int64 × Int64 × Int64 × Int32 × hs_H → Option (Int32 × hs_H)) (x1 : Int64) (x3 : Int64) (x5 : Int64) (x9 : Int32)  (h : hs_H) : Option (Int32 × hs_H) := k31 (x1, x3, x5, (x9 + (nI 1)) &&& (nI 2047), h)
set_option maxHeartbeats 1000000 in
theorem hw_201_88 {S : hs_S} {d : Nat} {Q : hs_Q} (hd : 0 ≤ d)  {k31 : Int64 × Int64 × Int64 × Int32 × hs_H → Option (Int32 × hs_H)} (hk31 : ∀ (x1 : Int64) (x3 : Int64) (x5 : Int64) (x9 : Int32) (h : hs_H) (r : Int32 × hs_H) (v7 : hs_V) (v8 : hs_V), k31 (x1, x3, x5, x9, h) = some r → Q (some (hs_i r.1)) r.2 → hs_W S d 1 hs_p201 Q 31 [hs_r 12 0, hs_l x1, hs_u, hs_l x3, hs_u, hs_l x5, hs_u, v7, v8, hs_i x9] [] h) {x1 : Int64} {x3 : Int64} {x5 : Int64} {x9 : Int32}  {v7 : hs_V} {v8 : hs_V} {h : hs_H} {r : Int32 × hs_H} (e : hb_201_88 k31 x1 x3 x5 x9 h = some r) (q : Q (some (hs_i r.1)) r.2) : hs_W S d 1 hs_p201 Q 88 [hs_r 12 0, hs_l x1, hs_u, hs_l x3, hs_u, hs_l x5, hs_u, v7, v8, hs_i x9] [] h := by
  unfold hb_201_88 at e
  refine hs_w 7 (pc' := 31) (ls' := [hs_r 12 0, hs_l x1, hs_u, hs_l x3, hs_u, hs_l x5, hs_u, v7, v8, hs_i ((x9 + (nI 1)) &&& (nI 2047))]) (st' := []) (h' := h) (fun n w => w) ?_
  exact hk31 _ _ _ _ _ _ _ _ e q
def hb_201_31  (k31 : Int64 × Int64 × Int64 × Int32 × hs_H → Option (Int32 × hs_H)) (x1 : Int64) (x3 : Int64) (x5 : Int64) (x9 : Int32)  (h : hs_H) : Option (Int32 × hs_H) := hs_ck (hs_inb x9 2048) (if (h.1 54 0 x9.toNatClampNeg) = 0 then (hb_201_101 x1 x3 x5 x9 h) else (hs_ck (hs_inb ((nI 3) * x9) 6144) (if ¬ (lg_cmp (h.2 53 0 ((nI 3) * x9).toNatClampNeg) x1) = 0 then (hb_201_88 k31 x1 x3 x5 x9 h) else (hs_ck (hs_inb (((nI 3) * x9) + (nI 1)) 6144) (if ¬ (lg_cmp (h.2 53 0 (((nI 3) * x9) + (nI 1)).toNatClampNeg) x3) = 0 then (hb_201_88 k31 x1 x3 x5 x9 h) else (hs_ck (hs_inb (((nI 3) * x9) + (nI 2)) 6144) (if (lg_cmp (h.2 53 0 (((nI 3) * x9) + (nI 2)).toNatClampNeg) x5) = 0 then (hb_201_101 x1 x3 x5 x9 h) else (hb_201_88 k31 x1 x3 x5 x9 h))))))))
set_option maxHeartbeats 1000000 in
theorem hw_201_31 {S : hs_S} {d : Nat} {Q : hs_Q} (hd : 0 ≤ d)  {k31 : Int64 × Int64 × Int64 × Int32 × hs_H → Option (Int32 × hs_H)} (hk31 : ∀ (x1 : Int64) (x3 : Int64) (x5 : Int64) (x9 : Int32) (h : hs_H) (r : Int32 × hs_H) (v7 : hs_V) (v8 : hs_V), k31 (x1, x3, x5, x9, h) = some r → Q (some (hs_i r.1)) r.2 → hs_W S d 1 hs_p201 Q 31 [hs_r 12 0, hs_l x1, hs_u, hs_l x3, hs_u, hs_l x5, hs_u, v7, v8, hs_i x9] [] h) {x1 : Int64} {x3 : Int64} {x5 : Int64} {x9 : Int32}  {v7 : hs_V} {v8 : hs_V} {h : hs_H} {r : Int32 × hs_H} (e : hb_201_31 k31 x1 x3 x5 x9 h = some r) (q : Q (some (hs_i r.1)) r.2) : hs_W S d 1 hs_p201 Q 31 [hs_r 12 0, hs_l x1, hs_u, hs_l x3, hs_u, hs_l x5, hs_u, v7, v8, hs_i x9] [] h := by
  unfold hb_201_31 at e
  obtain ⟨c1, e⟩ := hs_ck_some e
  refine hs_wa 4 (c := vp_in x9 2048) (pc' := 38) (ls' := [hs_r 12 0, hs_l x1, hs_u, hs_l x3, hs_u, hs_l x5, hs_u, v7, v8, hs_i x9]) (st' := [hs_i (h.1 54 0 x9.toNatClampNeg)]) (h' := h) (fun n w => w) (hs_inb_iff.mp c1) ?_
  refine hs_wb 1 (c := (h.1 54 0 x9.toNatClampNeg) = 0) (t := 101) (f := 41) (ls' := [hs_r 12 0, hs_l x1, hs_u, hs_l x3, hs_u, hs_l x5, hs_u, v7, v8, hs_i x9]) (st' := []) (h' := h) (fun n w => w) (fun b2 => ?_) (fun b2 => ?_)
  · rw [if_pos b2] at e
    exact hw_201_101 hd e q
  · rw [if_neg b2] at e
    obtain ⟨c6, e⟩ := hs_ck_some e
    refine hs_wa 6 (c := vp_in ((nI 3) * x9) 6144) (pc' := 50) (ls' := [hs_r 12 0, hs_l x1, hs_u, hs_l x3, hs_u, hs_l x5, hs_u, v7, v8, hs_i x9]) (st' := [hs_l (h.2 53 0 ((nI 3) * x9).toNatClampNeg)]) (h' := h) (fun n w => w) (hs_inb_iff.mp c6) ?_
    refine hs_wb 3 (c := ¬ (lg_cmp (h.2 53 0 ((nI 3) * x9).toNatClampNeg) x1) = 0) (t := 88) (f := 55) (ls' := [hs_r 12 0, hs_l x1, hs_u, hs_l x3, hs_u, hs_l x5, hs_u, v7, v8, hs_i x9]) (st' := []) (h' := h) (fun n w => w) (fun b7 => ?_) (fun b7 => ?_)
    · rw [if_pos b7] at e
      exact hw_201_88 hd hk31 e q
    · rw [if_neg b7] at e
      obtain ⟨c8, e⟩ := hs_ck_some e
      refine hs_wa 8 (c := vp_in (((nI 3) * x9) + (nI 1)) 6144) (pc' := 66) (ls' := [hs_r 12 0, hs_l x1, hs_u, hs_l x3, hs_u, hs_l x5, hs_u, v7, v8, hs_i x9]) (st' := [hs_l (h.2 53 0 (((nI 3) * x9) + (nI 1)).toNatClampNeg)]) (h' := h) (fun n w => w) (hs_inb_iff.mp c8) ?_
      refine hs_wb 3 (c := ¬ (lg_cmp (h.2 53 0 (((nI 3) * x9) + (nI 1)).toNatClampNeg) x3) = 0) (t := 88) (f := 71) (ls' := [hs_r 12 0, hs_l x1, hs_u, hs_l x3, hs_u, hs_l x5, hs_u, v7, v8, hs_i x9]) (st' := []) (h' := h) (fun n w => w) (fun b9 => ?_) (fun b9 => ?_)
      · rw [if_pos b9] at e
        exact hw_201_88 hd hk31 e q
      · rw [if_neg b9] at e
        obtain ⟨c10, e⟩ := hs_ck_some e
        refine hs_wa 8 (c := vp_in (((nI 3) * x9) + (nI 2)) 6144) (pc' := 82) (ls' := [hs_r 12 0, hs_l x1, hs_u, hs_l x3, hs_u, hs_l x5, hs_u, v7, v8, hs_i x9]) (st' := [hs_l (h.2 53 0 (((nI 3) * x9) + (nI 2)).toNatClampNeg)]) (h' := h) (fun n w => w) (hs_inb_iff.mp c10) ?_
        refine hs_wb 3 (c := (lg_cmp (h.2 53 0 (((nI 3) * x9) + (nI 2)).toNatClampNeg) x5) = 0) (t := 101) (f := 88) (ls' := [hs_r 12 0, hs_l x1, hs_u, hs_l x3, hs_u, hs_l x5, hs_u, v7, v8, hs_i x9]) (st' := []) (h' := h) (fun n w => w) (fun b11 => ?_) (fun b11 => ?_)
        · rw [if_pos b11] at e
          exact hw_201_101 hd e q
        · rw [if_neg b11] at e
          exact hw_201_88 hd hk31 e q
theorem hw_201_31_lp {S : hs_S} {d : Nat} {Q : hs_Q} (hd : 0 ≤ d)    (n : Nat) {x1 : Int64} {x3 : Int64} {x5 : Int64} {x9 : Int32} {h : hs_H} {r : Int32 × hs_H} (e : hs_lp (fun k s => hb_201_31 k s.1 s.2.1 s.2.2.1 s.2.2.2.1 s.2.2.2.2) n (x1, x3, x5, x9, h) = some r) (v7 : hs_V) (v8 : hs_V) (q : Q (some (hs_i r.1)) r.2) : hs_W S d 1 hs_p201 Q 31 [hs_r 12 0, hs_l x1, hs_u, hs_l x3, hs_u, hs_l x5, hs_u, v7, v8, hs_i x9] [] h := by
  refine hs_lp_ind (P := fun (s : Int64 × Int64 × Int64 × Int32 × hs_H) (r : Int32 × hs_H) => ∀ (v7 : hs_V) (v8 : hs_V), Q (some (hs_i r.1)) r.2 → hs_W S d 1 hs_p201 Q 31 [hs_r 12 0, hs_l s.1, hs_u, hs_l s.2.1, hs_u, hs_l s.2.2.1, hs_u, v7, v8, hs_i s.2.2.2.1] [] s.2.2.2.2) (fun k hk s r e v7 v8 q => ?_) n (x1, x3, x5, x9, h) r e v7 v8 q
  exact hw_201_31 hd (fun x1 x3 x5 x9 h r v7 v8 e q => hk (x1, x3, x5, x9, h) r e v7 v8 q) e q
/-- HuntedScentModel.slotOf(JJJ)I -/
def hf_201 (a1 : Int64) (a3 : Int64) (a5 : Int64) (h : hs_H) : Option (Int32 × hs_H) := hs_lp (fun k s => hb_201_31 k s.1 s.2.1 s.2.2.1 s.2.2.2.1 s.2.2.2.2) hs_big (a1, a3, a5, (((((a1 * (lN 1000003)) + (a3 * (lN 10007))) + a5) ^^^ ((((a1 * (lN 1000003)) + (a3 * (lN 10007))) + a5) >>> ((nI 17).toInt64 &&& 63))) &&& (lN 2047)).toInt32, h)
set_option maxHeartbeats 1000000 in
theorem hc_201 {S : hs_S} {D : Nat} {Q : hs_Q} (hD : 1 ≤ D) {a1 : Int64} {a3 : Int64} {a5 : Int64} {h : hs_H} {r : Int32 × hs_H} (e : hf_201 a1 a3 a5 h = some r) (q : Q (some (hs_i r.1)) r.2) : hs_call hs_ms S D 201 [hs_r 12 0, hs_l a1, hs_l a3, hs_l a5] h Q := by
  refine hs_go (R := 0) hD rfl (Nat.le_of_ble_eq_true rfl) (fun d hd => ?_)
  show hs_W S d 1 hs_p201 Q 0 [hs_r 12 0, hs_l a1, hs_u, hs_l a3, hs_u, hs_l a5, hs_u, hs_u, hs_u, hs_u] [] h
  unfold hf_201 at e
  refine hs_w 19 (pc' := 31) (ls' := [hs_r 12 0, hs_l a1, hs_u, hs_l a3, hs_u, hs_l a5, hs_u, hs_l (((a1 * (lN 1000003)) + (a3 * (lN 10007))) + a5), hs_u, hs_i ((((((a1 * (lN 1000003)) + (a3 * (lN 10007))) + a5) ^^^ ((((a1 * (lN 1000003)) + (a3 * (lN 10007))) + a5) >>> ((nI 17).toInt64 &&& 63))) &&& (lN 2047)).toInt32)]) (st' := []) (h' := h) (fun n w => w) ?_
  exact hw_201_31_lp hd hs_big e _ _ q
def hb_202_79  (k79 : Int32 × Int32 × hs_H → Option (hs_H)) (x1 : Int32) (x4 : Int32)  (h : hs_H) : Option (hs_H) := if x1 < x4 then (some (hs_put h 12 0 31 ((h.1 12 0 31) + (nI 1)))) else (hs_ck (hs_inb x4 6) (hs_ck (hs_inb (((nI 4) * (h.1 12 0 31)) + x4) 4000) (k79 (x1, x4 + nI 1, hs_put h 56 0 (((nI 4) * (h.1 12 0 31)) + x4).toNatClampNeg (h.1 49 0 x4.toNatClampNeg)))))
set_option maxHeartbeats 1000000 in
theorem hw_202_79 {S : hs_S} {d : Nat} {Q : hs_Q} (hd : 1 ≤ d)  {k79 : Int32 × Int32 × hs_H → Option (hs_H)} (hk79 : ∀ (x1 : Int32) (x4 : Int32) (h : hs_H) (r : hs_H) (v2 : hs_V) (v3 : hs_V), k79 (x1, x4, h) = some r → Q none r → hs_W S d 0 hs_p202 Q 79 [hs_r 12 0, hs_i x1, v2, v3, hs_i x4] [] h) {x1 : Int32} {x4 : Int32}  {v2 : hs_V} {v3 : hs_V} {h : hs_H} {r : hs_H} (e : hb_202_79 k79 x1 x4 h = some r) (q : Q none r) : hs_W S d 0 hs_p202 Q 79 [hs_r 12 0, hs_i x1, v2, v3, hs_i x4] [] h := by
  unfold hb_202_79 at e
  refine hs_wb 3 (c := x1 < x4) (t := 112) (f := 85) (ls' := [hs_r 12 0, hs_i x1, v2, v3, hs_i x4]) (st' := []) (h' := h) (fun n w => w) (fun b9 => ?_) (fun b9 => ?_)
  · rw [if_pos b9] at e
    obtain rfl := Option.some.inj e
    exact hs_wr 7 (v := none) (h' := hs_put h 12 0 31 ((h.1 12 0 31) + (nI 1))) (fun n w => w) q
  · rw [if_neg b9] at e
    obtain ⟨c10, e⟩ := hs_ck_some e
    refine hs_wa 12 (c := vp_in x4 6) (pc' := 105) (ls' := [hs_r 12 0, hs_i x1, v2, v3, hs_i x4]) (st' := [hs_i (h.1 49 0 x4.toNatClampNeg), hs_i (((nI 4) * (h.1 12 0 31)) + x4), hs_r 56 0]) (h' := h) (fun n w => w) (hs_inb_iff.mp c10) ?_
    obtain ⟨c11, e⟩ := hs_ck_some e
    refine hs_wa 1 (c := vp_in (((nI 4) * (h.1 12 0 31)) + x4) 4000) (pc' := 106) (ls' := [hs_r 12 0, hs_i x1, v2, v3, hs_i x4]) (st' := []) (h' := hs_put h 56 0 (((nI 4) * (h.1 12 0 31)) + x4).toNatClampNeg (h.1 49 0 x4.toNatClampNeg)) (fun n w => w) (hs_inb_iff.mp c11) ?_
    refine hs_w 2 (pc' := 79) (ls' := [hs_r 12 0, hs_i x1, v2, v3, hs_i (x4 + nI 1)]) (st' := []) (h' := hs_put h 56 0 (((nI 4) * (h.1 12 0 31)) + x4).toNatClampNeg (h.1 49 0 x4.toNatClampNeg)) (fun n w => w) ?_
    exact hk79 _ _ _ _ _ _ e q
theorem hw_202_79_lp {S : hs_S} {d : Nat} {Q : hs_Q} (hd : 1 ≤ d)    (n : Nat) {x1 : Int32} {x4 : Int32} {h : hs_H} {r : hs_H} (e : hs_lp (fun k s => hb_202_79 k s.1 s.2.1 s.2.2) n (x1, x4, h) = some r) (v2 : hs_V) (v3 : hs_V) (q : Q none r) : hs_W S d 0 hs_p202 Q 79 [hs_r 12 0, hs_i x1, v2, v3, hs_i x4] [] h := by
  refine hs_lp_ind (P := fun (s : Int32 × Int32 × hs_H) (r : hs_H) => ∀ (v2 : hs_V) (v3 : hs_V), Q none r → hs_W S d 0 hs_p202 Q 79 [hs_r 12 0, hs_i s.1, v2, v3, hs_i s.2.1] [] s.2.2) (fun k hk s r e v2 v3 q => ?_) n (x1, x4, h) r e v2 v3 q
  exact hw_202_79 hd (fun x1 x4 h r v2 v3 e q => hk (x1, x4, h) r e v2 v3 q) e q
def hb_202_45   (x1 : Int32) (s0 : Int64) (s1 : Int64) (s2 : Int64) (h : hs_H) : Option (hs_H) := (hf_201 s2 s1 s0 h).bind (fun q4 => hs_ck (hs_inb q4.1 2048) (hs_ck (hs_inb x1 6) (hs_ck (hs_inb q4.1 2048) (hs_ck (hs_inb ((hs_put q4.2 54 0 q4.1.toNatClampNeg ((q4.2.1 54 0 q4.1.toNatClampNeg) ||| ((nI 1) <<< ((q4.2.1 49 0 x1.toNatClampNeg) &&& 31)))).1 12 0 31) 1000) (hs_lp (fun k s => hb_202_79 k s.1 s.2.1 s.2.2) hs_big (x1, nI 0, hs_put (hs_put q4.2 54 0 q4.1.toNatClampNeg ((q4.2.1 54 0 q4.1.toNatClampNeg) ||| ((nI 1) <<< ((q4.2.1 49 0 x1.toNatClampNeg) &&& 31)))) 55 0 ((hs_put q4.2 54 0 q4.1.toNatClampNeg ((q4.2.1 54 0 q4.1.toNatClampNeg) ||| ((nI 1) <<< ((q4.2.1 49 0 x1.toNatClampNeg) &&& 31)))).1 12 0 31).toNatClampNeg q4.1))))))
set_option maxHeartbeats 1000000 in
theorem hw_202_45 {S : hs_S} {d : Nat} {Q : hs_Q} (hd : 1 ≤ d)    {x1 : Int32} {s0 : Int64} {s1 : Int64} {s2 : Int64} {v2 : hs_V} {v3 : hs_V} {v4 : hs_V} {h : hs_H} {r : hs_H} (e : hb_202_45 x1 s0 s1 s2 h = some r) (q : Q none r) : hs_W S d 0 hs_p202 Q 45 [hs_r 12 0, hs_i x1, v2, v3, v4] [hs_l s0, hs_l s1, hs_l s2, hs_r 12 0] h := by
  unfold hb_202_45 at e
  obtain ⟨q4, eq4, e⟩ := hs_bind_some e
  try dsimp only at e
  refine hs_wc 1 (y := 201) (a := [hs_r 12 0, hs_l s2, hs_l s1, hs_l s0]) (v := some (hs_i q4.1)) (pc' := 48) (ls' := [hs_r 12 0, hs_i x1, v2, v3, v4]) (st' := []) (h' := h) (h2 := q4.2) (fun n w => w) (fun q => hc_201 (by omega) eq4 q) ?_
  obtain ⟨c5, e⟩ := hs_ck_some e
  refine hs_wa 6 (c := vp_in q4.1 2048) (pc' := 56) (ls' := [hs_r 12 0, hs_i x1, v2, hs_i q4.1, v4]) (st' := [hs_i (q4.2.1 54 0 q4.1.toNatClampNeg), hs_i q4.1, hs_r 54 0]) (h' := q4.2) (fun n w => w) (hs_inb_iff.mp c5) ?_
  obtain ⟨c6, e⟩ := hs_ck_some e
  refine hs_wa 5 (c := vp_in x1 6) (pc' := 63) (ls' := [hs_r 12 0, hs_i x1, v2, hs_i q4.1, v4]) (st' := [hs_i (q4.2.1 49 0 x1.toNatClampNeg), hs_i (nI 1), hs_i (q4.2.1 54 0 q4.1.toNatClampNeg), hs_i q4.1, hs_r 54 0]) (h' := q4.2) (fun n w => w) (hs_inb_iff.mp c6) ?_
  obtain ⟨c7, e⟩ := hs_ck_some e
  refine hs_wa 3 (c := vp_in q4.1 2048) (pc' := 66) (ls' := [hs_r 12 0, hs_i x1, v2, hs_i q4.1, v4]) (st' := []) (h' := hs_put q4.2 54 0 q4.1.toNatClampNeg ((q4.2.1 54 0 q4.1.toNatClampNeg) ||| ((nI 1) <<< ((q4.2.1 49 0 x1.toNatClampNeg) &&& 31)))) (fun n w => w) (hs_inb_iff.mp c7) ?_
  obtain ⟨c8, e⟩ := hs_ck_some e
  refine hs_wa 6 (c := vp_in ((hs_put q4.2 54 0 q4.1.toNatClampNeg ((q4.2.1 54 0 q4.1.toNatClampNeg) ||| ((nI 1) <<< ((q4.2.1 49 0 x1.toNatClampNeg) &&& 31)))).1 12 0 31) 1000) (pc' := 76) (ls' := [hs_r 12 0, hs_i x1, v2, hs_i q4.1, v4]) (st' := []) (h' := hs_put (hs_put q4.2 54 0 q4.1.toNatClampNeg ((q4.2.1 54 0 q4.1.toNatClampNeg) ||| ((nI 1) <<< ((q4.2.1 49 0 x1.toNatClampNeg) &&& 31)))) 55 0 ((hs_put q4.2 54 0 q4.1.toNatClampNeg ((q4.2.1 54 0 q4.1.toNatClampNeg) ||| ((nI 1) <<< ((q4.2.1 49 0 x1.toNatClampNeg) &&& 31)))).1 12 0 31).toNatClampNeg q4.1) (fun n w => w) (hs_inb_iff.mp c8) ?_
  refine hs_w 2 (pc' := 79) (ls' := [hs_r 12 0, hs_i x1, v2, hs_i q4.1, hs_i (nI 0)]) (st' := []) (h' := hs_put (hs_put q4.2 54 0 q4.1.toNatClampNeg ((q4.2.1 54 0 q4.1.toNatClampNeg) ||| ((nI 1) <<< ((q4.2.1 49 0 x1.toNatClampNeg) &&& 31)))) 55 0 ((hs_put q4.2 54 0 q4.1.toNatClampNeg ((q4.2.1 54 0 q4.1.toNatClampNeg) ||| ((nI 1) <<< ((q4.2.1 49 0 x1.toNatClampNeg) &&& 31)))).1 12 0 31).toNatClampNeg q4.1) (fun n w => w) ?_
  exact hw_202_79_lp hd hs_big e _ _ q
def hb_202_30   (x1 : Int32) (x2 : Int32) (s0 : Int64) (s1 : Int64) (h : hs_H) : Option (hs_H) := if x1 ≤ (nI 2) then (hb_202_45 x1 (lN 0) s0 s1 h) else ((hf_200 (nI 3) x2 h).bind (fun q12 => hb_202_45 x1 q12.1 s0 s1 q12.2))
set_option maxHeartbeats 1000000 in
theorem hw_202_30 {S : hs_S} {d : Nat} {Q : hs_Q} (hd : 1 ≤ d)    {x1 : Int32} {x2 : Int32} {s0 : Int64} {s1 : Int64} {v3 : hs_V} {v4 : hs_V} {h : hs_H} {r : hs_H} (e : hb_202_30 x1 x2 s0 s1 h = some r) (q : Q none r) : hs_W S d 0 hs_p202 Q 30 [hs_r 12 0, hs_i x1, hs_i x2, v3, v4] [hs_l s0, hs_l s1, hs_r 12 0] h := by
  unfold hb_202_30 at e
  refine hs_wb 3 (c := x1 ≤ (nI 2)) (t := 44) (f := 35) (ls' := [hs_r 12 0, hs_i x1, hs_i x2, v3, v4]) (st' := [hs_l s0, hs_l s1, hs_r 12 0]) (h' := h) (fun n w => w) (fun b3 => ?_) (fun b3 => ?_)
  · rw [if_pos b3] at e
    refine hs_w 1 (pc' := 45) (ls' := [hs_r 12 0, hs_i x1, hs_i x2, v3, v4]) (st' := [hs_l (lN 0), hs_l s0, hs_l s1, hs_r 12 0]) (h' := h) (fun n w => w) ?_
    exact hw_202_45 hd e q
  · rw [if_neg b3] at e
    obtain ⟨q12, eq12, e⟩ := hs_bind_some e
    try dsimp only at e
    refine hs_wc 4 (y := 200) (a := [hs_r 12 0, hs_i (nI 3), hs_i x2]) (v := some (hs_l q12.1)) (pc' := 41) (ls' := [hs_r 12 0, hs_i x1, hs_i x2, v3, v4]) (st' := [hs_l s0, hs_l s1, hs_r 12 0]) (h' := h) (h2 := q12.2) (fun n w => w) (fun q => hc_200 (by omega) eq12 q) ?_
    refine hs_w 1 (pc' := 45) (ls' := [hs_r 12 0, hs_i x1, hs_i x2, v3, v4]) (st' := [hs_l q12.1, hs_l s0, hs_l s1, hs_r 12 0]) (h' := q12.2) (fun n w => w) ?_
    exact hw_202_45 hd e q
def hb_202_15   (x1 : Int32) (x2 : Int32) (s0 : Int64) (h : hs_H) : Option (hs_H) := if x1 ≤ (nI 1) then (hb_202_30 x1 x2 (lN 0) s0 h) else ((hf_200 (nI 2) x2 h).bind (fun q13 => hb_202_30 x1 x2 q13.1 s0 q13.2))
set_option maxHeartbeats 1000000 in
theorem hw_202_15 {S : hs_S} {d : Nat} {Q : hs_Q} (hd : 1 ≤ d)    {x1 : Int32} {x2 : Int32} {s0 : Int64} {v3 : hs_V} {v4 : hs_V} {h : hs_H} {r : hs_H} (e : hb_202_15 x1 x2 s0 h = some r) (q : Q none r) : hs_W S d 0 hs_p202 Q 15 [hs_r 12 0, hs_i x1, hs_i x2, v3, v4] [hs_l s0, hs_r 12 0] h := by
  unfold hb_202_15 at e
  refine hs_wb 3 (c := x1 ≤ (nI 1)) (t := 29) (f := 20) (ls' := [hs_r 12 0, hs_i x1, hs_i x2, v3, v4]) (st' := [hs_l s0, hs_r 12 0]) (h' := h) (fun n w => w) (fun b2 => ?_) (fun b2 => ?_)
  · rw [if_pos b2] at e
    refine hs_w 1 (pc' := 30) (ls' := [hs_r 12 0, hs_i x1, hs_i x2, v3, v4]) (st' := [hs_l (lN 0), hs_l s0, hs_r 12 0]) (h' := h) (fun n w => w) ?_
    exact hw_202_30 hd e q
  · rw [if_neg b2] at e
    obtain ⟨q13, eq13, e⟩ := hs_bind_some e
    try dsimp only at e
    refine hs_wc 4 (y := 200) (a := [hs_r 12 0, hs_i (nI 2), hs_i x2]) (v := some (hs_l q13.1)) (pc' := 26) (ls' := [hs_r 12 0, hs_i x1, hs_i x2, v3, v4]) (st' := [hs_l s0, hs_r 12 0]) (h' := h) (h2 := q13.2) (fun n w => w) (fun q => hc_200 (by omega) eq13 q) ?_
    refine hs_w 1 (pc' := 30) (ls' := [hs_r 12 0, hs_i x1, hs_i x2, v3, v4]) (st' := [hs_l q13.1, hs_l s0, hs_r 12 0]) (h' := q13.2) (fun n w => w) ?_
    exact hw_202_30 hd e q
/-- HuntedScentModel.takesDoubt(II)V -/
def hf_202 (a1 : Int32) (a2 : Int32) (h : hs_H) : Option (hs_H) := if a1 ≤ 0 then (hb_202_15 a1 a2 (lN 0) h) else ((hf_200 (nI 1) a2 h).bind (fun q14 => hb_202_15 a1 a2 q14.1 q14.2))
set_option maxHeartbeats 1000000 in
theorem hc_202 {S : hs_S} {D : Nat} {Q : hs_Q} (hD : 2 ≤ D) {a1 : Int32} {a2 : Int32} {h : hs_H} {r : hs_H} (e : hf_202 a1 a2 h = some r) (q : Q none r) : hs_call hs_ms S D 202 [hs_r 12 0, hs_i a1, hs_i a2] h Q := by
  refine hs_go (R := 1) hD rfl (Nat.le_of_ble_eq_true rfl) (fun d hd => ?_)
  show hs_W S d 0 hs_p202 Q 0 [hs_r 12 0, hs_i a1, hs_i a2, hs_u, hs_u] [] h
  unfold hf_202 at e
  refine hs_wb 3 (c := a1 ≤ 0) (t := 14) (f := 5) (ls' := [hs_r 12 0, hs_i a1, hs_i a2, hs_u, hs_u]) (st' := [hs_r 12 0]) (h' := h) (fun n w => w) (fun b1 => ?_) (fun b1 => ?_)
  · rw [if_pos b1] at e
    refine hs_w 1 (pc' := 15) (ls' := [hs_r 12 0, hs_i a1, hs_i a2, hs_u, hs_u]) (st' := [hs_l (lN 0), hs_r 12 0]) (h' := h) (fun n w => w) ?_
    exact hw_202_15 hd e q
  · rw [if_neg b1] at e
    obtain ⟨q14, eq14, e⟩ := hs_bind_some e
    try dsimp only at e
    refine hs_wc 4 (y := 200) (a := [hs_r 12 0, hs_i (nI 1), hs_i a2]) (v := some (hs_l q14.1)) (pc' := 11) (ls' := [hs_r 12 0, hs_i a1, hs_i a2, hs_u, hs_u]) (st' := [hs_r 12 0]) (h' := h) (h2 := q14.2) (fun n w => w) (fun q => hc_200 (by omega) eq14 q) ?_
    refine hs_w 1 (pc' := 15) (ls' := [hs_r 12 0, hs_i a1, hs_i a2, hs_u, hs_u]) (st' := [hs_l q14.1, hs_r 12 0]) (h' := q14.2) (fun n w => w) ?_
    exact hw_202_15 hd e q
def hb_203_225  (k157 : Int32 × Int32 × hs_H → Option (Int32 × hs_H)) (x7 : Int32) (s0 : Int32) (h : hs_H) : Option (Int32 × hs_H) := k157 (s0, x7 + nI 1, h)
set_option maxHeartbeats 1000000 in
theorem hw_203_225 {S : hs_S} {d : Nat} {Q : hs_Q} (hd : 3 ≤ d)  {k157 : Int32 × Int32 × hs_H → Option (Int32 × hs_H)} (hk157 : ∀ (x6 : Int32) (x7 : Int32) (h : hs_H) (r : Int32 × hs_H) (v1 : hs_V) (v2 : hs_V) (v3 : hs_V) (v4 : hs_V) (v5 : hs_V) (v8 : hs_V), k157 (x6, x7, h) = some r → Q (some (hs_i r.1)) r.2 → hs_W S d 1 hs_p203 Q 157 [hs_r 12 0, v1, v2, v3, v4, v5, hs_i x6, hs_i x7, v8] [] h) {x7 : Int32} {s0 : Int32} {v1 : hs_V} {v2 : hs_V} {v3 : hs_V} {v4 : hs_V} {v5 : hs_V} {v6 : hs_V} {v8 : hs_V} {h : hs_H} {r : Int32 × hs_H} (e : hb_203_225 k157 x7 s0 h = some r) (q : Q (some (hs_i r.1)) r.2) : hs_W S d 1 hs_p203 Q 225 [hs_r 12 0, v1, v2, v3, v4, v5, v6, hs_i x7, v8] [hs_i s0] h := by
  unfold hb_203_225 at e
  refine hs_w 3 (pc' := 157) (ls' := [hs_r 12 0, v1, v2, v3, v4, v5, hs_i s0, hs_i (x7 + nI 1), v8]) (st' := []) (h' := h) (fun n w => w) ?_
  exact hk157 _ _ _ _ _ _ _ _ _ _ e q
def hb_203_211  (k157 : Int32 × Int32 × hs_H → Option (Int32 × hs_H)) (x6 : Int32) (x7 : Int32) (s0 : Int32) (h : hs_H) : Option (Int32 × hs_H) := if s0 = 0 then (hb_203_225 k157 x7 x6 h) else (hb_203_225 k157 x7 x7 h)
set_option maxHeartbeats 1000000 in
theorem hw_203_211 {S : hs_S} {d : Nat} {Q : hs_Q} (hd : 3 ≤ d)  {k157 : Int32 × Int32 × hs_H → Option (Int32 × hs_H)} (hk157 : ∀ (x6 : Int32) (x7 : Int32) (h : hs_H) (r : Int32 × hs_H) (v1 : hs_V) (v2 : hs_V) (v3 : hs_V) (v4 : hs_V) (v5 : hs_V) (v8 : hs_V), k157 (x6, x7, h) = some r → Q (some (hs_i r.1)) r.2 → hs_W S d 1 hs_p203 Q 157 [hs_r 12 0, v1, v2, v3, v4, v5, hs_i x6, hs_i x7, v8] [] h) {x6 : Int32} {x7 : Int32} {s0 : Int32} {v1 : hs_V} {v2 : hs_V} {v3 : hs_V} {v4 : hs_V} {v5 : hs_V} {v8 : hs_V} {h : hs_H} {r : Int32 × hs_H} (e : hb_203_211 k157 x6 x7 s0 h = some r) (q : Q (some (hs_i r.1)) r.2) : hs_W S d 1 hs_p203 Q 211 [hs_r 12 0, v1, v2, v3, v4, v5, hs_i x6, hs_i x7, v8] [hs_i s0] h := by
  unfold hb_203_211 at e
  refine hs_wb 3 (c := s0 = 0) (t := 223) (f := 218) (ls' := [hs_r 12 0, v1, v2, v3, v4, v5, hs_i x6, hs_i x7, hs_i s0]) (st' := []) (h' := h) (fun n w => w) (fun b8 => ?_) (fun b8 => ?_)
  · rw [if_pos b8] at e
    refine hs_w 1 (pc' := 225) (ls' := [hs_r 12 0, v1, v2, v3, v4, v5, hs_i x6, hs_i x7, hs_i s0]) (st' := [hs_i x6]) (h' := h) (fun n w => w) ?_
    exact hw_203_225 hd hk157 e q
  · rw [if_neg b8] at e
    refine hs_w 2 (pc' := 225) (ls' := [hs_r 12 0, v1, v2, v3, v4, v5, hs_i x6, hs_i x7, hs_i s0]) (st' := [hs_i x7]) (h' := h) (fun n w => w) ?_
    exact hw_203_225 hd hk157 e q
def hb_203_206  (k157 : Int32 × Int32 × hs_H → Option (Int32 × hs_H)) (x6 : Int32) (x7 : Int32)  (h : hs_H) : Option (Int32 × hs_H) := hb_203_211 k157 x6 x7 (nI 1) h
set_option maxHeartbeats 1000000 in
theorem hw_203_206 {S : hs_S} {d : Nat} {Q : hs_Q} (hd : 3 ≤ d)  {k157 : Int32 × Int32 × hs_H → Option (Int32 × hs_H)} (hk157 : ∀ (x6 : Int32) (x7 : Int32) (h : hs_H) (r : Int32 × hs_H) (v1 : hs_V) (v2 : hs_V) (v3 : hs_V) (v4 : hs_V) (v5 : hs_V) (v8 : hs_V), k157 (x6, x7, h) = some r → Q (some (hs_i r.1)) r.2 → hs_W S d 1 hs_p203 Q 157 [hs_r 12 0, v1, v2, v3, v4, v5, hs_i x6, hs_i x7, v8] [] h) {x6 : Int32} {x7 : Int32}  {v1 : hs_V} {v2 : hs_V} {v3 : hs_V} {v4 : hs_V} {v5 : hs_V} {v8 : hs_V} {h : hs_H} {r : Int32 × hs_H} (e : hb_203_206 k157 x6 x7 h = some r) (q : Q (some (hs_i r.1)) r.2) : hs_W S d 1 hs_p203 Q 206 [hs_r 12 0, v1, v2, v3, v4, v5, hs_i x6, hs_i x7, v8] [] h := by
  unfold hb_203_206 at e
  refine hs_w 2 (pc' := 211) (ls' := [hs_r 12 0, v1, v2, v3, v4, v5, hs_i x6, hs_i x7, v8]) (st' := [hs_i (nI 1)]) (h' := h) (fun n w => w) ?_
  exact hw_203_211 hd hk157 e q
def hb_203_157  (k157 : Int32 × Int32 × hs_H → Option (Int32 × hs_H)) (x6 : Int32) (x7 : Int32)  (h : hs_H) : Option (Int32 × hs_H) := if (h.1 12 0 31) ≤ x7 then (some (x6, h)) else (if x6 = (nI 4294967292) then (hb_203_206 k157 x6 x7 h) else (hs_ck (hs_inb x7 1000) (hs_ck (hs_inb (h.1 55 0 x7.toNatClampNeg) 2048) ((hf_152 (h.1 54 0 (h.1 55 0 x7.toNatClampNeg).toNatClampNeg) h).bind (fun q11 => hs_ck (hs_inb x6 1000) (hs_ck (hs_inb (q11.2.1 55 0 x6.toNatClampNeg) 2048) ((hf_152 (q11.2.1 54 0 (q11.2.1 55 0 x6.toNatClampNeg).toNatClampNeg) q11.2).bind (fun q14 => if q11.1 ≤ q14.1 then (hb_203_211 k157 x6 x7 (nI 0) q14.2) else (hb_203_206 k157 x6 x7 q14.2)))))))))
set_option maxHeartbeats 1000000 in
theorem hw_203_157 {S : hs_S} {d : Nat} {Q : hs_Q} (hd : 3 ≤ d)  {k157 : Int32 × Int32 × hs_H → Option (Int32 × hs_H)} (hk157 : ∀ (x6 : Int32) (x7 : Int32) (h : hs_H) (r : Int32 × hs_H) (v1 : hs_V) (v2 : hs_V) (v3 : hs_V) (v4 : hs_V) (v5 : hs_V) (v8 : hs_V), k157 (x6, x7, h) = some r → Q (some (hs_i r.1)) r.2 → hs_W S d 1 hs_p203 Q 157 [hs_r 12 0, v1, v2, v3, v4, v5, hs_i x6, hs_i x7, v8] [] h) {x6 : Int32} {x7 : Int32}  {v1 : hs_V} {v2 : hs_V} {v3 : hs_V} {v4 : hs_V} {v5 : hs_V} {v8 : hs_V} {h : hs_H} {r : Int32 × hs_H} (e : hb_203_157 k157 x6 x7 h = some r) (q : Q (some (hs_i r.1)) r.2) : hs_W S d 1 hs_p203 Q 157 [hs_r 12 0, v1, v2, v3, v4, v5, hs_i x6, hs_i x7, v8] [] h := by
  unfold hb_203_157 at e
  refine hs_wb 4 (c := (h.1 12 0 31) ≤ x7) (t := 233) (f := 166) (ls' := [hs_r 12 0, v1, v2, v3, v4, v5, hs_i x6, hs_i x7, v8]) (st' := []) (h' := h) (fun n w => w) (fun b6 => ?_) (fun b6 => ?_)
  · rw [if_pos b6] at e
    obtain rfl := Option.some.inj e
    exact hs_wr 2 (v := some (hs_i x6)) (h' := h) (fun n w => w) q
  · rw [if_neg b6] at e
    refine hs_wb 3 (c := x6 = (nI 4294967292)) (t := 206) (f := 173) (ls' := [hs_r 12 0, v1, v2, v3, v4, v5, hs_i x6, hs_i x7, v8]) (st' := []) (h' := h) (fun n w => w) (fun b7 => ?_) (fun b7 => ?_)
    · rw [if_pos b7] at e
      exact hw_203_206 hd hk157 e q
    · rw [if_neg b7] at e
      obtain ⟨c9, e⟩ := hs_ck_some e
      refine hs_wa 6 (c := vp_in x7 1000) (pc' := 184) (ls' := [hs_r 12 0, v1, v2, v3, v4, v5, hs_i x6, hs_i x7, v8]) (st' := [hs_i (h.1 55 0 x7.toNatClampNeg), hs_r 54 0]) (h' := h) (fun n w => w) (hs_inb_iff.mp c9) ?_
      obtain ⟨c10, e⟩ := hs_ck_some e
      refine hs_wa 1 (c := vp_in (h.1 55 0 x7.toNatClampNeg) 2048) (pc' := 185) (ls' := [hs_r 12 0, v1, v2, v3, v4, v5, hs_i x6, hs_i x7, v8]) (st' := [hs_i (h.1 54 0 (h.1 55 0 x7.toNatClampNeg).toNatClampNeg)]) (h' := h) (fun n w => w) (hs_inb_iff.mp c10) ?_
      obtain ⟨q11, eq11, e⟩ := hs_bind_some e
      try dsimp only at e
      refine hs_wc 1 (y := 152) (a := [hs_i (h.1 54 0 (h.1 55 0 x7.toNatClampNeg).toNatClampNeg)]) (v := some (hs_i q11.1)) (pc' := 188) (ls' := [hs_r 12 0, v1, v2, v3, v4, v5, hs_i x6, hs_i x7, v8]) (st' := []) (h' := h) (h2 := q11.2) (fun n w => w) (fun q => hc_152 (by omega) eq11 q) ?_
      obtain ⟨c12, e⟩ := hs_ck_some e
      refine hs_wa 6 (c := vp_in x6 1000) (pc' := 199) (ls' := [hs_r 12 0, v1, v2, v3, v4, v5, hs_i x6, hs_i x7, v8]) (st' := [hs_i (q11.2.1 55 0 x6.toNatClampNeg), hs_r 54 0, hs_i q11.1]) (h' := q11.2) (fun n w => w) (hs_inb_iff.mp c12) ?_
      obtain ⟨c13, e⟩ := hs_ck_some e
      refine hs_wa 1 (c := vp_in (q11.2.1 55 0 x6.toNatClampNeg) 2048) (pc' := 200) (ls' := [hs_r 12 0, v1, v2, v3, v4, v5, hs_i x6, hs_i x7, v8]) (st' := [hs_i (q11.2.1 54 0 (q11.2.1 55 0 x6.toNatClampNeg).toNatClampNeg), hs_i q11.1]) (h' := q11.2) (fun n w => w) (hs_inb_iff.mp c13) ?_
      obtain ⟨q14, eq14, e⟩ := hs_bind_some e
      try dsimp only at e
      refine hs_wc 1 (y := 152) (a := [hs_i (q11.2.1 54 0 (q11.2.1 55 0 x6.toNatClampNeg).toNatClampNeg)]) (v := some (hs_i q14.1)) (pc' := 203) (ls' := [hs_r 12 0, v1, v2, v3, v4, v5, hs_i x6, hs_i x7, v8]) (st' := [hs_i q11.1]) (h' := q11.2) (h2 := q14.2) (fun n w => w) (fun q => hc_152 (by omega) eq14 q) ?_
      refine hs_wb 1 (c := q11.1 ≤ q14.1) (t := 210) (f := 206) (ls' := [hs_r 12 0, v1, v2, v3, v4, v5, hs_i x6, hs_i x7, v8]) (st' := []) (h' := q14.2) (fun n w => w) (fun b15 => ?_) (fun b15 => ?_)
      · rw [if_pos b15] at e
        refine hs_w 1 (pc' := 211) (ls' := [hs_r 12 0, v1, v2, v3, v4, v5, hs_i x6, hs_i x7, v8]) (st' := [hs_i (nI 0)]) (h' := q14.2) (fun n w => w) ?_
        exact hw_203_211 hd hk157 e q
      · rw [if_neg b15] at e
        exact hw_203_206 hd hk157 e q
theorem hw_203_157_lp {S : hs_S} {d : Nat} {Q : hs_Q} (hd : 3 ≤ d)    (n : Nat) {x6 : Int32} {x7 : Int32} {h : hs_H} {r : Int32 × hs_H} (e : hs_lp (fun k s => hb_203_157 k s.1 s.2.1 s.2.2) n (x6, x7, h) = some r) (v1 : hs_V) (v2 : hs_V) (v3 : hs_V) (v4 : hs_V) (v5 : hs_V) (v8 : hs_V) (q : Q (some (hs_i r.1)) r.2) : hs_W S d 1 hs_p203 Q 157 [hs_r 12 0, v1, v2, v3, v4, v5, hs_i x6, hs_i x7, v8] [] h := by
  refine hs_lp_ind (P := fun (s : Int32 × Int32 × hs_H) (r : Int32 × hs_H) => ∀ (v1 : hs_V) (v2 : hs_V) (v3 : hs_V) (v4 : hs_V) (v5 : hs_V) (v8 : hs_V), Q (some (hs_i r.1)) r.2 → hs_W S d 1 hs_p203 Q 157 [hs_r 12 0, v1, v2, v3, v4, v5, hs_i s.1, hs_i s.2.1, v8] [] s.2.2) (fun k hk s r e v1 v2 v3 v4 v5 v8 q => ?_) n (x6, x7, h) r e v1 v2 v3 v4 v5 v8 q
  exact hw_203_157 hd (fun x6 x7 h r v1 v2 v3 v4 v5 v8 e q => hk (x6, x7, h) r e v1 v2 v3 v4 v5 v8 q) e q
def hb_203_60  (k60 : Int32 × Int32 × Int32 × Int32 × hs_H → Option (Int32 × hs_H)) (x2 : Int32) (x3 : Int32) (x4 : Int32) (x5 : Int32)  (h : hs_H) : Option (Int32 × hs_H) := if x4 ≤ 0 then (hs_lp (fun k s => hb_203_157 k s.1 s.2.1 s.2.2) hs_big (nI 4294967292, nI 0, h)) else (if ¬ x5 = (h.1 12 0 2) then (hs_ck (hs_inb (x4 - (nI 1)) 6) ((hf_181 (h.1 49 0 (x4 - (nI 1)).toNatClampNeg) x5 h).bind (fun q18 => if ¬ q18.1 = 0 then ((hf_189 x4 x5 q18.2).bind (fun q20 => if ¬ x4 = x2 then (k60 (x2, x3, x4 + nI 1, nI 0, q20)) else ((hf_202 x2 x3 q20).bind (fun q22 => k60 (x2, x3, x4, x5 + nI 1, q22))))) else (k60 (x2, x3, x4, x5 + nI 1, q18.2))))) else (hs_ck (hs_inb (x4 + nI 4294967295) 6) (k60 (x2, x3, x4 + nI 4294967295, (h.1 49 0 (x4 + nI 4294967295).toNatClampNeg) + (nI 1), h))))
set_option maxHeartbeats 1000000 in
theorem hw_203_60 {S : hs_S} {d : Nat} {Q : hs_Q} (hd : 3 ≤ d)  {k60 : Int32 × Int32 × Int32 × Int32 × hs_H → Option (Int32 × hs_H)} (hk60 : ∀ (x2 : Int32) (x3 : Int32) (x4 : Int32) (x5 : Int32) (h : hs_H) (r : Int32 × hs_H) (v1 : hs_V) (v6 : hs_V) (v7 : hs_V) (v8 : hs_V), k60 (x2, x3, x4, x5, h) = some r → Q (some (hs_i r.1)) r.2 → hs_W S d 1 hs_p203 Q 60 [hs_r 12 0, v1, hs_i x2, hs_i x3, hs_i x4, hs_i x5, v6, v7, v8] [] h) {x2 : Int32} {x3 : Int32} {x4 : Int32} {x5 : Int32}  {v1 : hs_V} {v6 : hs_V} {v7 : hs_V} {v8 : hs_V} {h : hs_H} {r : Int32 × hs_H} (e : hb_203_60 k60 x2 x3 x4 x5 h = some r) (q : Q (some (hs_i r.1)) r.2) : hs_W S d 1 hs_p203 Q 60 [hs_r 12 0, v1, hs_i x2, hs_i x3, hs_i x4, hs_i x5, v6, v7, v8] [] h := by
  unfold hb_203_60 at e
  refine hs_wb 2 (c := x4 ≤ 0) (t := 150) (f := 65) (ls' := [hs_r 12 0, v1, hs_i x2, hs_i x3, hs_i x4, hs_i x5, v6, v7, v8]) (st' := []) (h' := h) (fun n w => w) (fun b5 => ?_) (fun b5 => ?_)
  · rw [if_pos b5] at e
    refine hs_w 4 (pc' := 157) (ls' := [hs_r 12 0, v1, hs_i x2, hs_i x3, hs_i x4, hs_i x5, hs_i (nI 4294967292), hs_i (nI 0), v8]) (st' := []) (h' := h) (fun n w => w) ?_
    exact hw_203_157_lp hd hs_big e _ _ _ _ _ _ q
  · rw [if_neg b5] at e
    refine hs_wb 4 (c := ¬ x5 = (h.1 12 0 2)) (t := 91) (f := 74) (ls' := [hs_r 12 0, v1, hs_i x2, hs_i x3, hs_i x4, hs_i x5, v6, v7, v8]) (st' := []) (h' := h) (fun n w => w) (fun b16 => ?_) (fun b16 => ?_)
    · rw [if_pos b16] at e
      obtain ⟨c17, e⟩ := hs_ck_some e
      refine hs_wa 7 (c := vp_in (x4 - (nI 1)) 6) (pc' := 101) (ls' := [hs_r 12 0, v1, hs_i x2, hs_i x3, hs_i x4, hs_i x5, v6, v7, v8]) (st' := [hs_i (h.1 49 0 (x4 - (nI 1)).toNatClampNeg), hs_r 12 0]) (h' := h) (fun n w => w) (hs_inb_iff.mp c17) ?_
      obtain ⟨q18, eq18, e⟩ := hs_bind_some e
      try dsimp only at e
      refine hs_wc 2 (y := 181) (a := [hs_r 12 0, hs_i (h.1 49 0 (x4 - (nI 1)).toNatClampNeg), hs_i x5]) (v := some (hs_i q18.1)) (pc' := 106) (ls' := [hs_r 12 0, v1, hs_i x2, hs_i x3, hs_i x4, hs_i x5, v6, v7, v8]) (st' := []) (h' := h) (h2 := q18.2) (fun n w => w) (fun q => hc_181 (by omega) eq18 q) ?_
      refine hs_wb 1 (c := ¬ q18.1 = 0) (t := 115) (f := 109) (ls' := [hs_r 12 0, v1, hs_i x2, hs_i x3, hs_i x4, hs_i x5, v6, v7, v8]) (st' := []) (h' := q18.2) (fun n w => w) (fun b19 => ?_) (fun b19 => ?_)
      · rw [if_pos b19] at e
        obtain ⟨q20, eq20, e⟩ := hs_bind_some e
        try dsimp only at e
        refine hs_wc 4 (y := 189) (a := [hs_r 12 0, hs_i x4, hs_i x5]) (v := none) (pc' := 123) (ls' := [hs_r 12 0, v1, hs_i x2, hs_i x3, hs_i x4, hs_i x5, v6, v7, v8]) (st' := []) (h' := q18.2) (h2 := q20) (fun n w => w) (fun q => hc_189 (by omega) eq20 q) ?_
        refine hs_wb 3 (c := ¬ x4 = x2) (t := 141) (f := 129) (ls' := [hs_r 12 0, v1, hs_i x2, hs_i x3, hs_i x4, hs_i x5, v6, v7, v8]) (st' := []) (h' := q20) (fun n w => w) (fun b21 => ?_) (fun b21 => ?_)
        · rw [if_pos b21] at e
          refine hs_w 4 (pc' := 60) (ls' := [hs_r 12 0, v1, hs_i x2, hs_i x3, hs_i (x4 + nI 1), hs_i (nI 0), v6, v7, v8]) (st' := []) (h' := q20) (fun n w => w) ?_
          exact hk60 _ _ _ _ _ _ _ _ _ _ e q
        · rw [if_neg b21] at e
          obtain ⟨q22, eq22, e⟩ := hs_bind_some e
          try dsimp only at e
          refine hs_wc 4 (y := 202) (a := [hs_r 12 0, hs_i x2, hs_i x3]) (v := none) (pc' := 135) (ls' := [hs_r 12 0, v1, hs_i x2, hs_i x3, hs_i x4, hs_i x5, v6, v7, v8]) (st' := []) (h' := q20) (h2 := q22) (fun n w => w) (fun q => hc_202 (by omega) eq22 q) ?_
          refine hs_w 2 (pc' := 60) (ls' := [hs_r 12 0, v1, hs_i x2, hs_i x3, hs_i x4, hs_i (x5 + nI 1), v6, v7, v8]) (st' := []) (h' := q22) (fun n w => w) ?_
          exact hk60 _ _ _ _ _ _ _ _ _ _ e q
      · rw [if_neg b19] at e
        refine hs_w 2 (pc' := 60) (ls' := [hs_r 12 0, v1, hs_i x2, hs_i x3, hs_i x4, hs_i (x5 + nI 1), v6, v7, v8]) (st' := []) (h' := q18.2) (fun n w => w) ?_
        exact hk60 _ _ _ _ _ _ _ _ _ _ e q
    · rw [if_neg b16] at e
      obtain ⟨c23, e⟩ := hs_ck_some e
      refine hs_wa 5 (c := vp_in (x4 + nI 4294967295) 6) (pc' := 84) (ls' := [hs_r 12 0, v1, hs_i x2, hs_i x3, hs_i (x4 + nI 4294967295), hs_i x5, v6, v7, v8]) (st' := [hs_i (h.1 49 0 (x4 + nI 4294967295).toNatClampNeg)]) (h' := h) (fun n w => w) (hs_inb_iff.mp c23) ?_
      refine hs_w 4 (pc' := 60) (ls' := [hs_r 12 0, v1, hs_i x2, hs_i x3, hs_i (x4 + nI 4294967295), hs_i ((h.1 49 0 (x4 + nI 4294967295).toNatClampNeg) + (nI 1)), v6, v7, v8]) (st' := []) (h' := h) (fun n w => w) ?_
      exact hk60 _ _ _ _ _ _ _ _ _ _ e q
theorem hw_203_60_lp {S : hs_S} {d : Nat} {Q : hs_Q} (hd : 3 ≤ d)    (n : Nat) {x2 : Int32} {x3 : Int32} {x4 : Int32} {x5 : Int32} {h : hs_H} {r : Int32 × hs_H} (e : hs_lp (fun k s => hb_203_60 k s.1 s.2.1 s.2.2.1 s.2.2.2.1 s.2.2.2.2) n (x2, x3, x4, x5, h) = some r) (v1 : hs_V) (v6 : hs_V) (v7 : hs_V) (v8 : hs_V) (q : Q (some (hs_i r.1)) r.2) : hs_W S d 1 hs_p203 Q 60 [hs_r 12 0, v1, hs_i x2, hs_i x3, hs_i x4, hs_i x5, v6, v7, v8] [] h := by
  refine hs_lp_ind (P := fun (s : Int32 × Int32 × Int32 × Int32 × hs_H) (r : Int32 × hs_H) => ∀ (v1 : hs_V) (v6 : hs_V) (v7 : hs_V) (v8 : hs_V), Q (some (hs_i r.1)) r.2 → hs_W S d 1 hs_p203 Q 60 [hs_r 12 0, v1, hs_i s.1, hs_i s.2.1, hs_i s.2.2.1, hs_i s.2.2.2.1, v6, v7, v8] [] s.2.2.2.2) (fun k hk s r e v1 v6 v7 v8 q => ?_) n (x2, x3, x4, x5, h) r e v1 v6 v7 v8 q
  exact hw_203_60 hd (fun x2 x3 x4 x5 h r v1 v6 v7 v8 e q => hk (x2, x3, x4, x5, h) r e v1 v6 v7 v8 q) e q
def hb_203_45   (x2 : Int32) (x3 : Int32) (s0 : Int32) (h : hs_H) : Option (Int32 × hs_H) := if ¬ x2 = 0 then (hs_lp (fun k s => hb_203_60 k s.1 s.2.1 s.2.2.1 s.2.2.2.1 s.2.2.2.2) hs_big (x2, x3, s0, nI 0, h)) else ((hf_202 (nI 0) x3 h).bind (fun q24 => hs_lp (fun k s => hb_203_60 k s.1 s.2.1 s.2.2.1 s.2.2.2.1 s.2.2.2.2) hs_big (x2, x3, s0, nI 0, q24)))
set_option maxHeartbeats 1000000 in
theorem hw_203_45 {S : hs_S} {d : Nat} {Q : hs_Q} (hd : 3 ≤ d)    {x2 : Int32} {x3 : Int32} {s0 : Int32} {v1 : hs_V} {v4 : hs_V} {v5 : hs_V} {v6 : hs_V} {v7 : hs_V} {v8 : hs_V} {h : hs_H} {r : Int32 × hs_H} (e : hb_203_45 x2 x3 s0 h = some r) (q : Q (some (hs_i r.1)) r.2) : hs_W S d 1 hs_p203 Q 45 [hs_r 12 0, v1, hs_i x2, hs_i x3, v4, v5, v6, v7, v8] [hs_i s0] h := by
  unfold hb_203_45 at e
  refine hs_wb 5 (c := ¬ x2 = 0) (t := 60) (f := 54) (ls' := [hs_r 12 0, v1, hs_i x2, hs_i x3, hs_i s0, hs_i (nI 0), v6, v7, v8]) (st' := []) (h' := h) (fun n w => w) (fun b4 => ?_) (fun b4 => ?_)
  · rw [if_pos b4] at e
    exact hw_203_60_lp hd hs_big e _ _ _ _ q
  · rw [if_neg b4] at e
    obtain ⟨q24, eq24, e⟩ := hs_bind_some e
    try dsimp only at e
    refine hs_wc 4 (y := 202) (a := [hs_r 12 0, hs_i (nI 0), hs_i x3]) (v := none) (pc' := 60) (ls' := [hs_r 12 0, v1, hs_i x2, hs_i x3, hs_i s0, hs_i (nI 0), v6, v7, v8]) (st' := []) (h' := h) (h2 := q24) (fun n w => w) (fun q => hc_202 (by omega) eq24 q) ?_
    exact hw_203_60_lp hd hs_big e _ _ _ _ q
def hb_203_3  (k3 : Int32 × Int32 × Int32 × Int32 × hs_H → Option (Int32 × hs_H)) (x1 : Int32) (x2 : Int32) (x3 : Int32) (x4 : Int32)  (h : hs_H) : Option (Int32 × hs_H) := if (nI 2048) ≤ x4 then ((hf_189 (nI 0) x1 (hs_put h 12 0 31 (nI 0))).bind (fun q2 => if ¬ x2 = 0 then (hb_203_45 x2 x3 (nI 1) q2) else (hb_203_45 x2 x3 (nI 4294967295) q2))) else (hs_ck (hs_inb x4 2048) (k3 (x1, x2, x3, x4 + nI 1, hs_put h 54 0 x4.toNatClampNeg (nI 0))))
set_option maxHeartbeats 1000000 in
theorem hw_203_3 {S : hs_S} {d : Nat} {Q : hs_Q} (hd : 3 ≤ d)  {k3 : Int32 × Int32 × Int32 × Int32 × hs_H → Option (Int32 × hs_H)} (hk3 : ∀ (x1 : Int32) (x2 : Int32) (x3 : Int32) (x4 : Int32) (h : hs_H) (r : Int32 × hs_H) (v5 : hs_V) (v6 : hs_V) (v7 : hs_V) (v8 : hs_V), k3 (x1, x2, x3, x4, h) = some r → Q (some (hs_i r.1)) r.2 → hs_W S d 1 hs_p203 Q 3 [hs_r 12 0, hs_i x1, hs_i x2, hs_i x3, hs_i x4, v5, v6, v7, v8] [] h) {x1 : Int32} {x2 : Int32} {x3 : Int32} {x4 : Int32}  {v5 : hs_V} {v6 : hs_V} {v7 : hs_V} {v8 : hs_V} {h : hs_H} {r : Int32 × hs_H} (e : hb_203_3 k3 x1 x2 x3 x4 h = some r) (q : Q (some (hs_i r.1)) r.2) : hs_W S d 1 hs_p203 Q 3 [hs_r 12 0, hs_i x1, hs_i x2, hs_i x3, hs_i x4, v5, v6, v7, v8] [] h := by
  unfold hb_203_3 at e
  refine hs_wb 3 (c := (nI 2048) ≤ x4) (t := 25) (f := 11) (ls' := [hs_r 12 0, hs_i x1, hs_i x2, hs_i x3, hs_i x4, v5, v6, v7, v8]) (st' := []) (h' := h) (fun n w => w) (fun b1 => ?_) (fun b1 => ?_)
  · rw [if_pos b1] at e
    obtain ⟨q2, eq2, e⟩ := hs_bind_some e
    try dsimp only at e
    refine hs_wc 7 (y := 189) (a := [hs_r 12 0, hs_i (nI 0), hs_i x1]) (v := none) (pc' := 36) (ls' := [hs_r 12 0, hs_i x1, hs_i x2, hs_i x3, hs_i x4, v5, v6, v7, v8]) (st' := []) (h' := hs_put h 12 0 31 (nI 0)) (h2 := q2) (fun n w => w) (fun q => hc_189 (by omega) eq2 q) ?_
    refine hs_wb 2 (c := ¬ x2 = 0) (t := 44) (f := 40) (ls' := [hs_r 12 0, hs_i x1, hs_i x2, hs_i x3, hs_i x4, v5, v6, v7, v8]) (st' := []) (h' := q2) (fun n w => w) (fun b3 => ?_) (fun b3 => ?_)
    · rw [if_pos b3] at e
      refine hs_w 1 (pc' := 45) (ls' := [hs_r 12 0, hs_i x1, hs_i x2, hs_i x3, hs_i x4, v5, v6, v7, v8]) (st' := [hs_i (nI 1)]) (h' := q2) (fun n w => w) ?_
      exact hw_203_45 hd e q
    · rw [if_neg b3] at e
      refine hs_w 2 (pc' := 45) (ls' := [hs_r 12 0, hs_i x1, hs_i x2, hs_i x3, hs_i x4, v5, v6, v7, v8]) (st' := [hs_i (nI 4294967295)]) (h' := q2) (fun n w => w) ?_
      exact hw_203_45 hd e q
  · rw [if_neg b1] at e
    obtain ⟨c25, e⟩ := hs_ck_some e
    refine hs_wa 5 (c := vp_in x4 2048) (pc' := 19) (ls' := [hs_r 12 0, hs_i x1, hs_i x2, hs_i x3, hs_i x4, v5, v6, v7, v8]) (st' := []) (h' := hs_put h 54 0 x4.toNatClampNeg (nI 0)) (fun n w => w) (hs_inb_iff.mp c25) ?_
    refine hs_w 2 (pc' := 3) (ls' := [hs_r 12 0, hs_i x1, hs_i x2, hs_i x3, hs_i (x4 + nI 1), v5, v6, v7, v8]) (st' := []) (h' := hs_put h 54 0 x4.toNatClampNeg (nI 0)) (fun n w => w) ?_
    exact hk3 _ _ _ _ _ _ _ _ _ _ e q
theorem hw_203_3_lp {S : hs_S} {d : Nat} {Q : hs_Q} (hd : 3 ≤ d)    (n : Nat) {x1 : Int32} {x2 : Int32} {x3 : Int32} {x4 : Int32} {h : hs_H} {r : Int32 × hs_H} (e : hs_lp (fun k s => hb_203_3 k s.1 s.2.1 s.2.2.1 s.2.2.2.1 s.2.2.2.2) n (x1, x2, x3, x4, h) = some r) (v5 : hs_V) (v6 : hs_V) (v7 : hs_V) (v8 : hs_V) (q : Q (some (hs_i r.1)) r.2) : hs_W S d 1 hs_p203 Q 3 [hs_r 12 0, hs_i x1, hs_i x2, hs_i x3, hs_i x4, v5, v6, v7, v8] [] h := by
  refine hs_lp_ind (P := fun (s : Int32 × Int32 × Int32 × Int32 × hs_H) (r : Int32 × hs_H) => ∀ (v5 : hs_V) (v6 : hs_V) (v7 : hs_V) (v8 : hs_V), Q (some (hs_i r.1)) r.2 → hs_W S d 1 hs_p203 Q 3 [hs_r 12 0, hs_i s.1, hs_i s.2.1, hs_i s.2.2.1, hs_i s.2.2.2.1, v5, v6, v7, v8] [] s.2.2.2.2) (fun k hk s r e v5 v6 v7 v8 q => ?_) n (x1, x2, x3, x4, h) r e v5 v6 v7 v8 q
  exact hw_203_3 hd (fun x1 x2 x3 x4 h r v5 v6 v7 v8 e q => hk (x1, x2, x3, x4, h) r e v5 v6 v7 v8 q) e q
/-- HuntedScentModel.findDoubt(III)I -/
def hf_203 (a1 : Int32) (a2 : Int32) (a3 : Int32) (h : hs_H) : Option (Int32 × hs_H) := hs_lp (fun k s => hb_203_3 k s.1 s.2.1 s.2.2.1 s.2.2.2.1 s.2.2.2.2) hs_big (a1, a2, a3, nI 0, h)
set_option maxHeartbeats 1000000 in
theorem hc_203 {S : hs_S} {D : Nat} {Q : hs_Q} (hD : 4 ≤ D) {a1 : Int32} {a2 : Int32} {a3 : Int32} {h : hs_H} {r : Int32 × hs_H} (e : hf_203 a1 a2 a3 h = some r) (q : Q (some (hs_i r.1)) r.2) : hs_call hs_ms S D 203 [hs_r 12 0, hs_i a1, hs_i a2, hs_i a3] h Q := by
  refine hs_go (R := 3) hD rfl (Nat.le_of_ble_eq_true rfl) (fun d hd => ?_)
  show hs_W S d 1 hs_p203 Q 0 [hs_r 12 0, hs_i a1, hs_i a2, hs_i a3, hs_u, hs_u, hs_u, hs_u, hs_u] [] h
  unfold hf_203 at e
  refine hs_w 2 (pc' := 3) (ls' := [hs_r 12 0, hs_i a1, hs_i a2, hs_i a3, hs_i (nI 0), hs_u, hs_u, hs_u, hs_u]) (st' := []) (h' := h) (fun n w => w) ?_
  exact hw_203_3_lp hd hs_big e _ _ _ _ q
/-- HuntedScentModel.areNodes(I)Z -/
def hf_204 (a1 : Int32) (h : hs_H) : Option (Int32 × hs_H) := (hf_150 a1.toInt64 (lN 0) ((((nI 1) <<< ((h.1 12 0 2) &&& 31)) - (nI 1)).toInt64) h).bind (fun q1 => hs_ck (hs_b01 q1.1) (some (q1.1, q1.2)))
set_option maxHeartbeats 1000000 in
theorem hc_204 {S : hs_S} {D : Nat} {Q : hs_Q} (hD : 2 ≤ D) {a1 : Int32} {h : hs_H} {r : Int32 × hs_H} (e : hf_204 a1 h = some r) (q : Q (some (hs_i r.1)) r.2) : hs_call hs_ms S D 204 [hs_r 12 0, hs_i a1] h Q := by
  refine hs_go (R := 1) hD rfl (Nat.le_of_ble_eq_true rfl) (fun d hd => ?_)
  show hs_W S d 2 hs_p204 Q 0 [hs_r 12 0, hs_i a1] [] h
  unfold hf_204 at e
  obtain ⟨q1, eq1, e⟩ := hs_bind_some e
  try dsimp only at e
  refine hs_wc 11 (y := 150) (a := [hs_l a1.toInt64, hs_l (lN 0), hs_l ((((nI 1) <<< ((h.1 12 0 2) &&& 31)) - (nI 1)).toInt64)]) (v := some (hs_i q1.1)) (pc' := 15) (ls' := [hs_r 12 0, hs_i a1]) (st' := []) (h' := h) (h2 := q1.2) (fun n w => w) (fun q => hc_150 (by omega) eq1 q) ?_
  obtain ⟨c2, e⟩ := hs_ck_some e
  obtain rfl := Option.some.inj e
  exact hs_wra 1 (c := q1.1 = 0 ∨ q1.1 = 1) (v := some (hs_i q1.1)) (h' := q1.2) (fun n w => w) (hs_b01_iff.mp c2) q
def hb_205_50     (h : hs_H) : Option (Int32 × hs_H) := some (nI 4294967295, h)
set_option maxHeartbeats 1000000 in
theorem hw_205_50 {S : hs_S} {d : Nat} {Q : hs_Q} (hd : 4 ≤ d)      {v1 : hs_V} {v2 : hs_V} {v3 : hs_V} {v4 : hs_V} {v5 : hs_V} {h : hs_H} {r : Int32 × hs_H} (e : hb_205_50 h = some r) (q : Q (some (hs_i r.1)) r.2) : hs_W S d 1 hs_p205 Q 50 [hs_r 12 0, v1, v2, v3, v4, v5] [] h := by
  unfold hb_205_50 at e
  obtain rfl := Option.some.inj e
  exact hs_wr 2 (v := some (hs_i (nI 4294967295))) (h' := h) (fun n w => w) q
def hb_205_122    (s0 : Int32) (h : hs_H) : Option (Int32 × hs_H) := some (s0, h)
set_option maxHeartbeats 1000000 in
theorem hw_205_122 {S : hs_S} {d : Nat} {Q : hs_Q} (hd : 4 ≤ d)     {s0 : Int32} {v1 : hs_V} {v2 : hs_V} {v3 : hs_V} {v4 : hs_V} {v5 : hs_V} {h : hs_H} {r : Int32 × hs_H} (e : hb_205_122 s0 h = some r) (q : Q (some (hs_i r.1)) r.2) : hs_W S d 1 hs_p205 Q 122 [hs_r 12 0, v1, v2, v3, v4, v5] [hs_i s0] h := by
  unfold hb_205_122 at e
  obtain rfl := Option.some.inj e
  exact hs_wr 1 (v := some (hs_i s0)) (h' := h) (fun n w => w) q
def hb_205_52   (x1 : Int32) (x2 : Int32) (x3 : Int32) (x4 : Int32)  (h : hs_H) : Option (Int32 × hs_H) := (hf_203 x1 x2 x3 h).bind (fun q8 => if ¬ x4 = 0 then (if ¬ q8.1 = (nI 4294967292) then (hs_ck (hs_inb ((((nI 4) * q8.1) + x4) - (nI 10)) 4000) (hb_205_122 (q8.2.1 56 0 ((((nI 4) * q8.1) + x4) - (nI 10)).toNatClampNeg) q8.2)) else (hb_205_122 (nI 4294967292) q8.2)) else (if ¬ q8.1 = (nI 4294967292) then (hs_ck (hs_inb q8.1 1000) (hs_ck (hs_inb (q8.2.1 55 0 q8.1.toNatClampNeg) 2048) ((hf_152 (q8.2.1 54 0 (q8.2.1 55 0 q8.1.toNatClampNeg).toNatClampNeg) q8.2).bind (fun q15 => hb_205_122 q15.1 q15.2)))) else (hb_205_122 (nI 0) q8.2)))
set_option maxHeartbeats 1000000 in
theorem hw_205_52 {S : hs_S} {d : Nat} {Q : hs_Q} (hd : 4 ≤ d)    {x1 : Int32} {x2 : Int32} {x3 : Int32} {x4 : Int32}  {v5 : hs_V} {h : hs_H} {r : Int32 × hs_H} (e : hb_205_52 x1 x2 x3 x4 h = some r) (q : Q (some (hs_i r.1)) r.2) : hs_W S d 1 hs_p205 Q 52 [hs_r 12 0, hs_i x1, hs_i x2, hs_i x3, hs_i x4, v5] [] h := by
  unfold hb_205_52 at e
  obtain ⟨q8, eq8, e⟩ := hs_bind_some e
  try dsimp only at e
  refine hs_wc 5 (y := 203) (a := [hs_r 12 0, hs_i x1, hs_i x2, hs_i x3]) (v := some (hs_i q8.1)) (pc' := 59) (ls' := [hs_r 12 0, hs_i x1, hs_i x2, hs_i x3, hs_i x4, v5]) (st' := []) (h' := h) (h2 := q8.2) (fun n w => w) (fun q => hc_203 (by omega) eq8 q) ?_
  refine hs_wb 3 (c := ¬ x4 = 0) (t := 95) (f := 66) (ls' := [hs_r 12 0, hs_i x1, hs_i x2, hs_i x3, hs_i x4, hs_i q8.1]) (st' := []) (h' := q8.2) (fun n w => w) (fun b9 => ?_) (fun b9 => ?_)
  · rw [if_pos b9] at e
    refine hs_wb 3 (c := ¬ q8.1 = (nI 4294967292)) (t := 107) (f := 102) (ls' := [hs_r 12 0, hs_i x1, hs_i x2, hs_i x3, hs_i x4, hs_i q8.1]) (st' := []) (h' := q8.2) (fun n w => w) (fun b10 => ?_) (fun b10 => ?_)
    · rw [if_pos b10] at e
      obtain ⟨c11, e⟩ := hs_ck_some e
      refine hs_wa 10 (c := vp_in ((((nI 4) * q8.1) + x4) - (nI 10)) 4000) (pc' := 122) (ls' := [hs_r 12 0, hs_i x1, hs_i x2, hs_i x3, hs_i x4, hs_i q8.1]) (st' := [hs_i (q8.2.1 56 0 ((((nI 4) * q8.1) + x4) - (nI 10)).toNatClampNeg)]) (h' := q8.2) (fun n w => w) (hs_inb_iff.mp c11) ?_
      exact hw_205_122 hd e q
    · rw [if_neg b10] at e
      refine hs_w 2 (pc' := 122) (ls' := [hs_r 12 0, hs_i x1, hs_i x2, hs_i x3, hs_i x4, hs_i q8.1]) (st' := [hs_i (nI 4294967292)]) (h' := q8.2) (fun n w => w) ?_
      exact hw_205_122 hd e q
  · rw [if_neg b9] at e
    refine hs_wb 3 (c := ¬ q8.1 = (nI 4294967292)) (t := 77) (f := 73) (ls' := [hs_r 12 0, hs_i x1, hs_i x2, hs_i x3, hs_i x4, hs_i q8.1]) (st' := []) (h' := q8.2) (fun n w => w) (fun b12 => ?_) (fun b12 => ?_)
    · rw [if_pos b12] at e
      obtain ⟨c13, e⟩ := hs_ck_some e
      refine hs_wa 6 (c := vp_in q8.1 1000) (pc' := 88) (ls' := [hs_r 12 0, hs_i x1, hs_i x2, hs_i x3, hs_i x4, hs_i q8.1]) (st' := [hs_i (q8.2.1 55 0 q8.1.toNatClampNeg), hs_r 54 0]) (h' := q8.2) (fun n w => w) (hs_inb_iff.mp c13) ?_
      obtain ⟨c14, e⟩ := hs_ck_some e
      refine hs_wa 1 (c := vp_in (q8.2.1 55 0 q8.1.toNatClampNeg) 2048) (pc' := 89) (ls' := [hs_r 12 0, hs_i x1, hs_i x2, hs_i x3, hs_i x4, hs_i q8.1]) (st' := [hs_i (q8.2.1 54 0 (q8.2.1 55 0 q8.1.toNatClampNeg).toNatClampNeg)]) (h' := q8.2) (fun n w => w) (hs_inb_iff.mp c14) ?_
      obtain ⟨q15, eq15, e⟩ := hs_bind_some e
      try dsimp only at e
      refine hs_wc 1 (y := 152) (a := [hs_i (q8.2.1 54 0 (q8.2.1 55 0 q8.1.toNatClampNeg).toNatClampNeg)]) (v := some (hs_i q15.1)) (pc' := 92) (ls' := [hs_r 12 0, hs_i x1, hs_i x2, hs_i x3, hs_i x4, hs_i q8.1]) (st' := []) (h' := q8.2) (h2 := q15.2) (fun n w => w) (fun q => hc_152 (by omega) eq15 q) ?_
      refine hs_w 1 (pc' := 122) (ls' := [hs_r 12 0, hs_i x1, hs_i x2, hs_i x3, hs_i x4, hs_i q8.1]) (st' := [hs_i q15.1]) (h' := q15.2) (fun n w => w) ?_
      exact hw_205_122 hd e q
    · rw [if_neg b12] at e
      refine hs_w 2 (pc' := 122) (ls' := [hs_r 12 0, hs_i x1, hs_i x2, hs_i x3, hs_i x4, hs_i q8.1]) (st' := [hs_i (nI 0)]) (h' := q8.2) (fun n w => w) ?_
      exact hw_205_122 hd e q
/-- HuntedScentModel.doubt(IIII)I -/
def hf_205 (a1 : Int32) (a2 : Int32) (a3 : Int32) (a4 : Int32) (h : hs_H) : Option (Int32 × hs_H) := (hf_171 a1 h).bind (fun q1 => if q1.1 = 0 then (hb_205_50 q1.2) else ((hf_150 a2.toInt64 (lN 0) (lN 3) q1.2).bind (fun q3 => if q3.1 = 0 then (hb_205_50 q3.2) else ((hf_204 a3 q3.2).bind (fun q5 => if q5.1 = 0 then (hb_205_50 q5.2) else (if a4 = 0 then (hb_205_52 a1 a2 a3 a4 q5.2) else ((hf_150 a4.toInt64 (lN 10) (((nI 10) + a2).toInt64) q5.2).bind (fun q16 => if ¬ q16.1 = 0 then (hb_205_52 a1 a2 a3 a4 q16.2) else (hb_205_50 q16.2)))))))))
set_option maxHeartbeats 1000000 in
theorem hc_205 {S : hs_S} {D : Nat} {Q : hs_Q} (hD : 5 ≤ D) {a1 : Int32} {a2 : Int32} {a3 : Int32} {a4 : Int32} {h : hs_H} {r : Int32 × hs_H} (e : hf_205 a1 a2 a3 a4 h = some r) (q : Q (some (hs_i r.1)) r.2) : hs_call hs_ms S D 205 [hs_r 12 0, hs_i a1, hs_i a2, hs_i a3, hs_i a4] h Q := by
  refine hs_go (R := 4) hD rfl (Nat.le_of_ble_eq_true rfl) (fun d hd => ?_)
  show hs_W S d 1 hs_p205 Q 0 [hs_r 12 0, hs_i a1, hs_i a2, hs_i a3, hs_i a4, hs_u] [] h
  unfold hf_205 at e
  obtain ⟨q1, eq1, e⟩ := hs_bind_some e
  try dsimp only at e
  refine hs_wc 3 (y := 171) (a := [hs_r 12 0, hs_i a1]) (v := some (hs_i q1.1)) (pc' := 5) (ls' := [hs_r 12 0, hs_i a1, hs_i a2, hs_i a3, hs_i a4, hs_u]) (st' := []) (h' := h) (h2 := q1.2) (fun n w => w) (fun q => hc_171 (by omega) eq1 q) ?_
  refine hs_wb 1 (c := q1.1 = 0) (t := 50) (f := 8) (ls' := [hs_r 12 0, hs_i a1, hs_i a2, hs_i a3, hs_i a4, hs_u]) (st' := []) (h' := q1.2) (fun n w => w) (fun b2 => ?_) (fun b2 => ?_)
  · rw [if_pos b2] at e
    exact hw_205_50 hd e q
  · rw [if_neg b2] at e
    obtain ⟨q3, eq3, e⟩ := hs_bind_some e
    try dsimp only at e
    refine hs_wc 5 (y := 150) (a := [hs_l a2.toInt64, hs_l (lN 0), hs_l (lN 3)]) (v := some (hs_i q3.1)) (pc' := 17) (ls' := [hs_r 12 0, hs_i a1, hs_i a2, hs_i a3, hs_i a4, hs_u]) (st' := []) (h' := q1.2) (h2 := q3.2) (fun n w => w) (fun q => hc_150 (by omega) eq3 q) ?_
    refine hs_wb 1 (c := q3.1 = 0) (t := 50) (f := 20) (ls' := [hs_r 12 0, hs_i a1, hs_i a2, hs_i a3, hs_i a4, hs_u]) (st' := []) (h' := q3.2) (fun n w => w) (fun b4 => ?_) (fun b4 => ?_)
    · rw [if_pos b4] at e
      exact hw_205_50 hd e q
    · rw [if_neg b4] at e
      obtain ⟨q5, eq5, e⟩ := hs_bind_some e
      try dsimp only at e
      refine hs_wc 3 (y := 204) (a := [hs_r 12 0, hs_i a3]) (v := some (hs_i q5.1)) (pc' := 25) (ls' := [hs_r 12 0, hs_i a1, hs_i a2, hs_i a3, hs_i a4, hs_u]) (st' := []) (h' := q3.2) (h2 := q5.2) (fun n w => w) (fun q => hc_204 (by omega) eq5 q) ?_
      refine hs_wb 1 (c := q5.1 = 0) (t := 50) (f := 28) (ls' := [hs_r 12 0, hs_i a1, hs_i a2, hs_i a3, hs_i a4, hs_u]) (st' := []) (h' := q5.2) (fun n w => w) (fun b6 => ?_) (fun b6 => ?_)
      · rw [if_pos b6] at e
        exact hw_205_50 hd e q
      · rw [if_neg b6] at e
        refine hs_wb 2 (c := a4 = 0) (t := 52) (f := 33) (ls' := [hs_r 12 0, hs_i a1, hs_i a2, hs_i a3, hs_i a4, hs_u]) (st' := []) (h' := q5.2) (fun n w => w) (fun b7 => ?_) (fun b7 => ?_)
        · rw [if_pos b7] at e
          exact hw_205_52 hd e q
        · rw [if_neg b7] at e
          obtain ⟨q16, eq16, e⟩ := hs_bind_some e
          try dsimp only at e
          refine hs_wc 8 (y := 150) (a := [hs_l a4.toInt64, hs_l (lN 10), hs_l (((nI 10) + a2).toInt64)]) (v := some (hs_i q16.1)) (pc' := 47) (ls' := [hs_r 12 0, hs_i a1, hs_i a2, hs_i a3, hs_i a4, hs_u]) (st' := []) (h' := q5.2) (h2 := q16.2) (fun n w => w) (fun q => hc_150 (by omega) eq16 q) ?_
          refine hs_wb 1 (c := ¬ q16.1 = 0) (t := 52) (f := 50) (ls' := [hs_r 12 0, hs_i a1, hs_i a2, hs_i a3, hs_i a4, hs_u]) (st' := []) (h' := q16.2) (fun n w => w) (fun b17 => ?_) (fun b17 => ?_)
          · rw [if_pos b17] at e
            exact hw_205_52 hd e q
          · rw [if_neg b17] at e
            exact hw_205_50 hd e q
def hb_206_39     (h : hs_H) : Option (Int32 × hs_H) := some (nI 4294967295, h)
set_option maxHeartbeats 1000000 in
theorem hw_206_39 {S : hs_S} {d : Nat} {Q : hs_Q} (hd : 4 ≤ d)      {v1 : hs_V} {v2 : hs_V} {v3 : hs_V} {v4 : hs_V} {v5 : hs_V} {v6 : hs_V} {v7 : hs_V} {v8 : hs_V} {v9 : hs_V} {v10 : hs_V} {h : hs_H} {r : Int32 × hs_H} (e : hb_206_39 h = some r) (q : Q (some (hs_i r.1)) r.2) : hs_W S d 1 hs_p206 Q 39 [hs_r 12 0, v1, v2, v3, v4, v5, v6, v7, v8, v9, v10] [] h := by
  unfold hb_206_39 at e
  obtain rfl := Option.some.inj e
  exact hs_wr 2 (v := some (hs_i (nI 4294967295))) (h' := h) (fun n w => w) q
def hb_206_190    (s0 : Int32) (h : hs_H) : Option (Int32 × hs_H) := some (s0, h)
set_option maxHeartbeats 1000000 in
theorem hw_206_190 {S : hs_S} {d : Nat} {Q : hs_Q} (hd : 4 ≤ d)     {s0 : Int32} {v1 : hs_V} {v2 : hs_V} {v3 : hs_V} {v4 : hs_V} {v5 : hs_V} {v6 : hs_V} {v7 : hs_V} {v8 : hs_V} {v9 : hs_V} {v10 : hs_V} {h : hs_H} {r : Int32 × hs_H} (e : hb_206_190 s0 h = some r) (q : Q (some (hs_i r.1)) r.2) : hs_W S d 1 hs_p206 Q 190 [hs_r 12 0, v1, v2, v3, v4, v5, v6, v7, v8, v9, v10] [hs_i s0] h := by
  unfold hb_206_190 at e
  obtain rfl := Option.some.inj e
  exact hs_wr 1 (v := some (hs_i s0)) (h' := h) (fun n w => w) q
def hb_206_160  (k51 : Int32 × Int32 × Int32 × Int32 × Int32 × Int32 × Int32 × hs_H → Option (Int32 × hs_H)) (x1 : Int32) (x2 : Int32) (x3 : Int32) (x4 : Int32) (x5 : Int32) (x6 : Int32) (x7 : Int32)  (h : hs_H) : Option (Int32 × hs_H) := k51 (x1, x2, x3, x4, x5, x6, x7 + nI 1, h)
set_option maxHeartbeats 1000000 in
theorem hw_206_160 {S : hs_S} {d : Nat} {Q : hs_Q} (hd : 4 ≤ d)  {k51 : Int32 × Int32 × Int32 × Int32 × Int32 × Int32 × Int32 × hs_H → Option (Int32 × hs_H)} (hk51 : ∀ (x1 : Int32) (x2 : Int32) (x3 : Int32) (x4 : Int32) (x5 : Int32) (x6 : Int32) (x7 : Int32) (h : hs_H) (r : Int32 × hs_H) (v8 : hs_V) (v9 : hs_V) (v10 : hs_V), k51 (x1, x2, x3, x4, x5, x6, x7, h) = some r → Q (some (hs_i r.1)) r.2 → hs_W S d 1 hs_p206 Q 51 [hs_r 12 0, hs_i x1, hs_i x2, hs_i x3, hs_i x4, hs_i x5, hs_i x6, hs_i x7, v8, v9, v10] [] h) {x1 : Int32} {x2 : Int32} {x3 : Int32} {x4 : Int32} {x5 : Int32} {x6 : Int32} {x7 : Int32}  {v8 : hs_V} {v9 : hs_V} {v10 : hs_V} {h : hs_H} {r : Int32 × hs_H} (e : hb_206_160 k51 x1 x2 x3 x4 x5 x6 x7 h = some r) (q : Q (some (hs_i r.1)) r.2) : hs_W S d 1 hs_p206 Q 160 [hs_r 12 0, hs_i x1, hs_i x2, hs_i x3, hs_i x4, hs_i x5, hs_i x6, hs_i x7, v8, v9, v10] [] h := by
  unfold hb_206_160 at e
  refine hs_w 2 (pc' := 51) (ls' := [hs_r 12 0, hs_i x1, hs_i x2, hs_i x3, hs_i x4, hs_i x5, hs_i x6, hs_i (x7 + nI 1), v8, v9, v10]) (st' := []) (h' := h) (fun n w => w) ?_
  exact hk51 _ _ _ _ _ _ _ _ _ _ _ _ e q
def hb_206_158  (k51 : Int32 × Int32 × Int32 × Int32 × Int32 × Int32 × Int32 × hs_H → Option (Int32 × hs_H)) (x1 : Int32) (x2 : Int32) (x3 : Int32) (x4 : Int32) (x5 : Int32) (x7 : Int32) (s0 : Int32) (h : hs_H) : Option (Int32 × hs_H) := hb_206_160 k51 x1 x2 x3 x4 x5 s0 x7 h
set_option maxHeartbeats 1000000 in
theorem hw_206_158 {S : hs_S} {d : Nat} {Q : hs_Q} (hd : 4 ≤ d)  {k51 : Int32 × Int32 × Int32 × Int32 × Int32 × Int32 × Int32 × hs_H → Option (Int32 × hs_H)} (hk51 : ∀ (x1 : Int32) (x2 : Int32) (x3 : Int32) (x4 : Int32) (x5 : Int32) (x6 : Int32) (x7 : Int32) (h : hs_H) (r : Int32 × hs_H) (v8 : hs_V) (v9 : hs_V) (v10 : hs_V), k51 (x1, x2, x3, x4, x5, x6, x7, h) = some r → Q (some (hs_i r.1)) r.2 → hs_W S d 1 hs_p206 Q 51 [hs_r 12 0, hs_i x1, hs_i x2, hs_i x3, hs_i x4, hs_i x5, hs_i x6, hs_i x7, v8, v9, v10] [] h) {x1 : Int32} {x2 : Int32} {x3 : Int32} {x4 : Int32} {x5 : Int32} {x7 : Int32} {s0 : Int32} {v6 : hs_V} {v8 : hs_V} {v9 : hs_V} {v10 : hs_V} {h : hs_H} {r : Int32 × hs_H} (e : hb_206_158 k51 x1 x2 x3 x4 x5 x7 s0 h = some r) (q : Q (some (hs_i r.1)) r.2) : hs_W S d 1 hs_p206 Q 158 [hs_r 12 0, hs_i x1, hs_i x2, hs_i x3, hs_i x4, hs_i x5, v6, hs_i x7, v8, v9, v10] [hs_i s0] h := by
  unfold hb_206_158 at e
  refine hs_w 1 (pc' := 160) (ls' := [hs_r 12 0, hs_i x1, hs_i x2, hs_i x3, hs_i x4, hs_i x5, hs_i s0, hs_i x7, v8, v9, v10]) (st' := []) (h' := h) (fun n w => w) ?_
  exact hw_206_160 hd hk51 e q
def hb_206_144  (k51 : Int32 × Int32 × Int32 × Int32 × Int32 × Int32 × Int32 × hs_H → Option (Int32 × hs_H)) (x1 : Int32) (x2 : Int32) (x3 : Int32) (x4 : Int32) (x6 : Int32) (x7 : Int32) (x9 : Int32) (x10 : Int32) (s0 : Int32) (h : hs_H) : Option (Int32 × hs_H) := if x10 = 0 then (hb_206_158 k51 x1 x2 x3 x4 s0 x7 x6 h) else (hb_206_158 k51 x1 x2 x3 x4 s0 x7 x9 h)
set_option maxHeartbeats 1000000 in
theorem hw_206_144 {S : hs_S} {d : Nat} {Q : hs_Q} (hd : 4 ≤ d)  {k51 : Int32 × Int32 × Int32 × Int32 × Int32 × Int32 × Int32 × hs_H → Option (Int32 × hs_H)} (hk51 : ∀ (x1 : Int32) (x2 : Int32) (x3 : Int32) (x4 : Int32) (x5 : Int32) (x6 : Int32) (x7 : Int32) (h : hs_H) (r : Int32 × hs_H) (v8 : hs_V) (v9 : hs_V) (v10 : hs_V), k51 (x1, x2, x3, x4, x5, x6, x7, h) = some r → Q (some (hs_i r.1)) r.2 → hs_W S d 1 hs_p206 Q 51 [hs_r 12 0, hs_i x1, hs_i x2, hs_i x3, hs_i x4, hs_i x5, hs_i x6, hs_i x7, v8, v9, v10] [] h) {x1 : Int32} {x2 : Int32} {x3 : Int32} {x4 : Int32} {x6 : Int32} {x7 : Int32} {x9 : Int32} {x10 : Int32} {s0 : Int32} {v5 : hs_V} {v8 : hs_V} {h : hs_H} {r : Int32 × hs_H} (e : hb_206_144 k51 x1 x2 x3 x4 x6 x7 x9 x10 s0 h = some r) (q : Q (some (hs_i r.1)) r.2) : hs_W S d 1 hs_p206 Q 144 [hs_r 12 0, hs_i x1, hs_i x2, hs_i x3, hs_i x4, v5, hs_i x6, hs_i x7, v8, hs_i x9, hs_i x10] [hs_i s0] h := by
  unfold hb_206_144 at e
  refine hs_wb 3 (c := x10 = 0) (t := 156) (f := 151) (ls' := [hs_r 12 0, hs_i x1, hs_i x2, hs_i x3, hs_i x4, hs_i s0, hs_i x6, hs_i x7, v8, hs_i x9, hs_i x10]) (st' := []) (h' := h) (fun n w => w) (fun b20 => ?_) (fun b20 => ?_)
  · rw [if_pos b20] at e
    refine hs_w 1 (pc' := 158) (ls' := [hs_r 12 0, hs_i x1, hs_i x2, hs_i x3, hs_i x4, hs_i s0, hs_i x6, hs_i x7, v8, hs_i x9, hs_i x10]) (st' := [hs_i x6]) (h' := h) (fun n w => w) ?_
    exact hw_206_158 hd hk51 e q
  · rw [if_neg b20] at e
    refine hs_w 2 (pc' := 158) (ls' := [hs_r 12 0, hs_i x1, hs_i x2, hs_i x3, hs_i x4, hs_i s0, hs_i x6, hs_i x7, v8, hs_i x9, hs_i x10]) (st' := [hs_i x9]) (h' := h) (fun n w => w) ?_
    exact hw_206_158 hd hk51 e q
def hb_206_130  (k51 : Int32 × Int32 × Int32 × Int32 × Int32 × Int32 × Int32 × hs_H → Option (Int32 × hs_H)) (x1 : Int32) (x2 : Int32) (x3 : Int32) (x4 : Int32) (x5 : Int32) (x6 : Int32) (x7 : Int32) (x9 : Int32) (s0 : Int32) (h : hs_H) : Option (Int32 × hs_H) := if s0 = 0 then (hb_206_144 k51 x1 x2 x3 x4 x6 x7 x9 s0 x5 h) else (hb_206_144 k51 x1 x2 x3 x4 x6 x7 x9 s0 x7 h)
set_option maxHeartbeats 1000000 in
theorem hw_206_130 {S : hs_S} {d : Nat} {Q : hs_Q} (hd : 4 ≤ d)  {k51 : Int32 × Int32 × Int32 × Int32 × Int32 × Int32 × Int32 × hs_H → Option (Int32 × hs_H)} (hk51 : ∀ (x1 : Int32) (x2 : Int32) (x3 : Int32) (x4 : Int32) (x5 : Int32) (x6 : Int32) (x7 : Int32) (h : hs_H) (r : Int32 × hs_H) (v8 : hs_V) (v9 : hs_V) (v10 : hs_V), k51 (x1, x2, x3, x4, x5, x6, x7, h) = some r → Q (some (hs_i r.1)) r.2 → hs_W S d 1 hs_p206 Q 51 [hs_r 12 0, hs_i x1, hs_i x2, hs_i x3, hs_i x4, hs_i x5, hs_i x6, hs_i x7, v8, v9, v10] [] h) {x1 : Int32} {x2 : Int32} {x3 : Int32} {x4 : Int32} {x5 : Int32} {x6 : Int32} {x7 : Int32} {x9 : Int32} {s0 : Int32} {v8 : hs_V} {v10 : hs_V} {h : hs_H} {r : Int32 × hs_H} (e : hb_206_130 k51 x1 x2 x3 x4 x5 x6 x7 x9 s0 h = some r) (q : Q (some (hs_i r.1)) r.2) : hs_W S d 1 hs_p206 Q 130 [hs_r 12 0, hs_i x1, hs_i x2, hs_i x3, hs_i x4, hs_i x5, hs_i x6, hs_i x7, v8, hs_i x9, v10] [hs_i s0] h := by
  unfold hb_206_130 at e
  refine hs_wb 3 (c := s0 = 0) (t := 142) (f := 137) (ls' := [hs_r 12 0, hs_i x1, hs_i x2, hs_i x3, hs_i x4, hs_i x5, hs_i x6, hs_i x7, v8, hs_i x9, hs_i s0]) (st' := []) (h' := h) (fun n w => w) (fun b19 => ?_) (fun b19 => ?_)
  · rw [if_pos b19] at e
    refine hs_w 1 (pc' := 144) (ls' := [hs_r 12 0, hs_i x1, hs_i x2, hs_i x3, hs_i x4, hs_i x5, hs_i x6, hs_i x7, v8, hs_i x9, hs_i s0]) (st' := [hs_i x5]) (h' := h) (fun n w => w) ?_
    exact hw_206_144 hd hk51 e q
  · rw [if_neg b19] at e
    refine hs_w 2 (pc' := 144) (ls' := [hs_r 12 0, hs_i x1, hs_i x2, hs_i x3, hs_i x4, hs_i x5, hs_i x6, hs_i x7, v8, hs_i x9, hs_i s0]) (st' := [hs_i x7]) (h' := h) (fun n w => w) ?_
    exact hw_206_144 hd hk51 e q
def hb_206_125  (k51 : Int32 × Int32 × Int32 × Int32 × Int32 × Int32 × Int32 × hs_H → Option (Int32 × hs_H)) (x1 : Int32) (x2 : Int32) (x3 : Int32) (x4 : Int32) (x5 : Int32) (x6 : Int32) (x7 : Int32) (x9 : Int32)  (h : hs_H) : Option (Int32 × hs_H) := hb_206_130 k51 x1 x2 x3 x4 x5 x6 x7 x9 (nI 1) h
set_option maxHeartbeats 1000000 in
theorem hw_206_125 {S : hs_S} {d : Nat} {Q : hs_Q} (hd : 4 ≤ d)  {k51 : Int32 × Int32 × Int32 × Int32 × Int32 × Int32 × Int32 × hs_H → Option (Int32 × hs_H)} (hk51 : ∀ (x1 : Int32) (x2 : Int32) (x3 : Int32) (x4 : Int32) (x5 : Int32) (x6 : Int32) (x7 : Int32) (h : hs_H) (r : Int32 × hs_H) (v8 : hs_V) (v9 : hs_V) (v10 : hs_V), k51 (x1, x2, x3, x4, x5, x6, x7, h) = some r → Q (some (hs_i r.1)) r.2 → hs_W S d 1 hs_p206 Q 51 [hs_r 12 0, hs_i x1, hs_i x2, hs_i x3, hs_i x4, hs_i x5, hs_i x6, hs_i x7, v8, v9, v10] [] h) {x1 : Int32} {x2 : Int32} {x3 : Int32} {x4 : Int32} {x5 : Int32} {x6 : Int32} {x7 : Int32} {x9 : Int32}  {v8 : hs_V} {v10 : hs_V} {h : hs_H} {r : Int32 × hs_H} (e : hb_206_125 k51 x1 x2 x3 x4 x5 x6 x7 x9 h = some r) (q : Q (some (hs_i r.1)) r.2) : hs_W S d 1 hs_p206 Q 125 [hs_r 12 0, hs_i x1, hs_i x2, hs_i x3, hs_i x4, hs_i x5, hs_i x6, hs_i x7, v8, hs_i x9, v10] [] h := by
  unfold hb_206_125 at e
  refine hs_w 2 (pc' := 130) (ls' := [hs_r 12 0, hs_i x1, hs_i x2, hs_i x3, hs_i x4, hs_i x5, hs_i x6, hs_i x7, v8, hs_i x9, v10]) (st' := [hs_i (nI 1)]) (h' := h) (fun n w => w) ?_
  exact hw_206_130 hd hk51 e q
def hb_206_109  (k51 : Int32 × Int32 × Int32 × Int32 × Int32 × Int32 × Int32 × hs_H → Option (Int32 × hs_H)) (x1 : Int32) (x2 : Int32) (x3 : Int32) (x4 : Int32) (x5 : Int32) (x6 : Int32) (x7 : Int32) (s0 : Int32) (h : hs_H) : Option (Int32 × hs_H) := if x5 = (nI 4294967292) then (hb_206_125 k51 x1 x2 x3 x4 x5 x6 x7 s0 h) else (if x6 ≤ s0 then (hb_206_130 k51 x1 x2 x3 x4 x5 x6 x7 s0 (nI 0) h) else (hb_206_125 k51 x1 x2 x3 x4 x5 x6 x7 s0 h))
set_option maxHeartbeats 1000000 in
theorem hw_206_109 {S : hs_S} {d : Nat} {Q : hs_Q} (hd : 4 ≤ d)  {k51 : Int32 × Int32 × Int32 × Int32 × Int32 × Int32 × Int32 × hs_H → Option (Int32 × hs_H)} (hk51 : ∀ (x1 : Int32) (x2 : Int32) (x3 : Int32) (x4 : Int32) (x5 : Int32) (x6 : Int32) (x7 : Int32) (h : hs_H) (r : Int32 × hs_H) (v8 : hs_V) (v9 : hs_V) (v10 : hs_V), k51 (x1, x2, x3, x4, x5, x6, x7, h) = some r → Q (some (hs_i r.1)) r.2 → hs_W S d 1 hs_p206 Q 51 [hs_r 12 0, hs_i x1, hs_i x2, hs_i x3, hs_i x4, hs_i x5, hs_i x6, hs_i x7, v8, v9, v10] [] h) {x1 : Int32} {x2 : Int32} {x3 : Int32} {x4 : Int32} {x5 : Int32} {x6 : Int32} {x7 : Int32} {s0 : Int32} {v8 : hs_V} {v9 : hs_V} {v10 : hs_V} {h : hs_H} {r : Int32 × hs_H} (e : hb_206_109 k51 x1 x2 x3 x4 x5 x6 x7 s0 h = some r) (q : Q (some (hs_i r.1)) r.2) : hs_W S d 1 hs_p206 Q 109 [hs_r 12 0, hs_i x1, hs_i x2, hs_i x3, hs_i x4, hs_i x5, hs_i x6, hs_i x7, v8, v9, v10] [hs_i s0] h := by
  unfold hb_206_109 at e
  refine hs_wb 4 (c := x5 = (nI 4294967292)) (t := 125) (f := 118) (ls' := [hs_r 12 0, hs_i x1, hs_i x2, hs_i x3, hs_i x4, hs_i x5, hs_i x6, hs_i x7, v8, hs_i s0, v10]) (st' := []) (h' := h) (fun n w => w) (fun b18 => ?_) (fun b18 => ?_)
  · rw [if_pos b18] at e
    exact hw_206_125 hd hk51 e q
  · rw [if_neg b18] at e
    refine hs_wb 3 (c := x6 ≤ s0) (t := 129) (f := 125) (ls' := [hs_r 12 0, hs_i x1, hs_i x2, hs_i x3, hs_i x4, hs_i x5, hs_i x6, hs_i x7, v8, hs_i s0, v10]) (st' := []) (h' := h) (fun n w => w) (fun b21 => ?_) (fun b21 => ?_)
    · rw [if_pos b21] at e
      refine hs_w 1 (pc' := 130) (ls' := [hs_r 12 0, hs_i x1, hs_i x2, hs_i x3, hs_i x4, hs_i x5, hs_i x6, hs_i x7, v8, hs_i s0, v10]) (st' := [hs_i (nI 0)]) (h' := h) (fun n w => w) ?_
      exact hw_206_130 hd hk51 e q
    · rw [if_neg b21] at e
      exact hw_206_125 hd hk51 e q
def hb_206_51  (k51 : Int32 × Int32 × Int32 × Int32 × Int32 × Int32 × Int32 × hs_H → Option (Int32 × hs_H)) (x1 : Int32) (x2 : Int32) (x3 : Int32) (x4 : Int32) (x5 : Int32) (x6 : Int32) (x7 : Int32)  (h : hs_H) : Option (Int32 × hs_H) := if (h.1 12 0 2) ≤ x7 then (if ¬ x5 = (nI 4294967292) then (if ¬ x4 = 0 then (hb_206_190 x6 h) else (hb_206_190 x5 h)) else (hb_206_190 (nI 4294967292) h)) else (if ¬ ((x3 >>> (x7 &&& 31)) &&& (nI 1)) = 0 then (hb_206_160 k51 x1 x2 x3 x4 x5 x6 x7 h) else ((hf_203 x1 x2 (x3 ||| ((nI 1) <<< (x7 &&& 31))) h).bind (fun q13 => if ¬ q13.1 = (nI 4294967292) then (hs_ck (hs_inb q13.1 1000) (hs_ck (hs_inb (q13.2.1 55 0 q13.1.toNatClampNeg) 2048) ((hf_152 (q13.2.1 54 0 (q13.2.1 55 0 q13.1.toNatClampNeg).toNatClampNeg) q13.2).bind (fun q17 => hb_206_109 k51 x1 x2 x3 x4 x5 x6 x7 q17.1 q17.2)))) else (hb_206_109 k51 x1 x2 x3 x4 x5 x6 x7 (nI 0) q13.2))))
set_option maxHeartbeats 1000000 in
theorem hw_206_51 {S : hs_S} {d : Nat} {Q : hs_Q} (hd : 4 ≤ d)  {k51 : Int32 × Int32 × Int32 × Int32 × Int32 × Int32 × Int32 × hs_H → Option (Int32 × hs_H)} (hk51 : ∀ (x1 : Int32) (x2 : Int32) (x3 : Int32) (x4 : Int32) (x5 : Int32) (x6 : Int32) (x7 : Int32) (h : hs_H) (r : Int32 × hs_H) (v8 : hs_V) (v9 : hs_V) (v10 : hs_V), k51 (x1, x2, x3, x4, x5, x6, x7, h) = some r → Q (some (hs_i r.1)) r.2 → hs_W S d 1 hs_p206 Q 51 [hs_r 12 0, hs_i x1, hs_i x2, hs_i x3, hs_i x4, hs_i x5, hs_i x6, hs_i x7, v8, v9, v10] [] h) {x1 : Int32} {x2 : Int32} {x3 : Int32} {x4 : Int32} {x5 : Int32} {x6 : Int32} {x7 : Int32}  {v8 : hs_V} {v9 : hs_V} {v10 : hs_V} {h : hs_H} {r : Int32 × hs_H} (e : hb_206_51 k51 x1 x2 x3 x4 x5 x6 x7 h = some r) (q : Q (some (hs_i r.1)) r.2) : hs_W S d 1 hs_p206 Q 51 [hs_r 12 0, hs_i x1, hs_i x2, hs_i x3, hs_i x4, hs_i x5, hs_i x6, hs_i x7, v8, v9, v10] [] h := by
  unfold hb_206_51 at e
  refine hs_wb 4 (c := (h.1 12 0 2) ≤ x7) (t := 166) (f := 60) (ls' := [hs_r 12 0, hs_i x1, hs_i x2, hs_i x3, hs_i x4, hs_i x5, hs_i x6, hs_i x7, v8, v9, v10]) (st' := []) (h' := h) (fun n w => w) (fun b9 => ?_) (fun b9 => ?_)
  · rw [if_pos b9] at e
    refine hs_wb 3 (c := ¬ x5 = (nI 4294967292)) (t := 178) (f := 173) (ls' := [hs_r 12 0, hs_i x1, hs_i x2, hs_i x3, hs_i x4, hs_i x5, hs_i x6, hs_i x7, v8, v9, v10]) (st' := []) (h' := h) (fun n w => w) (fun b10 => ?_) (fun b10 => ?_)
    · rw [if_pos b10] at e
      refine hs_wb 2 (c := ¬ x4 = 0) (t := 188) (f := 183) (ls' := [hs_r 12 0, hs_i x1, hs_i x2, hs_i x3, hs_i x4, hs_i x5, hs_i x6, hs_i x7, v8, v9, v10]) (st' := []) (h' := h) (fun n w => w) (fun b11 => ?_) (fun b11 => ?_)
      · rw [if_pos b11] at e
        refine hs_w 1 (pc' := 190) (ls' := [hs_r 12 0, hs_i x1, hs_i x2, hs_i x3, hs_i x4, hs_i x5, hs_i x6, hs_i x7, v8, v9, v10]) (st' := [hs_i x6]) (h' := h) (fun n w => w) ?_
        exact hw_206_190 hd e q
      · rw [if_neg b11] at e
        refine hs_w 2 (pc' := 190) (ls' := [hs_r 12 0, hs_i x1, hs_i x2, hs_i x3, hs_i x4, hs_i x5, hs_i x6, hs_i x7, v8, v9, v10]) (st' := [hs_i x5]) (h' := h) (fun n w => w) ?_
        exact hw_206_190 hd e q
    · rw [if_neg b10] at e
      refine hs_w 2 (pc' := 190) (ls' := [hs_r 12 0, hs_i x1, hs_i x2, hs_i x3, hs_i x4, hs_i x5, hs_i x6, hs_i x7, v8, v9, v10]) (st' := [hs_i (nI 4294967292)]) (h' := h) (fun n w => w) ?_
      exact hw_206_190 hd e q
  · rw [if_neg b9] at e
    refine hs_wb 6 (c := ¬ ((x3 >>> (x7 &&& 31)) &&& (nI 1)) = 0) (t := 160) (f := 69) (ls' := [hs_r 12 0, hs_i x1, hs_i x2, hs_i x3, hs_i x4, hs_i x5, hs_i x6, hs_i x7, v8, v9, v10]) (st' := []) (h' := h) (fun n w => w) (fun b12 => ?_) (fun b12 => ?_)
    · rw [if_pos b12] at e
      exact hw_206_160 hd hk51 e q
    · rw [if_neg b12] at e
      obtain ⟨q13, eq13, e⟩ := hs_bind_some e
      try dsimp only at e
      refine hs_wc 9 (y := 203) (a := [hs_r 12 0, hs_i x1, hs_i x2, hs_i (x3 ||| ((nI 1) <<< (x7 &&& 31)))]) (v := some (hs_i q13.1)) (pc' := 81) (ls' := [hs_r 12 0, hs_i x1, hs_i x2, hs_i x3, hs_i x4, hs_i x5, hs_i x6, hs_i x7, v8, v9, v10]) (st' := []) (h' := h) (h2 := q13.2) (fun n w => w) (fun q => hc_203 (by omega) eq13 q) ?_
      refine hs_wb 4 (c := ¬ q13.1 = (nI 4294967292)) (t := 94) (f := 90) (ls' := [hs_r 12 0, hs_i x1, hs_i x2, hs_i x3, hs_i x4, hs_i x5, hs_i x6, hs_i x7, hs_i q13.1, v9, v10]) (st' := []) (h' := q13.2) (fun n w => w) (fun b14 => ?_) (fun b14 => ?_)
      · rw [if_pos b14] at e
        obtain ⟨c15, e⟩ := hs_ck_some e
        refine hs_wa 6 (c := vp_in q13.1 1000) (pc' := 105) (ls' := [hs_r 12 0, hs_i x1, hs_i x2, hs_i x3, hs_i x4, hs_i x5, hs_i x6, hs_i x7, hs_i q13.1, v9, v10]) (st' := [hs_i (q13.2.1 55 0 q13.1.toNatClampNeg), hs_r 54 0]) (h' := q13.2) (fun n w => w) (hs_inb_iff.mp c15) ?_
        obtain ⟨c16, e⟩ := hs_ck_some e
        refine hs_wa 1 (c := vp_in (q13.2.1 55 0 q13.1.toNatClampNeg) 2048) (pc' := 106) (ls' := [hs_r 12 0, hs_i x1, hs_i x2, hs_i x3, hs_i x4, hs_i x5, hs_i x6, hs_i x7, hs_i q13.1, v9, v10]) (st' := [hs_i (q13.2.1 54 0 (q13.2.1 55 0 q13.1.toNatClampNeg).toNatClampNeg)]) (h' := q13.2) (fun n w => w) (hs_inb_iff.mp c16) ?_
        obtain ⟨q17, eq17, e⟩ := hs_bind_some e
        try dsimp only at e
        refine hs_wc 1 (y := 152) (a := [hs_i (q13.2.1 54 0 (q13.2.1 55 0 q13.1.toNatClampNeg).toNatClampNeg)]) (v := some (hs_i q17.1)) (pc' := 109) (ls' := [hs_r 12 0, hs_i x1, hs_i x2, hs_i x3, hs_i x4, hs_i x5, hs_i x6, hs_i x7, hs_i q13.1, v9, v10]) (st' := []) (h' := q13.2) (h2 := q17.2) (fun n w => w) (fun q => hc_152 (by omega) eq17 q) ?_
        exact hw_206_109 hd hk51 e q
      · rw [if_neg b14] at e
        refine hs_w 2 (pc' := 109) (ls' := [hs_r 12 0, hs_i x1, hs_i x2, hs_i x3, hs_i x4, hs_i x5, hs_i x6, hs_i x7, hs_i q13.1, v9, v10]) (st' := [hs_i (nI 0)]) (h' := q13.2) (fun n w => w) ?_
        exact hw_206_109 hd hk51 e q
theorem hw_206_51_lp {S : hs_S} {d : Nat} {Q : hs_Q} (hd : 4 ≤ d)    (n : Nat) {x1 : Int32} {x2 : Int32} {x3 : Int32} {x4 : Int32} {x5 : Int32} {x6 : Int32} {x7 : Int32} {h : hs_H} {r : Int32 × hs_H} (e : hs_lp (fun k s => hb_206_51 k s.1 s.2.1 s.2.2.1 s.2.2.2.1 s.2.2.2.2.1 s.2.2.2.2.2.1 s.2.2.2.2.2.2.1 s.2.2.2.2.2.2.2) n (x1, x2, x3, x4, x5, x6, x7, h) = some r) (v8 : hs_V) (v9 : hs_V) (v10 : hs_V) (q : Q (some (hs_i r.1)) r.2) : hs_W S d 1 hs_p206 Q 51 [hs_r 12 0, hs_i x1, hs_i x2, hs_i x3, hs_i x4, hs_i x5, hs_i x6, hs_i x7, v8, v9, v10] [] h := by
  refine hs_lp_ind (P := fun (s : Int32 × Int32 × Int32 × Int32 × Int32 × Int32 × Int32 × hs_H) (r : Int32 × hs_H) => ∀ (v8 : hs_V) (v9 : hs_V) (v10 : hs_V), Q (some (hs_i r.1)) r.2 → hs_W S d 1 hs_p206 Q 51 [hs_r 12 0, hs_i s.1, hs_i s.2.1, hs_i s.2.2.1, hs_i s.2.2.2.1, hs_i s.2.2.2.2.1, hs_i s.2.2.2.2.2.1, hs_i s.2.2.2.2.2.2.1, v8, v9, v10] [] s.2.2.2.2.2.2.2) (fun k hk s r e v8 v9 v10 q => ?_) n (x1, x2, x3, x4, x5, x6, x7, h) r e v8 v9 v10 q
  exact hw_206_51 hd (fun x1 x2 x3 x4 x5 x6 x7 h r v8 v9 v10 e q => hk (x1, x2, x3, x4, x5, x6, x7, h) r e v8 v9 v10 q) e q
/-- HuntedScentModel.post(IIII)I -/
def hf_206 (a1 : Int32) (a2 : Int32) (a3 : Int32) (a4 : Int32) (h : hs_H) : Option (Int32 × hs_H) := (hf_171 a1 h).bind (fun q1 => if q1.1 = 0 then (hb_206_39 q1.2) else ((hf_150 a2.toInt64 (lN 0) (lN 3) q1.2).bind (fun q3 => if q3.1 = 0 then (hb_206_39 q3.2) else ((hf_204 a3 q3.2).bind (fun q5 => if q5.1 = 0 then (hb_206_39 q5.2) else ((hf_150 a4.toInt64 (lN 0) (lN 1) q5.2).bind (fun q7 => if ¬ q7.1 = 0 then (hs_lp (fun k s => hb_206_51 k s.1 s.2.1 s.2.2.1 s.2.2.2.1 s.2.2.2.2.1 s.2.2.2.2.2.1 s.2.2.2.2.2.2.1 s.2.2.2.2.2.2.2) hs_big (a1, a2, a3, a4, nI 4294967292, nI 0, nI 0, q7.2)) else (hb_206_39 q7.2))))))))
set_option maxHeartbeats 1000000 in
theorem hc_206 {S : hs_S} {D : Nat} {Q : hs_Q} (hD : 5 ≤ D) {a1 : Int32} {a2 : Int32} {a3 : Int32} {a4 : Int32} {h : hs_H} {r : Int32 × hs_H} (e : hf_206 a1 a2 a3 a4 h = some r) (q : Q (some (hs_i r.1)) r.2) : hs_call hs_ms S D 206 [hs_r 12 0, hs_i a1, hs_i a2, hs_i a3, hs_i a4] h Q := by
  refine hs_go (R := 4) hD rfl (Nat.le_of_ble_eq_true rfl) (fun d hd => ?_)
  show hs_W S d 1 hs_p206 Q 0 [hs_r 12 0, hs_i a1, hs_i a2, hs_i a3, hs_i a4, hs_u, hs_u, hs_u, hs_u, hs_u, hs_u] [] h
  unfold hf_206 at e
  obtain ⟨q1, eq1, e⟩ := hs_bind_some e
  try dsimp only at e
  refine hs_wc 3 (y := 171) (a := [hs_r 12 0, hs_i a1]) (v := some (hs_i q1.1)) (pc' := 5) (ls' := [hs_r 12 0, hs_i a1, hs_i a2, hs_i a3, hs_i a4, hs_u, hs_u, hs_u, hs_u, hs_u, hs_u]) (st' := []) (h' := h) (h2 := q1.2) (fun n w => w) (fun q => hc_171 (by omega) eq1 q) ?_
  refine hs_wb 1 (c := q1.1 = 0) (t := 39) (f := 8) (ls' := [hs_r 12 0, hs_i a1, hs_i a2, hs_i a3, hs_i a4, hs_u, hs_u, hs_u, hs_u, hs_u, hs_u]) (st' := []) (h' := q1.2) (fun n w => w) (fun b2 => ?_) (fun b2 => ?_)
  · rw [if_pos b2] at e
    exact hw_206_39 hd e q
  · rw [if_neg b2] at e
    obtain ⟨q3, eq3, e⟩ := hs_bind_some e
    try dsimp only at e
    refine hs_wc 5 (y := 150) (a := [hs_l a2.toInt64, hs_l (lN 0), hs_l (lN 3)]) (v := some (hs_i q3.1)) (pc' := 17) (ls' := [hs_r 12 0, hs_i a1, hs_i a2, hs_i a3, hs_i a4, hs_u, hs_u, hs_u, hs_u, hs_u, hs_u]) (st' := []) (h' := q1.2) (h2 := q3.2) (fun n w => w) (fun q => hc_150 (by omega) eq3 q) ?_
    refine hs_wb 1 (c := q3.1 = 0) (t := 39) (f := 20) (ls' := [hs_r 12 0, hs_i a1, hs_i a2, hs_i a3, hs_i a4, hs_u, hs_u, hs_u, hs_u, hs_u, hs_u]) (st' := []) (h' := q3.2) (fun n w => w) (fun b4 => ?_) (fun b4 => ?_)
    · rw [if_pos b4] at e
      exact hw_206_39 hd e q
    · rw [if_neg b4] at e
      obtain ⟨q5, eq5, e⟩ := hs_bind_some e
      try dsimp only at e
      refine hs_wc 3 (y := 204) (a := [hs_r 12 0, hs_i a3]) (v := some (hs_i q5.1)) (pc' := 25) (ls' := [hs_r 12 0, hs_i a1, hs_i a2, hs_i a3, hs_i a4, hs_u, hs_u, hs_u, hs_u, hs_u, hs_u]) (st' := []) (h' := q3.2) (h2 := q5.2) (fun n w => w) (fun q => hc_204 (by omega) eq5 q) ?_
      refine hs_wb 1 (c := q5.1 = 0) (t := 39) (f := 28) (ls' := [hs_r 12 0, hs_i a1, hs_i a2, hs_i a3, hs_i a4, hs_u, hs_u, hs_u, hs_u, hs_u, hs_u]) (st' := []) (h' := q5.2) (fun n w => w) (fun b6 => ?_) (fun b6 => ?_)
      · rw [if_pos b6] at e
        exact hw_206_39 hd e q
      · rw [if_neg b6] at e
        obtain ⟨q7, eq7, e⟩ := hs_bind_some e
        try dsimp only at e
        refine hs_wc 5 (y := 150) (a := [hs_l a4.toInt64, hs_l (lN 0), hs_l (lN 1)]) (v := some (hs_i q7.1)) (pc' := 36) (ls' := [hs_r 12 0, hs_i a1, hs_i a2, hs_i a3, hs_i a4, hs_u, hs_u, hs_u, hs_u, hs_u, hs_u]) (st' := []) (h' := q5.2) (h2 := q7.2) (fun n w => w) (fun q => hc_150 (by omega) eq7 q) ?_
        refine hs_wb 1 (c := ¬ q7.1 = 0) (t := 41) (f := 39) (ls' := [hs_r 12 0, hs_i a1, hs_i a2, hs_i a3, hs_i a4, hs_u, hs_u, hs_u, hs_u, hs_u, hs_u]) (st' := []) (h' := q7.2) (fun n w => w) (fun b8 => ?_) (fun b8 => ?_)
        · rw [if_pos b8] at e
          refine hs_w 6 (pc' := 51) (ls' := [hs_r 12 0, hs_i a1, hs_i a2, hs_i a3, hs_i a4, hs_i (nI 4294967292), hs_i (nI 0), hs_i (nI 0), hs_u, hs_u, hs_u]) (st' := []) (h' := q7.2) (fun n w => w) ?_
          exact hw_206_51_lp hd hs_big e _ _ _ q
        · rw [if_neg b8] at e
          exact hw_206_39 hd e q
def hb_207_64  (k2 : Int32 × hs_H → Option (hs_H)) (k16 : Int32 × Int32 × Int32 × hs_H → Option (hs_H)) (x1 : Int32) (x2 : Int32) (x3 : Int32)  (h : hs_H) : Option (hs_H) := k16 (x1, x2, x3 + nI 1, h)
set_option maxHeartbeats 1000000 in
theorem hw_207_64 {S : hs_S} {d : Nat} {Q : hs_Q} (hd : 0 ≤ d)  {k2 : Int32 × hs_H → Option (hs_H)} {k16 : Int32 × Int32 × Int32 × hs_H → Option (hs_H)} (hk2 : ∀ (x1 : Int32) (h : hs_H) (r : hs_H) (v2 : hs_V) (v3 : hs_V) (v4 : hs_V), k2 (x1, h) = some r → Q none r → hs_W S d 0 hs_p207 Q 2 [hs_r 12 0, hs_i x1, v2, v3, v4] [] h) (hk16 : ∀ (x1 : Int32) (x2 : Int32) (x3 : Int32) (h : hs_H) (r : hs_H) (v4 : hs_V), k16 (x1, x2, x3, h) = some r → Q none r → hs_W S d 0 hs_p207 Q 16 [hs_r 12 0, hs_i x1, hs_i x2, hs_i x3, v4] [] h) {x1 : Int32} {x2 : Int32} {x3 : Int32}  {v4 : hs_V} {h : hs_H} {r : hs_H} (e : hb_207_64 k2 k16 x1 x2 x3 h = some r) (q : Q none r) : hs_W S d 0 hs_p207 Q 64 [hs_r 12 0, hs_i x1, hs_i x2, hs_i x3, v4] [] h := by
  unfold hb_207_64 at e
  refine hs_w 2 (pc' := 16) (ls' := [hs_r 12 0, hs_i x1, hs_i x2, hs_i (x3 + nI 1), v4]) (st' := []) (h' := h) (fun n w => w) ?_
  exact hk16 _ _ _ _ _ _ e q
def hb_207_62  (k2 : Int32 × hs_H → Option (hs_H)) (k16 : Int32 × Int32 × Int32 × hs_H → Option (hs_H)) (x1 : Int32) (x3 : Int32) (s0 : Int32) (s1 : Int32) (h : hs_H) : Option (hs_H) := hb_207_64 k2 k16 x1 (s1 ||| s0) x3 h
set_option maxHeartbeats 1000000 in
theorem hw_207_62 {S : hs_S} {d : Nat} {Q : hs_Q} (hd : 0 ≤ d)  {k2 : Int32 × hs_H → Option (hs_H)} {k16 : Int32 × Int32 × Int32 × hs_H → Option (hs_H)} (hk2 : ∀ (x1 : Int32) (h : hs_H) (r : hs_H) (v2 : hs_V) (v3 : hs_V) (v4 : hs_V), k2 (x1, h) = some r → Q none r → hs_W S d 0 hs_p207 Q 2 [hs_r 12 0, hs_i x1, v2, v3, v4] [] h) (hk16 : ∀ (x1 : Int32) (x2 : Int32) (x3 : Int32) (h : hs_H) (r : hs_H) (v4 : hs_V), k16 (x1, x2, x3, h) = some r → Q none r → hs_W S d 0 hs_p207 Q 16 [hs_r 12 0, hs_i x1, hs_i x2, hs_i x3, v4] [] h) {x1 : Int32} {x3 : Int32} {s0 : Int32} {s1 : Int32} {v2 : hs_V} {v4 : hs_V} {h : hs_H} {r : hs_H} (e : hb_207_62 k2 k16 x1 x3 s0 s1 h = some r) (q : Q none r) : hs_W S d 0 hs_p207 Q 62 [hs_r 12 0, hs_i x1, v2, hs_i x3, v4] [hs_i s0, hs_i s1] h := by
  unfold hb_207_62 at e
  refine hs_w 2 (pc' := 64) (ls' := [hs_r 12 0, hs_i x1, hs_i (s1 ||| s0), hs_i x3, v4]) (st' := []) (h' := h) (fun n w => w) ?_
  exact hw_207_64 hd hk2 hk16 e q
def hb_207_16  (k2 : Int32 × hs_H → Option (hs_H)) (k16 : Int32 × Int32 × Int32 × hs_H → Option (hs_H)) (x1 : Int32) (x2 : Int32) (x3 : Int32)  (h : hs_H) : Option (hs_H) := if (h.1 12 0 2) ≤ x3 then (hs_ck (hs_inb x1 1024) (k2 (x1 + nI 1, hs_put h 57 0 x1.toNatClampNeg x2))) else (if ¬ ((x1 >>> (x3 &&& 31)) &&& (nI 1)) = (nI 1) then (hb_207_64 k2 k16 x1 x2 x3 h) else (hs_ck (hs_inb x3 162) (if ¬ ((h.1 44 0 x3.toNatClampNeg) ||| ((h.1 12 0 3) <<< (x3 &&& 31))) = 0 then (hb_207_62 k2 k16 x1 x3 ((h.1 44 0 x3.toNatClampNeg) ||| ((h.1 12 0 3) <<< (x3 &&& 31))) x2 h) else (hb_207_62 k2 k16 x1 x3 ((nI 1) <<< (x3 &&& 31)) x2 h))))
set_option maxHeartbeats 1000000 in
theorem hw_207_16 {S : hs_S} {d : Nat} {Q : hs_Q} (hd : 0 ≤ d)  {k2 : Int32 × hs_H → Option (hs_H)} {k16 : Int32 × Int32 × Int32 × hs_H → Option (hs_H)} (hk2 : ∀ (x1 : Int32) (h : hs_H) (r : hs_H) (v2 : hs_V) (v3 : hs_V) (v4 : hs_V), k2 (x1, h) = some r → Q none r → hs_W S d 0 hs_p207 Q 2 [hs_r 12 0, hs_i x1, v2, v3, v4] [] h) (hk16 : ∀ (x1 : Int32) (x2 : Int32) (x3 : Int32) (h : hs_H) (r : hs_H) (v4 : hs_V), k16 (x1, x2, x3, h) = some r → Q none r → hs_W S d 0 hs_p207 Q 16 [hs_r 12 0, hs_i x1, hs_i x2, hs_i x3, v4] [] h) {x1 : Int32} {x2 : Int32} {x3 : Int32}  {v4 : hs_V} {h : hs_H} {r : hs_H} (e : hb_207_16 k2 k16 x1 x2 x3 h = some r) (q : Q none r) : hs_W S d 0 hs_p207 Q 16 [hs_r 12 0, hs_i x1, hs_i x2, hs_i x3, v4] [] h := by
  unfold hb_207_16 at e
  refine hs_wb 4 (c := (h.1 12 0 2) ≤ x3) (t := 70) (f := 24) (ls' := [hs_r 12 0, hs_i x1, hs_i x2, hs_i x3, v4]) (st' := []) (h' := h) (fun n w => w) (fun b2 => ?_) (fun b2 => ?_)
  · rw [if_pos b2] at e
    obtain ⟨c3, e⟩ := hs_ck_some e
    refine hs_wa 5 (c := vp_in x1 1024) (pc' := 77) (ls' := [hs_r 12 0, hs_i x1, hs_i x2, hs_i x3, v4]) (st' := []) (h' := hs_put h 57 0 x1.toNatClampNeg x2) (fun n w => w) (hs_inb_iff.mp c3) ?_
    refine hs_w 2 (pc' := 2) (ls' := [hs_r 12 0, hs_i (x1 + nI 1), hs_i x2, hs_i x3, v4]) (st' := []) (h' := hs_put h 57 0 x1.toNatClampNeg x2) (fun n w => w) ?_
    exact hk2 _ _ _ _ _ _ e q
  · rw [if_neg b2] at e
    refine hs_wb 7 (c := ¬ ((x1 >>> (x3 &&& 31)) &&& (nI 1)) = (nI 1)) (t := 64) (f := 33) (ls' := [hs_r 12 0, hs_i x1, hs_i x2, hs_i x3, v4]) (st' := []) (h' := h) (fun n w => w) (fun b4 => ?_) (fun b4 => ?_)
    · rw [if_pos b4] at e
      exact hw_207_64 hd hk2 hk16 e q
    · rw [if_neg b4] at e
      obtain ⟨c5, e⟩ := hs_ck_some e
      refine hs_wa 4 (c := vp_in x3 162) (pc' := 39) (ls' := [hs_r 12 0, hs_i x1, hs_i x2, hs_i x3, v4]) (st' := [hs_i (h.1 44 0 x3.toNatClampNeg)]) (h' := h) (fun n w => w) (hs_inb_iff.mp c5) ?_
      refine hs_wb 9 (c := ¬ ((h.1 44 0 x3.toNatClampNeg) ||| ((h.1 12 0 3) <<< (x3 &&& 31))) = 0) (t := 60) (f := 54) (ls' := [hs_r 12 0, hs_i x1, hs_i x2, hs_i x3, hs_i ((h.1 44 0 x3.toNatClampNeg) ||| ((h.1 12 0 3) <<< (x3 &&& 31)))]) (st' := [hs_i x2]) (h' := h) (fun n w => w) (fun b6 => ?_) (fun b6 => ?_)
      · rw [if_pos b6] at e
        refine hs_w 1 (pc' := 62) (ls' := [hs_r 12 0, hs_i x1, hs_i x2, hs_i x3, hs_i ((h.1 44 0 x3.toNatClampNeg) ||| ((h.1 12 0 3) <<< (x3 &&& 31)))]) (st' := [hs_i ((h.1 44 0 x3.toNatClampNeg) ||| ((h.1 12 0 3) <<< (x3 &&& 31))), hs_i x2]) (h' := h) (fun n w => w) ?_
        exact hw_207_62 hd hk2 hk16 e q
      · rw [if_neg b6] at e
        refine hs_w 4 (pc' := 62) (ls' := [hs_r 12 0, hs_i x1, hs_i x2, hs_i x3, hs_i ((h.1 44 0 x3.toNatClampNeg) ||| ((h.1 12 0 3) <<< (x3 &&& 31)))]) (st' := [hs_i ((nI 1) <<< (x3 &&& 31)), hs_i x2]) (h' := h) (fun n w => w) ?_
        exact hw_207_62 hd hk2 hk16 e q
theorem hw_207_16_lp {S : hs_S} {d : Nat} {Q : hs_Q} (hd : 0 ≤ d)  {k2 : Int32 × hs_H → Option (hs_H)} (hk2 : ∀ (x1 : Int32) (h : hs_H) (r : hs_H) (v2 : hs_V) (v3 : hs_V) (v4 : hs_V), k2 (x1, h) = some r → Q none r → hs_W S d 0 hs_p207 Q 2 [hs_r 12 0, hs_i x1, v2, v3, v4] [] h) (n : Nat) {x1 : Int32} {x2 : Int32} {x3 : Int32} {h : hs_H} {r : hs_H} (e : hs_lp (fun k s => hb_207_16 k2 k s.1 s.2.1 s.2.2.1 s.2.2.2) n (x1, x2, x3, h) = some r) (v4 : hs_V) (q : Q none r) : hs_W S d 0 hs_p207 Q 16 [hs_r 12 0, hs_i x1, hs_i x2, hs_i x3, v4] [] h := by
  refine hs_lp_ind (P := fun (s : Int32 × Int32 × Int32 × hs_H) (r : hs_H) => ∀ (v4 : hs_V), Q none r → hs_W S d 0 hs_p207 Q 16 [hs_r 12 0, hs_i s.1, hs_i s.2.1, hs_i s.2.2.1, v4] [] s.2.2.2) (fun k hk s r e v4 q => ?_) n (x1, x2, x3, h) r e v4 q
  exact hw_207_16 hd hk2 (fun x1 x2 x3 h r v4 e q => hk (x1, x2, x3, h) r e v4 q) e q
def hb_207_2  (k2 : Int32 × hs_H → Option (hs_H)) (x1 : Int32)  (h : hs_H) : Option (hs_H) := if ((nI 1) <<< ((h.1 12 0 2) &&& 31)) ≤ x1 then (some h) else (hs_lp (fun k s => hb_207_16 k2 k s.1 s.2.1 s.2.2.1 s.2.2.2) hs_big (x1, nI 0, nI 0, h))
set_option maxHeartbeats 1000000 in
theorem hw_207_2 {S : hs_S} {d : Nat} {Q : hs_Q} (hd : 0 ≤ d)  {k2 : Int32 × hs_H → Option (hs_H)} (hk2 : ∀ (x1 : Int32) (h : hs_H) (r : hs_H) (v2 : hs_V) (v3 : hs_V) (v4 : hs_V), k2 (x1, h) = some r → Q none r → hs_W S d 0 hs_p207 Q 2 [hs_r 12 0, hs_i x1, v2, v3, v4] [] h) {x1 : Int32}  {v2 : hs_V} {v3 : hs_V} {v4 : hs_V} {h : hs_H} {r : hs_H} (e : hb_207_2 k2 x1 h = some r) (q : Q none r) : hs_W S d 0 hs_p207 Q 2 [hs_r 12 0, hs_i x1, v2, v3, v4] [] h := by
  unfold hb_207_2 at e
  refine hs_wb 6 (c := ((nI 1) <<< ((h.1 12 0 2) &&& 31)) ≤ x1) (t := 83) (f := 12) (ls' := [hs_r 12 0, hs_i x1, v2, v3, v4]) (st' := []) (h' := h) (fun n w => w) (fun b1 => ?_) (fun b1 => ?_)
  · rw [if_pos b1] at e
    obtain rfl := Option.some.inj e
    exact hs_wr 1 (v := none) (h' := h) (fun n w => w) q
  · rw [if_neg b1] at e
    refine hs_w 4 (pc' := 16) (ls' := [hs_r 12 0, hs_i x1, hs_i (nI 0), hs_i (nI 0), v4]) (st' := []) (h' := h) (fun n w => w) ?_
    exact hw_207_16_lp hd hk2 hs_big e _ q
theorem hw_207_2_lp {S : hs_S} {d : Nat} {Q : hs_Q} (hd : 0 ≤ d)    (n : Nat) {x1 : Int32} {h : hs_H} {r : hs_H} (e : hs_lp (fun k s => hb_207_2 k s.1 s.2) n (x1, h) = some r) (v2 : hs_V) (v3 : hs_V) (v4 : hs_V) (q : Q none r) : hs_W S d 0 hs_p207 Q 2 [hs_r 12 0, hs_i x1, v2, v3, v4] [] h := by
  refine hs_lp_ind (P := fun (s : Int32 × hs_H) (r : hs_H) => ∀ (v2 : hs_V) (v3 : hs_V) (v4 : hs_V), Q none r → hs_W S d 0 hs_p207 Q 2 [hs_r 12 0, hs_i s.1, v2, v3, v4] [] s.2) (fun k hk s r e v2 v3 v4 q => ?_) n (x1, h) r e v2 v3 v4 q
  exact hw_207_2 hd (fun x1 h r v2 v3 v4 e q => hk (x1, h) r e v2 v3 v4 q) e q
/-- HuntedScentModel.findNextSets()V -/
def hf_207  (h : hs_H) : Option (hs_H) := hs_lp (fun k s => hb_207_2 k s.1 s.2) hs_big (nI 0, h)
set_option maxHeartbeats 1000000 in
theorem hc_207 {S : hs_S} {D : Nat} {Q : hs_Q} (hD : 1 ≤ D)  {h : hs_H} {r : hs_H} (e : hf_207 h = some r) (q : Q none r) : hs_call hs_ms S D 207 [hs_r 12 0] h Q := by
  refine hs_go (R := 0) hD rfl (Nat.le_of_ble_eq_true rfl) (fun d hd => ?_)
  show hs_W S d 0 hs_p207 Q 0 [hs_r 12 0, hs_u, hs_u, hs_u, hs_u] [] h
  unfold hf_207 at e
  refine hs_w 2 (pc' := 2) (ls' := [hs_r 12 0, hs_i (nI 0), hs_u, hs_u, hs_u]) (st' := []) (h' := h) (fun n w => w) ?_
  exact hw_207_2_lp hd hs_big e _ _ _ q
def hb_209_63   (x4 : Int32)  (h : hs_H) : Option (Int32 × hs_H) := hs_ck (hs_b01 x4) (some (x4, h))
set_option maxHeartbeats 1000000 in
theorem hw_209_63 {S : hs_S} {d : Nat} {Q : hs_Q} (hd : 1 ≤ d)    {x4 : Int32}  {v1 : hs_V} {v2 : hs_V} {v3 : hs_V} {v5 : hs_V} {h : hs_H} {r : Int32 × hs_H} (e : hb_209_63 x4 h = some r) (q : Q (some (hs_i r.1)) r.2) : hs_W S d 2 hs_p209 Q 63 [hs_r 12 0, v1, v2, v3, hs_i x4, v5] [] h := by
  unfold hb_209_63 at e
  obtain ⟨c2, e⟩ := hs_ck_some e
  obtain rfl := Option.some.inj e
  exact hs_wra 2 (c := x4 = 0 ∨ x4 = 1) (v := some (hs_i x4)) (h' := h) (fun n w => w) (hs_b01_iff.mp c2) q
def hb_209_50  (k6 : Int32 × Int32 × Int32 × Int32 × Int32 × hs_H → Option (Int32 × hs_H)) (x1 : Int32) (x2 : Int32) (x3 : Int32) (x5 : Int32) (s0 : Int32) (h : hs_H) : Option (Int32 × hs_H) := k6 (x1, x2, x3, s0, (x5 - (nI 1)) &&& x1, h)
set_option maxHeartbeats 1000000 in
theorem hw_209_50 {S : hs_S} {d : Nat} {Q : hs_Q} (hd : 1 ≤ d)  {k6 : Int32 × Int32 × Int32 × Int32 × Int32 × hs_H → Option (Int32 × hs_H)} (hk6 : ∀ (x1 : Int32) (x2 : Int32) (x3 : Int32) (x4 : Int32) (x5 : Int32) (h : hs_H) (r : Int32 × hs_H) , k6 (x1, x2, x3, x4, x5, h) = some r → Q (some (hs_i r.1)) r.2 → hs_W S d 2 hs_p209 Q 6 [hs_r 12 0, hs_i x1, hs_i x2, hs_i x3, hs_i x4, hs_i x5] [] h) {x1 : Int32} {x2 : Int32} {x3 : Int32} {x5 : Int32} {s0 : Int32} {v4 : hs_V} {h : hs_H} {r : Int32 × hs_H} (e : hb_209_50 k6 x1 x2 x3 x5 s0 h = some r) (q : Q (some (hs_i r.1)) r.2) : hs_W S d 2 hs_p209 Q 50 [hs_r 12 0, hs_i x1, hs_i x2, hs_i x3, v4, hs_i x5] [hs_i s0] h := by
  unfold hb_209_50 at e
  refine hs_w 8 (pc' := 6) (ls' := [hs_r 12 0, hs_i x1, hs_i x2, hs_i x3, hs_i s0, hs_i ((x5 - (nI 1)) &&& x1)]) (st' := []) (h' := h) (fun n w => w) ?_
  exact hk6 _ _ _ _ _ _ _  e q
def hb_209_49  (k6 : Int32 × Int32 × Int32 × Int32 × Int32 × hs_H → Option (Int32 × hs_H)) (x1 : Int32) (x2 : Int32) (x3 : Int32) (x5 : Int32)  (h : hs_H) : Option (Int32 × hs_H) := hb_209_50 k6 x1 x2 x3 x5 (nI 0) h
set_option maxHeartbeats 1000000 in
theorem hw_209_49 {S : hs_S} {d : Nat} {Q : hs_Q} (hd : 1 ≤ d)  {k6 : Int32 × Int32 × Int32 × Int32 × Int32 × hs_H → Option (Int32 × hs_H)} (hk6 : ∀ (x1 : Int32) (x2 : Int32) (x3 : Int32) (x4 : Int32) (x5 : Int32) (h : hs_H) (r : Int32 × hs_H) , k6 (x1, x2, x3, x4, x5, h) = some r → Q (some (hs_i r.1)) r.2 → hs_W S d 2 hs_p209 Q 6 [hs_r 12 0, hs_i x1, hs_i x2, hs_i x3, hs_i x4, hs_i x5] [] h) {x1 : Int32} {x2 : Int32} {x3 : Int32} {x5 : Int32}  {v4 : hs_V} {h : hs_H} {r : Int32 × hs_H} (e : hb_209_49 k6 x1 x2 x3 x5 h = some r) (q : Q (some (hs_i r.1)) r.2) : hs_W S d 2 hs_p209 Q 49 [hs_r 12 0, hs_i x1, hs_i x2, hs_i x3, v4, hs_i x5] [] h := by
  unfold hb_209_49 at e
  refine hs_w 1 (pc' := 50) (ls' := [hs_r 12 0, hs_i x1, hs_i x2, hs_i x3, v4, hs_i x5]) (st' := [hs_i (nI 0)]) (h' := h) (fun n w => w) ?_
  exact hw_209_50 hd hk6 e q
def hb_209_6  (k6 : Int32 × Int32 × Int32 × Int32 × Int32 × hs_H → Option (Int32 × hs_H)) (x1 : Int32) (x2 : Int32) (x3 : Int32) (x4 : Int32) (x5 : Int32)  (h : hs_H) : Option (Int32 × hs_H) := if x5 ≤ 0 then (hb_209_63 x4 h) else (if ¬ x4 = 0 then (hb_209_63 x4 h) else ((hf_152 x5 h).bind (fun q4 => if ¬ q4.1 = x2 then (hb_209_49 k6 x1 x2 x3 x5 q4.2) else (hs_ck (hs_inb (x1 &&& (x5 ^^^ (nI 4294967295))) 1024) (hs_ck (hs_inb (q4.2.1 57 0 (x1 &&& (x5 ^^^ (nI 4294967295))).toNatClampNeg) 1024) (if ¬ (q4.2.1 58 0 (q4.2.1 57 0 (x1 &&& (x5 ^^^ (nI 4294967295))).toNatClampNeg).toNatClampNeg) = x3 then (hb_209_49 k6 x1 x2 x3 x5 q4.2) else (hb_209_50 k6 x1 x2 x3 x5 (nI 1) q4.2)))))))
set_option maxHeartbeats 1000000 in
theorem hw_209_6 {S : hs_S} {d : Nat} {Q : hs_Q} (hd : 1 ≤ d)  {k6 : Int32 × Int32 × Int32 × Int32 × Int32 × hs_H → Option (Int32 × hs_H)} (hk6 : ∀ (x1 : Int32) (x2 : Int32) (x3 : Int32) (x4 : Int32) (x5 : Int32) (h : hs_H) (r : Int32 × hs_H) , k6 (x1, x2, x3, x4, x5, h) = some r → Q (some (hs_i r.1)) r.2 → hs_W S d 2 hs_p209 Q 6 [hs_r 12 0, hs_i x1, hs_i x2, hs_i x3, hs_i x4, hs_i x5] [] h) {x1 : Int32} {x2 : Int32} {x3 : Int32} {x4 : Int32} {x5 : Int32}   {h : hs_H} {r : Int32 × hs_H} (e : hb_209_6 k6 x1 x2 x3 x4 x5 h = some r) (q : Q (some (hs_i r.1)) r.2) : hs_W S d 2 hs_p209 Q 6 [hs_r 12 0, hs_i x1, hs_i x2, hs_i x3, hs_i x4, hs_i x5] [] h := by
  unfold hb_209_6 at e
  refine hs_wb 2 (c := x5 ≤ 0) (t := 63) (f := 11) (ls' := [hs_r 12 0, hs_i x1, hs_i x2, hs_i x3, hs_i x4, hs_i x5]) (st' := []) (h' := h) (fun n w => w) (fun b1 => ?_) (fun b1 => ?_)
  · rw [if_pos b1] at e
    exact hw_209_63 hd e q
  · rw [if_neg b1] at e
    refine hs_wb 2 (c := ¬ x4 = 0) (t := 63) (f := 16) (ls' := [hs_r 12 0, hs_i x1, hs_i x2, hs_i x3, hs_i x4, hs_i x5]) (st' := []) (h' := h) (fun n w => w) (fun b3 => ?_) (fun b3 => ?_)
    · rw [if_pos b3] at e
      exact hw_209_63 hd e q
    · rw [if_neg b3] at e
      obtain ⟨q4, eq4, e⟩ := hs_bind_some e
      try dsimp only at e
      refine hs_wc 2 (y := 152) (a := [hs_i x5]) (v := some (hs_i q4.1)) (pc' := 21) (ls' := [hs_r 12 0, hs_i x1, hs_i x2, hs_i x3, hs_i x4, hs_i x5]) (st' := []) (h' := h) (h2 := q4.2) (fun n w => w) (fun q => hc_152 (by omega) eq4 q) ?_
      refine hs_wb 2 (c := ¬ q4.1 = x2) (t := 49) (f := 25) (ls' := [hs_r 12 0, hs_i x1, hs_i x2, hs_i x3, hs_i x4, hs_i x5]) (st' := []) (h' := q4.2) (fun n w => w) (fun b5 => ?_) (fun b5 => ?_)
      · rw [if_pos b5] at e
        exact hw_209_49 hd hk6 e q
      · rw [if_neg b5] at e
        obtain ⟨c6, e⟩ := hs_ck_some e
        refine hs_wa 10 (c := vp_in (x1 &&& (x5 ^^^ (nI 4294967295))) 1024) (pc' := 40) (ls' := [hs_r 12 0, hs_i x1, hs_i x2, hs_i x3, hs_i x4, hs_i x5]) (st' := [hs_i (q4.2.1 57 0 (x1 &&& (x5 ^^^ (nI 4294967295))).toNatClampNeg), hs_r 58 0]) (h' := q4.2) (fun n w => w) (hs_inb_iff.mp c6) ?_
        obtain ⟨c7, e⟩ := hs_ck_some e
        refine hs_wa 1 (c := vp_in (q4.2.1 57 0 (x1 &&& (x5 ^^^ (nI 4294967295))).toNatClampNeg) 1024) (pc' := 41) (ls' := [hs_r 12 0, hs_i x1, hs_i x2, hs_i x3, hs_i x4, hs_i x5]) (st' := [hs_i (q4.2.1 58 0 (q4.2.1 57 0 (x1 &&& (x5 ^^^ (nI 4294967295))).toNatClampNeg).toNatClampNeg)]) (h' := q4.2) (fun n w => w) (hs_inb_iff.mp c7) ?_
        refine hs_wb 2 (c := ¬ (q4.2.1 58 0 (q4.2.1 57 0 (x1 &&& (x5 ^^^ (nI 4294967295))).toNatClampNeg).toNatClampNeg) = x3) (t := 49) (f := 45) (ls' := [hs_r 12 0, hs_i x1, hs_i x2, hs_i x3, hs_i x4, hs_i x5]) (st' := []) (h' := q4.2) (fun n w => w) (fun b8 => ?_) (fun b8 => ?_)
        · rw [if_pos b8] at e
          exact hw_209_49 hd hk6 e q
        · rw [if_neg b8] at e
          refine hs_w 2 (pc' := 50) (ls' := [hs_r 12 0, hs_i x1, hs_i x2, hs_i x3, hs_i x4, hs_i x5]) (st' := [hs_i (nI 1)]) (h' := q4.2) (fun n w => w) ?_
          exact hw_209_50 hd hk6 e q
theorem hw_209_6_lp {S : hs_S} {d : Nat} {Q : hs_Q} (hd : 1 ≤ d)    (n : Nat) {x1 : Int32} {x2 : Int32} {x3 : Int32} {x4 : Int32} {x5 : Int32} {h : hs_H} {r : Int32 × hs_H} (e : hs_lp (fun k s => hb_209_6 k s.1 s.2.1 s.2.2.1 s.2.2.2.1 s.2.2.2.2.1 s.2.2.2.2.2) n (x1, x2, x3, x4, x5, h) = some r)  (q : Q (some (hs_i r.1)) r.2) : hs_W S d 2 hs_p209 Q 6 [hs_r 12 0, hs_i x1, hs_i x2, hs_i x3, hs_i x4, hs_i x5] [] h := by
  refine hs_lp_ind (P := fun (s : Int32 × Int32 × Int32 × Int32 × Int32 × hs_H) (r : Int32 × hs_H) => ∀ (_ : True), Q (some (hs_i r.1)) r.2 → hs_W S d 2 hs_p209 Q 6 [hs_r 12 0, hs_i s.1, hs_i s.2.1, hs_i s.2.2.1, hs_i s.2.2.2.1, hs_i s.2.2.2.2.1] [] s.2.2.2.2.2) (fun k hk s r e _ q => ?_) n (x1, x2, x3, x4, x5, h) r e trivial q
  exact hw_209_6 hd (fun x1 x2 x3 x4 x5 h r  e q => hk (x1, x2, x3, x4, x5, h) r e trivial q) e q
/-- HuntedScentModel.canBy(III)Z -/
def hf_209 (a1 : Int32) (a2 : Int32) (a3 : Int32) (h : hs_H) : Option (Int32 × hs_H) := hs_lp (fun k s => hb_209_6 k s.1 s.2.1 s.2.2.1 s.2.2.2.1 s.2.2.2.2.1 s.2.2.2.2.2) hs_big (a1, a2, a3, nI 0, a1, h)
set_option maxHeartbeats 1000000 in
theorem hc_209 {S : hs_S} {D : Nat} {Q : hs_Q} (hD : 2 ≤ D) {a1 : Int32} {a2 : Int32} {a3 : Int32} {h : hs_H} {r : Int32 × hs_H} (e : hf_209 a1 a2 a3 h = some r) (q : Q (some (hs_i r.1)) r.2) : hs_call hs_ms S D 209 [hs_r 12 0, hs_i a1, hs_i a2, hs_i a3] h Q := by
  refine hs_go (R := 1) hD rfl (Nat.le_of_ble_eq_true rfl) (fun d hd => ?_)
  show hs_W S d 2 hs_p209 Q 0 [hs_r 12 0, hs_i a1, hs_i a2, hs_i a3, hs_u, hs_u] [] h
  unfold hf_209 at e
  refine hs_w 4 (pc' := 6) (ls' := [hs_r 12 0, hs_i a1, hs_i a2, hs_i a3, hs_i (nI 0), hs_i a1]) (st' := []) (h' := h) (fun n w => w) ?_
  exact hw_209_6_lp hd hs_big e  q
