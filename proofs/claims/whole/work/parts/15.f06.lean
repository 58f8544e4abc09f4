/-! What the methods compute, by program; and that the small machine computes it. -/
def hb_161_274     (h : hs_H) : Option (hs_H) := some h
set_option maxHeartbeats 1000000 in
theorem hw_161_274 {S : hs_S} {d : Nat} {Q : hs_Q} (hd : 1 ≤ d)      {v1 : hs_V} {h : hs_H} {r : hs_H} (e : hb_161_274 h = some r) (q : Q none r) : hs_W S d 0 hs_p161 Q 274 [hs_r 12 0, v1] [] h := by
  unfold hb_161_274 at e
  obtain rfl := Option.some.inj e
  exact hs_wr 1 (v := none) (h' := h) (fun n w => w) q
def hb_161_260    (s0 : Int32) (h : hs_H) : Option (hs_H) := (hf_157 s0 (nI 1) h).bind (fun q11 => hb_161_274 (hs_put q11 12 0 15 ((q11.1 12 0 15) + (nI 1))))
set_option maxHeartbeats 1000000 in
theorem hw_161_260 {S : hs_S} {d : Nat} {Q : hs_Q} (hd : 1 ≤ d)     {s0 : Int32} {v1 : hs_V} {h : hs_H} {r : hs_H} (e : hb_161_260 s0 h = some r) (q : Q none r) : hs_W S d 0 hs_p161 Q 260 [hs_r 12 0, v1] [hs_i s0, hs_r 12 0] h := by
  unfold hb_161_260 at e
  obtain ⟨q11, eq11, e⟩ := hs_bind_some e
  try dsimp only at e
  refine hs_wc 2 (y := 157) (a := [hs_r 12 0, hs_i s0, hs_i (nI 1)]) (v := none) (pc' := 264) (ls' := [hs_r 12 0, v1]) (st' := []) (h' := h) (h2 := q11) (fun n w => w) (fun q => hc_157 (by omega) eq11 q) ?_
  refine hs_w 6 (pc' := 274) (ls' := [hs_r 12 0, v1]) (st' := []) (h' := hs_put q11 12 0 15 ((q11.1 12 0 15) + (nI 1))) (fun n w => w) ?_
  exact hw_161_274 hd e q
def hb_161_236    (s0 : Int32) (h : hs_H) : Option (hs_H) := (hf_157 s0 (nI 1) h).bind (fun q16 => hb_161_274 q16)
set_option maxHeartbeats 1000000 in
theorem hw_161_236 {S : hs_S} {d : Nat} {Q : hs_Q} (hd : 1 ≤ d)     {s0 : Int32} {v1 : hs_V} {h : hs_H} {r : hs_H} (e : hb_161_236 s0 h = some r) (q : Q none r) : hs_W S d 0 hs_p161 Q 236 [hs_r 12 0, v1] [hs_i s0, hs_r 12 0] h := by
  unfold hb_161_236 at e
  obtain ⟨q16, eq16, e⟩ := hs_bind_some e
  try dsimp only at e
  refine hs_wc 2 (y := 157) (a := [hs_r 12 0, hs_i s0, hs_i (nI 1)]) (v := none) (pc' := 240) (ls' := [hs_r 12 0, v1]) (st' := []) (h' := h) (h2 := q16) (fun n w => w) (fun q => hc_157 (by omega) eq16 q) ?_
  refine hs_w 1 (pc' := 274) (ls' := [hs_r 12 0, v1]) (st' := []) (h' := q16) (fun n w => w) ?_
  exact hw_161_274 hd e q
def hb_161_201  (k140 : hs_H → Option (hs_H))  (s0 : Int32) (h : hs_H) : Option (hs_H) := k140 (hs_put (hs_put h 12 0 18 s0) 12 0 15 (((hs_put h 12 0 18 s0).1 12 0 15) + (nI 1)))
set_option maxHeartbeats 1000000 in
theorem hw_161_201 {S : hs_S} {d : Nat} {Q : hs_Q} (hd : 1 ≤ d)  {k140 : hs_H → Option (hs_H)} (hk140 : ∀  (h : hs_H) (r : hs_H) (v1 : hs_V), k140 (h) = some r → Q none r → hs_W S d 0 hs_p161 Q 140 [hs_r 12 0, v1] [] h)  {s0 : Int32} {v1 : hs_V} {h : hs_H} {r : hs_H} (e : hb_161_201 k140 s0 h = some r) (q : Q none r) : hs_W S d 0 hs_p161 Q 201 [hs_r 12 0, v1] [hs_i s0, hs_r 12 0] h := by
  unfold hb_161_201 at e
  refine hs_w 8 (pc' := 140) (ls' := [hs_r 12 0, v1]) (st' := []) (h' := hs_put (hs_put h 12 0 18 s0) 12 0 15 (((hs_put h 12 0 18 s0).1 12 0 15) + (nI 1))) (fun n w => w) ?_
  exact hk140  _ _ _ e q
def hb_161_140  (k140 : hs_H → Option (hs_H))   (h : hs_H) : Option (hs_H) := (hf_158 (h.1 12 0 15) h).bind (fun q12 => (hf_150 q12.1.toInt64 (lN 48) (lN 57) q12.2).bind (fun q13 => if q13.1 = 0 then (if (nI 2) < ((q13.2.1 12 0 15) - (q13.2.1 12 0 16)) then (hb_161_236 (nI 0) q13.2) else (hb_161_236 (nI 1) q13.2)) else (if (nI 2) ≤ ((q13.2.1 12 0 15) - (q13.2.1 12 0 16)) then (hb_161_201 k140 (q13.2.1 12 0 18) q13.2) else ((hf_158 (q13.2.1 12 0 15) q13.2).bind (fun q18 => hb_161_201 k140 ((((nI 10) * (q13.2.1 12 0 18)) + q18.1) - (nI 48)) q18.2)))))
set_option maxHeartbeats 1000000 in
theorem hw_161_140 {S : hs_S} {d : Nat} {Q : hs_Q} (hd : 1 ≤ d)  {k140 : hs_H → Option (hs_H)} (hk140 : ∀  (h : hs_H) (r : hs_H) (v1 : hs_V), k140 (h) = some r → Q none r → hs_W S d 0 hs_p161 Q 140 [hs_r 12 0, v1] [] h)   {v1 : hs_V} {h : hs_H} {r : hs_H} (e : hb_161_140 k140 h = some r) (q : Q none r) : hs_W S d 0 hs_p161 Q 140 [hs_r 12 0, v1] [] h := by
  unfold hb_161_140 at e
  obtain ⟨q12, eq12, e⟩ := hs_bind_some e
  try dsimp only at e
  refine hs_wc 4 (y := 158) (a := [hs_r 12 0, hs_i (h.1 12 0 15)]) (v := some (hs_i q12.1)) (pc' := 148) (ls' := [hs_r 12 0, v1]) (st' := []) (h' := h) (h2 := q12.2) (fun n w => w) (fun q => hc_158 (by omega) eq12 q) ?_
  obtain ⟨q13, eq13, e⟩ := hs_bind_some e
  try dsimp only at e
  refine hs_wc 4 (y := 150) (a := [hs_l q12.1.toInt64, hs_l (lN 48), hs_l (lN 57)]) (v := some (hs_i q13.1)) (pc' := 158) (ls' := [hs_r 12 0, v1]) (st' := []) (h' := q12.2) (h2 := q13.2) (fun n w => w) (fun q => hc_150 (by omega) eq13 q) ?_
  refine hs_wb 1 (c := q13.1 = 0) (t := 217) (f := 161) (ls' := [hs_r 12 0, v1]) (st' := []) (h' := q13.2) (fun n w => w) (fun b14 => ?_) (fun b14 => ?_)
  · rw [if_pos b14] at e
    refine hs_wb 8 (c := (nI 2) < ((q13.2.1 12 0 15) - (q13.2.1 12 0 16))) (t := 235) (f := 231) (ls' := [hs_r 12 0, v1]) (st' := [hs_r 12 0]) (h' := q13.2) (fun n w => w) (fun b15 => ?_) (fun b15 => ?_)
    · rw [if_pos b15] at e
      refine hs_w 1 (pc' := 236) (ls' := [hs_r 12 0, v1]) (st' := [hs_i (nI 0), hs_r 12 0]) (h' := q13.2) (fun n w => w) ?_
      exact hw_161_236 hd e q
    · rw [if_neg b15] at e
      refine hs_w 2 (pc' := 236) (ls' := [hs_r 12 0, v1]) (st' := [hs_i (nI 1), hs_r 12 0]) (h' := q13.2) (fun n w => w) ?_
      exact hw_161_236 hd e q
  · rw [if_neg b14] at e
    refine hs_wb 8 (c := (nI 2) ≤ ((q13.2.1 12 0 15) - (q13.2.1 12 0 16))) (t := 197) (f := 175) (ls' := [hs_r 12 0, v1]) (st' := [hs_r 12 0]) (h' := q13.2) (fun n w => w) (fun b17 => ?_) (fun b17 => ?_)
    · rw [if_pos b17] at e
      refine hs_w 2 (pc' := 201) (ls' := [hs_r 12 0, v1]) (st' := [hs_i (q13.2.1 12 0 18), hs_r 12 0]) (h' := q13.2) (fun n w => w) ?_
      exact hw_161_201 hd hk140 e q
    · rw [if_neg b17] at e
      obtain ⟨q18, eq18, e⟩ := hs_bind_some e
      try dsimp only at e
      refine hs_wc 8 (y := 158) (a := [hs_r 12 0, hs_i (q13.2.1 12 0 15)]) (v := some (hs_i q18.1)) (pc' := 190) (ls' := [hs_r 12 0, v1]) (st' := [hs_i ((nI 10) * (q13.2.1 12 0 18)), hs_r 12 0]) (h' := q13.2) (h2 := q18.2) (fun n w => w) (fun q => hc_158 (by omega) eq18 q) ?_
      refine hs_w 4 (pc' := 201) (ls' := [hs_r 12 0, v1]) (st' := [hs_i ((((nI 10) * (q13.2.1 12 0 18)) + q18.1) - (nI 48)), hs_r 12 0]) (h' := q18.2) (fun n w => w) ?_
      exact hw_161_201 hd hk140 e q
theorem hw_161_140_lp {S : hs_S} {d : Nat} {Q : hs_Q} (hd : 1 ≤ d)    (n : Nat)  {h : hs_H} {r : hs_H} (e : hs_lp (fun k s => hb_161_140 k s) n (h) = some r) (v1 : hs_V) (q : Q none r) : hs_W S d 0 hs_p161 Q 140 [hs_r 12 0, v1] [] h := by
  refine hs_lp_ind (P := fun (s : hs_H) (r : hs_H) => ∀ (v1 : hs_V), Q none r → hs_W S d 0 hs_p161 Q 140 [hs_r 12 0, v1] [] s) (fun k hk s r e v1 q => ?_) n (h) r e v1 q
  exact hw_161_140 hd (fun  h r v1 e q => hk (h) r e v1 q) e q
def hb_161_82  (k82 : hs_H → Option (hs_H))   (h : hs_H) : Option (hs_H) := (hf_158 (h.1 12 0 15) h).bind (fun q19 => (hf_150 q19.1.toInt64 (lN 97) (lN 122) q19.2).bind (fun q20 => if q20.1 = 0 then (hb_161_274 q20.2) else (k82 (hs_put q20.2 12 0 15 ((q20.2.1 12 0 15) + (nI 1))))))
set_option maxHeartbeats 1000000 in
theorem hw_161_82 {S : hs_S} {d : Nat} {Q : hs_Q} (hd : 1 ≤ d)  {k82 : hs_H → Option (hs_H)} (hk82 : ∀  (h : hs_H) (r : hs_H) (v1 : hs_V), k82 (h) = some r → Q none r → hs_W S d 0 hs_p161 Q 82 [hs_r 12 0, v1] [] h)   {v1 : hs_V} {h : hs_H} {r : hs_H} (e : hb_161_82 k82 h = some r) (q : Q none r) : hs_W S d 0 hs_p161 Q 82 [hs_r 12 0, v1] [] h := by
  unfold hb_161_82 at e
  obtain ⟨q19, eq19, e⟩ := hs_bind_some e
  try dsimp only at e
  refine hs_wc 4 (y := 158) (a := [hs_r 12 0, hs_i (h.1 12 0 15)]) (v := some (hs_i q19.1)) (pc' := 90) (ls' := [hs_r 12 0, v1]) (st' := []) (h' := h) (h2 := q19.2) (fun n w => w) (fun q => hc_158 (by omega) eq19 q) ?_
  obtain ⟨q20, eq20, e⟩ := hs_bind_some e
  try dsimp only at e
  refine hs_wc 4 (y := 150) (a := [hs_l q19.1.toInt64, hs_l (lN 97), hs_l (lN 122)]) (v := some (hs_i q20.1)) (pc' := 100) (ls' := [hs_r 12 0, v1]) (st' := []) (h' := q19.2) (h2 := q20.2) (fun n w => w) (fun q => hc_150 (by omega) eq20 q) ?_
  refine hs_wb 1 (c := q20.1 = 0) (t := 274) (f := 103) (ls' := [hs_r 12 0, v1]) (st' := []) (h' := q20.2) (fun n w => w) (fun b21 => ?_) (fun b21 => ?_)
  · rw [if_pos b21] at e
    exact hw_161_274 hd e q
  · rw [if_neg b21] at e
    refine hs_w 7 (pc' := 82) (ls' := [hs_r 12 0, v1]) (st' := []) (h' := hs_put q20.2 12 0 15 ((q20.2.1 12 0 15) + (nI 1))) (fun n w => w) ?_
    exact hk82  _ _ _ e q
theorem hw_161_82_lp {S : hs_S} {d : Nat} {Q : hs_Q} (hd : 1 ≤ d)    (n : Nat)  {h : hs_H} {r : hs_H} (e : hs_lp (fun k s => hb_161_82 k s) n (h) = some r) (v1 : hs_V) (q : Q none r) : hs_W S d 0 hs_p161 Q 82 [hs_r 12 0, v1] [] h := by
  refine hs_lp_ind (P := fun (s : hs_H) (r : hs_H) => ∀ (v1 : hs_V), Q none r → hs_W S d 0 hs_p161 Q 82 [hs_r 12 0, v1] [] s) (fun k hk s r e v1 q => ?_) n (h) r e v1 q
  exact hw_161_82 hd (fun  h r v1 e q => hk (h) r e v1 q) e q
def hb_161_8  (k8 : hs_H → Option (hs_H))   (h : hs_H) : Option (hs_H) := (hf_158 (h.1 12 0 15) h).bind (fun q2 => if ¬ q2.1 = (nI 32) then ((hf_158 ((hs_put q2.2 12 0 16 (q2.2.1 12 0 15)).1 12 0 15) (hs_put q2.2 12 0 16 (q2.2.1 12 0 15))).bind (fun q4 => if 0 ≤ q4.1 then ((hf_150 q4.1.toInt64 (lN 97) (lN 122) q4.2).bind (fun q6 => if q6.1 = 0 then ((hf_150 q4.1.toInt64 (lN 48) (lN 57) q6.2).bind (fun q8 => if q8.1 = 0 then (if ¬ q4.1 = (nI 59) then (hb_161_260 (nI 0) (hs_put q8.2 12 0 17 (nI 3))) else (hb_161_260 (nI 1) (hs_put q8.2 12 0 17 (nI 3)))) else (hs_lp (fun k s => hb_161_140 k s) hs_big (hs_put (hs_put q8.2 12 0 17 (nI 2)) 12 0 18 (nI 0))))) else (hs_lp (fun k s => hb_161_82 k s) hs_big (hs_put q6.2 12 0 17 (nI 1))))) else (hb_161_274 (hs_put q4.2 12 0 17 (nI 0))))) else (k8 (hs_put q2.2 12 0 15 ((q2.2.1 12 0 15) + (nI 1)))))
set_option maxHeartbeats 1000000 in
theorem hw_161_8 {S : hs_S} {d : Nat} {Q : hs_Q} (hd : 1 ≤ d)  {k8 : hs_H → Option (hs_H)} (hk8 : ∀  (h : hs_H) (r : hs_H) (v1 : hs_V), k8 (h) = some r → Q none r → hs_W S d 0 hs_p161 Q 8 [hs_r 12 0, v1] [] h)   {v1 : hs_V} {h : hs_H} {r : hs_H} (e : hb_161_8 k8 h = some r) (q : Q none r) : hs_W S d 0 hs_p161 Q 8 [hs_r 12 0, v1] [] h := by
  unfold hb_161_8 at e
  obtain ⟨q2, eq2, e⟩ := hs_bind_some e
  try dsimp only at e
  refine hs_wc 4 (y := 158) (a := [hs_r 12 0, hs_i (h.1 12 0 15)]) (v := some (hs_i q2.1)) (pc' := 16) (ls' := [hs_r 12 0, v1]) (st' := []) (h' := h) (h2 := q2.2) (fun n w => w) (fun q => hc_158 (by omega) eq2 q) ?_
  refine hs_wb 2 (c := ¬ q2.1 = (nI 32)) (t := 34) (f := 21) (ls' := [hs_r 12 0, v1]) (st' := []) (h' := q2.2) (fun n w => w) (fun b3 => ?_) (fun b3 => ?_)
  · rw [if_pos b3] at e
    obtain ⟨q4, eq4, e⟩ := hs_bind_some e
    try dsimp only at e
    refine hs_wc 8 (y := 158) (a := [hs_r 12 0, hs_i ((hs_put q2.2 12 0 16 (q2.2.1 12 0 15)).1 12 0 15)]) (v := some (hs_i q4.1)) (pc' := 50) (ls' := [hs_r 12 0, v1]) (st' := []) (h' := hs_put q2.2 12 0 16 (q2.2.1 12 0 15)) (h2 := q4.2) (fun n w => w) (fun q => hc_158 (by omega) eq4 q) ?_
    refine hs_wb 3 (c := 0 ≤ q4.1) (t := 63) (f := 55) (ls' := [hs_r 12 0, hs_i q4.1]) (st' := []) (h' := q4.2) (fun n w => w) (fun b5 => ?_) (fun b5 => ?_)
    · rw [if_pos b5] at e
      obtain ⟨q6, eq6, e⟩ := hs_bind_some e
      try dsimp only at e
      refine hs_wc 5 (y := 150) (a := [hs_l q4.1.toInt64, hs_l (lN 97), hs_l (lN 122)]) (v := some (hs_i q6.1)) (pc' := 74) (ls' := [hs_r 12 0, hs_i q4.1]) (st' := []) (h' := q4.2) (h2 := q6.2) (fun n w => w) (fun q => hc_150 (by omega) eq6 q) ?_
      refine hs_wb 1 (c := q6.1 = 0) (t := 116) (f := 77) (ls' := [hs_r 12 0, hs_i q4.1]) (st' := []) (h' := q6.2) (fun n w => w) (fun b7 => ?_) (fun b7 => ?_)
      · rw [if_pos b7] at e
        obtain ⟨q8, eq8, e⟩ := hs_bind_some e
        try dsimp only at e
        refine hs_wc 5 (y := 150) (a := [hs_l q4.1.toInt64, hs_l (lN 48), hs_l (lN 57)]) (v := some (hs_i q8.1)) (pc' := 127) (ls' := [hs_r 12 0, hs_i q4.1]) (st' := []) (h' := q6.2) (h2 := q8.2) (fun n w => w) (fun q => hc_150 (by omega) eq8 q) ?_
        refine hs_wb 1 (c := q8.1 = 0) (t := 243) (f := 130) (ls' := [hs_r 12 0, hs_i q4.1]) (st' := []) (h' := q8.2) (fun n w => w) (fun b9 => ?_) (fun b9 => ?_)
        · rw [if_pos b9] at e
          refine hs_wb 7 (c := ¬ q4.1 = (nI 59)) (t := 259) (f := 255) (ls' := [hs_r 12 0, hs_i q4.1]) (st' := [hs_r 12 0]) (h' := hs_put q8.2 12 0 17 (nI 3)) (fun n w => w) (fun b10 => ?_) (fun b10 => ?_)
          · rw [if_pos b10] at e
            refine hs_w 1 (pc' := 260) (ls' := [hs_r 12 0, hs_i q4.1]) (st' := [hs_i (nI 0), hs_r 12 0]) (h' := hs_put q8.2 12 0 17 (nI 3)) (fun n w => w) ?_
            exact hw_161_260 hd e q
          · rw [if_neg b10] at e
            refine hs_w 2 (pc' := 260) (ls' := [hs_r 12 0, hs_i q4.1]) (st' := [hs_i (nI 1), hs_r 12 0]) (h' := hs_put q8.2 12 0 17 (nI 3)) (fun n w => w) ?_
            exact hw_161_260 hd e q
        · rw [if_neg b9] at e
          refine hs_w 6 (pc' := 140) (ls' := [hs_r 12 0, hs_i q4.1]) (st' := []) (h' := hs_put (hs_put q8.2 12 0 17 (nI 2)) 12 0 18 (nI 0)) (fun n w => w) ?_
          exact hw_161_140_lp hd hs_big e _ q
      · rw [if_neg b7] at e
        refine hs_w 3 (pc' := 82) (ls' := [hs_r 12 0, hs_i q4.1]) (st' := []) (h' := hs_put q6.2 12 0 17 (nI 1)) (fun n w => w) ?_
        exact hw_161_82_lp hd hs_big e _ q
    · rw [if_neg b5] at e
      refine hs_w 4 (pc' := 274) (ls' := [hs_r 12 0, hs_i q4.1]) (st' := []) (h' := hs_put q4.2 12 0 17 (nI 0)) (fun n w => w) ?_
      exact hw_161_274 hd e q
  · rw [if_neg b3] at e
    refine hs_w 7 (pc' := 8) (ls' := [hs_r 12 0, v1]) (st' := []) (h' := hs_put q2.2 12 0 15 ((q2.2.1 12 0 15) + (nI 1))) (fun n w => w) ?_
    exact hk8  _ _ _ e q
theorem hw_161_8_lp {S : hs_S} {d : Nat} {Q : hs_Q} (hd : 1 ≤ d)    (n : Nat)  {h : hs_H} {r : hs_H} (e : hs_lp (fun k s => hb_161_8 k s) n (h) = some r) (v1 : hs_V) (q : Q none r) : hs_W S d 0 hs_p161 Q 8 [hs_r 12 0, v1] [] h := by
  refine hs_lp_ind (P := fun (s : hs_H) (r : hs_H) => ∀ (v1 : hs_V), Q none r → hs_W S d 0 hs_p161 Q 8 [hs_r 12 0, v1] [] s) (fun k hk s r e v1 q => ?_) n (h) r e v1 q
  exact hw_161_8 hd (fun  h r v1 e q => hk (h) r e v1 q) e q
/-- HuntedScentModel.next()V -/
def hf_161  (h : hs_H) : Option (hs_H) := if (h.1 12 0 19) ≤ 0 then (hs_lp (fun k s => hb_161_8 k s) hs_big (h)) else (some h)
set_option maxHeartbeats 1000000 in
theorem hc_161 {S : hs_S} {D : Nat} {Q : hs_Q} (hD : 2 ≤ D)  {h : hs_H} {r : hs_H} (e : hf_161 h = some r) (q : Q none r) : hs_call hs_ms S D 161 [hs_r 12 0] h Q := by
  refine hs_go (R := 1) hD rfl (Nat.le_of_ble_eq_true rfl) (fun d hd => ?_)
  show hs_W S d 0 hs_p161 Q 0 [hs_r 12 0, hs_u] [] h
  unfold hf_161 at e
  refine hs_wb 3 (c := (h.1 12 0 19) ≤ 0) (t := 8) (f := 7) (ls' := [hs_r 12 0, hs_u]) (st' := []) (h' := h) (fun n w => w) (fun b1 => ?_) (fun b1 => ?_)
  · rw [if_pos b1] at e
    exact hw_161_8_lp hd hs_big e _ q
  · rw [if_neg b1] at e
    obtain rfl := Option.some.inj e
    exact hs_wr 1 (v := none) (h' := h) (fun n w => w) q
def hb_162_64    (s0 : Int32) (h : hs_H) : Option (Int32 × hs_H) := some (s0, h)
set_option maxHeartbeats 1000000 in
theorem hw_162_64 {S : hs_S} {d : Nat} {Q : hs_Q} (hd : 1 ≤ d)     {s0 : Int32} {v1 : hs_V} {v2 : hs_V} {h : hs_H} {r : Int32 × hs_H} (e : hb_162_64 s0 h = some r) (q : Q (some (hs_i r.1)) r.2) : hs_W S d 1 hs_p162 Q 64 [hs_r 12 0, v1, v2] [hs_i s0] h := by
  unfold hb_162_64 at e
  obtain rfl := Option.some.inj e
  exact hs_wr 1 (v := some (hs_i s0)) (h' := h) (fun n w => w) q
def hb_162_49     (h : hs_H) : Option (Int32 × hs_H) := if ¬ (h.1 12 0 19) = 0 then (hb_162_64 (nI 0) h) else (hb_162_64 (h.1 12 0 18) h)
set_option maxHeartbeats 1000000 in
theorem hw_162_49 {S : hs_S} {d : Nat} {Q : hs_Q} (hd : 1 ≤ d)      {v1 : hs_V} {v2 : hs_V} {h : hs_H} {r : Int32 × hs_H} (e : hb_162_49 h = some r) (q : Q (some (hs_i r.1)) r.2) : hs_W S d 1 hs_p162 Q 49 [hs_r 12 0, v1, v2] [] h := by
  unfold hb_162_49 at e
  refine hs_wb 3 (c := ¬ (h.1 12 0 19) = 0) (t := 63) (f := 56) (ls' := [hs_r 12 0, v1, v2]) (st' := []) (h' := h) (fun n w => w) (fun b3 => ?_) (fun b3 => ?_)
  · rw [if_pos b3] at e
    refine hs_w 1 (pc' := 64) (ls' := [hs_r 12 0, v1, v2]) (st' := [hs_i (nI 0)]) (h' := h) (fun n w => w) ?_
    exact hw_162_64 hd e q
  · rw [if_neg b3] at e
    refine hs_w 3 (pc' := 64) (ls' := [hs_r 12 0, v1, v2]) (st' := [hs_i (h.1 12 0 18)]) (h' := h) (fun n w => w) ?_
    exact hw_162_64 hd e q
def hb_162_25   (x1 : Int32) (x2 : Int32)  (h : hs_H) : Option (Int32 × hs_H) := if ¬ (h.1 12 0 19) = 0 then (hb_162_49 h) else ((hf_150 ((h.1 12 0 18).toInt64) x1.toInt64 x2.toInt64 h).bind (fun q4 => (hf_157 q4.1 (nI 3) q4.2).bind (fun q5 => hb_162_49 q5)))
set_option maxHeartbeats 1000000 in
theorem hw_162_25 {S : hs_S} {d : Nat} {Q : hs_Q} (hd : 1 ≤ d)    {x1 : Int32} {x2 : Int32}   {h : hs_H} {r : Int32 × hs_H} (e : hb_162_25 x1 x2 h = some r) (q : Q (some (hs_i r.1)) r.2) : hs_W S d 1 hs_p162 Q 25 [hs_r 12 0, hs_i x1, hs_i x2] [] h := by
  unfold hb_162_25 at e
  refine hs_wb 3 (c := ¬ (h.1 12 0 19) = 0) (t := 49) (f := 32) (ls' := [hs_r 12 0, hs_i x1, hs_i x2]) (st' := []) (h' := h) (fun n w => w) (fun b2 => ?_) (fun b2 => ?_)
  · rw [if_pos b2] at e
    exact hw_162_49 hd e q
  · rw [if_neg b2] at e
    obtain ⟨q4, eq4, e⟩ := hs_bind_some e
    try dsimp only at e
    refine hs_wc 9 (y := 150) (a := [hs_l ((h.1 12 0 18).toInt64), hs_l x1.toInt64, hs_l x2.toInt64]) (v := some (hs_i q4.1)) (pc' := 45) (ls' := [hs_r 12 0, hs_i x1, hs_i x2]) (st' := [hs_r 12 0]) (h' := h) (h2 := q4.2) (fun n w => w) (fun q => hc_150 (by omega) eq4 q) ?_
    obtain ⟨q5, eq5, e⟩ := hs_bind_some e
    try dsimp only at e
    refine hs_wc 2 (y := 157) (a := [hs_r 12 0, hs_i q4.1, hs_i (nI 3)]) (v := none) (pc' := 49) (ls' := [hs_r 12 0, hs_i x1, hs_i x2]) (st' := []) (h' := q4.2) (h2 := q5) (fun n w => w) (fun q => hc_157 (by omega) eq5 q) ?_
    exact hw_162_49 hd e q
def hb_162_21   (x1 : Int32) (x2 : Int32) (s0 : Int32) (h : hs_H) : Option (Int32 × hs_H) := (hf_157 s0 (nI 2) h).bind (fun q7 => hb_162_25 x1 x2 q7)
set_option maxHeartbeats 1000000 in
theorem hw_162_21 {S : hs_S} {d : Nat} {Q : hs_Q} (hd : 1 ≤ d)    {x1 : Int32} {x2 : Int32} {s0 : Int32}  {h : hs_H} {r : Int32 × hs_H} (e : hb_162_21 x1 x2 s0 h = some r) (q : Q (some (hs_i r.1)) r.2) : hs_W S d 1 hs_p162 Q 21 [hs_r 12 0, hs_i x1, hs_i x2] [hs_i s0, hs_r 12 0] h := by
  unfold hb_162_21 at e
  obtain ⟨q7, eq7, e⟩ := hs_bind_some e
  try dsimp only at e
  refine hs_wc 2 (y := 157) (a := [hs_r 12 0, hs_i s0, hs_i (nI 2)]) (v := none) (pc' := 25) (ls' := [hs_r 12 0, hs_i x1, hs_i x2]) (st' := []) (h' := h) (h2 := q7) (fun n w => w) (fun q => hc_157 (by omega) eq7 q) ?_
  exact hw_162_25 hd e q
/-- HuntedScentModel.looked(II)I -/
def hf_162 (a1 : Int32) (a2 : Int32) (h : hs_H) : Option (Int32 × hs_H) := if ¬ (h.1 12 0 19) = 0 then (hb_162_25 a1 a2 h) else (if ¬ (h.1 12 0 17) = (nI 2) then (hb_162_21 a1 a2 (nI 0) h) else (hb_162_21 a1 a2 (nI 1) h))
set_option maxHeartbeats 1000000 in
theorem hc_162 {S : hs_S} {D : Nat} {Q : hs_Q} (hD : 2 ≤ D) {a1 : Int32} {a2 : Int32} {h : hs_H} {r : Int32 × hs_H} (e : hf_162 a1 a2 h = some r) (q : Q (some (hs_i r.1)) r.2) : hs_call hs_ms S D 162 [hs_r 12 0, hs_i a1, hs_i a2] h Q := by
  refine hs_go (R := 1) hD rfl (Nat.le_of_ble_eq_true rfl) (fun d hd => ?_)
  show hs_W S d 1 hs_p162 Q 0 [hs_r 12 0, hs_i a1, hs_i a2] [] h
  unfold hf_162 at e
  refine hs_wb 3 (c := ¬ (h.1 12 0 19) = 0) (t := 25) (f := 7) (ls' := [hs_r 12 0, hs_i a1, hs_i a2]) (st' := []) (h' := h) (fun n w => w) (fun b1 => ?_) (fun b1 => ?_)
  · rw [if_pos b1] at e
    exact hw_162_25 hd e q
  · rw [if_neg b1] at e
    refine hs_wb 5 (c := ¬ (h.1 12 0 17) = (nI 2)) (t := 20) (f := 16) (ls' := [hs_r 12 0, hs_i a1, hs_i a2]) (st' := [hs_r 12 0]) (h' := h) (fun n w => w) (fun b6 => ?_) (fun b6 => ?_)
    · rw [if_pos b6] at e
      refine hs_w 1 (pc' := 21) (ls' := [hs_r 12 0, hs_i a1, hs_i a2]) (st' := [hs_i (nI 0), hs_r 12 0]) (h' := h) (fun n w => w) ?_
      exact hw_162_21 hd e q
    · rw [if_neg b6] at e
      refine hs_w 2 (pc' := 21) (ls' := [hs_r 12 0, hs_i a1, hs_i a2]) (st' := [hs_i (nI 1), hs_r 12 0]) (h' := h) (fun n w => w) ?_
      exact hw_162_21 hd e q
/-- HuntedScentModel.readNumber(II)I -/
def hf_163 (a1 : Int32) (a2 : Int32) (h : hs_H) : Option (Int32 × hs_H) := (hf_162 a1 a2 h).bind (fun q1 => (hf_161 q1.2).bind (fun q2 => some (q1.1, q2)))
set_option maxHeartbeats 1000000 in
theorem hc_163 {S : hs_S} {D : Nat} {Q : hs_Q} (hD : 3 ≤ D) {a1 : Int32} {a2 : Int32} {h : hs_H} {r : Int32 × hs_H} (e : hf_163 a1 a2 h = some r) (q : Q (some (hs_i r.1)) r.2) : hs_call hs_ms S D 163 [hs_r 12 0, hs_i a1, hs_i a2] h Q := by
  refine hs_go (R := 2) hD rfl (Nat.le_of_ble_eq_true rfl) (fun d hd => ?_)
  show hs_W S d 1 hs_p163 Q 0 [hs_r 12 0, hs_i a1, hs_i a2, hs_u] [] h
  unfold hf_163 at e
  obtain ⟨q1, eq1, e⟩ := hs_bind_some e
  try dsimp only at e
  refine hs_wc 4 (y := 162) (a := [hs_r 12 0, hs_i a1, hs_i a2]) (v := some (hs_i q1.1)) (pc' := 6) (ls' := [hs_r 12 0, hs_i a1, hs_i a2, hs_u]) (st' := []) (h' := h) (h2 := q1.2) (fun n w => w) (fun q => hc_162 (by omega) eq1 q) ?_
  obtain ⟨q2, eq2, e⟩ := hs_bind_some e
  try dsimp only at e
  refine hs_wc 3 (y := 161) (a := [hs_r 12 0]) (v := none) (pc' := 11) (ls' := [hs_r 12 0, hs_i a1, hs_i a2, hs_i q1.1]) (st' := []) (h' := q1.2) (h2 := q2) (fun n w => w) (fun q => hc_161 (by omega) eq2 q) ?_
  obtain rfl := Option.some.inj e
  exact hs_wr 2 (v := some (hs_i q1.1)) (h' := q2) (fun n w => w) q
def hb_164_50   (x2 : Int32) (s0 : Int32) (h : hs_H) : Option (Int32 × hs_H) := (hf_161 (hs_put h 12 0 11 s0)).bind (fun q4 => some (x2, q4))
set_option maxHeartbeats 1000000 in
theorem hw_164_50 {S : hs_S} {d : Nat} {Q : hs_Q} (hd : 2 ≤ d)    {x2 : Int32} {s0 : Int32} {v1 : hs_V} {h : hs_H} {r : Int32 × hs_H} (e : hb_164_50 x2 s0 h = some r) (q : Q (some (hs_i r.1)) r.2) : hs_W S d 1 hs_p164 Q 50 [hs_r 12 0, v1, hs_i x2] [hs_i s0, hs_r 12 0] h := by
  unfold hb_164_50 at e
  obtain ⟨q4, eq4, e⟩ := hs_bind_some e
  try dsimp only at e
  refine hs_wc 3 (y := 161) (a := [hs_r 12 0]) (v := none) (pc' := 57) (ls' := [hs_r 12 0, v1, hs_i x2]) (st' := []) (h' := hs_put h 12 0 11 s0) (h2 := q4) (fun n w => w) (fun q => hc_161 (by omega) eq4 q) ?_
  obtain rfl := Option.some.inj e
  exact hs_wr 2 (v := some (hs_i x2)) (h' := q4) (fun n w => w) q
def hb_164_33   (x2 : Int32)  (h : hs_H) : Option (Int32 × hs_H) := if x2 ≤ (h.1 12 0 11) then (hb_164_50 x2 (h.1 12 0 11) h) else (hb_164_50 x2 x2 h)
set_option maxHeartbeats 1000000 in
theorem hw_164_33 {S : hs_S} {d : Nat} {Q : hs_Q} (hd : 2 ≤ d)    {x2 : Int32}  {v1 : hs_V} {h : hs_H} {r : Int32 × hs_H} (e : hb_164_33 x2 h = some r) (q : Q (some (hs_i r.1)) r.2) : hs_W S d 1 hs_p164 Q 33 [hs_r 12 0, v1, hs_i x2] [] h := by
  unfold hb_164_33 at e
  refine hs_wb 5 (c := x2 ≤ (h.1 12 0 11)) (t := 46) (f := 42) (ls' := [hs_r 12 0, v1, hs_i x2]) (st' := [hs_r 12 0]) (h' := h) (fun n w => w) (fun b3 => ?_) (fun b3 => ?_)
  · rw [if_pos b3] at e
    refine hs_w 2 (pc' := 50) (ls' := [hs_r 12 0, v1, hs_i x2]) (st' := [hs_i (h.1 12 0 11), hs_r 12 0]) (h' := h) (fun n w => w) ?_
    exact hw_164_50 hd e q
  · rw [if_neg b3] at e
    refine hs_w 2 (pc' := 50) (ls' := [hs_r 12 0, v1, hs_i x2]) (st' := [hs_i x2, hs_r 12 0]) (h' := h) (fun n w => w) ?_
    exact hw_164_50 hd e q
def hb_164_29   (x2 : Int32) (s0 : Int32) (h : hs_H) : Option (Int32 × hs_H) := (hf_157 s0 (nI 4) h).bind (fun q6 => hb_164_33 x2 q6)
set_option maxHeartbeats 1000000 in
theorem hw_164_29 {S : hs_S} {d : Nat} {Q : hs_Q} (hd : 2 ≤ d)    {x2 : Int32} {s0 : Int32} {v1 : hs_V} {h : hs_H} {r : Int32 × hs_H} (e : hb_164_29 x2 s0 h = some r) (q : Q (some (hs_i r.1)) r.2) : hs_W S d 1 hs_p164 Q 29 [hs_r 12 0, v1, hs_i x2] [hs_i s0, hs_r 12 0] h := by
  unfold hb_164_29 at e
  obtain ⟨q6, eq6, e⟩ := hs_bind_some e
  try dsimp only at e
  refine hs_wc 2 (y := 157) (a := [hs_r 12 0, hs_i s0, hs_i (nI 4)]) (v := none) (pc' := 33) (ls' := [hs_r 12 0, v1, hs_i x2]) (st' := []) (h' := h) (h2 := q6) (fun n w => w) (fun q => hc_157 (by omega) eq6 q) ?_
  exact hw_164_33 hd e q
/-- HuntedScentModel.readNode(I)I -/
def hf_164 (a1 : Int32) (h : hs_H) : Option (Int32 × hs_H) := (hf_162 (nI 0) (nI 9) h).bind (fun q1 => if ¬ (q1.2.1 12 0 19) = 0 then (hb_164_33 q1.1 q1.2) else (if ¬ ((a1 >>> (q1.1 &&& 31)) &&& (nI 1)) = 0 then (hb_164_29 q1.1 (nI 0) q1.2) else (hb_164_29 q1.1 (nI 1) q1.2)))
set_option maxHeartbeats 1000000 in
theorem hc_164 {S : hs_S} {D : Nat} {Q : hs_Q} (hD : 3 ≤ D) {a1 : Int32} {h : hs_H} {r : Int32 × hs_H} (e : hf_164 a1 h = some r) (q : Q (some (hs_i r.1)) r.2) : hs_call hs_ms S D 164 [hs_r 12 0, hs_i a1] h Q := by
  refine hs_go (R := 2) hD rfl (Nat.le_of_ble_eq_true rfl) (fun d hd => ?_)
  show hs_W S d 1 hs_p164 Q 0 [hs_r 12 0, hs_i a1, hs_u] [] h
  unfold hf_164 at e
  obtain ⟨q1, eq1, e⟩ := hs_bind_some e
  try dsimp only at e
  refine hs_wc 4 (y := 162) (a := [hs_r 12 0, hs_i (nI 0), hs_i (nI 9)]) (v := some (hs_i q1.1)) (pc' := 7) (ls' := [hs_r 12 0, hs_i a1, hs_u]) (st' := []) (h' := h) (h2 := q1.2) (fun n w => w) (fun q => hc_162 (by omega) eq1 q) ?_
  refine hs_wb 4 (c := ¬ (q1.2.1 12 0 19) = 0) (t := 33) (f := 15) (ls' := [hs_r 12 0, hs_i a1, hs_i q1.1]) (st' := []) (h' := q1.2) (fun n w => w) (fun b2 => ?_) (fun b2 => ?_)
  · rw [if_pos b2] at e
    exact hw_164_33 hd e q
  · rw [if_neg b2] at e
    refine hs_wb 7 (c := ¬ ((a1 >>> (q1.1 &&& 31)) &&& (nI 1)) = 0) (t := 28) (f := 24) (ls' := [hs_r 12 0, hs_i a1, hs_i q1.1]) (st' := [hs_r 12 0]) (h' := q1.2) (fun n w => w) (fun b5 => ?_) (fun b5 => ?_)
    · rw [if_pos b5] at e
      refine hs_w 1 (pc' := 29) (ls' := [hs_r 12 0, hs_i a1, hs_i q1.1]) (st' := [hs_i (nI 0), hs_r 12 0]) (h' := q1.2) (fun n w => w) ?_
      exact hw_164_29 hd e q
    · rw [if_neg b5] at e
      refine hs_w 2 (pc' := 29) (ls' := [hs_r 12 0, hs_i a1, hs_i q1.1]) (st' := [hs_i (nI 1), hs_r 12 0]) (h' := q1.2) (fun n w => w) ?_
      exact hw_164_29 hd e q
def hb_165_84     (h : hs_H) : Option (hs_H) := some h
set_option maxHeartbeats 1000000 in
theorem hw_165_84 {S : hs_S} {d : Nat} {Q : hs_Q} (hd : 3 ≤ d)      {v1 : hs_V} {v2 : hs_V} {v3 : hs_V} {h : hs_H} {r : hs_H} (e : hb_165_84 h = some r) (q : Q none r) : hs_W S d 0 hs_p165 Q 84 [hs_r 12 0, v1, v2, v3] [] h := by
  unfold hb_165_84 at e
  obtain rfl := Option.some.inj e
  exact hs_wr 1 (v := none) (h' := h) (fun n w => w) q
def hb_165_80  (k8 : Int32 × Int32 × hs_H → Option (hs_H)) (x1 : Int32) (s0 : Int32) (h : hs_H) : Option (hs_H) := k8 (x1, s0, h)
set_option maxHeartbeats 1000000 in
theorem hw_165_80 {S : hs_S} {d : Nat} {Q : hs_Q} (hd : 3 ≤ d)  {k8 : Int32 × Int32 × hs_H → Option (hs_H)} (hk8 : ∀ (x1 : Int32) (x2 : Int32) (h : hs_H) (r : hs_H) (v3 : hs_V), k8 (x1, x2, h) = some r → Q none r → hs_W S d 0 hs_p165 Q 8 [hs_r 12 0, hs_i x1, hs_i x2, v3] [] h) {x1 : Int32} {s0 : Int32} {v2 : hs_V} {v3 : hs_V} {h : hs_H} {r : hs_H} (e : hb_165_80 k8 x1 s0 h = some r) (q : Q none r) : hs_W S d 0 hs_p165 Q 80 [hs_r 12 0, hs_i x1, v2, v3] [hs_i s0] h := by
  unfold hb_165_80 at e
  refine hs_w 2 (pc' := 8) (ls' := [hs_r 12 0, hs_i x1, hs_i s0, v3]) (st' := []) (h' := h) (fun n w => w) ?_
  exact hk8 _ _ _ _ _ e q
def hb_165_65  (k8 : Int32 × Int32 × hs_H → Option (hs_H)) (x3 : Int32)  (h : hs_H) : Option (hs_H) := if ¬ (h.1 12 0 17) = (nI 2) then (hb_165_80 k8 x3 (nI 0) h) else (hb_165_80 k8 x3 (nI 1) h)
set_option maxHeartbeats 1000000 in
theorem hw_165_65 {S : hs_S} {d : Nat} {Q : hs_Q} (hd : 3 ≤ d)  {k8 : Int32 × Int32 × hs_H → Option (hs_H)} (hk8 : ∀ (x1 : Int32) (x2 : Int32) (h : hs_H) (r : hs_H) (v3 : hs_V), k8 (x1, x2, h) = some r → Q none r → hs_W S d 0 hs_p165 Q 8 [hs_r 12 0, hs_i x1, hs_i x2, v3] [] h) {x3 : Int32}  {v1 : hs_V} {v2 : hs_V} {h : hs_H} {r : hs_H} (e : hb_165_65 k8 x3 h = some r) (q : Q none r) : hs_W S d 0 hs_p165 Q 65 [hs_r 12 0, v1, v2, hs_i x3] [] h := by
  unfold hb_165_65 at e
  refine hs_wb 6 (c := ¬ (h.1 12 0 17) = (nI 2)) (t := 79) (f := 75) (ls' := [hs_r 12 0, hs_i x3, v2, hs_i x3]) (st' := []) (h' := h) (fun n w => w) (fun b7 => ?_) (fun b7 => ?_)
  · rw [if_pos b7] at e
    refine hs_w 1 (pc' := 80) (ls' := [hs_r 12 0, hs_i x3, v2, hs_i x3]) (st' := [hs_i (nI 0)]) (h' := h) (fun n w => w) ?_
    exact hw_165_80 hd hk8 e q
  · rw [if_neg b7] at e
    refine hs_w 2 (pc' := 80) (ls' := [hs_r 12 0, hs_i x3, v2, hs_i x3]) (st' := [hs_i (nI 1)]) (h' := h) (fun n w => w) ?_
    exact hw_165_80 hd hk8 e q
def hb_165_8  (k8 : Int32 × Int32 × hs_H → Option (hs_H)) (x1 : Int32) (x2 : Int32)  (h : hs_H) : Option (hs_H) := if ¬ (h.1 12 0 19) = 0 then (hb_165_84 h) else (if x2 = 0 then (hb_165_84 h) else (hs_ck (hs_inb x1 54) ((hf_164 (((nI 1) <<< (x1 &&& 31)) ||| (h.1 46 0 x1.toNatClampNeg)) h).bind (fun q5 => if ¬ (q5.2.1 12 0 19) = 0 then (hb_165_65 k8 q5.1 q5.2) else (hs_ck (hs_inb x1 54) (hs_ck (hs_inb x1 54) (hs_ck (hs_inb q5.1 54) (hs_ck (hs_inb q5.1 54) (hb_165_65 k8 q5.1 (hs_put (hs_put q5.2 46 0 x1.toNatClampNeg ((q5.2.1 46 0 x1.toNatClampNeg) ||| ((nI 1) <<< (q5.1 &&& 31)))) 46 0 q5.1.toNatClampNeg (((hs_put q5.2 46 0 x1.toNatClampNeg ((q5.2.1 46 0 x1.toNatClampNeg) ||| ((nI 1) <<< (q5.1 &&& 31)))).1 46 0 q5.1.toNatClampNeg) ||| ((nI 1) <<< (x1 &&& 31)))))))))))))
set_option maxHeartbeats 1000000 in
theorem hw_165_8 {S : hs_S} {d : Nat} {Q : hs_Q} (hd : 3 ≤ d)  {k8 : Int32 × Int32 × hs_H → Option (hs_H)} (hk8 : ∀ (x1 : Int32) (x2 : Int32) (h : hs_H) (r : hs_H) (v3 : hs_V), k8 (x1, x2, h) = some r → Q none r → hs_W S d 0 hs_p165 Q 8 [hs_r 12 0, hs_i x1, hs_i x2, v3] [] h) {x1 : Int32} {x2 : Int32}  {v3 : hs_V} {h : hs_H} {r : hs_H} (e : hb_165_8 k8 x1 x2 h = some r) (q : Q none r) : hs_W S d 0 hs_p165 Q 8 [hs_r 12 0, hs_i x1, hs_i x2, v3] [] h := by
  unfold hb_165_8 at e
  refine hs_wb 3 (c := ¬ (h.1 12 0 19) = 0) (t := 84) (f := 15) (ls' := [hs_r 12 0, hs_i x1, hs_i x2, v3]) (st' := []) (h' := h) (fun n w => w) (fun b2 => ?_) (fun b2 => ?_)
  · rw [if_pos b2] at e
    exact hw_165_84 hd e q
  · rw [if_neg b2] at e
    refine hs_wb 2 (c := x2 = 0) (t := 84) (f := 19) (ls' := [hs_r 12 0, hs_i x1, hs_i x2, v3]) (st' := []) (h' := h) (fun n w => w) (fun b3 => ?_) (fun b3 => ?_)
    · rw [if_pos b3] at e
      exact hw_165_84 hd e q
    · rw [if_neg b3] at e
      obtain ⟨c4, e⟩ := hs_ck_some e
      refine hs_wa 8 (c := vp_in x1 54) (pc' := 29) (ls' := [hs_r 12 0, hs_i x1, hs_i x2, v3]) (st' := [hs_i (h.1 46 0 x1.toNatClampNeg), hs_i ((nI 1) <<< (x1 &&& 31)), hs_r 12 0]) (h' := h) (fun n w => w) (hs_inb_iff.mp c4) ?_
      obtain ⟨q5, eq5, e⟩ := hs_bind_some e
      try dsimp only at e
      refine hs_wc 2 (y := 164) (a := [hs_r 12 0, hs_i (((nI 1) <<< (x1 &&& 31)) ||| (h.1 46 0 x1.toNatClampNeg))]) (v := some (hs_i q5.1)) (pc' := 33) (ls' := [hs_r 12 0, hs_i x1, hs_i x2, v3]) (st' := []) (h' := h) (h2 := q5.2) (fun n w => w) (fun q => hc_164 (by omega) eq5 q) ?_
      refine hs_wb 4 (c := ¬ (q5.2.1 12 0 19) = 0) (t := 65) (f := 41) (ls' := [hs_r 12 0, hs_i x1, hs_i x2, hs_i q5.1]) (st' := []) (h' := q5.2) (fun n w => w) (fun b6 => ?_) (fun b6 => ?_)
      · rw [if_pos b6] at e
        exact hw_165_65 hd hk8 e q
      · rw [if_neg b6] at e
        obtain ⟨c8, e⟩ := hs_ck_some e
        refine hs_wa 5 (c := vp_in x1 54) (pc' := 48) (ls' := [hs_r 12 0, hs_i x1, hs_i x2, hs_i q5.1]) (st' := [hs_i (q5.2.1 46 0 x1.toNatClampNeg), hs_i x1, hs_r 46 0]) (h' := q5.2) (fun n w => w) (hs_inb_iff.mp c8) ?_
        obtain ⟨c9, e⟩ := hs_ck_some e
        refine hs_wa 5 (c := vp_in x1 54) (pc' := 53) (ls' := [hs_r 12 0, hs_i x1, hs_i x2, hs_i q5.1]) (st' := []) (h' := hs_put q5.2 46 0 x1.toNatClampNeg ((q5.2.1 46 0 x1.toNatClampNeg) ||| ((nI 1) <<< (q5.1 &&& 31)))) (fun n w => w) (hs_inb_iff.mp c9) ?_
        obtain ⟨c10, e⟩ := hs_ck_some e
        refine hs_wa 5 (c := vp_in q5.1 54) (pc' := 60) (ls' := [hs_r 12 0, hs_i x1, hs_i x2, hs_i q5.1]) (st' := [hs_i ((hs_put q5.2 46 0 x1.toNatClampNeg ((q5.2.1 46 0 x1.toNatClampNeg) ||| ((nI 1) <<< (q5.1 &&& 31)))).1 46 0 q5.1.toNatClampNeg), hs_i q5.1, hs_r 46 0]) (h' := hs_put q5.2 46 0 x1.toNatClampNeg ((q5.2.1 46 0 x1.toNatClampNeg) ||| ((nI 1) <<< (q5.1 &&& 31)))) (fun n w => w) (hs_inb_iff.mp c10) ?_
        obtain ⟨c11, e⟩ := hs_ck_some e
        refine hs_wa 5 (c := vp_in q5.1 54) (pc' := 65) (ls' := [hs_r 12 0, hs_i x1, hs_i x2, hs_i q5.1]) (st' := []) (h' := hs_put (hs_put q5.2 46 0 x1.toNatClampNeg ((q5.2.1 46 0 x1.toNatClampNeg) ||| ((nI 1) <<< (q5.1 &&& 31)))) 46 0 q5.1.toNatClampNeg (((hs_put q5.2 46 0 x1.toNatClampNeg ((q5.2.1 46 0 x1.toNatClampNeg) ||| ((nI 1) <<< (q5.1 &&& 31)))).1 46 0 q5.1.toNatClampNeg) ||| ((nI 1) <<< (x1 &&& 31)))) (fun n w => w) (hs_inb_iff.mp c11) ?_
        exact hw_165_65 hd hk8 e q
theorem hw_165_8_lp {S : hs_S} {d : Nat} {Q : hs_Q} (hd : 3 ≤ d)    (n : Nat) {x1 : Int32} {x2 : Int32} {h : hs_H} {r : hs_H} (e : hs_lp (fun k s => hb_165_8 k s.1 s.2.1 s.2.2) n (x1, x2, h) = some r) (v3 : hs_V) (q : Q none r) : hs_W S d 0 hs_p165 Q 8 [hs_r 12 0, hs_i x1, hs_i x2, v3] [] h := by
  refine hs_lp_ind (P := fun (s : Int32 × Int32 × hs_H) (r : hs_H) => ∀ (v3 : hs_V), Q none r → hs_W S d 0 hs_p165 Q 8 [hs_r 12 0, hs_i s.1, hs_i s.2.1, v3] [] s.2.2) (fun k hk s r e v3 q => ?_) n (x1, x2, h) r e v3 q
  exact hw_165_8 hd (fun x1 x2 h r v3 e q => hk (x1, x2, h) r e v3 q) e q
/-- HuntedScentModel.readLane()V -/
def hf_165  (h : hs_H) : Option (hs_H) := (hf_164 (nI 0) h).bind (fun q1 => hs_lp (fun k s => hb_165_8 k s.1 s.2.1 s.2.2) hs_big (q1.1, nI 1, q1.2))
set_option maxHeartbeats 1000000 in
theorem hc_165 {S : hs_S} {D : Nat} {Q : hs_Q} (hD : 4 ≤ D)  {h : hs_H} {r : hs_H} (e : hf_165 h = some r) (q : Q none r) : hs_call hs_ms S D 165 [hs_r 12 0] h Q := by
  refine hs_go (R := 3) hD rfl (Nat.le_of_ble_eq_true rfl) (fun d hd => ?_)
  show hs_W S d 0 hs_p165 Q 0 [hs_r 12 0, hs_u, hs_u, hs_u] [] h
  unfold hf_165 at e
  obtain ⟨q1, eq1, e⟩ := hs_bind_some e
  try dsimp only at e
  refine hs_wc 3 (y := 164) (a := [hs_r 12 0, hs_i (nI 0)]) (v := some (hs_i q1.1)) (pc' := 5) (ls' := [hs_r 12 0, hs_u, hs_u, hs_u]) (st' := []) (h' := h) (h2 := q1.2) (fun n w => w) (fun q => hc_164 (by omega) eq1 q) ?_
  refine hs_w 3 (pc' := 8) (ls' := [hs_r 12 0, hs_i q1.1, hs_i (nI 1), hs_u]) (st' := []) (h' := q1.2) (fun n w => w) ?_
  exact hw_165_8_lp hd hs_big e _ q
/-- HuntedScentModel.readSmelt()V -/
def hf_166  (h : hs_H) : Option (hs_H) := hs_ck (hs_inb (nI 23) 54) ((hf_163 (nI 0) (nI 5) h).bind (fun q2 => hs_ck (hs_inb ((nI 24) + ((nI 3) * (h.1 46 0 (nI 23).toNatClampNeg))) 54) ((hf_164 (nI 0) (hs_put q2.2 46 0 ((nI 24) + ((nI 3) * (h.1 46 0 (nI 23).toNatClampNeg))).toNatClampNeg q2.1)).bind (fun q4 => hs_ck (hs_inb (((nI 24) + ((nI 3) * (h.1 46 0 (nI 23).toNatClampNeg))) + (nI 1)) 54) ((hf_163 (nI 0) (nI 18) (hs_put q4.2 46 0 (((nI 24) + ((nI 3) * (h.1 46 0 (nI 23).toNatClampNeg))) + (nI 1)).toNatClampNeg q4.1)).bind (fun q6 => hs_ck (hs_inb (((nI 24) + ((nI 3) * (h.1 46 0 (nI 23).toNatClampNeg))) + (nI 2)) 54) (hs_ck (hs_inb (nI 23) 54) (hs_ck (hs_inb (nI 23) 54) (some (hs_put (hs_put q6.2 46 0 (((nI 24) + ((nI 3) * (h.1 46 0 (nI 23).toNatClampNeg))) + (nI 2)).toNatClampNeg q6.1) 46 0 (nI 23).toNatClampNeg (((hs_put q6.2 46 0 (((nI 24) + ((nI 3) * (h.1 46 0 (nI 23).toNatClampNeg))) + (nI 2)).toNatClampNeg q6.1).1 46 0 (nI 23).toNatClampNeg) + (nI 1))))))))))))
set_option maxHeartbeats 1000000 in
theorem hc_166 {S : hs_S} {D : Nat} {Q : hs_Q} (hD : 4 ≤ D)  {h : hs_H} {r : hs_H} (e : hf_166 h = some r) (q : Q none r) : hs_call hs_ms S D 166 [hs_r 12 0] h Q := by
  refine hs_go (R := 3) hD rfl (Nat.le_of_ble_eq_true rfl) (fun d hd => ?_)
  show hs_W S d 0 hs_p166 Q 0 [hs_r 12 0, hs_u] [] h
  unfold hf_166 at e
  obtain ⟨c1, e⟩ := hs_ck_some e
  refine hs_wa 6 (c := vp_in (nI 23) 54) (pc' := 10) (ls' := [hs_r 12 0, hs_u]) (st' := [hs_i (h.1 46 0 (nI 23).toNatClampNeg), hs_i (nI 3), hs_i (nI 24)]) (h' := h) (fun n w => w) (hs_inb_iff.mp c1) ?_
  obtain ⟨q2, eq2, e⟩ := hs_bind_some e
  try dsimp only at e
  refine hs_wc 10 (y := 163) (a := [hs_r 12 0, hs_i (nI 0), hs_i (nI 5)]) (v := some (hs_i q2.1)) (pc' := 24) (ls' := [hs_r 12 0, hs_i ((nI 24) + ((nI 3) * (h.1 46 0 (nI 23).toNatClampNeg)))]) (st' := [hs_i ((nI 24) + ((nI 3) * (h.1 46 0 (nI 23).toNatClampNeg))), hs_r 46 0]) (h' := h) (h2 := q2.2) (fun n w => w) (fun q => hc_163 (by omega) eq2 q) ?_
  obtain ⟨c3, e⟩ := hs_ck_some e
  refine hs_wa 1 (c := vp_in ((nI 24) + ((nI 3) * (h.1 46 0 (nI 23).toNatClampNeg))) 54) (pc' := 25) (ls' := [hs_r 12 0, hs_i ((nI 24) + ((nI 3) * (h.1 46 0 (nI 23).toNatClampNeg)))]) (st' := []) (h' := hs_put q2.2 46 0 ((nI 24) + ((nI 3) * (h.1 46 0 (nI 23).toNatClampNeg))).toNatClampNeg q2.1) (fun n w => w) (hs_inb_iff.mp c3) ?_
  obtain ⟨q4, eq4, e⟩ := hs_bind_some e
  try dsimp only at e
  refine hs_wc 8 (y := 164) (a := [hs_r 12 0, hs_i (nI 0)]) (v := some (hs_i q4.1)) (pc' := 37) (ls' := [hs_r 12 0, hs_i ((nI 24) + ((nI 3) * (h.1 46 0 (nI 23).toNatClampNeg)))]) (st' := [hs_i (((nI 24) + ((nI 3) * (h.1 46 0 (nI 23).toNatClampNeg))) + (nI 1)), hs_r 46 0]) (h' := hs_put q2.2 46 0 ((nI 24) + ((nI 3) * (h.1 46 0 (nI 23).toNatClampNeg))).toNatClampNeg q2.1) (h2 := q4.2) (fun n w => w) (fun q => hc_164 (by omega) eq4 q) ?_
  obtain ⟨c5, e⟩ := hs_ck_some e
  refine hs_wa 1 (c := vp_in (((nI 24) + ((nI 3) * (h.1 46 0 (nI 23).toNatClampNeg))) + (nI 1)) 54) (pc' := 38) (ls' := [hs_r 12 0, hs_i ((nI 24) + ((nI 3) * (h.1 46 0 (nI 23).toNatClampNeg)))]) (st' := []) (h' := hs_put q4.2 46 0 (((nI 24) + ((nI 3) * (h.1 46 0 (nI 23).toNatClampNeg))) + (nI 1)).toNatClampNeg q4.1) (fun n w => w) (hs_inb_iff.mp c5) ?_
  obtain ⟨q6, eq6, e⟩ := hs_bind_some e
  try dsimp only at e
  refine hs_wc 9 (y := 163) (a := [hs_r 12 0, hs_i (nI 0), hs_i (nI 18)]) (v := some (hs_i q6.1)) (pc' := 52) (ls' := [hs_r 12 0, hs_i ((nI 24) + ((nI 3) * (h.1 46 0 (nI 23).toNatClampNeg)))]) (st' := [hs_i (((nI 24) + ((nI 3) * (h.1 46 0 (nI 23).toNatClampNeg))) + (nI 2)), hs_r 46 0]) (h' := hs_put q4.2 46 0 (((nI 24) + ((nI 3) * (h.1 46 0 (nI 23).toNatClampNeg))) + (nI 1)).toNatClampNeg q4.1) (h2 := q6.2) (fun n w => w) (fun q => hc_163 (by omega) eq6 q) ?_
  obtain ⟨c7, e⟩ := hs_ck_some e
  refine hs_wa 1 (c := vp_in (((nI 24) + ((nI 3) * (h.1 46 0 (nI 23).toNatClampNeg))) + (nI 2)) 54) (pc' := 53) (ls' := [hs_r 12 0, hs_i ((nI 24) + ((nI 3) * (h.1 46 0 (nI 23).toNatClampNeg)))]) (st' := []) (h' := hs_put q6.2 46 0 (((nI 24) + ((nI 3) * (h.1 46 0 (nI 23).toNatClampNeg))) + (nI 2)).toNatClampNeg q6.1) (fun n w => w) (hs_inb_iff.mp c7) ?_
  obtain ⟨c8, e⟩ := hs_ck_some e
  refine hs_wa 5 (c := vp_in (nI 23) 54) (pc' := 61) (ls' := [hs_r 12 0, hs_i ((nI 24) + ((nI 3) * (h.1 46 0 (nI 23).toNatClampNeg)))]) (st' := [hs_i ((hs_put q6.2 46 0 (((nI 24) + ((nI 3) * (h.1 46 0 (nI 23).toNatClampNeg))) + (nI 2)).toNatClampNeg q6.1).1 46 0 (nI 23).toNatClampNeg), hs_i (nI 23), hs_r 46 0]) (h' := hs_put q6.2 46 0 (((nI 24) + ((nI 3) * (h.1 46 0 (nI 23).toNatClampNeg))) + (nI 2)).toNatClampNeg q6.1) (fun n w => w) (hs_inb_iff.mp c8) ?_
  obtain ⟨c9, e⟩ := hs_ck_some e
  refine hs_wa 3 (c := vp_in (nI 23) 54) (pc' := 64) (ls' := [hs_r 12 0, hs_i ((nI 24) + ((nI 3) * (h.1 46 0 (nI 23).toNatClampNeg)))]) (st' := []) (h' := hs_put (hs_put q6.2 46 0 (((nI 24) + ((nI 3) * (h.1 46 0 (nI 23).toNatClampNeg))) + (nI 2)).toNatClampNeg q6.1) 46 0 (nI 23).toNatClampNeg (((hs_put q6.2 46 0 (((nI 24) + ((nI 3) * (h.1 46 0 (nI 23).toNatClampNeg))) + (nI 2)).toNatClampNeg q6.1).1 46 0 (nI 23).toNatClampNeg) + (nI 1))) (fun n w => w) (hs_inb_iff.mp c9) ?_
  obtain rfl := Option.some.inj e
  exact hs_wr 1 (v := none) (h' := hs_put (hs_put q6.2 46 0 (((nI 24) + ((nI 3) * (h.1 46 0 (nI 23).toNatClampNeg))) + (nI 2)).toNatClampNeg q6.1) 46 0 (nI 23).toNatClampNeg (((hs_put q6.2 46 0 (((nI 24) + ((nI 3) * (h.1 46 0 (nI 23).toNatClampNeg))) + (nI 2)).toNatClampNeg q6.1).1 46 0 (nI 23).toNatClampNeg) + (nI 1))) (fun n w => w) q
def hb_167_132     (h : hs_H) : Option (hs_H) := some h
set_option maxHeartbeats 1000000 in
theorem hw_167_132 {S : hs_S} {d : Nat} {Q : hs_Q} (hd : 4 ≤ d)      {v1 : hs_V} {h : hs_H} {r : hs_H} (e : hb_167_132 h = some r) (q : Q none r) : hs_W S d 0 hs_p167 Q 132 [hs_r 12 0, v1] [] h := by
  unfold hb_167_132 at e
  obtain rfl := Option.some.inj e
  exact hs_wr 1 (v := none) (h' := h) (fun n w => w) q
/-- HuntedScentModel.readLineOf(I)V -/
def hf_167 (a1 : Int32) (h : hs_H) : Option (hs_H) := if a1 = nI 0 then ((hf_163 (nI 2) (nI 10) h).bind (fun q2 => hb_167_132 (hs_put q2.2 12 0 7 q2.1))) else (if a1 = nI 1 then (hb_167_132 (hs_put h 12 0 8 (nI 1))) else (if a1 = nI 2 then ((hf_164 (nI 0) h).bind (fun q5 => hs_ck (hs_inb (nI 10) 54) (hb_167_132 (hs_put q5.2 46 0 (nI 10).toNatClampNeg q5.1)))) else (if a1 = nI 3 then ((hf_165 h).bind (fun q8 => hb_167_132 q8)) else (if a1 = nI 4 then ((hf_164 (h.1 12 0 9) h).bind (fun q10 => hb_167_132 (hs_put q10.2 12 0 9 ((h.1 12 0 9) ||| ((nI 1) <<< (q10.1 &&& 31)))))) else (if a1 = nI 5 then ((hf_164 (h.1 12 0 10) h).bind (fun q12 => hb_167_132 (hs_put q12.2 12 0 10 ((h.1 12 0 10) ||| ((nI 1) <<< (q12.1 &&& 31)))))) else ((hf_166 h).bind (fun q13 => hb_167_132 q13)))))))
set_option maxHeartbeats 1000000 in
theorem hc_167 {S : hs_S} {D : Nat} {Q : hs_Q} (hD : 5 ≤ D) {a1 : Int32} {h : hs_H} {r : hs_H} (e : hf_167 a1 h = some r) (q : Q none r) : hs_call hs_ms S D 167 [hs_r 12 0, hs_i a1] h Q := by
  refine hs_go (R := 4) hD rfl (Nat.le_of_ble_eq_true rfl) (fun d hd => ?_)
  show hs_W S d 0 hs_p167 Q 0 [hs_r 12 0, hs_i a1] [] h
  unfold hf_167 at e
  refine hs_ws1 2 (df := 128) (x := a1) (ps := [0, 40, 1, 54, 2, 62, 3, 77, 4, 84, 5, 106]) (ls' := [hs_r 12 0, hs_i a1]) (st' := []) (h' := h) (fun n w => w) ?_
  refine hs_ws2 (fun b1 => ?_) (fun b1 => ?_)
  · rw [if_pos b1] at e
    obtain ⟨q2, eq2, e⟩ := hs_bind_some e
    try dsimp only at e
    refine hs_wc 5 (y := 163) (a := [hs_r 12 0, hs_i (nI 2), hs_i (nI 10)]) (v := some (hs_i q2.1)) (pc' := 48) (ls' := [hs_r 12 0, hs_i a1]) (st' := [hs_r 12 0]) (h' := h) (h2 := q2.2) (fun n w => w) (fun q => hc_163 (by omega) eq2 q) ?_
    refine hs_w 2 (pc' := 132) (ls' := [hs_r 12 0, hs_i a1]) (st' := []) (h' := hs_put q2.2 12 0 7 q2.1) (fun n w => w) ?_
    exact hw_167_132 hd e q
  rw [if_neg b1] at e
  refine hs_ws2 (fun b3 => ?_) (fun b3 => ?_)
  · rw [if_pos b3] at e
    refine hs_w 4 (pc' := 132) (ls' := [hs_r 12 0, hs_i a1]) (st' := []) (h' := hs_put h 12 0 8 (nI 1)) (fun n w => w) ?_
    exact hw_167_132 hd e q
  rw [if_neg b3] at e
  refine hs_ws2 (fun b4 => ?_) (fun b4 => ?_)
  · rw [if_pos b4] at e
    obtain ⟨q5, eq5, e⟩ := hs_bind_some e
    try dsimp only at e
    refine hs_wc 6 (y := 164) (a := [hs_r 12 0, hs_i (nI 0)]) (v := some (hs_i q5.1)) (pc' := 73) (ls' := [hs_r 12 0, hs_i a1]) (st' := [hs_i (nI 10), hs_r 46 0]) (h' := h) (h2 := q5.2) (fun n w => w) (fun q => hc_164 (by omega) eq5 q) ?_
    obtain ⟨c6, e⟩ := hs_ck_some e
    refine hs_wa 1 (c := vp_in (nI 10) 54) (pc' := 74) (ls' := [hs_r 12 0, hs_i a1]) (st' := []) (h' := hs_put q5.2 46 0 (nI 10).toNatClampNeg q5.1) (fun n w => w) (hs_inb_iff.mp c6) ?_
    refine hs_w 1 (pc' := 132) (ls' := [hs_r 12 0, hs_i a1]) (st' := []) (h' := hs_put q5.2 46 0 (nI 10).toNatClampNeg q5.1) (fun n w => w) ?_
    exact hw_167_132 hd e q
  rw [if_neg b4] at e
  refine hs_ws2 (fun b7 => ?_) (fun b7 => ?_)
  · rw [if_pos b7] at e
    obtain ⟨q8, eq8, e⟩ := hs_bind_some e
    try dsimp only at e
    refine hs_wc 2 (y := 165) (a := [hs_r 12 0]) (v := none) (pc' := 81) (ls' := [hs_r 12 0, hs_i a1]) (st' := []) (h' := h) (h2 := q8) (fun n w => w) (fun q => hc_165 (by omega) eq8 q) ?_
    refine hs_w 1 (pc' := 132) (ls' := [hs_r 12 0, hs_i a1]) (st' := []) (h' := q8) (fun n w => w) ?_
    exact hw_167_132 hd e q
  rw [if_neg b7] at e
  refine hs_ws2 (fun b9 => ?_) (fun b9 => ?_)
  · rw [if_pos b9] at e
    obtain ⟨q10, eq10, e⟩ := hs_bind_some e
    try dsimp only at e
    refine hs_wc 8 (y := 164) (a := [hs_r 12 0, hs_i (h.1 12 0 9)]) (v := some (hs_i q10.1)) (pc' := 98) (ls' := [hs_r 12 0, hs_i a1]) (st' := [hs_i (nI 1), hs_i (h.1 12 0 9), hs_r 12 0]) (h' := h) (h2 := q10.2) (fun n w => w) (fun q => hc_164 (by omega) eq10 q) ?_
    refine hs_w 4 (pc' := 132) (ls' := [hs_r 12 0, hs_i a1]) (st' := []) (h' := hs_put q10.2 12 0 9 ((h.1 12 0 9) ||| ((nI 1) <<< (q10.1 &&& 31)))) (fun n w => w) ?_
    exact hw_167_132 hd e q
  rw [if_neg b9] at e
  refine hs_ws2 (fun b11 => ?_) (fun b11 => ?_)
  · rw [if_pos b11] at e
    obtain ⟨q12, eq12, e⟩ := hs_bind_some e
    try dsimp only at e
    refine hs_wc 8 (y := 164) (a := [hs_r 12 0, hs_i (h.1 12 0 10)]) (v := some (hs_i q12.1)) (pc' := 120) (ls' := [hs_r 12 0, hs_i a1]) (st' := [hs_i (nI 1), hs_i (h.1 12 0 10), hs_r 12 0]) (h' := h) (h2 := q12.2) (fun n w => w) (fun q => hc_164 (by omega) eq12 q) ?_
    refine hs_w 4 (pc' := 132) (ls' := [hs_r 12 0, hs_i a1]) (st' := []) (h' := hs_put q12.2 12 0 10 ((h.1 12 0 10) ||| ((nI 1) <<< (q12.1 &&& 31)))) (fun n w => w) ?_
    exact hw_167_132 hd e q
  rw [if_neg b11] at e
  refine hs_ws3 ?_
  obtain ⟨q13, eq13, e⟩ := hs_bind_some e
  try dsimp only at e
  refine hs_wc 2 (y := 166) (a := [hs_r 12 0]) (v := none) (pc' := 132) (ls' := [hs_r 12 0, hs_i a1]) (st' := []) (h' := h) (h2 := q13) (fun n w => w) (fun q => hc_166 (by omega) eq13 q) ?_
  exact hw_167_132 hd e q
def hb_168_149     (h : hs_H) : Option (hs_H) := (hf_161 h).bind (fun q11 => some q11)
set_option maxHeartbeats 1000000 in
theorem hw_168_149 {S : hs_S} {d : Nat} {Q : hs_Q} (hd : 5 ≤ d)      {v1 : hs_V} {h : hs_H} {r : hs_H} (e : hb_168_149 h = some r) (q : Q none r) : hs_W S d 0 hs_p168 Q 149 [hs_r 12 0, v1] [] h := by
  unfold hb_168_149 at e
  obtain ⟨q11, eq11, e⟩ := hs_bind_some e
  try dsimp only at e
  refine hs_wc 2 (y := 161) (a := [hs_r 12 0]) (v := none) (pc' := 153) (ls' := [hs_r 12 0, v1]) (st' := []) (h' := h) (h2 := q11) (fun n w => w) (fun q => hc_161 (by omega) eq11 q) ?_
  obtain rfl := Option.some.inj e
  exact hs_wr 1 (v := none) (h' := q11) (fun n w => w) q
def hb_168_145    (s0 : Int32) (h : hs_H) : Option (hs_H) := (hf_157 s0 (nI 2) h).bind (fun q13 => hb_168_149 q13)
set_option maxHeartbeats 1000000 in
theorem hw_168_145 {S : hs_S} {d : Nat} {Q : hs_Q} (hd : 5 ≤ d)     {s0 : Int32} {v1 : hs_V} {h : hs_H} {r : hs_H} (e : hb_168_145 s0 h = some r) (q : Q none r) : hs_W S d 0 hs_p168 Q 145 [hs_r 12 0, v1] [hs_i s0, hs_r 12 0] h := by
  unfold hb_168_145 at e
  obtain ⟨q13, eq13, e⟩ := hs_bind_some e
  try dsimp only at e
  refine hs_wc 2 (y := 157) (a := [hs_r 12 0, hs_i s0, hs_i (nI 2)]) (v := none) (pc' := 149) (ls' := [hs_r 12 0, v1]) (st' := []) (h' := h) (h2 := q13) (fun n w => w) (fun q => hc_157 (by omega) eq13 q) ?_
  exact hw_168_149 hd e q
def hb_168_107   (x1 : Int32)  (h : hs_H) : Option (hs_H) := (hf_161 h).bind (fun q7 => if (q7.1 12 0 19) ≤ 0 then ((hf_167 x1 q7).bind (fun q9 => if ¬ (q9.1 12 0 19) = 0 then (hb_168_149 q9) else (if ¬ (q9.1 12 0 17) = (nI 3) then (hb_168_145 (nI 0) q9) else (hb_168_145 (nI 1) q9)))) else (some q7))
set_option maxHeartbeats 1000000 in
theorem hw_168_107 {S : hs_S} {d : Nat} {Q : hs_Q} (hd : 5 ≤ d)    {x1 : Int32}   {h : hs_H} {r : hs_H} (e : hb_168_107 x1 h = some r) (q : Q none r) : hs_W S d 0 hs_p168 Q 107 [hs_r 12 0, hs_i x1] [] h := by
  unfold hb_168_107 at e
  obtain ⟨q7, eq7, e⟩ := hs_bind_some e
  try dsimp only at e
  refine hs_wc 2 (y := 161) (a := [hs_r 12 0]) (v := none) (pc' := 111) (ls' := [hs_r 12 0, hs_i x1]) (st' := []) (h' := h) (h2 := q7) (fun n w => w) (fun q => hc_161 (by omega) eq7 q) ?_
  refine hs_wb 3 (c := (q7.1 12 0 19) ≤ 0) (t := 119) (f := 118) (ls' := [hs_r 12 0, hs_i x1]) (st' := []) (h' := q7) (fun n w => w) (fun b8 => ?_) (fun b8 => ?_)
  · rw [if_pos b8] at e
    obtain ⟨q9, eq9, e⟩ := hs_bind_some e
    try dsimp only at e
    refine hs_wc 3 (y := 167) (a := [hs_r 12 0, hs_i x1]) (v := none) (pc' := 124) (ls' := [hs_r 12 0, hs_i x1]) (st' := []) (h' := q7) (h2 := q9) (fun n w => w) (fun q => hc_167 (by omega) eq9 q) ?_
    refine hs_wb 3 (c := ¬ (q9.1 12 0 19) = 0) (t := 149) (f := 131) (ls' := [hs_r 12 0, hs_i x1]) (st' := []) (h' := q9) (fun n w => w) (fun b10 => ?_) (fun b10 => ?_)
    · rw [if_pos b10] at e
      exact hw_168_149 hd e q
    · rw [if_neg b10] at e
      refine hs_wb 5 (c := ¬ (q9.1 12 0 17) = (nI 3)) (t := 144) (f := 140) (ls' := [hs_r 12 0, hs_i x1]) (st' := [hs_r 12 0]) (h' := q9) (fun n w => w) (fun b12 => ?_) (fun b12 => ?_)
      · rw [if_pos b12] at e
        refine hs_w 1 (pc' := 145) (ls' := [hs_r 12 0, hs_i x1]) (st' := [hs_i (nI 0), hs_r 12 0]) (h' := q9) (fun n w => w) ?_
        exact hw_168_145 hd e q
      · rw [if_neg b12] at e
        refine hs_w 2 (pc' := 145) (ls' := [hs_r 12 0, hs_i x1]) (st' := [hs_i (nI 1), hs_r 12 0]) (h' := q9) (fun n w => w) ?_
        exact hw_168_145 hd e q
  · rw [if_neg b8] at e
    obtain rfl := Option.some.inj e
    exact hs_wr 1 (v := none) (h' := q7) (fun n w => w) q
def hb_168_91   (x1 : Int32) (s0 : Int32) (h : hs_H) : Option (hs_H) := (hf_157 s0 (nI 4) h).bind (fun q16 => hb_168_107 x1 (hs_put q16 12 0 12 ((q16.1 12 0 12) ||| ((nI 1) <<< (x1 &&& 31)))))
set_option maxHeartbeats 1000000 in
theorem hw_168_91 {S : hs_S} {d : Nat} {Q : hs_Q} (hd : 5 ≤ d)    {x1 : Int32} {s0 : Int32}  {h : hs_H} {r : hs_H} (e : hb_168_91 x1 s0 h = some r) (q : Q none r) : hs_W S d 0 hs_p168 Q 91 [hs_r 12 0, hs_i x1] [hs_i s0, hs_r 12 0] h := by
  unfold hb_168_91 at e
  obtain ⟨q16, eq16, e⟩ := hs_bind_some e
  try dsimp only at e
  refine hs_wc 2 (y := 157) (a := [hs_r 12 0, hs_i s0, hs_i (nI 4)]) (v := none) (pc' := 95) (ls' := [hs_r 12 0, hs_i x1]) (st' := []) (h' := h) (h2 := q16) (fun n w => w) (fun q => hc_157 (by omega) eq16 q) ?_
  refine hs_w 8 (pc' := 107) (ls' := [hs_r 12 0, hs_i x1]) (st' := []) (h' := hs_put q16 12 0 12 ((q16.1 12 0 12) ||| ((nI 1) <<< (x1 &&& 31)))) (fun n w => w) ?_
  exact hw_168_107 hd e q
def hb_168_58   (x1 : Int32) (s0 : Int32) (h : hs_H) : Option (hs_H) := (hf_157 s0 (nI 5) h).bind (fun q5 => if ¬ (q5.1 12 0 19) = 0 then (hb_168_107 x1 q5) else (if (nI 2) < x1 then (hb_168_107 x1 q5) else (if ¬ (((q5.1 12 0 12) >>> (x1 &&& 31)) &&& (nI 1)) = 0 then (hb_168_91 x1 (nI 0) q5) else (hb_168_91 x1 (nI 1) q5))))
set_option maxHeartbeats 1000000 in
theorem hw_168_58 {S : hs_S} {d : Nat} {Q : hs_Q} (hd : 5 ≤ d)    {x1 : Int32} {s0 : Int32}  {h : hs_H} {r : hs_H} (e : hb_168_58 x1 s0 h = some r) (q : Q none r) : hs_W S d 0 hs_p168 Q 58 [hs_r 12 0, hs_i x1] [hs_i s0, hs_r 12 0] h := by
  unfold hb_168_58 at e
  obtain ⟨q5, eq5, e⟩ := hs_bind_some e
  try dsimp only at e
  refine hs_wc 2 (y := 157) (a := [hs_r 12 0, hs_i s0, hs_i (nI 5)]) (v := none) (pc' := 62) (ls' := [hs_r 12 0, hs_i x1]) (st' := []) (h' := h) (h2 := q5) (fun n w => w) (fun q => hc_157 (by omega) eq5 q) ?_
  refine hs_wb 3 (c := ¬ (q5.1 12 0 19) = 0) (t := 107) (f := 69) (ls' := [hs_r 12 0, hs_i x1]) (st' := []) (h' := q5) (fun n w => w) (fun b6 => ?_) (fun b6 => ?_)
  · rw [if_pos b6] at e
    exact hw_168_107 hd e q
  · rw [if_neg b6] at e
    refine hs_wb 3 (c := (nI 2) < x1) (t := 107) (f := 74) (ls' := [hs_r 12 0, hs_i x1]) (st' := []) (h' := q5) (fun n w => w) (fun b14 => ?_) (fun b14 => ?_)
    · rw [if_pos b14] at e
      exact hw_168_107 hd e q
    · rw [if_neg b14] at e
      refine hs_wb 8 (c := ¬ (((q5.1 12 0 12) >>> (x1 &&& 31)) &&& (nI 1)) = 0) (t := 90) (f := 86) (ls' := [hs_r 12 0, hs_i x1]) (st' := [hs_r 12 0]) (h' := q5) (fun n w => w) (fun b15 => ?_) (fun b15 => ?_)
      · rw [if_pos b15] at e
        refine hs_w 1 (pc' := 91) (ls' := [hs_r 12 0, hs_i x1]) (st' := [hs_i (nI 0), hs_r 12 0]) (h' := q5) (fun n w => w) ?_
        exact hw_168_91 hd e q
      · rw [if_neg b15] at e
        refine hs_w 2 (pc' := 91) (ls' := [hs_r 12 0, hs_i x1]) (st' := [hs_i (nI 1), hs_r 12 0]) (h' := q5) (fun n w => w) ?_
        exact hw_168_91 hd e q
def hb_168_53   (x1 : Int32)  (h : hs_H) : Option (hs_H) := hb_168_58 x1 (nI 1) h
set_option maxHeartbeats 1000000 in
theorem hw_168_53 {S : hs_S} {d : Nat} {Q : hs_Q} (hd : 5 ≤ d)    {x1 : Int32}   {h : hs_H} {r : hs_H} (e : hb_168_53 x1 h = some r) (q : Q none r) : hs_W S d 0 hs_p168 Q 53 [hs_r 12 0, hs_i x1] [hs_r 12 0] h := by
  unfold hb_168_53 at e
  refine hs_w 2 (pc' := 58) (ls' := [hs_r 12 0, hs_i x1]) (st' := [hs_i (nI 1), hs_r 12 0]) (h' := h) (fun n w => w) ?_
  exact hw_168_58 hd e q
def hb_168_30   (x1 : Int32) (s0 : Int32) (h : hs_H) : Option (hs_H) := (hf_157 s0 (nI 2) h).bind (fun q3 => if ¬ x1 = (nI 6) then (hb_168_53 x1 q3) else (hs_ck (hs_inb (nI 23) 54) (if (nI 10) ≤ (q3.1 46 0 (nI 23).toNatClampNeg) then (hb_168_58 x1 (nI 0) q3) else (hb_168_53 x1 q3))))
set_option maxHeartbeats 1000000 in
theorem hw_168_30 {S : hs_S} {d : Nat} {Q : hs_Q} (hd : 5 ≤ d)    {x1 : Int32} {s0 : Int32}  {h : hs_H} {r : hs_H} (e : hb_168_30 x1 s0 h = some r) (q : Q none r) : hs_W S d 0 hs_p168 Q 30 [hs_r 12 0, hs_i x1] [hs_i s0, hs_r 12 0] h := by
  unfold hb_168_30 at e
  obtain ⟨q3, eq3, e⟩ := hs_bind_some e
  try dsimp only at e
  refine hs_wc 2 (y := 157) (a := [hs_r 12 0, hs_i s0, hs_i (nI 2)]) (v := none) (pc' := 34) (ls' := [hs_r 12 0, hs_i x1]) (st' := []) (h' := h) (h2 := q3) (fun n w => w) (fun q => hc_157 (by omega) eq3 q) ?_
  refine hs_wb 4 (c := ¬ x1 = (nI 6)) (t := 53) (f := 41) (ls' := [hs_r 12 0, hs_i x1]) (st' := [hs_r 12 0]) (h' := q3) (fun n w => w) (fun b4 => ?_) (fun b4 => ?_)
  · rw [if_pos b4] at e
    exact hw_168_53 hd e q
  · rw [if_neg b4] at e
    obtain ⟨c17, e⟩ := hs_ck_some e
    refine hs_wa 4 (c := vp_in (nI 23) 54) (pc' := 48) (ls' := [hs_r 12 0, hs_i x1]) (st' := [hs_i (q3.1 46 0 (nI 23).toNatClampNeg), hs_r 12 0]) (h' := q3) (fun n w => w) (hs_inb_iff.mp c17) ?_
    refine hs_wb 2 (c := (nI 10) ≤ (q3.1 46 0 (nI 23).toNatClampNeg)) (t := 57) (f := 53) (ls' := [hs_r 12 0, hs_i x1]) (st' := [hs_r 12 0]) (h' := q3) (fun n w => w) (fun b18 => ?_) (fun b18 => ?_)
    · rw [if_pos b18] at e
      refine hs_w 1 (pc' := 58) (ls' := [hs_r 12 0, hs_i x1]) (st' := [hs_i (nI 0), hs_r 12 0]) (h' := q3) (fun n w => w) ?_
      exact hw_168_58 hd e q
    · rw [if_neg b18] at e
      exact hw_168_53 hd e q
def hb_168_17    (s0 : Int32) (h : hs_H) : Option (hs_H) := if s0 = (nI 4294967292) then (hb_168_30 s0 (nI 0) h) else (hb_168_30 s0 (nI 1) h)
set_option maxHeartbeats 1000000 in
theorem hw_168_17 {S : hs_S} {d : Nat} {Q : hs_Q} (hd : 5 ≤ d)     {s0 : Int32} {v1 : hs_V} {h : hs_H} {r : hs_H} (e : hb_168_17 s0 h = some r) (q : Q none r) : hs_W S d 0 hs_p168 Q 17 [hs_r 12 0, v1] [hs_i s0] h := by
  unfold hb_168_17 at e
  refine hs_wb 5 (c := s0 = (nI 4294967292)) (t := 29) (f := 25) (ls' := [hs_r 12 0, hs_i s0]) (st' := [hs_r 12 0]) (h' := h) (fun n w => w) (fun b2 => ?_) (fun b2 => ?_)
  · rw [if_pos b2] at e
    refine hs_w 1 (pc' := 30) (ls' := [hs_r 12 0, hs_i s0]) (st' := [hs_i (nI 0), hs_r 12 0]) (h' := h) (fun n w => w) ?_
    exact hw_168_30 hd e q
  · rw [if_neg b2] at e
    refine hs_w 2 (pc' := 30) (ls' := [hs_r 12 0, hs_i s0]) (st' := [hs_i (nI 1), hs_r 12 0]) (h' := h) (fun n w => w) ?_
    exact hw_168_30 hd e q
/-- HuntedScentModel.readLine()V -/
def hf_168  (h : hs_H) : Option (hs_H) := if ¬ (h.1 12 0 17) = (nI 1) then (hb_168_17 (nI 4294967292) h) else ((hf_160 h).bind (fun q19 => hb_168_17 q19.1 q19.2))
set_option maxHeartbeats 1000000 in
theorem hc_168 {S : hs_S} {D : Nat} {Q : hs_Q} (hD : 6 ≤ D)  {h : hs_H} {r : hs_H} (e : hf_168 h = some r) (q : Q none r) : hs_call hs_ms S D 168 [hs_r 12 0] h Q := by
  refine hs_go (R := 5) hD rfl (Nat.le_of_ble_eq_true rfl) (fun d hd => ?_)
  show hs_W S d 0 hs_p168 Q 0 [hs_r 12 0, hs_u] [] h
  unfold hf_168 at e
  refine hs_wb 4 (c := ¬ (h.1 12 0 17) = (nI 1)) (t := 15) (f := 8) (ls' := [hs_r 12 0, hs_u]) (st' := []) (h' := h) (fun n w => w) (fun b1 => ?_) (fun b1 => ?_)
  · rw [if_pos b1] at e
    refine hs_w 1 (pc' := 17) (ls' := [hs_r 12 0, hs_u]) (st' := [hs_i (nI 4294967292)]) (h' := h) (fun n w => w) ?_
    exact hw_168_17 hd e q
  · rw [if_neg b1] at e
    obtain ⟨q19, eq19, e⟩ := hs_bind_some e
    try dsimp only at e
    refine hs_wc 2 (y := 160) (a := [hs_r 12 0]) (v := some (hs_i q19.1)) (pc' := 12) (ls' := [hs_r 12 0, hs_u]) (st' := []) (h' := h) (h2 := q19.2) (fun n w => w) (fun q => hc_160 (by omega) eq19 q) ?_
    refine hs_w 1 (pc' := 17) (ls' := [hs_r 12 0, hs_u]) (st' := [hs_i q19.1]) (h' := q19.2) (fun n w => w) ?_
    exact hw_168_17 hd e q
def hb_169_73   (x1 : Int32)  (h : hs_H) : Option (Int32 × hs_H) := if ((hs_put h 12 0 14 (nI 0)).1 12 0 19) ≤ 0 then ((hf_154 (hs_put h 12 0 14 (nI 0))).bind (fun q6 => some (x1, q6))) else (some ((nI 4294967286) - ((hs_put h 12 0 14 (nI 0)).1 12 0 20), hs_put h 12 0 14 (nI 0)))
set_option maxHeartbeats 1000000 in
theorem hw_169_73 {S : hs_S} {d : Nat} {Q : hs_Q} (hd : 6 ≤ d)    {x1 : Int32}   {h : hs_H} {r : Int32 × hs_H} (e : hb_169_73 x1 h = some r) (q : Q (some (hs_i r.1)) r.2) : hs_W S d 1 hs_p169 Q 73 [hs_r 12 0, hs_i x1] [] h := by
  unfold hb_169_73 at e
  refine hs_wb 6 (c := ((hs_put h 12 0 14 (nI 0)).1 12 0 19) ≤ 0) (t := 93) (f := 85) (ls' := [hs_r 12 0, hs_i x1]) (st' := []) (h' := hs_put h 12 0 14 (nI 0)) (fun n w => w) (fun b5 => ?_) (fun b5 => ?_)
  · rw [if_pos b5] at e
    obtain ⟨q6, eq6, e⟩ := hs_bind_some e
    try dsimp only at e
    refine hs_wc 2 (y := 154) (a := [hs_r 12 0]) (v := none) (pc' := 97) (ls' := [hs_r 12 0, hs_i x1]) (st' := []) (h' := hs_put h 12 0 14 (nI 0)) (h2 := q6) (fun n w => w) (fun q => hc_154 (by omega) eq6 q) ?_
    obtain rfl := Option.some.inj e
    exact hs_wr 2 (v := some (hs_i x1)) (h' := q6) (fun n w => w) q
  · rw [if_neg b5] at e
    obtain rfl := Option.some.inj e
    exact hs_wr 5 (v := some (hs_i ((nI 4294967286) - ((hs_put h 12 0 14 (nI 0)).1 12 0 20)))) (h' := hs_put h 12 0 14 (nI 0)) (fun n w => w) q
def hb_169_68   (x1 : Int32) (s0 : Int32) (h : hs_H) : Option (Int32 × hs_H) := (hf_157 s0 (nI 6) h).bind (fun q8 => hb_169_73 x1 q8)
set_option maxHeartbeats 1000000 in
theorem hw_169_68 {S : hs_S} {d : Nat} {Q : hs_Q} (hd : 6 ≤ d)    {x1 : Int32} {s0 : Int32}  {h : hs_H} {r : Int32 × hs_H} (e : hb_169_68 x1 s0 h = some r) (q : Q (some (hs_i r.1)) r.2) : hs_W S d 1 hs_p169 Q 68 [hs_r 12 0, hs_i x1] [hs_i s0, hs_r 12 0] h := by
  unfold hb_169_68 at e
  obtain ⟨q8, eq8, e⟩ := hs_bind_some e
  try dsimp only at e
  refine hs_wc 2 (y := 157) (a := [hs_r 12 0, hs_i s0, hs_i (nI 6)]) (v := none) (pc' := 73) (ls' := [hs_r 12 0, hs_i x1]) (st' := []) (h' := h) (h2 := q8) (fun n w => w) (fun q => hc_157 (by omega) eq8 q) ?_
  exact hw_169_73 hd e q
def hb_169_44   (x1 : Int32)  (h : hs_H) : Option (Int32 × hs_H) := if ¬ (h.1 12 0 19) = 0 then (hb_169_73 x1 h) else (if (h.1 12 0 7) ≤ (h.1 12 0 11) then (hb_169_68 x1 (nI 0) h) else (hb_169_68 x1 (nI 1) h))
set_option maxHeartbeats 1000000 in
theorem hw_169_44 {S : hs_S} {d : Nat} {Q : hs_Q} (hd : 6 ≤ d)    {x1 : Int32}   {h : hs_H} {r : Int32 × hs_H} (e : hb_169_44 x1 h = some r) (q : Q (some (hs_i r.1)) r.2) : hs_W S d 1 hs_p169 Q 44 [hs_r 12 0, hs_i x1] [] h := by
  unfold hb_169_44 at e
  refine hs_wb 3 (c := ¬ (h.1 12 0 19) = 0) (t := 73) (f := 51) (ls' := [hs_r 12 0, hs_i x1]) (st' := []) (h' := h) (fun n w => w) (fun b4 => ?_) (fun b4 => ?_)
  · rw [if_pos b4] at e
    exact hw_169_73 hd e q
  · rw [if_neg b4] at e
    refine hs_wb 6 (c := (h.1 12 0 7) ≤ (h.1 12 0 11)) (t := 67) (f := 63) (ls' := [hs_r 12 0, hs_i x1]) (st' := [hs_r 12 0]) (h' := h) (fun n w => w) (fun b7 => ?_) (fun b7 => ?_)
    · rw [if_pos b7] at e
      refine hs_w 1 (pc' := 68) (ls' := [hs_r 12 0, hs_i x1]) (st' := [hs_i (nI 0), hs_r 12 0]) (h' := h) (fun n w => w) ?_
      exact hw_169_68 hd e q
    · rw [if_neg b7] at e
      refine hs_w 2 (pc' := 68) (ls' := [hs_r 12 0, hs_i x1]) (st' := [hs_i (nI 1), hs_r 12 0]) (h' := h) (fun n w => w) ?_
      exact hw_169_68 hd e q
def hb_169_20  (k20 : Int32 × hs_H → Option (Int32 × hs_H)) (x1 : Int32)  (h : hs_H) : Option (Int32 × hs_H) := if ¬ (h.1 12 0 19) = 0 then (hb_169_44 x1 h) else (if (h.1 12 0 17) = 0 then (hb_169_44 x1 h) else ((hf_168 h).bind (fun q10 => k20 (x1 + nI 1, q10))))
set_option maxHeartbeats 1000000 in
theorem hw_169_20 {S : hs_S} {d : Nat} {Q : hs_Q} (hd : 6 ≤ d)  {k20 : Int32 × hs_H → Option (Int32 × hs_H)} (hk20 : ∀ (x1 : Int32) (h : hs_H) (r : Int32 × hs_H) , k20 (x1, h) = some r → Q (some (hs_i r.1)) r.2 → hs_W S d 1 hs_p169 Q 20 [hs_r 12 0, hs_i x1] [] h) {x1 : Int32}   {h : hs_H} {r : Int32 × hs_H} (e : hb_169_20 k20 x1 h = some r) (q : Q (some (hs_i r.1)) r.2) : hs_W S d 1 hs_p169 Q 20 [hs_r 12 0, hs_i x1] [] h := by
  unfold hb_169_20 at e
  refine hs_wb 3 (c := ¬ (h.1 12 0 19) = 0) (t := 44) (f := 27) (ls' := [hs_r 12 0, hs_i x1]) (st' := []) (h' := h) (fun n w => w) (fun b3 => ?_) (fun b3 => ?_)
  · rw [if_pos b3] at e
    exact hw_169_44 hd e q
  · rw [if_neg b3] at e
    refine hs_wb 3 (c := (h.1 12 0 17) = 0) (t := 44) (f := 34) (ls' := [hs_r 12 0, hs_i x1]) (st' := []) (h' := h) (fun n w => w) (fun b9 => ?_) (fun b9 => ?_)
    · rw [if_pos b9] at e
      exact hw_169_44 hd e q
    · rw [if_neg b9] at e
      obtain ⟨q10, eq10, e⟩ := hs_bind_some e
      try dsimp only at e
      refine hs_wc 2 (y := 168) (a := [hs_r 12 0]) (v := none) (pc' := 38) (ls' := [hs_r 12 0, hs_i x1]) (st' := []) (h' := h) (h2 := q10) (fun n w => w) (fun q => hc_168 (by omega) eq10 q) ?_
      refine hs_w 2 (pc' := 20) (ls' := [hs_r 12 0, hs_i (x1 + nI 1)]) (st' := []) (h' := q10) (fun n w => w) ?_
      exact hk20 _ _ _  e q
theorem hw_169_20_lp {S : hs_S} {d : Nat} {Q : hs_Q} (hd : 6 ≤ d)    (n : Nat) {x1 : Int32} {h : hs_H} {r : Int32 × hs_H} (e : hs_lp (fun k s => hb_169_20 k s.1 s.2) n (x1, h) = some r)  (q : Q (some (hs_i r.1)) r.2) : hs_W S d 1 hs_p169 Q 20 [hs_r 12 0, hs_i x1] [] h := by
  refine hs_lp_ind (P := fun (s : Int32 × hs_H) (r : Int32 × hs_H) => ∀ (_ : True), Q (some (hs_i r.1)) r.2 → hs_W S d 1 hs_p169 Q 20 [hs_r 12 0, hs_i s.1] [] s.2) (fun k hk s r e _ q => ?_) n (x1, h) r e trivial q
  exact hw_169_20 hd (fun x1 h r  e q => hk (x1, h) r e trivial q) e q
/-- HuntedScentModel.text()I -/
def hf_169  (h : hs_H) : Option (Int32 × hs_H) := (hf_153 (hs_put (hs_put h 12 0 19 (nI 0)) 12 0 15 (nI 0))).bind (fun q1 => (hf_161 q1).bind (fun q2 => hs_lp (fun k s => hb_169_20 k s.1 s.2) hs_big (nI 0, q2)))
set_option maxHeartbeats 1000000 in
theorem hc_169 {S : hs_S} {D : Nat} {Q : hs_Q} (hD : 7 ≤ D)  {h : hs_H} {r : Int32 × hs_H} (e : hf_169 h = some r) (q : Q (some (hs_i r.1)) r.2) : hs_call hs_ms S D 169 [hs_r 12 0] h Q := by
  refine hs_go (R := 6) hD rfl (Nat.le_of_ble_eq_true rfl) (fun d hd => ?_)
  show hs_W S d 1 hs_p169 Q 0 [hs_r 12 0, hs_u] [] h
  unfold hf_169 at e
  obtain ⟨q1, eq1, e⟩ := hs_bind_some e
  try dsimp only at e
  refine hs_wc 10 (y := 153) (a := [hs_r 12 0]) (v := none) (pc' := 16) (ls' := [hs_r 12 0, hs_i (nI 0)]) (st' := []) (h' := hs_put (hs_put h 12 0 19 (nI 0)) 12 0 15 (nI 0)) (h2 := q1) (fun n w => w) (fun q => hc_153 (by omega) eq1 q) ?_
  obtain ⟨q2, eq2, e⟩ := hs_bind_some e
  try dsimp only at e
  refine hs_wc 2 (y := 161) (a := [hs_r 12 0]) (v := none) (pc' := 20) (ls' := [hs_r 12 0, hs_i (nI 0)]) (st' := []) (h' := q1) (h2 := q2) (fun n w => w) (fun q => hc_161 (by omega) eq2 q) ?_
  exact hw_169_20_lp hd hs_big e  q
/-- HuntedScentModel.fault()I -/
def hf_170  (h : hs_H) : Option (Int32 × hs_H) := some (h.1 12 0 19, h)
set_option maxHeartbeats 1000000 in
theorem hc_170 {S : hs_S} {D : Nat} {Q : hs_Q} (hD : 1 ≤ D)  {h : hs_H} {r : Int32 × hs_H} (e : hf_170 h = some r) (q : Q (some (hs_i r.1)) r.2) : hs_call hs_ms S D 170 [hs_r 12 0] h Q := by
  refine hs_go (R := 0) hD rfl (Nat.le_of_ble_eq_true rfl) (fun d hd => ?_)
  show hs_W S d 1 hs_p170 Q 0 [hs_r 12 0] [] h
  unfold hf_170 at e
  obtain rfl := Option.some.inj e
  exact hs_wr 3 (v := some (hs_i (h.1 12 0 19))) (h' := h) (fun n w => w) q
/-- HuntedScentModel.isNode(I)Z -/
def hf_171 (a1 : Int32) (h : hs_H) : Option (Int32 × hs_H) := (hf_150 a1.toInt64 (lN 0) (((h.1 12 0 2) - (nI 1)).toInt64) h).bind (fun q1 => hs_ck (hs_b01 q1.1) (some (q1.1, q1.2)))
set_option maxHeartbeats 1000000 in
theorem hc_171 {S : hs_S} {D : Nat} {Q : hs_Q} (hD : 2 ≤ D) {a1 : Int32} {h : hs_H} {r : Int32 × hs_H} (e : hf_171 a1 h = some r) (q : Q (some (hs_i r.1)) r.2) : hs_call hs_ms S D 171 [hs_r 12 0, hs_i a1] h Q := by
  refine hs_go (R := 1) hD rfl (Nat.le_of_ble_eq_true rfl) (fun d hd => ?_)
  show hs_W S d 2 hs_p171 Q 0 [hs_r 12 0, hs_i a1] [] h
  unfold hf_171 at e
  obtain ⟨q1, eq1, e⟩ := hs_bind_some e
  try dsimp only at e
  refine hs_wc 9 (y := 150) (a := [hs_l a1.toInt64, hs_l (lN 0), hs_l (((h.1 12 0 2) - (nI 1)).toInt64)]) (v := some (hs_i q1.1)) (pc' := 13) (ls' := [hs_r 12 0, hs_i a1]) (st' := []) (h' := h) (h2 := q1.2) (fun n w => w) (fun q => hc_150 (by omega) eq1 q) ?_
  obtain ⟨c2, e⟩ := hs_ck_some e
  obtain rfl := Option.some.inj e
  exact hs_wra 1 (c := q1.1 = 0 ∨ q1.1 = 1) (v := some (hs_i q1.1)) (h' := q1.2) (fun n w => w) (hs_b01_iff.mp c2) q
def hb_172_19    (s0 : Int32) (h : hs_H) : Option (Int32 × hs_H) := hs_ck (hs_b01 s0) (some (s0, h))
set_option maxHeartbeats 1000000 in
theorem hw_172_19 {S : hs_S} {d : Nat} {Q : hs_Q} (hd : 0 ≤ d)     {s0 : Int32} {v1 : hs_V} {v2 : hs_V} {h : hs_H} {r : Int32 × hs_H} (e : hb_172_19 s0 h = some r) (q : Q (some (hs_i r.1)) r.2) : hs_W S d 2 hs_p172 Q 19 [hs_r 12 0, v1, v2] [hs_i s0] h := by
  unfold hb_172_19 at e
  obtain ⟨c3, e⟩ := hs_ck_some e
  obtain rfl := Option.some.inj e
  exact hs_wra 1 (c := s0 = 0 ∨ s0 = 1) (v := some (hs_i s0)) (h' := h) (fun n w => w) (hs_b01_iff.mp c3) q
/-- HuntedScentModel.isJoined(II)Z -/
def hf_172 (a1 : Int32) (a2 : Int32) (h : hs_H) : Option (Int32 × hs_H) := hs_ck (hs_inb a1 162) (if ¬ (((h.1 44 0 a1.toNatClampNeg) >>> (a2 &&& 31)) &&& (nI 1)) = (nI 1) then (hb_172_19 (nI 0) h) else (hb_172_19 (nI 1) h))
set_option maxHeartbeats 1000000 in
theorem hc_172 {S : hs_S} {D : Nat} {Q : hs_Q} (hD : 1 ≤ D) {a1 : Int32} {a2 : Int32} {h : hs_H} {r : Int32 × hs_H} (e : hf_172 a1 a2 h = some r) (q : Q (some (hs_i r.1)) r.2) : hs_call hs_ms S D 172 [hs_r 12 0, hs_i a1, hs_i a2] h Q := by
  refine hs_go (R := 0) hD rfl (Nat.le_of_ble_eq_true rfl) (fun d hd => ?_)
  show hs_W S d 2 hs_p172 Q 0 [hs_r 12 0, hs_i a1, hs_i a2] [] h
  unfold hf_172 at e
  obtain ⟨c1, e⟩ := hs_ck_some e
  refine hs_wa 4 (c := vp_in a1 162) (pc' := 6) (ls' := [hs_r 12 0, hs_i a1, hs_i a2]) (st' := [hs_i (h.1 44 0 a1.toNatClampNeg)]) (h' := h) (fun n w => w) (hs_inb_iff.mp c1) ?_
  refine hs_wb 6 (c := ¬ (((h.1 44 0 a1.toNatClampNeg) >>> (a2 &&& 31)) &&& (nI 1)) = (nI 1)) (t := 18) (f := 14) (ls' := [hs_r 12 0, hs_i a1, hs_i a2]) (st' := []) (h' := h) (fun n w => w) (fun b2 => ?_) (fun b2 => ?_)
  · rw [if_pos b2] at e
    refine hs_w 1 (pc' := 19) (ls' := [hs_r 12 0, hs_i a1, hs_i a2]) (st' := [hs_i (nI 0)]) (h' := h) (fun n w => w) ?_
    exact hw_172_19 hd e q
  · rw [if_neg b2] at e
    refine hs_w 2 (pc' := 19) (ls' := [hs_r 12 0, hs_i a1, hs_i a2]) (st' := [hs_i (nI 1)]) (h' := h) (fun n w => w) ?_
    exact hw_172_19 hd e q
def hb_173_4  (k4 : Int32 × Int32 × Int32 × hs_H → Option (Int32 × hs_H)) (x1 : Int32) (x2 : Int32) (x3 : Int32)  (h : hs_H) : Option (Int32 × hs_H) := if (h.1 12 0 2) ≤ x3 then (if x1 = nI 0 then (some (h.1 12 0 2, h)) else (if x1 = nI 1 then (some (x2 / (nI 2), h)) else (if x1 = nI 2 then (some (h.1 12 0 3, h)) else (if x1 = nI 3 then (hs_ck (hs_inb (nI 10) 162) (some (h.1 44 0 (nI 10).toNatClampNeg, h))) else (if x1 = nI 4 then (some (h.1 12 0 4, h)) else (if x1 = nI 5 then (some (h.1 12 0 5, h)) else (some (nI 4294967295, h)))))))) else (hs_ck (hs_inb x3 162) ((hf_152 (h.1 44 0 x3.toNatClampNeg) h).bind (fun q10 => k4 (x1, x2 + q10.1, x3 + nI 1, q10.2))))
set_option maxHeartbeats 1000000 in
theorem hw_173_4 {S : hs_S} {d : Nat} {Q : hs_Q} (hd : 1 ≤ d)  {k4 : Int32 × Int32 × Int32 × hs_H → Option (Int32 × hs_H)} (hk4 : ∀ (x1 : Int32) (x2 : Int32) (x3 : Int32) (h : hs_H) (r : Int32 × hs_H) , k4 (x1, x2, x3, h) = some r → Q (some (hs_i r.1)) r.2 → hs_W S d 1 hs_p173 Q 4 [hs_r 12 0, hs_i x1, hs_i x2, hs_i x3] [] h) {x1 : Int32} {x2 : Int32} {x3 : Int32}   {h : hs_H} {r : Int32 × hs_H} (e : hb_173_4 k4 x1 x2 x3 h = some r) (q : Q (some (hs_i r.1)) r.2) : hs_W S d 1 hs_p173 Q 4 [hs_r 12 0, hs_i x1, hs_i x2, hs_i x3] [] h := by
  unfold hb_173_4 at e
  refine hs_wb 4 (c := (h.1 12 0 2) ≤ x3) (t := 30) (f := 12) (ls' := [hs_r 12 0, hs_i x1, hs_i x2, hs_i x3]) (st' := []) (h' := h) (fun n w => w) (fun b1 => ?_) (fun b1 => ?_)
  · rw [if_pos b1] at e
    refine hs_ws1 2 (df := 100) (x := x1) (ps := [0, 68, 1, 73, 2, 77, 3, 82, 4, 90, 5, 95]) (ls' := [hs_r 12 0, hs_i x1, hs_i x2, hs_i x3]) (st' := []) (h' := h) (fun n w => w) ?_
    refine hs_ws2 (fun b2 => ?_) (fun b2 => ?_)
    · rw [if_pos b2] at e
      obtain rfl := Option.some.inj e
      exact hs_wr 3 (v := some (hs_i (h.1 12 0 2))) (h' := h) (fun n w => w) q
    rw [if_neg b2] at e
    refine hs_ws2 (fun b3 => ?_) (fun b3 => ?_)
    · rw [if_pos b3] at e
      refine hs_wa 3 (c := ¬ nI 2 = 0) (pc' := 76) (ls' := [hs_r 12 0, hs_i x1, hs_i x2, hs_i x3]) (st' := [hs_i (x2 / (nI 2))]) (h' := h) (fun n w => w) (nI_ne0 (Nat.le_of_ble_eq_true rfl) (Nat.le_of_ble_eq_true rfl)) ?_
      obtain rfl := Option.some.inj e
      exact hs_wr 1 (v := some (hs_i (x2 / (nI 2)))) (h' := h) (fun n w => w) q
    rw [if_neg b3] at e
    refine hs_ws2 (fun b4 => ?_) (fun b4 => ?_)
    · rw [if_pos b4] at e
      obtain rfl := Option.some.inj e
      exact hs_wr 3 (v := some (hs_i (h.1 12 0 3))) (h' := h) (fun n w => w) q
    rw [if_neg b4] at e
    refine hs_ws2 (fun b5 => ?_) (fun b5 => ?_)
    · rw [if_pos b5] at e
      obtain ⟨c6, e⟩ := hs_ck_some e
      refine hs_wa 4 (c := vp_in (nI 10) 162) (pc' := 89) (ls' := [hs_r 12 0, hs_i x1, hs_i x2, hs_i x3]) (st' := [hs_i (h.1 44 0 (nI 10).toNatClampNeg)]) (h' := h) (fun n w => w) (hs_inb_iff.mp c6) ?_
      obtain rfl := Option.some.inj e
      exact hs_wr 1 (v := some (hs_i (h.1 44 0 (nI 10).toNatClampNeg))) (h' := h) (fun n w => w) q
    rw [if_neg b5] at e
    refine hs_ws2 (fun b7 => ?_) (fun b7 => ?_)
    · rw [if_pos b7] at e
      obtain rfl := Option.some.inj e
      exact hs_wr 3 (v := some (hs_i (h.1 12 0 4))) (h' := h) (fun n w => w) q
    rw [if_neg b7] at e
    refine hs_ws2 (fun b8 => ?_) (fun b8 => ?_)
    · rw [if_pos b8] at e
      obtain rfl := Option.some.inj e
      exact hs_wr 3 (v := some (hs_i (h.1 12 0 5))) (h' := h) (fun n w => w) q
    rw [if_neg b8] at e
    refine hs_ws3 ?_
    obtain rfl := Option.some.inj e
    exact hs_wr 2 (v := some (hs_i (nI 4294967295))) (h' := h) (fun n w => w) q
  · rw [if_neg b1] at e
    obtain ⟨c9, e⟩ := hs_ck_some e
    refine hs_wa 5 (c := vp_in x3 162) (pc' := 19) (ls' := [hs_r 12 0, hs_i x1, hs_i x2, hs_i x3]) (st' := [hs_i (h.1 44 0 x3.toNatClampNeg), hs_i x2]) (h' := h) (fun n w => w) (hs_inb_iff.mp c9) ?_
    obtain ⟨q10, eq10, e⟩ := hs_bind_some e
    try dsimp only at e
    refine hs_wc 1 (y := 152) (a := [hs_i (h.1 44 0 x3.toNatClampNeg)]) (v := some (hs_i q10.1)) (pc' := 22) (ls' := [hs_r 12 0, hs_i x1, hs_i x2, hs_i x3]) (st' := [hs_i x2]) (h' := h) (h2 := q10.2) (fun n w => w) (fun q => hc_152 (by omega) eq10 q) ?_
    refine hs_w 4 (pc' := 4) (ls' := [hs_r 12 0, hs_i x1, hs_i (x2 + q10.1), hs_i (x3 + nI 1)]) (st' := []) (h' := q10.2) (fun n w => w) ?_
    exact hk4 _ _ _ _ _  e q
theorem hw_173_4_lp {S : hs_S} {d : Nat} {Q : hs_Q} (hd : 1 ≤ d)    (n : Nat) {x1 : Int32} {x2 : Int32} {x3 : Int32} {h : hs_H} {r : Int32 × hs_H} (e : hs_lp (fun k s => hb_173_4 k s.1 s.2.1 s.2.2.1 s.2.2.2) n (x1, x2, x3, h) = some r)  (q : Q (some (hs_i r.1)) r.2) : hs_W S d 1 hs_p173 Q 4 [hs_r 12 0, hs_i x1, hs_i x2, hs_i x3] [] h := by
  refine hs_lp_ind (P := fun (s : Int32 × Int32 × Int32 × hs_H) (r : Int32 × hs_H) => ∀ (_ : True), Q (some (hs_i r.1)) r.2 → hs_W S d 1 hs_p173 Q 4 [hs_r 12 0, hs_i s.1, hs_i s.2.1, hs_i s.2.2.1] [] s.2.2.2) (fun k hk s r e _ q => ?_) n (x1, x2, x3, h) r e trivial q
  exact hw_173_4 hd (fun x1 x2 x3 h r  e q => hk (x1, x2, x3, h) r e trivial q) e q
/-- HuntedScentModel.rule(I)I -/
def hf_173 (a1 : Int32) (h : hs_H) : Option (Int32 × hs_H) := hs_lp (fun k s => hb_173_4 k s.1 s.2.1 s.2.2.1 s.2.2.2) hs_big (a1, nI 0, nI 0, h)
set_option maxHeartbeats 1000000 in
theorem hc_173 {S : hs_S} {D : Nat} {Q : hs_Q} (hD : 2 ≤ D) {a1 : Int32} {h : hs_H} {r : Int32 × hs_H} (e : hf_173 a1 h = some r) (q : Q (some (hs_i r.1)) r.2) : hs_call hs_ms S D 173 [hs_r 12 0, hs_i a1] h Q := by
  refine hs_go (R := 1) hD rfl (Nat.le_of_ble_eq_true rfl) (fun d hd => ?_)
  show hs_W S d 1 hs_p173 Q 0 [hs_r 12 0, hs_i a1, hs_u, hs_u] [] h
  unfold hf_173 at e
  refine hs_w 4 (pc' := 4) (ls' := [hs_r 12 0, hs_i a1, hs_i (nI 0), hs_i (nI 0)]) (st' := []) (h' := h) (fun n w => w) ?_
  exact hw_173_4_lp hd hs_big e  q
def hb_174_18    (s0 : Int32) (h : hs_H) : Option (Int32 × hs_H) := some (s0, h)
set_option maxHeartbeats 1000000 in
theorem hw_174_18 {S : hs_S} {d : Nat} {Q : hs_Q} (hd : 2 ≤ d)     {s0 : Int32} {v1 : hs_V} {h : hs_H} {r : Int32 × hs_H} (e : hb_174_18 s0 h = some r) (q : Q (some (hs_i r.1)) r.2) : hs_W S d 1 hs_p174 Q 18 [hs_r 12 0, v1] [hs_i s0] h := by
  unfold hb_174_18 at e
  obtain rfl := Option.some.inj e
  exact hs_wr 1 (v := some (hs_i s0)) (h' := h) (fun n w => w) q
/-- HuntedScentModel.lanes(I)I -/
def hf_174 (a1 : Int32) (h : hs_H) : Option (Int32 × hs_H) := (hf_171 a1 h).bind (fun q1 => if q1.1 = 0 then (hb_174_18 (nI 4294967295) q1.2) else (hs_ck (hs_inb a1 162) (hb_174_18 (q1.2.1 44 0 a1.toNatClampNeg) q1.2)))
set_option maxHeartbeats 1000000 in
theorem hc_174 {S : hs_S} {D : Nat} {Q : hs_Q} (hD : 3 ≤ D) {a1 : Int32} {h : hs_H} {r : Int32 × hs_H} (e : hf_174 a1 h = some r) (q : Q (some (hs_i r.1)) r.2) : hs_call hs_ms S D 174 [hs_r 12 0, hs_i a1] h Q := by
  refine hs_go (R := 2) hD rfl (Nat.le_of_ble_eq_true rfl) (fun d hd => ?_)
  show hs_W S d 1 hs_p174 Q 0 [hs_r 12 0, hs_i a1] [] h
  unfold hf_174 at e
  obtain ⟨q1, eq1, e⟩ := hs_bind_some e
  try dsimp only at e
  refine hs_wc 3 (y := 171) (a := [hs_r 12 0, hs_i a1]) (v := some (hs_i q1.1)) (pc' := 5) (ls' := [hs_r 12 0, hs_i a1]) (st' := []) (h' := h) (h2 := q1.2) (fun n w => w) (fun q => hc_171 (by omega) eq1 q) ?_
  refine hs_wb 1 (c := q1.1 = 0) (t := 17) (f := 8) (ls' := [hs_r 12 0, hs_i a1]) (st' := []) (h' := q1.2) (fun n w => w) (fun b2 => ?_) (fun b2 => ?_)
  · rw [if_pos b2] at e
    refine hs_w 1 (pc' := 18) (ls' := [hs_r 12 0, hs_i a1]) (st' := [hs_i (nI 4294967295)]) (h' := q1.2) (fun n w => w) ?_
    exact hw_174_18 hd e q
  · rw [if_neg b2] at e
    obtain ⟨c3, e⟩ := hs_ck_some e
    refine hs_wa 4 (c := vp_in a1 162) (pc' := 14) (ls' := [hs_r 12 0, hs_i a1]) (st' := [hs_i (q1.2.1 44 0 a1.toNatClampNeg)]) (h' := q1.2) (fun n w => w) (hs_inb_iff.mp c3) ?_
    refine hs_w 1 (pc' := 18) (ls' := [hs_r 12 0, hs_i a1]) (st' := [hs_i (q1.2.1 44 0 a1.toNatClampNeg)]) (h' := q1.2) (fun n w => w) ?_
    exact hw_174_18 hd e q
def hb_175_69    (s0 : Int32) (s1 : Int32) (h : hs_H) : Option (hs_H) := hs_ck (hs_inb s1 162) (some (hs_put h 44 0 s1.toNatClampNeg s0))
set_option maxHeartbeats 1000000 in
theorem hw_175_69 {S : hs_S} {d : Nat} {Q : hs_Q} (hd : 0 ≤ d)     {s0 : Int32} {s1 : Int32} {v1 : hs_V} {v2 : hs_V} {v3 : hs_V} {h : hs_H} {r : hs_H} (e : hb_175_69 s0 s1 h = some r) (q : Q none r) : hs_W S d 0 hs_p175 Q 69 [hs_r 12 0, v1, v2, v3] [hs_i s0, hs_i s1, hs_r 44 0] h := by
  unfold hb_175_69 at e
  obtain ⟨c6, e⟩ := hs_ck_some e
  refine hs_wa 1 (c := vp_in s1 162) (pc' := 70) (ls' := [hs_r 12 0, v1, v2, v3]) (st' := []) (h' := hs_put h 44 0 s1.toNatClampNeg s0) (fun n w => w) (hs_inb_iff.mp c6) ?_
  obtain rfl := Option.some.inj e
  exact hs_wr 1 (v := none) (h' := hs_put h 44 0 s1.toNatClampNeg s0) (fun n w => w) q
def hb_175_34   (x1 : Int32) (x2 : Int32) (x3 : Int32) (s0 : Int32) (s1 : Int32) (h : hs_H) : Option (hs_H) := hs_ck (hs_inb s1 162) (if x3 = 0 then (hs_ck (hs_inb x2 162) (hb_175_69 (((hs_put h 44 0 s1.toNatClampNeg s0).1 44 0 x2.toNatClampNeg) &&& (((nI 1) <<< (x1 &&& 31)) ^^^ (nI 4294967295))) x2 (hs_put h 44 0 s1.toNatClampNeg s0))) else (hs_ck (hs_inb x2 162) (hb_175_69 (((hs_put h 44 0 s1.toNatClampNeg s0).1 44 0 x2.toNatClampNeg) ||| ((nI 1) <<< (x1 &&& 31))) x2 (hs_put h 44 0 s1.toNatClampNeg s0))))
set_option maxHeartbeats 1000000 in
theorem hw_175_34 {S : hs_S} {d : Nat} {Q : hs_Q} (hd : 0 ≤ d)    {x1 : Int32} {x2 : Int32} {x3 : Int32} {s0 : Int32} {s1 : Int32}  {h : hs_H} {r : hs_H} (e : hb_175_34 x1 x2 x3 s0 s1 h = some r) (q : Q none r) : hs_W S d 0 hs_p175 Q 34 [hs_r 12 0, hs_i x1, hs_i x2, hs_i x3] [hs_i s0, hs_i s1, hs_r 44 0] h := by
  unfold hb_175_34 at e
  obtain ⟨c3, e⟩ := hs_ck_some e
  refine hs_wa 1 (c := vp_in s1 162) (pc' := 35) (ls' := [hs_r 12 0, hs_i x1, hs_i x2, hs_i x3]) (st' := []) (h' := hs_put h 44 0 s1.toNatClampNeg s0) (fun n w => w) (hs_inb_iff.mp c3) ?_
  refine hs_wb 5 (c := x3 = 0) (t := 57) (f := 44) (ls' := [hs_r 12 0, hs_i x1, hs_i x2, hs_i x3]) (st' := [hs_i x2, hs_r 44 0]) (h' := hs_put h 44 0 s1.toNatClampNeg s0) (fun n w => w) (fun b4 => ?_) (fun b4 => ?_)
  · rw [if_pos b4] at e
    obtain ⟨c5, e⟩ := hs_ck_some e
    refine hs_wa 4 (c := vp_in x2 162) (pc' := 63) (ls' := [hs_r 12 0, hs_i x1, hs_i x2, hs_i x3]) (st' := [hs_i ((hs_put h 44 0 s1.toNatClampNeg s0).1 44 0 x2.toNatClampNeg), hs_i x2, hs_r 44 0]) (h' := hs_put h 44 0 s1.toNatClampNeg s0) (fun n w => w) (hs_inb_iff.mp c5) ?_
    refine hs_w 6 (pc' := 69) (ls' := [hs_r 12 0, hs_i x1, hs_i x2, hs_i x3]) (st' := [hs_i (((hs_put h 44 0 s1.toNatClampNeg s0).1 44 0 x2.toNatClampNeg) &&& (((nI 1) <<< (x1 &&& 31)) ^^^ (nI 4294967295))), hs_i x2, hs_r 44 0]) (h' := hs_put h 44 0 s1.toNatClampNeg s0) (fun n w => w) ?_
    exact hw_175_69 hd e q
  · rw [if_neg b4] at e
    obtain ⟨c7, e⟩ := hs_ck_some e
    refine hs_wa 4 (c := vp_in x2 162) (pc' := 50) (ls' := [hs_r 12 0, hs_i x1, hs_i x2, hs_i x3]) (st' := [hs_i ((hs_put h 44 0 s1.toNatClampNeg s0).1 44 0 x2.toNatClampNeg), hs_i x2, hs_r 44 0]) (h' := hs_put h 44 0 s1.toNatClampNeg s0) (fun n w => w) (hs_inb_iff.mp c7) ?_
    refine hs_w 5 (pc' := 69) (ls' := [hs_r 12 0, hs_i x1, hs_i x2, hs_i x3]) (st' := [hs_i (((hs_put h 44 0 s1.toNatClampNeg s0).1 44 0 x2.toNatClampNeg) ||| ((nI 1) <<< (x1 &&& 31))), hs_i x2, hs_r 44 0]) (h' := hs_put h 44 0 s1.toNatClampNeg s0) (fun n w => w) ?_
    exact hw_175_69 hd e q
/-- HuntedScentModel.joins(IIZ)V -/
def hf_175 (a1 : Int32) (a2 : Int32) (a3 : Int32) (h : hs_H) : Option (hs_H) := if a3 = 0 then (hs_ck (hs_inb a1 162) (hb_175_34 a1 a2 a3 ((h.1 44 0 a1.toNatClampNeg) &&& (((nI 1) <<< (a2 &&& 31)) ^^^ (nI 4294967295))) a1 h)) else (hs_ck (hs_inb a1 162) (hb_175_34 a1 a2 a3 ((h.1 44 0 a1.toNatClampNeg) ||| ((nI 1) <<< (a2 &&& 31))) a1 h))
set_option maxHeartbeats 1000000 in
theorem hc_175 {S : hs_S} {D : Nat} {Q : hs_Q} (hD : 1 ≤ D) {a1 : Int32} {a2 : Int32} {a3 : Int32} {h : hs_H} {r : hs_H} (e : hf_175 a1 a2 a3 h = some r) (q : Q none r) : hs_call hs_ms S D 175 [hs_r 12 0, hs_i a1, hs_i a2, hs_i a3] h Q := by
  refine hs_go (R := 0) hD rfl (Nat.le_of_ble_eq_true rfl) (fun d hd => ?_)
  show hs_W S d 0 hs_p175 Q 0 [hs_r 12 0, hs_i a1, hs_i a2, hs_i a3] [] h
  unfold hf_175 at e
  refine hs_wb 5 (c := a3 = 0) (t := 22) (f := 9) (ls' := [hs_r 12 0, hs_i a1, hs_i a2, hs_i a3]) (st' := [hs_i a1, hs_r 44 0]) (h' := h) (fun n w => w) (fun b1 => ?_) (fun b1 => ?_)
  · rw [if_pos b1] at e
    obtain ⟨c2, e⟩ := hs_ck_some e
    refine hs_wa 4 (c := vp_in a1 162) (pc' := 28) (ls' := [hs_r 12 0, hs_i a1, hs_i a2, hs_i a3]) (st' := [hs_i (h.1 44 0 a1.toNatClampNeg), hs_i a1, hs_r 44 0]) (h' := h) (fun n w => w) (hs_inb_iff.mp c2) ?_
    refine hs_w 6 (pc' := 34) (ls' := [hs_r 12 0, hs_i a1, hs_i a2, hs_i a3]) (st' := [hs_i ((h.1 44 0 a1.toNatClampNeg) &&& (((nI 1) <<< (a2 &&& 31)) ^^^ (nI 4294967295))), hs_i a1, hs_r 44 0]) (h' := h) (fun n w => w) ?_
    exact hw_175_34 hd e q
  · rw [if_neg b1] at e
    obtain ⟨c8, e⟩ := hs_ck_some e
    refine hs_wa 4 (c := vp_in a1 162) (pc' := 15) (ls' := [hs_r 12 0, hs_i a1, hs_i a2, hs_i a3]) (st' := [hs_i (h.1 44 0 a1.toNatClampNeg), hs_i a1, hs_r 44 0]) (h' := h) (fun n w => w) (hs_inb_iff.mp c8) ?_
    refine hs_w 5 (pc' := 34) (ls' := [hs_r 12 0, hs_i a1, hs_i a2, hs_i a3]) (st' := [hs_i ((h.1 44 0 a1.toNatClampNeg) ||| ((nI 1) <<< (a2 &&& 31))), hs_i a1, hs_r 44 0]) (h' := h) (fun n w => w) ?_
    exact hw_175_34 hd e q
def hb_176_21     (h : hs_H) : Option (Int32 × hs_H) := some (nI 4294967295, h)
set_option maxHeartbeats 1000000 in
theorem hw_176_21 {S : hs_S} {d : Nat} {Q : hs_Q} (hd : 2 ≤ d)      {v1 : hs_V} {v2 : hs_V} {v3 : hs_V} {v4 : hs_V} {h : hs_H} {r : Int32 × hs_H} (e : hb_176_21 h = some r) (q : Q (some (hs_i r.1)) r.2) : hs_W S d 1 hs_p176 Q 21 [hs_r 12 0, v1, v2, v3, v4] [] h := by
  unfold hb_176_21 at e
  obtain rfl := Option.some.inj e
  exact hs_wr 2 (v := some (hs_i (nI 4294967295))) (h' := h) (fun n w => w) q
/-- HuntedScentModel.join(IIZ)I -/
def hf_176 (a1 : Int32) (a2 : Int32) (a3 : Int32) (h : hs_H) : Option (Int32 × hs_H) := (hf_171 a1 h).bind (fun q1 => if q1.1 = 0 then (hb_176_21 q1.2) else ((hf_171 a2 q1.2).bind (fun q3 => if q3.1 = 0 then (hb_176_21 q3.2) else (if ¬ a1 = a2 then ((hf_172 a1 a2 q3.2).bind (fun q6 => (hf_151 q6.1 q6.2).bind (fun q7 => (hf_175 a1 a2 a3 q7.2).bind (fun q8 => some (q7.1, q8))))) else (hb_176_21 q3.2)))))
set_option maxHeartbeats 1000000 in
theorem hc_176 {S : hs_S} {D : Nat} {Q : hs_Q} (hD : 3 ≤ D) {a1 : Int32} {a2 : Int32} {a3 : Int32} {h : hs_H} {r : Int32 × hs_H} (e : hf_176 a1 a2 a3 h = some r) (q : Q (some (hs_i r.1)) r.2) : hs_call hs_ms S D 176 [hs_r 12 0, hs_i a1, hs_i a2, hs_i a3] h Q := by
  refine hs_go (R := 2) hD rfl (Nat.le_of_ble_eq_true rfl) (fun d hd => ?_)
  show hs_W S d 1 hs_p176 Q 0 [hs_r 12 0, hs_i a1, hs_i a2, hs_i a3, hs_u] [] h
  unfold hf_176 at e
  obtain ⟨q1, eq1, e⟩ := hs_bind_some e
  try dsimp only at e
  refine hs_wc 3 (y := 171) (a := [hs_r 12 0, hs_i a1]) (v := some (hs_i q1.1)) (pc' := 5) (ls' := [hs_r 12 0, hs_i a1, hs_i a2, hs_i a3, hs_u]) (st' := []) (h' := h) (h2 := q1.2) (fun n w => w) (fun q => hc_171 (by omega) eq1 q) ?_
  refine hs_wb 1 (c := q1.1 = 0) (t := 21) (f := 8) (ls' := [hs_r 12 0, hs_i a1, hs_i a2, hs_i a3, hs_u]) (st' := []) (h' := q1.2) (fun n w => w) (fun b2 => ?_) (fun b2 => ?_)
  · rw [if_pos b2] at e
    exact hw_176_21 hd e q
  · rw [if_neg b2] at e
    obtain ⟨q3, eq3, e⟩ := hs_bind_some e
    try dsimp only at e
    refine hs_wc 3 (y := 171) (a := [hs_r 12 0, hs_i a2]) (v := some (hs_i q3.1)) (pc' := 13) (ls' := [hs_r 12 0, hs_i a1, hs_i a2, hs_i a3, hs_u]) (st' := []) (h' := q1.2) (h2 := q3.2) (fun n w => w) (fun q => hc_171 (by omega) eq3 q) ?_
    refine hs_wb 1 (c := q3.1 = 0) (t := 21) (f := 16) (ls' := [hs_r 12 0, hs_i a1, hs_i a2, hs_i a3, hs_u]) (st' := []) (h' := q3.2) (fun n w => w) (fun b4 => ?_) (fun b4 => ?_)
    · rw [if_pos b4] at e
      exact hw_176_21 hd e q
    · rw [if_neg b4] at e
      refine hs_wb 3 (c := ¬ a1 = a2) (t := 23) (f := 21) (ls' := [hs_r 12 0, hs_i a1, hs_i a2, hs_i a3, hs_u]) (st' := []) (h' := q3.2) (fun n w => w) (fun b5 => ?_) (fun b5 => ?_)
      · rw [if_pos b5] at e
        obtain ⟨q6, eq6, e⟩ := hs_bind_some e
        try dsimp only at e
        refine hs_wc 4 (y := 172) (a := [hs_r 12 0, hs_i a1, hs_i a2]) (v := some (hs_i q6.1)) (pc' := 29) (ls' := [hs_r 12 0, hs_i a1, hs_i a2, hs_i a3, hs_u]) (st' := []) (h' := q3.2) (h2 := q6.2) (fun n w => w) (fun q => hc_172 (by omega) eq6 q) ?_
        obtain ⟨q7, eq7, e⟩ := hs_bind_some e
        try dsimp only at e
        refine hs_wc 1 (y := 151) (a := [hs_i q6.1]) (v := some (hs_i q7.1)) (pc' := 32) (ls' := [hs_r 12 0, hs_i a1, hs_i a2, hs_i a3, hs_u]) (st' := []) (h' := q6.2) (h2 := q7.2) (fun n w => w) (fun q => hc_151 (by omega) eq7 q) ?_
        obtain ⟨q8, eq8, e⟩ := hs_bind_some e
        try dsimp only at e
        refine hs_wc 6 (y := 175) (a := [hs_r 12 0, hs_i a1, hs_i a2, hs_i a3]) (v := none) (pc' := 41) (ls' := [hs_r 12 0, hs_i a1, hs_i a2, hs_i a3, hs_i q7.1]) (st' := []) (h' := q7.2) (h2 := q8) (fun n w => w) (fun q => hc_175 (by omega) eq8 q) ?_
        obtain rfl := Option.some.inj e
        exact hs_wr 2 (v := some (hs_i q7.1)) (h' := q8) (fun n w => w) q
      · rw [if_neg b5] at e
        exact hw_176_21 hd e q
def hb_177_16   (x1 : Int32)  (h : hs_H) : Option (Int32 × hs_H) := hs_ck (hs_inb (nI 10) 162) (hs_ck (hs_inb (nI 10) 162) (some (h.1 44 0 (nI 10).toNatClampNeg, hs_put h 44 0 (nI 10).toNatClampNeg x1)))
set_option maxHeartbeats 1000000 in
theorem hw_177_16 {S : hs_S} {d : Nat} {Q : hs_Q} (hd : 2 ≤ d)    {x1 : Int32}  {v2 : hs_V} {h : hs_H} {r : Int32 × hs_H} (e : hb_177_16 x1 h = some r) (q : Q (some (hs_i r.1)) r.2) : hs_W S d 1 hs_p177 Q 16 [hs_r 12 0, hs_i x1, v2] [] h := by
  unfold hb_177_16 at e
  obtain ⟨c2, e⟩ := hs_ck_some e
  refine hs_wa 4 (c := vp_in (nI 10) 162) (pc' := 23) (ls' := [hs_r 12 0, hs_i x1, v2]) (st' := [hs_i (h.1 44 0 (nI 10).toNatClampNeg)]) (h' := h) (fun n w => w) (hs_inb_iff.mp c2) ?_
  obtain ⟨c3, e⟩ := hs_ck_some e
  refine hs_wa 6 (c := vp_in (nI 10) 162) (pc' := 32) (ls' := [hs_r 12 0, hs_i x1, hs_i (h.1 44 0 (nI 10).toNatClampNeg)]) (st' := []) (h' := hs_put h 44 0 (nI 10).toNatClampNeg x1) (fun n w => w) (hs_inb_iff.mp c3) ?_
  obtain rfl := Option.some.inj e
  exact hs_wr 2 (v := some (hs_i (h.1 44 0 (nI 10).toNatClampNeg))) (h' := hs_put h 44 0 (nI 10).toNatClampNeg x1) (fun n w => w) q
/-- HuntedScentModel.start(I)I -/
def hf_177 (a1 : Int32) (h : hs_H) : Option (Int32 × hs_H) := if a1 = (nI 4294967292) then (hb_177_16 a1 h) else ((hf_171 a1 h).bind (fun q4 => if ¬ q4.1 = 0 then (hb_177_16 a1 q4.2) else (some (nI 4294967295, q4.2))))
set_option maxHeartbeats 1000000 in
theorem hc_177 {S : hs_S} {D : Nat} {Q : hs_Q} (hD : 3 ≤ D) {a1 : Int32} {h : hs_H} {r : Int32 × hs_H} (e : hf_177 a1 h = some r) (q : Q (some (hs_i r.1)) r.2) : hs_call hs_ms S D 177 [hs_r 12 0, hs_i a1] h Q := by
  refine hs_go (R := 2) hD rfl (Nat.le_of_ble_eq_true rfl) (fun d hd => ?_)
  show hs_W S d 1 hs_p177 Q 0 [hs_r 12 0, hs_i a1, hs_u] [] h
  unfold hf_177 at e
  refine hs_wb 3 (c := a1 = (nI 4294967292)) (t := 16) (f := 6) (ls' := [hs_r 12 0, hs_i a1, hs_u]) (st' := []) (h' := h) (fun n w => w) (fun b1 => ?_) (fun b1 => ?_)
  · rw [if_pos b1] at e
    exact hw_177_16 hd e q
  · rw [if_neg b1] at e
    obtain ⟨q4, eq4, e⟩ := hs_bind_some e
    try dsimp only at e
    refine hs_wc 3 (y := 171) (a := [hs_r 12 0, hs_i a1]) (v := some (hs_i q4.1)) (pc' := 11) (ls' := [hs_r 12 0, hs_i a1, hs_u]) (st' := []) (h' := h) (h2 := q4.2) (fun n w => w) (fun q => hc_171 (by omega) eq4 q) ?_
    refine hs_wb 1 (c := ¬ q4.1 = 0) (t := 16) (f := 14) (ls' := [hs_r 12 0, hs_i a1, hs_u]) (st' := []) (h' := q4.2) (fun n w => w) (fun b5 => ?_) (fun b5 => ?_)
    · rw [if_pos b5] at e
      exact hw_177_16 hd e q
    · rw [if_neg b5] at e
      obtain rfl := Option.some.inj e
      exact hs_wr 2 (v := some (hs_i (nI 4294967295))) (h' := q4.2) (fun n w => w) q
def hb_178_107  (k37 : Int32 × hs_H → Option (hs_H)) (k45 : Int32 × Int32 × hs_H → Option (hs_H)) (k56 : Int32 × Int32 × Int32 × hs_H → Option (hs_H)) (x2 : Int32) (x3 : Int32) (x4 : Int32)  (h : hs_H) : Option (hs_H) := k56 (x2, x3, x4 + nI 1, h)
set_option maxHeartbeats 1000000 in
theorem hw_178_107 {S : hs_S} {d : Nat} {Q : hs_Q} (hd : 1 ≤ d)  {k37 : Int32 × hs_H → Option (hs_H)} {k45 : Int32 × Int32 × hs_H → Option (hs_H)} {k56 : Int32 × Int32 × Int32 × hs_H → Option (hs_H)} (hk37 : ∀ (x2 : Int32) (h : hs_H) (r : hs_H) (v1 : hs_V) (v3 : hs_V) (v4 : hs_V), k37 (x2, h) = some r → Q none r → hs_W S d 0 hs_p178 Q 37 [hs_r 12 0, v1, hs_i x2, v3, v4] [] h) (hk45 : ∀ (x2 : Int32) (x3 : Int32) (h : hs_H) (r : hs_H) (v1 : hs_V) (v4 : hs_V), k45 (x2, x3, h) = some r → Q none r → hs_W S d 0 hs_p178 Q 45 [hs_r 12 0, v1, hs_i x2, hs_i x3, v4] [] h) (hk56 : ∀ (x2 : Int32) (x3 : Int32) (x4 : Int32) (h : hs_H) (r : hs_H) (v1 : hs_V), k56 (x2, x3, x4, h) = some r → Q none r → hs_W S d 0 hs_p178 Q 56 [hs_r 12 0, v1, hs_i x2, hs_i x3, hs_i x4] [] h) {x2 : Int32} {x3 : Int32} {x4 : Int32}  {v1 : hs_V} {h : hs_H} {r : hs_H} (e : hb_178_107 k37 k45 k56 x2 x3 x4 h = some r) (q : Q none r) : hs_W S d 0 hs_p178 Q 107 [hs_r 12 0, v1, hs_i x2, hs_i x3, hs_i x4] [] h := by
  unfold hb_178_107 at e
  refine hs_w 2 (pc' := 56) (ls' := [hs_r 12 0, v1, hs_i x2, hs_i x3, hs_i (x4 + nI 1)]) (st' := []) (h' := h) (fun n w => w) ?_
  exact hk56 _ _ _ _ _ _ e q
def hb_178_56  (k37 : Int32 × hs_H → Option (hs_H)) (k45 : Int32 × Int32 × hs_H → Option (hs_H)) (k56 : Int32 × Int32 × Int32 × hs_H → Option (hs_H)) (x2 : Int32) (x3 : Int32) (x4 : Int32)  (h : hs_H) : Option (hs_H) := if (h.1 12 0 2) ≤ x4 then (k45 (x2, x3 + nI 1, h)) else (hs_ck (hs_inb x3 10) (if ¬ (h.1 48 0 x3.toNatClampNeg) = x2 then (hb_178_107 k37 k45 k56 x2 x3 x4 h) else ((hf_172 x3 x4 h).bind (fun q7 => if q7.1 = 0 then (hb_178_107 k37 k45 k56 x2 x3 x4 q7.2) else (hs_ck (hs_inb x4 10) (if ¬ (q7.2.1 48 0 x4.toNatClampNeg) = (nI 99999) then (hb_178_107 k37 k45 k56 x2 x3 x4 q7.2) else (hs_ck (hs_inb x4 10) (hb_178_107 k37 k45 k56 x2 x3 x4 (hs_put q7.2 48 0 x4.toNatClampNeg (x2 + (nI 1)))))))))))
set_option maxHeartbeats 1000000 in
theorem hw_178_56 {S : hs_S} {d : Nat} {Q : hs_Q} (hd : 1 ≤ d)  {k37 : Int32 × hs_H → Option (hs_H)} {k45 : Int32 × Int32 × hs_H → Option (hs_H)} {k56 : Int32 × Int32 × Int32 × hs_H → Option (hs_H)} (hk37 : ∀ (x2 : Int32) (h : hs_H) (r : hs_H) (v1 : hs_V) (v3 : hs_V) (v4 : hs_V), k37 (x2, h) = some r → Q none r → hs_W S d 0 hs_p178 Q 37 [hs_r 12 0, v1, hs_i x2, v3, v4] [] h) (hk45 : ∀ (x2 : Int32) (x3 : Int32) (h : hs_H) (r : hs_H) (v1 : hs_V) (v4 : hs_V), k45 (x2, x3, h) = some r → Q none r → hs_W S d 0 hs_p178 Q 45 [hs_r 12 0, v1, hs_i x2, hs_i x3, v4] [] h) (hk56 : ∀ (x2 : Int32) (x3 : Int32) (x4 : Int32) (h : hs_H) (r : hs_H) (v1 : hs_V), k56 (x2, x3, x4, h) = some r → Q none r → hs_W S d 0 hs_p178 Q 56 [hs_r 12 0, v1, hs_i x2, hs_i x3, hs_i x4] [] h) {x2 : Int32} {x3 : Int32} {x4 : Int32}  {v1 : hs_V} {h : hs_H} {r : hs_H} (e : hb_178_56 k37 k45 k56 x2 x3 x4 h = some r) (q : Q none r) : hs_W S d 0 hs_p178 Q 56 [hs_r 12 0, v1, hs_i x2, hs_i x3, hs_i x4] [] h := by
  unfold hb_178_56 at e
  refine hs_wb 4 (c := (h.1 12 0 2) ≤ x4) (t := 113) (f := 65) (ls' := [hs_r 12 0, v1, hs_i x2, hs_i x3, hs_i x4]) (st' := []) (h' := h) (fun n w => w) (fun b4 => ?_) (fun b4 => ?_)
  · rw [if_pos b4] at e
    refine hs_w 2 (pc' := 45) (ls' := [hs_r 12 0, v1, hs_i x2, hs_i (x3 + nI 1), hs_i x4]) (st' := []) (h' := h) (fun n w => w) ?_
    exact hk45 _ _ _ _ _ _ e q
  · rw [if_neg b4] at e
    obtain ⟨c5, e⟩ := hs_ck_some e
    refine hs_wa 4 (c := vp_in x3 10) (pc' := 71) (ls' := [hs_r 12 0, v1, hs_i x2, hs_i x3, hs_i x4]) (st' := [hs_i (h.1 48 0 x3.toNatClampNeg)]) (h' := h) (fun n w => w) (hs_inb_iff.mp c5) ?_
    refine hs_wb 2 (c := ¬ (h.1 48 0 x3.toNatClampNeg) = x2) (t := 107) (f := 75) (ls' := [hs_r 12 0, v1, hs_i x2, hs_i x3, hs_i x4]) (st' := []) (h' := h) (fun n w => w) (fun b6 => ?_) (fun b6 => ?_)
    · rw [if_pos b6] at e
      exact hw_178_107 hd hk37 hk45 hk56 e q
    · rw [if_neg b6] at e
      obtain ⟨q7, eq7, e⟩ := hs_bind_some e
      try dsimp only at e
      refine hs_wc 4 (y := 172) (a := [hs_r 12 0, hs_i x3, hs_i x4]) (v := some (hs_i q7.1)) (pc' := 82) (ls' := [hs_r 12 0, v1, hs_i x2, hs_i x3, hs_i x4]) (st' := []) (h' := h) (h2 := q7.2) (fun n w => w) (fun q => hc_172 (by omega) eq7 q) ?_
      refine hs_wb 1 (c := q7.1 = 0) (t := 107) (f := 85) (ls' := [hs_r 12 0, v1, hs_i x2, hs_i x3, hs_i x4]) (st' := []) (h' := q7.2) (fun n w => w) (fun b8 => ?_) (fun b8 => ?_)
      · rw [if_pos b8] at e
        exact hw_178_107 hd hk37 hk45 hk56 e q
      · rw [if_neg b8] at e
        obtain ⟨c9, e⟩ := hs_ck_some e
        refine hs_wa 4 (c := vp_in x4 10) (pc' := 92) (ls' := [hs_r 12 0, v1, hs_i x2, hs_i x3, hs_i x4]) (st' := [hs_i (q7.2.1 48 0 x4.toNatClampNeg)]) (h' := q7.2) (fun n w => w) (hs_inb_iff.mp c9) ?_
        refine hs_wb 2 (c := ¬ (q7.2.1 48 0 x4.toNatClampNeg) = (nI 99999)) (t := 107) (f := 97) (ls' := [hs_r 12 0, v1, hs_i x2, hs_i x3, hs_i x4]) (st' := []) (h' := q7.2) (fun n w => w) (fun b10 => ?_) (fun b10 => ?_)
        · rw [if_pos b10] at e
          exact hw_178_107 hd hk37 hk45 hk56 e q
        · rw [if_neg b10] at e
          obtain ⟨c11, e⟩ := hs_ck_some e
          refine hs_wa 7 (c := vp_in x4 10) (pc' := 107) (ls' := [hs_r 12 0, v1, hs_i x2, hs_i x3, hs_i x4]) (st' := []) (h' := hs_put q7.2 48 0 x4.toNatClampNeg (x2 + (nI 1))) (fun n w => w) (hs_inb_iff.mp c11) ?_
          exact hw_178_107 hd hk37 hk45 hk56 e q
theorem hw_178_56_lp {S : hs_S} {d : Nat} {Q : hs_Q} (hd : 1 ≤ d)  {k37 : Int32 × hs_H → Option (hs_H)} {k45 : Int32 × Int32 × hs_H → Option (hs_H)} (hk37 : ∀ (x2 : Int32) (h : hs_H) (r : hs_H) (v1 : hs_V) (v3 : hs_V) (v4 : hs_V), k37 (x2, h) = some r → Q none r → hs_W S d 0 hs_p178 Q 37 [hs_r 12 0, v1, hs_i x2, v3, v4] [] h) (hk45 : ∀ (x2 : Int32) (x3 : Int32) (h : hs_H) (r : hs_H) (v1 : hs_V) (v4 : hs_V), k45 (x2, x3, h) = some r → Q none r → hs_W S d 0 hs_p178 Q 45 [hs_r 12 0, v1, hs_i x2, hs_i x3, v4] [] h) (n : Nat) {x2 : Int32} {x3 : Int32} {x4 : Int32} {h : hs_H} {r : hs_H} (e : hs_lp (fun k s => hb_178_56 k37 k45 k s.1 s.2.1 s.2.2.1 s.2.2.2) n (x2, x3, x4, h) = some r) (v1 : hs_V) (q : Q none r) : hs_W S d 0 hs_p178 Q 56 [hs_r 12 0, v1, hs_i x2, hs_i x3, hs_i x4] [] h := by
  refine hs_lp_ind (P := fun (s : Int32 × Int32 × Int32 × hs_H) (r : hs_H) => ∀ (v1 : hs_V), Q none r → hs_W S d 0 hs_p178 Q 56 [hs_r 12 0, v1, hs_i s.1, hs_i s.2.1, hs_i s.2.2.1] [] s.2.2.2) (fun k hk s r e v1 q => ?_) n (x2, x3, x4, h) r e v1 q
  exact hw_178_56 hd hk37 hk45 (fun x2 x3 x4 h r v1 e q => hk (x2, x3, x4, h) r e v1 q) e q
def hb_178_45  (k37 : Int32 × hs_H → Option (hs_H)) (k45 : Int32 × Int32 × hs_H → Option (hs_H)) (x2 : Int32) (x3 : Int32)  (h : hs_H) : Option (hs_H) := if (h.1 12 0 2) ≤ x3 then (k37 (x2 + nI 1, h)) else (hs_lp (fun k s => hb_178_56 k37 k45 k s.1 s.2.1 s.2.2.1 s.2.2.2) hs_big (x2, x3, nI 0, h))
set_option maxHeartbeats 1000000 in
theorem hw_178_45 {S : hs_S} {d : Nat} {Q : hs_Q} (hd : 1 ≤ d)  {k37 : Int32 × hs_H → Option (hs_H)} {k45 : Int32 × Int32 × hs_H → Option (hs_H)} (hk37 : ∀ (x2 : Int32) (h : hs_H) (r : hs_H) (v1 : hs_V) (v3 : hs_V) (v4 : hs_V), k37 (x2, h) = some r → Q none r → hs_W S d 0 hs_p178 Q 37 [hs_r 12 0, v1, hs_i x2, v3, v4] [] h) (hk45 : ∀ (x2 : Int32) (x3 : Int32) (h : hs_H) (r : hs_H) (v1 : hs_V) (v4 : hs_V), k45 (x2, x3, h) = some r → Q none r → hs_W S d 0 hs_p178 Q 45 [hs_r 12 0, v1, hs_i x2, hs_i x3, v4] [] h) {x2 : Int32} {x3 : Int32}  {v1 : hs_V} {v4 : hs_V} {h : hs_H} {r : hs_H} (e : hb_178_45 k37 k45 x2 x3 h = some r) (q : Q none r) : hs_W S d 0 hs_p178 Q 45 [hs_r 12 0, v1, hs_i x2, hs_i x3, v4] [] h := by
  unfold hb_178_45 at e
  refine hs_wb 4 (c := (h.1 12 0 2) ≤ x3) (t := 119) (f := 53) (ls' := [hs_r 12 0, v1, hs_i x2, hs_i x3, v4]) (st' := []) (h' := h) (fun n w => w) (fun b3 => ?_) (fun b3 => ?_)
  · rw [if_pos b3] at e
    refine hs_w 2 (pc' := 37) (ls' := [hs_r 12 0, v1, hs_i (x2 + nI 1), hs_i x3, v4]) (st' := []) (h' := h) (fun n w => w) ?_
    exact hk37 _ _ _ _ _ _ e q
  · rw [if_neg b3] at e
    refine hs_w 2 (pc' := 56) (ls' := [hs_r 12 0, v1, hs_i x2, hs_i x3, hs_i (nI 0)]) (st' := []) (h' := h) (fun n w => w) ?_
    exact hw_178_56_lp hd hk37 hk45 hs_big e _ q
theorem hw_178_45_lp {S : hs_S} {d : Nat} {Q : hs_Q} (hd : 1 ≤ d)  {k37 : Int32 × hs_H → Option (hs_H)} (hk37 : ∀ (x2 : Int32) (h : hs_H) (r : hs_H) (v1 : hs_V) (v3 : hs_V) (v4 : hs_V), k37 (x2, h) = some r → Q none r → hs_W S d 0 hs_p178 Q 37 [hs_r 12 0, v1, hs_i x2, v3, v4] [] h) (n : Nat) {x2 : Int32} {x3 : Int32} {h : hs_H} {r : hs_H} (e : hs_lp (fun k s => hb_178_45 k37 k s.1 s.2.1 s.2.2) n (x2, x3, h) = some r) (v1 : hs_V) (v4 : hs_V) (q : Q none r) : hs_W S d 0 hs_p178 Q 45 [hs_r 12 0, v1, hs_i x2, hs_i x3, v4] [] h := by
  refine hs_lp_ind (P := fun (s : Int32 × Int32 × hs_H) (r : hs_H) => ∀ (v1 : hs_V) (v4 : hs_V), Q none r → hs_W S d 0 hs_p178 Q 45 [hs_r 12 0, v1, hs_i s.1, hs_i s.2.1, v4] [] s.2.2) (fun k hk s r e v1 v4 q => ?_) n (x2, x3, h) r e v1 v4 q
  exact hw_178_45 hd hk37 (fun x2 x3 h r v1 v4 e q => hk (x2, x3, h) r e v1 v4 q) e q
def hb_178_37  (k37 : Int32 × hs_H → Option (hs_H)) (x2 : Int32)  (h : hs_H) : Option (hs_H) := if (nI 10) ≤ x2 then (some h) else (hs_lp (fun k s => hb_178_45 k37 k s.1 s.2.1 s.2.2) hs_big (x2, nI 0, h))
set_option maxHeartbeats 1000000 in
theorem hw_178_37 {S : hs_S} {d : Nat} {Q : hs_Q} (hd : 1 ≤ d)  {k37 : Int32 × hs_H → Option (hs_H)} (hk37 : ∀ (x2 : Int32) (h : hs_H) (r : hs_H) (v1 : hs_V) (v3 : hs_V) (v4 : hs_V), k37 (x2, h) = some r → Q none r → hs_W S d 0 hs_p178 Q 37 [hs_r 12 0, v1, hs_i x2, v3, v4] [] h) {x2 : Int32}  {v1 : hs_V} {v3 : hs_V} {v4 : hs_V} {h : hs_H} {r : hs_H} (e : hb_178_37 k37 x2 h = some r) (q : Q none r) : hs_W S d 0 hs_p178 Q 37 [hs_r 12 0, v1, hs_i x2, v3, v4] [] h := by
  unfold hb_178_37 at e
  refine hs_wb 3 (c := (nI 10) ≤ x2) (t := 125) (f := 43) (ls' := [hs_r 12 0, v1, hs_i x2, v3, v4]) (st' := []) (h' := h) (fun n w => w) (fun b2 => ?_) (fun b2 => ?_)
  · rw [if_pos b2] at e
    obtain rfl := Option.some.inj e
    exact hs_wr 1 (v := none) (h' := h) (fun n w => w) q
  · rw [if_neg b2] at e
    refine hs_w 2 (pc' := 45) (ls' := [hs_r 12 0, v1, hs_i x2, hs_i (nI 0), v4]) (st' := []) (h' := h) (fun n w => w) ?_
    exact hw_178_45_lp hd hk37 hs_big e _ _ q
theorem hw_178_37_lp {S : hs_S} {d : Nat} {Q : hs_Q} (hd : 1 ≤ d)    (n : Nat) {x2 : Int32} {h : hs_H} {r : hs_H} (e : hs_lp (fun k s => hb_178_37 k s.1 s.2) n (x2, h) = some r) (v1 : hs_V) (v3 : hs_V) (v4 : hs_V) (q : Q none r) : hs_W S d 0 hs_p178 Q 37 [hs_r 12 0, v1, hs_i x2, v3, v4] [] h := by
  refine hs_lp_ind (P := fun (s : Int32 × hs_H) (r : hs_H) => ∀ (v1 : hs_V) (v3 : hs_V) (v4 : hs_V), Q none r → hs_W S d 0 hs_p178 Q 37 [hs_r 12 0, v1, hs_i s.1, v3, v4] [] s.2) (fun k hk s r e v1 v3 v4 q => ?_) n (x2, h) r e v1 v3 v4 q
  exact hw_178_37 hd (fun x2 h r v1 v3 v4 e q => hk (x2, h) r e v1 v3 v4 q) e q
def hb_178_28  (k2 : Int32 × Int32 × hs_H → Option (hs_H)) (x1 : Int32) (x2 : Int32) (s0 : Int32) (s1 : Int32) (h : hs_H) : Option (hs_H) := hs_ck (hs_inb s1 10) (k2 (x1, x2 + nI 1, hs_put h 48 0 s1.toNatClampNeg s0))
set_option maxHeartbeats 1000000 in
theorem hw_178_28 {S : hs_S} {d : Nat} {Q : hs_Q} (hd : 1 ≤ d)  {k2 : Int32 × Int32 × hs_H → Option (hs_H)} (hk2 : ∀ (x1 : Int32) (x2 : Int32) (h : hs_H) (r : hs_H) (v3 : hs_V) (v4 : hs_V), k2 (x1, x2, h) = some r → Q none r → hs_W S d 0 hs_p178 Q 2 [hs_r 12 0, hs_i x1, hs_i x2, v3, v4] [] h) {x1 : Int32} {x2 : Int32} {s0 : Int32} {s1 : Int32} {v3 : hs_V} {v4 : hs_V} {h : hs_H} {r : hs_H} (e : hb_178_28 k2 x1 x2 s0 s1 h = some r) (q : Q none r) : hs_W S d 0 hs_p178 Q 28 [hs_r 12 0, hs_i x1, hs_i x2, v3, v4] [hs_i s0, hs_i s1, hs_r 48 0] h := by
  unfold hb_178_28 at e
  obtain ⟨c13, e⟩ := hs_ck_some e
  refine hs_wa 1 (c := vp_in s1 10) (pc' := 29) (ls' := [hs_r 12 0, hs_i x1, hs_i x2, v3, v4]) (st' := []) (h' := hs_put h 48 0 s1.toNatClampNeg s0) (fun n w => w) (hs_inb_iff.mp c13) ?_
  refine hs_w 2 (pc' := 2) (ls' := [hs_r 12 0, hs_i x1, hs_i (x2 + nI 1), v3, v4]) (st' := []) (h' := hs_put h 48 0 s1.toNatClampNeg s0) (fun n w => w) ?_
  exact hk2 _ _ _ _ _ _ e q
def hb_178_2  (k2 : Int32 × Int32 × hs_H → Option (hs_H)) (x1 : Int32) (x2 : Int32)  (h : hs_H) : Option (hs_H) := if (nI 10) ≤ x2 then (hs_lp (fun k s => hb_178_37 k s.1 s.2) hs_big (nI 0, h)) else (if ¬ ((x1 >>> (x2 &&& 31)) &&& (nI 1)) = (nI 1) then (hb_178_28 k2 x1 x2 (nI 99999) x2 h) else (hb_178_28 k2 x1 x2 (nI 0) x2 h))
set_option maxHeartbeats 1000000 in
theorem hw_178_2 {S : hs_S} {d : Nat} {Q : hs_Q} (hd : 1 ≤ d)  {k2 : Int32 × Int32 × hs_H → Option (hs_H)} (hk2 : ∀ (x1 : Int32) (x2 : Int32) (h : hs_H) (r : hs_H) (v3 : hs_V) (v4 : hs_V), k2 (x1, x2, h) = some r → Q none r → hs_W S d 0 hs_p178 Q 2 [hs_r 12 0, hs_i x1, hs_i x2, v3, v4] [] h) {x1 : Int32} {x2 : Int32}  {v3 : hs_V} {v4 : hs_V} {h : hs_H} {r : hs_H} (e : hb_178_2 k2 x1 x2 h = some r) (q : Q none r) : hs_W S d 0 hs_p178 Q 2 [hs_r 12 0, hs_i x1, hs_i x2, v3, v4] [] h := by
  unfold hb_178_2 at e
  refine hs_wb 3 (c := (nI 10) ≤ x2) (t := 35) (f := 8) (ls' := [hs_r 12 0, hs_i x1, hs_i x2, v3, v4]) (st' := []) (h' := h) (fun n w => w) (fun b1 => ?_) (fun b1 => ?_)
  · rw [if_pos b1] at e
    refine hs_w 2 (pc' := 37) (ls' := [hs_r 12 0, hs_i x1, hs_i (nI 0), v3, v4]) (st' := []) (h' := h) (fun n w => w) ?_
    exact hw_178_37_lp hd hs_big e _ _ _ q
  · rw [if_neg b1] at e
    refine hs_wb 10 (c := ¬ ((x1 >>> (x2 &&& 31)) &&& (nI 1)) = (nI 1)) (t := 26) (f := 22) (ls' := [hs_r 12 0, hs_i x1, hs_i x2, v3, v4]) (st' := [hs_i x2, hs_r 48 0]) (h' := h) (fun n w => w) (fun b12 => ?_) (fun b12 => ?_)
    · rw [if_pos b12] at e
      refine hs_w 1 (pc' := 28) (ls' := [hs_r 12 0, hs_i x1, hs_i x2, v3, v4]) (st' := [hs_i (nI 99999), hs_i x2, hs_r 48 0]) (h' := h) (fun n w => w) ?_
      exact hw_178_28 hd hk2 e q
    · rw [if_neg b12] at e
      refine hs_w 2 (pc' := 28) (ls' := [hs_r 12 0, hs_i x1, hs_i x2, v3, v4]) (st' := [hs_i (nI 0), hs_i x2, hs_r 48 0]) (h' := h) (fun n w => w) ?_
      exact hw_178_28 hd hk2 e q
theorem hw_178_2_lp {S : hs_S} {d : Nat} {Q : hs_Q} (hd : 1 ≤ d)    (n : Nat) {x1 : Int32} {x2 : Int32} {h : hs_H} {r : hs_H} (e : hs_lp (fun k s => hb_178_2 k s.1 s.2.1 s.2.2) n (x1, x2, h) = some r) (v3 : hs_V) (v4 : hs_V) (q : Q none r) : hs_W S d 0 hs_p178 Q 2 [hs_r 12 0, hs_i x1, hs_i x2, v3, v4] [] h := by
  refine hs_lp_ind (P := fun (s : Int32 × Int32 × hs_H) (r : hs_H) => ∀ (v3 : hs_V) (v4 : hs_V), Q none r → hs_W S d 0 hs_p178 Q 2 [hs_r 12 0, hs_i s.1, hs_i s.2.1, v3, v4] [] s.2.2) (fun k hk s r e v3 v4 q => ?_) n (x1, x2, h) r e v3 v4 q
  exact hw_178_2 hd (fun x1 x2 h r v3 v4 e q => hk (x1, x2, h) r e v3 v4 q) e q
/-- HuntedScentModel.findSteps(I)V -/
def hf_178 (a1 : Int32) (h : hs_H) : Option (hs_H) := hs_lp (fun k s => hb_178_2 k s.1 s.2.1 s.2.2) hs_big (a1, nI 0, h)
set_option maxHeartbeats 1000000 in
theorem hc_178 {S : hs_S} {D : Nat} {Q : hs_Q} (hD : 2 ≤ D) {a1 : Int32} {h : hs_H} {r : hs_H} (e : hf_178 a1 h = some r) (q : Q none r) : hs_call hs_ms S D 178 [hs_r 12 0, hs_i a1] h Q := by
  refine hs_go (R := 1) hD rfl (Nat.le_of_ble_eq_true rfl) (fun d hd => ?_)
  show hs_W S d 0 hs_p178 Q 0 [hs_r 12 0, hs_i a1, hs_u, hs_u, hs_u] [] h
  unfold hf_178 at e
  refine hs_w 2 (pc' := 2) (ls' := [hs_r 12 0, hs_i a1, hs_i (nI 0), hs_u, hs_u]) (st' := []) (h' := h) (fun n w => w) ?_
  exact hw_178_2_lp hd hs_big e _ _ q
def hb_179_16     (h : hs_H) : Option (Int32 × hs_H) := some (nI 4294967295, h)
set_option maxHeartbeats 1000000 in
theorem hw_179_16 {S : hs_S} {d : Nat} {Q : hs_Q} (hd : 2 ≤ d)      {v1 : hs_V} {v2 : hs_V} {h : hs_H} {r : Int32 × hs_H} (e : hb_179_16 h = some r) (q : Q (some (hs_i r.1)) r.2) : hs_W S d 1 hs_p179 Q 16 [hs_r 12 0, v1, v2] [] h := by
  unfold hb_179_16 at e
  obtain rfl := Option.some.inj e
  exact hs_wr 2 (v := some (hs_i (nI 4294967295))) (h' := h) (fun n w => w) q
def hb_179_47    (s0 : Int32) (h : hs_H) : Option (Int32 × hs_H) := some (s0, h)
set_option maxHeartbeats 1000000 in
theorem hw_179_47 {S : hs_S} {d : Nat} {Q : hs_Q} (hd : 2 ≤ d)     {s0 : Int32} {v1 : hs_V} {v2 : hs_V} {h : hs_H} {r : Int32 × hs_H} (e : hb_179_47 s0 h = some r) (q : Q (some (hs_i r.1)) r.2) : hs_W S d 1 hs_p179 Q 47 [hs_r 12 0, v1, v2] [hs_i s0] h := by
  unfold hb_179_47 at e
  obtain rfl := Option.some.inj e
  exact hs_wr 1 (v := some (hs_i s0)) (h' := h) (fun n w => w) q
/-- HuntedScentModel.far(II)I -/
def hf_179 (a1 : Int32) (a2 : Int32) (h : hs_H) : Option (Int32 × hs_H) := (hf_171 a1 h).bind (fun q1 => if q1.1 = 0 then (hb_179_16 q1.2) else ((hf_171 a2 q1.2).bind (fun q3 => if ¬ q3.1 = 0 then ((hf_178 ((nI 1) <<< (a1 &&& 31)) q3.2).bind (fun q5 => hs_ck (hs_inb a2 10) (if ¬ (q5.1 48 0 a2.toNatClampNeg) = (nI 99999) then (hs_ck (hs_inb a2 10) (hb_179_47 (q5.1 48 0 a2.toNatClampNeg) q5)) else (hb_179_47 (nI 4294967292) q5)))) else (hb_179_16 q3.2))))
set_option maxHeartbeats 1000000 in
theorem hc_179 {S : hs_S} {D : Nat} {Q : hs_Q} (hD : 3 ≤ D) {a1 : Int32} {a2 : Int32} {h : hs_H} {r : Int32 × hs_H} (e : hf_179 a1 a2 h = some r) (q : Q (some (hs_i r.1)) r.2) : hs_call hs_ms S D 179 [hs_r 12 0, hs_i a1, hs_i a2] h Q := by
  refine hs_go (R := 2) hD rfl (Nat.le_of_ble_eq_true rfl) (fun d hd => ?_)
  show hs_W S d 1 hs_p179 Q 0 [hs_r 12 0, hs_i a1, hs_i a2] [] h
  unfold hf_179 at e
  obtain ⟨q1, eq1, e⟩ := hs_bind_some e
  try dsimp only at e
  refine hs_wc 3 (y := 171) (a := [hs_r 12 0, hs_i a1]) (v := some (hs_i q1.1)) (pc' := 5) (ls' := [hs_r 12 0, hs_i a1, hs_i a2]) (st' := []) (h' := h) (h2 := q1.2) (fun n w => w) (fun q => hc_171 (by omega) eq1 q) ?_
  refine hs_wb 1 (c := q1.1 = 0) (t := 16) (f := 8) (ls' := [hs_r 12 0, hs_i a1, hs_i a2]) (st' := []) (h' := q1.2) (fun n w => w) (fun b2 => ?_) (fun b2 => ?_)
  · rw [if_pos b2] at e
    exact hw_179_16 hd e q
  · rw [if_neg b2] at e
    obtain ⟨q3, eq3, e⟩ := hs_bind_some e
    try dsimp only at e
    refine hs_wc 3 (y := 171) (a := [hs_r 12 0, hs_i a2]) (v := some (hs_i q3.1)) (pc' := 13) (ls' := [hs_r 12 0, hs_i a1, hs_i a2]) (st' := []) (h' := q1.2) (h2 := q3.2) (fun n w => w) (fun q => hc_171 (by omega) eq3 q) ?_
    refine hs_wb 1 (c := ¬ q3.1 = 0) (t := 18) (f := 16) (ls' := [hs_r 12 0, hs_i a1, hs_i a2]) (st' := []) (h' := q3.2) (fun n w => w) (fun b4 => ?_) (fun b4 => ?_)
    · rw [if_pos b4] at e
      obtain ⟨q5, eq5, e⟩ := hs_bind_some e
      try dsimp only at e
      refine hs_wc 5 (y := 178) (a := [hs_r 12 0, hs_i ((nI 1) <<< (a1 &&& 31))]) (v := none) (pc' := 25) (ls' := [hs_r 12 0, hs_i a1, hs_i a2]) (st' := []) (h' := q3.2) (h2 := q5) (fun n w => w) (fun q => hc_178 (by omega) eq5 q) ?_
      obtain ⟨c6, e⟩ := hs_ck_some e
      refine hs_wa 4 (c := vp_in a2 10) (pc' := 31) (ls' := [hs_r 12 0, hs_i a1, hs_i a2]) (st' := [hs_i (q5.1 48 0 a2.toNatClampNeg)]) (h' := q5) (fun n w => w) (hs_inb_iff.mp c6) ?_
      refine hs_wb 2 (c := ¬ (q5.1 48 0 a2.toNatClampNeg) = (nI 99999)) (t := 41) (f := 36) (ls' := [hs_r 12 0, hs_i a1, hs_i a2]) (st' := []) (h' := q5) (fun n w => w) (fun b7 => ?_) (fun b7 => ?_)
      · rw [if_pos b7] at e
        obtain ⟨c8, e⟩ := hs_ck_some e
        refine hs_wa 4 (c := vp_in a2 10) (pc' := 47) (ls' := [hs_r 12 0, hs_i a1, hs_i a2]) (st' := [hs_i (q5.1 48 0 a2.toNatClampNeg)]) (h' := q5) (fun n w => w) (hs_inb_iff.mp c8) ?_
        exact hw_179_47 hd e q
      · rw [if_neg b7] at e
        refine hs_w 2 (pc' := 47) (ls' := [hs_r 12 0, hs_i a1, hs_i a2]) (st' := [hs_i (nI 4294967292)]) (h' := q5) (fun n w => w) ?_
        exact hw_179_47 hd e q
    · rw [if_neg b4] at e
      exact hw_179_16 hd e q
def hb_180_17    (s0 : Int32) (h : hs_H) : Option (Int32 × hs_H) := hs_ck (hs_b01 s0) (some (s0, h))
set_option maxHeartbeats 1000000 in
theorem hw_180_17 {S : hs_S} {d : Nat} {Q : hs_Q} (hd : 0 ≤ d)     {s0 : Int32} {v1 : hs_V} {h : hs_H} {r : Int32 × hs_H} (e : hb_180_17 s0 h = some r) (q : Q (some (hs_i r.1)) r.2) : hs_W S d 2 hs_p180 Q 17 [hs_r 12 0, v1] [hs_i s0] h := by
  unfold hb_180_17 at e
  obtain ⟨c2, e⟩ := hs_ck_some e
  obtain rfl := Option.some.inj e
  exact hs_wra 1 (c := s0 = 0 ∨ s0 = 1) (v := some (hs_i s0)) (h' := h) (fun n w => w) (hs_b01_iff.mp c2) q
/-- HuntedScentModel.isWater(I)Z -/
def hf_180 (a1 : Int32) (h : hs_H) : Option (Int32 × hs_H) := if ¬ (((h.1 12 0 4) >>> (a1 &&& 31)) &&& (nI 1)) = (nI 1) then (hb_180_17 (nI 0) h) else (hb_180_17 (nI 1) h)
set_option maxHeartbeats 1000000 in
theorem hc_180 {S : hs_S} {D : Nat} {Q : hs_Q} (hD : 1 ≤ D) {a1 : Int32} {h : hs_H} {r : Int32 × hs_H} (e : hf_180 a1 h = some r) (q : Q (some (hs_i r.1)) r.2) : hs_call hs_ms S D 180 [hs_r 12 0, hs_i a1] h Q := by
  refine hs_go (R := 0) hD rfl (Nat.le_of_ble_eq_true rfl) (fun d hd => ?_)
  show hs_W S d 2 hs_p180 Q 0 [hs_r 12 0, hs_i a1] [] h
  unfold hf_180 at e
  refine hs_wb 8 (c := ¬ (((h.1 12 0 4) >>> (a1 &&& 31)) &&& (nI 1)) = (nI 1)) (t := 16) (f := 12) (ls' := [hs_r 12 0, hs_i a1]) (st' := []) (h' := h) (fun n w => w) (fun b1 => ?_) (fun b1 => ?_)
  · rw [if_pos b1] at e
    refine hs_w 1 (pc' := 17) (ls' := [hs_r 12 0, hs_i a1]) (st' := [hs_i (nI 0)]) (h' := h) (fun n w => w) ?_
    exact hw_180_17 hd e q
  · rw [if_neg b1] at e
    refine hs_w 2 (pc' := 17) (ls' := [hs_r 12 0, hs_i a1]) (st' := [hs_i (nI 1)]) (h' := h) (fun n w => w) ?_
    exact hw_180_17 hd e q
def hb_181_27    (s0 : Int32) (h : hs_H) : Option (Int32 × hs_H) := hs_ck (hs_b01 s0) (some (s0, h))
set_option maxHeartbeats 1000000 in
theorem hw_181_27 {S : hs_S} {d : Nat} {Q : hs_Q} (hd : 1 ≤ d)     {s0 : Int32} {v1 : hs_V} {v2 : hs_V} {h : hs_H} {r : Int32 × hs_H} (e : hb_181_27 s0 h = some r) (q : Q (some (hs_i r.1)) r.2) : hs_W S d 2 hs_p181 Q 27 [hs_r 12 0, v1, v2] [hs_i s0] h := by
  unfold hb_181_27 at e
  obtain ⟨c3, e⟩ := hs_ck_some e
  obtain rfl := Option.some.inj e
  exact hs_wra 1 (c := s0 = 0 ∨ s0 = 1) (v := some (hs_i s0)) (h' := h) (fun n w => w) (hs_b01_iff.mp c3) q
/-- HuntedScentModel.isMove(II)Z -/
def hf_181 (a1 : Int32) (a2 : Int32) (h : hs_H) : Option (Int32 × hs_H) := if ¬ a1 = a2 then ((hf_172 a1 a2 h).bind (fun q2 => hb_181_27 q2.1 q2.2)) else (if ¬ (h.1 12 0 3) = (nI 1) then (hb_181_27 (nI 0) h) else (hb_181_27 (nI 1) h))
set_option maxHeartbeats 1000000 in
theorem hc_181 {S : hs_S} {D : Nat} {Q : hs_Q} (hD : 2 ≤ D) {a1 : Int32} {a2 : Int32} {h : hs_H} {r : Int32 × hs_H} (e : hf_181 a1 a2 h = some r) (q : Q (some (hs_i r.1)) r.2) : hs_call hs_ms S D 181 [hs_r 12 0, hs_i a1, hs_i a2] h Q := by
  refine hs_go (R := 1) hD rfl (Nat.le_of_ble_eq_true rfl) (fun d hd => ?_)
  show hs_W S d 2 hs_p181 Q 0 [hs_r 12 0, hs_i a1, hs_i a2] [] h
  unfold hf_181 at e
  refine hs_wb 3 (c := ¬ a1 = a2) (t := 21) (f := 5) (ls' := [hs_r 12 0, hs_i a1, hs_i a2]) (st' := []) (h' := h) (fun n w => w) (fun b1 => ?_) (fun b1 => ?_)
  · rw [if_pos b1] at e
    obtain ⟨q2, eq2, e⟩ := hs_bind_some e
    try dsimp only at e
    refine hs_wc 4 (y := 172) (a := [hs_r 12 0, hs_i a1, hs_i a2]) (v := some (hs_i q2.1)) (pc' := 27) (ls' := [hs_r 12 0, hs_i a1, hs_i a2]) (st' := []) (h' := h) (h2 := q2.2) (fun n w => w) (fun q => hc_172 (by omega) eq2 q) ?_
    exact hw_181_27 hd e q
  · rw [if_neg b1] at e
    refine hs_wb 4 (c := ¬ (h.1 12 0 3) = (nI 1)) (t := 17) (f := 13) (ls' := [hs_r 12 0, hs_i a1, hs_i a2]) (st' := []) (h' := h) (fun n w => w) (fun b4 => ?_) (fun b4 => ?_)
    · rw [if_pos b4] at e
      refine hs_w 2 (pc' := 27) (ls' := [hs_r 12 0, hs_i a1, hs_i a2]) (st' := [hs_i (nI 0)]) (h' := h) (fun n w => w) ?_
      exact hw_181_27 hd e q
    · rw [if_neg b4] at e
      refine hs_w 2 (pc' := 27) (ls' := [hs_r 12 0, hs_i a1, hs_i a2]) (st' := [hs_i (nI 1)]) (h' := h) (fun n w => w) ?_
      exact hw_181_27 hd e q
def hb_182_45  (k12 : Int32 × Int32 × hs_H → Option (Int32 × hs_H)) (x1 : Int32) (x2 : Int32) (s0 : Int32) (s1 : Int32) (h : hs_H) : Option (Int32 × hs_H) := hs_ck (hs_inb s1 162) (k12 (x1, x2 + nI 1, hs_put h 44 0 s1.toNatClampNeg s0))
set_option maxHeartbeats 1000000 in
theorem hw_182_45 {S : hs_S} {d : Nat} {Q : hs_Q} (hd : 2 ≤ d)  {k12 : Int32 × Int32 × hs_H → Option (Int32 × hs_H)} (hk12 : ∀ (x1 : Int32) (x2 : Int32) (h : hs_H) (r : Int32 × hs_H) , k12 (x1, x2, h) = some r → Q (some (hs_i r.1)) r.2 → hs_W S d 1 hs_p182 Q 12 [hs_r 12 0, hs_i x1, hs_i x2] [] h) {x1 : Int32} {x2 : Int32} {s0 : Int32} {s1 : Int32}  {h : hs_H} {r : Int32 × hs_H} (e : hb_182_45 k12 x1 x2 s0 s1 h = some r) (q : Q (some (hs_i r.1)) r.2) : hs_W S d 1 hs_p182 Q 45 [hs_r 12 0, hs_i x1, hs_i x2] [hs_i s0, hs_i s1, hs_r 44 0] h := by
  unfold hb_182_45 at e
  obtain ⟨c8, e⟩ := hs_ck_some e
  refine hs_wa 1 (c := vp_in s1 162) (pc' := 46) (ls' := [hs_r 12 0, hs_i x1, hs_i x2]) (st' := []) (h' := hs_put h 44 0 s1.toNatClampNeg s0) (fun n w => w) (hs_inb_iff.mp c8) ?_
  refine hs_w 2 (pc' := 12) (ls' := [hs_r 12 0, hs_i x1, hs_i (x2 + nI 1)]) (st' := []) (h' := hs_put h 44 0 s1.toNatClampNeg s0) (fun n w => w) ?_
  exact hk12 _ _ _ _  e q
def hb_182_44  (k12 : Int32 × Int32 × hs_H → Option (Int32 × hs_H)) (x1 : Int32) (x2 : Int32) (s0 : Int32) (h : hs_H) : Option (Int32 × hs_H) := hb_182_45 k12 x1 x2 (nI 0) s0 h
set_option maxHeartbeats 1000000 in
theorem hw_182_44 {S : hs_S} {d : Nat} {Q : hs_Q} (hd : 2 ≤ d)  {k12 : Int32 × Int32 × hs_H → Option (Int32 × hs_H)} (hk12 : ∀ (x1 : Int32) (x2 : Int32) (h : hs_H) (r : Int32 × hs_H) , k12 (x1, x2, h) = some r → Q (some (hs_i r.1)) r.2 → hs_W S d 1 hs_p182 Q 12 [hs_r 12 0, hs_i x1, hs_i x2] [] h) {x1 : Int32} {x2 : Int32} {s0 : Int32}  {h : hs_H} {r : Int32 × hs_H} (e : hb_182_44 k12 x1 x2 s0 h = some r) (q : Q (some (hs_i r.1)) r.2) : hs_W S d 1 hs_p182 Q 44 [hs_r 12 0, hs_i x1, hs_i x2] [hs_i s0, hs_r 44 0] h := by
  unfold hb_182_44 at e
  refine hs_w 1 (pc' := 45) (ls' := [hs_r 12 0, hs_i x1, hs_i x2]) (st' := [hs_i (nI 0), hs_i s0, hs_r 44 0]) (h' := h) (fun n w => w) ?_
  exact hw_182_45 hd hk12 e q
def hb_182_12  (k12 : Int32 × Int32 × hs_H → Option (Int32 × hs_H)) (x1 : Int32) (x2 : Int32)  (h : hs_H) : Option (Int32 × hs_H) := if (nI 10) ≤ x2 then (hs_ck (hs_inb (nI 11) 162) (hs_ck (hs_inb (nI 12) 162) (hs_ck (hs_inb ((nI 13) + x1) 162) (some ((hs_put (hs_put h 44 0 (nI 11).toNatClampNeg x1) 44 0 (nI 12).toNatClampNeg (nI 0)).1 44 0 ((nI 13) + x1).toNatClampNeg, hs_put (hs_put h 44 0 (nI 11).toNatClampNeg x1) 44 0 (nI 12).toNatClampNeg (nI 0)))))) else (if ¬ x2 = x1 then (hb_182_44 k12 x1 x2 ((nI 13) + x2) h) else ((hf_180 x2 h).bind (fun q9 => if ¬ q9.1 = 0 then (hb_182_44 k12 x1 x2 ((nI 13) + x2) q9.2) else (hb_182_45 k12 x1 x2 (nI 9) ((nI 13) + x2) q9.2))))
set_option maxHeartbeats 1000000 in
theorem hw_182_12 {S : hs_S} {d : Nat} {Q : hs_Q} (hd : 2 ≤ d)  {k12 : Int32 × Int32 × hs_H → Option (Int32 × hs_H)} (hk12 : ∀ (x1 : Int32) (x2 : Int32) (h : hs_H) (r : Int32 × hs_H) , k12 (x1, x2, h) = some r → Q (some (hs_i r.1)) r.2 → hs_W S d 1 hs_p182 Q 12 [hs_r 12 0, hs_i x1, hs_i x2] [] h) {x1 : Int32} {x2 : Int32}   {h : hs_H} {r : Int32 × hs_H} (e : hb_182_12 k12 x1 x2 h = some r) (q : Q (some (hs_i r.1)) r.2) : hs_W S d 1 hs_p182 Q 12 [hs_r 12 0, hs_i x1, hs_i x2] [] h := by
  unfold hb_182_12 at e
  refine hs_wb 3 (c := (nI 10) ≤ x2) (t := 52) (f := 18) (ls' := [hs_r 12 0, hs_i x1, hs_i x2]) (st' := []) (h' := h) (fun n w => w) (fun b3 => ?_) (fun b3 => ?_)
  · rw [if_pos b3] at e
    obtain ⟨c4, e⟩ := hs_ck_some e
    refine hs_wa 5 (c := vp_in (nI 11) 162) (pc' := 60) (ls' := [hs_r 12 0, hs_i x1, hs_i x2]) (st' := []) (h' := hs_put h 44 0 (nI 11).toNatClampNeg x1) (fun n w => w) (hs_inb_iff.mp c4) ?_
    obtain ⟨c5, e⟩ := hs_ck_some e
    refine hs_wa 5 (c := vp_in (nI 12) 162) (pc' := 68) (ls' := [hs_r 12 0, hs_i x1, hs_i x2]) (st' := []) (h' := hs_put (hs_put h 44 0 (nI 11).toNatClampNeg x1) 44 0 (nI 12).toNatClampNeg (nI 0)) (fun n w => w) (hs_inb_iff.mp c5) ?_
    obtain ⟨c6, e⟩ := hs_ck_some e
    refine hs_wa 6 (c := vp_in ((nI 13) + x1) 162) (pc' := 77) (ls' := [hs_r 12 0, hs_i x1, hs_i x2]) (st' := [hs_i ((hs_put (hs_put h 44 0 (nI 11).toNatClampNeg x1) 44 0 (nI 12).toNatClampNeg (nI 0)).1 44 0 ((nI 13) + x1).toNatClampNeg)]) (h' := hs_put (hs_put h 44 0 (nI 11).toNatClampNeg x1) 44 0 (nI 12).toNatClampNeg (nI 0)) (fun n w => w) (hs_inb_iff.mp c6) ?_
    obtain rfl := Option.some.inj e
    exact hs_wr 1 (v := some (hs_i ((hs_put (hs_put h 44 0 (nI 11).toNatClampNeg x1) 44 0 (nI 12).toNatClampNeg (nI 0)).1 44 0 ((nI 13) + x1).toNatClampNeg))) (h' := hs_put (hs_put h 44 0 (nI 11).toNatClampNeg x1) 44 0 (nI 12).toNatClampNeg (nI 0)) (fun n w => w) q
  · rw [if_neg b3] at e
    refine hs_wb 8 (c := ¬ x2 = x1) (t := 44) (f := 31) (ls' := [hs_r 12 0, hs_i x1, hs_i x2]) (st' := [hs_i ((nI 13) + x2), hs_r 44 0]) (h' := h) (fun n w => w) (fun b7 => ?_) (fun b7 => ?_)
    · rw [if_pos b7] at e
      exact hw_182_44 hd hk12 e q
    · rw [if_neg b7] at e
      obtain ⟨q9, eq9, e⟩ := hs_bind_some e
      try dsimp only at e
      refine hs_wc 3 (y := 180) (a := [hs_r 12 0, hs_i x2]) (v := some (hs_i q9.1)) (pc' := 36) (ls' := [hs_r 12 0, hs_i x1, hs_i x2]) (st' := [hs_i ((nI 13) + x2), hs_r 44 0]) (h' := h) (h2 := q9.2) (fun n w => w) (fun q => hc_180 (by omega) eq9 q) ?_
      refine hs_wb 1 (c := ¬ q9.1 = 0) (t := 44) (f := 39) (ls' := [hs_r 12 0, hs_i x1, hs_i x2]) (st' := [hs_i ((nI 13) + x2), hs_r 44 0]) (h' := q9.2) (fun n w => w) (fun b10 => ?_) (fun b10 => ?_)
      · rw [if_pos b10] at e
        exact hw_182_44 hd hk12 e q
      · rw [if_neg b10] at e
        refine hs_w 2 (pc' := 45) (ls' := [hs_r 12 0, hs_i x1, hs_i x2]) (st' := [hs_i (nI 9), hs_i ((nI 13) + x2), hs_r 44 0]) (h' := q9.2) (fun n w => w) ?_
        exact hw_182_45 hd hk12 e q
theorem hw_182_12_lp {S : hs_S} {d : Nat} {Q : hs_Q} (hd : 2 ≤ d)    (n : Nat) {x1 : Int32} {x2 : Int32} {h : hs_H} {r : Int32 × hs_H} (e : hs_lp (fun k s => hb_182_12 k s.1 s.2.1 s.2.2) n (x1, x2, h) = some r)  (q : Q (some (hs_i r.1)) r.2) : hs_W S d 1 hs_p182 Q 12 [hs_r 12 0, hs_i x1, hs_i x2] [] h := by
  refine hs_lp_ind (P := fun (s : Int32 × Int32 × hs_H) (r : Int32 × hs_H) => ∀ (_ : True), Q (some (hs_i r.1)) r.2 → hs_W S d 1 hs_p182 Q 12 [hs_r 12 0, hs_i s.1, hs_i s.2.1] [] s.2.2) (fun k hk s r e _ q => ?_) n (x1, x2, h) r e trivial q
  exact hw_182_12 hd (fun x1 x2 h r  e q => hk (x1, x2, h) r e trivial q) e q
/-- HuntedScentModel.fox(I)I -/
def hf_182 (a1 : Int32) (h : hs_H) : Option (Int32 × hs_H) := (hf_171 a1 h).bind (fun q1 => if ¬ q1.1 = 0 then (hs_lp (fun k s => hb_182_12 k s.1 s.2.1 s.2.2) hs_big (a1, nI 0, q1.2)) else (some (nI 4294967295, q1.2)))
set_option maxHeartbeats 1000000 in
theorem hc_182 {S : hs_S} {D : Nat} {Q : hs_Q} (hD : 3 ≤ D) {a1 : Int32} {h : hs_H} {r : Int32 × hs_H} (e : hf_182 a1 h = some r) (q : Q (some (hs_i r.1)) r.2) : hs_call hs_ms S D 182 [hs_r 12 0, hs_i a1] h Q := by
  refine hs_go (R := 2) hD rfl (Nat.le_of_ble_eq_true rfl) (fun d hd => ?_)
  show hs_W S d 1 hs_p182 Q 0 [hs_r 12 0, hs_i a1, hs_u] [] h
  unfold hf_182 at e
  obtain ⟨q1, eq1, e⟩ := hs_bind_some e
  try dsimp only at e
  refine hs_wc 3 (y := 171) (a := [hs_r 12 0, hs_i a1]) (v := some (hs_i q1.1)) (pc' := 5) (ls' := [hs_r 12 0, hs_i a1, hs_u]) (st' := []) (h' := h) (h2 := q1.2) (fun n w => w) (fun q => hc_171 (by omega) eq1 q) ?_
  refine hs_wb 1 (c := ¬ q1.1 = 0) (t := 10) (f := 8) (ls' := [hs_r 12 0, hs_i a1, hs_u]) (st' := []) (h' := q1.2) (fun n w => w) (fun b2 => ?_) (fun b2 => ?_)
  · rw [if_pos b2] at e
    refine hs_w 2 (pc' := 12) (ls' := [hs_r 12 0, hs_i a1, hs_i (nI 0)]) (st' := []) (h' := q1.2) (fun n w => w) ?_
    exact hw_182_12_lp hd hs_big e  q
  · rw [if_neg b2] at e
    obtain rfl := Option.some.inj e
    exact hs_wr 2 (v := some (hs_i (nI 4294967295))) (h' := q1.2) (fun n w => w) q
def hb_183_56    (s0 : Int32) (h : hs_H) : Option (Int32 × hs_H) := some (s0, h)
set_option maxHeartbeats 1000000 in
theorem hw_183_56 {S : hs_S} {d : Nat} {Q : hs_Q} (hd : 1 ≤ d)     {s0 : Int32} {v1 : hs_V} {v2 : hs_V} {v3 : hs_V} {v4 : hs_V} {h : hs_H} {r : Int32 × hs_H} (e : hb_183_56 s0 h = some r) (q : Q (some (hs_i r.1)) r.2) : hs_W S d 1 hs_p183 Q 56 [hs_r 12 0, v1, v2, v3, v4] [hs_i s0] h := by
  unfold hb_183_56 at e
  obtain rfl := Option.some.inj e
  exact hs_wr 1 (v := some (hs_i s0)) (h' := h) (fun n w => w) q
def hb_183_28   (x2 : Int32) (s0 : Int32) (h : hs_H) : Option (Int32 × hs_H) := (hf_180 x2 h).bind (fun q3 => if q3.1 = 0 then (if s0 ≤ (nI 18) then (hb_183_56 s0 q3.2) else (hb_183_56 (nI 18) q3.2)) else (hb_183_56 (nI 0) q3.2))
set_option maxHeartbeats 1000000 in
theorem hw_183_28 {S : hs_S} {d : Nat} {Q : hs_Q} (hd : 1 ≤ d)    {x2 : Int32} {s0 : Int32} {v1 : hs_V} {v3 : hs_V} {v4 : hs_V} {h : hs_H} {r : Int32 × hs_H} (e : hb_183_28 x2 s0 h = some r) (q : Q (some (hs_i r.1)) r.2) : hs_W S d 1 hs_p183 Q 28 [hs_r 12 0, v1, hs_i x2, v3, v4] [hs_i s0] h := by
  unfold hb_183_28 at e
  obtain ⟨q3, eq3, e⟩ := hs_bind_some e
  try dsimp only at e
  refine hs_wc 4 (y := 180) (a := [hs_r 12 0, hs_i x2]) (v := some (hs_i q3.1)) (pc' := 35) (ls' := [hs_r 12 0, v1, hs_i x2, v3, hs_i s0]) (st' := []) (h' := h) (h2 := q3.2) (fun n w => w) (fun q => hc_180 (by omega) eq3 q) ?_
  refine hs_wb 1 (c := q3.1 = 0) (t := 42) (f := 38) (ls' := [hs_r 12 0, v1, hs_i x2, v3, hs_i s0]) (st' := []) (h' := q3.2) (fun n w => w) (fun b4 => ?_) (fun b4 => ?_)
  · rw [if_pos b4] at e
    refine hs_wb 3 (c := s0 ≤ (nI 18)) (t := 54) (f := 49) (ls' := [hs_r 12 0, v1, hs_i x2, v3, hs_i s0]) (st' := []) (h' := q3.2) (fun n w => w) (fun b5 => ?_) (fun b5 => ?_)
    · rw [if_pos b5] at e
      refine hs_w 1 (pc' := 56) (ls' := [hs_r 12 0, v1, hs_i x2, v3, hs_i s0]) (st' := [hs_i s0]) (h' := q3.2) (fun n w => w) ?_
      exact hw_183_56 hd e q
    · rw [if_neg b5] at e
      refine hs_w 2 (pc' := 56) (ls' := [hs_r 12 0, v1, hs_i x2, v3, hs_i s0]) (st' := [hs_i (nI 18)]) (h' := q3.2) (fun n w => w) ?_
      exact hw_183_56 hd e q
  · rw [if_neg b4] at e
    refine hs_w 2 (pc' := 56) (ls' := [hs_r 12 0, v1, hs_i x2, v3, hs_i s0]) (st' := [hs_i (nI 0)]) (h' := q3.2) (fun n w => w) ?_
    exact hw_183_56 hd e q
def hb_183_11   (x2 : Int32) (x3 : Int32) (s0 : Int32) (h : hs_H) : Option (Int32 × hs_H) := if ¬ x2 = x3 then (hb_183_28 x2 s0 h) else (hb_183_28 x2 (s0 + (nI 9)) h)
set_option maxHeartbeats 1000000 in
theorem hw_183_11 {S : hs_S} {d : Nat} {Q : hs_Q} (hd : 1 ≤ d)    {x2 : Int32} {x3 : Int32} {s0 : Int32} {v1 : hs_V} {v4 : hs_V} {h : hs_H} {r : Int32 × hs_H} (e : hb_183_11 x2 x3 s0 h = some r) (q : Q (some (hs_i r.1)) r.2) : hs_W S d 1 hs_p183 Q 11 [hs_r 12 0, v1, hs_i x2, hs_i x3, v4] [hs_i s0] h := by
  unfold hb_183_11 at e
  refine hs_wb 4 (c := ¬ x2 = x3) (t := 26) (f := 18) (ls' := [hs_r 12 0, v1, hs_i x2, hs_i x3, hs_i s0]) (st' := []) (h' := h) (fun n w => w) (fun b2 => ?_) (fun b2 => ?_)
  · rw [if_pos b2] at e
    refine hs_w 1 (pc' := 28) (ls' := [hs_r 12 0, v1, hs_i x2, hs_i x3, hs_i s0]) (st' := [hs_i s0]) (h' := h) (fun n w => w) ?_
    exact hw_183_28 hd e q
  · rw [if_neg b2] at e
    refine hs_w 4 (pc' := 28) (ls' := [hs_r 12 0, v1, hs_i x2, hs_i x3, hs_i s0]) (st' := [hs_i (s0 + (nI 9))]) (h' := h) (fun n w => w) ?_
    exact hw_183_28 hd e q
/-- HuntedScentModel.smellThen(III)I -/
def hf_183 (a1 : Int32) (a2 : Int32) (a3 : Int32) (h : hs_H) : Option (Int32 × hs_H) := if a1 ≤ 0 then (hb_183_11 a2 a3 (nI 0) h) else (hb_183_11 a2 a3 (a1 - (nI 1)) h)
set_option maxHeartbeats 1000000 in
theorem hc_183 {S : hs_S} {D : Nat} {Q : hs_Q} (hD : 2 ≤ D) {a1 : Int32} {a2 : Int32} {a3 : Int32} {h : hs_H} {r : Int32 × hs_H} (e : hf_183 a1 a2 a3 h = some r) (q : Q (some (hs_i r.1)) r.2) : hs_call hs_ms S D 183 [hs_r 12 0, hs_i a1, hs_i a2, hs_i a3] h Q := by
  refine hs_go (R := 1) hD rfl (Nat.le_of_ble_eq_true rfl) (fun d hd => ?_)
  show hs_W S d 1 hs_p183 Q 0 [hs_r 12 0, hs_i a1, hs_i a2, hs_i a3, hs_u] [] h
  unfold hf_183 at e
  refine hs_wb 2 (c := a1 ≤ 0) (t := 10) (f := 4) (ls' := [hs_r 12 0, hs_i a1, hs_i a2, hs_i a3, hs_u]) (st' := []) (h' := h) (fun n w => w) (fun b1 => ?_) (fun b1 => ?_)
  · rw [if_pos b1] at e
    refine hs_w 1 (pc' := 11) (ls' := [hs_r 12 0, hs_i a1, hs_i a2, hs_i a3, hs_u]) (st' := [hs_i (nI 0)]) (h' := h) (fun n w => w) ?_
    exact hw_183_11 hd e q
  · rw [if_neg b1] at e
    refine hs_w 4 (pc' := 11) (ls' := [hs_r 12 0, hs_i a1, hs_i a2, hs_i a3, hs_u]) (st' := [hs_i (a1 - (nI 1))]) (h' := h) (fun n w => w) ?_
    exact hw_183_11 hd e q
def hb_184_45  (k45 : Int32 × Int32 × hs_H → Option (Int32 × hs_H)) (x1 : Int32) (x2 : Int32)  (h : hs_H) : Option (Int32 × hs_H) := if (h.1 12 0 2) ≤ x2 then (hs_ck (hs_inb (nI 11) 162) (hs_ck (hs_inb (nI 12) 162) (hs_ck (hs_inb (nI 12) 162) (hs_ck (hs_inb ((nI 13) + x1) 162) (some ((hs_put (hs_put h 44 0 (nI 11).toNatClampNeg x1) 44 0 (nI 12).toNatClampNeg (((hs_put h 44 0 (nI 11).toNatClampNeg x1).1 44 0 (nI 12).toNatClampNeg) + (nI 1))).1 44 0 ((nI 13) + x1).toNatClampNeg, hs_put (hs_put h 44 0 (nI 11).toNatClampNeg x1) 44 0 (nI 12).toNatClampNeg (((hs_put h 44 0 (nI 11).toNatClampNeg x1).1 44 0 (nI 12).toNatClampNeg) + (nI 1)))))))) else (hs_ck (hs_inb ((nI 13) + x2) 162) ((hf_183 (h.1 44 0 ((nI 13) + x2).toNatClampNeg) x2 x1 h).bind (fun q14 => hs_ck (hs_inb ((nI 13) + x2) 162) (k45 (x1, x2 + nI 1, hs_put q14.2 44 0 ((nI 13) + x2).toNatClampNeg q14.1)))))
set_option maxHeartbeats 1000000 in
theorem hw_184_45 {S : hs_S} {d : Nat} {Q : hs_Q} (hd : 2 ≤ d)  {k45 : Int32 × Int32 × hs_H → Option (Int32 × hs_H)} (hk45 : ∀ (x1 : Int32) (x2 : Int32) (h : hs_H) (r : Int32 × hs_H) , k45 (x1, x2, h) = some r → Q (some (hs_i r.1)) r.2 → hs_W S d 1 hs_p184 Q 45 [hs_r 12 0, hs_i x1, hs_i x2] [] h) {x1 : Int32} {x2 : Int32}   {h : hs_H} {r : Int32 × hs_H} (e : hb_184_45 k45 x1 x2 h = some r) (q : Q (some (hs_i r.1)) r.2) : hs_W S d 1 hs_p184 Q 45 [hs_r 12 0, hs_i x1, hs_i x2] [] h := by
  unfold hb_184_45 at e
  refine hs_wb 4 (c := (h.1 12 0 2) ≤ x2) (t := 83) (f := 53) (ls' := [hs_r 12 0, hs_i x1, hs_i x2]) (st' := []) (h' := h) (fun n w => w) (fun b8 => ?_) (fun b8 => ?_)
  · rw [if_pos b8] at e
    obtain ⟨c9, e⟩ := hs_ck_some e
    refine hs_wa 5 (c := vp_in (nI 11) 162) (pc' := 91) (ls' := [hs_r 12 0, hs_i x1, hs_i x2]) (st' := []) (h' := hs_put h 44 0 (nI 11).toNatClampNeg x1) (fun n w => w) (hs_inb_iff.mp c9) ?_
    obtain ⟨c10, e⟩ := hs_ck_some e
    refine hs_wa 5 (c := vp_in (nI 12) 162) (pc' := 99) (ls' := [hs_r 12 0, hs_i x1, hs_i x2]) (st' := [hs_i ((hs_put h 44 0 (nI 11).toNatClampNeg x1).1 44 0 (nI 12).toNatClampNeg), hs_i (nI 12), hs_r 44 0]) (h' := hs_put h 44 0 (nI 11).toNatClampNeg x1) (fun n w => w) (hs_inb_iff.mp c10) ?_
    obtain ⟨c11, e⟩ := hs_ck_some e
    refine hs_wa 3 (c := vp_in (nI 12) 162) (pc' := 102) (ls' := [hs_r 12 0, hs_i x1, hs_i x2]) (st' := []) (h' := hs_put (hs_put h 44 0 (nI 11).toNatClampNeg x1) 44 0 (nI 12).toNatClampNeg (((hs_put h 44 0 (nI 11).toNatClampNeg x1).1 44 0 (nI 12).toNatClampNeg) + (nI 1))) (fun n w => w) (hs_inb_iff.mp c11) ?_
    obtain ⟨c12, e⟩ := hs_ck_some e
    refine hs_wa 6 (c := vp_in ((nI 13) + x1) 162) (pc' := 111) (ls' := [hs_r 12 0, hs_i x1, hs_i x2]) (st' := [hs_i ((hs_put (hs_put h 44 0 (nI 11).toNatClampNeg x1) 44 0 (nI 12).toNatClampNeg (((hs_put h 44 0 (nI 11).toNatClampNeg x1).1 44 0 (nI 12).toNatClampNeg) + (nI 1))).1 44 0 ((nI 13) + x1).toNatClampNeg)]) (h' := hs_put (hs_put h 44 0 (nI 11).toNatClampNeg x1) 44 0 (nI 12).toNatClampNeg (((hs_put h 44 0 (nI 11).toNatClampNeg x1).1 44 0 (nI 12).toNatClampNeg) + (nI 1))) (fun n w => w) (hs_inb_iff.mp c12) ?_
    obtain rfl := Option.some.inj e
    exact hs_wr 1 (v := some (hs_i ((hs_put (hs_put h 44 0 (nI 11).toNatClampNeg x1) 44 0 (nI 12).toNatClampNeg (((hs_put h 44 0 (nI 11).toNatClampNeg x1).1 44 0 (nI 12).toNatClampNeg) + (nI 1))).1 44 0 ((nI 13) + x1).toNatClampNeg))) (h' := hs_put (hs_put h 44 0 (nI 11).toNatClampNeg x1) 44 0 (nI 12).toNatClampNeg (((hs_put h 44 0 (nI 11).toNatClampNeg x1).1 44 0 (nI 12).toNatClampNeg) + (nI 1))) (fun n w => w) q
  · rw [if_neg b8] at e
    obtain ⟨c13, e⟩ := hs_ck_some e
    refine hs_wa 12 (c := vp_in ((nI 13) + x2) 162) (pc' := 71) (ls' := [hs_r 12 0, hs_i x1, hs_i x2]) (st' := [hs_i (h.1 44 0 ((nI 13) + x2).toNatClampNeg), hs_r 12 0, hs_i ((nI 13) + x2), hs_r 44 0]) (h' := h) (fun n w => w) (hs_inb_iff.mp c13) ?_
    obtain ⟨q14, eq14, e⟩ := hs_bind_some e
    try dsimp only at e
    refine hs_wc 3 (y := 183) (a := [hs_r 12 0, hs_i (h.1 44 0 ((nI 13) + x2).toNatClampNeg), hs_i x2, hs_i x1]) (v := some (hs_i q14.1)) (pc' := 76) (ls' := [hs_r 12 0, hs_i x1, hs_i x2]) (st' := [hs_i ((nI 13) + x2), hs_r 44 0]) (h' := h) (h2 := q14.2) (fun n w => w) (fun q => hc_183 (by omega) eq14 q) ?_
    obtain ⟨c15, e⟩ := hs_ck_some e
    refine hs_wa 1 (c := vp_in ((nI 13) + x2) 162) (pc' := 77) (ls' := [hs_r 12 0, hs_i x1, hs_i x2]) (st' := []) (h' := hs_put q14.2 44 0 ((nI 13) + x2).toNatClampNeg q14.1) (fun n w => w) (hs_inb_iff.mp c15) ?_
    refine hs_w 2 (pc' := 45) (ls' := [hs_r 12 0, hs_i x1, hs_i (x2 + nI 1)]) (st' := []) (h' := hs_put q14.2 44 0 ((nI 13) + x2).toNatClampNeg q14.1) (fun n w => w) ?_
    exact hk45 _ _ _ _  e q
theorem hw_184_45_lp {S : hs_S} {d : Nat} {Q : hs_Q} (hd : 2 ≤ d)    (n : Nat) {x1 : Int32} {x2 : Int32} {h : hs_H} {r : Int32 × hs_H} (e : hs_lp (fun k s => hb_184_45 k s.1 s.2.1 s.2.2) n (x1, x2, h) = some r)  (q : Q (some (hs_i r.1)) r.2) : hs_W S d 1 hs_p184 Q 45 [hs_r 12 0, hs_i x1, hs_i x2] [] h := by
  refine hs_lp_ind (P := fun (s : Int32 × Int32 × hs_H) (r : Int32 × hs_H) => ∀ (_ : True), Q (some (hs_i r.1)) r.2 → hs_W S d 1 hs_p184 Q 45 [hs_r 12 0, hs_i s.1, hs_i s.2.1] [] s.2.2) (fun k hk s r e _ q => ?_) n (x1, x2, h) r e trivial q
  exact hw_184_45 hd (fun x1 x2 h r  e q => hk (x1, x2, h) r e trivial q) e q
/-- HuntedScentModel.go(I)I -/
def hf_184 (a1 : Int32) (h : hs_H) : Option (Int32 × hs_H) := (hf_171 a1 h).bind (fun q1 => if ¬ q1.1 = 0 then (hs_ck (hs_inb (nI 11) 162) (if ¬ (q1.2.1 44 0 (nI 11).toNatClampNeg) = (nI 4294967292) then (hs_ck (hs_inb (nI 11) 162) ((hf_181 (q1.2.1 44 0 (nI 11).toNatClampNeg) a1 q1.2).bind (fun q6 => if ¬ q6.1 = 0 then (hs_lp (fun k s => hb_184_45 k s.1 s.2.1 s.2.2) hs_big (a1, nI 0, q6.2)) else (some (nI 4294967292, q6.2))))) else (some (nI 4294967294, q1.2)))) else (some (nI 4294967295, q1.2)))
set_option maxHeartbeats 1000000 in
theorem hc_184 {S : hs_S} {D : Nat} {Q : hs_Q} (hD : 3 ≤ D) {a1 : Int32} {h : hs_H} {r : Int32 × hs_H} (e : hf_184 a1 h = some r) (q : Q (some (hs_i r.1)) r.2) : hs_call hs_ms S D 184 [hs_r 12 0, hs_i a1] h Q := by
  refine hs_go (R := 2) hD rfl (Nat.le_of_ble_eq_true rfl) (fun d hd => ?_)
  show hs_W S d 1 hs_p184 Q 0 [hs_r 12 0, hs_i a1, hs_u] [] h
  unfold hf_184 at e
  obtain ⟨q1, eq1, e⟩ := hs_bind_some e
  try dsimp only at e
  refine hs_wc 3 (y := 171) (a := [hs_r 12 0, hs_i a1]) (v := some (hs_i q1.1)) (pc' := 5) (ls' := [hs_r 12 0, hs_i a1, hs_u]) (st' := []) (h' := h) (h2 := q1.2) (fun n w => w) (fun q => hc_171 (by omega) eq1 q) ?_
  refine hs_wb 1 (c := ¬ q1.1 = 0) (t := 10) (f := 8) (ls' := [hs_r 12 0, hs_i a1, hs_u]) (st' := []) (h' := q1.2) (fun n w => w) (fun b2 => ?_) (fun b2 => ?_)
  · rw [if_pos b2] at e
    obtain ⟨c3, e⟩ := hs_ck_some e
    refine hs_wa 4 (c := vp_in (nI 11) 162) (pc' := 17) (ls' := [hs_r 12 0, hs_i a1, hs_u]) (st' := [hs_i (q1.2.1 44 0 (nI 11).toNatClampNeg)]) (h' := q1.2) (fun n w => w) (hs_inb_iff.mp c3) ?_
    refine hs_wb 2 (c := ¬ (q1.2.1 44 0 (nI 11).toNatClampNeg) = (nI 4294967292)) (t := 25) (f := 22) (ls' := [hs_r 12 0, hs_i a1, hs_u]) (st' := []) (h' := q1.2) (fun n w => w) (fun b4 => ?_) (fun b4 => ?_)
    · rw [if_pos b4] at e
      obtain ⟨c5, e⟩ := hs_ck_some e
      refine hs_wa 5 (c := vp_in (nI 11) 162) (pc' := 33) (ls' := [hs_r 12 0, hs_i a1, hs_u]) (st' := [hs_i (q1.2.1 44 0 (nI 11).toNatClampNeg), hs_r 12 0]) (h' := q1.2) (fun n w => w) (hs_inb_iff.mp c5) ?_
      obtain ⟨q6, eq6, e⟩ := hs_bind_some e
      try dsimp only at e
      refine hs_wc 2 (y := 181) (a := [hs_r 12 0, hs_i (q1.2.1 44 0 (nI 11).toNatClampNeg), hs_i a1]) (v := some (hs_i q6.1)) (pc' := 37) (ls' := [hs_r 12 0, hs_i a1, hs_u]) (st' := []) (h' := q1.2) (h2 := q6.2) (fun n w => w) (fun q => hc_181 (by omega) eq6 q) ?_
      refine hs_wb 1 (c := ¬ q6.1 = 0) (t := 43) (f := 40) (ls' := [hs_r 12 0, hs_i a1, hs_u]) (st' := []) (h' := q6.2) (fun n w => w) (fun b7 => ?_) (fun b7 => ?_)
      · rw [if_pos b7] at e
        refine hs_w 2 (pc' := 45) (ls' := [hs_r 12 0, hs_i a1, hs_i (nI 0)]) (st' := []) (h' := q6.2) (fun n w => w) ?_
        exact hw_184_45_lp hd hs_big e  q
      · rw [if_neg b7] at e
        obtain rfl := Option.some.inj e
        exact hs_wr 2 (v := some (hs_i (nI 4294967292))) (h' := q6.2) (fun n w => w) q
    · rw [if_neg b4] at e
      obtain rfl := Option.some.inj e
      exact hs_wr 2 (v := some (hs_i (nI 4294967294))) (h' := q1.2) (fun n w => w) q
  · rw [if_neg b2] at e
    obtain rfl := Option.some.inj e
    exact hs_wr 2 (v := some (hs_i (nI 4294967295))) (h' := q1.2) (fun n w => w) q
def hb_185_21    (s0 : Int32) (h : hs_H) : Option (Int32 × hs_H) := some (s0, h)
set_option maxHeartbeats 1000000 in
theorem hw_185_21 {S : hs_S} {d : Nat} {Q : hs_Q} (hd : 2 ≤ d)     {s0 : Int32} {v1 : hs_V} {h : hs_H} {r : Int32 × hs_H} (e : hb_185_21 s0 h = some r) (q : Q (some (hs_i r.1)) r.2) : hs_W S d 1 hs_p185 Q 21 [hs_r 12 0, v1] [hs_i s0] h := by
  unfold hb_185_21 at e
  obtain rfl := Option.some.inj e
  exact hs_wr 1 (v := some (hs_i s0)) (h' := h) (fun n w => w) q
/-- HuntedScentModel.smell(I)I -/
def hf_185 (a1 : Int32) (h : hs_H) : Option (Int32 × hs_H) := (hf_171 a1 h).bind (fun q1 => if q1.1 = 0 then (hb_185_21 (nI 4294967295) q1.2) else (hs_ck (hs_inb ((nI 13) + a1) 162) (hb_185_21 (q1.2.1 44 0 ((nI 13) + a1).toNatClampNeg) q1.2)))
set_option maxHeartbeats 1000000 in
theorem hc_185 {S : hs_S} {D : Nat} {Q : hs_Q} (hD : 3 ≤ D) {a1 : Int32} {h : hs_H} {r : Int32 × hs_H} (e : hf_185 a1 h = some r) (q : Q (some (hs_i r.1)) r.2) : hs_call hs_ms S D 185 [hs_r 12 0, hs_i a1] h Q := by
  refine hs_go (R := 2) hD rfl (Nat.le_of_ble_eq_true rfl) (fun d hd => ?_)
  show hs_W S d 1 hs_p185 Q 0 [hs_r 12 0, hs_i a1] [] h
  unfold hf_185 at e
  obtain ⟨q1, eq1, e⟩ := hs_bind_some e
  try dsimp only at e
  refine hs_wc 3 (y := 171) (a := [hs_r 12 0, hs_i a1]) (v := some (hs_i q1.1)) (pc' := 5) (ls' := [hs_r 12 0, hs_i a1]) (st' := []) (h' := h) (h2 := q1.2) (fun n w => w) (fun q => hc_171 (by omega) eq1 q) ?_
  refine hs_wb 1 (c := q1.1 = 0) (t := 20) (f := 8) (ls' := [hs_r 12 0, hs_i a1]) (st' := []) (h' := q1.2) (fun n w => w) (fun b2 => ?_) (fun b2 => ?_)
  · rw [if_pos b2] at e
    refine hs_w 1 (pc' := 21) (ls' := [hs_r 12 0, hs_i a1]) (st' := [hs_i (nI 4294967295)]) (h' := q1.2) (fun n w => w) ?_
    exact hw_185_21 hd e q
  · rw [if_neg b2] at e
    obtain ⟨c3, e⟩ := hs_ck_some e
    refine hs_wa 6 (c := vp_in ((nI 13) + a1) 162) (pc' := 17) (ls' := [hs_r 12 0, hs_i a1]) (st' := [hs_i (q1.2.1 44 0 ((nI 13) + a1).toNatClampNeg)]) (h' := q1.2) (fun n w => w) (hs_inb_iff.mp c3) ?_
    refine hs_w 1 (pc' := 21) (ls' := [hs_r 12 0, hs_i a1]) (st' := [hs_i (q1.2.1 44 0 ((nI 13) + a1).toNatClampNeg)]) (h' := q1.2) (fun n w => w) ?_
    exact hw_185_21 hd e q
def hb_186_134    (s0 : Int32) (h : hs_H) : Option (Int32 × hs_H) := some (s0, h)
set_option maxHeartbeats 1000000 in
theorem hw_186_134 {S : hs_S} {d : Nat} {Q : hs_Q} (hd : 1 ≤ d)     {s0 : Int32} {v1 : hs_V} {v2 : hs_V} {v3 : hs_V} {v4 : hs_V} {v5 : hs_V} {v6 : hs_V} {h : hs_H} {r : Int32 × hs_H} (e : hb_186_134 s0 h = some r) (q : Q (some (hs_i r.1)) r.2) : hs_W S d 1 hs_p186 Q 134 [hs_r 12 0, v1, v2, v3, v4, v5, v6] [hs_i s0] h := by
  unfold hb_186_134 at e
  obtain rfl := Option.some.inj e
  exact hs_wr 1 (v := some (hs_i s0)) (h' := h) (fun n w => w) q
def hb_186_79  (k11 : Int32 × Int32 × Int32 × Int32 × Int32 × hs_H → Option (Int32 × hs_H)) (x1 : Int32) (x2 : Int32) (x3 : Int32) (x4 : Int32) (x5 : Int32)  (h : hs_H) : Option (Int32 × hs_H) := k11 (x1, x2, x3, x4, x5 + nI 1, h)
set_option maxHeartbeats 1000000 in
theorem hw_186_79 {S : hs_S} {d : Nat} {Q : hs_Q} (hd : 1 ≤ d)  {k11 : Int32 × Int32 × Int32 × Int32 × Int32 × hs_H → Option (Int32 × hs_H)} (hk11 : ∀ (x1 : Int32) (x2 : Int32) (x3 : Int32) (x4 : Int32) (x5 : Int32) (h : hs_H) (r : Int32 × hs_H) (v6 : hs_V), k11 (x1, x2, x3, x4, x5, h) = some r → Q (some (hs_i r.1)) r.2 → hs_W S d 1 hs_p186 Q 11 [hs_r 12 0, hs_i x1, hs_i x2, hs_i x3, hs_i x4, hs_i x5, v6] [] h) {x1 : Int32} {x2 : Int32} {x3 : Int32} {x4 : Int32} {x5 : Int32}  {v6 : hs_V} {h : hs_H} {r : Int32 × hs_H} (e : hb_186_79 k11 x1 x2 x3 x4 x5 h = some r) (q : Q (some (hs_i r.1)) r.2) : hs_W S d 1 hs_p186 Q 79 [hs_r 12 0, hs_i x1, hs_i x2, hs_i x3, hs_i x4, hs_i x5, v6] [] h := by
  unfold hb_186_79 at e
  refine hs_w 2 (pc' := 11) (ls' := [hs_r 12 0, hs_i x1, hs_i x2, hs_i x3, hs_i x4, hs_i (x5 + nI 1), v6]) (st' := []) (h' := h) (fun n w => w) ?_
  exact hk11 _ _ _ _ _ _ _ _ e q
def hb_186_11  (k11 : Int32 × Int32 × Int32 × Int32 × Int32 × hs_H → Option (Int32 × hs_H)) (x1 : Int32) (x2 : Int32) (x3 : Int32) (x4 : Int32) (x5 : Int32)  (h : hs_H) : Option (Int32 × hs_H) := if (h.1 12 0 2) ≤ x5 then (if ¬ x1 = 0 then (if ¬ x1 = (nI 1) then (if ¬ x1 = (nI 2) then (if ¬ x1 = (nI 3) then (hb_186_134 (nI 4294967295) h) else (hb_186_134 x4 h)) else (hb_186_134 x2 h)) else (hs_ck (hs_inb (nI 12) 162) (hb_186_134 (h.1 44 0 (nI 12).toNatClampNeg) h))) else (hs_ck (hs_inb (nI 11) 162) (hb_186_134 (h.1 44 0 (nI 11).toNatClampNeg) h))) else (hs_ck (hs_inb ((nI 13) + x5) 162) (hs_ck (hs_inb (nI 11) 162) (if (h.1 44 0 (nI 11).toNatClampNeg) = (nI 4294967292) then (hb_186_79 k11 x1 x2 x3 (x4 + (h.1 44 0 ((nI 13) + x5).toNatClampNeg)) x5 h) else (hs_ck (hs_inb (nI 11) 162) ((hf_172 (h.1 44 0 (nI 11).toNatClampNeg) x5 h).bind (fun q12 => if q12.1 = 0 then (hb_186_79 k11 x1 x2 x3 (x4 + (h.1 44 0 ((nI 13) + x5).toNatClampNeg)) x5 q12.2) else (if (h.1 44 0 ((nI 13) + x5).toNatClampNeg) ≤ x3 then (hb_186_79 k11 x1 x2 x3 (x4 + (h.1 44 0 ((nI 13) + x5).toNatClampNeg)) x5 q12.2) else (hb_186_79 k11 x1 x5 (h.1 44 0 ((nI 13) + x5).toNatClampNeg) (x4 + (h.1 44 0 ((nI 13) + x5).toNatClampNeg)) x5 q12.2))))))))
set_option maxHeartbeats 1000000 in
theorem hw_186_11 {S : hs_S} {d : Nat} {Q : hs_Q} (hd : 1 ≤ d)  {k11 : Int32 × Int32 × Int32 × Int32 × Int32 × hs_H → Option (Int32 × hs_H)} (hk11 : ∀ (x1 : Int32) (x2 : Int32) (x3 : Int32) (x4 : Int32) (x5 : Int32) (h : hs_H) (r : Int32 × hs_H) (v6 : hs_V), k11 (x1, x2, x3, x4, x5, h) = some r → Q (some (hs_i r.1)) r.2 → hs_W S d 1 hs_p186 Q 11 [hs_r 12 0, hs_i x1, hs_i x2, hs_i x3, hs_i x4, hs_i x5, v6] [] h) {x1 : Int32} {x2 : Int32} {x3 : Int32} {x4 : Int32} {x5 : Int32}  {v6 : hs_V} {h : hs_H} {r : Int32 × hs_H} (e : hb_186_11 k11 x1 x2 x3 x4 x5 h = some r) (q : Q (some (hs_i r.1)) r.2) : hs_W S d 1 hs_p186 Q 11 [hs_r 12 0, hs_i x1, hs_i x2, hs_i x3, hs_i x4, hs_i x5, v6] [] h := by
  unfold hb_186_11 at e
  refine hs_wb 4 (c := (h.1 12 0 2) ≤ x5) (t := 85) (f := 20) (ls' := [hs_r 12 0, hs_i x1, hs_i x2, hs_i x3, hs_i x4, hs_i x5, v6]) (st' := []) (h' := h) (fun n w => w) (fun b1 => ?_) (fun b1 => ?_)
  · rw [if_pos b1] at e
    refine hs_wb 2 (c := ¬ x1 = 0) (t := 99) (f := 89) (ls' := [hs_r 12 0, hs_i x1, hs_i x2, hs_i x3, hs_i x4, hs_i x5, v6]) (st' := []) (h' := h) (fun n w => w) (fun b2 => ?_) (fun b2 => ?_)
    · rw [if_pos b2] at e
      refine hs_wb 3 (c := ¬ x1 = (nI 1)) (t := 114) (f := 104) (ls' := [hs_r 12 0, hs_i x1, hs_i x2, hs_i x3, hs_i x4, hs_i x5, v6]) (st' := []) (h' := h) (fun n w => w) (fun b3 => ?_) (fun b3 => ?_)
      · rw [if_pos b3] at e
        refine hs_wb 3 (c := ¬ x1 = (nI 2)) (t := 123) (f := 119) (ls' := [hs_r 12 0, hs_i x1, hs_i x2, hs_i x3, hs_i x4, hs_i x5, v6]) (st' := []) (h' := h) (fun n w => w) (fun b4 => ?_) (fun b4 => ?_)
        · rw [if_pos b4] at e
          refine hs_wb 3 (c := ¬ x1 = (nI 3)) (t := 133) (f := 128) (ls' := [hs_r 12 0, hs_i x1, hs_i x2, hs_i x3, hs_i x4, hs_i x5, v6]) (st' := []) (h' := h) (fun n w => w) (fun b5 => ?_) (fun b5 => ?_)
          · rw [if_pos b5] at e
            refine hs_w 1 (pc' := 134) (ls' := [hs_r 12 0, hs_i x1, hs_i x2, hs_i x3, hs_i x4, hs_i x5, v6]) (st' := [hs_i (nI 4294967295)]) (h' := h) (fun n w => w) ?_
            exact hw_186_134 hd e q
          · rw [if_neg b5] at e
            refine hs_w 2 (pc' := 134) (ls' := [hs_r 12 0, hs_i x1, hs_i x2, hs_i x3, hs_i x4, hs_i x5, v6]) (st' := [hs_i x4]) (h' := h) (fun n w => w) ?_
            exact hw_186_134 hd e q
        · rw [if_neg b4] at e
          refine hs_w 2 (pc' := 134) (ls' := [hs_r 12 0, hs_i x1, hs_i x2, hs_i x3, hs_i x4, hs_i x5, v6]) (st' := [hs_i x2]) (h' := h) (fun n w => w) ?_
          exact hw_186_134 hd e q
      · rw [if_neg b3] at e
        obtain ⟨c6, e⟩ := hs_ck_some e
        refine hs_wa 4 (c := vp_in (nI 12) 162) (pc' := 111) (ls' := [hs_r 12 0, hs_i x1, hs_i x2, hs_i x3, hs_i x4, hs_i x5, v6]) (st' := [hs_i (h.1 44 0 (nI 12).toNatClampNeg)]) (h' := h) (fun n w => w) (hs_inb_iff.mp c6) ?_
        refine hs_w 1 (pc' := 134) (ls' := [hs_r 12 0, hs_i x1, hs_i x2, hs_i x3, hs_i x4, hs_i x5, v6]) (st' := [hs_i (h.1 44 0 (nI 12).toNatClampNeg)]) (h' := h) (fun n w => w) ?_
        exact hw_186_134 hd e q
    · rw [if_neg b2] at e
      obtain ⟨c7, e⟩ := hs_ck_some e
      refine hs_wa 4 (c := vp_in (nI 11) 162) (pc' := 96) (ls' := [hs_r 12 0, hs_i x1, hs_i x2, hs_i x3, hs_i x4, hs_i x5, v6]) (st' := [hs_i (h.1 44 0 (nI 11).toNatClampNeg)]) (h' := h) (fun n w => w) (hs_inb_iff.mp c7) ?_
      refine hs_w 1 (pc' := 134) (ls' := [hs_r 12 0, hs_i x1, hs_i x2, hs_i x3, hs_i x4, hs_i x5, v6]) (st' := [hs_i (h.1 44 0 (nI 11).toNatClampNeg)]) (h' := h) (fun n w => w) ?_
      exact hw_186_134 hd e q
  · rw [if_neg b1] at e
    obtain ⟨c8, e⟩ := hs_ck_some e
    refine hs_wa 6 (c := vp_in ((nI 13) + x5) 162) (pc' := 30) (ls' := [hs_r 12 0, hs_i x1, hs_i x2, hs_i x3, hs_i x4, hs_i x5, v6]) (st' := [hs_i (h.1 44 0 ((nI 13) + x5).toNatClampNeg)]) (h' := h) (fun n w => w) (hs_inb_iff.mp c8) ?_
    obtain ⟨c9, e⟩ := hs_ck_some e
    refine hs_wa 9 (c := vp_in (nI 11) 162) (pc' := 46) (ls' := [hs_r 12 0, hs_i x1, hs_i x2, hs_i x3, hs_i (x4 + (h.1 44 0 ((nI 13) + x5).toNatClampNeg)), hs_i x5, hs_i (h.1 44 0 ((nI 13) + x5).toNatClampNeg)]) (st' := [hs_i (h.1 44 0 (nI 11).toNatClampNeg)]) (h' := h) (fun n w => w) (hs_inb_iff.mp c9) ?_
    refine hs_wb 2 (c := (h.1 44 0 (nI 11).toNatClampNeg) = (nI 4294967292)) (t := 79) (f := 51) (ls' := [hs_r 12 0, hs_i x1, hs_i x2, hs_i x3, hs_i (x4 + (h.1 44 0 ((nI 13) + x5).toNatClampNeg)), hs_i x5, hs_i (h.1 44 0 ((nI 13) + x5).toNatClampNeg)]) (st' := []) (h' := h) (fun n w => w) (fun b10 => ?_) (fun b10 => ?_)
    · rw [if_pos b10] at e
      exact hw_186_79 hd hk11 e q
    · rw [if_neg b10] at e
      obtain ⟨c11, e⟩ := hs_ck_some e
      refine hs_wa 5 (c := vp_in (nI 11) 162) (pc' := 59) (ls' := [hs_r 12 0, hs_i x1, hs_i x2, hs_i x3, hs_i (x4 + (h.1 44 0 ((nI 13) + x5).toNatClampNeg)), hs_i x5, hs_i (h.1 44 0 ((nI 13) + x5).toNatClampNeg)]) (st' := [hs_i (h.1 44 0 (nI 11).toNatClampNeg), hs_r 12 0]) (h' := h) (fun n w => w) (hs_inb_iff.mp c11) ?_
      obtain ⟨q12, eq12, e⟩ := hs_bind_some e
      try dsimp only at e
      refine hs_wc 2 (y := 172) (a := [hs_r 12 0, hs_i (h.1 44 0 (nI 11).toNatClampNeg), hs_i x5]) (v := some (hs_i q12.1)) (pc' := 64) (ls' := [hs_r 12 0, hs_i x1, hs_i x2, hs_i x3, hs_i (x4 + (h.1 44 0 ((nI 13) + x5).toNatClampNeg)), hs_i x5, hs_i (h.1 44 0 ((nI 13) + x5).toNatClampNeg)]) (st' := []) (h' := h) (h2 := q12.2) (fun n w => w) (fun q => hc_172 (by omega) eq12 q) ?_
      refine hs_wb 1 (c := q12.1 = 0) (t := 79) (f := 67) (ls' := [hs_r 12 0, hs_i x1, hs_i x2, hs_i x3, hs_i (x4 + (h.1 44 0 ((nI 13) + x5).toNatClampNeg)), hs_i x5, hs_i (h.1 44 0 ((nI 13) + x5).toNatClampNeg)]) (st' := []) (h' := q12.2) (fun n w => w) (fun b13 => ?_) (fun b13 => ?_)
      · rw [if_pos b13] at e
        exact hw_186_79 hd hk11 e q
      · rw [if_neg b13] at e
        refine hs_wb 3 (c := (h.1 44 0 ((nI 13) + x5).toNatClampNeg) ≤ x3) (t := 79) (f := 73) (ls' := [hs_r 12 0, hs_i x1, hs_i x2, hs_i x3, hs_i (x4 + (h.1 44 0 ((nI 13) + x5).toNatClampNeg)), hs_i x5, hs_i (h.1 44 0 ((nI 13) + x5).toNatClampNeg)]) (st' := []) (h' := q12.2) (fun n w => w) (fun b14 => ?_) (fun b14 => ?_)
        · rw [if_pos b14] at e
          exact hw_186_79 hd hk11 e q
        · rw [if_neg b14] at e
          refine hs_w 4 (pc' := 79) (ls' := [hs_r 12 0, hs_i x1, hs_i x5, hs_i (h.1 44 0 ((nI 13) + x5).toNatClampNeg), hs_i (x4 + (h.1 44 0 ((nI 13) + x5).toNatClampNeg)), hs_i x5, hs_i (h.1 44 0 ((nI 13) + x5).toNatClampNeg)]) (st' := []) (h' := q12.2) (fun n w => w) ?_
          exact hw_186_79 hd hk11 e q
theorem hw_186_11_lp {S : hs_S} {d : Nat} {Q : hs_Q} (hd : 1 ≤ d)    (n : Nat) {x1 : Int32} {x2 : Int32} {x3 : Int32} {x4 : Int32} {x5 : Int32} {h : hs_H} {r : Int32 × hs_H} (e : hs_lp (fun k s => hb_186_11 k s.1 s.2.1 s.2.2.1 s.2.2.2.1 s.2.2.2.2.1 s.2.2.2.2.2) n (x1, x2, x3, x4, x5, h) = some r) (v6 : hs_V) (q : Q (some (hs_i r.1)) r.2) : hs_W S d 1 hs_p186 Q 11 [hs_r 12 0, hs_i x1, hs_i x2, hs_i x3, hs_i x4, hs_i x5, v6] [] h := by
  refine hs_lp_ind (P := fun (s : Int32 × Int32 × Int32 × Int32 × Int32 × hs_H) (r : Int32 × hs_H) => ∀ (v6 : hs_V), Q (some (hs_i r.1)) r.2 → hs_W S d 1 hs_p186 Q 11 [hs_r 12 0, hs_i s.1, hs_i s.2.1, hs_i s.2.2.1, hs_i s.2.2.2.1, hs_i s.2.2.2.2.1, v6] [] s.2.2.2.2.2) (fun k hk s r e v6 q => ?_) n (x1, x2, x3, x4, x5, h) r e v6 q
  exact hw_186_11 hd (fun x1 x2 x3 x4 x5 h r v6 e q => hk (x1, x2, x3, x4, x5, h) r e v6 q) e q
/-- HuntedScentModel.now(I)I -/
def hf_186 (a1 : Int32) (h : hs_H) : Option (Int32 × hs_H) := hs_lp (fun k s => hb_186_11 k s.1 s.2.1 s.2.2.1 s.2.2.2.1 s.2.2.2.2.1 s.2.2.2.2.2) hs_big (a1, nI 4294967292, nI 0, nI 0, nI 0, h)
set_option maxHeartbeats 1000000 in
theorem hc_186 {S : hs_S} {D : Nat} {Q : hs_Q} (hD : 2 ≤ D) {a1 : Int32} {h : hs_H} {r : Int32 × hs_H} (e : hf_186 a1 h = some r) (q : Q (some (hs_i r.1)) r.2) : hs_call hs_ms S D 186 [hs_r 12 0, hs_i a1] h Q := by
  refine hs_go (R := 1) hD rfl (Nat.le_of_ble_eq_true rfl) (fun d hd => ?_)
  show hs_W S d 1 hs_p186 Q 0 [hs_r 12 0, hs_i a1, hs_u, hs_u, hs_u, hs_u, hs_u] [] h
  unfold hf_186 at e
  refine hs_w 8 (pc' := 11) (ls' := [hs_r 12 0, hs_i a1, hs_i (nI 4294967292), hs_i (nI 0), hs_i (nI 0), hs_i (nI 0), hs_u]) (st' := []) (h' := h) (fun n w => w) ?_
  exact hw_186_11_lp hd hs_big e _ q
