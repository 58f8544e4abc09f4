/-! What the methods compute, by program; and that the small machine computes it. -/
def hb_208_129  (k72 : Int32 × Int32 × Int32 × hs_H → Option (hs_H)) (k81 : Int32 × Int32 × Int32 × Int32 × hs_H → Option (hs_H)) (x2 : Int32) (x3 : Int32) (x4 : Int32) (x5 : Int32)  (h : hs_H) : Option (hs_H) := k81 (x2, x3, x4, x5 + nI 1, h)
set_option maxHeartbeats 1000000 in
theorem hw_208_129 {S : hs_S} {d : Nat} {Q : hs_Q} (hd : 2 ≤ d)  {k72 : Int32 × Int32 × Int32 × hs_H → Option (hs_H)} {k81 : Int32 × Int32 × Int32 × Int32 × hs_H → Option (hs_H)} (hk72 : ∀ (x2 : Int32) (x3 : Int32) (x4 : Int32) (h : hs_H) (r : hs_H) (v1 : hs_V) (v5 : hs_V), k72 (x2, x3, x4, h) = some r → Q none r → hs_W S d 0 hs_p208 Q 72 [hs_r 12 0, v1, hs_i x2, hs_i x3, hs_i x4, v5] [] h) (hk81 : ∀ (x2 : Int32) (x3 : Int32) (x4 : Int32) (x5 : Int32) (h : hs_H) (r : hs_H) (v1 : hs_V), k81 (x2, x3, x4, x5, h) = some r → Q none r → hs_W S d 0 hs_p208 Q 81 [hs_r 12 0, v1, hs_i x2, hs_i x3, hs_i x4, hs_i x5] [] h) {x2 : Int32} {x3 : Int32} {x4 : Int32} {x5 : Int32}  {v1 : hs_V} {h : hs_H} {r : hs_H} (e : hb_208_129 k72 k81 x2 x3 x4 x5 h = some r) (q : Q none r) : hs_W S d 0 hs_p208 Q 129 [hs_r 12 0, v1, hs_i x2, hs_i x3, hs_i x4, hs_i x5] [] h := by
  unfold hb_208_129 at e
  refine hs_w 2 (pc' := 81) (ls' := [hs_r 12 0, v1, hs_i x2, hs_i x3, hs_i x4, hs_i (x5 + nI 1)]) (st' := []) (h' := h) (fun n w => w) ?_
  exact hk81 _ _ _ _ _ _ _ e q
def hb_208_81  (k72 : Int32 × Int32 × Int32 × hs_H → Option (hs_H)) (k81 : Int32 × Int32 × Int32 × Int32 × hs_H → Option (hs_H)) (x2 : Int32) (x3 : Int32) (x4 : Int32) (x5 : Int32)  (h : hs_H) : Option (hs_H) := if ((nI 1) <<< ((h.1 12 0 2) &&& 31)) ≤ x5 then (k72 (x2, x3, x4 + nI 1, h)) else (hs_ck (hs_inb x5 1024) (if ¬ (h.1 58 0 x5.toNatClampNeg) = (nI 99999) then (hb_208_129 k72 k81 x2 x3 x4 x5 h) else ((hf_209 x5 x2 (x4 - (nI 1)) h).bind (fun q8 => if q8.1 = 0 then (hb_208_129 k72 k81 x2 x3 x4 x5 q8.2) else (hs_ck (hs_inb x5 1024) (hb_208_129 k72 k81 x2 (nI 1) x4 x5 (hs_put q8.2 58 0 x5.toNatClampNeg x4)))))))
set_option maxHeartbeats 1000000 in
theorem hw_208_81 {S : hs_S} {d : Nat} {Q : hs_Q} (hd : 2 ≤ d)  {k72 : Int32 × Int32 × Int32 × hs_H → Option (hs_H)} {k81 : Int32 × Int32 × Int32 × Int32 × hs_H → Option (hs_H)} (hk72 : ∀ (x2 : Int32) (x3 : Int32) (x4 : Int32) (h : hs_H) (r : hs_H) (v1 : hs_V) (v5 : hs_V), k72 (x2, x3, x4, h) = some r → Q none r → hs_W S d 0 hs_p208 Q 72 [hs_r 12 0, v1, hs_i x2, hs_i x3, hs_i x4, v5] [] h) (hk81 : ∀ (x2 : Int32) (x3 : Int32) (x4 : Int32) (x5 : Int32) (h : hs_H) (r : hs_H) (v1 : hs_V), k81 (x2, x3, x4, x5, h) = some r → Q none r → hs_W S d 0 hs_p208 Q 81 [hs_r 12 0, v1, hs_i x2, hs_i x3, hs_i x4, hs_i x5] [] h) {x2 : Int32} {x3 : Int32} {x4 : Int32} {x5 : Int32}  {v1 : hs_V} {h : hs_H} {r : hs_H} (e : hb_208_81 k72 k81 x2 x3 x4 x5 h = some r) (q : Q none r) : hs_W S d 0 hs_p208 Q 81 [hs_r 12 0, v1, hs_i x2, hs_i x3, hs_i x4, hs_i x5] [] h := by
  unfold hb_208_81 at e
  refine hs_wb 6 (c := ((nI 1) <<< ((h.1 12 0 2) &&& 31)) ≤ x5) (t := 135) (f := 92) (ls' := [hs_r 12 0, v1, hs_i x2, hs_i x3, hs_i x4, hs_i x5]) (st' := []) (h' := h) (fun n w => w) (fun b5 => ?_) (fun b5 => ?_)
  · rw [if_pos b5] at e
    refine hs_w 2 (pc' := 72) (ls' := [hs_r 12 0, v1, hs_i x2, hs_i x3, hs_i (x4 + nI 1), hs_i x5]) (st' := []) (h' := h) (fun n w => w) ?_
    exact hk72 _ _ _ _ _ _ _ e q
  · rw [if_neg b5] at e
    obtain ⟨c6, e⟩ := hs_ck_some e
    refine hs_wa 4 (c := vp_in x5 1024) (pc' := 99) (ls' := [hs_r 12 0, v1, hs_i x2, hs_i x3, hs_i x4, hs_i x5]) (st' := [hs_i (h.1 58 0 x5.toNatClampNeg)]) (h' := h) (fun n w => w) (hs_inb_iff.mp c6) ?_
    refine hs_wb 2 (c := ¬ (h.1 58 0 x5.toNatClampNeg) = (nI 99999)) (t := 129) (f := 104) (ls' := [hs_r 12 0, v1, hs_i x2, hs_i x3, hs_i x4, hs_i x5]) (st' := []) (h' := h) (fun n w => w) (fun b7 => ?_) (fun b7 => ?_)
    · rw [if_pos b7] at e
      exact hw_208_129 hd hk72 hk81 e q
    · rw [if_neg b7] at e
      obtain ⟨q8, eq8, e⟩ := hs_bind_some e
      try dsimp only at e
      refine hs_wc 7 (y := 209) (a := [hs_r 12 0, hs_i x5, hs_i x2, hs_i (x4 - (nI 1))]) (v := some (hs_i q8.1)) (pc' := 115) (ls' := [hs_r 12 0, v1, hs_i x2, hs_i x3, hs_i x4, hs_i x5]) (st' := []) (h' := h) (h2 := q8.2) (fun n w => w) (fun q => hc_209 (by omega) eq8 q) ?_
      refine hs_wb 1 (c := q8.1 = 0) (t := 129) (f := 118) (ls' := [hs_r 12 0, v1, hs_i x2, hs_i x3, hs_i x4, hs_i x5]) (st' := []) (h' := q8.2) (fun n w => w) (fun b9 => ?_) (fun b9 => ?_)
      · rw [if_pos b9] at e
        exact hw_208_129 hd hk72 hk81 e q
      · rw [if_neg b9] at e
        obtain ⟨c10, e⟩ := hs_ck_some e
        refine hs_wa 5 (c := vp_in x5 1024) (pc' := 127) (ls' := [hs_r 12 0, v1, hs_i x2, hs_i x3, hs_i x4, hs_i x5]) (st' := []) (h' := hs_put q8.2 58 0 x5.toNatClampNeg x4) (fun n w => w) (hs_inb_iff.mp c10) ?_
        refine hs_w 2 (pc' := 129) (ls' := [hs_r 12 0, v1, hs_i x2, hs_i (nI 1), hs_i x4, hs_i x5]) (st' := []) (h' := hs_put q8.2 58 0 x5.toNatClampNeg x4) (fun n w => w) ?_
        exact hw_208_129 hd hk72 hk81 e q
theorem hw_208_81_lp {S : hs_S} {d : Nat} {Q : hs_Q} (hd : 2 ≤ d)  {k72 : Int32 × Int32 × Int32 × hs_H → Option (hs_H)} (hk72 : ∀ (x2 : Int32) (x3 : Int32) (x4 : Int32) (h : hs_H) (r : hs_H) (v1 : hs_V) (v5 : hs_V), k72 (x2, x3, x4, h) = some r → Q none r → hs_W S d 0 hs_p208 Q 72 [hs_r 12 0, v1, hs_i x2, hs_i x3, hs_i x4, v5] [] h) (n : Nat) {x2 : Int32} {x3 : Int32} {x4 : Int32} {x5 : Int32} {h : hs_H} {r : hs_H} (e : hs_lp (fun k s => hb_208_81 k72 k s.1 s.2.1 s.2.2.1 s.2.2.2.1 s.2.2.2.2) n (x2, x3, x4, x5, h) = some r) (v1 : hs_V) (q : Q none r) : hs_W S d 0 hs_p208 Q 81 [hs_r 12 0, v1, hs_i x2, hs_i x3, hs_i x4, hs_i x5] [] h := by
  refine hs_lp_ind (P := fun (s : Int32 × Int32 × Int32 × Int32 × hs_H) (r : hs_H) => ∀ (v1 : hs_V), Q none r → hs_W S d 0 hs_p208 Q 81 [hs_r 12 0, v1, hs_i s.1, hs_i s.2.1, hs_i s.2.2.1, hs_i s.2.2.2.1] [] s.2.2.2.2) (fun k hk s r e v1 q => ?_) n (x2, x3, x4, x5, h) r e v1 q
  exact hw_208_81 hd hk72 (fun x2 x3 x4 x5 h r v1 e q => hk (x2, x3, x4, x5, h) r e v1 q) e q
def hb_208_72  (k72 : Int32 × Int32 × Int32 × hs_H → Option (hs_H)) (x2 : Int32) (x3 : Int32) (x4 : Int32)  (h : hs_H) : Option (hs_H) := if x3 = 0 then (some h) else (hs_lp (fun k s => hb_208_81 k72 k s.1 s.2.1 s.2.2.1 s.2.2.2.1 s.2.2.2.2) hs_big (x2, nI 0, x4, nI 1, h))
set_option maxHeartbeats 1000000 in
theorem hw_208_72 {S : hs_S} {d : Nat} {Q : hs_Q} (hd : 2 ≤ d)  {k72 : Int32 × Int32 × Int32 × hs_H → Option (hs_H)} (hk72 : ∀ (x2 : Int32) (x3 : Int32) (x4 : Int32) (h : hs_H) (r : hs_H) (v1 : hs_V) (v5 : hs_V), k72 (x2, x3, x4, h) = some r → Q none r → hs_W S d 0 hs_p208 Q 72 [hs_r 12 0, v1, hs_i x2, hs_i x3, hs_i x4, v5] [] h) {x2 : Int32} {x3 : Int32} {x4 : Int32}  {v1 : hs_V} {v5 : hs_V} {h : hs_H} {r : hs_H} (e : hb_208_72 k72 x2 x3 x4 h = some r) (q : Q none r) : hs_W S d 0 hs_p208 Q 72 [hs_r 12 0, v1, hs_i x2, hs_i x3, hs_i x4, v5] [] h := by
  unfold hb_208_72 at e
  refine hs_wb 2 (c := x3 = 0) (t := 141) (f := 76) (ls' := [hs_r 12 0, v1, hs_i x2, hs_i x3, hs_i x4, v5]) (st' := []) (h' := h) (fun n w => w) (fun b4 => ?_) (fun b4 => ?_)
  · rw [if_pos b4] at e
    obtain rfl := Option.some.inj e
    exact hs_wr 1 (v := none) (h' := h) (fun n w => w) q
  · rw [if_neg b4] at e
    refine hs_w 4 (pc' := 81) (ls' := [hs_r 12 0, v1, hs_i x2, hs_i (nI 0), hs_i x4, hs_i (nI 1)]) (st' := []) (h' := h) (fun n w => w) ?_
    exact hw_208_81_lp hd hk72 hs_big e _ q
theorem hw_208_72_lp {S : hs_S} {d : Nat} {Q : hs_Q} (hd : 2 ≤ d)    (n : Nat) {x2 : Int32} {x3 : Int32} {x4 : Int32} {h : hs_H} {r : hs_H} (e : hs_lp (fun k s => hb_208_72 k s.1 s.2.1 s.2.2.1 s.2.2.2) n (x2, x3, x4, h) = some r) (v1 : hs_V) (v5 : hs_V) (q : Q none r) : hs_W S d 0 hs_p208 Q 72 [hs_r 12 0, v1, hs_i x2, hs_i x3, hs_i x4, v5] [] h := by
  refine hs_lp_ind (P := fun (s : Int32 × Int32 × Int32 × hs_H) (r : hs_H) => ∀ (v1 : hs_V) (v5 : hs_V), Q none r → hs_W S d 0 hs_p208 Q 72 [hs_r 12 0, v1, hs_i s.1, hs_i s.2.1, hs_i s.2.2.1, v5] [] s.2.2.2) (fun k hk s r e v1 v5 q => ?_) n (x2, x3, x4, h) r e v1 v5 q
  exact hw_208_72 hd (fun x2 x3 x4 h r v1 v5 e q => hk (x2, x3, x4, h) r e v1 v5 q) e q
def hb_208_60  (k23 : Int32 × Int32 × hs_H → Option (hs_H)) (x2 : Int32) (x3 : Int32) (s0 : Int32) (s1 : Int32) (h : hs_H) : Option (hs_H) := hs_ck (hs_inb s1 1024) (k23 (x2, x3 + nI 1, hs_put h 58 0 s1.toNatClampNeg s0))
set_option maxHeartbeats 1000000 in
theorem hw_208_60 {S : hs_S} {d : Nat} {Q : hs_Q} (hd : 2 ≤ d)  {k23 : Int32 × Int32 × hs_H → Option (hs_H)} (hk23 : ∀ (x2 : Int32) (x3 : Int32) (h : hs_H) (r : hs_H) (v1 : hs_V) (v4 : hs_V) (v5 : hs_V), k23 (x2, x3, h) = some r → Q none r → hs_W S d 0 hs_p208 Q 23 [hs_r 12 0, v1, hs_i x2, hs_i x3, v4, v5] [] h) {x2 : Int32} {x3 : Int32} {s0 : Int32} {s1 : Int32} {v1 : hs_V} {v4 : hs_V} {v5 : hs_V} {h : hs_H} {r : hs_H} (e : hb_208_60 k23 x2 x3 s0 s1 h = some r) (q : Q none r) : hs_W S d 0 hs_p208 Q 60 [hs_r 12 0, v1, hs_i x2, hs_i x3, v4, v5] [hs_i s0, hs_i s1, hs_r 58 0] h := by
  unfold hb_208_60 at e
  obtain ⟨c14, e⟩ := hs_ck_some e
  refine hs_wa 1 (c := vp_in s1 1024) (pc' := 61) (ls' := [hs_r 12 0, v1, hs_i x2, hs_i x3, v4, v5]) (st' := []) (h' := hs_put h 58 0 s1.toNatClampNeg s0) (fun n w => w) (hs_inb_iff.mp c14) ?_
  refine hs_w 2 (pc' := 23) (ls' := [hs_r 12 0, v1, hs_i x2, hs_i (x3 + nI 1), v4, v5]) (st' := []) (h' := hs_put h 58 0 s1.toNatClampNeg s0) (fun n w => w) ?_
  exact hk23 _ _ _ _ _ _ _ e q
def hb_208_23  (k23 : Int32 × Int32 × hs_H → Option (hs_H)) (x2 : Int32) (x3 : Int32)  (h : hs_H) : Option (hs_H) := if ((nI 1) <<< ((h.1 12 0 2) &&& 31)) ≤ x3 then (hs_lp (fun k s => hb_208_72 k s.1 s.2.1 s.2.2.1 s.2.2.2) hs_big (x2, nI 1, nI 2, h)) else (if ¬ x3 = 0 then ((hf_152 x3 h).bind (fun q12 => if x2 < q12.1 then (hb_208_60 k23 x2 x3 (nI 99999) x3 q12.2) else (hb_208_60 k23 x2 x3 (nI 1) x3 q12.2))) else (hb_208_60 k23 x2 x3 (nI 0) x3 h))
set_option maxHeartbeats 1000000 in
theorem hw_208_23 {S : hs_S} {d : Nat} {Q : hs_Q} (hd : 2 ≤ d)  {k23 : Int32 × Int32 × hs_H → Option (hs_H)} (hk23 : ∀ (x2 : Int32) (x3 : Int32) (h : hs_H) (r : hs_H) (v1 : hs_V) (v4 : hs_V) (v5 : hs_V), k23 (x2, x3, h) = some r → Q none r → hs_W S d 0 hs_p208 Q 23 [hs_r 12 0, v1, hs_i x2, hs_i x3, v4, v5] [] h) {x2 : Int32} {x3 : Int32}  {v1 : hs_V} {v4 : hs_V} {v5 : hs_V} {h : hs_H} {r : hs_H} (e : hb_208_23 k23 x2 x3 h = some r) (q : Q none r) : hs_W S d 0 hs_p208 Q 23 [hs_r 12 0, v1, hs_i x2, hs_i x3, v4, v5] [] h := by
  unfold hb_208_23 at e
  refine hs_wb 6 (c := ((nI 1) <<< ((h.1 12 0 2) &&& 31)) ≤ x3) (t := 67) (f := 33) (ls' := [hs_r 12 0, v1, hs_i x2, hs_i x3, v4, v5]) (st' := []) (h' := h) (fun n w => w) (fun b3 => ?_) (fun b3 => ?_)
  · rw [if_pos b3] at e
    refine hs_w 4 (pc' := 72) (ls' := [hs_r 12 0, v1, hs_i x2, hs_i (nI 1), hs_i (nI 2), v5]) (st' := []) (h' := h) (fun n w => w) ?_
    exact hw_208_72_lp hd hs_big e _ _ q
  · rw [if_neg b3] at e
    refine hs_wb 5 (c := ¬ x3 = 0) (t := 46) (f := 42) (ls' := [hs_r 12 0, v1, hs_i x2, hs_i x3, v4, v5]) (st' := [hs_i x3, hs_r 58 0]) (h' := h) (fun n w => w) (fun b11 => ?_) (fun b11 => ?_)
    · rw [if_pos b11] at e
      obtain ⟨q12, eq12, e⟩ := hs_bind_some e
      try dsimp only at e
      refine hs_wc 2 (y := 152) (a := [hs_i x3]) (v := some (hs_i q12.1)) (pc' := 50) (ls' := [hs_r 12 0, v1, hs_i x2, hs_i x3, v4, v5]) (st' := [hs_i x3, hs_r 58 0]) (h' := h) (h2 := q12.2) (fun n w => w) (fun q => hc_152 (by omega) eq12 q) ?_
      refine hs_wb 2 (c := x2 < q12.1) (t := 58) (f := 54) (ls' := [hs_r 12 0, v1, hs_i x2, hs_i x3, v4, v5]) (st' := [hs_i x3, hs_r 58 0]) (h' := q12.2) (fun n w => w) (fun b13 => ?_) (fun b13 => ?_)
      · rw [if_pos b13] at e
        refine hs_w 1 (pc' := 60) (ls' := [hs_r 12 0, v1, hs_i x2, hs_i x3, v4, v5]) (st' := [hs_i (nI 99999), hs_i x3, hs_r 58 0]) (h' := q12.2) (fun n w => w) ?_
        exact hw_208_60 hd hk23 e q
      · rw [if_neg b13] at e
        refine hs_w 2 (pc' := 60) (ls' := [hs_r 12 0, v1, hs_i x2, hs_i x3, v4, v5]) (st' := [hs_i (nI 1), hs_i x3, hs_r 58 0]) (h' := q12.2) (fun n w => w) ?_
        exact hw_208_60 hd hk23 e q
    · rw [if_neg b11] at e
      refine hs_w 2 (pc' := 60) (ls' := [hs_r 12 0, v1, hs_i x2, hs_i x3, v4, v5]) (st' := [hs_i (nI 0), hs_i x3, hs_r 58 0]) (h' := h) (fun n w => w) ?_
      exact hw_208_60 hd hk23 e q
theorem hw_208_23_lp {S : hs_S} {d : Nat} {Q : hs_Q} (hd : 2 ≤ d)    (n : Nat) {x2 : Int32} {x3 : Int32} {h : hs_H} {r : hs_H} (e : hs_lp (fun k s => hb_208_23 k s.1 s.2.1 s.2.2) n (x2, x3, h) = some r) (v1 : hs_V) (v4 : hs_V) (v5 : hs_V) (q : Q none r) : hs_W S d 0 hs_p208 Q 23 [hs_r 12 0, v1, hs_i x2, hs_i x3, v4, v5] [] h := by
  refine hs_lp_ind (P := fun (s : Int32 × Int32 × hs_H) (r : hs_H) => ∀ (v1 : hs_V) (v4 : hs_V) (v5 : hs_V), Q none r → hs_W S d 0 hs_p208 Q 23 [hs_r 12 0, v1, hs_i s.1, hs_i s.2.1, v4, v5] [] s.2.2) (fun k hk s r e v1 v4 v5 q => ?_) n (x2, x3, h) r e v1 v4 v5 q
  exact hw_208_23 hd (fun x2 x3 h r v1 v4 v5 e q => hk (x2, x3, h) r e v1 v4 v5 q) e q
def hb_208_16    (s0 : Int32) (h : hs_H) : Option (hs_H) := (hf_207 h).bind (fun q2 => hs_lp (fun k s => hb_208_23 k s.1 s.2.1 s.2.2) hs_big (s0, nI 0, q2))
set_option maxHeartbeats 1000000 in
theorem hw_208_16 {S : hs_S} {d : Nat} {Q : hs_Q} (hd : 2 ≤ d)     {s0 : Int32} {v1 : hs_V} {v2 : hs_V} {v3 : hs_V} {v4 : hs_V} {v5 : hs_V} {h : hs_H} {r : hs_H} (e : hb_208_16 s0 h = some r) (q : Q none r) : hs_W S d 0 hs_p208 Q 16 [hs_r 12 0, v1, v2, v3, v4, v5] [hs_i s0] h := by
  unfold hb_208_16 at e
  obtain ⟨q2, eq2, e⟩ := hs_bind_some e
  try dsimp only at e
  refine hs_wc 3 (y := 207) (a := [hs_r 12 0]) (v := none) (pc' := 21) (ls' := [hs_r 12 0, v1, hs_i s0, v3, v4, v5]) (st' := []) (h' := h) (h2 := q2) (fun n w => w) (fun q => hc_207 (by omega) eq2 q) ?_
  refine hs_w 2 (pc' := 23) (ls' := [hs_r 12 0, v1, hs_i s0, hs_i (nI 0), v4, v5]) (st' := []) (h' := q2) (fun n w => w) ?_
  exact hw_208_23_lp hd hs_big e _ _ _ q
/-- HuntedScentModel.findFewest(I)V -/
def hf_208 (a1 : Int32) (h : hs_H) : Option (hs_H) := if (h.1 12 0 2) ≤ a1 then (hb_208_16 (h.1 12 0 2) h) else (hb_208_16 a1 h)
set_option maxHeartbeats 1000000 in
theorem hc_208 {S : hs_S} {D : Nat} {Q : hs_Q} (hD : 3 ≤ D) {a1 : Int32} {h : hs_H} {r : hs_H} (e : hf_208 a1 h = some r) (q : Q none r) : hs_call hs_ms S D 208 [hs_r 12 0, hs_i a1] h Q := by
  refine hs_go (R := 2) hD rfl (Nat.le_of_ble_eq_true rfl) (fun d hd => ?_)
  show hs_W S d 0 hs_p208 Q 0 [hs_r 12 0, hs_i a1, hs_u, hs_u, hs_u, hs_u] [] h
  unfold hf_208 at e
  refine hs_wb 4 (c := (h.1 12 0 2) ≤ a1) (t := 12) (f := 8) (ls' := [hs_r 12 0, hs_i a1, hs_u, hs_u, hs_u, hs_u]) (st' := []) (h' := h) (fun n w => w) (fun b1 => ?_) (fun b1 => ?_)
  · rw [if_pos b1] at e
    refine hs_w 2 (pc' := 16) (ls' := [hs_r 12 0, hs_i a1, hs_u, hs_u, hs_u, hs_u]) (st' := [hs_i (h.1 12 0 2)]) (h' := h) (fun n w => w) ?_
    exact hw_208_16 hd e q
  · rw [if_neg b1] at e
    refine hs_w 2 (pc' := 16) (ls' := [hs_r 12 0, hs_i a1, hs_u, hs_u, hs_u, hs_u]) (st' := [hs_i a1]) (h' := h) (fun n w => w) ?_
    exact hw_208_16 hd e q
def hb_210_42     (h : hs_H) : Option (Int32 × hs_H) := some (nI 4294967295, h)
set_option maxHeartbeats 1000000 in
theorem hw_210_42 {S : hs_S} {d : Nat} {Q : hs_Q} (hd : 3 ≤ d)      {v1 : hs_V} {v2 : hs_V} {v3 : hs_V} {v4 : hs_V} {v5 : hs_V} {v6 : hs_V} {v7 : hs_V} {v8 : hs_V} {v9 : hs_V} {v10 : hs_V} {h : hs_H} {r : Int32 × hs_H} (e : hb_210_42 h = some r) (q : Q (some (hs_i r.1)) r.2) : hs_W S d 1 hs_p210 Q 42 [hs_r 12 0, v1, v2, v3, v4, v5, v6, v7, v8, v9, v10] [] h := by
  unfold hb_210_42 at e
  obtain rfl := Option.some.inj e
  exact hs_wr 2 (v := some (hs_i (nI 4294967295))) (h' := h) (fun n w => w) q
def hb_210_235  (k102 : Int32 × Int32 × Int32 × Int32 × Int32 × hs_H → Option (Int32 × hs_H)) (x3 : Int32) (x4 : Int32) (x6 : Int32) (x7 : Int32) (s0 : Int32) (h : hs_H) : Option (Int32 × hs_H) := k102 (x3, x4, s0, x6, x7 + nI 1, h)
set_option maxHeartbeats 1000000 in
theorem hw_210_235 {S : hs_S} {d : Nat} {Q : hs_Q} (hd : 3 ≤ d)  {k102 : Int32 × Int32 × Int32 × Int32 × Int32 × hs_H → Option (Int32 × hs_H)} (hk102 : ∀ (x3 : Int32) (x4 : Int32) (x5 : Int32) (x6 : Int32) (x7 : Int32) (h : hs_H) (r : Int32 × hs_H) (v1 : hs_V) (v2 : hs_V) (v8 : hs_V) (v9 : hs_V) (v10 : hs_V), k102 (x3, x4, x5, x6, x7, h) = some r → Q (some (hs_i r.1)) r.2 → hs_W S d 1 hs_p210 Q 102 [hs_r 12 0, v1, v2, hs_i x3, hs_i x4, hs_i x5, hs_i x6, hs_i x7, v8, v9, v10] [] h) {x3 : Int32} {x4 : Int32} {x6 : Int32} {x7 : Int32} {s0 : Int32} {v1 : hs_V} {v2 : hs_V} {v5 : hs_V} {v8 : hs_V} {v9 : hs_V} {v10 : hs_V} {h : hs_H} {r : Int32 × hs_H} (e : hb_210_235 k102 x3 x4 x6 x7 s0 h = some r) (q : Q (some (hs_i r.1)) r.2) : hs_W S d 1 hs_p210 Q 235 [hs_r 12 0, v1, v2, hs_i x3, hs_i x4, v5, hs_i x6, hs_i x7, v8, v9, v10] [hs_i s0] h := by
  unfold hb_210_235 at e
  refine hs_w 3 (pc' := 102) (ls' := [hs_r 12 0, v1, v2, hs_i x3, hs_i x4, hs_i s0, hs_i x6, hs_i (x7 + nI 1), v8, v9, v10]) (st' := []) (h' := h) (fun n w => w) ?_
  exact hk102 _ _ _ _ _ _ _ _ _ _ _ _ e q
def hb_210_201  (k102 : Int32 × Int32 × Int32 × Int32 × Int32 × hs_H → Option (Int32 × hs_H)) (k133 : Int32 × Int32 × Int32 × Int32 × Int32 × Int32 × hs_H → Option (Int32 × hs_H)) (x3 : Int32) (x4 : Int32) (x5 : Int32) (x7 : Int32) (x8 : Int32) (s0 : Int32) (h : hs_H) : Option (Int32 × hs_H) := k133 (x3, x4, x5, s0, x7, x8 + nI 4294967295, h)
set_option maxHeartbeats 1000000 in
theorem hw_210_201 {S : hs_S} {d : Nat} {Q : hs_Q} (hd : 3 ≤ d)  {k102 : Int32 × Int32 × Int32 × Int32 × Int32 × hs_H → Option (Int32 × hs_H)} {k133 : Int32 × Int32 × Int32 × Int32 × Int32 × Int32 × hs_H → Option (Int32 × hs_H)} (hk102 : ∀ (x3 : Int32) (x4 : Int32) (x5 : Int32) (x6 : Int32) (x7 : Int32) (h : hs_H) (r : Int32 × hs_H) (v1 : hs_V) (v2 : hs_V) (v8 : hs_V) (v9 : hs_V) (v10 : hs_V), k102 (x3, x4, x5, x6, x7, h) = some r → Q (some (hs_i r.1)) r.2 → hs_W S d 1 hs_p210 Q 102 [hs_r 12 0, v1, v2, hs_i x3, hs_i x4, hs_i x5, hs_i x6, hs_i x7, v8, v9, v10] [] h) (hk133 : ∀ (x3 : Int32) (x4 : Int32) (x5 : Int32) (x6 : Int32) (x7 : Int32) (x8 : Int32) (h : hs_H) (r : Int32 × hs_H) (v1 : hs_V) (v2 : hs_V) (v9 : hs_V) (v10 : hs_V), k133 (x3, x4, x5, x6, x7, x8, h) = some r → Q (some (hs_i r.1)) r.2 → hs_W S d 1 hs_p210 Q 133 [hs_r 12 0, v1, v2, hs_i x3, hs_i x4, hs_i x5, hs_i x6, hs_i x7, hs_i x8, v9, v10] [] h) {x3 : Int32} {x4 : Int32} {x5 : Int32} {x7 : Int32} {x8 : Int32} {s0 : Int32} {v1 : hs_V} {v2 : hs_V} {v6 : hs_V} {v9 : hs_V} {v10 : hs_V} {h : hs_H} {r : Int32 × hs_H} (e : hb_210_201 k102 k133 x3 x4 x5 x7 x8 s0 h = some r) (q : Q (some (hs_i r.1)) r.2) : hs_W S d 1 hs_p210 Q 201 [hs_r 12 0, v1, v2, hs_i x3, hs_i x4, hs_i x5, v6, hs_i x7, hs_i x8, v9, v10] [hs_i s0] h := by
  unfold hb_210_201 at e
  refine hs_w 3 (pc' := 133) (ls' := [hs_r 12 0, v1, v2, hs_i x3, hs_i x4, hs_i x5, hs_i s0, hs_i x7, hs_i (x8 + nI 4294967295), v9, v10]) (st' := []) (h' := h) (fun n w => w) ?_
  exact hk133 _ _ _ _ _ _ _ _ _ _ _ _ e q
def hb_210_199  (k102 : Int32 × Int32 × Int32 × Int32 × Int32 × hs_H → Option (Int32 × hs_H)) (k133 : Int32 × Int32 × Int32 × Int32 × Int32 × Int32 × hs_H → Option (Int32 × hs_H)) (x3 : Int32) (x4 : Int32) (x5 : Int32) (x6 : Int32) (x7 : Int32) (x8 : Int32)  (h : hs_H) : Option (Int32 × hs_H) := hb_210_201 k102 k133 x3 x4 x5 x7 x8 x6 h
set_option maxHeartbeats 1000000 in
theorem hw_210_199 {S : hs_S} {d : Nat} {Q : hs_Q} (hd : 3 ≤ d)  {k102 : Int32 × Int32 × Int32 × Int32 × Int32 × hs_H → Option (Int32 × hs_H)} {k133 : Int32 × Int32 × Int32 × Int32 × Int32 × Int32 × hs_H → Option (Int32 × hs_H)} (hk102 : ∀ (x3 : Int32) (x4 : Int32) (x5 : Int32) (x6 : Int32) (x7 : Int32) (h : hs_H) (r : Int32 × hs_H) (v1 : hs_V) (v2 : hs_V) (v8 : hs_V) (v9 : hs_V) (v10 : hs_V), k102 (x3, x4, x5, x6, x7, h) = some r → Q (some (hs_i r.1)) r.2 → hs_W S d 1 hs_p210 Q 102 [hs_r 12 0, v1, v2, hs_i x3, hs_i x4, hs_i x5, hs_i x6, hs_i x7, v8, v9, v10] [] h) (hk133 : ∀ (x3 : Int32) (x4 : Int32) (x5 : Int32) (x6 : Int32) (x7 : Int32) (x8 : Int32) (h : hs_H) (r : Int32 × hs_H) (v1 : hs_V) (v2 : hs_V) (v9 : hs_V) (v10 : hs_V), k133 (x3, x4, x5, x6, x7, x8, h) = some r → Q (some (hs_i r.1)) r.2 → hs_W S d 1 hs_p210 Q 133 [hs_r 12 0, v1, v2, hs_i x3, hs_i x4, hs_i x5, hs_i x6, hs_i x7, hs_i x8, v9, v10] [] h) {x3 : Int32} {x4 : Int32} {x5 : Int32} {x6 : Int32} {x7 : Int32} {x8 : Int32}  {v1 : hs_V} {v2 : hs_V} {v9 : hs_V} {v10 : hs_V} {h : hs_H} {r : Int32 × hs_H} (e : hb_210_199 k102 k133 x3 x4 x5 x6 x7 x8 h = some r) (q : Q (some (hs_i r.1)) r.2) : hs_W S d 1 hs_p210 Q 199 [hs_r 12 0, v1, v2, hs_i x3, hs_i x4, hs_i x5, hs_i x6, hs_i x7, hs_i x8, v9, v10] [] h := by
  unfold hb_210_199 at e
  refine hs_w 1 (pc' := 201) (ls' := [hs_r 12 0, v1, v2, hs_i x3, hs_i x4, hs_i x5, hs_i x6, hs_i x7, hs_i x8, v9, v10]) (st' := [hs_i x6]) (h' := h) (fun n w => w) ?_
  exact hw_210_201 hd hk102 hk133 e q
def hb_210_168  (k102 : Int32 × Int32 × Int32 × Int32 × Int32 × hs_H → Option (Int32 × hs_H)) (k133 : Int32 × Int32 × Int32 × Int32 × Int32 × Int32 × hs_H → Option (Int32 × hs_H)) (x3 : Int32) (x4 : Int32) (x5 : Int32) (x6 : Int32) (x7 : Int32) (x8 : Int32) (s0 : Int32) (h : hs_H) : Option (Int32 × hs_H) := (hf_152 x8 h).bind (fun q20 => if ¬ q20.1 = x4 then (hb_210_199 k102 k133 x3 x4 x5 x6 x7 x8 q20.2) else (hs_ck (hs_inb x5 1024) (if ¬ s0 = ((q20.2.1 58 0 x5.toNatClampNeg) - (nI 1)) then (hb_210_199 k102 k133 x3 x4 x5 x6 x7 x8 q20.2) else (hb_210_201 k102 k133 x3 x4 x5 x7 x8 x8 q20.2))))
set_option maxHeartbeats 1000000 in
theorem hw_210_168 {S : hs_S} {d : Nat} {Q : hs_Q} (hd : 3 ≤ d)  {k102 : Int32 × Int32 × Int32 × Int32 × Int32 × hs_H → Option (Int32 × hs_H)} {k133 : Int32 × Int32 × Int32 × Int32 × Int32 × Int32 × hs_H → Option (Int32 × hs_H)} (hk102 : ∀ (x3 : Int32) (x4 : Int32) (x5 : Int32) (x6 : Int32) (x7 : Int32) (h : hs_H) (r : Int32 × hs_H) (v1 : hs_V) (v2 : hs_V) (v8 : hs_V) (v9 : hs_V) (v10 : hs_V), k102 (x3, x4, x5, x6, x7, h) = some r → Q (some (hs_i r.1)) r.2 → hs_W S d 1 hs_p210 Q 102 [hs_r 12 0, v1, v2, hs_i x3, hs_i x4, hs_i x5, hs_i x6, hs_i x7, v8, v9, v10] [] h) (hk133 : ∀ (x3 : Int32) (x4 : Int32) (x5 : Int32) (x6 : Int32) (x7 : Int32) (x8 : Int32) (h : hs_H) (r : Int32 × hs_H) (v1 : hs_V) (v2 : hs_V) (v9 : hs_V) (v10 : hs_V), k133 (x3, x4, x5, x6, x7, x8, h) = some r → Q (some (hs_i r.1)) r.2 → hs_W S d 1 hs_p210 Q 133 [hs_r 12 0, v1, v2, hs_i x3, hs_i x4, hs_i x5, hs_i x6, hs_i x7, hs_i x8, v9, v10] [] h) {x3 : Int32} {x4 : Int32} {x5 : Int32} {x6 : Int32} {x7 : Int32} {x8 : Int32} {s0 : Int32} {v1 : hs_V} {v2 : hs_V} {v9 : hs_V} {v10 : hs_V} {h : hs_H} {r : Int32 × hs_H} (e : hb_210_168 k102 k133 x3 x4 x5 x6 x7 x8 s0 h = some r) (q : Q (some (hs_i r.1)) r.2) : hs_W S d 1 hs_p210 Q 168 [hs_r 12 0, v1, v2, hs_i x3, hs_i x4, hs_i x5, hs_i x6, hs_i x7, hs_i x8, v9, v10] [hs_i s0] h := by
  unfold hb_210_168 at e
  obtain ⟨q20, eq20, e⟩ := hs_bind_some e
  try dsimp only at e
  refine hs_wc 3 (y := 152) (a := [hs_i x8]) (v := some (hs_i q20.1)) (pc' := 175) (ls' := [hs_r 12 0, v1, v2, hs_i x3, hs_i x4, hs_i x5, hs_i x6, hs_i x7, hs_i x8, v9, hs_i s0]) (st' := []) (h' := h) (h2 := q20.2) (fun n w => w) (fun q => hc_152 (by omega) eq20 q) ?_
  refine hs_wb 2 (c := ¬ q20.1 = x4) (t := 199) (f := 180) (ls' := [hs_r 12 0, v1, v2, hs_i x3, hs_i x4, hs_i x5, hs_i x6, hs_i x7, hs_i x8, v9, hs_i s0]) (st' := []) (h' := q20.2) (fun n w => w) (fun b21 => ?_) (fun b21 => ?_)
  · rw [if_pos b21] at e
    exact hw_210_199 hd hk102 hk133 e q
  · rw [if_neg b21] at e
    obtain ⟨c22, e⟩ := hs_ck_some e
    refine hs_wa 5 (c := vp_in x5 1024) (pc' := 189) (ls' := [hs_r 12 0, v1, v2, hs_i x3, hs_i x4, hs_i x5, hs_i x6, hs_i x7, hs_i x8, v9, hs_i s0]) (st' := [hs_i (q20.2.1 58 0 x5.toNatClampNeg), hs_i s0]) (h' := q20.2) (fun n w => w) (hs_inb_iff.mp c22) ?_
    refine hs_wb 3 (c := ¬ s0 = ((q20.2.1 58 0 x5.toNatClampNeg) - (nI 1))) (t := 199) (f := 194) (ls' := [hs_r 12 0, v1, v2, hs_i x3, hs_i x4, hs_i x5, hs_i x6, hs_i x7, hs_i x8, v9, hs_i s0]) (st' := []) (h' := q20.2) (fun n w => w) (fun b23 => ?_) (fun b23 => ?_)
    · rw [if_pos b23] at e
      exact hw_210_199 hd hk102 hk133 e q
    · rw [if_neg b23] at e
      refine hs_w 2 (pc' := 201) (ls' := [hs_r 12 0, v1, v2, hs_i x3, hs_i x4, hs_i x5, hs_i x6, hs_i x7, hs_i x8, v9, hs_i s0]) (st' := [hs_i x8]) (h' := q20.2) (fun n w => w) ?_
      exact hw_210_201 hd hk102 hk133 e q
def hb_210_133  (k102 : Int32 × Int32 × Int32 × Int32 × Int32 × hs_H → Option (Int32 × hs_H)) (k133 : Int32 × Int32 × Int32 × Int32 × Int32 × Int32 × hs_H → Option (Int32 × hs_H)) (x3 : Int32) (x4 : Int32) (x5 : Int32) (x6 : Int32) (x7 : Int32) (x8 : Int32)  (h : hs_H) : Option (Int32 × hs_H) := if x8 ≤ 0 then (if ¬ (x5 &&& (x6 ^^^ (nI 4294967295))) = 0 then (hs_ck (hs_inb (x5 &&& (x6 ^^^ (nI 4294967295))) 1024) (hb_210_235 k102 x3 x4 x6 x7 (h.1 57 0 (x5 &&& (x6 ^^^ (nI 4294967295))).toNatClampNeg) h)) else (hb_210_235 k102 x3 x4 x6 x7 (nI 0) h)) else (if ¬ (x5 &&& (x8 ^^^ (nI 4294967295))) = 0 then (hs_ck (hs_inb (x5 &&& (x8 ^^^ (nI 4294967295))) 1024) (hs_ck (hs_inb (h.1 57 0 (x5 &&& (x8 ^^^ (nI 4294967295))).toNatClampNeg) 1024) (hb_210_168 k102 k133 x3 x4 x5 x6 x7 x8 (h.1 58 0 (h.1 57 0 (x5 &&& (x8 ^^^ (nI 4294967295))).toNatClampNeg).toNatClampNeg) h))) else (hb_210_168 k102 k133 x3 x4 x5 x6 x7 x8 (nI 0) h))
set_option maxHeartbeats 1000000 in
theorem hw_210_133 {S : hs_S} {d : Nat} {Q : hs_Q} (hd : 3 ≤ d)  {k102 : Int32 × Int32 × Int32 × Int32 × Int32 × hs_H → Option (Int32 × hs_H)} {k133 : Int32 × Int32 × Int32 × Int32 × Int32 × Int32 × hs_H → Option (Int32 × hs_H)} (hk102 : ∀ (x3 : Int32) (x4 : Int32) (x5 : Int32) (x6 : Int32) (x7 : Int32) (h : hs_H) (r : Int32 × hs_H) (v1 : hs_V) (v2 : hs_V) (v8 : hs_V) (v9 : hs_V) (v10 : hs_V), k102 (x3, x4, x5, x6, x7, h) = some r → Q (some (hs_i r.1)) r.2 → hs_W S d 1 hs_p210 Q 102 [hs_r 12 0, v1, v2, hs_i x3, hs_i x4, hs_i x5, hs_i x6, hs_i x7, v8, v9, v10] [] h) (hk133 : ∀ (x3 : Int32) (x4 : Int32) (x5 : Int32) (x6 : Int32) (x7 : Int32) (x8 : Int32) (h : hs_H) (r : Int32 × hs_H) (v1 : hs_V) (v2 : hs_V) (v9 : hs_V) (v10 : hs_V), k133 (x3, x4, x5, x6, x7, x8, h) = some r → Q (some (hs_i r.1)) r.2 → hs_W S d 1 hs_p210 Q 133 [hs_r 12 0, v1, v2, hs_i x3, hs_i x4, hs_i x5, hs_i x6, hs_i x7, hs_i x8, v9, v10] [] h) {x3 : Int32} {x4 : Int32} {x5 : Int32} {x6 : Int32} {x7 : Int32} {x8 : Int32}  {v1 : hs_V} {v2 : hs_V} {v9 : hs_V} {v10 : hs_V} {h : hs_H} {r : Int32 × hs_H} (e : hb_210_133 k102 k133 x3 x4 x5 x6 x7 x8 h = some r) (q : Q (some (hs_i r.1)) r.2) : hs_W S d 1 hs_p210 Q 133 [hs_r 12 0, v1, v2, hs_i x3, hs_i x4, hs_i x5, hs_i x6, hs_i x7, hs_i x8, v9, v10] [] h := by
  unfold hb_210_133 at e
  refine hs_wb 2 (c := x8 ≤ 0) (t := 209) (f := 138) (ls' := [hs_r 12 0, v1, v2, hs_i x3, hs_i x4, hs_i x5, hs_i x6, hs_i x7, hs_i x8, v9, v10]) (st' := []) (h' := h) (fun n w => w) (fun b14 => ?_) (fun b14 => ?_)
  · rw [if_pos b14] at e
    refine hs_wb 6 (c := ¬ (x5 &&& (x6 ^^^ (nI 4294967295))) = 0) (t := 223) (f := 219) (ls' := [hs_r 12 0, v1, v2, hs_i x3, hs_i x4, hs_i x5, hs_i x6, hs_i x7, hs_i x8, v9, v10]) (st' := []) (h' := h) (fun n w => w) (fun b15 => ?_) (fun b15 => ?_)
    · rw [if_pos b15] at e
      obtain ⟨c16, e⟩ := hs_ck_some e
      refine hs_wa 8 (c := vp_in (x5 &&& (x6 ^^^ (nI 4294967295))) 1024) (pc' := 235) (ls' := [hs_r 12 0, v1, v2, hs_i x3, hs_i x4, hs_i x5, hs_i x6, hs_i x7, hs_i x8, v9, v10]) (st' := [hs_i (h.1 57 0 (x5 &&& (x6 ^^^ (nI 4294967295))).toNatClampNeg)]) (h' := h) (fun n w => w) (hs_inb_iff.mp c16) ?_
      exact hw_210_235 hd hk102 e q
    · rw [if_neg b15] at e
      refine hs_w 2 (pc' := 235) (ls' := [hs_r 12 0, v1, v2, hs_i x3, hs_i x4, hs_i x5, hs_i x6, hs_i x7, hs_i x8, v9, v10]) (st' := [hs_i (nI 0)]) (h' := h) (fun n w => w) ?_
      exact hw_210_235 hd hk102 e q
  · rw [if_neg b14] at e
    refine hs_wb 8 (c := ¬ (x5 &&& (x8 ^^^ (nI 4294967295))) = 0) (t := 156) (f := 152) (ls' := [hs_r 12 0, v1, v2, hs_i x3, hs_i x4, hs_i x5, hs_i x6, hs_i x7, hs_i x8, hs_i (x5 &&& (x8 ^^^ (nI 4294967295))), v10]) (st' := []) (h' := h) (fun n w => w) (fun b17 => ?_) (fun b17 => ?_)
    · rw [if_pos b17] at e
      obtain ⟨c18, e⟩ := hs_ck_some e
      refine hs_wa 6 (c := vp_in (x5 &&& (x8 ^^^ (nI 4294967295))) 1024) (pc' := 167) (ls' := [hs_r 12 0, v1, v2, hs_i x3, hs_i x4, hs_i x5, hs_i x6, hs_i x7, hs_i x8, hs_i (x5 &&& (x8 ^^^ (nI 4294967295))), v10]) (st' := [hs_i (h.1 57 0 (x5 &&& (x8 ^^^ (nI 4294967295))).toNatClampNeg), hs_r 58 0]) (h' := h) (fun n w => w) (hs_inb_iff.mp c18) ?_
      obtain ⟨c19, e⟩ := hs_ck_some e
      refine hs_wa 1 (c := vp_in (h.1 57 0 (x5 &&& (x8 ^^^ (nI 4294967295))).toNatClampNeg) 1024) (pc' := 168) (ls' := [hs_r 12 0, v1, v2, hs_i x3, hs_i x4, hs_i x5, hs_i x6, hs_i x7, hs_i x8, hs_i (x5 &&& (x8 ^^^ (nI 4294967295))), v10]) (st' := [hs_i (h.1 58 0 (h.1 57 0 (x5 &&& (x8 ^^^ (nI 4294967295))).toNatClampNeg).toNatClampNeg)]) (h' := h) (fun n w => w) (hs_inb_iff.mp c19) ?_
      exact hw_210_168 hd hk102 hk133 e q
    · rw [if_neg b17] at e
      refine hs_w 2 (pc' := 168) (ls' := [hs_r 12 0, v1, v2, hs_i x3, hs_i x4, hs_i x5, hs_i x6, hs_i x7, hs_i x8, hs_i (x5 &&& (x8 ^^^ (nI 4294967295))), v10]) (st' := [hs_i (nI 0)]) (h' := h) (fun n w => w) ?_
      exact hw_210_168 hd hk102 hk133 e q
theorem hw_210_133_lp {S : hs_S} {d : Nat} {Q : hs_Q} (hd : 3 ≤ d)  {k102 : Int32 × Int32 × Int32 × Int32 × Int32 × hs_H → Option (Int32 × hs_H)} (hk102 : ∀ (x3 : Int32) (x4 : Int32) (x5 : Int32) (x6 : Int32) (x7 : Int32) (h : hs_H) (r : Int32 × hs_H) (v1 : hs_V) (v2 : hs_V) (v8 : hs_V) (v9 : hs_V) (v10 : hs_V), k102 (x3, x4, x5, x6, x7, h) = some r → Q (some (hs_i r.1)) r.2 → hs_W S d 1 hs_p210 Q 102 [hs_r 12 0, v1, v2, hs_i x3, hs_i x4, hs_i x5, hs_i x6, hs_i x7, v8, v9, v10] [] h) (n : Nat) {x3 : Int32} {x4 : Int32} {x5 : Int32} {x6 : Int32} {x7 : Int32} {x8 : Int32} {h : hs_H} {r : Int32 × hs_H} (e : hs_lp (fun k s => hb_210_133 k102 k s.1 s.2.1 s.2.2.1 s.2.2.2.1 s.2.2.2.2.1 s.2.2.2.2.2.1 s.2.2.2.2.2.2) n (x3, x4, x5, x6, x7, x8, h) = some r) (v1 : hs_V) (v2 : hs_V) (v9 : hs_V) (v10 : hs_V) (q : Q (some (hs_i r.1)) r.2) : hs_W S d 1 hs_p210 Q 133 [hs_r 12 0, v1, v2, hs_i x3, hs_i x4, hs_i x5, hs_i x6, hs_i x7, hs_i x8, v9, v10] [] h := by
  refine hs_lp_ind (P := fun (s : Int32 × Int32 × Int32 × Int32 × Int32 × Int32 × hs_H) (r : Int32 × hs_H) => ∀ (v1 : hs_V) (v2 : hs_V) (v9 : hs_V) (v10 : hs_V), Q (some (hs_i r.1)) r.2 → hs_W S d 1 hs_p210 Q 133 [hs_r 12 0, v1, v2, hs_i s.1, hs_i s.2.1, hs_i s.2.2.1, hs_i s.2.2.2.1, hs_i s.2.2.2.2.1, hs_i s.2.2.2.2.2.1, v9, v10] [] s.2.2.2.2.2.2) (fun k hk s r e v1 v2 v9 v10 q => ?_) n (x3, x4, x5, x6, x7, x8, h) r e v1 v2 v9 v10 q
  exact hw_210_133 hd hk102 (fun x3 x4 x5 x6 x7 x8 h r v1 v2 v9 v10 e q => hk (x3, x4, x5, x6, x7, x8, h) r e v1 v2 v9 v10 q) e q
def hb_210_102  (k102 : Int32 × Int32 × Int32 × Int32 × Int32 × hs_H → Option (Int32 × hs_H)) (x3 : Int32) (x4 : Int32) (x5 : Int32) (x6 : Int32) (x7 : Int32)  (h : hs_H) : Option (Int32 × hs_H) := if (x3 - (nI 10)) < x7 then (some (x6, h)) else (if ¬ x5 = 0 then (hs_lp (fun k s => hb_210_133 k102 k s.1 s.2.1 s.2.2.1 s.2.2.2.1 s.2.2.2.2.1 s.2.2.2.2.2.1 s.2.2.2.2.2.2) hs_big (x3, x4, x5, nI 4294967292, x7, ((nI 1) <<< ((h.1 12 0 2) &&& 31)) - (nI 1), h)) else (some (nI 4294967292, h)))
set_option maxHeartbeats 1000000 in
theorem hw_210_102 {S : hs_S} {d : Nat} {Q : hs_Q} (hd : 3 ≤ d)  {k102 : Int32 × Int32 × Int32 × Int32 × Int32 × hs_H → Option (Int32 × hs_H)} (hk102 : ∀ (x3 : Int32) (x4 : Int32) (x5 : Int32) (x6 : Int32) (x7 : Int32) (h : hs_H) (r : Int32 × hs_H) (v1 : hs_V) (v2 : hs_V) (v8 : hs_V) (v9 : hs_V) (v10 : hs_V), k102 (x3, x4, x5, x6, x7, h) = some r → Q (some (hs_i r.1)) r.2 → hs_W S d 1 hs_p210 Q 102 [hs_r 12 0, v1, v2, hs_i x3, hs_i x4, hs_i x5, hs_i x6, hs_i x7, v8, v9, v10] [] h) {x3 : Int32} {x4 : Int32} {x5 : Int32} {x6 : Int32} {x7 : Int32}  {v1 : hs_V} {v2 : hs_V} {v8 : hs_V} {v9 : hs_V} {v10 : hs_V} {h : hs_H} {r : Int32 × hs_H} (e : hb_210_102 k102 x3 x4 x5 x6 x7 h = some r) (q : Q (some (hs_i r.1)) r.2) : hs_W S d 1 hs_p210 Q 102 [hs_r 12 0, v1, v2, hs_i x3, hs_i x4, hs_i x5, hs_i x6, hs_i x7, v8, v9, v10] [] h := by
  unfold hb_210_102 at e
  refine hs_wb 5 (c := (x3 - (nI 10)) < x7) (t := 243) (f := 111) (ls' := [hs_r 12 0, v1, v2, hs_i x3, hs_i x4, hs_i x5, hs_i x6, hs_i x7, v8, v9, v10]) (st' := []) (h' := h) (fun n w => w) (fun b12 => ?_) (fun b12 => ?_)
  · rw [if_pos b12] at e
    obtain rfl := Option.some.inj e
    exact hs_wr 2 (v := some (hs_i x6)) (h' := h) (fun n w => w) q
  · rw [if_neg b12] at e
    refine hs_wb 2 (c := ¬ x5 = 0) (t := 119) (f := 116) (ls' := [hs_r 12 0, v1, v2, hs_i x3, hs_i x4, hs_i x5, hs_i x6, hs_i x7, v8, v9, v10]) (st' := []) (h' := h) (fun n w => w) (fun b13 => ?_) (fun b13 => ?_)
    · rw [if_pos b13] at e
      refine hs_w 9 (pc' := 133) (ls' := [hs_r 12 0, v1, v2, hs_i x3, hs_i x4, hs_i x5, hs_i (nI 4294967292), hs_i x7, hs_i (((nI 1) <<< ((h.1 12 0 2) &&& 31)) - (nI 1)), v9, v10]) (st' := []) (h' := h) (fun n w => w) ?_
      exact hw_210_133_lp hd hk102 hs_big e _ _ _ _ q
    · rw [if_neg b13] at e
      obtain rfl := Option.some.inj e
      exact hs_wr 2 (v := some (hs_i (nI 4294967292))) (h' := h) (fun n w => w) q
theorem hw_210_102_lp {S : hs_S} {d : Nat} {Q : hs_Q} (hd : 3 ≤ d)    (n : Nat) {x3 : Int32} {x4 : Int32} {x5 : Int32} {x6 : Int32} {x7 : Int32} {h : hs_H} {r : Int32 × hs_H} (e : hs_lp (fun k s => hb_210_102 k s.1 s.2.1 s.2.2.1 s.2.2.2.1 s.2.2.2.2.1 s.2.2.2.2.2) n (x3, x4, x5, x6, x7, h) = some r) (v1 : hs_V) (v2 : hs_V) (v8 : hs_V) (v9 : hs_V) (v10 : hs_V) (q : Q (some (hs_i r.1)) r.2) : hs_W S d 1 hs_p210 Q 102 [hs_r 12 0, v1, v2, hs_i x3, hs_i x4, hs_i x5, hs_i x6, hs_i x7, v8, v9, v10] [] h := by
  refine hs_lp_ind (P := fun (s : Int32 × Int32 × Int32 × Int32 × Int32 × hs_H) (r : Int32 × hs_H) => ∀ (v1 : hs_V) (v2 : hs_V) (v8 : hs_V) (v9 : hs_V) (v10 : hs_V), Q (some (hs_i r.1)) r.2 → hs_W S d 1 hs_p210 Q 102 [hs_r 12 0, v1, v2, hs_i s.1, hs_i s.2.1, hs_i s.2.2.1, hs_i s.2.2.2.1, hs_i s.2.2.2.2.1, v8, v9, v10] [] s.2.2.2.2.2) (fun k hk s r e v1 v2 v8 v9 v10 q => ?_) n (x3, x4, x5, x6, x7, h) r e v1 v2 v8 v9 v10 q
  exact hw_210_102 hd (fun x3 x4 x5 x6 x7 h r v1 v2 v8 v9 v10 e q => hk (x3, x4, x5, x6, x7, h) r e v1 v2 v8 v9 v10 q) e q
def hb_210_90   (x2 : Int32) (x3 : Int32) (s0 : Int32) (h : hs_H) : Option (Int32 × hs_H) := hs_lp (fun k s => hb_210_102 k s.1 s.2.1 s.2.2.1 s.2.2.2.1 s.2.2.2.2.1 s.2.2.2.2.2) hs_big (x3, s0, x2, nI 4294967292, nI 0, h)
set_option maxHeartbeats 1000000 in
theorem hw_210_90 {S : hs_S} {d : Nat} {Q : hs_Q} (hd : 3 ≤ d)    {x2 : Int32} {x3 : Int32} {s0 : Int32} {v1 : hs_V} {v4 : hs_V} {v5 : hs_V} {v6 : hs_V} {v7 : hs_V} {v8 : hs_V} {v9 : hs_V} {v10 : hs_V} {h : hs_H} {r : Int32 × hs_H} (e : hb_210_90 x2 x3 s0 h = some r) (q : Q (some (hs_i r.1)) r.2) : hs_W S d 1 hs_p210 Q 90 [hs_r 12 0, v1, hs_i x2, hs_i x3, v4, v5, v6, v7, v8, v9, v10] [hs_i s0] h := by
  unfold hb_210_90 at e
  refine hs_w 7 (pc' := 102) (ls' := [hs_r 12 0, v1, hs_i x2, hs_i x3, hs_i s0, hs_i x2, hs_i (nI 4294967292), hs_i (nI 0), v8, v9, v10]) (st' := []) (h' := h) (fun n w => w) ?_
  exact hw_210_102_lp hd hs_big e _ _ _ _ _ q
def hb_210_44   (x1 : Int32) (x2 : Int32) (x3 : Int32)  (h : hs_H) : Option (Int32 × hs_H) := (hf_208 x1 h).bind (fun q7 => hs_ck (hs_inb x2 1024) (if ¬ (q7.1 58 0 x2.toNatClampNeg) = (nI 99999) then (if ¬ x3 = 0 then (if (q7.1 12 0 2) ≤ x1 then (hb_210_90 x2 x3 (q7.1 12 0 2) q7) else (hb_210_90 x2 x3 x1 q7)) else (hs_ck (hs_inb x2 1024) (some (q7.1 58 0 x2.toNatClampNeg, q7)))) else (some (nI 4294967292, q7))))
set_option maxHeartbeats 1000000 in
theorem hw_210_44 {S : hs_S} {d : Nat} {Q : hs_Q} (hd : 3 ≤ d)    {x1 : Int32} {x2 : Int32} {x3 : Int32}  {v4 : hs_V} {v5 : hs_V} {v6 : hs_V} {v7 : hs_V} {v8 : hs_V} {v9 : hs_V} {v10 : hs_V} {h : hs_H} {r : Int32 × hs_H} (e : hb_210_44 x1 x2 x3 h = some r) (q : Q (some (hs_i r.1)) r.2) : hs_W S d 1 hs_p210 Q 44 [hs_r 12 0, hs_i x1, hs_i x2, hs_i x3, v4, v5, v6, v7, v8, v9, v10] [] h := by
  unfold hb_210_44 at e
  obtain ⟨q7, eq7, e⟩ := hs_bind_some e
  try dsimp only at e
  refine hs_wc 3 (y := 208) (a := [hs_r 12 0, hs_i x1]) (v := none) (pc' := 49) (ls' := [hs_r 12 0, hs_i x1, hs_i x2, hs_i x3, v4, v5, v6, v7, v8, v9, v10]) (st' := []) (h' := h) (h2 := q7) (fun n w => w) (fun q => hc_208 (by omega) eq7 q) ?_
  obtain ⟨c8, e⟩ := hs_ck_some e
  refine hs_wa 4 (c := vp_in x2 1024) (pc' := 55) (ls' := [hs_r 12 0, hs_i x1, hs_i x2, hs_i x3, v4, v5, v6, v7, v8, v9, v10]) (st' := [hs_i (q7.1 58 0 x2.toNatClampNeg)]) (h' := q7) (fun n w => w) (hs_inb_iff.mp c8) ?_
  refine hs_wb 2 (c := ¬ (q7.1 58 0 x2.toNatClampNeg) = (nI 99999)) (t := 63) (f := 60) (ls' := [hs_r 12 0, hs_i x1, hs_i x2, hs_i x3, v4, v5, v6, v7, v8, v9, v10]) (st' := []) (h' := q7) (fun n w => w) (fun b9 => ?_) (fun b9 => ?_)
  · rw [if_pos b9] at e
    refine hs_wb 2 (c := ¬ x3 = 0) (t := 74) (f := 67) (ls' := [hs_r 12 0, hs_i x1, hs_i x2, hs_i x3, v4, v5, v6, v7, v8, v9, v10]) (st' := []) (h' := q7) (fun n w => w) (fun b10 => ?_) (fun b10 => ?_)
    · rw [if_pos b10] at e
      refine hs_wb 4 (c := (q7.1 12 0 2) ≤ x1) (t := 86) (f := 82) (ls' := [hs_r 12 0, hs_i x1, hs_i x2, hs_i x3, v4, v5, v6, v7, v8, v9, v10]) (st' := []) (h' := q7) (fun n w => w) (fun b11 => ?_) (fun b11 => ?_)
      · rw [if_pos b11] at e
        refine hs_w 2 (pc' := 90) (ls' := [hs_r 12 0, hs_i x1, hs_i x2, hs_i x3, v4, v5, v6, v7, v8, v9, v10]) (st' := [hs_i (q7.1 12 0 2)]) (h' := q7) (fun n w => w) ?_
        exact hw_210_90 hd e q
      · rw [if_neg b11] at e
        refine hs_w 2 (pc' := 90) (ls' := [hs_r 12 0, hs_i x1, hs_i x2, hs_i x3, v4, v5, v6, v7, v8, v9, v10]) (st' := [hs_i x1]) (h' := q7) (fun n w => w) ?_
        exact hw_210_90 hd e q
    · rw [if_neg b10] at e
      obtain ⟨c24, e⟩ := hs_ck_some e
      refine hs_wa 4 (c := vp_in x2 1024) (pc' := 73) (ls' := [hs_r 12 0, hs_i x1, hs_i x2, hs_i x3, v4, v5, v6, v7, v8, v9, v10]) (st' := [hs_i (q7.1 58 0 x2.toNatClampNeg)]) (h' := q7) (fun n w => w) (hs_inb_iff.mp c24) ?_
      obtain rfl := Option.some.inj e
      exact hs_wr 1 (v := some (hs_i (q7.1 58 0 x2.toNatClampNeg))) (h' := q7) (fun n w => w) q
  · rw [if_neg b9] at e
    obtain rfl := Option.some.inj e
    exact hs_wr 2 (v := some (hs_i (nI 4294967292))) (h' := q7) (fun n w => w) q
/-- HuntedScentModel.casts(III)I -/
def hf_210 (a1 : Int32) (a2 : Int32) (a3 : Int32) (h : hs_H) : Option (Int32 × hs_H) := (hf_150 a1.toInt64 (lN 1) (lN 5) h).bind (fun q1 => if q1.1 = 0 then (hb_210_42 q1.2) else ((hf_204 a2 q1.2).bind (fun q3 => if q3.1 = 0 then (hb_210_42 q3.2) else (if a2 = 0 then (hb_210_42 q3.2) else (if a3 = 0 then (hb_210_44 a1 a2 a3 q3.2) else ((hf_150 a3.toInt64 (lN 10) (lN 1033) q3.2).bind (fun q25 => if ¬ q25.1 = 0 then (hb_210_44 a1 a2 a3 q25.2) else (hb_210_42 q25.2))))))))
set_option maxHeartbeats 1000000 in
theorem hc_210 {S : hs_S} {D : Nat} {Q : hs_Q} (hD : 4 ≤ D) {a1 : Int32} {a2 : Int32} {a3 : Int32} {h : hs_H} {r : Int32 × hs_H} (e : hf_210 a1 a2 a3 h = some r) (q : Q (some (hs_i r.1)) r.2) : hs_call hs_ms S D 210 [hs_r 12 0, hs_i a1, hs_i a2, hs_i a3] h Q := by
  refine hs_go (R := 3) hD rfl (Nat.le_of_ble_eq_true rfl) (fun d hd => ?_)
  show hs_W S d 1 hs_p210 Q 0 [hs_r 12 0, hs_i a1, hs_i a2, hs_i a3, hs_u, hs_u, hs_u, hs_u, hs_u, hs_u, hs_u] [] h
  unfold hf_210 at e
  obtain ⟨q1, eq1, e⟩ := hs_bind_some e
  try dsimp only at e
  refine hs_wc 5 (y := 150) (a := [hs_l a1.toInt64, hs_l (lN 1), hs_l (lN 5)]) (v := some (hs_i q1.1)) (pc' := 9) (ls' := [hs_r 12 0, hs_i a1, hs_i a2, hs_i a3, hs_u, hs_u, hs_u, hs_u, hs_u, hs_u, hs_u]) (st' := []) (h' := h) (h2 := q1.2) (fun n w => w) (fun q => hc_150 (by omega) eq1 q) ?_
  refine hs_wb 1 (c := q1.1 = 0) (t := 42) (f := 12) (ls' := [hs_r 12 0, hs_i a1, hs_i a2, hs_i a3, hs_u, hs_u, hs_u, hs_u, hs_u, hs_u, hs_u]) (st' := []) (h' := q1.2) (fun n w => w) (fun b2 => ?_) (fun b2 => ?_)
  · rw [if_pos b2] at e
    exact hw_210_42 hd e q
  · rw [if_neg b2] at e
    obtain ⟨q3, eq3, e⟩ := hs_bind_some e
    try dsimp only at e
    refine hs_wc 3 (y := 204) (a := [hs_r 12 0, hs_i a2]) (v := some (hs_i q3.1)) (pc' := 17) (ls' := [hs_r 12 0, hs_i a1, hs_i a2, hs_i a3, hs_u, hs_u, hs_u, hs_u, hs_u, hs_u, hs_u]) (st' := []) (h' := q1.2) (h2 := q3.2) (fun n w => w) (fun q => hc_204 (by omega) eq3 q) ?_
    refine hs_wb 1 (c := q3.1 = 0) (t := 42) (f := 20) (ls' := [hs_r 12 0, hs_i a1, hs_i a2, hs_i a3, hs_u, hs_u, hs_u, hs_u, hs_u, hs_u, hs_u]) (st' := []) (h' := q3.2) (fun n w => w) (fun b4 => ?_) (fun b4 => ?_)
    · rw [if_pos b4] at e
      exact hw_210_42 hd e q
    · rw [if_neg b4] at e
      refine hs_wb 2 (c := a2 = 0) (t := 42) (f := 24) (ls' := [hs_r 12 0, hs_i a1, hs_i a2, hs_i a3, hs_u, hs_u, hs_u, hs_u, hs_u, hs_u, hs_u]) (st' := []) (h' := q3.2) (fun n w => w) (fun b5 => ?_) (fun b5 => ?_)
      · rw [if_pos b5] at e
        exact hw_210_42 hd e q
      · rw [if_neg b5] at e
        refine hs_wb 2 (c := a3 = 0) (t := 44) (f := 28) (ls' := [hs_r 12 0, hs_i a1, hs_i a2, hs_i a3, hs_u, hs_u, hs_u, hs_u, hs_u, hs_u, hs_u]) (st' := []) (h' := q3.2) (fun n w => w) (fun b6 => ?_) (fun b6 => ?_)
        · rw [if_pos b6] at e
          exact hw_210_44 hd e q
        · rw [if_neg b6] at e
          obtain ⟨q25, eq25, e⟩ := hs_bind_some e
          try dsimp only at e
          refine hs_wc 5 (y := 150) (a := [hs_l a3.toInt64, hs_l (lN 10), hs_l (lN 1033)]) (v := some (hs_i q25.1)) (pc' := 39) (ls' := [hs_r 12 0, hs_i a1, hs_i a2, hs_i a3, hs_u, hs_u, hs_u, hs_u, hs_u, hs_u, hs_u]) (st' := []) (h' := q3.2) (h2 := q25.2) (fun n w => w) (fun q => hc_150 (by omega) eq25 q) ?_
          refine hs_wb 1 (c := ¬ q25.1 = 0) (t := 44) (f := 42) (ls' := [hs_r 12 0, hs_i a1, hs_i a2, hs_i a3, hs_u, hs_u, hs_u, hs_u, hs_u, hs_u, hs_u]) (st' := []) (h' := q25.2) (fun n w => w) (fun b26 => ?_) (fun b26 => ?_)
          · rw [if_pos b26] at e
            exact hw_210_44 hd e q
          · rw [if_neg b26] at e
            exact hw_210_42 hd e q
def hb_211_2  (k2 : Int32 × hs_H → Option (Int32 × hs_H)) (x1 : Int32)  (h : hs_H) : Option (Int32 × hs_H) := if (nI 6) ≤ x1 then (some (nI 4294967292, h)) else ((hf_208 x1 h).bind (fun q2 => hs_ck (hs_inb (((nI 1) <<< ((q2.1 12 0 2) &&& 31)) - (nI 1)) 1024) (if (q2.1 58 0 (((nI 1) <<< ((q2.1 12 0 2) &&& 31)) - (nI 1)).toNatClampNeg) = (nI 99999) then (k2 (x1 + nI 1, q2)) else (some (x1, q2)))))
set_option maxHeartbeats 1000000 in
theorem hw_211_2 {S : hs_S} {d : Nat} {Q : hs_Q} (hd : 3 ≤ d)  {k2 : Int32 × hs_H → Option (Int32 × hs_H)} (hk2 : ∀ (x1 : Int32) (h : hs_H) (r : Int32 × hs_H) , k2 (x1, h) = some r → Q (some (hs_i r.1)) r.2 → hs_W S d 1 hs_p211 Q 2 [hs_r 12 0, hs_i x1] [] h) {x1 : Int32}   {h : hs_H} {r : Int32 × hs_H} (e : hb_211_2 k2 x1 h = some r) (q : Q (some (hs_i r.1)) r.2) : hs_W S d 1 hs_p211 Q 2 [hs_r 12 0, hs_i x1] [] h := by
  unfold hb_211_2 at e
  refine hs_wb 3 (c := (nI 6) ≤ x1) (t := 39) (f := 8) (ls' := [hs_r 12 0, hs_i x1]) (st' := []) (h' := h) (fun n w => w) (fun b1 => ?_) (fun b1 => ?_)
  · rw [if_pos b1] at e
    obtain rfl := Option.some.inj e
    exact hs_wr 2 (v := some (hs_i (nI 4294967292))) (h' := h) (fun n w => w) q
  · rw [if_neg b1] at e
    obtain ⟨q2, eq2, e⟩ := hs_bind_some e
    try dsimp only at e
    refine hs_wc 3 (y := 208) (a := [hs_r 12 0, hs_i x1]) (v := none) (pc' := 13) (ls' := [hs_r 12 0, hs_i x1]) (st' := []) (h' := h) (h2 := q2) (fun n w => w) (fun q => hc_208 (by omega) eq2 q) ?_
    obtain ⟨c3, e⟩ := hs_ck_some e
    refine hs_wa 9 (c := vp_in (((nI 1) <<< ((q2.1 12 0 2) &&& 31)) - (nI 1)) 1024) (pc' := 26) (ls' := [hs_r 12 0, hs_i x1]) (st' := [hs_i (q2.1 58 0 (((nI 1) <<< ((q2.1 12 0 2) &&& 31)) - (nI 1)).toNatClampNeg)]) (h' := q2) (fun n w => w) (hs_inb_iff.mp c3) ?_
    refine hs_wb 2 (c := (q2.1 58 0 (((nI 1) <<< ((q2.1 12 0 2) &&& 31)) - (nI 1)).toNatClampNeg) = (nI 99999)) (t := 33) (f := 31) (ls' := [hs_r 12 0, hs_i x1]) (st' := []) (h' := q2) (fun n w => w) (fun b4 => ?_) (fun b4 => ?_)
    · rw [if_pos b4] at e
      refine hs_w 2 (pc' := 2) (ls' := [hs_r 12 0, hs_i (x1 + nI 1)]) (st' := []) (h' := q2) (fun n w => w) ?_
      exact hk2 _ _ _  e q
    · rw [if_neg b4] at e
      obtain rfl := Option.some.inj e
      exact hs_wr 2 (v := some (hs_i x1)) (h' := q2) (fun n w => w) q
theorem hw_211_2_lp {S : hs_S} {d : Nat} {Q : hs_Q} (hd : 3 ≤ d)    (n : Nat) {x1 : Int32} {h : hs_H} {r : Int32 × hs_H} (e : hs_lp (fun k s => hb_211_2 k s.1 s.2) n (x1, h) = some r)  (q : Q (some (hs_i r.1)) r.2) : hs_W S d 1 hs_p211 Q 2 [hs_r 12 0, hs_i x1] [] h := by
  refine hs_lp_ind (P := fun (s : Int32 × hs_H) (r : Int32 × hs_H) => ∀ (_ : True), Q (some (hs_i r.1)) r.2 → hs_W S d 1 hs_p211 Q 2 [hs_r 12 0, hs_i s.1] [] s.2) (fun k hk s r e _ q => ?_) n (x1, h) r e trivial q
  exact hw_211_2 hd (fun x1 h r  e q => hk (x1, h) r e trivial q) e q
/-- HuntedScentModel.need()I -/
def hf_211  (h : hs_H) : Option (Int32 × hs_H) := hs_lp (fun k s => hb_211_2 k s.1 s.2) hs_big (nI 1, h)
set_option maxHeartbeats 1000000 in
theorem hc_211 {S : hs_S} {D : Nat} {Q : hs_Q} (hD : 4 ≤ D)  {h : hs_H} {r : Int32 × hs_H} (e : hf_211 h = some r) (q : Q (some (hs_i r.1)) r.2) : hs_call hs_ms S D 211 [hs_r 12 0] h Q := by
  refine hs_go (R := 3) hD rfl (Nat.le_of_ble_eq_true rfl) (fun d hd => ?_)
  show hs_W S d 1 hs_p211 Q 0 [hs_r 12 0, hs_u] [] h
  unfold hf_211 at e
  refine hs_w 2 (pc' := 2) (ls' := [hs_r 12 0, hs_i (nI 1)]) (st' := []) (h' := h) (fun n w => w) ?_
  exact hw_211_2_lp hd hs_big e  q
def hb_212_16     (h : hs_H) : Option (Int32 × hs_H) := some (nI 4294967295, h)
set_option maxHeartbeats 1000000 in
theorem hw_212_16 {S : hs_S} {d : Nat} {Q : hs_Q} (hd : 2 ≤ d)      {v1 : hs_V} {v2 : hs_V} {h : hs_H} {r : Int32 × hs_H} (e : hb_212_16 h = some r) (q : Q (some (hs_i r.1)) r.2) : hs_W S d 1 hs_p212 Q 16 [hs_r 12 0, v1, v2] [] h := by
  unfold hb_212_16 at e
  obtain rfl := Option.some.inj e
  exact hs_wr 2 (v := some (hs_i (nI 4294967295))) (h' := h) (fun n w => w) q
/-- HuntedScentModel.left(II)I -/
def hf_212 (a1 : Int32) (a2 : Int32) (h : hs_H) : Option (Int32 × hs_H) := (hf_204 a1 h).bind (fun q1 => if q1.1 = 0 then (hb_212_16 q1.2) else ((hf_204 a2 q1.2).bind (fun q3 => if ¬ q3.1 = 0 then ((hf_207 q3.2).bind (fun q5 => hs_ck (hs_inb (a1 &&& (a2 ^^^ (nI 4294967295))) 1024) (some (q5.1 57 0 (a1 &&& (a2 ^^^ (nI 4294967295))).toNatClampNeg, q5)))) else (hb_212_16 q3.2))))
set_option maxHeartbeats 1000000 in
theorem hc_212 {S : hs_S} {D : Nat} {Q : hs_Q} (hD : 3 ≤ D) {a1 : Int32} {a2 : Int32} {h : hs_H} {r : Int32 × hs_H} (e : hf_212 a1 a2 h = some r) (q : Q (some (hs_i r.1)) r.2) : hs_call hs_ms S D 212 [hs_r 12 0, hs_i a1, hs_i a2] h Q := by
  refine hs_go (R := 2) hD rfl (Nat.le_of_ble_eq_true rfl) (fun d hd => ?_)
  show hs_W S d 1 hs_p212 Q 0 [hs_r 12 0, hs_i a1, hs_i a2] [] h
  unfold hf_212 at e
  obtain ⟨q1, eq1, e⟩ := hs_bind_some e
  try dsimp only at e
  refine hs_wc 3 (y := 204) (a := [hs_r 12 0, hs_i a1]) (v := some (hs_i q1.1)) (pc' := 5) (ls' := [hs_r 12 0, hs_i a1, hs_i a2]) (st' := []) (h' := h) (h2 := q1.2) (fun n w => w) (fun q => hc_204 (by omega) eq1 q) ?_
  refine hs_wb 1 (c := q1.1 = 0) (t := 16) (f := 8) (ls' := [hs_r 12 0, hs_i a1, hs_i a2]) (st' := []) (h' := q1.2) (fun n w => w) (fun b2 => ?_) (fun b2 => ?_)
  · rw [if_pos b2] at e
    exact hw_212_16 hd e q
  · rw [if_neg b2] at e
    obtain ⟨q3, eq3, e⟩ := hs_bind_some e
    try dsimp only at e
    refine hs_wc 3 (y := 204) (a := [hs_r 12 0, hs_i a2]) (v := some (hs_i q3.1)) (pc' := 13) (ls' := [hs_r 12 0, hs_i a1, hs_i a2]) (st' := []) (h' := q1.2) (h2 := q3.2) (fun n w => w) (fun q => hc_204 (by omega) eq3 q) ?_
    refine hs_wb 1 (c := ¬ q3.1 = 0) (t := 18) (f := 16) (ls' := [hs_r 12 0, hs_i a1, hs_i a2]) (st' := []) (h' := q3.2) (fun n w => w) (fun b4 => ?_) (fun b4 => ?_)
    · rw [if_pos b4] at e
      obtain ⟨q5, eq5, e⟩ := hs_bind_some e
      try dsimp only at e
      refine hs_wc 2 (y := 207) (a := [hs_r 12 0]) (v := none) (pc' := 22) (ls' := [hs_r 12 0, hs_i a1, hs_i a2]) (st' := []) (h' := q3.2) (h2 := q5) (fun n w => w) (fun q => hc_207 (by omega) eq5 q) ?_
      obtain ⟨c6, e⟩ := hs_ck_some e
      refine hs_wa 8 (c := vp_in (a1 &&& (a2 ^^^ (nI 4294967295))) 1024) (pc' := 32) (ls' := [hs_r 12 0, hs_i a1, hs_i a2]) (st' := [hs_i (q5.1 57 0 (a1 &&& (a2 ^^^ (nI 4294967295))).toNatClampNeg)]) (h' := q5) (fun n w => w) (hs_inb_iff.mp c6) ?_
      obtain rfl := Option.some.inj e
      exact hs_wr 1 (v := some (hs_i (q5.1 57 0 (a1 &&& (a2 ^^^ (nI 4294967295))).toNatClampNeg))) (h' := q5) (fun n w => w) q
    · rw [if_neg b4] at e
      exact hw_212_16 hd e q
/-- HuntedScentModel.placeOf(III)I -/
def hf_213 (a0 : Int32) (a1 : Int32) (a2 : Int32) (h : hs_H) : Option (Int32 × hs_H) := some ((((nI 100) * a0) + ((nI 10) * a1)) + a2, h)
set_option maxHeartbeats 1000000 in
theorem hc_213 {S : hs_S} {D : Nat} {Q : hs_Q} (hD : 1 ≤ D) {a0 : Int32} {a1 : Int32} {a2 : Int32} {h : hs_H} {r : Int32 × hs_H} (e : hf_213 a0 a1 a2 h = some r) (q : Q (some (hs_i r.1)) r.2) : hs_call hs_ms S D 213 [hs_i a0, hs_i a1, hs_i a2] h Q := by
  refine hs_go (R := 0) hD rfl (Nat.le_of_ble_eq_true rfl) (fun d hd => ?_)
  show hs_W S d 1 hs_p213 Q 0 [hs_i a0, hs_i a1, hs_i a2] [] h
  unfold hf_213 at e
  obtain rfl := Option.some.inj e
  exact hs_wr 10 (v := some (hs_i ((((nI 100) * a0) + ((nI 10) * a1)) + a2))) (h' := h) (fun n w => w) q
def hb_214_107  (k7 : Int32 × Int32 × Int32 × Int32 × Int32 × hs_H → Option (Int32 × hs_H)) (k19 : Int32 × Int32 × Int32 × Int32 × Int32 × Int32 × hs_H → Option (Int32 × hs_H)) (x1 : Int32) (x2 : Int32) (x3 : Int32) (x4 : Int32) (x5 : Int32) (x6 : Int32)  (h : hs_H) : Option (Int32 × hs_H) := k19 (x1, x2, x3, x4, x5, x6 + nI 1, h)
set_option maxHeartbeats 1000000 in
theorem hw_214_107 {S : hs_S} {d : Nat} {Q : hs_Q} (hd : 1 ≤ d)  {k7 : Int32 × Int32 × Int32 × Int32 × Int32 × hs_H → Option (Int32 × hs_H)} {k19 : Int32 × Int32 × Int32 × Int32 × Int32 × Int32 × hs_H → Option (Int32 × hs_H)} (hk7 : ∀ (x1 : Int32) (x2 : Int32) (x3 : Int32) (x4 : Int32) (x5 : Int32) (h : hs_H) (r : Int32 × hs_H) (v6 : hs_V) (v7 : hs_V), k7 (x1, x2, x3, x4, x5, h) = some r → Q (some (hs_i r.1)) r.2 → hs_W S d 1 hs_p214 Q 7 [hs_r 12 0, hs_i x1, hs_i x2, hs_i x3, hs_i x4, hs_i x5, v6, v7] [] h) (hk19 : ∀ (x1 : Int32) (x2 : Int32) (x3 : Int32) (x4 : Int32) (x5 : Int32) (x6 : Int32) (h : hs_H) (r : Int32 × hs_H) (v7 : hs_V), k19 (x1, x2, x3, x4, x5, x6, h) = some r → Q (some (hs_i r.1)) r.2 → hs_W S d 1 hs_p214 Q 19 [hs_r 12 0, hs_i x1, hs_i x2, hs_i x3, hs_i x4, hs_i x5, hs_i x6, v7] [] h) {x1 : Int32} {x2 : Int32} {x3 : Int32} {x4 : Int32} {x5 : Int32} {x6 : Int32}  {v7 : hs_V} {h : hs_H} {r : Int32 × hs_H} (e : hb_214_107 k7 k19 x1 x2 x3 x4 x5 x6 h = some r) (q : Q (some (hs_i r.1)) r.2) : hs_W S d 1 hs_p214 Q 107 [hs_r 12 0, hs_i x1, hs_i x2, hs_i x3, hs_i x4, hs_i x5, hs_i x6, v7] [] h := by
  unfold hb_214_107 at e
  refine hs_w 2 (pc' := 19) (ls' := [hs_r 12 0, hs_i x1, hs_i x2, hs_i x3, hs_i x4, hs_i x5, hs_i (x6 + nI 1), v7]) (st' := []) (h' := h) (fun n w => w) ?_
  exact hk19 _ _ _ _ _ _ _ _ _ e q
def hb_214_105  (k7 : Int32 × Int32 × Int32 × Int32 × Int32 × hs_H → Option (Int32 × hs_H)) (k19 : Int32 × Int32 × Int32 × Int32 × Int32 × Int32 × hs_H → Option (Int32 × hs_H)) (x1 : Int32) (x2 : Int32) (x3 : Int32) (x5 : Int32) (x6 : Int32) (s0 : Int32) (h : hs_H) : Option (Int32 × hs_H) := hb_214_107 k7 k19 x1 x2 x3 s0 x5 x6 h
set_option maxHeartbeats 1000000 in
theorem hw_214_105 {S : hs_S} {d : Nat} {Q : hs_Q} (hd : 1 ≤ d)  {k7 : Int32 × Int32 × Int32 × Int32 × Int32 × hs_H → Option (Int32 × hs_H)} {k19 : Int32 × Int32 × Int32 × Int32 × Int32 × Int32 × hs_H → Option (Int32 × hs_H)} (hk7 : ∀ (x1 : Int32) (x2 : Int32) (x3 : Int32) (x4 : Int32) (x5 : Int32) (h : hs_H) (r : Int32 × hs_H) (v6 : hs_V) (v7 : hs_V), k7 (x1, x2, x3, x4, x5, h) = some r → Q (some (hs_i r.1)) r.2 → hs_W S d 1 hs_p214 Q 7 [hs_r 12 0, hs_i x1, hs_i x2, hs_i x3, hs_i x4, hs_i x5, v6, v7] [] h) (hk19 : ∀ (x1 : Int32) (x2 : Int32) (x3 : Int32) (x4 : Int32) (x5 : Int32) (x6 : Int32) (h : hs_H) (r : Int32 × hs_H) (v7 : hs_V), k19 (x1, x2, x3, x4, x5, x6, h) = some r → Q (some (hs_i r.1)) r.2 → hs_W S d 1 hs_p214 Q 19 [hs_r 12 0, hs_i x1, hs_i x2, hs_i x3, hs_i x4, hs_i x5, hs_i x6, v7] [] h) {x1 : Int32} {x2 : Int32} {x3 : Int32} {x5 : Int32} {x6 : Int32} {s0 : Int32} {v4 : hs_V} {v7 : hs_V} {h : hs_H} {r : Int32 × hs_H} (e : hb_214_105 k7 k19 x1 x2 x3 x5 x6 s0 h = some r) (q : Q (some (hs_i r.1)) r.2) : hs_W S d 1 hs_p214 Q 105 [hs_r 12 0, hs_i x1, hs_i x2, hs_i x3, v4, hs_i x5, hs_i x6, v7] [hs_i s0] h := by
  unfold hb_214_105 at e
  refine hs_w 1 (pc' := 107) (ls' := [hs_r 12 0, hs_i x1, hs_i x2, hs_i x3, hs_i s0, hs_i x5, hs_i x6, v7]) (st' := []) (h' := h) (fun n w => w) ?_
  exact hw_214_107 hd hk7 hk19 e q
def hb_214_89  (k7 : Int32 × Int32 × Int32 × Int32 × Int32 × hs_H → Option (Int32 × hs_H)) (k19 : Int32 × Int32 × Int32 × Int32 × Int32 × Int32 × hs_H → Option (Int32 × hs_H)) (x1 : Int32) (x2 : Int32) (x3 : Int32) (x4 : Int32) (x5 : Int32) (x6 : Int32) (s0 : Int32) (h : hs_H) : Option (Int32 × hs_H) := if x4 ≤ s0 then (hb_214_105 k7 k19 x1 x2 x3 x5 x6 x4 h) else (hb_214_105 k7 k19 x1 x2 x3 x5 x6 s0 h)
set_option maxHeartbeats 1000000 in
theorem hw_214_89 {S : hs_S} {d : Nat} {Q : hs_Q} (hd : 1 ≤ d)  {k7 : Int32 × Int32 × Int32 × Int32 × Int32 × hs_H → Option (Int32 × hs_H)} {k19 : Int32 × Int32 × Int32 × Int32 × Int32 × Int32 × hs_H → Option (Int32 × hs_H)} (hk7 : ∀ (x1 : Int32) (x2 : Int32) (x3 : Int32) (x4 : Int32) (x5 : Int32) (h : hs_H) (r : Int32 × hs_H) (v6 : hs_V) (v7 : hs_V), k7 (x1, x2, x3, x4, x5, h) = some r → Q (some (hs_i r.1)) r.2 → hs_W S d 1 hs_p214 Q 7 [hs_r 12 0, hs_i x1, hs_i x2, hs_i x3, hs_i x4, hs_i x5, v6, v7] [] h) (hk19 : ∀ (x1 : Int32) (x2 : Int32) (x3 : Int32) (x4 : Int32) (x5 : Int32) (x6 : Int32) (h : hs_H) (r : Int32 × hs_H) (v7 : hs_V), k19 (x1, x2, x3, x4, x5, x6, h) = some r → Q (some (hs_i r.1)) r.2 → hs_W S d 1 hs_p214 Q 19 [hs_r 12 0, hs_i x1, hs_i x2, hs_i x3, hs_i x4, hs_i x5, hs_i x6, v7] [] h) {x1 : Int32} {x2 : Int32} {x3 : Int32} {x4 : Int32} {x5 : Int32} {x6 : Int32} {s0 : Int32} {v7 : hs_V} {h : hs_H} {r : Int32 × hs_H} (e : hb_214_89 k7 k19 x1 x2 x3 x4 x5 x6 s0 h = some r) (q : Q (some (hs_i r.1)) r.2) : hs_W S d 1 hs_p214 Q 89 [hs_r 12 0, hs_i x1, hs_i x2, hs_i x3, hs_i x4, hs_i x5, hs_i x6, v7] [hs_i s0] h := by
  unfold hb_214_89 at e
  refine hs_wb 4 (c := x4 ≤ s0) (t := 103) (f := 98) (ls' := [hs_r 12 0, hs_i x1, hs_i x2, hs_i x3, hs_i x4, hs_i x5, hs_i x6, hs_i s0]) (st' := []) (h' := h) (fun n w => w) (fun b6 => ?_) (fun b6 => ?_)
  · rw [if_pos b6] at e
    refine hs_w 1 (pc' := 105) (ls' := [hs_r 12 0, hs_i x1, hs_i x2, hs_i x3, hs_i x4, hs_i x5, hs_i x6, hs_i s0]) (st' := [hs_i x4]) (h' := h) (fun n w => w) ?_
    exact hw_214_105 hd hk7 hk19 e q
  · rw [if_neg b6] at e
    refine hs_w 2 (pc' := 105) (ls' := [hs_r 12 0, hs_i x1, hs_i x2, hs_i x3, hs_i x4, hs_i x5, hs_i x6, hs_i s0]) (st' := [hs_i s0]) (h' := h) (fun n w => w) ?_
    exact hw_214_105 hd hk7 hk19 e q
def hb_214_72  (k7 : Int32 × Int32 × Int32 × Int32 × Int32 × hs_H → Option (Int32 × hs_H)) (k19 : Int32 × Int32 × Int32 × Int32 × Int32 × Int32 × hs_H → Option (Int32 × hs_H)) (x1 : Int32) (x2 : Int32) (x3 : Int32) (x4 : Int32) (x5 : Int32) (x6 : Int32)  (h : hs_H) : Option (Int32 × hs_H) := hb_214_89 k7 k19 x1 x2 x3 x4 x5 x6 (nI 0) h
set_option maxHeartbeats 1000000 in
theorem hw_214_72 {S : hs_S} {d : Nat} {Q : hs_Q} (hd : 1 ≤ d)  {k7 : Int32 × Int32 × Int32 × Int32 × Int32 × hs_H → Option (Int32 × hs_H)} {k19 : Int32 × Int32 × Int32 × Int32 × Int32 × Int32 × hs_H → Option (Int32 × hs_H)} (hk7 : ∀ (x1 : Int32) (x2 : Int32) (x3 : Int32) (x4 : Int32) (x5 : Int32) (h : hs_H) (r : Int32 × hs_H) (v6 : hs_V) (v7 : hs_V), k7 (x1, x2, x3, x4, x5, h) = some r → Q (some (hs_i r.1)) r.2 → hs_W S d 1 hs_p214 Q 7 [hs_r 12 0, hs_i x1, hs_i x2, hs_i x3, hs_i x4, hs_i x5, v6, v7] [] h) (hk19 : ∀ (x1 : Int32) (x2 : Int32) (x3 : Int32) (x4 : Int32) (x5 : Int32) (x6 : Int32) (h : hs_H) (r : Int32 × hs_H) (v7 : hs_V), k19 (x1, x2, x3, x4, x5, x6, h) = some r → Q (some (hs_i r.1)) r.2 → hs_W S d 1 hs_p214 Q 19 [hs_r 12 0, hs_i x1, hs_i x2, hs_i x3, hs_i x4, hs_i x5, hs_i x6, v7] [] h) {x1 : Int32} {x2 : Int32} {x3 : Int32} {x4 : Int32} {x5 : Int32} {x6 : Int32}  {v7 : hs_V} {h : hs_H} {r : Int32 × hs_H} (e : hb_214_72 k7 k19 x1 x2 x3 x4 x5 x6 h = some r) (q : Q (some (hs_i r.1)) r.2) : hs_W S d 1 hs_p214 Q 72 [hs_r 12 0, hs_i x1, hs_i x2, hs_i x3, hs_i x4, hs_i x5, hs_i x6, v7] [] h := by
  unfold hb_214_72 at e
  refine hs_w 2 (pc' := 89) (ls' := [hs_r 12 0, hs_i x1, hs_i x2, hs_i x3, hs_i x4, hs_i x5, hs_i x6, v7]) (st' := [hs_i (nI 0)]) (h' := h) (fun n w => w) ?_
  exact hw_214_89 hd hk7 hk19 e q
def hb_214_60  (k7 : Int32 × Int32 × Int32 × Int32 × Int32 × hs_H → Option (Int32 × hs_H)) (k19 : Int32 × Int32 × Int32 × Int32 × Int32 × Int32 × hs_H → Option (Int32 × hs_H)) (x1 : Int32) (x2 : Int32) (x3 : Int32) (x4 : Int32) (x5 : Int32) (x6 : Int32)  (h : hs_H) : Option (Int32 × hs_H) := if x5 = x1 then (hb_214_72 k7 k19 x1 x2 x3 x4 x5 x6 h) else (if ¬ x6 = x1 then ((hf_213 x1 x5 x6 h).bind (fun q8 => hs_ck (hs_inb q8.1 1000) (hb_214_89 k7 k19 x1 x2 x3 x4 x5 x6 (q8.2.1 59 0 q8.1.toNatClampNeg) q8.2))) else (hb_214_72 k7 k19 x1 x2 x3 x4 x5 x6 h))
set_option maxHeartbeats 1000000 in
theorem hw_214_60 {S : hs_S} {d : Nat} {Q : hs_Q} (hd : 1 ≤ d)  {k7 : Int32 × Int32 × Int32 × Int32 × Int32 × hs_H → Option (Int32 × hs_H)} {k19 : Int32 × Int32 × Int32 × Int32 × Int32 × Int32 × hs_H → Option (Int32 × hs_H)} (hk7 : ∀ (x1 : Int32) (x2 : Int32) (x3 : Int32) (x4 : Int32) (x5 : Int32) (h : hs_H) (r : Int32 × hs_H) (v6 : hs_V) (v7 : hs_V), k7 (x1, x2, x3, x4, x5, h) = some r → Q (some (hs_i r.1)) r.2 → hs_W S d 1 hs_p214 Q 7 [hs_r 12 0, hs_i x1, hs_i x2, hs_i x3, hs_i x4, hs_i x5, v6, v7] [] h) (hk19 : ∀ (x1 : Int32) (x2 : Int32) (x3 : Int32) (x4 : Int32) (x5 : Int32) (x6 : Int32) (h : hs_H) (r : Int32 × hs_H) (v7 : hs_V), k19 (x1, x2, x3, x4, x5, x6, h) = some r → Q (some (hs_i r.1)) r.2 → hs_W S d 1 hs_p214 Q 19 [hs_r 12 0, hs_i x1, hs_i x2, hs_i x3, hs_i x4, hs_i x5, hs_i x6, v7] [] h) {x1 : Int32} {x2 : Int32} {x3 : Int32} {x4 : Int32} {x5 : Int32} {x6 : Int32}  {v7 : hs_V} {h : hs_H} {r : Int32 × hs_H} (e : hb_214_60 k7 k19 x1 x2 x3 x4 x5 x6 h = some r) (q : Q (some (hs_i r.1)) r.2) : hs_W S d 1 hs_p214 Q 60 [hs_r 12 0, hs_i x1, hs_i x2, hs_i x3, hs_i x4, hs_i x5, hs_i x6, v7] [] h := by
  unfold hb_214_60 at e
  refine hs_wb 3 (c := x5 = x1) (t := 72) (f := 66) (ls' := [hs_r 12 0, hs_i x1, hs_i x2, hs_i x3, hs_i x4, hs_i x5, hs_i x6, v7]) (st' := []) (h' := h) (fun n w => w) (fun b5 => ?_) (fun b5 => ?_)
  · rw [if_pos b5] at e
    exact hw_214_72 hd hk7 hk19 e q
  · rw [if_neg b5] at e
    refine hs_wb 3 (c := ¬ x6 = x1) (t := 76) (f := 72) (ls' := [hs_r 12 0, hs_i x1, hs_i x2, hs_i x3, hs_i x4, hs_i x5, hs_i x6, v7]) (st' := []) (h' := h) (fun n w => w) (fun b7 => ?_) (fun b7 => ?_)
    · rw [if_pos b7] at e
      obtain ⟨q8, eq8, e⟩ := hs_bind_some e
      try dsimp only at e
      refine hs_wc 6 (y := 213) (a := [hs_i x1, hs_i x5, hs_i x6]) (v := some (hs_i q8.1)) (pc' := 88) (ls' := [hs_r 12 0, hs_i x1, hs_i x2, hs_i x3, hs_i x4, hs_i x5, hs_i x6, v7]) (st' := [hs_r 59 0]) (h' := h) (h2 := q8.2) (fun n w => w) (fun q => hc_213 (by omega) eq8 q) ?_
      obtain ⟨c9, e⟩ := hs_ck_some e
      refine hs_wa 1 (c := vp_in q8.1 1000) (pc' := 89) (ls' := [hs_r 12 0, hs_i x1, hs_i x2, hs_i x3, hs_i x4, hs_i x5, hs_i x6, v7]) (st' := [hs_i (q8.2.1 59 0 q8.1.toNatClampNeg)]) (h' := q8.2) (fun n w => w) (hs_inb_iff.mp c9) ?_
      exact hw_214_89 hd hk7 hk19 e q
    · rw [if_neg b7] at e
      exact hw_214_72 hd hk7 hk19 e q
def hb_214_44  (k7 : Int32 × Int32 × Int32 × Int32 × Int32 × hs_H → Option (Int32 × hs_H)) (k19 : Int32 × Int32 × Int32 × Int32 × Int32 × Int32 × hs_H → Option (Int32 × hs_H)) (x1 : Int32) (x2 : Int32) (x3 : Int32) (x4 : Int32) (x5 : Int32) (x6 : Int32)  (h : hs_H) : Option (Int32 × hs_H) := if x6 = x3 then (hb_214_60 k7 k19 x1 x2 x3 x4 x5 x6 h) else ((hf_172 x3 x6 h).bind (fun q10 => if q10.1 = 0 then (hb_214_107 k7 k19 x1 x2 x3 x4 x5 x6 q10.2) else (hb_214_60 k7 k19 x1 x2 x3 x4 x5 x6 q10.2)))
set_option maxHeartbeats 1000000 in
theorem hw_214_44 {S : hs_S} {d : Nat} {Q : hs_Q} (hd : 1 ≤ d)  {k7 : Int32 × Int32 × Int32 × Int32 × Int32 × hs_H → Option (Int32 × hs_H)} {k19 : Int32 × Int32 × Int32 × Int32 × Int32 × Int32 × hs_H → Option (Int32 × hs_H)} (hk7 : ∀ (x1 : Int32) (x2 : Int32) (x3 : Int32) (x4 : Int32) (x5 : Int32) (h : hs_H) (r : Int32 × hs_H) (v6 : hs_V) (v7 : hs_V), k7 (x1, x2, x3, x4, x5, h) = some r → Q (some (hs_i r.1)) r.2 → hs_W S d 1 hs_p214 Q 7 [hs_r 12 0, hs_i x1, hs_i x2, hs_i x3, hs_i x4, hs_i x5, v6, v7] [] h) (hk19 : ∀ (x1 : Int32) (x2 : Int32) (x3 : Int32) (x4 : Int32) (x5 : Int32) (x6 : Int32) (h : hs_H) (r : Int32 × hs_H) (v7 : hs_V), k19 (x1, x2, x3, x4, x5, x6, h) = some r → Q (some (hs_i r.1)) r.2 → hs_W S d 1 hs_p214 Q 19 [hs_r 12 0, hs_i x1, hs_i x2, hs_i x3, hs_i x4, hs_i x5, hs_i x6, v7] [] h) {x1 : Int32} {x2 : Int32} {x3 : Int32} {x4 : Int32} {x5 : Int32} {x6 : Int32}  {v7 : hs_V} {h : hs_H} {r : Int32 × hs_H} (e : hb_214_44 k7 k19 x1 x2 x3 x4 x5 x6 h = some r) (q : Q (some (hs_i r.1)) r.2) : hs_W S d 1 hs_p214 Q 44 [hs_r 12 0, hs_i x1, hs_i x2, hs_i x3, hs_i x4, hs_i x5, hs_i x6, v7] [] h := by
  unfold hb_214_44 at e
  refine hs_wb 3 (c := x6 = x3) (t := 60) (f := 50) (ls' := [hs_r 12 0, hs_i x1, hs_i x2, hs_i x3, hs_i x4, hs_i x5, hs_i x6, v7]) (st' := []) (h' := h) (fun n w => w) (fun b4 => ?_) (fun b4 => ?_)
  · rw [if_pos b4] at e
    exact hw_214_60 hd hk7 hk19 e q
  · rw [if_neg b4] at e
    obtain ⟨q10, eq10, e⟩ := hs_bind_some e
    try dsimp only at e
    refine hs_wc 4 (y := 172) (a := [hs_r 12 0, hs_i x3, hs_i x6]) (v := some (hs_i q10.1)) (pc' := 57) (ls' := [hs_r 12 0, hs_i x1, hs_i x2, hs_i x3, hs_i x4, hs_i x5, hs_i x6, v7]) (st' := []) (h' := h) (h2 := q10.2) (fun n w => w) (fun q => hc_172 (by omega) eq10 q) ?_
    refine hs_wb 1 (c := q10.1 = 0) (t := 107) (f := 60) (ls' := [hs_r 12 0, hs_i x1, hs_i x2, hs_i x3, hs_i x4, hs_i x5, hs_i x6, v7]) (st' := []) (h' := q10.2) (fun n w => w) (fun b11 => ?_) (fun b11 => ?_)
    · rw [if_pos b11] at e
      exact hw_214_107 hd hk7 hk19 e q
    · rw [if_neg b11] at e
      exact hw_214_60 hd hk7 hk19 e q
def hb_214_19  (k7 : Int32 × Int32 × Int32 × Int32 × Int32 × hs_H → Option (Int32 × hs_H)) (k19 : Int32 × Int32 × Int32 × Int32 × Int32 × Int32 × hs_H → Option (Int32 × hs_H)) (x1 : Int32) (x2 : Int32) (x3 : Int32) (x4 : Int32) (x5 : Int32) (x6 : Int32)  (h : hs_H) : Option (Int32 × hs_H) := if (h.1 12 0 2) ≤ x6 then (k7 (x1, x2, x3, x4, x5 + nI 1, h)) else (if x5 = x2 then (hb_214_44 k7 k19 x1 x2 x3 x4 x5 x6 h) else ((hf_172 x2 x5 h).bind (fun q12 => if q12.1 = 0 then (hb_214_107 k7 k19 x1 x2 x3 x4 x5 x6 q12.2) else (hb_214_44 k7 k19 x1 x2 x3 x4 x5 x6 q12.2))))
set_option maxHeartbeats 1000000 in
theorem hw_214_19 {S : hs_S} {d : Nat} {Q : hs_Q} (hd : 1 ≤ d)  {k7 : Int32 × Int32 × Int32 × Int32 × Int32 × hs_H → Option (Int32 × hs_H)} {k19 : Int32 × Int32 × Int32 × Int32 × Int32 × Int32 × hs_H → Option (Int32 × hs_H)} (hk7 : ∀ (x1 : Int32) (x2 : Int32) (x3 : Int32) (x4 : Int32) (x5 : Int32) (h : hs_H) (r : Int32 × hs_H) (v6 : hs_V) (v7 : hs_V), k7 (x1, x2, x3, x4, x5, h) = some r → Q (some (hs_i r.1)) r.2 → hs_W S d 1 hs_p214 Q 7 [hs_r 12 0, hs_i x1, hs_i x2, hs_i x3, hs_i x4, hs_i x5, v6, v7] [] h) (hk19 : ∀ (x1 : Int32) (x2 : Int32) (x3 : Int32) (x4 : Int32) (x5 : Int32) (x6 : Int32) (h : hs_H) (r : Int32 × hs_H) (v7 : hs_V), k19 (x1, x2, x3, x4, x5, x6, h) = some r → Q (some (hs_i r.1)) r.2 → hs_W S d 1 hs_p214 Q 19 [hs_r 12 0, hs_i x1, hs_i x2, hs_i x3, hs_i x4, hs_i x5, hs_i x6, v7] [] h) {x1 : Int32} {x2 : Int32} {x3 : Int32} {x4 : Int32} {x5 : Int32} {x6 : Int32}  {v7 : hs_V} {h : hs_H} {r : Int32 × hs_H} (e : hb_214_19 k7 k19 x1 x2 x3 x4 x5 x6 h = some r) (q : Q (some (hs_i r.1)) r.2) : hs_W S d 1 hs_p214 Q 19 [hs_r 12 0, hs_i x1, hs_i x2, hs_i x3, hs_i x4, hs_i x5, hs_i x6, v7] [] h := by
  unfold hb_214_19 at e
  refine hs_wb 4 (c := (h.1 12 0 2) ≤ x6) (t := 113) (f := 28) (ls' := [hs_r 12 0, hs_i x1, hs_i x2, hs_i x3, hs_i x4, hs_i x5, hs_i x6, v7]) (st' := []) (h' := h) (fun n w => w) (fun b2 => ?_) (fun b2 => ?_)
  · rw [if_pos b2] at e
    refine hs_w 2 (pc' := 7) (ls' := [hs_r 12 0, hs_i x1, hs_i x2, hs_i x3, hs_i x4, hs_i (x5 + nI 1), hs_i x6, v7]) (st' := []) (h' := h) (fun n w => w) ?_
    exact hk7 _ _ _ _ _ _ _ _ _ e q
  · rw [if_neg b2] at e
    refine hs_wb 3 (c := x5 = x2) (t := 44) (f := 34) (ls' := [hs_r 12 0, hs_i x1, hs_i x2, hs_i x3, hs_i x4, hs_i x5, hs_i x6, v7]) (st' := []) (h' := h) (fun n w => w) (fun b3 => ?_) (fun b3 => ?_)
    · rw [if_pos b3] at e
      exact hw_214_44 hd hk7 hk19 e q
    · rw [if_neg b3] at e
      obtain ⟨q12, eq12, e⟩ := hs_bind_some e
      try dsimp only at e
      refine hs_wc 4 (y := 172) (a := [hs_r 12 0, hs_i x2, hs_i x5]) (v := some (hs_i q12.1)) (pc' := 41) (ls' := [hs_r 12 0, hs_i x1, hs_i x2, hs_i x3, hs_i x4, hs_i x5, hs_i x6, v7]) (st' := []) (h' := h) (h2 := q12.2) (fun n w => w) (fun q => hc_172 (by omega) eq12 q) ?_
      refine hs_wb 1 (c := q12.1 = 0) (t := 107) (f := 44) (ls' := [hs_r 12 0, hs_i x1, hs_i x2, hs_i x3, hs_i x4, hs_i x5, hs_i x6, v7]) (st' := []) (h' := q12.2) (fun n w => w) (fun b13 => ?_) (fun b13 => ?_)
      · rw [if_pos b13] at e
        exact hw_214_107 hd hk7 hk19 e q
      · rw [if_neg b13] at e
        exact hw_214_44 hd hk7 hk19 e q
theorem hw_214_19_lp {S : hs_S} {d : Nat} {Q : hs_Q} (hd : 1 ≤ d)  {k7 : Int32 × Int32 × Int32 × Int32 × Int32 × hs_H → Option (Int32 × hs_H)} (hk7 : ∀ (x1 : Int32) (x2 : Int32) (x3 : Int32) (x4 : Int32) (x5 : Int32) (h : hs_H) (r : Int32 × hs_H) (v6 : hs_V) (v7 : hs_V), k7 (x1, x2, x3, x4, x5, h) = some r → Q (some (hs_i r.1)) r.2 → hs_W S d 1 hs_p214 Q 7 [hs_r 12 0, hs_i x1, hs_i x2, hs_i x3, hs_i x4, hs_i x5, v6, v7] [] h) (n : Nat) {x1 : Int32} {x2 : Int32} {x3 : Int32} {x4 : Int32} {x5 : Int32} {x6 : Int32} {h : hs_H} {r : Int32 × hs_H} (e : hs_lp (fun k s => hb_214_19 k7 k s.1 s.2.1 s.2.2.1 s.2.2.2.1 s.2.2.2.2.1 s.2.2.2.2.2.1 s.2.2.2.2.2.2) n (x1, x2, x3, x4, x5, x6, h) = some r) (v7 : hs_V) (q : Q (some (hs_i r.1)) r.2) : hs_W S d 1 hs_p214 Q 19 [hs_r 12 0, hs_i x1, hs_i x2, hs_i x3, hs_i x4, hs_i x5, hs_i x6, v7] [] h := by
  refine hs_lp_ind (P := fun (s : Int32 × Int32 × Int32 × Int32 × Int32 × Int32 × hs_H) (r : Int32 × hs_H) => ∀ (v7 : hs_V), Q (some (hs_i r.1)) r.2 → hs_W S d 1 hs_p214 Q 19 [hs_r 12 0, hs_i s.1, hs_i s.2.1, hs_i s.2.2.1, hs_i s.2.2.2.1, hs_i s.2.2.2.2.1, hs_i s.2.2.2.2.2.1, v7] [] s.2.2.2.2.2.2) (fun k hk s r e v7 q => ?_) n (x1, x2, x3, x4, x5, x6, h) r e v7 q
  exact hw_214_19 hd hk7 (fun x1 x2 x3 x4 x5 x6 h r v7 e q => hk (x1, x2, x3, x4, x5, x6, h) r e v7 q) e q
def hb_214_7  (k7 : Int32 × Int32 × Int32 × Int32 × Int32 × hs_H → Option (Int32 × hs_H)) (x1 : Int32) (x2 : Int32) (x3 : Int32) (x4 : Int32) (x5 : Int32)  (h : hs_H) : Option (Int32 × hs_H) := if (h.1 12 0 2) ≤ x5 then (some (x4, h)) else (hs_lp (fun k s => hb_214_19 k7 k s.1 s.2.1 s.2.2.1 s.2.2.2.1 s.2.2.2.2.1 s.2.2.2.2.2.1 s.2.2.2.2.2.2) hs_big (x1, x2, x3, x4, x5, nI 0, h))
set_option maxHeartbeats 1000000 in
theorem hw_214_7 {S : hs_S} {d : Nat} {Q : hs_Q} (hd : 1 ≤ d)  {k7 : Int32 × Int32 × Int32 × Int32 × Int32 × hs_H → Option (Int32 × hs_H)} (hk7 : ∀ (x1 : Int32) (x2 : Int32) (x3 : Int32) (x4 : Int32) (x5 : Int32) (h : hs_H) (r : Int32 × hs_H) (v6 : hs_V) (v7 : hs_V), k7 (x1, x2, x3, x4, x5, h) = some r → Q (some (hs_i r.1)) r.2 → hs_W S d 1 hs_p214 Q 7 [hs_r 12 0, hs_i x1, hs_i x2, hs_i x3, hs_i x4, hs_i x5, v6, v7] [] h) {x1 : Int32} {x2 : Int32} {x3 : Int32} {x4 : Int32} {x5 : Int32}  {v6 : hs_V} {v7 : hs_V} {h : hs_H} {r : Int32 × hs_H} (e : hb_214_7 k7 x1 x2 x3 x4 x5 h = some r) (q : Q (some (hs_i r.1)) r.2) : hs_W S d 1 hs_p214 Q 7 [hs_r 12 0, hs_i x1, hs_i x2, hs_i x3, hs_i x4, hs_i x5, v6, v7] [] h := by
  unfold hb_214_7 at e
  refine hs_wb 4 (c := (h.1 12 0 2) ≤ x5) (t := 119) (f := 16) (ls' := [hs_r 12 0, hs_i x1, hs_i x2, hs_i x3, hs_i x4, hs_i x5, v6, v7]) (st' := []) (h' := h) (fun n w => w) (fun b1 => ?_) (fun b1 => ?_)
  · rw [if_pos b1] at e
    obtain rfl := Option.some.inj e
    exact hs_wr 2 (v := some (hs_i x4)) (h' := h) (fun n w => w) q
  · rw [if_neg b1] at e
    refine hs_w 2 (pc' := 19) (ls' := [hs_r 12 0, hs_i x1, hs_i x2, hs_i x3, hs_i x4, hs_i x5, hs_i (nI 0), v7]) (st' := []) (h' := h) (fun n w => w) ?_
    exact hw_214_19_lp hd hk7 hs_big e _ q
theorem hw_214_7_lp {S : hs_S} {d : Nat} {Q : hs_Q} (hd : 1 ≤ d)    (n : Nat) {x1 : Int32} {x2 : Int32} {x3 : Int32} {x4 : Int32} {x5 : Int32} {h : hs_H} {r : Int32 × hs_H} (e : hs_lp (fun k s => hb_214_7 k s.1 s.2.1 s.2.2.1 s.2.2.2.1 s.2.2.2.2.1 s.2.2.2.2.2) n (x1, x2, x3, x4, x5, h) = some r) (v6 : hs_V) (v7 : hs_V) (q : Q (some (hs_i r.1)) r.2) : hs_W S d 1 hs_p214 Q 7 [hs_r 12 0, hs_i x1, hs_i x2, hs_i x3, hs_i x4, hs_i x5, v6, v7] [] h := by
  refine hs_lp_ind (P := fun (s : Int32 × Int32 × Int32 × Int32 × Int32 × hs_H) (r : Int32 × hs_H) => ∀ (v6 : hs_V) (v7 : hs_V), Q (some (hs_i r.1)) r.2 → hs_W S d 1 hs_p214 Q 7 [hs_r 12 0, hs_i s.1, hs_i s.2.1, hs_i s.2.2.1, hs_i s.2.2.2.1, hs_i s.2.2.2.2.1, v6, v7] [] s.2.2.2.2.2) (fun k hk s r e v6 v7 q => ?_) n (x1, x2, x3, x4, x5, h) r e v6 v7 q
  exact hw_214_7 hd (fun x1 x2 x3 x4 x5 h r v6 v7 e q => hk (x1, x2, x3, x4, x5, h) r e v6 v7 q) e q
/-- HuntedScentModel.huntedBy(III)I -/
def hf_214 (a1 : Int32) (a2 : Int32) (a3 : Int32) (h : hs_H) : Option (Int32 × hs_H) := hs_lp (fun k s => hb_214_7 k s.1 s.2.1 s.2.2.1 s.2.2.2.1 s.2.2.2.2.1 s.2.2.2.2.2) hs_big (a1, a2, a3, nI 99999, nI 0, h)
set_option maxHeartbeats 1000000 in
theorem hc_214 {S : hs_S} {D : Nat} {Q : hs_Q} (hD : 2 ≤ D) {a1 : Int32} {a2 : Int32} {a3 : Int32} {h : hs_H} {r : Int32 × hs_H} (e : hf_214 a1 a2 a3 h = some r) (q : Q (some (hs_i r.1)) r.2) : hs_call hs_ms S D 214 [hs_r 12 0, hs_i a1, hs_i a2, hs_i a3] h Q := by
  refine hs_go (R := 1) hD rfl (Nat.le_of_ble_eq_true rfl) (fun d hd => ?_)
  show hs_W S d 1 hs_p214 Q 0 [hs_r 12 0, hs_i a1, hs_i a2, hs_i a3, hs_u, hs_u, hs_u, hs_u] [] h
  unfold hf_214 at e
  refine hs_w 4 (pc' := 7) (ls' := [hs_r 12 0, hs_i a1, hs_i a2, hs_i a3, hs_i (nI 99999), hs_i (nI 0), hs_u, hs_u]) (st' := []) (h' := h) (fun n w => w) ?_
  exact hw_214_7_lp hd hs_big e _ _ q
def hb_215_43    (s0 : Int32) (h : hs_H) : Option (Int32 × hs_H) := some (s0, h)
set_option maxHeartbeats 1000000 in
theorem hw_215_43 {S : hs_S} {d : Nat} {Q : hs_Q} (hd : 1 ≤ d)     {s0 : Int32} {v1 : hs_V} {v2 : hs_V} {v3 : hs_V} {v4 : hs_V} {h : hs_H} {r : Int32 × hs_H} (e : hb_215_43 s0 h = some r) (q : Q (some (hs_i r.1)) r.2) : hs_W S d 1 hs_p215 Q 43 [hs_r 12 0, v1, v2, v3, v4] [hs_i s0] h := by
  unfold hb_215_43 at e
  obtain rfl := Option.some.inj e
  exact hs_wr 1 (v := some (hs_i s0)) (h' := h) (fun n w => w) q
def hb_215_25    (s0 : Int32) (h : hs_H) : Option (Int32 × hs_H) := if ¬ s0 = (nI 99999) then (hb_215_43 (s0 + (nI 1)) h) else (hb_215_43 (nI 99999) h)
set_option maxHeartbeats 1000000 in
theorem hw_215_25 {S : hs_S} {d : Nat} {Q : hs_Q} (hd : 1 ≤ d)     {s0 : Int32} {v1 : hs_V} {v2 : hs_V} {v3 : hs_V} {v4 : hs_V} {h : hs_H} {r : Int32 × hs_H} (e : hb_215_25 s0 h = some r) (q : Q (some (hs_i r.1)) r.2) : hs_W S d 1 hs_p215 Q 25 [hs_r 12 0, v1, v2, v3, v4] [hs_i s0] h := by
  unfold hb_215_25 at e
  refine hs_wb 4 (c := ¬ s0 = (nI 99999)) (t := 39) (f := 34) (ls' := [hs_r 12 0, v1, v2, v3, hs_i s0]) (st' := []) (h' := h) (fun n w => w) (fun b2 => ?_) (fun b2 => ?_)
  · rw [if_pos b2] at e
    refine hs_w 3 (pc' := 43) (ls' := [hs_r 12 0, v1, v2, v3, hs_i s0]) (st' := [hs_i (s0 + (nI 1))]) (h' := h) (fun n w => w) ?_
    exact hw_215_43 hd e q
  · rw [if_neg b2] at e
    refine hs_w 2 (pc' := 43) (ls' := [hs_r 12 0, v1, v2, v3, hs_i s0]) (st' := [hs_i (nI 99999)]) (h' := h) (fun n w => w) ?_
    exact hw_215_43 hd e q
def hb_215_10     (h : hs_H) : Option (Int32 × hs_H) := hb_215_25 (nI 0) h
set_option maxHeartbeats 1000000 in
theorem hw_215_10 {S : hs_S} {d : Nat} {Q : hs_Q} (hd : 1 ≤ d)      {v1 : hs_V} {v2 : hs_V} {v3 : hs_V} {v4 : hs_V} {h : hs_H} {r : Int32 × hs_H} (e : hb_215_10 h = some r) (q : Q (some (hs_i r.1)) r.2) : hs_W S d 1 hs_p215 Q 10 [hs_r 12 0, v1, v2, v3, v4] [] h := by
  unfold hb_215_10 at e
  refine hs_w 2 (pc' := 25) (ls' := [hs_r 12 0, v1, v2, v3, v4]) (st' := [hs_i (nI 0)]) (h' := h) (fun n w => w) ?_
  exact hw_215_25 hd e q
/-- HuntedScentModel.byMove(III)I -/
def hf_215 (a1 : Int32) (a2 : Int32) (a3 : Int32) (h : hs_H) : Option (Int32 × hs_H) := if a1 = a2 then (hb_215_10 h) else (if ¬ a1 = a3 then ((hf_213 a1 a2 a3 h).bind (fun q4 => hs_ck (hs_inb q4.1 1000) (hb_215_25 (q4.2.1 60 0 q4.1.toNatClampNeg) q4.2))) else (hb_215_10 h))
set_option maxHeartbeats 1000000 in
theorem hc_215 {S : hs_S} {D : Nat} {Q : hs_Q} (hD : 2 ≤ D) {a1 : Int32} {a2 : Int32} {a3 : Int32} {h : hs_H} {r : Int32 × hs_H} (e : hf_215 a1 a2 a3 h = some r) (q : Q (some (hs_i r.1)) r.2) : hs_call hs_ms S D 215 [hs_r 12 0, hs_i a1, hs_i a2, hs_i a3] h Q := by
  refine hs_go (R := 1) hD rfl (Nat.le_of_ble_eq_true rfl) (fun d hd => ?_)
  show hs_W S d 1 hs_p215 Q 0 [hs_r 12 0, hs_i a1, hs_i a2, hs_i a3, hs_u] [] h
  unfold hf_215 at e
  refine hs_wb 3 (c := a1 = a2) (t := 10) (f := 5) (ls' := [hs_r 12 0, hs_i a1, hs_i a2, hs_i a3, hs_u]) (st' := []) (h' := h) (fun n w => w) (fun b1 => ?_) (fun b1 => ?_)
  · rw [if_pos b1] at e
    exact hw_215_10 hd e q
  · rw [if_neg b1] at e
    refine hs_wb 3 (c := ¬ a1 = a3) (t := 14) (f := 10) (ls' := [hs_r 12 0, hs_i a1, hs_i a2, hs_i a3, hs_u]) (st' := []) (h' := h) (fun n w => w) (fun b3 => ?_) (fun b3 => ?_)
    · rw [if_pos b3] at e
      obtain ⟨q4, eq4, e⟩ := hs_bind_some e
      try dsimp only at e
      refine hs_wc 6 (y := 213) (a := [hs_i a1, hs_i a2, hs_i a3]) (v := some (hs_i q4.1)) (pc' := 24) (ls' := [hs_r 12 0, hs_i a1, hs_i a2, hs_i a3, hs_u]) (st' := [hs_r 60 0]) (h' := h) (h2 := q4.2) (fun n w => w) (fun q => hc_213 (by omega) eq4 q) ?_
      obtain ⟨c5, e⟩ := hs_ck_some e
      refine hs_wa 1 (c := vp_in q4.1 1000) (pc' := 25) (ls' := [hs_r 12 0, hs_i a1, hs_i a2, hs_i a3, hs_u]) (st' := [hs_i (q4.2.1 60 0 q4.1.toNatClampNeg)]) (h' := q4.2) (fun n w => w) (hs_inb_iff.mp c5) ?_
      exact hw_215_25 hd e q
    · rw [if_neg b3] at e
      exact hw_215_10 hd e q
def hb_216_35    (s0 : Int32) (h : hs_H) : Option (Int32 × hs_H) := hs_ck (hs_b01 s0) (some (s0, h))
set_option maxHeartbeats 1000000 in
theorem hw_216_35 {S : hs_S} {d : Nat} {Q : hs_Q} (hd : 2 ≤ d)     {s0 : Int32} {v1 : hs_V} {v2 : hs_V} {h : hs_H} {r : Int32 × hs_H} (e : hb_216_35 s0 h = some r) (q : Q (some (hs_i r.1)) r.2) : hs_W S d 2 hs_p216 Q 35 [hs_r 12 0, v1, v2] [hs_i s0] h := by
  unfold hb_216_35 at e
  obtain ⟨c4, e⟩ := hs_ck_some e
  obtain rfl := Option.some.inj e
  exact hs_wra 1 (c := s0 = 0 ∨ s0 = 1) (v := some (hs_i s0)) (h' := h) (fun n w => w) (hs_b01_iff.mp c4) q
/-- HuntedScentModel.mayMove(II)Z -/
def hf_216 (a1 : Int32) (a2 : Int32) (h : hs_H) : Option (Int32 × hs_H) := hs_ck (hs_inb a1 162) (if ¬ ((h.1 44 0 a1.toNatClampNeg) ||| ((h.1 12 0 3) <<< (a1 &&& 31))) = 0 then ((hf_181 a1 a2 h).bind (fun q3 => hb_216_35 q3.1 q3.2)) else (if ¬ a2 = a1 then (hb_216_35 (nI 0) h) else (hb_216_35 (nI 1) h)))
set_option maxHeartbeats 1000000 in
theorem hc_216 {S : hs_S} {D : Nat} {Q : hs_Q} (hD : 3 ≤ D) {a1 : Int32} {a2 : Int32} {h : hs_H} {r : Int32 × hs_H} (e : hf_216 a1 a2 h = some r) (q : Q (some (hs_i r.1)) r.2) : hs_call hs_ms S D 216 [hs_r 12 0, hs_i a1, hs_i a2] h Q := by
  refine hs_go (R := 2) hD rfl (Nat.le_of_ble_eq_true rfl) (fun d hd => ?_)
  show hs_W S d 2 hs_p216 Q 0 [hs_r 12 0, hs_i a1, hs_i a2] [] h
  unfold hf_216 at e
  obtain ⟨c1, e⟩ := hs_ck_some e
  refine hs_wa 4 (c := vp_in a1 162) (pc' := 6) (ls' := [hs_r 12 0, hs_i a1, hs_i a2]) (st' := [hs_i (h.1 44 0 a1.toNatClampNeg)]) (h' := h) (fun n w => w) (hs_inb_iff.mp c1) ?_
  refine hs_wb 6 (c := ¬ ((h.1 44 0 a1.toNatClampNeg) ||| ((h.1 12 0 3) <<< (a1 &&& 31))) = 0) (t := 29) (f := 16) (ls' := [hs_r 12 0, hs_i a1, hs_i a2]) (st' := []) (h' := h) (fun n w => w) (fun b2 => ?_) (fun b2 => ?_)
  · rw [if_pos b2] at e
    obtain ⟨q3, eq3, e⟩ := hs_bind_some e
    try dsimp only at e
    refine hs_wc 4 (y := 181) (a := [hs_r 12 0, hs_i a1, hs_i a2]) (v := some (hs_i q3.1)) (pc' := 35) (ls' := [hs_r 12 0, hs_i a1, hs_i a2]) (st' := []) (h' := h) (h2 := q3.2) (fun n w => w) (fun q => hc_181 (by omega) eq3 q) ?_
    exact hw_216_35 hd e q
  · rw [if_neg b2] at e
    refine hs_wb 3 (c := ¬ a2 = a1) (t := 25) (f := 21) (ls' := [hs_r 12 0, hs_i a1, hs_i a2]) (st' := []) (h' := h) (fun n w => w) (fun b5 => ?_) (fun b5 => ?_)
    · rw [if_pos b5] at e
      refine hs_w 2 (pc' := 35) (ls' := [hs_r 12 0, hs_i a1, hs_i a2]) (st' := [hs_i (nI 0)]) (h' := h) (fun n w => w) ?_
      exact hw_216_35 hd e q
    · rw [if_neg b5] at e
      refine hs_w 2 (pc' := 35) (ls' := [hs_r 12 0, hs_i a1, hs_i a2]) (st' := [hs_i (nI 1)]) (h' := h) (fun n w => w) ?_
      exact hw_216_35 hd e q
def hb_217_51  (k6 : Int32 × Int32 × Int32 × Int32 × Int32 × hs_H → Option (Int32 × hs_H)) (x1 : Int32) (x2 : Int32) (x3 : Int32) (x4 : Int32) (x5 : Int32)  (h : hs_H) : Option (Int32 × hs_H) := k6 (x1, x2, x3, x4, x5 + nI 1, h)
set_option maxHeartbeats 1000000 in
theorem hw_217_51 {S : hs_S} {d : Nat} {Q : hs_Q} (hd : 3 ≤ d)  {k6 : Int32 × Int32 × Int32 × Int32 × Int32 × hs_H → Option (Int32 × hs_H)} (hk6 : ∀ (x1 : Int32) (x2 : Int32) (x3 : Int32) (x4 : Int32) (x5 : Int32) (h : hs_H) (r : Int32 × hs_H) (v6 : hs_V), k6 (x1, x2, x3, x4, x5, h) = some r → Q (some (hs_i r.1)) r.2 → hs_W S d 1 hs_p217 Q 6 [hs_r 12 0, hs_i x1, hs_i x2, hs_i x3, hs_i x4, hs_i x5, v6] [] h) {x1 : Int32} {x2 : Int32} {x3 : Int32} {x4 : Int32} {x5 : Int32}  {v6 : hs_V} {h : hs_H} {r : Int32 × hs_H} (e : hb_217_51 k6 x1 x2 x3 x4 x5 h = some r) (q : Q (some (hs_i r.1)) r.2) : hs_W S d 1 hs_p217 Q 51 [hs_r 12 0, hs_i x1, hs_i x2, hs_i x3, hs_i x4, hs_i x5, v6] [] h := by
  unfold hb_217_51 at e
  refine hs_w 2 (pc' := 6) (ls' := [hs_r 12 0, hs_i x1, hs_i x2, hs_i x3, hs_i x4, hs_i (x5 + nI 1), v6]) (st' := []) (h' := h) (fun n w => w) ?_
  exact hk6 _ _ _ _ _ _ _ _ e q
def hb_217_49  (k6 : Int32 × Int32 × Int32 × Int32 × Int32 × hs_H → Option (Int32 × hs_H)) (x1 : Int32) (x2 : Int32) (x3 : Int32) (x5 : Int32) (s0 : Int32) (h : hs_H) : Option (Int32 × hs_H) := hb_217_51 k6 x1 x2 x3 s0 x5 h
set_option maxHeartbeats 1000000 in
theorem hw_217_49 {S : hs_S} {d : Nat} {Q : hs_Q} (hd : 3 ≤ d)  {k6 : Int32 × Int32 × Int32 × Int32 × Int32 × hs_H → Option (Int32 × hs_H)} (hk6 : ∀ (x1 : Int32) (x2 : Int32) (x3 : Int32) (x4 : Int32) (x5 : Int32) (h : hs_H) (r : Int32 × hs_H) (v6 : hs_V), k6 (x1, x2, x3, x4, x5, h) = some r → Q (some (hs_i r.1)) r.2 → hs_W S d 1 hs_p217 Q 6 [hs_r 12 0, hs_i x1, hs_i x2, hs_i x3, hs_i x4, hs_i x5, v6] [] h) {x1 : Int32} {x2 : Int32} {x3 : Int32} {x5 : Int32} {s0 : Int32} {v4 : hs_V} {v6 : hs_V} {h : hs_H} {r : Int32 × hs_H} (e : hb_217_49 k6 x1 x2 x3 x5 s0 h = some r) (q : Q (some (hs_i r.1)) r.2) : hs_W S d 1 hs_p217 Q 49 [hs_r 12 0, hs_i x1, hs_i x2, hs_i x3, v4, hs_i x5, v6] [hs_i s0] h := by
  unfold hb_217_49 at e
  refine hs_w 1 (pc' := 51) (ls' := [hs_r 12 0, hs_i x1, hs_i x2, hs_i x3, hs_i s0, hs_i x5, v6]) (st' := []) (h' := h) (fun n w => w) ?_
  exact hw_217_51 hd hk6 e q
def hb_217_6  (k6 : Int32 × Int32 × Int32 × Int32 × Int32 × hs_H → Option (Int32 × hs_H)) (x1 : Int32) (x2 : Int32) (x3 : Int32) (x4 : Int32) (x5 : Int32)  (h : hs_H) : Option (Int32 × hs_H) := if (h.1 12 0 2) ≤ x5 then (some (x4, h)) else ((hf_216 x1 x5 h).bind (fun q2 => if q2.1 = 0 then (hb_217_51 k6 x1 x2 x3 x4 x5 q2.2) else ((hf_215 x5 x2 x3 q2.2).bind (fun q4 => if q4.1 ≤ x4 then (hb_217_49 k6 x1 x2 x3 x5 x4 q4.2) else (hb_217_49 k6 x1 x2 x3 x5 q4.1 q4.2)))))
set_option maxHeartbeats 1000000 in
theorem hw_217_6 {S : hs_S} {d : Nat} {Q : hs_Q} (hd : 3 ≤ d)  {k6 : Int32 × Int32 × Int32 × Int32 × Int32 × hs_H → Option (Int32 × hs_H)} (hk6 : ∀ (x1 : Int32) (x2 : Int32) (x3 : Int32) (x4 : Int32) (x5 : Int32) (h : hs_H) (r : Int32 × hs_H) (v6 : hs_V), k6 (x1, x2, x3, x4, x5, h) = some r → Q (some (hs_i r.1)) r.2 → hs_W S d 1 hs_p217 Q 6 [hs_r 12 0, hs_i x1, hs_i x2, hs_i x3, hs_i x4, hs_i x5, v6] [] h) {x1 : Int32} {x2 : Int32} {x3 : Int32} {x4 : Int32} {x5 : Int32}  {v6 : hs_V} {h : hs_H} {r : Int32 × hs_H} (e : hb_217_6 k6 x1 x2 x3 x4 x5 h = some r) (q : Q (some (hs_i r.1)) r.2) : hs_W S d 1 hs_p217 Q 6 [hs_r 12 0, hs_i x1, hs_i x2, hs_i x3, hs_i x4, hs_i x5, v6] [] h := by
  unfold hb_217_6 at e
  refine hs_wb 4 (c := (h.1 12 0 2) ≤ x5) (t := 57) (f := 15) (ls' := [hs_r 12 0, hs_i x1, hs_i x2, hs_i x3, hs_i x4, hs_i x5, v6]) (st' := []) (h' := h) (fun n w => w) (fun b1 => ?_) (fun b1 => ?_)
  · rw [if_pos b1] at e
    obtain rfl := Option.some.inj e
    exact hs_wr 2 (v := some (hs_i x4)) (h' := h) (fun n w => w) q
  · rw [if_neg b1] at e
    obtain ⟨q2, eq2, e⟩ := hs_bind_some e
    try dsimp only at e
    refine hs_wc 4 (y := 216) (a := [hs_r 12 0, hs_i x1, hs_i x5]) (v := some (hs_i q2.1)) (pc' := 22) (ls' := [hs_r 12 0, hs_i x1, hs_i x2, hs_i x3, hs_i x4, hs_i x5, v6]) (st' := []) (h' := h) (h2 := q2.2) (fun n w => w) (fun q => hc_216 (by omega) eq2 q) ?_
    refine hs_wb 1 (c := q2.1 = 0) (t := 51) (f := 25) (ls' := [hs_r 12 0, hs_i x1, hs_i x2, hs_i x3, hs_i x4, hs_i x5, v6]) (st' := []) (h' := q2.2) (fun n w => w) (fun b3 => ?_) (fun b3 => ?_)
    · rw [if_pos b3] at e
      exact hw_217_51 hd hk6 e q
    · rw [if_neg b3] at e
      obtain ⟨q4, eq4, e⟩ := hs_bind_some e
      try dsimp only at e
      refine hs_wc 5 (y := 215) (a := [hs_r 12 0, hs_i x5, hs_i x2, hs_i x3]) (v := some (hs_i q4.1)) (pc' := 33) (ls' := [hs_r 12 0, hs_i x1, hs_i x2, hs_i x3, hs_i x4, hs_i x5, v6]) (st' := []) (h' := q2.2) (h2 := q4.2) (fun n w => w) (fun q => hc_215 (by omega) eq4 q) ?_
      refine hs_wb 4 (c := q4.1 ≤ x4) (t := 47) (f := 42) (ls' := [hs_r 12 0, hs_i x1, hs_i x2, hs_i x3, hs_i x4, hs_i x5, hs_i q4.1]) (st' := []) (h' := q4.2) (fun n w => w) (fun b5 => ?_) (fun b5 => ?_)
      · rw [if_pos b5] at e
        refine hs_w 1 (pc' := 49) (ls' := [hs_r 12 0, hs_i x1, hs_i x2, hs_i x3, hs_i x4, hs_i x5, hs_i q4.1]) (st' := [hs_i x4]) (h' := q4.2) (fun n w => w) ?_
        exact hw_217_49 hd hk6 e q
      · rw [if_neg b5] at e
        refine hs_w 2 (pc' := 49) (ls' := [hs_r 12 0, hs_i x1, hs_i x2, hs_i x3, hs_i x4, hs_i x5, hs_i q4.1]) (st' := [hs_i q4.1]) (h' := q4.2) (fun n w => w) ?_
        exact hw_217_49 hd hk6 e q
theorem hw_217_6_lp {S : hs_S} {d : Nat} {Q : hs_Q} (hd : 3 ≤ d)    (n : Nat) {x1 : Int32} {x2 : Int32} {x3 : Int32} {x4 : Int32} {x5 : Int32} {h : hs_H} {r : Int32 × hs_H} (e : hs_lp (fun k s => hb_217_6 k s.1 s.2.1 s.2.2.1 s.2.2.2.1 s.2.2.2.2.1 s.2.2.2.2.2) n (x1, x2, x3, x4, x5, h) = some r) (v6 : hs_V) (q : Q (some (hs_i r.1)) r.2) : hs_W S d 1 hs_p217 Q 6 [hs_r 12 0, hs_i x1, hs_i x2, hs_i x3, hs_i x4, hs_i x5, v6] [] h := by
  refine hs_lp_ind (P := fun (s : Int32 × Int32 × Int32 × Int32 × Int32 × hs_H) (r : Int32 × hs_H) => ∀ (v6 : hs_V), Q (some (hs_i r.1)) r.2 → hs_W S d 1 hs_p217 Q 6 [hs_r 12 0, hs_i s.1, hs_i s.2.1, hs_i s.2.2.1, hs_i s.2.2.2.1, hs_i s.2.2.2.2.1, v6] [] s.2.2.2.2.2) (fun k hk s r e v6 q => ?_) n (x1, x2, x3, x4, x5, h) r e v6 q
  exact hw_217_6 hd (fun x1 x2 x3 x4 x5 h r v6 e q => hk (x1, x2, x3, x4, x5, h) r e v6 q) e q
/-- HuntedScentModel.mostBy(III)I -/
def hf_217 (a1 : Int32) (a2 : Int32) (a3 : Int32) (h : hs_H) : Option (Int32 × hs_H) := hs_lp (fun k s => hb_217_6 k s.1 s.2.1 s.2.2.1 s.2.2.2.1 s.2.2.2.2.1 s.2.2.2.2.2) hs_big (a1, a2, a3, nI 0, nI 0, h)
set_option maxHeartbeats 1000000 in
theorem hc_217 {S : hs_S} {D : Nat} {Q : hs_Q} (hD : 4 ≤ D) {a1 : Int32} {a2 : Int32} {a3 : Int32} {h : hs_H} {r : Int32 × hs_H} (e : hf_217 a1 a2 a3 h = some r) (q : Q (some (hs_i r.1)) r.2) : hs_call hs_ms S D 217 [hs_r 12 0, hs_i a1, hs_i a2, hs_i a3] h Q := by
  refine hs_go (R := 3) hD rfl (Nat.le_of_ble_eq_true rfl) (fun d hd => ?_)
  show hs_W S d 1 hs_p217 Q 0 [hs_r 12 0, hs_i a1, hs_i a2, hs_i a3, hs_u, hs_u, hs_u] [] h
  unfold hf_217 at e
  refine hs_w 4 (pc' := 6) (ls' := [hs_r 12 0, hs_i a1, hs_i a2, hs_i a3, hs_i (nI 0), hs_i (nI 0), hs_u]) (st' := []) (h' := h) (fun n w => w) ?_
  exact hw_217_6_lp hd hs_big e _ q
def hb_218_224  (k54 : Int32 × hs_H → Option (hs_H)) (k131 : Int32 × Int32 × hs_H → Option (hs_H)) (x1 : Int32) (x2 : Int32)  (h : hs_H) : Option (hs_H) := k131 (x1, x2 + nI 1, h)
set_option maxHeartbeats 1000000 in
theorem hw_218_224 {S : hs_S} {d : Nat} {Q : hs_Q} (hd : 4 ≤ d)  {k54 : Int32 × hs_H → Option (hs_H)} {k131 : Int32 × Int32 × hs_H → Option (hs_H)} (hk54 : ∀ (x1 : Int32) (h : hs_H) (r : hs_H) (v2 : hs_V), k54 (x1, h) = some r → Q none r → hs_W S d 0 hs_p218 Q 54 [hs_r 12 0, hs_i x1, v2] [] h) (hk131 : ∀ (x1 : Int32) (x2 : Int32) (h : hs_H) (r : hs_H) , k131 (x1, x2, h) = some r → Q none r → hs_W S d 0 hs_p218 Q 131 [hs_r 12 0, hs_i x1, hs_i x2] [] h) {x1 : Int32} {x2 : Int32}   {h : hs_H} {r : hs_H} (e : hb_218_224 k54 k131 x1 x2 h = some r) (q : Q none r) : hs_W S d 0 hs_p218 Q 224 [hs_r 12 0, hs_i x1, hs_i x2] [] h := by
  unfold hb_218_224 at e
  refine hs_w 2 (pc' := 131) (ls' := [hs_r 12 0, hs_i x1, hs_i (x2 + nI 1)]) (st' := []) (h' := h) (fun n w => w) ?_
  exact hk131 _ _ _ _  e q
def hb_218_223  (k54 : Int32 × hs_H → Option (hs_H)) (k131 : Int32 × Int32 × hs_H → Option (hs_H)) (x2 : Int32) (s0 : Int32) (h : hs_H) : Option (hs_H) := hb_218_224 k54 k131 s0 x2 h
set_option maxHeartbeats 1000000 in
theorem hw_218_223 {S : hs_S} {d : Nat} {Q : hs_Q} (hd : 4 ≤ d)  {k54 : Int32 × hs_H → Option (hs_H)} {k131 : Int32 × Int32 × hs_H → Option (hs_H)} (hk54 : ∀ (x1 : Int32) (h : hs_H) (r : hs_H) (v2 : hs_V), k54 (x1, h) = some r → Q none r → hs_W S d 0 hs_p218 Q 54 [hs_r 12 0, hs_i x1, v2] [] h) (hk131 : ∀ (x1 : Int32) (x2 : Int32) (h : hs_H) (r : hs_H) , k131 (x1, x2, h) = some r → Q none r → hs_W S d 0 hs_p218 Q 131 [hs_r 12 0, hs_i x1, hs_i x2] [] h) {x2 : Int32} {s0 : Int32} {v1 : hs_V} {h : hs_H} {r : hs_H} (e : hb_218_223 k54 k131 x2 s0 h = some r) (q : Q none r) : hs_W S d 0 hs_p218 Q 223 [hs_r 12 0, v1, hs_i x2] [hs_i s0] h := by
  unfold hb_218_223 at e
  refine hs_w 1 (pc' := 224) (ls' := [hs_r 12 0, hs_i s0, hs_i x2]) (st' := []) (h' := h) (fun n w => w) ?_
  exact hw_218_224 hd hk54 hk131 e q
def hb_218_218  (k54 : Int32 × hs_H → Option (hs_H)) (k131 : Int32 × Int32 × hs_H → Option (hs_H)) (x2 : Int32)  (h : hs_H) : Option (hs_H) := hb_218_223 k54 k131 x2 (nI 1) h
set_option maxHeartbeats 1000000 in
theorem hw_218_218 {S : hs_S} {d : Nat} {Q : hs_Q} (hd : 4 ≤ d)  {k54 : Int32 × hs_H → Option (hs_H)} {k131 : Int32 × Int32 × hs_H → Option (hs_H)} (hk54 : ∀ (x1 : Int32) (h : hs_H) (r : hs_H) (v2 : hs_V), k54 (x1, h) = some r → Q none r → hs_W S d 0 hs_p218 Q 54 [hs_r 12 0, hs_i x1, v2] [] h) (hk131 : ∀ (x1 : Int32) (x2 : Int32) (h : hs_H) (r : hs_H) , k131 (x1, x2, h) = some r → Q none r → hs_W S d 0 hs_p218 Q 131 [hs_r 12 0, hs_i x1, hs_i x2] [] h) {x2 : Int32}  {v1 : hs_V} {h : hs_H} {r : hs_H} (e : hb_218_218 k54 k131 x2 h = some r) (q : Q none r) : hs_W S d 0 hs_p218 Q 218 [hs_r 12 0, v1, hs_i x2] [] h := by
  unfold hb_218_218 at e
  refine hs_w 2 (pc' := 223) (ls' := [hs_r 12 0, v1, hs_i x2]) (st' := [hs_i (nI 1)]) (h' := h) (fun n w => w) ?_
  exact hw_218_223 hd hk54 hk131 e q
def hb_218_131  (k54 : Int32 × hs_H → Option (hs_H)) (k131 : Int32 × Int32 × hs_H → Option (hs_H)) (x1 : Int32) (x2 : Int32)  (h : hs_H) : Option (hs_H) := if ((nI 100) * (h.1 12 0 2)) ≤ x2 then (k54 (x1, h)) else (if (h.1 12 0 2) ≤ ((x2 / (nI 10)) - (x2 / (nI 10)) / (nI 10) * (nI 10)) then (hb_218_224 k54 k131 x1 x2 h) else (if (h.1 12 0 2) ≤ (x2 - x2 / (nI 10) * (nI 10)) then (hb_218_224 k54 k131 x1 x2 h) else (hs_ck (hs_inb x2 1000) (if ¬ (h.1 59 0 x2.toNatClampNeg) = (nI 99999) then (hb_218_224 k54 k131 x1 x2 h) else ((hf_217 (x2 / (nI 100)) ((x2 / (nI 10)) - (x2 / (nI 10)) / (nI 10) * (nI 10)) (x2 - x2 / (nI 10) * (nI 10)) h).bind (fun q9 => hs_ck (hs_inb x2 1000) (if ¬ x1 = 0 then (hb_218_218 k54 k131 x2 (hs_put q9.2 59 0 x2.toNatClampNeg q9.1)) else (hs_ck (hs_inb x2 1000) (if ((hs_put q9.2 59 0 x2.toNatClampNeg q9.1).1 59 0 x2.toNatClampNeg) = (nI 99999) then (hb_218_223 k54 k131 x2 (nI 0) (hs_put q9.2 59 0 x2.toNatClampNeg q9.1)) else (hb_218_218 k54 k131 x2 (hs_put q9.2 59 0 x2.toNatClampNeg q9.1)))))))))))
set_option maxHeartbeats 1000000 in
theorem hw_218_131 {S : hs_S} {d : Nat} {Q : hs_Q} (hd : 4 ≤ d)  {k54 : Int32 × hs_H → Option (hs_H)} {k131 : Int32 × Int32 × hs_H → Option (hs_H)} (hk54 : ∀ (x1 : Int32) (h : hs_H) (r : hs_H) (v2 : hs_V), k54 (x1, h) = some r → Q none r → hs_W S d 0 hs_p218 Q 54 [hs_r 12 0, hs_i x1, v2] [] h) (hk131 : ∀ (x1 : Int32) (x2 : Int32) (h : hs_H) (r : hs_H) , k131 (x1, x2, h) = some r → Q none r → hs_W S d 0 hs_p218 Q 131 [hs_r 12 0, hs_i x1, hs_i x2] [] h) {x1 : Int32} {x2 : Int32}   {h : hs_H} {r : hs_H} (e : hb_218_131 k54 k131 x1 x2 h = some r) (q : Q none r) : hs_W S d 0 hs_p218 Q 131 [hs_r 12 0, hs_i x1, hs_i x2] [] h := by
  unfold hb_218_131 at e
  refine hs_wb 6 (c := ((nI 100) * (h.1 12 0 2)) ≤ x2) (t := 230) (f := 142) (ls' := [hs_r 12 0, hs_i x1, hs_i x2]) (st' := []) (h' := h) (fun n w => w) (fun b4 => ?_) (fun b4 => ?_)
  · rw [if_pos b4] at e
    refine hs_w 1 (pc' := 54) (ls' := [hs_r 12 0, hs_i x1, hs_i x2]) (st' := []) (h' := h) (fun n w => w) ?_
    exact hk54 _ _ _ _ e q
  · rw [if_neg b4] at e
    refine hs_wa 3 (c := ¬ nI 10 = 0) (pc' := 146) (ls' := [hs_r 12 0, hs_i x1, hs_i x2]) (st' := [hs_i (x2 / (nI 10))]) (h' := h) (fun n w => w) (nI_ne0 (Nat.le_of_ble_eq_true rfl) (Nat.le_of_ble_eq_true rfl)) ?_
    refine hs_wa 2 (c := ¬ nI 10 = 0) (pc' := 149) (ls' := [hs_r 12 0, hs_i x1, hs_i x2]) (st' := [hs_i ((x2 / (nI 10)) - (x2 / (nI 10)) / (nI 10) * (nI 10))]) (h' := h) (fun n w => w) (nI_ne0 (Nat.le_of_ble_eq_true rfl) (Nat.le_of_ble_eq_true rfl)) ?_
    refine hs_wb 3 (c := (h.1 12 0 2) ≤ ((x2 / (nI 10)) - (x2 / (nI 10)) / (nI 10) * (nI 10))) (t := 224) (f := 156) (ls' := [hs_r 12 0, hs_i x1, hs_i x2]) (st' := []) (h' := h) (fun n w => w) (fun b5 => ?_) (fun b5 => ?_)
    · rw [if_pos b5] at e
      exact hw_218_224 hd hk54 hk131 e q
    · rw [if_neg b5] at e
      refine hs_wa 3 (c := ¬ nI 10 = 0) (pc' := 160) (ls' := [hs_r 12 0, hs_i x1, hs_i x2]) (st' := [hs_i (x2 - x2 / (nI 10) * (nI 10))]) (h' := h) (fun n w => w) (nI_ne0 (Nat.le_of_ble_eq_true rfl) (Nat.le_of_ble_eq_true rfl)) ?_
      refine hs_wb 3 (c := (h.1 12 0 2) ≤ (x2 - x2 / (nI 10) * (nI 10))) (t := 224) (f := 167) (ls' := [hs_r 12 0, hs_i x1, hs_i x2]) (st' := []) (h' := h) (fun n w => w) (fun b6 => ?_) (fun b6 => ?_)
      · rw [if_pos b6] at e
        exact hw_218_224 hd hk54 hk131 e q
      · rw [if_neg b6] at e
        obtain ⟨c7, e⟩ := hs_ck_some e
        refine hs_wa 4 (c := vp_in x2 1000) (pc' := 173) (ls' := [hs_r 12 0, hs_i x1, hs_i x2]) (st' := [hs_i (h.1 59 0 x2.toNatClampNeg)]) (h' := h) (fun n w => w) (hs_inb_iff.mp c7) ?_
        refine hs_wb 2 (c := ¬ (h.1 59 0 x2.toNatClampNeg) = (nI 99999)) (t := 224) (f := 178) (ls' := [hs_r 12 0, hs_i x1, hs_i x2]) (st' := []) (h' := h) (fun n w => w) (fun b8 => ?_) (fun b8 => ?_)
        · rw [if_pos b8] at e
          exact hw_218_224 hd hk54 hk131 e q
        · rw [if_neg b8] at e
          refine hs_wa 7 (c := ¬ nI 100 = 0) (pc' := 188) (ls' := [hs_r 12 0, hs_i x1, hs_i x2]) (st' := [hs_i (x2 / (nI 100)), hs_r 12 0, hs_i x2, hs_r 59 0]) (h' := h) (fun n w => w) (nI_ne0 (Nat.le_of_ble_eq_true rfl) (Nat.le_of_ble_eq_true rfl)) ?_
          refine hs_wa 3 (c := ¬ nI 10 = 0) (pc' := 192) (ls' := [hs_r 12 0, hs_i x1, hs_i x2]) (st' := [hs_i (x2 / (nI 10)), hs_i (x2 / (nI 100)), hs_r 12 0, hs_i x2, hs_r 59 0]) (h' := h) (fun n w => w) (nI_ne0 (Nat.le_of_ble_eq_true rfl) (Nat.le_of_ble_eq_true rfl)) ?_
          refine hs_wa 2 (c := ¬ nI 10 = 0) (pc' := 195) (ls' := [hs_r 12 0, hs_i x1, hs_i x2]) (st' := [hs_i ((x2 / (nI 10)) - (x2 / (nI 10)) / (nI 10) * (nI 10)), hs_i (x2 / (nI 100)), hs_r 12 0, hs_i x2, hs_r 59 0]) (h' := h) (fun n w => w) (nI_ne0 (Nat.le_of_ble_eq_true rfl) (Nat.le_of_ble_eq_true rfl)) ?_
          refine hs_wa 3 (c := ¬ nI 10 = 0) (pc' := 199) (ls' := [hs_r 12 0, hs_i x1, hs_i x2]) (st' := [hs_i (x2 - x2 / (nI 10) * (nI 10)), hs_i ((x2 / (nI 10)) - (x2 / (nI 10)) / (nI 10) * (nI 10)), hs_i (x2 / (nI 100)), hs_r 12 0, hs_i x2, hs_r 59 0]) (h' := h) (fun n w => w) (nI_ne0 (Nat.le_of_ble_eq_true rfl) (Nat.le_of_ble_eq_true rfl)) ?_
          obtain ⟨q9, eq9, e⟩ := hs_bind_some e
          try dsimp only at e
          refine hs_wc 1 (y := 217) (a := [hs_r 12 0, hs_i (x2 / (nI 100)), hs_i ((x2 / (nI 10)) - (x2 / (nI 10)) / (nI 10) * (nI 10)), hs_i (x2 - x2 / (nI 10) * (nI 10))]) (v := some (hs_i q9.1)) (pc' := 202) (ls' := [hs_r 12 0, hs_i x1, hs_i x2]) (st' := [hs_i x2, hs_r 59 0]) (h' := h) (h2 := q9.2) (fun n w => w) (fun q => hc_217 (by omega) eq9 q) ?_
          obtain ⟨c10, e⟩ := hs_ck_some e
          refine hs_wa 1 (c := vp_in x2 1000) (pc' := 203) (ls' := [hs_r 12 0, hs_i x1, hs_i x2]) (st' := []) (h' := hs_put q9.2 59 0 x2.toNatClampNeg q9.1) (fun n w => w) (hs_inb_iff.mp c10) ?_
          refine hs_wb 2 (c := ¬ x1 = 0) (t := 218) (f := 207) (ls' := [hs_r 12 0, hs_i x1, hs_i x2]) (st' := []) (h' := hs_put q9.2 59 0 x2.toNatClampNeg q9.1) (fun n w => w) (fun b11 => ?_) (fun b11 => ?_)
          · rw [if_pos b11] at e
            exact hw_218_218 hd hk54 hk131 e q
          · rw [if_neg b11] at e
            obtain ⟨c12, e⟩ := hs_ck_some e
            refine hs_wa 4 (c := vp_in x2 1000) (pc' := 213) (ls' := [hs_r 12 0, hs_i x1, hs_i x2]) (st' := [hs_i ((hs_put q9.2 59 0 x2.toNatClampNeg q9.1).1 59 0 x2.toNatClampNeg)]) (h' := hs_put q9.2 59 0 x2.toNatClampNeg q9.1) (fun n w => w) (hs_inb_iff.mp c12) ?_
            refine hs_wb 2 (c := ((hs_put q9.2 59 0 x2.toNatClampNeg q9.1).1 59 0 x2.toNatClampNeg) = (nI 99999)) (t := 222) (f := 218) (ls' := [hs_r 12 0, hs_i x1, hs_i x2]) (st' := []) (h' := hs_put q9.2 59 0 x2.toNatClampNeg q9.1) (fun n w => w) (fun b13 => ?_) (fun b13 => ?_)
            · rw [if_pos b13] at e
              refine hs_w 1 (pc' := 223) (ls' := [hs_r 12 0, hs_i x1, hs_i x2]) (st' := [hs_i (nI 0)]) (h' := hs_put q9.2 59 0 x2.toNatClampNeg q9.1) (fun n w => w) ?_
              exact hw_218_223 hd hk54 hk131 e q
            · rw [if_neg b13] at e
              exact hw_218_218 hd hk54 hk131 e q
theorem hw_218_131_lp {S : hs_S} {d : Nat} {Q : hs_Q} (hd : 4 ≤ d)  {k54 : Int32 × hs_H → Option (hs_H)} (hk54 : ∀ (x1 : Int32) (h : hs_H) (r : hs_H) (v2 : hs_V), k54 (x1, h) = some r → Q none r → hs_W S d 0 hs_p218 Q 54 [hs_r 12 0, hs_i x1, v2] [] h) (n : Nat) {x1 : Int32} {x2 : Int32} {h : hs_H} {r : hs_H} (e : hs_lp (fun k s => hb_218_131 k54 k s.1 s.2.1 s.2.2) n (x1, x2, h) = some r)  (q : Q none r) : hs_W S d 0 hs_p218 Q 131 [hs_r 12 0, hs_i x1, hs_i x2] [] h := by
  refine hs_lp_ind (P := fun (s : Int32 × Int32 × hs_H) (r : hs_H) => ∀ (_ : True), Q none r → hs_W S d 0 hs_p218 Q 131 [hs_r 12 0, hs_i s.1, hs_i s.2.1] [] s.2.2) (fun k hk s r e _ q => ?_) n (x1, x2, h) r e trivial q
  exact hw_218_131 hd hk54 (fun x1 x2 h r  e q => hk (x1, x2, h) r e trivial q) e q
def hb_218_123  (k54 : Int32 × hs_H → Option (hs_H)) (k62 : Int32 × Int32 × hs_H → Option (hs_H)) (x1 : Int32) (x2 : Int32)  (h : hs_H) : Option (hs_H) := k62 (x1, x2 + nI 1, h)
set_option maxHeartbeats 1000000 in
theorem hw_218_123 {S : hs_S} {d : Nat} {Q : hs_Q} (hd : 4 ≤ d)  {k54 : Int32 × hs_H → Option (hs_H)} {k62 : Int32 × Int32 × hs_H → Option (hs_H)} (hk54 : ∀ (x1 : Int32) (h : hs_H) (r : hs_H) (v2 : hs_V), k54 (x1, h) = some r → Q none r → hs_W S d 0 hs_p218 Q 54 [hs_r 12 0, hs_i x1, v2] [] h) (hk62 : ∀ (x1 : Int32) (x2 : Int32) (h : hs_H) (r : hs_H) , k62 (x1, x2, h) = some r → Q none r → hs_W S d 0 hs_p218 Q 62 [hs_r 12 0, hs_i x1, hs_i x2] [] h) {x1 : Int32} {x2 : Int32}   {h : hs_H} {r : hs_H} (e : hb_218_123 k54 k62 x1 x2 h = some r) (q : Q none r) : hs_W S d 0 hs_p218 Q 123 [hs_r 12 0, hs_i x1, hs_i x2] [] h := by
  unfold hb_218_123 at e
  refine hs_w 2 (pc' := 62) (ls' := [hs_r 12 0, hs_i x1, hs_i (x2 + nI 1)]) (st' := []) (h' := h) (fun n w => w) ?_
  exact hk62 _ _ _ _  e q
def hb_218_62  (k54 : Int32 × hs_H → Option (hs_H)) (k62 : Int32 × Int32 × hs_H → Option (hs_H)) (x1 : Int32) (x2 : Int32)  (h : hs_H) : Option (hs_H) := if ((nI 100) * (h.1 12 0 2)) ≤ x2 then (hs_lp (fun k s => hb_218_131 k54 k s.1 s.2.1 s.2.2) hs_big (x1, nI 0, h)) else (if (h.1 12 0 2) ≤ ((x2 / (nI 10)) - (x2 / (nI 10)) / (nI 10) * (nI 10)) then (hb_218_123 k54 k62 x1 x2 h) else (if (h.1 12 0 2) ≤ (x2 - x2 / (nI 10) * (nI 10)) then (hb_218_123 k54 k62 x1 x2 h) else ((hf_214 (x2 / (nI 100)) ((x2 / (nI 10)) - (x2 / (nI 10)) / (nI 10) * (nI 10)) (x2 - x2 / (nI 10) * (nI 10)) h).bind (fun q16 => hs_ck (hs_inb x2 1000) (hb_218_123 k54 k62 x1 x2 (hs_put q16.2 60 0 x2.toNatClampNeg q16.1))))))
set_option maxHeartbeats 1000000 in
theorem hw_218_62 {S : hs_S} {d : Nat} {Q : hs_Q} (hd : 4 ≤ d)  {k54 : Int32 × hs_H → Option (hs_H)} {k62 : Int32 × Int32 × hs_H → Option (hs_H)} (hk54 : ∀ (x1 : Int32) (h : hs_H) (r : hs_H) (v2 : hs_V), k54 (x1, h) = some r → Q none r → hs_W S d 0 hs_p218 Q 54 [hs_r 12 0, hs_i x1, v2] [] h) (hk62 : ∀ (x1 : Int32) (x2 : Int32) (h : hs_H) (r : hs_H) , k62 (x1, x2, h) = some r → Q none r → hs_W S d 0 hs_p218 Q 62 [hs_r 12 0, hs_i x1, hs_i x2] [] h) {x1 : Int32} {x2 : Int32}   {h : hs_H} {r : hs_H} (e : hb_218_62 k54 k62 x1 x2 h = some r) (q : Q none r) : hs_W S d 0 hs_p218 Q 62 [hs_r 12 0, hs_i x1, hs_i x2] [] h := by
  unfold hb_218_62 at e
  refine hs_wb 6 (c := ((nI 100) * (h.1 12 0 2)) ≤ x2) (t := 129) (f := 73) (ls' := [hs_r 12 0, hs_i x1, hs_i x2]) (st' := []) (h' := h) (fun n w => w) (fun b3 => ?_) (fun b3 => ?_)
  · rw [if_pos b3] at e
    refine hs_w 2 (pc' := 131) (ls' := [hs_r 12 0, hs_i x1, hs_i (nI 0)]) (st' := []) (h' := h) (fun n w => w) ?_
    exact hw_218_131_lp hd hk54 hs_big e  q
  · rw [if_neg b3] at e
    refine hs_wa 3 (c := ¬ nI 10 = 0) (pc' := 77) (ls' := [hs_r 12 0, hs_i x1, hs_i x2]) (st' := [hs_i (x2 / (nI 10))]) (h' := h) (fun n w => w) (nI_ne0 (Nat.le_of_ble_eq_true rfl) (Nat.le_of_ble_eq_true rfl)) ?_
    refine hs_wa 2 (c := ¬ nI 10 = 0) (pc' := 80) (ls' := [hs_r 12 0, hs_i x1, hs_i x2]) (st' := [hs_i ((x2 / (nI 10)) - (x2 / (nI 10)) / (nI 10) * (nI 10))]) (h' := h) (fun n w => w) (nI_ne0 (Nat.le_of_ble_eq_true rfl) (Nat.le_of_ble_eq_true rfl)) ?_
    refine hs_wb 3 (c := (h.1 12 0 2) ≤ ((x2 / (nI 10)) - (x2 / (nI 10)) / (nI 10) * (nI 10))) (t := 123) (f := 87) (ls' := [hs_r 12 0, hs_i x1, hs_i x2]) (st' := []) (h' := h) (fun n w => w) (fun b14 => ?_) (fun b14 => ?_)
    · rw [if_pos b14] at e
      exact hw_218_123 hd hk54 hk62 e q
    · rw [if_neg b14] at e
      refine hs_wa 3 (c := ¬ nI 10 = 0) (pc' := 91) (ls' := [hs_r 12 0, hs_i x1, hs_i x2]) (st' := [hs_i (x2 - x2 / (nI 10) * (nI 10))]) (h' := h) (fun n w => w) (nI_ne0 (Nat.le_of_ble_eq_true rfl) (Nat.le_of_ble_eq_true rfl)) ?_
      refine hs_wb 3 (c := (h.1 12 0 2) ≤ (x2 - x2 / (nI 10) * (nI 10))) (t := 123) (f := 98) (ls' := [hs_r 12 0, hs_i x1, hs_i x2]) (st' := []) (h' := h) (fun n w => w) (fun b15 => ?_) (fun b15 => ?_)
      · rw [if_pos b15] at e
        exact hw_218_123 hd hk54 hk62 e q
      · rw [if_neg b15] at e
        refine hs_wa 7 (c := ¬ nI 100 = 0) (pc' := 108) (ls' := [hs_r 12 0, hs_i x1, hs_i x2]) (st' := [hs_i (x2 / (nI 100)), hs_r 12 0, hs_i x2, hs_r 60 0]) (h' := h) (fun n w => w) (nI_ne0 (Nat.le_of_ble_eq_true rfl) (Nat.le_of_ble_eq_true rfl)) ?_
        refine hs_wa 3 (c := ¬ nI 10 = 0) (pc' := 112) (ls' := [hs_r 12 0, hs_i x1, hs_i x2]) (st' := [hs_i (x2 / (nI 10)), hs_i (x2 / (nI 100)), hs_r 12 0, hs_i x2, hs_r 60 0]) (h' := h) (fun n w => w) (nI_ne0 (Nat.le_of_ble_eq_true rfl) (Nat.le_of_ble_eq_true rfl)) ?_
        refine hs_wa 2 (c := ¬ nI 10 = 0) (pc' := 115) (ls' := [hs_r 12 0, hs_i x1, hs_i x2]) (st' := [hs_i ((x2 / (nI 10)) - (x2 / (nI 10)) / (nI 10) * (nI 10)), hs_i (x2 / (nI 100)), hs_r 12 0, hs_i x2, hs_r 60 0]) (h' := h) (fun n w => w) (nI_ne0 (Nat.le_of_ble_eq_true rfl) (Nat.le_of_ble_eq_true rfl)) ?_
        refine hs_wa 3 (c := ¬ nI 10 = 0) (pc' := 119) (ls' := [hs_r 12 0, hs_i x1, hs_i x2]) (st' := [hs_i (x2 - x2 / (nI 10) * (nI 10)), hs_i ((x2 / (nI 10)) - (x2 / (nI 10)) / (nI 10) * (nI 10)), hs_i (x2 / (nI 100)), hs_r 12 0, hs_i x2, hs_r 60 0]) (h' := h) (fun n w => w) (nI_ne0 (Nat.le_of_ble_eq_true rfl) (Nat.le_of_ble_eq_true rfl)) ?_
        obtain ⟨q16, eq16, e⟩ := hs_bind_some e
        try dsimp only at e
        refine hs_wc 1 (y := 214) (a := [hs_r 12 0, hs_i (x2 / (nI 100)), hs_i ((x2 / (nI 10)) - (x2 / (nI 10)) / (nI 10) * (nI 10)), hs_i (x2 - x2 / (nI 10) * (nI 10))]) (v := some (hs_i q16.1)) (pc' := 122) (ls' := [hs_r 12 0, hs_i x1, hs_i x2]) (st' := [hs_i x2, hs_r 60 0]) (h' := h) (h2 := q16.2) (fun n w => w) (fun q => hc_214 (by omega) eq16 q) ?_
        obtain ⟨c17, e⟩ := hs_ck_some e
        refine hs_wa 1 (c := vp_in x2 1000) (pc' := 123) (ls' := [hs_r 12 0, hs_i x1, hs_i x2]) (st' := []) (h' := hs_put q16.2 60 0 x2.toNatClampNeg q16.1) (fun n w => w) (hs_inb_iff.mp c17) ?_
        exact hw_218_123 hd hk54 hk62 e q
theorem hw_218_62_lp {S : hs_S} {d : Nat} {Q : hs_Q} (hd : 4 ≤ d)  {k54 : Int32 × hs_H → Option (hs_H)} (hk54 : ∀ (x1 : Int32) (h : hs_H) (r : hs_H) (v2 : hs_V), k54 (x1, h) = some r → Q none r → hs_W S d 0 hs_p218 Q 54 [hs_r 12 0, hs_i x1, v2] [] h) (n : Nat) {x1 : Int32} {x2 : Int32} {h : hs_H} {r : hs_H} (e : hs_lp (fun k s => hb_218_62 k54 k s.1 s.2.1 s.2.2) n (x1, x2, h) = some r)  (q : Q none r) : hs_W S d 0 hs_p218 Q 62 [hs_r 12 0, hs_i x1, hs_i x2] [] h := by
  refine hs_lp_ind (P := fun (s : Int32 × Int32 × hs_H) (r : hs_H) => ∀ (_ : True), Q none r → hs_W S d 0 hs_p218 Q 62 [hs_r 12 0, hs_i s.1, hs_i s.2.1] [] s.2.2) (fun k hk s r e _ q => ?_) n (x1, x2, h) r e trivial q
  exact hw_218_62 hd hk54 (fun x1 x2 h r  e q => hk (x1, x2, h) r e trivial q) e q
def hb_218_54  (k54 : Int32 × hs_H → Option (hs_H)) (x1 : Int32)  (h : hs_H) : Option (hs_H) := if x1 = 0 then (some h) else (hs_lp (fun k s => hb_218_62 k54 k s.1 s.2.1 s.2.2) hs_big (nI 0, nI 0, h))
set_option maxHeartbeats 1000000 in
theorem hw_218_54 {S : hs_S} {d : Nat} {Q : hs_Q} (hd : 4 ≤ d)  {k54 : Int32 × hs_H → Option (hs_H)} (hk54 : ∀ (x1 : Int32) (h : hs_H) (r : hs_H) (v2 : hs_V), k54 (x1, h) = some r → Q none r → hs_W S d 0 hs_p218 Q 54 [hs_r 12 0, hs_i x1, v2] [] h) {x1 : Int32}  {v2 : hs_V} {h : hs_H} {r : hs_H} (e : hb_218_54 k54 x1 h = some r) (q : Q none r) : hs_W S d 0 hs_p218 Q 54 [hs_r 12 0, hs_i x1, v2] [] h := by
  unfold hb_218_54 at e
  refine hs_wb 2 (c := x1 = 0) (t := 233) (f := 58) (ls' := [hs_r 12 0, hs_i x1, v2]) (st' := []) (h' := h) (fun n w => w) (fun b2 => ?_) (fun b2 => ?_)
  · rw [if_pos b2] at e
    obtain rfl := Option.some.inj e
    exact hs_wr 1 (v := none) (h' := h) (fun n w => w) q
  · rw [if_neg b2] at e
    refine hs_w 4 (pc' := 62) (ls' := [hs_r 12 0, hs_i (nI 0), hs_i (nI 0)]) (st' := []) (h' := h) (fun n w => w) ?_
    exact hw_218_62_lp hd hk54 hs_big e  q
theorem hw_218_54_lp {S : hs_S} {d : Nat} {Q : hs_Q} (hd : 4 ≤ d)    (n : Nat) {x1 : Int32} {h : hs_H} {r : hs_H} (e : hs_lp (fun k s => hb_218_54 k s.1 s.2) n (x1, h) = some r) (v2 : hs_V) (q : Q none r) : hs_W S d 0 hs_p218 Q 54 [hs_r 12 0, hs_i x1, v2] [] h := by
  refine hs_lp_ind (P := fun (s : Int32 × hs_H) (r : hs_H) => ∀ (v2 : hs_V), Q none r → hs_W S d 0 hs_p218 Q 54 [hs_r 12 0, hs_i s.1, v2] [] s.2) (fun k hk s r e v2 q => ?_) n (x1, h) r e v2 q
  exact hw_218_54 hd (fun x1 h r v2 e q => hk (x1, h) r e v2 q) e q
def hb_218_45  (k2 : Int32 × hs_H → Option (hs_H)) (x1 : Int32) (s0 : Int32) (s1 : Int32) (h : hs_H) : Option (hs_H) := hs_ck (hs_inb s1 1000) (k2 (x1 + nI 1, hs_put h 59 0 s1.toNatClampNeg s0))
set_option maxHeartbeats 1000000 in
theorem hw_218_45 {S : hs_S} {d : Nat} {Q : hs_Q} (hd : 4 ≤ d)  {k2 : Int32 × hs_H → Option (hs_H)} (hk2 : ∀ (x1 : Int32) (h : hs_H) (r : hs_H) (v2 : hs_V), k2 (x1, h) = some r → Q none r → hs_W S d 0 hs_p218 Q 2 [hs_r 12 0, hs_i x1, v2] [] h) {x1 : Int32} {s0 : Int32} {s1 : Int32} {v2 : hs_V} {h : hs_H} {r : hs_H} (e : hb_218_45 k2 x1 s0 s1 h = some r) (q : Q none r) : hs_W S d 0 hs_p218 Q 45 [hs_r 12 0, hs_i x1, v2] [hs_i s0, hs_i s1, hs_r 59 0] h := by
  unfold hb_218_45 at e
  obtain ⟨c19, e⟩ := hs_ck_some e
  refine hs_wa 1 (c := vp_in s1 1000) (pc' := 46) (ls' := [hs_r 12 0, hs_i x1, v2]) (st' := []) (h' := hs_put h 59 0 s1.toNatClampNeg s0) (fun n w => w) (hs_inb_iff.mp c19) ?_
  refine hs_w 2 (pc' := 2) (ls' := [hs_r 12 0, hs_i (x1 + nI 1), v2]) (st' := []) (h' := hs_put h 59 0 s1.toNatClampNeg s0) (fun n w => w) ?_
  exact hk2 _ _ _ _ e q
def hb_218_39  (k2 : Int32 × hs_H → Option (hs_H)) (x1 : Int32) (s0 : Int32) (h : hs_H) : Option (hs_H) := hb_218_45 k2 x1 (nI 0) s0 h
set_option maxHeartbeats 1000000 in
theorem hw_218_39 {S : hs_S} {d : Nat} {Q : hs_Q} (hd : 4 ≤ d)  {k2 : Int32 × hs_H → Option (hs_H)} (hk2 : ∀ (x1 : Int32) (h : hs_H) (r : hs_H) (v2 : hs_V), k2 (x1, h) = some r → Q none r → hs_W S d 0 hs_p218 Q 2 [hs_r 12 0, hs_i x1, v2] [] h) {x1 : Int32} {s0 : Int32} {v2 : hs_V} {h : hs_H} {r : hs_H} (e : hb_218_39 k2 x1 s0 h = some r) (q : Q none r) : hs_W S d 0 hs_p218 Q 39 [hs_r 12 0, hs_i x1, v2] [hs_i s0, hs_r 59 0] h := by
  unfold hb_218_39 at e
  refine hs_w 2 (pc' := 45) (ls' := [hs_r 12 0, hs_i x1, v2]) (st' := [hs_i (nI 0), hs_i s0, hs_r 59 0]) (h' := h) (fun n w => w) ?_
  exact hw_218_45 hd hk2 e q
def hb_218_2  (k2 : Int32 × hs_H → Option (hs_H)) (x1 : Int32)  (h : hs_H) : Option (hs_H) := if (nI 1000) ≤ x1 then (hs_lp (fun k s => hb_218_54 k s.1 s.2) hs_big (nI 1, h)) else (if (x1 / (nI 100)) = ((x1 / (nI 10)) - (x1 / (nI 10)) / (nI 10) * (nI 10)) then (hb_218_39 k2 x1 x1 h) else (if ¬ (x1 / (nI 100)) = (x1 - x1 / (nI 10) * (nI 10)) then (hb_218_45 k2 x1 (nI 99999) x1 h) else (hb_218_39 k2 x1 x1 h)))
set_option maxHeartbeats 1000000 in
theorem hw_218_2 {S : hs_S} {d : Nat} {Q : hs_Q} (hd : 4 ≤ d)  {k2 : Int32 × hs_H → Option (hs_H)} (hk2 : ∀ (x1 : Int32) (h : hs_H) (r : hs_H) (v2 : hs_V), k2 (x1, h) = some r → Q none r → hs_W S d 0 hs_p218 Q 2 [hs_r 12 0, hs_i x1, v2] [] h) {x1 : Int32}  {v2 : hs_V} {h : hs_H} {r : hs_H} (e : hb_218_2 k2 x1 h = some r) (q : Q none r) : hs_W S d 0 hs_p218 Q 2 [hs_r 12 0, hs_i x1, v2] [] h := by
  unfold hb_218_2 at e
  refine hs_wb 3 (c := (nI 1000) ≤ x1) (t := 52) (f := 9) (ls' := [hs_r 12 0, hs_i x1, v2]) (st' := []) (h' := h) (fun n w => w) (fun b1 => ?_) (fun b1 => ?_)
  · rw [if_pos b1] at e
    refine hs_w 2 (pc' := 54) (ls' := [hs_r 12 0, hs_i (nI 1), v2]) (st' := []) (h' := h) (fun n w => w) ?_
    exact hw_218_54_lp hd hs_big e _ q
  · rw [if_neg b1] at e
    refine hs_wa 6 (c := ¬ nI 100 = 0) (pc' := 18) (ls' := [hs_r 12 0, hs_i x1, v2]) (st' := [hs_i (x1 / (nI 100)), hs_i x1, hs_r 59 0]) (h' := h) (fun n w => w) (nI_ne0 (Nat.le_of_ble_eq_true rfl) (Nat.le_of_ble_eq_true rfl)) ?_
    refine hs_wa 3 (c := ¬ nI 10 = 0) (pc' := 22) (ls' := [hs_r 12 0, hs_i x1, v2]) (st' := [hs_i (x1 / (nI 10)), hs_i (x1 / (nI 100)), hs_i x1, hs_r 59 0]) (h' := h) (fun n w => w) (nI_ne0 (Nat.le_of_ble_eq_true rfl) (Nat.le_of_ble_eq_true rfl)) ?_
    refine hs_wa 2 (c := ¬ nI 10 = 0) (pc' := 25) (ls' := [hs_r 12 0, hs_i x1, v2]) (st' := [hs_i ((x1 / (nI 10)) - (x1 / (nI 10)) / (nI 10) * (nI 10)), hs_i (x1 / (nI 100)), hs_i x1, hs_r 59 0]) (h' := h) (fun n w => w) (nI_ne0 (Nat.le_of_ble_eq_true rfl) (Nat.le_of_ble_eq_true rfl)) ?_
    refine hs_wb 1 (c := (x1 / (nI 100)) = ((x1 / (nI 10)) - (x1 / (nI 10)) / (nI 10) * (nI 10))) (t := 39) (f := 28) (ls' := [hs_r 12 0, hs_i x1, v2]) (st' := [hs_i x1, hs_r 59 0]) (h' := h) (fun n w => w) (fun b18 => ?_) (fun b18 => ?_)
    · rw [if_pos b18] at e
      exact hw_218_39 hd hk2 e q
    · rw [if_neg b18] at e
      refine hs_wa 3 (c := ¬ nI 100 = 0) (pc' := 32) (ls' := [hs_r 12 0, hs_i x1, v2]) (st' := [hs_i (x1 / (nI 100)), hs_i x1, hs_r 59 0]) (h' := h) (fun n w => w) (nI_ne0 (Nat.le_of_ble_eq_true rfl) (Nat.le_of_ble_eq_true rfl)) ?_
      refine hs_wa 3 (c := ¬ nI 10 = 0) (pc' := 36) (ls' := [hs_r 12 0, hs_i x1, v2]) (st' := [hs_i (x1 - x1 / (nI 10) * (nI 10)), hs_i (x1 / (nI 100)), hs_i x1, hs_r 59 0]) (h' := h) (fun n w => w) (nI_ne0 (Nat.le_of_ble_eq_true rfl) (Nat.le_of_ble_eq_true rfl)) ?_
      refine hs_wb 1 (c := ¬ (x1 / (nI 100)) = (x1 - x1 / (nI 10) * (nI 10))) (t := 43) (f := 39) (ls' := [hs_r 12 0, hs_i x1, v2]) (st' := [hs_i x1, hs_r 59 0]) (h' := h) (fun n w => w) (fun b20 => ?_) (fun b20 => ?_)
      · rw [if_pos b20] at e
        refine hs_w 1 (pc' := 45) (ls' := [hs_r 12 0, hs_i x1, v2]) (st' := [hs_i (nI 99999), hs_i x1, hs_r 59 0]) (h' := h) (fun n w => w) ?_
        exact hw_218_45 hd hk2 e q
      · rw [if_neg b20] at e
        exact hw_218_39 hd hk2 e q
theorem hw_218_2_lp {S : hs_S} {d : Nat} {Q : hs_Q} (hd : 4 ≤ d)    (n : Nat) {x1 : Int32} {h : hs_H} {r : hs_H} (e : hs_lp (fun k s => hb_218_2 k s.1 s.2) n (x1, h) = some r) (v2 : hs_V) (q : Q none r) : hs_W S d 0 hs_p218 Q 2 [hs_r 12 0, hs_i x1, v2] [] h := by
  refine hs_lp_ind (P := fun (s : Int32 × hs_H) (r : hs_H) => ∀ (v2 : hs_V), Q none r → hs_W S d 0 hs_p218 Q 2 [hs_r 12 0, hs_i s.1, v2] [] s.2) (fun k hk s r e v2 q => ?_) n (x1, h) r e v2 q
  exact hw_218_2 hd (fun x1 h r v2 e q => hk (x1, h) r e v2 q) e q
/-- HuntedScentModel.findCaught()V -/
def hf_218  (h : hs_H) : Option (hs_H) := hs_lp (fun k s => hb_218_2 k s.1 s.2) hs_big (nI 0, h)
set_option maxHeartbeats 1000000 in
theorem hc_218 {S : hs_S} {D : Nat} {Q : hs_Q} (hD : 5 ≤ D)  {h : hs_H} {r : hs_H} (e : hf_218 h = some r) (q : Q none r) : hs_call hs_ms S D 218 [hs_r 12 0] h Q := by
  refine hs_go (R := 4) hD rfl (Nat.le_of_ble_eq_true rfl) (fun d hd => ?_)
  show hs_W S d 0 hs_p218 Q 0 [hs_r 12 0, hs_u, hs_u] [] h
  unfold hf_218 at e
  refine hs_w 2 (pc' := 2) (ls' := [hs_r 12 0, hs_i (nI 0), hs_u]) (st' := []) (h' := h) (fun n w => w) ?_
  exact hw_218_2_lp hd hs_big e _ q
def hb_219_29    (s0 : Int32) (h : hs_H) : Option (Int32 × hs_H) := hs_ck (hs_b01 s0) (some (s0, h))
set_option maxHeartbeats 1000000 in
theorem hw_219_29 {S : hs_S} {d : Nat} {Q : hs_Q} (hd : 2 ≤ d)     {s0 : Int32} {v1 : hs_V} {v2 : hs_V} {v3 : hs_V} {h : hs_H} {r : Int32 × hs_H} (e : hb_219_29 s0 h = some r) (q : Q (some (hs_i r.1)) r.2) : hs_W S d 2 hs_p219 Q 29 [hs_r 12 0, v1, v2, v3] [hs_i s0] h := by
  unfold hb_219_29 at e
  obtain ⟨c3, e⟩ := hs_ck_some e
  obtain rfl := Option.some.inj e
  exact hs_wra 1 (c := s0 = 0 ∨ s0 = 1) (v := some (hs_i s0)) (h' := h) (fun n w => w) (hs_b01_iff.mp c3) q
def hb_219_28     (h : hs_H) : Option (Int32 × hs_H) := hb_219_29 (nI 0) h
set_option maxHeartbeats 1000000 in
theorem hw_219_28 {S : hs_S} {d : Nat} {Q : hs_Q} (hd : 2 ≤ d)      {v1 : hs_V} {v2 : hs_V} {v3 : hs_V} {h : hs_H} {r : Int32 × hs_H} (e : hb_219_28 h = some r) (q : Q (some (hs_i r.1)) r.2) : hs_W S d 2 hs_p219 Q 28 [hs_r 12 0, v1, v2, v3] [] h := by
  unfold hb_219_28 at e
  refine hs_w 1 (pc' := 29) (ls' := [hs_r 12 0, v1, v2, v3]) (st' := [hs_i (nI 0)]) (h' := h) (fun n w => w) ?_
  exact hw_219_29 hd e q
/-- HuntedScentModel.areThere(III)Z -/
def hf_219 (a1 : Int32) (a2 : Int32) (a3 : Int32) (h : hs_H) : Option (Int32 × hs_H) := (hf_171 a1 h).bind (fun q1 => if q1.1 = 0 then (hb_219_28 q1.2) else ((hf_171 a2 q1.2).bind (fun q4 => if q4.1 = 0 then (hb_219_28 q4.2) else ((hf_171 a3 q4.2).bind (fun q6 => if q6.1 = 0 then (hb_219_28 q6.2) else (hb_219_29 (nI 1) q6.2))))))
set_option maxHeartbeats 1000000 in
theorem hc_219 {S : hs_S} {D : Nat} {Q : hs_Q} (hD : 3 ≤ D) {a1 : Int32} {a2 : Int32} {a3 : Int32} {h : hs_H} {r : Int32 × hs_H} (e : hf_219 a1 a2 a3 h = some r) (q : Q (some (hs_i r.1)) r.2) : hs_call hs_ms S D 219 [hs_r 12 0, hs_i a1, hs_i a2, hs_i a3] h Q := by
  refine hs_go (R := 2) hD rfl (Nat.le_of_ble_eq_true rfl) (fun d hd => ?_)
  show hs_W S d 2 hs_p219 Q 0 [hs_r 12 0, hs_i a1, hs_i a2, hs_i a3] [] h
  unfold hf_219 at e
  obtain ⟨q1, eq1, e⟩ := hs_bind_some e
  try dsimp only at e
  refine hs_wc 3 (y := 171) (a := [hs_r 12 0, hs_i a1]) (v := some (hs_i q1.1)) (pc' := 5) (ls' := [hs_r 12 0, hs_i a1, hs_i a2, hs_i a3]) (st' := []) (h' := h) (h2 := q1.2) (fun n w => w) (fun q => hc_171 (by omega) eq1 q) ?_
  refine hs_wb 1 (c := q1.1 = 0) (t := 28) (f := 8) (ls' := [hs_r 12 0, hs_i a1, hs_i a2, hs_i a3]) (st' := []) (h' := q1.2) (fun n w => w) (fun b2 => ?_) (fun b2 => ?_)
  · rw [if_pos b2] at e
    exact hw_219_28 hd e q
  · rw [if_neg b2] at e
    obtain ⟨q4, eq4, e⟩ := hs_bind_some e
    try dsimp only at e
    refine hs_wc 3 (y := 171) (a := [hs_r 12 0, hs_i a2]) (v := some (hs_i q4.1)) (pc' := 13) (ls' := [hs_r 12 0, hs_i a1, hs_i a2, hs_i a3]) (st' := []) (h' := q1.2) (h2 := q4.2) (fun n w => w) (fun q => hc_171 (by omega) eq4 q) ?_
    refine hs_wb 1 (c := q4.1 = 0) (t := 28) (f := 16) (ls' := [hs_r 12 0, hs_i a1, hs_i a2, hs_i a3]) (st' := []) (h' := q4.2) (fun n w => w) (fun b5 => ?_) (fun b5 => ?_)
    · rw [if_pos b5] at e
      exact hw_219_28 hd e q
    · rw [if_neg b5] at e
      obtain ⟨q6, eq6, e⟩ := hs_bind_some e
      try dsimp only at e
      refine hs_wc 3 (y := 171) (a := [hs_r 12 0, hs_i a3]) (v := some (hs_i q6.1)) (pc' := 21) (ls' := [hs_r 12 0, hs_i a1, hs_i a2, hs_i a3]) (st' := []) (h' := q4.2) (h2 := q6.2) (fun n w => w) (fun q => hc_171 (by omega) eq6 q) ?_
      refine hs_wb 1 (c := q6.1 = 0) (t := 28) (f := 24) (ls' := [hs_r 12 0, hs_i a1, hs_i a2, hs_i a3]) (st' := []) (h' := q6.2) (fun n w => w) (fun b7 => ?_) (fun b7 => ?_)
      · rw [if_pos b7] at e
        exact hw_219_28 hd e q
      · rw [if_neg b7] at e
        refine hs_w 2 (pc' := 29) (ls' := [hs_r 12 0, hs_i a1, hs_i a2, hs_i a3]) (st' := [hs_i (nI 1)]) (h' := q6.2) (fun n w => w) ?_
        exact hw_219_29 hd e q
def hb_220_43    (s0 : Int32) (h : hs_H) : Option (Int32 × hs_H) := some (s0, h)
set_option maxHeartbeats 1000000 in
theorem hw_220_43 {S : hs_S} {d : Nat} {Q : hs_Q} (hd : 5 ≤ d)     {s0 : Int32} {v1 : hs_V} {v2 : hs_V} {v3 : hs_V} {v4 : hs_V} {h : hs_H} {r : Int32 × hs_H} (e : hb_220_43 s0 h = some r) (q : Q (some (hs_i r.1)) r.2) : hs_W S d 1 hs_p220 Q 43 [hs_r 12 0, v1, v2, v3, v4] [hs_i s0] h := by
  unfold hb_220_43 at e
  obtain rfl := Option.some.inj e
  exact hs_wr 1 (v := some (hs_i s0)) (h' := h) (fun n w => w) q
/-- HuntedScentModel.caught(III)I -/
def hf_220 (a1 : Int32) (a2 : Int32) (a3 : Int32) (h : hs_H) : Option (Int32 × hs_H) := (hf_219 a1 a2 a3 h).bind (fun q1 => if ¬ q1.1 = 0 then ((hf_218 q1.2).bind (fun q3 => (hf_213 a1 a2 a3 q3).bind (fun q4 => hs_ck (hs_inb q4.1 1000) (if ¬ (q4.2.1 59 0 q4.1.toNatClampNeg) = (nI 99999) then (hb_220_43 (q4.2.1 59 0 q4.1.toNatClampNeg) q4.2) else (hb_220_43 (nI 4294967292) q4.2))))) else (some (nI 4294967295, q1.2)))
set_option maxHeartbeats 1000000 in
theorem hc_220 {S : hs_S} {D : Nat} {Q : hs_Q} (hD : 6 ≤ D) {a1 : Int32} {a2 : Int32} {a3 : Int32} {h : hs_H} {r : Int32 × hs_H} (e : hf_220 a1 a2 a3 h = some r) (q : Q (some (hs_i r.1)) r.2) : hs_call hs_ms S D 220 [hs_r 12 0, hs_i a1, hs_i a2, hs_i a3] h Q := by
  refine hs_go (R := 5) hD rfl (Nat.le_of_ble_eq_true rfl) (fun d hd => ?_)
  show hs_W S d 1 hs_p220 Q 0 [hs_r 12 0, hs_i a1, hs_i a2, hs_i a3, hs_u] [] h
  unfold hf_220 at e
  obtain ⟨q1, eq1, e⟩ := hs_bind_some e
  try dsimp only at e
  refine hs_wc 5 (y := 219) (a := [hs_r 12 0, hs_i a1, hs_i a2, hs_i a3]) (v := some (hs_i q1.1)) (pc' := 7) (ls' := [hs_r 12 0, hs_i a1, hs_i a2, hs_i a3, hs_u]) (st' := []) (h' := h) (h2 := q1.2) (fun n w => w) (fun q => hc_219 (by omega) eq1 q) ?_
  refine hs_wb 1 (c := ¬ q1.1 = 0) (t := 12) (f := 10) (ls' := [hs_r 12 0, hs_i a1, hs_i a2, hs_i a3, hs_u]) (st' := []) (h' := q1.2) (fun n w => w) (fun b2 => ?_) (fun b2 => ?_)
  · rw [if_pos b2] at e
    obtain ⟨q3, eq3, e⟩ := hs_bind_some e
    try dsimp only at e
    refine hs_wc 2 (y := 218) (a := [hs_r 12 0]) (v := none) (pc' := 16) (ls' := [hs_r 12 0, hs_i a1, hs_i a2, hs_i a3, hs_u]) (st' := []) (h' := q1.2) (h2 := q3) (fun n w => w) (fun q => hc_218 (by omega) eq3 q) ?_
    obtain ⟨q4, eq4, e⟩ := hs_bind_some e
    try dsimp only at e
    refine hs_wc 6 (y := 213) (a := [hs_i a1, hs_i a2, hs_i a3]) (v := some (hs_i q4.1)) (pc' := 26) (ls' := [hs_r 12 0, hs_i a1, hs_i a2, hs_i a3, hs_u]) (st' := [hs_r 59 0]) (h' := q3) (h2 := q4.2) (fun n w => w) (fun q => hc_213 (by omega) eq4 q) ?_
    obtain ⟨c5, e⟩ := hs_ck_some e
    refine hs_wa 1 (c := vp_in q4.1 1000) (pc' := 27) (ls' := [hs_r 12 0, hs_i a1, hs_i a2, hs_i a3, hs_u]) (st' := [hs_i (q4.2.1 59 0 q4.1.toNatClampNeg)]) (h' := q4.2) (fun n w => w) (hs_inb_iff.mp c5) ?_
    refine hs_wb 4 (c := ¬ (q4.2.1 59 0 q4.1.toNatClampNeg) = (nI 99999)) (t := 41) (f := 36) (ls' := [hs_r 12 0, hs_i a1, hs_i a2, hs_i a3, hs_i (q4.2.1 59 0 q4.1.toNatClampNeg)]) (st' := []) (h' := q4.2) (fun n w => w) (fun b6 => ?_) (fun b6 => ?_)
    · rw [if_pos b6] at e
      refine hs_w 1 (pc' := 43) (ls' := [hs_r 12 0, hs_i a1, hs_i a2, hs_i a3, hs_i (q4.2.1 59 0 q4.1.toNatClampNeg)]) (st' := [hs_i (q4.2.1 59 0 q4.1.toNatClampNeg)]) (h' := q4.2) (fun n w => w) ?_
      exact hw_220_43 hd e q
    · rw [if_neg b6] at e
      refine hs_w 2 (pc' := 43) (ls' := [hs_r 12 0, hs_i a1, hs_i a2, hs_i a3, hs_i (q4.2.1 59 0 q4.1.toNatClampNeg)]) (st' := [hs_i (nI 4294967292)]) (h' := q4.2) (fun n w => w) ?_
      exact hw_220_43 hd e q
  · rw [if_neg b2] at e
    obtain rfl := Option.some.inj e
    exact hs_wr 2 (v := some (hs_i (nI 4294967295))) (h' := q1.2) (fun n w => w) q
def hb_221_22     (h : hs_H) : Option (Int32 × hs_H) := some (nI 4294967294, h)
set_option maxHeartbeats 1000000 in
theorem hw_221_22 {S : hs_S} {d : Nat} {Q : hs_Q} (hd : 5 ≤ d)      {v1 : hs_V} {v2 : hs_V} {v3 : hs_V} {v4 : hs_V} {v5 : hs_V} {v6 : hs_V} {v7 : hs_V} {h : hs_H} {r : Int32 × hs_H} (e : hb_221_22 h = some r) (q : Q (some (hs_i r.1)) r.2) : hs_W S d 1 hs_p221 Q 22 [hs_r 12 0, v1, v2, v3, v4, v5, v6, v7] [] h := by
  unfold hb_221_22 at e
  obtain rfl := Option.some.inj e
  exact hs_wr 2 (v := some (hs_i (nI 4294967294))) (h' := h) (fun n w => w) q
def hb_221_102  (k39 : Int32 × Int32 × Int32 × Int32 × Int32 × Int32 × hs_H → Option (Int32 × hs_H)) (x1 : Int32) (x2 : Int32) (x3 : Int32) (x4 : Int32) (x6 : Int32) (s0 : Int32) (h : hs_H) : Option (Int32 × hs_H) := k39 (x1, x2, x3, x4, s0, x6 + nI 1, h)
set_option maxHeartbeats 1000000 in
theorem hw_221_102 {S : hs_S} {d : Nat} {Q : hs_Q} (hd : 5 ≤ d)  {k39 : Int32 × Int32 × Int32 × Int32 × Int32 × Int32 × hs_H → Option (Int32 × hs_H)} (hk39 : ∀ (x1 : Int32) (x2 : Int32) (x3 : Int32) (x4 : Int32) (x5 : Int32) (x6 : Int32) (h : hs_H) (r : Int32 × hs_H) (v7 : hs_V), k39 (x1, x2, x3, x4, x5, x6, h) = some r → Q (some (hs_i r.1)) r.2 → hs_W S d 1 hs_p221 Q 39 [hs_r 12 0, hs_i x1, hs_i x2, hs_i x3, hs_i x4, hs_i x5, hs_i x6, v7] [] h) {x1 : Int32} {x2 : Int32} {x3 : Int32} {x4 : Int32} {x6 : Int32} {s0 : Int32} {v5 : hs_V} {v7 : hs_V} {h : hs_H} {r : Int32 × hs_H} (e : hb_221_102 k39 x1 x2 x3 x4 x6 s0 h = some r) (q : Q (some (hs_i r.1)) r.2) : hs_W S d 1 hs_p221 Q 102 [hs_r 12 0, hs_i x1, hs_i x2, hs_i x3, hs_i x4, v5, hs_i x6, v7] [hs_i s0] h := by
  unfold hb_221_102 at e
  refine hs_w 3 (pc' := 39) (ls' := [hs_r 12 0, hs_i x1, hs_i x2, hs_i x3, hs_i x4, hs_i s0, hs_i (x6 + nI 1), v7]) (st' := []) (h' := h) (fun n w => w) ?_
  exact hk39 _ _ _ _ _ _ _ _ _ e q
def hb_221_86  (k39 : Int32 × Int32 × Int32 × Int32 × Int32 × Int32 × hs_H → Option (Int32 × hs_H)) (x1 : Int32) (x2 : Int32) (x3 : Int32) (x5 : Int32) (x6 : Int32) (x7 : Int32) (s0 : Int32) (h : hs_H) : Option (Int32 × hs_H) := if x7 ≤ x5 then (hb_221_102 k39 x1 x2 x3 s0 x6 x5 h) else (hb_221_102 k39 x1 x2 x3 s0 x6 x7 h)
set_option maxHeartbeats 1000000 in
theorem hw_221_86 {S : hs_S} {d : Nat} {Q : hs_Q} (hd : 5 ≤ d)  {k39 : Int32 × Int32 × Int32 × Int32 × Int32 × Int32 × hs_H → Option (Int32 × hs_H)} (hk39 : ∀ (x1 : Int32) (x2 : Int32) (x3 : Int32) (x4 : Int32) (x5 : Int32) (x6 : Int32) (h : hs_H) (r : Int32 × hs_H) (v7 : hs_V), k39 (x1, x2, x3, x4, x5, x6, h) = some r → Q (some (hs_i r.1)) r.2 → hs_W S d 1 hs_p221 Q 39 [hs_r 12 0, hs_i x1, hs_i x2, hs_i x3, hs_i x4, hs_i x5, hs_i x6, v7] [] h) {x1 : Int32} {x2 : Int32} {x3 : Int32} {x5 : Int32} {x6 : Int32} {x7 : Int32} {s0 : Int32} {v4 : hs_V} {h : hs_H} {r : Int32 × hs_H} (e : hb_221_86 k39 x1 x2 x3 x5 x6 x7 s0 h = some r) (q : Q (some (hs_i r.1)) r.2) : hs_W S d 1 hs_p221 Q 86 [hs_r 12 0, hs_i x1, hs_i x2, hs_i x3, v4, hs_i x5, hs_i x6, hs_i x7] [hs_i s0] h := by
  unfold hb_221_86 at e
  refine hs_wb 4 (c := x7 ≤ x5) (t := 100) (f := 95) (ls' := [hs_r 12 0, hs_i x1, hs_i x2, hs_i x3, hs_i s0, hs_i x5, hs_i x6, hs_i x7]) (st' := []) (h' := h) (fun n w => w) (fun b10 => ?_) (fun b10 => ?_)
  · rw [if_pos b10] at e
    refine hs_w 1 (pc' := 102) (ls' := [hs_r 12 0, hs_i x1, hs_i x2, hs_i x3, hs_i s0, hs_i x5, hs_i x6, hs_i x7]) (st' := [hs_i x5]) (h' := h) (fun n w => w) ?_
    exact hw_221_102 hd hk39 e q
  · rw [if_neg b10] at e
    refine hs_w 2 (pc' := 102) (ls' := [hs_r 12 0, hs_i x1, hs_i x2, hs_i x3, hs_i s0, hs_i x5, hs_i x6, hs_i x7]) (st' := [hs_i x7]) (h' := h) (fun n w => w) ?_
    exact hw_221_102 hd hk39 e q
def hb_221_70  (k39 : Int32 × Int32 × Int32 × Int32 × Int32 × Int32 × hs_H → Option (Int32 × hs_H)) (x1 : Int32) (x2 : Int32) (x3 : Int32) (x4 : Int32) (x5 : Int32) (x6 : Int32) (s0 : Int32) (h : hs_H) : Option (Int32 × hs_H) := if s0 ≤ x5 then (hb_221_86 k39 x1 x2 x3 x5 x6 s0 x4 h) else (hb_221_86 k39 x1 x2 x3 x5 x6 s0 x6 h)
set_option maxHeartbeats 1000000 in
theorem hw_221_70 {S : hs_S} {d : Nat} {Q : hs_Q} (hd : 5 ≤ d)  {k39 : Int32 × Int32 × Int32 × Int32 × Int32 × Int32 × hs_H → Option (Int32 × hs_H)} (hk39 : ∀ (x1 : Int32) (x2 : Int32) (x3 : Int32) (x4 : Int32) (x5 : Int32) (x6 : Int32) (h : hs_H) (r : Int32 × hs_H) (v7 : hs_V), k39 (x1, x2, x3, x4, x5, x6, h) = some r → Q (some (hs_i r.1)) r.2 → hs_W S d 1 hs_p221 Q 39 [hs_r 12 0, hs_i x1, hs_i x2, hs_i x3, hs_i x4, hs_i x5, hs_i x6, v7] [] h) {x1 : Int32} {x2 : Int32} {x3 : Int32} {x4 : Int32} {x5 : Int32} {x6 : Int32} {s0 : Int32} {v7 : hs_V} {h : hs_H} {r : Int32 × hs_H} (e : hb_221_70 k39 x1 x2 x3 x4 x5 x6 s0 h = some r) (q : Q (some (hs_i r.1)) r.2) : hs_W S d 1 hs_p221 Q 70 [hs_r 12 0, hs_i x1, hs_i x2, hs_i x3, hs_i x4, hs_i x5, hs_i x6, v7] [hs_i s0] h := by
  unfold hb_221_70 at e
  refine hs_wb 4 (c := s0 ≤ x5) (t := 84) (f := 79) (ls' := [hs_r 12 0, hs_i x1, hs_i x2, hs_i x3, hs_i x4, hs_i x5, hs_i x6, hs_i s0]) (st' := []) (h' := h) (fun n w => w) (fun b9 => ?_) (fun b9 => ?_)
  · rw [if_pos b9] at e
    refine hs_w 1 (pc' := 86) (ls' := [hs_r 12 0, hs_i x1, hs_i x2, hs_i x3, hs_i x4, hs_i x5, hs_i x6, hs_i s0]) (st' := [hs_i x4]) (h' := h) (fun n w => w) ?_
    exact hw_221_86 hd hk39 e q
  · rw [if_neg b9] at e
    refine hs_w 2 (pc' := 86) (ls' := [hs_r 12 0, hs_i x1, hs_i x2, hs_i x3, hs_i x4, hs_i x5, hs_i x6, hs_i s0]) (st' := [hs_i x6]) (h' := h) (fun n w => w) ?_
    exact hw_221_86 hd hk39 e q
def hb_221_39  (k39 : Int32 × Int32 × Int32 × Int32 × Int32 × Int32 × hs_H → Option (Int32 × hs_H)) (x1 : Int32) (x2 : Int32) (x3 : Int32) (x4 : Int32) (x5 : Int32) (x6 : Int32)  (h : hs_H) : Option (Int32 × hs_H) := if (h.1 12 0 2) ≤ x6 then (some (x4, h)) else ((hf_216 x1 x6 h).bind (fun q7 => if q7.1 = 0 then (hb_221_70 k39 x1 x2 x3 x4 x5 x6 (nI 0) q7.2) else ((hf_215 x6 x2 x3 q7.2).bind (fun q11 => hb_221_70 k39 x1 x2 x3 x4 x5 x6 q11.1 q11.2))))
set_option maxHeartbeats 1000000 in
theorem hw_221_39 {S : hs_S} {d : Nat} {Q : hs_Q} (hd : 5 ≤ d)  {k39 : Int32 × Int32 × Int32 × Int32 × Int32 × Int32 × hs_H → Option (Int32 × hs_H)} (hk39 : ∀ (x1 : Int32) (x2 : Int32) (x3 : Int32) (x4 : Int32) (x5 : Int32) (x6 : Int32) (h : hs_H) (r : Int32 × hs_H) (v7 : hs_V), k39 (x1, x2, x3, x4, x5, x6, h) = some r → Q (some (hs_i r.1)) r.2 → hs_W S d 1 hs_p221 Q 39 [hs_r 12 0, hs_i x1, hs_i x2, hs_i x3, hs_i x4, hs_i x5, hs_i x6, v7] [] h) {x1 : Int32} {x2 : Int32} {x3 : Int32} {x4 : Int32} {x5 : Int32} {x6 : Int32}  {v7 : hs_V} {h : hs_H} {r : Int32 × hs_H} (e : hb_221_39 k39 x1 x2 x3 x4 x5 x6 h = some r) (q : Q (some (hs_i r.1)) r.2) : hs_W S d 1 hs_p221 Q 39 [hs_r 12 0, hs_i x1, hs_i x2, hs_i x3, hs_i x4, hs_i x5, hs_i x6, v7] [] h := by
  unfold hb_221_39 at e
  refine hs_wb 4 (c := (h.1 12 0 2) ≤ x6) (t := 110) (f := 48) (ls' := [hs_r 12 0, hs_i x1, hs_i x2, hs_i x3, hs_i x4, hs_i x5, hs_i x6, v7]) (st' := []) (h' := h) (fun n w => w) (fun b6 => ?_) (fun b6 => ?_)
  · rw [if_pos b6] at e
    obtain rfl := Option.some.inj e
    exact hs_wr 2 (v := some (hs_i x4)) (h' := h) (fun n w => w) q
  · rw [if_neg b6] at e
    obtain ⟨q7, eq7, e⟩ := hs_bind_some e
    try dsimp only at e
    refine hs_wc 4 (y := 216) (a := [hs_r 12 0, hs_i x1, hs_i x6]) (v := some (hs_i q7.1)) (pc' := 55) (ls' := [hs_r 12 0, hs_i x1, hs_i x2, hs_i x3, hs_i x4, hs_i x5, hs_i x6, v7]) (st' := []) (h' := h) (h2 := q7.2) (fun n w => w) (fun q => hc_216 (by omega) eq7 q) ?_
    refine hs_wb 1 (c := q7.1 = 0) (t := 69) (f := 58) (ls' := [hs_r 12 0, hs_i x1, hs_i x2, hs_i x3, hs_i x4, hs_i x5, hs_i x6, v7]) (st' := []) (h' := q7.2) (fun n w => w) (fun b8 => ?_) (fun b8 => ?_)
    · rw [if_pos b8] at e
      refine hs_w 1 (pc' := 70) (ls' := [hs_r 12 0, hs_i x1, hs_i x2, hs_i x3, hs_i x4, hs_i x5, hs_i x6, v7]) (st' := [hs_i (nI 0)]) (h' := q7.2) (fun n w => w) ?_
      exact hw_221_70 hd hk39 e q
    · rw [if_neg b8] at e
      obtain ⟨q11, eq11, e⟩ := hs_bind_some e
      try dsimp only at e
      refine hs_wc 5 (y := 215) (a := [hs_r 12 0, hs_i x6, hs_i x2, hs_i x3]) (v := some (hs_i q11.1)) (pc' := 66) (ls' := [hs_r 12 0, hs_i x1, hs_i x2, hs_i x3, hs_i x4, hs_i x5, hs_i x6, v7]) (st' := []) (h' := q7.2) (h2 := q11.2) (fun n w => w) (fun q => hc_215 (by omega) eq11 q) ?_
      refine hs_w 1 (pc' := 70) (ls' := [hs_r 12 0, hs_i x1, hs_i x2, hs_i x3, hs_i x4, hs_i x5, hs_i x6, v7]) (st' := [hs_i q11.1]) (h' := q11.2) (fun n w => w) ?_
      exact hw_221_70 hd hk39 e q
theorem hw_221_39_lp {S : hs_S} {d : Nat} {Q : hs_Q} (hd : 5 ≤ d)    (n : Nat) {x1 : Int32} {x2 : Int32} {x3 : Int32} {x4 : Int32} {x5 : Int32} {x6 : Int32} {h : hs_H} {r : Int32 × hs_H} (e : hs_lp (fun k s => hb_221_39 k s.1 s.2.1 s.2.2.1 s.2.2.2.1 s.2.2.2.2.1 s.2.2.2.2.2.1 s.2.2.2.2.2.2) n (x1, x2, x3, x4, x5, x6, h) = some r) (v7 : hs_V) (q : Q (some (hs_i r.1)) r.2) : hs_W S d 1 hs_p221 Q 39 [hs_r 12 0, hs_i x1, hs_i x2, hs_i x3, hs_i x4, hs_i x5, hs_i x6, v7] [] h := by
  refine hs_lp_ind (P := fun (s : Int32 × Int32 × Int32 × Int32 × Int32 × Int32 × hs_H) (r : Int32 × hs_H) => ∀ (v7 : hs_V), Q (some (hs_i r.1)) r.2 → hs_W S d 1 hs_p221 Q 39 [hs_r 12 0, hs_i s.1, hs_i s.2.1, hs_i s.2.2.1, hs_i s.2.2.2.1, hs_i s.2.2.2.2.1, hs_i s.2.2.2.2.2.1, v7] [] s.2.2.2.2.2.2) (fun k hk s r e v7 q => ?_) n (x1, x2, x3, x4, x5, x6, h) r e v7 q
  exact hw_221_39 hd (fun x1 x2 x3 x4 x5 x6 h r v7 e q => hk (x1, x2, x3, x4, x5, x6, h) r e v7 q) e q
/-- HuntedScentModel.flees(III)I -/
def hf_221 (a1 : Int32) (a2 : Int32) (a3 : Int32) (h : hs_H) : Option (Int32 × hs_H) := (hf_219 a1 a2 a3 h).bind (fun q1 => if ¬ q1.1 = 0 then (if a1 = a2 then (hb_221_22 q1.2) else (if ¬ a1 = a3 then ((hf_218 q1.2).bind (fun q5 => hs_lp (fun k s => hb_221_39 k s.1 s.2.1 s.2.2.1 s.2.2.2.1 s.2.2.2.2.1 s.2.2.2.2.2.1 s.2.2.2.2.2.2) hs_big (a1, a2, a3, nI 4294967292, nI 0, nI 0, q5))) else (hb_221_22 q1.2))) else (some (nI 4294967295, q1.2)))
set_option maxHeartbeats 1000000 in
theorem hc_221 {S : hs_S} {D : Nat} {Q : hs_Q} (hD : 6 ≤ D) {a1 : Int32} {a2 : Int32} {a3 : Int32} {h : hs_H} {r : Int32 × hs_H} (e : hf_221 a1 a2 a3 h = some r) (q : Q (some (hs_i r.1)) r.2) : hs_call hs_ms S D 221 [hs_r 12 0, hs_i a1, hs_i a2, hs_i a3] h Q := by
  refine hs_go (R := 5) hD rfl (Nat.le_of_ble_eq_true rfl) (fun d hd => ?_)
  show hs_W S d 1 hs_p221 Q 0 [hs_r 12 0, hs_i a1, hs_i a2, hs_i a3, hs_u, hs_u, hs_u, hs_u] [] h
  unfold hf_221 at e
  obtain ⟨q1, eq1, e⟩ := hs_bind_some e
  try dsimp only at e
  refine hs_wc 5 (y := 219) (a := [hs_r 12 0, hs_i a1, hs_i a2, hs_i a3]) (v := some (hs_i q1.1)) (pc' := 7) (ls' := [hs_r 12 0, hs_i a1, hs_i a2, hs_i a3, hs_u, hs_u, hs_u, hs_u]) (st' := []) (h' := h) (h2 := q1.2) (fun n w => w) (fun q => hc_219 (by omega) eq1 q) ?_
  refine hs_wb 1 (c := ¬ q1.1 = 0) (t := 12) (f := 10) (ls' := [hs_r 12 0, hs_i a1, hs_i a2, hs_i a3, hs_u, hs_u, hs_u, hs_u]) (st' := []) (h' := q1.2) (fun n w => w) (fun b2 => ?_) (fun b2 => ?_)
  · rw [if_pos b2] at e
    refine hs_wb 3 (c := a1 = a2) (t := 22) (f := 17) (ls' := [hs_r 12 0, hs_i a1, hs_i a2, hs_i a3, hs_u, hs_u, hs_u, hs_u]) (st' := []) (h' := q1.2) (fun n w => w) (fun b3 => ?_) (fun b3 => ?_)
    · rw [if_pos b3] at e
      exact hw_221_22 hd e q
    · rw [if_neg b3] at e
      refine hs_wb 3 (c := ¬ a1 = a3) (t := 25) (f := 22) (ls' := [hs_r 12 0, hs_i a1, hs_i a2, hs_i a3, hs_u, hs_u, hs_u, hs_u]) (st' := []) (h' := q1.2) (fun n w => w) (fun b4 => ?_) (fun b4 => ?_)
      · rw [if_pos b4] at e
        obtain ⟨q5, eq5, e⟩ := hs_bind_some e
        try dsimp only at e
        refine hs_wc 2 (y := 218) (a := [hs_r 12 0]) (v := none) (pc' := 29) (ls' := [hs_r 12 0, hs_i a1, hs_i a2, hs_i a3, hs_u, hs_u, hs_u, hs_u]) (st' := []) (h' := q1.2) (h2 := q5) (fun n w => w) (fun q => hc_218 (by omega) eq5 q) ?_
        refine hs_w 6 (pc' := 39) (ls' := [hs_r 12 0, hs_i a1, hs_i a2, hs_i a3, hs_i (nI 4294967292), hs_i (nI 0), hs_i (nI 0), hs_u]) (st' := []) (h' := q5) (fun n w => w) ?_
        exact hw_221_39_lp hd hs_big e _ q
      · rw [if_neg b4] at e
        exact hw_221_22 hd e q
  · rw [if_neg b2] at e
    obtain rfl := Option.some.inj e
    exact hs_wr 2 (v := some (hs_i (nI 4294967295))) (h' := q1.2) (fun n w => w) q
def hb_222_164    (s0 : Int32) (h : hs_H) : Option (Int32 × hs_H) := some (s0, h)
set_option maxHeartbeats 1000000 in
theorem hw_222_164 {S : hs_S} {d : Nat} {Q : hs_Q} (hd : 5 ≤ d)     {s0 : Int32} {v1 : hs_V} {v2 : hs_V} {v3 : hs_V} {v4 : hs_V} {v5 : hs_V} {v6 : hs_V} {v7 : hs_V} {v8 : hs_V} {h : hs_H} {r : Int32 × hs_H} (e : hb_222_164 s0 h = some r) (q : Q (some (hs_i r.1)) r.2) : hs_W S d 1 hs_p222 Q 164 [hs_r 12 0, v1, v2, v3, v4, v5, v6, v7, v8] [hs_i s0] h := by
  unfold hb_222_164 at e
  obtain rfl := Option.some.inj e
  exact hs_wr 1 (v := some (hs_i s0)) (h' := h) (fun n w => w) q
def hb_222_131  (k25 : Int32 × Int32 × Int32 × Int32 × hs_H → Option (Int32 × hs_H)) (k38 : Int32 × Int32 × Int32 × Int32 × Int32 × hs_H → Option (Int32 × hs_H)) (x1 : Int32) (x2 : Int32) (x4 : Int32) (x5 : Int32) (s0 : Int32) (h : hs_H) : Option (Int32 × hs_H) := k38 (x1, x2, s0, x4, x5 + nI 1, h)
set_option maxHeartbeats 1000000 in
theorem hw_222_131 {S : hs_S} {d : Nat} {Q : hs_Q} (hd : 5 ≤ d)  {k25 : Int32 × Int32 × Int32 × Int32 × hs_H → Option (Int32 × hs_H)} {k38 : Int32 × Int32 × Int32 × Int32 × Int32 × hs_H → Option (Int32 × hs_H)} (hk25 : ∀ (x1 : Int32) (x2 : Int32) (x3 : Int32) (x4 : Int32) (h : hs_H) (r : Int32 × hs_H) (v5 : hs_V) (v6 : hs_V) (v7 : hs_V) (v8 : hs_V), k25 (x1, x2, x3, x4, h) = some r → Q (some (hs_i r.1)) r.2 → hs_W S d 1 hs_p222 Q 25 [hs_r 12 0, hs_i x1, hs_i x2, hs_i x3, hs_i x4, v5, v6, v7, v8] [] h) (hk38 : ∀ (x1 : Int32) (x2 : Int32) (x3 : Int32) (x4 : Int32) (x5 : Int32) (h : hs_H) (r : Int32 × hs_H) (v6 : hs_V) (v7 : hs_V) (v8 : hs_V), k38 (x1, x2, x3, x4, x5, h) = some r → Q (some (hs_i r.1)) r.2 → hs_W S d 1 hs_p222 Q 38 [hs_r 12 0, hs_i x1, hs_i x2, hs_i x3, hs_i x4, hs_i x5, v6, v7, v8] [] h) {x1 : Int32} {x2 : Int32} {x4 : Int32} {x5 : Int32} {s0 : Int32} {v3 : hs_V} {v6 : hs_V} {v7 : hs_V} {v8 : hs_V} {h : hs_H} {r : Int32 × hs_H} (e : hb_222_131 k25 k38 x1 x2 x4 x5 s0 h = some r) (q : Q (some (hs_i r.1)) r.2) : hs_W S d 1 hs_p222 Q 131 [hs_r 12 0, hs_i x1, hs_i x2, v3, hs_i x4, hs_i x5, v6, v7, v8] [hs_i s0] h := by
  unfold hb_222_131 at e
  refine hs_w 3 (pc' := 38) (ls' := [hs_r 12 0, hs_i x1, hs_i x2, hs_i s0, hs_i x4, hs_i (x5 + nI 1), v6, v7, v8]) (st' := []) (h' := h) (fun n w => w) ?_
  exact hk38 _ _ _ _ _ _ _ _ _ _ e q
def hb_222_118  (k25 : Int32 × Int32 × Int32 × Int32 × hs_H → Option (Int32 × hs_H)) (k38 : Int32 × Int32 × Int32 × Int32 × Int32 × hs_H → Option (Int32 × hs_H)) (x1 : Int32) (x3 : Int32) (x4 : Int32) (x5 : Int32) (x6 : Int32) (s0 : Int32) (h : hs_H) : Option (Int32 × hs_H) := if x3 ≤ x6 then (hb_222_131 k25 k38 x1 s0 x4 x5 x3 h) else (hb_222_131 k25 k38 x1 s0 x4 x5 x6 h)
set_option maxHeartbeats 1000000 in
theorem hw_222_118 {S : hs_S} {d : Nat} {Q : hs_Q} (hd : 5 ≤ d)  {k25 : Int32 × Int32 × Int32 × Int32 × hs_H → Option (Int32 × hs_H)} {k38 : Int32 × Int32 × Int32 × Int32 × Int32 × hs_H → Option (Int32 × hs_H)} (hk25 : ∀ (x1 : Int32) (x2 : Int32) (x3 : Int32) (x4 : Int32) (h : hs_H) (r : Int32 × hs_H) (v5 : hs_V) (v6 : hs_V) (v7 : hs_V) (v8 : hs_V), k25 (x1, x2, x3, x4, h) = some r → Q (some (hs_i r.1)) r.2 → hs_W S d 1 hs_p222 Q 25 [hs_r 12 0, hs_i x1, hs_i x2, hs_i x3, hs_i x4, v5, v6, v7, v8] [] h) (hk38 : ∀ (x1 : Int32) (x2 : Int32) (x3 : Int32) (x4 : Int32) (x5 : Int32) (h : hs_H) (r : Int32 × hs_H) (v6 : hs_V) (v7 : hs_V) (v8 : hs_V), k38 (x1, x2, x3, x4, x5, h) = some r → Q (some (hs_i r.1)) r.2 → hs_W S d 1 hs_p222 Q 38 [hs_r 12 0, hs_i x1, hs_i x2, hs_i x3, hs_i x4, hs_i x5, v6, v7, v8] [] h) {x1 : Int32} {x3 : Int32} {x4 : Int32} {x5 : Int32} {x6 : Int32} {s0 : Int32} {v2 : hs_V} {v7 : hs_V} {v8 : hs_V} {h : hs_H} {r : Int32 × hs_H} (e : hb_222_118 k25 k38 x1 x3 x4 x5 x6 s0 h = some r) (q : Q (some (hs_i r.1)) r.2) : hs_W S d 1 hs_p222 Q 118 [hs_r 12 0, hs_i x1, v2, hs_i x3, hs_i x4, hs_i x5, hs_i x6, v7, v8] [hs_i s0] h := by
  unfold hb_222_118 at e
  refine hs_wb 4 (c := x3 ≤ x6) (t := 130) (f := 125) (ls' := [hs_r 12 0, hs_i x1, hs_i s0, hs_i x3, hs_i x4, hs_i x5, hs_i x6, v7, v8]) (st' := []) (h' := h) (fun n w => w) (fun b10 => ?_) (fun b10 => ?_)
  · rw [if_pos b10] at e
    refine hs_w 1 (pc' := 131) (ls' := [hs_r 12 0, hs_i x1, hs_i s0, hs_i x3, hs_i x4, hs_i x5, hs_i x6, v7, v8]) (st' := [hs_i x3]) (h' := h) (fun n w => w) ?_
    exact hw_222_131 hd hk25 hk38 e q
  · rw [if_neg b10] at e
    refine hs_w 2 (pc' := 131) (ls' := [hs_r 12 0, hs_i x1, hs_i s0, hs_i x3, hs_i x4, hs_i x5, hs_i x6, v7, v8]) (st' := [hs_i x6]) (h' := h) (fun n w => w) ?_
    exact hw_222_131 hd hk25 hk38 e q
def hb_222_92  (k25 : Int32 × Int32 × Int32 × Int32 × hs_H → Option (Int32 × hs_H)) (k38 : Int32 × Int32 × Int32 × Int32 × Int32 × hs_H → Option (Int32 × hs_H)) (k53 : Int32 × Int32 × Int32 × Int32 × Int32 × Int32 × Int32 × hs_H → Option (Int32 × hs_H)) (x1 : Int32) (x2 : Int32) (x3 : Int32) (x4 : Int32) (x5 : Int32) (x7 : Int32) (s0 : Int32) (h : hs_H) : Option (Int32 × hs_H) := k53 (x1, x2, x3, x4, x5, s0, x7 + nI 1, h)
set_option maxHeartbeats 1000000 in
theorem hw_222_92 {S : hs_S} {d : Nat} {Q : hs_Q} (hd : 5 ≤ d)  {k25 : Int32 × Int32 × Int32 × Int32 × hs_H → Option (Int32 × hs_H)} {k38 : Int32 × Int32 × Int32 × Int32 × Int32 × hs_H → Option (Int32 × hs_H)} {k53 : Int32 × Int32 × Int32 × Int32 × Int32 × Int32 × Int32 × hs_H → Option (Int32 × hs_H)} (hk25 : ∀ (x1 : Int32) (x2 : Int32) (x3 : Int32) (x4 : Int32) (h : hs_H) (r : Int32 × hs_H) (v5 : hs_V) (v6 : hs_V) (v7 : hs_V) (v8 : hs_V), k25 (x1, x2, x3, x4, h) = some r → Q (some (hs_i r.1)) r.2 → hs_W S d 1 hs_p222 Q 25 [hs_r 12 0, hs_i x1, hs_i x2, hs_i x3, hs_i x4, v5, v6, v7, v8] [] h) (hk38 : ∀ (x1 : Int32) (x2 : Int32) (x3 : Int32) (x4 : Int32) (x5 : Int32) (h : hs_H) (r : Int32 × hs_H) (v6 : hs_V) (v7 : hs_V) (v8 : hs_V), k38 (x1, x2, x3, x4, x5, h) = some r → Q (some (hs_i r.1)) r.2 → hs_W S d 1 hs_p222 Q 38 [hs_r 12 0, hs_i x1, hs_i x2, hs_i x3, hs_i x4, hs_i x5, v6, v7, v8] [] h) (hk53 : ∀ (x1 : Int32) (x2 : Int32) (x3 : Int32) (x4 : Int32) (x5 : Int32) (x6 : Int32) (x7 : Int32) (h : hs_H) (r : Int32 × hs_H) (v8 : hs_V), k53 (x1, x2, x3, x4, x5, x6, x7, h) = some r → Q (some (hs_i r.1)) r.2 → hs_W S d 1 hs_p222 Q 53 [hs_r 12 0, hs_i x1, hs_i x2, hs_i x3, hs_i x4, hs_i x5, hs_i x6, hs_i x7, v8] [] h) {x1 : Int32} {x2 : Int32} {x3 : Int32} {x4 : Int32} {x5 : Int32} {x7 : Int32} {s0 : Int32} {v6 : hs_V} {v8 : hs_V} {h : hs_H} {r : Int32 × hs_H} (e : hb_222_92 k25 k38 k53 x1 x2 x3 x4 x5 x7 s0 h = some r) (q : Q (some (hs_i r.1)) r.2) : hs_W S d 1 hs_p222 Q 92 [hs_r 12 0, hs_i x1, hs_i x2, hs_i x3, hs_i x4, hs_i x5, v6, hs_i x7, v8] [hs_i s0] h := by
  unfold hb_222_92 at e
  refine hs_w 3 (pc' := 53) (ls' := [hs_r 12 0, hs_i x1, hs_i x2, hs_i x3, hs_i x4, hs_i x5, hs_i s0, hs_i (x7 + nI 1), v8]) (st' := []) (h' := h) (fun n w => w) ?_
  exact hk53 _ _ _ _ _ _ _ _ _ _ e q
def hb_222_53  (k25 : Int32 × Int32 × Int32 × Int32 × hs_H → Option (Int32 × hs_H)) (k38 : Int32 × Int32 × Int32 × Int32 × Int32 × hs_H → Option (Int32 × hs_H)) (k53 : Int32 × Int32 × Int32 × Int32 × Int32 × Int32 × Int32 × hs_H → Option (Int32 × hs_H)) (x1 : Int32) (x2 : Int32) (x3 : Int32) (x4 : Int32) (x5 : Int32) (x6 : Int32) (x7 : Int32)  (h : hs_H) : Option (Int32 × hs_H) := if (h.1 12 0 2) ≤ x7 then (if x3 ≤ x6 then (hb_222_118 k25 k38 x1 x3 x4 x5 x6 x2 h) else (hb_222_118 k25 k38 x1 x3 x4 x5 x6 (((nI 10) * x4) + x5) h)) else ((hf_213 x7 x4 x5 h).bind (fun q11 => hs_ck (hs_inb q11.1 1000) (if (q11.2.1 59 0 q11.1.toNatClampNeg) ≤ x6 then (hb_222_92 k25 k38 k53 x1 x2 x3 x4 x5 x7 x6 q11.2) else (hb_222_92 k25 k38 k53 x1 x2 x3 x4 x5 x7 (q11.2.1 59 0 q11.1.toNatClampNeg) q11.2))))
set_option maxHeartbeats 1000000 in
theorem hw_222_53 {S : hs_S} {d : Nat} {Q : hs_Q} (hd : 5 ≤ d)  {k25 : Int32 × Int32 × Int32 × Int32 × hs_H → Option (Int32 × hs_H)} {k38 : Int32 × Int32 × Int32 × Int32 × Int32 × hs_H → Option (Int32 × hs_H)} {k53 : Int32 × Int32 × Int32 × Int32 × Int32 × Int32 × Int32 × hs_H → Option (Int32 × hs_H)} (hk25 : ∀ (x1 : Int32) (x2 : Int32) (x3 : Int32) (x4 : Int32) (h : hs_H) (r : Int32 × hs_H) (v5 : hs_V) (v6 : hs_V) (v7 : hs_V) (v8 : hs_V), k25 (x1, x2, x3, x4, h) = some r → Q (some (hs_i r.1)) r.2 → hs_W S d 1 hs_p222 Q 25 [hs_r 12 0, hs_i x1, hs_i x2, hs_i x3, hs_i x4, v5, v6, v7, v8] [] h) (hk38 : ∀ (x1 : Int32) (x2 : Int32) (x3 : Int32) (x4 : Int32) (x5 : Int32) (h : hs_H) (r : Int32 × hs_H) (v6 : hs_V) (v7 : hs_V) (v8 : hs_V), k38 (x1, x2, x3, x4, x5, h) = some r → Q (some (hs_i r.1)) r.2 → hs_W S d 1 hs_p222 Q 38 [hs_r 12 0, hs_i x1, hs_i x2, hs_i x3, hs_i x4, hs_i x5, v6, v7, v8] [] h) (hk53 : ∀ (x1 : Int32) (x2 : Int32) (x3 : Int32) (x4 : Int32) (x5 : Int32) (x6 : Int32) (x7 : Int32) (h : hs_H) (r : Int32 × hs_H) (v8 : hs_V), k53 (x1, x2, x3, x4, x5, x6, x7, h) = some r → Q (some (hs_i r.1)) r.2 → hs_W S d 1 hs_p222 Q 53 [hs_r 12 0, hs_i x1, hs_i x2, hs_i x3, hs_i x4, hs_i x5, hs_i x6, hs_i x7, v8] [] h) {x1 : Int32} {x2 : Int32} {x3 : Int32} {x4 : Int32} {x5 : Int32} {x6 : Int32} {x7 : Int32}  {v8 : hs_V} {h : hs_H} {r : Int32 × hs_H} (e : hb_222_53 k25 k38 k53 x1 x2 x3 x4 x5 x6 x7 h = some r) (q : Q (some (hs_i r.1)) r.2) : hs_W S d 1 hs_p222 Q 53 [hs_r 12 0, hs_i x1, hs_i x2, hs_i x3, hs_i x4, hs_i x5, hs_i x6, hs_i x7, v8] [] h := by
  unfold hb_222_53 at e
  refine hs_wb 4 (c := (h.1 12 0 2) ≤ x7) (t := 100) (f := 62) (ls' := [hs_r 12 0, hs_i x1, hs_i x2, hs_i x3, hs_i x4, hs_i x5, hs_i x6, hs_i x7, v8]) (st' := []) (h' := h) (fun n w => w) (fun b8 => ?_) (fun b8 => ?_)
  · rw [if_pos b8] at e
    refine hs_wb 3 (c := x3 ≤ x6) (t := 117) (f := 106) (ls' := [hs_r 12 0, hs_i x1, hs_i x2, hs_i x3, hs_i x4, hs_i x5, hs_i x6, hs_i x7, v8]) (st' := []) (h' := h) (fun n w => w) (fun b9 => ?_) (fun b9 => ?_)
    · rw [if_pos b9] at e
      refine hs_w 1 (pc' := 118) (ls' := [hs_r 12 0, hs_i x1, hs_i x2, hs_i x3, hs_i x4, hs_i x5, hs_i x6, hs_i x7, v8]) (st' := [hs_i x2]) (h' := h) (fun n w => w) ?_
      exact hw_222_118 hd hk25 hk38 e q
    · rw [if_neg b9] at e
      refine hs_w 6 (pc' := 118) (ls' := [hs_r 12 0, hs_i x1, hs_i x2, hs_i x3, hs_i x4, hs_i x5, hs_i x6, hs_i x7, v8]) (st' := [hs_i (((nI 10) * x4) + x5)]) (h' := h) (fun n w => w) ?_
      exact hw_222_118 hd hk25 hk38 e q
  · rw [if_neg b8] at e
    obtain ⟨q11, eq11, e⟩ := hs_bind_some e
    try dsimp only at e
    refine hs_wc 6 (y := 213) (a := [hs_i x7, hs_i x4, hs_i x5]) (v := some (hs_i q11.1)) (pc' := 75) (ls' := [hs_r 12 0, hs_i x1, hs_i x2, hs_i x3, hs_i x4, hs_i x5, hs_i x6, hs_i x7, v8]) (st' := [hs_r 59 0]) (h' := h) (h2 := q11.2) (fun n w => w) (fun q => hc_213 (by omega) eq11 q) ?_
    obtain ⟨c12, e⟩ := hs_ck_some e
    refine hs_wa 1 (c := vp_in q11.1 1000) (pc' := 76) (ls' := [hs_r 12 0, hs_i x1, hs_i x2, hs_i x3, hs_i x4, hs_i x5, hs_i x6, hs_i x7, v8]) (st' := [hs_i (q11.2.1 59 0 q11.1.toNatClampNeg)]) (h' := q11.2) (fun n w => w) (hs_inb_iff.mp c12) ?_
    refine hs_wb 4 (c := (q11.2.1 59 0 q11.1.toNatClampNeg) ≤ x6) (t := 90) (f := 85) (ls' := [hs_r 12 0, hs_i x1, hs_i x2, hs_i x3, hs_i x4, hs_i x5, hs_i x6, hs_i x7, hs_i (q11.2.1 59 0 q11.1.toNatClampNeg)]) (st' := []) (h' := q11.2) (fun n w => w) (fun b13 => ?_) (fun b13 => ?_)
    · rw [if_pos b13] at e
      refine hs_w 1 (pc' := 92) (ls' := [hs_r 12 0, hs_i x1, hs_i x2, hs_i x3, hs_i x4, hs_i x5, hs_i x6, hs_i x7, hs_i (q11.2.1 59 0 q11.1.toNatClampNeg)]) (st' := [hs_i x6]) (h' := q11.2) (fun n w => w) ?_
      exact hw_222_92 hd hk25 hk38 hk53 e q
    · rw [if_neg b13] at e
      refine hs_w 2 (pc' := 92) (ls' := [hs_r 12 0, hs_i x1, hs_i x2, hs_i x3, hs_i x4, hs_i x5, hs_i x6, hs_i x7, hs_i (q11.2.1 59 0 q11.1.toNatClampNeg)]) (st' := [hs_i (q11.2.1 59 0 q11.1.toNatClampNeg)]) (h' := q11.2) (fun n w => w) ?_
      exact hw_222_92 hd hk25 hk38 hk53 e q
theorem hw_222_53_lp {S : hs_S} {d : Nat} {Q : hs_Q} (hd : 5 ≤ d)  {k25 : Int32 × Int32 × Int32 × Int32 × hs_H → Option (Int32 × hs_H)} {k38 : Int32 × Int32 × Int32 × Int32 × Int32 × hs_H → Option (Int32 × hs_H)} (hk25 : ∀ (x1 : Int32) (x2 : Int32) (x3 : Int32) (x4 : Int32) (h : hs_H) (r : Int32 × hs_H) (v5 : hs_V) (v6 : hs_V) (v7 : hs_V) (v8 : hs_V), k25 (x1, x2, x3, x4, h) = some r → Q (some (hs_i r.1)) r.2 → hs_W S d 1 hs_p222 Q 25 [hs_r 12 0, hs_i x1, hs_i x2, hs_i x3, hs_i x4, v5, v6, v7, v8] [] h) (hk38 : ∀ (x1 : Int32) (x2 : Int32) (x3 : Int32) (x4 : Int32) (x5 : Int32) (h : hs_H) (r : Int32 × hs_H) (v6 : hs_V) (v7 : hs_V) (v8 : hs_V), k38 (x1, x2, x3, x4, x5, h) = some r → Q (some (hs_i r.1)) r.2 → hs_W S d 1 hs_p222 Q 38 [hs_r 12 0, hs_i x1, hs_i x2, hs_i x3, hs_i x4, hs_i x5, v6, v7, v8] [] h) (n : Nat) {x1 : Int32} {x2 : Int32} {x3 : Int32} {x4 : Int32} {x5 : Int32} {x6 : Int32} {x7 : Int32} {h : hs_H} {r : Int32 × hs_H} (e : hs_lp (fun k s => hb_222_53 k25 k38 k s.1 s.2.1 s.2.2.1 s.2.2.2.1 s.2.2.2.2.1 s.2.2.2.2.2.1 s.2.2.2.2.2.2.1 s.2.2.2.2.2.2.2) n (x1, x2, x3, x4, x5, x6, x7, h) = some r) (v8 : hs_V) (q : Q (some (hs_i r.1)) r.2) : hs_W S d 1 hs_p222 Q 53 [hs_r 12 0, hs_i x1, hs_i x2, hs_i x3, hs_i x4, hs_i x5, hs_i x6, hs_i x7, v8] [] h := by
  refine hs_lp_ind (P := fun (s : Int32 × Int32 × Int32 × Int32 × Int32 × Int32 × Int32 × hs_H) (r : Int32 × hs_H) => ∀ (v8 : hs_V), Q (some (hs_i r.1)) r.2 → hs_W S d 1 hs_p222 Q 53 [hs_r 12 0, hs_i s.1, hs_i s.2.1, hs_i s.2.2.1, hs_i s.2.2.2.1, hs_i s.2.2.2.2.1, hs_i s.2.2.2.2.2.1, hs_i s.2.2.2.2.2.2.1, v8] [] s.2.2.2.2.2.2.2) (fun k hk s r e v8 q => ?_) n (x1, x2, x3, x4, x5, x6, x7, h) r e v8 q
  exact hw_222_53 hd hk25 hk38 (fun x1 x2 x3 x4 x5 x6 x7 h r v8 e q => hk (x1, x2, x3, x4, x5, x6, x7, h) r e v8 q) e q
def hb_222_38  (k25 : Int32 × Int32 × Int32 × Int32 × hs_H → Option (Int32 × hs_H)) (k38 : Int32 × Int32 × Int32 × Int32 × Int32 × hs_H → Option (Int32 × hs_H)) (x1 : Int32) (x2 : Int32) (x3 : Int32) (x4 : Int32) (x5 : Int32)  (h : hs_H) : Option (Int32 × hs_H) := if (h.1 12 0 2) ≤ x5 then (k25 (x1, x2, x3, x4 + nI 1, h)) else (hs_lp (fun k s => hb_222_53 k25 k38 k s.1 s.2.1 s.2.2.1 s.2.2.2.1 s.2.2.2.2.1 s.2.2.2.2.2.1 s.2.2.2.2.2.2.1 s.2.2.2.2.2.2.2) hs_big (x1, x2, x3, x4, x5, nI 0, nI 0, h))
set_option maxHeartbeats 1000000 in
theorem hw_222_38 {S : hs_S} {d : Nat} {Q : hs_Q} (hd : 5 ≤ d)  {k25 : Int32 × Int32 × Int32 × Int32 × hs_H → Option (Int32 × hs_H)} {k38 : Int32 × Int32 × Int32 × Int32 × Int32 × hs_H → Option (Int32 × hs_H)} (hk25 : ∀ (x1 : Int32) (x2 : Int32) (x3 : Int32) (x4 : Int32) (h : hs_H) (r : Int32 × hs_H) (v5 : hs_V) (v6 : hs_V) (v7 : hs_V) (v8 : hs_V), k25 (x1, x2, x3, x4, h) = some r → Q (some (hs_i r.1)) r.2 → hs_W S d 1 hs_p222 Q 25 [hs_r 12 0, hs_i x1, hs_i x2, hs_i x3, hs_i x4, v5, v6, v7, v8] [] h) (hk38 : ∀ (x1 : Int32) (x2 : Int32) (x3 : Int32) (x4 : Int32) (x5 : Int32) (h : hs_H) (r : Int32 × hs_H) (v6 : hs_V) (v7 : hs_V) (v8 : hs_V), k38 (x1, x2, x3, x4, x5, h) = some r → Q (some (hs_i r.1)) r.2 → hs_W S d 1 hs_p222 Q 38 [hs_r 12 0, hs_i x1, hs_i x2, hs_i x3, hs_i x4, hs_i x5, v6, v7, v8] [] h) {x1 : Int32} {x2 : Int32} {x3 : Int32} {x4 : Int32} {x5 : Int32}  {v6 : hs_V} {v7 : hs_V} {v8 : hs_V} {h : hs_H} {r : Int32 × hs_H} (e : hb_222_38 k25 k38 x1 x2 x3 x4 x5 h = some r) (q : Q (some (hs_i r.1)) r.2) : hs_W S d 1 hs_p222 Q 38 [hs_r 12 0, hs_i x1, hs_i x2, hs_i x3, hs_i x4, hs_i x5, v6, v7, v8] [] h := by
  unfold hb_222_38 at e
  refine hs_wb 4 (c := (h.1 12 0 2) ≤ x5) (t := 138) (f := 47) (ls' := [hs_r 12 0, hs_i x1, hs_i x2, hs_i x3, hs_i x4, hs_i x5, v6, v7, v8]) (st' := []) (h' := h) (fun n w => w) (fun b7 => ?_) (fun b7 => ?_)
  · rw [if_pos b7] at e
    refine hs_w 2 (pc' := 25) (ls' := [hs_r 12 0, hs_i x1, hs_i x2, hs_i x3, hs_i (x4 + nI 1), hs_i x5, v6, v7, v8]) (st' := []) (h' := h) (fun n w => w) ?_
    exact hk25 _ _ _ _ _ _ _ _ _ _ e q
  · rw [if_neg b7] at e
    refine hs_w 4 (pc' := 53) (ls' := [hs_r 12 0, hs_i x1, hs_i x2, hs_i x3, hs_i x4, hs_i x5, hs_i (nI 0), hs_i (nI 0), v8]) (st' := []) (h' := h) (fun n w => w) ?_
    exact hw_222_53_lp hd hk25 hk38 hs_big e _ q
theorem hw_222_38_lp {S : hs_S} {d : Nat} {Q : hs_Q} (hd : 5 ≤ d)  {k25 : Int32 × Int32 × Int32 × Int32 × hs_H → Option (Int32 × hs_H)} (hk25 : ∀ (x1 : Int32) (x2 : Int32) (x3 : Int32) (x4 : Int32) (h : hs_H) (r : Int32 × hs_H) (v5 : hs_V) (v6 : hs_V) (v7 : hs_V) (v8 : hs_V), k25 (x1, x2, x3, x4, h) = some r → Q (some (hs_i r.1)) r.2 → hs_W S d 1 hs_p222 Q 25 [hs_r 12 0, hs_i x1, hs_i x2, hs_i x3, hs_i x4, v5, v6, v7, v8] [] h) (n : Nat) {x1 : Int32} {x2 : Int32} {x3 : Int32} {x4 : Int32} {x5 : Int32} {h : hs_H} {r : Int32 × hs_H} (e : hs_lp (fun k s => hb_222_38 k25 k s.1 s.2.1 s.2.2.1 s.2.2.2.1 s.2.2.2.2.1 s.2.2.2.2.2) n (x1, x2, x3, x4, x5, h) = some r) (v6 : hs_V) (v7 : hs_V) (v8 : hs_V) (q : Q (some (hs_i r.1)) r.2) : hs_W S d 1 hs_p222 Q 38 [hs_r 12 0, hs_i x1, hs_i x2, hs_i x3, hs_i x4, hs_i x5, v6, v7, v8] [] h := by
  refine hs_lp_ind (P := fun (s : Int32 × Int32 × Int32 × Int32 × Int32 × hs_H) (r : Int32 × hs_H) => ∀ (v6 : hs_V) (v7 : hs_V) (v8 : hs_V), Q (some (hs_i r.1)) r.2 → hs_W S d 1 hs_p222 Q 38 [hs_r 12 0, hs_i s.1, hs_i s.2.1, hs_i s.2.2.1, hs_i s.2.2.2.1, hs_i s.2.2.2.2.1, v6, v7, v8] [] s.2.2.2.2.2) (fun k hk s r e v6 v7 v8 q => ?_) n (x1, x2, x3, x4, x5, h) r e v6 v7 v8 q
  exact hw_222_38 hd hk25 (fun x1 x2 x3 x4 x5 h r v6 v7 v8 e q => hk (x1, x2, x3, x4, x5, h) r e v6 v7 v8 q) e q
def hb_222_25  (k25 : Int32 × Int32 × Int32 × Int32 × hs_H → Option (Int32 × hs_H)) (x1 : Int32) (x2 : Int32) (x3 : Int32) (x4 : Int32)  (h : hs_H) : Option (Int32 × hs_H) := if (h.1 12 0 2) ≤ x4 then (if ¬ x2 = (nI 4294967292) then (if ¬ x1 = 0 then (hb_222_164 x3 h) else (hb_222_164 x2 h)) else (hb_222_164 (nI 4294967292) h)) else (hs_lp (fun k s => hb_222_38 k25 k s.1 s.2.1 s.2.2.1 s.2.2.2.1 s.2.2.2.2.1 s.2.2.2.2.2) hs_big (x1, x2, x3, x4, x4, h))
set_option maxHeartbeats 1000000 in
theorem hw_222_25 {S : hs_S} {d : Nat} {Q : hs_Q} (hd : 5 ≤ d)  {k25 : Int32 × Int32 × Int32 × Int32 × hs_H → Option (Int32 × hs_H)} (hk25 : ∀ (x1 : Int32) (x2 : Int32) (x3 : Int32) (x4 : Int32) (h : hs_H) (r : Int32 × hs_H) (v5 : hs_V) (v6 : hs_V) (v7 : hs_V) (v8 : hs_V), k25 (x1, x2, x3, x4, h) = some r → Q (some (hs_i r.1)) r.2 → hs_W S d 1 hs_p222 Q 25 [hs_r 12 0, hs_i x1, hs_i x2, hs_i x3, hs_i x4, v5, v6, v7, v8] [] h) {x1 : Int32} {x2 : Int32} {x3 : Int32} {x4 : Int32}  {v5 : hs_V} {v6 : hs_V} {v7 : hs_V} {v8 : hs_V} {h : hs_H} {r : Int32 × hs_H} (e : hb_222_25 k25 x1 x2 x3 x4 h = some r) (q : Q (some (hs_i r.1)) r.2) : hs_W S d 1 hs_p222 Q 25 [hs_r 12 0, hs_i x1, hs_i x2, hs_i x3, hs_i x4, v5, v6, v7, v8] [] h := by
  unfold hb_222_25 at e
  refine hs_wb 4 (c := (h.1 12 0 2) ≤ x4) (t := 144) (f := 34) (ls' := [hs_r 12 0, hs_i x1, hs_i x2, hs_i x3, hs_i x4, v5, v6, v7, v8]) (st' := []) (h' := h) (fun n w => w) (fun b4 => ?_) (fun b4 => ?_)
  · rw [if_pos b4] at e
    refine hs_wb 3 (c := ¬ x2 = (nI 4294967292)) (t := 155) (f := 150) (ls' := [hs_r 12 0, hs_i x1, hs_i x2, hs_i x3, hs_i x4, v5, v6, v7, v8]) (st' := []) (h' := h) (fun n w => w) (fun b5 => ?_) (fun b5 => ?_)
    · rw [if_pos b5] at e
      refine hs_wb 2 (c := ¬ x1 = 0) (t := 163) (f := 159) (ls' := [hs_r 12 0, hs_i x1, hs_i x2, hs_i x3, hs_i x4, v5, v6, v7, v8]) (st' := []) (h' := h) (fun n w => w) (fun b6 => ?_) (fun b6 => ?_)
      · rw [if_pos b6] at e
        refine hs_w 1 (pc' := 164) (ls' := [hs_r 12 0, hs_i x1, hs_i x2, hs_i x3, hs_i x4, v5, v6, v7, v8]) (st' := [hs_i x3]) (h' := h) (fun n w => w) ?_
        exact hw_222_164 hd e q
      · rw [if_neg b6] at e
        refine hs_w 2 (pc' := 164) (ls' := [hs_r 12 0, hs_i x1, hs_i x2, hs_i x3, hs_i x4, v5, v6, v7, v8]) (st' := [hs_i x2]) (h' := h) (fun n w => w) ?_
        exact hw_222_164 hd e q
    · rw [if_neg b5] at e
      refine hs_w 2 (pc' := 164) (ls' := [hs_r 12 0, hs_i x1, hs_i x2, hs_i x3, hs_i x4, v5, v6, v7, v8]) (st' := [hs_i (nI 4294967292)]) (h' := h) (fun n w => w) ?_
      exact hw_222_164 hd e q
  · rw [if_neg b4] at e
    refine hs_w 2 (pc' := 38) (ls' := [hs_r 12 0, hs_i x1, hs_i x2, hs_i x3, hs_i x4, hs_i x4, v6, v7, v8]) (st' := []) (h' := h) (fun n w => w) ?_
    exact hw_222_38_lp hd hk25 hs_big e _ _ _ q
theorem hw_222_25_lp {S : hs_S} {d : Nat} {Q : hs_Q} (hd : 5 ≤ d)    (n : Nat) {x1 : Int32} {x2 : Int32} {x3 : Int32} {x4 : Int32} {h : hs_H} {r : Int32 × hs_H} (e : hs_lp (fun k s => hb_222_25 k s.1 s.2.1 s.2.2.1 s.2.2.2.1 s.2.2.2.2) n (x1, x2, x3, x4, h) = some r) (v5 : hs_V) (v6 : hs_V) (v7 : hs_V) (v8 : hs_V) (q : Q (some (hs_i r.1)) r.2) : hs_W S d 1 hs_p222 Q 25 [hs_r 12 0, hs_i x1, hs_i x2, hs_i x3, hs_i x4, v5, v6, v7, v8] [] h := by
  refine hs_lp_ind (P := fun (s : Int32 × Int32 × Int32 × Int32 × hs_H) (r : Int32 × hs_H) => ∀ (v5 : hs_V) (v6 : hs_V) (v7 : hs_V) (v8 : hs_V), Q (some (hs_i r.1)) r.2 → hs_W S d 1 hs_p222 Q 25 [hs_r 12 0, hs_i s.1, hs_i s.2.1, hs_i s.2.2.1, hs_i s.2.2.2.1, v5, v6, v7, v8] [] s.2.2.2.2) (fun k hk s r e v5 v6 v7 v8 q => ?_) n (x1, x2, x3, x4, h) r e v5 v6 v7 v8 q
  exact hw_222_25 hd (fun x1 x2 x3 x4 h r v5 v6 v7 v8 e q => hk (x1, x2, x3, x4, h) r e v5 v6 v7 v8 q) e q
/-- HuntedScentModel.best(I)I -/
def hf_222 (a1 : Int32) (h : hs_H) : Option (Int32 × hs_H) := (hf_150 a1.toInt64 (lN 0) (lN 1) h).bind (fun q1 => if ¬ q1.1 = 0 then ((hf_218 q1.2).bind (fun q3 => hs_lp (fun k s => hb_222_25 k s.1 s.2.1 s.2.2.1 s.2.2.2.1 s.2.2.2.2) hs_big (a1, nI 4294967292, nI 99999, nI 0, q3))) else (some (nI 4294967295, q1.2)))
set_option maxHeartbeats 1000000 in
theorem hc_222 {S : hs_S} {D : Nat} {Q : hs_Q} (hD : 6 ≤ D) {a1 : Int32} {h : hs_H} {r : Int32 × hs_H} (e : hf_222 a1 h = some r) (q : Q (some (hs_i r.1)) r.2) : hs_call hs_ms S D 222 [hs_r 12 0, hs_i a1] h Q := by
  refine hs_go (R := 5) hD rfl (Nat.le_of_ble_eq_true rfl) (fun d hd => ?_)
  show hs_W S d 1 hs_p222 Q 0 [hs_r 12 0, hs_i a1, hs_u, hs_u, hs_u, hs_u, hs_u, hs_u, hs_u] [] h
  unfold hf_222 at e
  obtain ⟨q1, eq1, e⟩ := hs_bind_some e
  try dsimp only at e
  refine hs_wc 5 (y := 150) (a := [hs_l a1.toInt64, hs_l (lN 0), hs_l (lN 1)]) (v := some (hs_i q1.1)) (pc' := 7) (ls' := [hs_r 12 0, hs_i a1, hs_u, hs_u, hs_u, hs_u, hs_u, hs_u, hs_u]) (st' := []) (h' := h) (h2 := q1.2) (fun n w => w) (fun q => hc_150 (by omega) eq1 q) ?_
  refine hs_wb 1 (c := ¬ q1.1 = 0) (t := 12) (f := 10) (ls' := [hs_r 12 0, hs_i a1, hs_u, hs_u, hs_u, hs_u, hs_u, hs_u, hs_u]) (st' := []) (h' := q1.2) (fun n w => w) (fun b2 => ?_) (fun b2 => ?_)
  · rw [if_pos b2] at e
    obtain ⟨q3, eq3, e⟩ := hs_bind_some e
    try dsimp only at e
    refine hs_wc 2 (y := 218) (a := [hs_r 12 0]) (v := none) (pc' := 16) (ls' := [hs_r 12 0, hs_i a1, hs_u, hs_u, hs_u, hs_u, hs_u, hs_u, hs_u]) (st' := []) (h' := q1.2) (h2 := q3) (fun n w => w) (fun q => hc_218 (by omega) eq3 q) ?_
    refine hs_w 6 (pc' := 25) (ls' := [hs_r 12 0, hs_i a1, hs_i (nI 4294967292), hs_i (nI 99999), hs_i (nI 0), hs_u, hs_u, hs_u, hs_u]) (st' := []) (h' := q3) (fun n w => w) ?_
    exact hw_222_25_lp hd hs_big e _ _ _ _ q
  · rw [if_neg b2] at e
    obtain rfl := Option.some.inj e
    exact hs_wr 2 (v := some (hs_i (nI 4294967295))) (h' := q1.2) (fun n w => w) q
def hb_223_138  (k28 : Int32 × Int32 × Int32 × hs_H → Option (Int32 × hs_H)) (k87 : Int32 × Int32 × Int32 × Int32 × Int32 × hs_H → Option (Int32 × hs_H)) (x4 : Int32) (x5 : Int32) (x6 : Int32) (x7 : Int32) (s0 : Int32) (s1 : Int32) (h : hs_H) : Option (Int32 × hs_H) := k87 (s1 ||| s0, x4, x5, x6, x7 + nI 1, h)
set_option maxHeartbeats 1000000 in
theorem hw_223_138 {S : hs_S} {d : Nat} {Q : hs_Q} (hd : 2 ≤ d)  {k28 : Int32 × Int32 × Int32 × hs_H → Option (Int32 × hs_H)} {k87 : Int32 × Int32 × Int32 × Int32 × Int32 × hs_H → Option (Int32 × hs_H)} (hk28 : ∀ (x3 : Int32) (x4 : Int32) (x5 : Int32) (h : hs_H) (r : Int32 × hs_H) (v1 : hs_V) (v2 : hs_V) (v6 : hs_V) (v7 : hs_V), k28 (x3, x4, x5, h) = some r → Q (some (hs_i r.1)) r.2 → hs_W S d 1 hs_p223 Q 28 [hs_r 12 0, v1, v2, hs_i x3, hs_i x4, hs_i x5, v6, v7] [] h) (hk87 : ∀ (x3 : Int32) (x4 : Int32) (x5 : Int32) (x6 : Int32) (x7 : Int32) (h : hs_H) (r : Int32 × hs_H) (v1 : hs_V) (v2 : hs_V), k87 (x3, x4, x5, x6, x7, h) = some r → Q (some (hs_i r.1)) r.2 → hs_W S d 1 hs_p223 Q 87 [hs_r 12 0, v1, v2, hs_i x3, hs_i x4, hs_i x5, hs_i x6, hs_i x7] [] h) {x4 : Int32} {x5 : Int32} {x6 : Int32} {x7 : Int32} {s0 : Int32} {s1 : Int32} {v1 : hs_V} {v2 : hs_V} {v3 : hs_V} {h : hs_H} {r : Int32 × hs_H} (e : hb_223_138 k28 k87 x4 x5 x6 x7 s0 s1 h = some r) (q : Q (some (hs_i r.1)) r.2) : hs_W S d 1 hs_p223 Q 138 [hs_r 12 0, v1, v2, v3, hs_i x4, hs_i x5, hs_i x6, hs_i x7] [hs_i s0, hs_i s1] h := by
  unfold hb_223_138 at e
  refine hs_w 4 (pc' := 87) (ls' := [hs_r 12 0, v1, v2, hs_i (s1 ||| s0), hs_i x4, hs_i x5, hs_i x6, hs_i (x7 + nI 1)]) (st' := []) (h' := h) (fun n w => w) ?_
  exact hk87 _ _ _ _ _ _ _ _ _ e q
def hb_223_137  (k28 : Int32 × Int32 × Int32 × hs_H → Option (Int32 × hs_H)) (k87 : Int32 × Int32 × Int32 × Int32 × Int32 × hs_H → Option (Int32 × hs_H)) (x4 : Int32) (x5 : Int32) (x6 : Int32) (x7 : Int32) (s0 : Int32) (h : hs_H) : Option (Int32 × hs_H) := hb_223_138 k28 k87 x4 x5 x6 x7 (nI 0) s0 h
set_option maxHeartbeats 1000000 in
theorem hw_223_137 {S : hs_S} {d : Nat} {Q : hs_Q} (hd : 2 ≤ d)  {k28 : Int32 × Int32 × Int32 × hs_H → Option (Int32 × hs_H)} {k87 : Int32 × Int32 × Int32 × Int32 × Int32 × hs_H → Option (Int32 × hs_H)} (hk28 : ∀ (x3 : Int32) (x4 : Int32) (x5 : Int32) (h : hs_H) (r : Int32 × hs_H) (v1 : hs_V) (v2 : hs_V) (v6 : hs_V) (v7 : hs_V), k28 (x3, x4, x5, h) = some r → Q (some (hs_i r.1)) r.2 → hs_W S d 1 hs_p223 Q 28 [hs_r 12 0, v1, v2, hs_i x3, hs_i x4, hs_i x5, v6, v7] [] h) (hk87 : ∀ (x3 : Int32) (x4 : Int32) (x5 : Int32) (x6 : Int32) (x7 : Int32) (h : hs_H) (r : Int32 × hs_H) (v1 : hs_V) (v2 : hs_V), k87 (x3, x4, x5, x6, x7, h) = some r → Q (some (hs_i r.1)) r.2 → hs_W S d 1 hs_p223 Q 87 [hs_r 12 0, v1, v2, hs_i x3, hs_i x4, hs_i x5, hs_i x6, hs_i x7] [] h) {x4 : Int32} {x5 : Int32} {x6 : Int32} {x7 : Int32} {s0 : Int32} {v1 : hs_V} {v2 : hs_V} {v3 : hs_V} {h : hs_H} {r : Int32 × hs_H} (e : hb_223_137 k28 k87 x4 x5 x6 x7 s0 h = some r) (q : Q (some (hs_i r.1)) r.2) : hs_W S d 1 hs_p223 Q 137 [hs_r 12 0, v1, v2, v3, hs_i x4, hs_i x5, hs_i x6, hs_i x7] [hs_i s0] h := by
  unfold hb_223_137 at e
  refine hs_w 1 (pc' := 138) (ls' := [hs_r 12 0, v1, v2, v3, hs_i x4, hs_i x5, hs_i x6, hs_i x7]) (st' := [hs_i (nI 0), hs_i s0]) (h' := h) (fun n w => w) ?_
  exact hw_223_138 hd hk28 hk87 e q
def hb_223_87  (k28 : Int32 × Int32 × Int32 × hs_H → Option (Int32 × hs_H)) (k87 : Int32 × Int32 × Int32 × Int32 × Int32 × hs_H → Option (Int32 × hs_H)) (x3 : Int32) (x4 : Int32) (x5 : Int32) (x6 : Int32) (x7 : Int32)  (h : hs_H) : Option (Int32 × hs_H) := if (h.1 12 0 2) ≤ x7 then (k28 (x3, x4 ||| x3, x5 + nI 1, h)) else (if ¬ ((x6 >>> (x7 &&& 31)) &&& (nI 1)) = (nI 1) then (hb_223_137 k28 k87 x4 x5 x6 x7 x3 h) else (if ¬ ((x4 >>> (x7 &&& 31)) &&& (nI 1)) = 0 then (hb_223_137 k28 k87 x4 x5 x6 x7 x3 h) else (hs_ck (hs_inb x7 10) (if (h.1 48 0 x7.toNatClampNeg) ≤ x5 then (hb_223_137 k28 k87 x4 x5 x6 x7 x3 h) else (hb_223_138 k28 k87 x4 x5 x6 x7 ((nI 1) <<< (x7 &&& 31)) x3 h)))))
set_option maxHeartbeats 1000000 in
theorem hw_223_87 {S : hs_S} {d : Nat} {Q : hs_Q} (hd : 2 ≤ d)  {k28 : Int32 × Int32 × Int32 × hs_H → Option (Int32 × hs_H)} {k87 : Int32 × Int32 × Int32 × Int32 × Int32 × hs_H → Option (Int32 × hs_H)} (hk28 : ∀ (x3 : Int32) (x4 : Int32) (x5 : Int32) (h : hs_H) (r : Int32 × hs_H) (v1 : hs_V) (v2 : hs_V) (v6 : hs_V) (v7 : hs_V), k28 (x3, x4, x5, h) = some r → Q (some (hs_i r.1)) r.2 → hs_W S d 1 hs_p223 Q 28 [hs_r 12 0, v1, v2, hs_i x3, hs_i x4, hs_i x5, v6, v7] [] h) (hk87 : ∀ (x3 : Int32) (x4 : Int32) (x5 : Int32) (x6 : Int32) (x7 : Int32) (h : hs_H) (r : Int32 × hs_H) (v1 : hs_V) (v2 : hs_V), k87 (x3, x4, x5, x6, x7, h) = some r → Q (some (hs_i r.1)) r.2 → hs_W S d 1 hs_p223 Q 87 [hs_r 12 0, v1, v2, hs_i x3, hs_i x4, hs_i x5, hs_i x6, hs_i x7] [] h) {x3 : Int32} {x4 : Int32} {x5 : Int32} {x6 : Int32} {x7 : Int32}  {v1 : hs_V} {v2 : hs_V} {h : hs_H} {r : Int32 × hs_H} (e : hb_223_87 k28 k87 x3 x4 x5 x6 x7 h = some r) (q : Q (some (hs_i r.1)) r.2) : hs_W S d 1 hs_p223 Q 87 [hs_r 12 0, v1, v2, hs_i x3, hs_i x4, hs_i x5, hs_i x6, hs_i x7] [] h := by
  unfold hb_223_87 at e
  refine hs_wb 4 (c := (h.1 12 0 2) ≤ x7) (t := 146) (f := 96) (ls' := [hs_r 12 0, v1, v2, hs_i x3, hs_i x4, hs_i x5, hs_i x6, hs_i x7]) (st' := []) (h' := h) (fun n w => w) (fun b6 => ?_) (fun b6 => ?_)
  · rw [if_pos b6] at e
    refine hs_w 6 (pc' := 28) (ls' := [hs_r 12 0, v1, v2, hs_i x3, hs_i (x4 ||| x3), hs_i (x5 + nI 1), hs_i x6, hs_i x7]) (st' := []) (h' := h) (fun n w => w) ?_
    exact hk28 _ _ _ _ _ _ _ _ _ e q
  · rw [if_neg b6] at e
    refine hs_wb 8 (c := ¬ ((x6 >>> (x7 &&& 31)) &&& (nI 1)) = (nI 1)) (t := 137) (f := 108) (ls' := [hs_r 12 0, v1, v2, hs_i x3, hs_i x4, hs_i x5, hs_i x6, hs_i x7]) (st' := [hs_i x3]) (h' := h) (fun n w => w) (fun b7 => ?_) (fun b7 => ?_)
    · rw [if_pos b7] at e
      exact hw_223_137 hd hk28 hk87 e q
    · rw [if_neg b7] at e
      refine hs_wb 6 (c := ¬ ((x4 >>> (x7 &&& 31)) &&& (nI 1)) = 0) (t := 137) (f := 118) (ls' := [hs_r 12 0, v1, v2, hs_i x3, hs_i x4, hs_i x5, hs_i x6, hs_i x7]) (st' := [hs_i x3]) (h' := h) (fun n w => w) (fun b8 => ?_) (fun b8 => ?_)
      · rw [if_pos b8] at e
        exact hw_223_137 hd hk28 hk87 e q
      · rw [if_neg b8] at e
        obtain ⟨c9, e⟩ := hs_ck_some e
        refine hs_wa 4 (c := vp_in x7 10) (pc' := 125) (ls' := [hs_r 12 0, v1, v2, hs_i x3, hs_i x4, hs_i x5, hs_i x6, hs_i x7]) (st' := [hs_i (h.1 48 0 x7.toNatClampNeg), hs_i x3]) (h' := h) (fun n w => w) (hs_inb_iff.mp c9) ?_
        refine hs_wb 2 (c := (h.1 48 0 x7.toNatClampNeg) ≤ x5) (t := 137) (f := 130) (ls' := [hs_r 12 0, v1, v2, hs_i x3, hs_i x4, hs_i x5, hs_i x6, hs_i x7]) (st' := [hs_i x3]) (h' := h) (fun n w => w) (fun b10 => ?_) (fun b10 => ?_)
        · rw [if_pos b10] at e
          exact hw_223_137 hd hk28 hk87 e q
        · rw [if_neg b10] at e
          refine hs_w 4 (pc' := 138) (ls' := [hs_r 12 0, v1, v2, hs_i x3, hs_i x4, hs_i x5, hs_i x6, hs_i x7]) (st' := [hs_i ((nI 1) <<< (x7 &&& 31)), hs_i x3]) (h' := h) (fun n w => w) ?_
          exact hw_223_138 hd hk28 hk87 e q
theorem hw_223_87_lp {S : hs_S} {d : Nat} {Q : hs_Q} (hd : 2 ≤ d)  {k28 : Int32 × Int32 × Int32 × hs_H → Option (Int32 × hs_H)} (hk28 : ∀ (x3 : Int32) (x4 : Int32) (x5 : Int32) (h : hs_H) (r : Int32 × hs_H) (v1 : hs_V) (v2 : hs_V) (v6 : hs_V) (v7 : hs_V), k28 (x3, x4, x5, h) = some r → Q (some (hs_i r.1)) r.2 → hs_W S d 1 hs_p223 Q 28 [hs_r 12 0, v1, v2, hs_i x3, hs_i x4, hs_i x5, v6, v7] [] h) (n : Nat) {x3 : Int32} {x4 : Int32} {x5 : Int32} {x6 : Int32} {x7 : Int32} {h : hs_H} {r : Int32 × hs_H} (e : hs_lp (fun k s => hb_223_87 k28 k s.1 s.2.1 s.2.2.1 s.2.2.2.1 s.2.2.2.2.1 s.2.2.2.2.2) n (x3, x4, x5, x6, x7, h) = some r) (v1 : hs_V) (v2 : hs_V) (q : Q (some (hs_i r.1)) r.2) : hs_W S d 1 hs_p223 Q 87 [hs_r 12 0, v1, v2, hs_i x3, hs_i x4, hs_i x5, hs_i x6, hs_i x7] [] h := by
  refine hs_lp_ind (P := fun (s : Int32 × Int32 × Int32 × Int32 × Int32 × hs_H) (r : Int32 × hs_H) => ∀ (v1 : hs_V) (v2 : hs_V), Q (some (hs_i r.1)) r.2 → hs_W S d 1 hs_p223 Q 87 [hs_r 12 0, v1, v2, hs_i s.1, hs_i s.2.1, hs_i s.2.2.1, hs_i s.2.2.2.1, hs_i s.2.2.2.2.1] [] s.2.2.2.2.2) (fun k hk s r e v1 v2 q => ?_) n (x3, x4, x5, x6, x7, h) r e v1 v2 q
  exact hw_223_87 hd hk28 (fun x3 x4 x5 x6 x7 h r v1 v2 e q => hk (x3, x4, x5, x6, x7, h) r e v1 v2 q) e q
def hb_223_73  (k28 : Int32 × Int32 × Int32 × hs_H → Option (Int32 × hs_H)) (k41 : Int32 × Int32 × Int32 × Int32 × Int32 × hs_H → Option (Int32 × hs_H)) (x3 : Int32) (x4 : Int32) (x5 : Int32) (x7 : Int32) (s0 : Int32) (s1 : Int32) (h : hs_H) : Option (Int32 × hs_H) := k41 (x3, x4, x5, s1 ||| s0, x7 + nI 1, h)
set_option maxHeartbeats 1000000 in
theorem hw_223_73 {S : hs_S} {d : Nat} {Q : hs_Q} (hd : 2 ≤ d)  {k28 : Int32 × Int32 × Int32 × hs_H → Option (Int32 × hs_H)} {k41 : Int32 × Int32 × Int32 × Int32 × Int32 × hs_H → Option (Int32 × hs_H)} (hk28 : ∀ (x3 : Int32) (x4 : Int32) (x5 : Int32) (h : hs_H) (r : Int32 × hs_H) (v1 : hs_V) (v2 : hs_V) (v6 : hs_V) (v7 : hs_V), k28 (x3, x4, x5, h) = some r → Q (some (hs_i r.1)) r.2 → hs_W S d 1 hs_p223 Q 28 [hs_r 12 0, v1, v2, hs_i x3, hs_i x4, hs_i x5, v6, v7] [] h) (hk41 : ∀ (x3 : Int32) (x4 : Int32) (x5 : Int32) (x6 : Int32) (x7 : Int32) (h : hs_H) (r : Int32 × hs_H) (v1 : hs_V) (v2 : hs_V), k41 (x3, x4, x5, x6, x7, h) = some r → Q (some (hs_i r.1)) r.2 → hs_W S d 1 hs_p223 Q 41 [hs_r 12 0, v1, v2, hs_i x3, hs_i x4, hs_i x5, hs_i x6, hs_i x7] [] h) {x3 : Int32} {x4 : Int32} {x5 : Int32} {x7 : Int32} {s0 : Int32} {s1 : Int32} {v1 : hs_V} {v2 : hs_V} {v6 : hs_V} {h : hs_H} {r : Int32 × hs_H} (e : hb_223_73 k28 k41 x3 x4 x5 x7 s0 s1 h = some r) (q : Q (some (hs_i r.1)) r.2) : hs_W S d 1 hs_p223 Q 73 [hs_r 12 0, v1, v2, hs_i x3, hs_i x4, hs_i x5, v6, hs_i x7] [hs_i s0, hs_i s1] h := by
  unfold hb_223_73 at e
  refine hs_w 4 (pc' := 41) (ls' := [hs_r 12 0, v1, v2, hs_i x3, hs_i x4, hs_i x5, hs_i (s1 ||| s0), hs_i (x7 + nI 1)]) (st' := []) (h' := h) (fun n w => w) ?_
  exact hk41 _ _ _ _ _ _ _ _ _ e q
def hb_223_41  (k28 : Int32 × Int32 × Int32 × hs_H → Option (Int32 × hs_H)) (k41 : Int32 × Int32 × Int32 × Int32 × Int32 × hs_H → Option (Int32 × hs_H)) (x3 : Int32) (x4 : Int32) (x5 : Int32) (x6 : Int32) (x7 : Int32)  (h : hs_H) : Option (Int32 × hs_H) := if (h.1 12 0 2) ≤ x7 then (hs_lp (fun k s => hb_223_87 k28 k s.1 s.2.1 s.2.2.1 s.2.2.2.1 s.2.2.2.2.1 s.2.2.2.2.2) hs_big (nI 0, x4, x5, x6, nI 0, h)) else (if ¬ ((x3 >>> (x7 &&& 31)) &&& (nI 1)) = (nI 1) then (hb_223_73 k28 k41 x3 x4 x5 x7 (nI 0) x6 h) else (hs_ck (hs_inb x7 162) (hb_223_73 k28 k41 x3 x4 x5 x7 (h.1 44 0 x7.toNatClampNeg) x6 h)))
set_option maxHeartbeats 1000000 in
theorem hw_223_41 {S : hs_S} {d : Nat} {Q : hs_Q} (hd : 2 ≤ d)  {k28 : Int32 × Int32 × Int32 × hs_H → Option (Int32 × hs_H)} {k41 : Int32 × Int32 × Int32 × Int32 × Int32 × hs_H → Option (Int32 × hs_H)} (hk28 : ∀ (x3 : Int32) (x4 : Int32) (x5 : Int32) (h : hs_H) (r : Int32 × hs_H) (v1 : hs_V) (v2 : hs_V) (v6 : hs_V) (v7 : hs_V), k28 (x3, x4, x5, h) = some r → Q (some (hs_i r.1)) r.2 → hs_W S d 1 hs_p223 Q 28 [hs_r 12 0, v1, v2, hs_i x3, hs_i x4, hs_i x5, v6, v7] [] h) (hk41 : ∀ (x3 : Int32) (x4 : Int32) (x5 : Int32) (x6 : Int32) (x7 : Int32) (h : hs_H) (r : Int32 × hs_H) (v1 : hs_V) (v2 : hs_V), k41 (x3, x4, x5, x6, x7, h) = some r → Q (some (hs_i r.1)) r.2 → hs_W S d 1 hs_p223 Q 41 [hs_r 12 0, v1, v2, hs_i x3, hs_i x4, hs_i x5, hs_i x6, hs_i x7] [] h) {x3 : Int32} {x4 : Int32} {x5 : Int32} {x6 : Int32} {x7 : Int32}  {v1 : hs_V} {v2 : hs_V} {h : hs_H} {r : Int32 × hs_H} (e : hb_223_41 k28 k41 x3 x4 x5 x6 x7 h = some r) (q : Q (some (hs_i r.1)) r.2) : hs_W S d 1 hs_p223 Q 41 [hs_r 12 0, v1, v2, hs_i x3, hs_i x4, hs_i x5, hs_i x6, hs_i x7] [] h := by
  unfold hb_223_41 at e
  refine hs_wb 4 (c := (h.1 12 0 2) ≤ x7) (t := 82) (f := 50) (ls' := [hs_r 12 0, v1, v2, hs_i x3, hs_i x4, hs_i x5, hs_i x6, hs_i x7]) (st' := []) (h' := h) (fun n w => w) (fun b5 => ?_) (fun b5 => ?_)
  · rw [if_pos b5] at e
    refine hs_w 4 (pc' := 87) (ls' := [hs_r 12 0, v1, v2, hs_i (nI 0), hs_i x4, hs_i x5, hs_i x6, hs_i (nI 0)]) (st' := []) (h' := h) (fun n w => w) ?_
    exact hw_223_87_lp hd hk28 hs_big e _ _ q
  · rw [if_neg b5] at e
    refine hs_wb 8 (c := ¬ ((x3 >>> (x7 &&& 31)) &&& (nI 1)) = (nI 1)) (t := 72) (f := 62) (ls' := [hs_r 12 0, v1, v2, hs_i x3, hs_i x4, hs_i x5, hs_i x6, hs_i x7]) (st' := [hs_i x6]) (h' := h) (fun n w => w) (fun b11 => ?_) (fun b11 => ?_)
    · rw [if_pos b11] at e
      refine hs_w 1 (pc' := 73) (ls' := [hs_r 12 0, v1, v2, hs_i x3, hs_i x4, hs_i x5, hs_i x6, hs_i x7]) (st' := [hs_i (nI 0), hs_i x6]) (h' := h) (fun n w => w) ?_
      exact hw_223_73 hd hk28 hk41 e q
    · rw [if_neg b11] at e
      obtain ⟨c12, e⟩ := hs_ck_some e
      refine hs_wa 4 (c := vp_in x7 162) (pc' := 69) (ls' := [hs_r 12 0, v1, v2, hs_i x3, hs_i x4, hs_i x5, hs_i x6, hs_i x7]) (st' := [hs_i (h.1 44 0 x7.toNatClampNeg), hs_i x6]) (h' := h) (fun n w => w) (hs_inb_iff.mp c12) ?_
      refine hs_w 1 (pc' := 73) (ls' := [hs_r 12 0, v1, v2, hs_i x3, hs_i x4, hs_i x5, hs_i x6, hs_i x7]) (st' := [hs_i (h.1 44 0 x7.toNatClampNeg), hs_i x6]) (h' := h) (fun n w => w) ?_
      exact hw_223_73 hd hk28 hk41 e q
theorem hw_223_41_lp {S : hs_S} {d : Nat} {Q : hs_Q} (hd : 2 ≤ d)  {k28 : Int32 × Int32 × Int32 × hs_H → Option (Int32 × hs_H)} (hk28 : ∀ (x3 : Int32) (x4 : Int32) (x5 : Int32) (h : hs_H) (r : Int32 × hs_H) (v1 : hs_V) (v2 : hs_V) (v6 : hs_V) (v7 : hs_V), k28 (x3, x4, x5, h) = some r → Q (some (hs_i r.1)) r.2 → hs_W S d 1 hs_p223 Q 28 [hs_r 12 0, v1, v2, hs_i x3, hs_i x4, hs_i x5, v6, v7] [] h) (n : Nat) {x3 : Int32} {x4 : Int32} {x5 : Int32} {x6 : Int32} {x7 : Int32} {h : hs_H} {r : Int32 × hs_H} (e : hs_lp (fun k s => hb_223_41 k28 k s.1 s.2.1 s.2.2.1 s.2.2.2.1 s.2.2.2.2.1 s.2.2.2.2.2) n (x3, x4, x5, x6, x7, h) = some r) (v1 : hs_V) (v2 : hs_V) (q : Q (some (hs_i r.1)) r.2) : hs_W S d 1 hs_p223 Q 41 [hs_r 12 0, v1, v2, hs_i x3, hs_i x4, hs_i x5, hs_i x6, hs_i x7] [] h := by
  refine hs_lp_ind (P := fun (s : Int32 × Int32 × Int32 × Int32 × Int32 × hs_H) (r : Int32 × hs_H) => ∀ (v1 : hs_V) (v2 : hs_V), Q (some (hs_i r.1)) r.2 → hs_W S d 1 hs_p223 Q 41 [hs_r 12 0, v1, v2, hs_i s.1, hs_i s.2.1, hs_i s.2.2.1, hs_i s.2.2.2.1, hs_i s.2.2.2.2.1] [] s.2.2.2.2.2) (fun k hk s r e v1 v2 q => ?_) n (x3, x4, x5, x6, x7, h) r e v1 v2 q
  exact hw_223_41 hd hk28 (fun x3 x4 x5 x6 x7 h r v1 v2 e q => hk (x3, x4, x5, x6, x7, h) r e v1 v2 q) e q
def hb_223_28  (k28 : Int32 × Int32 × Int32 × hs_H → Option (Int32 × hs_H)) (x3 : Int32) (x4 : Int32) (x5 : Int32)  (h : hs_H) : Option (Int32 × hs_H) := if (nI 10) ≤ x5 then (some (x4 &&& (h.1 12 0 5), h)) else (hs_lp (fun k s => hb_223_41 k28 k s.1 s.2.1 s.2.2.1 s.2.2.2.1 s.2.2.2.2.1 s.2.2.2.2.2) hs_big (x3, x4, x5, nI 0, nI 0, h))
set_option maxHeartbeats 1000000 in
theorem hw_223_28 {S : hs_S} {d : Nat} {Q : hs_Q} (hd : 2 ≤ d)  {k28 : Int32 × Int32 × Int32 × hs_H → Option (Int32 × hs_H)} (hk28 : ∀ (x3 : Int32) (x4 : Int32) (x5 : Int32) (h : hs_H) (r : Int32 × hs_H) (v1 : hs_V) (v2 : hs_V) (v6 : hs_V) (v7 : hs_V), k28 (x3, x4, x5, h) = some r → Q (some (hs_i r.1)) r.2 → hs_W S d 1 hs_p223 Q 28 [hs_r 12 0, v1, v2, hs_i x3, hs_i x4, hs_i x5, v6, v7] [] h) {x3 : Int32} {x4 : Int32} {x5 : Int32}  {v1 : hs_V} {v2 : hs_V} {v6 : hs_V} {v7 : hs_V} {h : hs_H} {r : Int32 × hs_H} (e : hb_223_28 k28 x3 x4 x5 h = some r) (q : Q (some (hs_i r.1)) r.2) : hs_W S d 1 hs_p223 Q 28 [hs_r 12 0, v1, v2, hs_i x3, hs_i x4, hs_i x5, v6, v7] [] h := by
  unfold hb_223_28 at e
  refine hs_wb 3 (c := (nI 10) ≤ x5) (t := 158) (f := 35) (ls' := [hs_r 12 0, v1, v2, hs_i x3, hs_i x4, hs_i x5, v6, v7]) (st' := []) (h' := h) (fun n w => w) (fun b4 => ?_) (fun b4 => ?_)
  · rw [if_pos b4] at e
    obtain rfl := Option.some.inj e
    exact hs_wr 5 (v := some (hs_i (x4 &&& (h.1 12 0 5)))) (h' := h) (fun n w => w) q
  · rw [if_neg b4] at e
    refine hs_w 4 (pc' := 41) (ls' := [hs_r 12 0, v1, v2, hs_i x3, hs_i x4, hs_i x5, hs_i (nI 0), hs_i (nI 0)]) (st' := []) (h' := h) (fun n w => w) ?_
    exact hw_223_41_lp hd hk28 hs_big e _ _ q
theorem hw_223_28_lp {S : hs_S} {d : Nat} {Q : hs_Q} (hd : 2 ≤ d)    (n : Nat) {x3 : Int32} {x4 : Int32} {x5 : Int32} {h : hs_H} {r : Int32 × hs_H} (e : hs_lp (fun k s => hb_223_28 k s.1 s.2.1 s.2.2.1 s.2.2.2) n (x3, x4, x5, h) = some r) (v1 : hs_V) (v2 : hs_V) (v6 : hs_V) (v7 : hs_V) (q : Q (some (hs_i r.1)) r.2) : hs_W S d 1 hs_p223 Q 28 [hs_r 12 0, v1, v2, hs_i x3, hs_i x4, hs_i x5, v6, v7] [] h := by
  refine hs_lp_ind (P := fun (s : Int32 × Int32 × Int32 × hs_H) (r : Int32 × hs_H) => ∀ (v1 : hs_V) (v2 : hs_V) (v6 : hs_V) (v7 : hs_V), Q (some (hs_i r.1)) r.2 → hs_W S d 1 hs_p223 Q 28 [hs_r 12 0, v1, v2, hs_i s.1, hs_i s.2.1, hs_i s.2.2.1, v6, v7] [] s.2.2.2) (fun k hk s r e v1 v2 v6 v7 q => ?_) n (x3, x4, x5, h) r e v1 v2 v6 v7 q
  exact hw_223_28 hd (fun x3 x4 x5 h r v1 v2 v6 v7 e q => hk (x3, x4, x5, h) r e v1 v2 v6 v7 q) e q
def hb_223_21    (s0 : Int32) (h : hs_H) : Option (Int32 × hs_H) := hs_lp (fun k s => hb_223_28 k s.1 s.2.1 s.2.2.1 s.2.2.2) hs_big (s0, s0, nI 1, h)
set_option maxHeartbeats 1000000 in
theorem hw_223_21 {S : hs_S} {d : Nat} {Q : hs_Q} (hd : 2 ≤ d)     {s0 : Int32} {v1 : hs_V} {v2 : hs_V} {v3 : hs_V} {v4 : hs_V} {v5 : hs_V} {v6 : hs_V} {v7 : hs_V} {h : hs_H} {r : Int32 × hs_H} (e : hb_223_21 s0 h = some r) (q : Q (some (hs_i r.1)) r.2) : hs_W S d 1 hs_p223 Q 21 [hs_r 12 0, v1, v2, v3, v4, v5, v6, v7] [hs_i s0] h := by
  unfold hb_223_21 at e
  refine hs_w 5 (pc' := 28) (ls' := [hs_r 12 0, v1, v2, hs_i s0, hs_i s0, hs_i (nI 1), v6, v7]) (st' := []) (h' := h) (fun n w => w) ?_
  exact hw_223_28_lp hd hs_big e _ _ _ _ q
/-- HuntedScentModel.openTo(II)I -/
def hf_223 (a1 : Int32) (a2 : Int32) (h : hs_H) : Option (Int32 × hs_H) := (hf_178 a2 h).bind (fun q1 => hs_ck (hs_inb a1 10) (if (q1.1 48 0 a1.toNatClampNeg) ≤ 0 then (hb_223_21 (nI 0) q1) else (hb_223_21 ((nI 1) <<< (a1 &&& 31)) q1)))
set_option maxHeartbeats 1000000 in
theorem hc_223 {S : hs_S} {D : Nat} {Q : hs_Q} (hD : 3 ≤ D) {a1 : Int32} {a2 : Int32} {h : hs_H} {r : Int32 × hs_H} (e : hf_223 a1 a2 h = some r) (q : Q (some (hs_i r.1)) r.2) : hs_call hs_ms S D 223 [hs_r 12 0, hs_i a1, hs_i a2] h Q := by
  refine hs_go (R := 2) hD rfl (Nat.le_of_ble_eq_true rfl) (fun d hd => ?_)
  show hs_W S d 1 hs_p223 Q 0 [hs_r 12 0, hs_i a1, hs_i a2, hs_u, hs_u, hs_u, hs_u, hs_u] [] h
  unfold hf_223 at e
  obtain ⟨q1, eq1, e⟩ := hs_bind_some e
  try dsimp only at e
  refine hs_wc 3 (y := 178) (a := [hs_r 12 0, hs_i a2]) (v := none) (pc' := 5) (ls' := [hs_r 12 0, hs_i a1, hs_i a2, hs_u, hs_u, hs_u, hs_u, hs_u]) (st' := []) (h' := h) (h2 := q1) (fun n w => w) (fun q => hc_178 (by omega) eq1 q) ?_
  obtain ⟨c2, e⟩ := hs_ck_some e
  refine hs_wa 4 (c := vp_in a1 10) (pc' := 11) (ls' := [hs_r 12 0, hs_i a1, hs_i a2, hs_u, hs_u, hs_u, hs_u, hs_u]) (st' := [hs_i (q1.1 48 0 a1.toNatClampNeg)]) (h' := q1) (fun n w => w) (hs_inb_iff.mp c2) ?_
  refine hs_wb 1 (c := (q1.1 48 0 a1.toNatClampNeg) ≤ 0) (t := 20) (f := 14) (ls' := [hs_r 12 0, hs_i a1, hs_i a2, hs_u, hs_u, hs_u, hs_u, hs_u]) (st' := []) (h' := q1) (fun n w => w) (fun b3 => ?_) (fun b3 => ?_)
  · rw [if_pos b3] at e
    refine hs_w 1 (pc' := 21) (ls' := [hs_r 12 0, hs_i a1, hs_i a2, hs_u, hs_u, hs_u, hs_u, hs_u]) (st' := [hs_i (nI 0)]) (h' := q1) (fun n w => w) ?_
    exact hw_223_21 hd e q
  · rw [if_neg b3] at e
    refine hs_w 4 (pc' := 21) (ls' := [hs_r 12 0, hs_i a1, hs_i a2, hs_u, hs_u, hs_u, hs_u, hs_u]) (st' := [hs_i ((nI 1) <<< (a1 &&& 31))]) (h' := q1) (fun n w => w) ?_
    exact hw_223_21 hd e q
def hb_224_26    (s0 : Int32) (h : hs_H) : Option (Int32 × hs_H) := some (s0, h)
set_option maxHeartbeats 1000000 in
theorem hw_224_26 {S : hs_S} {d : Nat} {Q : hs_Q} (hd : 3 ≤ d)     {s0 : Int32} {v1 : hs_V} {v2 : hs_V} {h : hs_H} {r : Int32 × hs_H} (e : hb_224_26 s0 h = some r) (q : Q (some (hs_i r.1)) r.2) : hs_W S d 1 hs_p224 Q 26 [hs_r 12 0, v1, v2] [hs_i s0] h := by
  unfold hb_224_26 at e
  obtain rfl := Option.some.inj e
  exact hs_wr 1 (v := some (hs_i s0)) (h' := h) (fun n w => w) q
def hb_224_25     (h : hs_H) : Option (Int32 × hs_H) := hb_224_26 (nI 4294967295) h
set_option maxHeartbeats 1000000 in
theorem hw_224_25 {S : hs_S} {d : Nat} {Q : hs_Q} (hd : 3 ≤ d)      {v1 : hs_V} {v2 : hs_V} {h : hs_H} {r : Int32 × hs_H} (e : hb_224_25 h = some r) (q : Q (some (hs_i r.1)) r.2) : hs_W S d 1 hs_p224 Q 25 [hs_r 12 0, v1, v2] [] h := by
  unfold hb_224_25 at e
  refine hs_w 1 (pc' := 26) (ls' := [hs_r 12 0, v1, v2]) (st' := [hs_i (nI 4294967295)]) (h' := h) (fun n w => w) ?_
  exact hw_224_26 hd e q
/-- HuntedScentModel.open(II)I -/
def hf_224 (a1 : Int32) (a2 : Int32) (h : hs_H) : Option (Int32 × hs_H) := (hf_171 a1 h).bind (fun q1 => if q1.1 = 0 then (hb_224_25 q1.2) else ((hf_204 a2 q1.2).bind (fun q3 => if q3.1 = 0 then (hb_224_25 q3.2) else ((hf_223 a1 a2 q3.2).bind (fun q5 => hb_224_26 q5.1 q5.2)))))
set_option maxHeartbeats 1000000 in
theorem hc_224 {S : hs_S} {D : Nat} {Q : hs_Q} (hD : 4 ≤ D) {a1 : Int32} {a2 : Int32} {h : hs_H} {r : Int32 × hs_H} (e : hf_224 a1 a2 h = some r) (q : Q (some (hs_i r.1)) r.2) : hs_call hs_ms S D 224 [hs_r 12 0, hs_i a1, hs_i a2] h Q := by
  refine hs_go (R := 3) hD rfl (Nat.le_of_ble_eq_true rfl) (fun d hd => ?_)
  show hs_W S d 1 hs_p224 Q 0 [hs_r 12 0, hs_i a1, hs_i a2] [] h
  unfold hf_224 at e
  obtain ⟨q1, eq1, e⟩ := hs_bind_some e
  try dsimp only at e
  refine hs_wc 3 (y := 171) (a := [hs_r 12 0, hs_i a1]) (v := some (hs_i q1.1)) (pc' := 5) (ls' := [hs_r 12 0, hs_i a1, hs_i a2]) (st' := []) (h' := h) (h2 := q1.2) (fun n w => w) (fun q => hc_171 (by omega) eq1 q) ?_
  refine hs_wb 1 (c := q1.1 = 0) (t := 25) (f := 8) (ls' := [hs_r 12 0, hs_i a1, hs_i a2]) (st' := []) (h' := q1.2) (fun n w => w) (fun b2 => ?_) (fun b2 => ?_)
  · rw [if_pos b2] at e
    exact hw_224_25 hd e q
  · rw [if_neg b2] at e
    obtain ⟨q3, eq3, e⟩ := hs_bind_some e
    try dsimp only at e
    refine hs_wc 3 (y := 204) (a := [hs_r 12 0, hs_i a2]) (v := some (hs_i q3.1)) (pc' := 13) (ls' := [hs_r 12 0, hs_i a1, hs_i a2]) (st' := []) (h' := q1.2) (h2 := q3.2) (fun n w => w) (fun q => hc_204 (by omega) eq3 q) ?_
    refine hs_wb 1 (c := q3.1 = 0) (t := 25) (f := 16) (ls' := [hs_r 12 0, hs_i a1, hs_i a2]) (st' := []) (h' := q3.2) (fun n w => w) (fun b4 => ?_) (fun b4 => ?_)
    · rw [if_pos b4] at e
      exact hw_224_25 hd e q
    · rw [if_neg b4] at e
      obtain ⟨q5, eq5, e⟩ := hs_bind_some e
      try dsimp only at e
      refine hs_wc 4 (y := 223) (a := [hs_r 12 0, hs_i a1, hs_i a2]) (v := some (hs_i q5.1)) (pc' := 22) (ls' := [hs_r 12 0, hs_i a1, hs_i a2]) (st' := []) (h' := q3.2) (h2 := q5.2) (fun n w => w) (fun q => hc_223 (by omega) eq5 q) ?_
      refine hs_w 1 (pc' := 26) (ls' := [hs_r 12 0, hs_i a1, hs_i a2]) (st' := [hs_i q5.1]) (h' := q5.2) (fun n w => w) ?_
      exact hw_224_26 hd e q
def hb_225_26     (h : hs_H) : Option (Int32 × hs_H) := some (nI 4294967295, h)
set_option maxHeartbeats 1000000 in
theorem hw_225_26 {S : hs_S} {d : Nat} {Q : hs_Q} (hd : 3 ≤ d)      {v1 : hs_V} {v2 : hs_V} {v3 : hs_V} {v4 : hs_V} {v5 : hs_V} {v6 : hs_V} {v7 : hs_V} {v8 : hs_V} {h : hs_H} {r : Int32 × hs_H} (e : hb_225_26 h = some r) (q : Q (some (hs_i r.1)) r.2) : hs_W S d 1 hs_p225 Q 26 [hs_r 12 0, v1, v2, v3, v4, v5, v6, v7, v8] [] h := by
  unfold hb_225_26 at e
  obtain rfl := Option.some.inj e
  exact hs_wr 2 (v := some (hs_i (nI 4294967295))) (h' := h) (fun n w => w) q
def hb_225_183    (s0 : Int32) (h : hs_H) : Option (Int32 × hs_H) := some (s0, h)
set_option maxHeartbeats 1000000 in
theorem hw_225_183 {S : hs_S} {d : Nat} {Q : hs_Q} (hd : 3 ≤ d)     {s0 : Int32} {v1 : hs_V} {v2 : hs_V} {v3 : hs_V} {v4 : hs_V} {v5 : hs_V} {v6 : hs_V} {v7 : hs_V} {v8 : hs_V} {h : hs_H} {r : Int32 × hs_H} (e : hb_225_183 s0 h = some r) (q : Q (some (hs_i r.1)) r.2) : hs_W S d 1 hs_p225 Q 183 [hs_r 12 0, v1, v2, v3, v4, v5, v6, v7, v8] [hs_i s0] h := by
  unfold hb_225_183 at e
  obtain rfl := Option.some.inj e
  exact hs_wr 1 (v := some (hs_i s0)) (h' := h) (fun n w => w) q
def hb_225_148  (k46 : Int32 × Int32 × Int32 × Int32 × Int32 × Int32 × hs_H → Option (Int32 × hs_H)) (k61 : Int32 × Int32 × Int32 × Int32 × Int32 × Int32 × Int32 × hs_H → Option (Int32 × hs_H)) (x1 : Int32) (x2 : Int32) (x3 : Int32) (x4 : Int32) (x5 : Int32) (x6 : Int32) (x7 : Int32)  (h : hs_H) : Option (Int32 × hs_H) := k61 (x1, x2, x3, x4, x5, x6, x7 + nI 1, h)
set_option maxHeartbeats 1000000 in
theorem hw_225_148 {S : hs_S} {d : Nat} {Q : hs_Q} (hd : 3 ≤ d)  {k46 : Int32 × Int32 × Int32 × Int32 × Int32 × Int32 × hs_H → Option (Int32 × hs_H)} {k61 : Int32 × Int32 × Int32 × Int32 × Int32 × Int32 × Int32 × hs_H → Option (Int32 × hs_H)} (hk46 : ∀ (x1 : Int32) (x2 : Int32) (x3 : Int32) (x4 : Int32) (x5 : Int32) (x6 : Int32) (h : hs_H) (r : Int32 × hs_H) (v7 : hs_V) (v8 : hs_V), k46 (x1, x2, x3, x4, x5, x6, h) = some r → Q (some (hs_i r.1)) r.2 → hs_W S d 1 hs_p225 Q 46 [hs_r 12 0, hs_i x1, hs_i x2, hs_i x3, hs_i x4, hs_i x5, hs_i x6, v7, v8] [] h) (hk61 : ∀ (x1 : Int32) (x2 : Int32) (x3 : Int32) (x4 : Int32) (x5 : Int32) (x6 : Int32) (x7 : Int32) (h : hs_H) (r : Int32 × hs_H) (v8 : hs_V), k61 (x1, x2, x3, x4, x5, x6, x7, h) = some r → Q (some (hs_i r.1)) r.2 → hs_W S d 1 hs_p225 Q 61 [hs_r 12 0, hs_i x1, hs_i x2, hs_i x3, hs_i x4, hs_i x5, hs_i x6, hs_i x7, v8] [] h) {x1 : Int32} {x2 : Int32} {x3 : Int32} {x4 : Int32} {x5 : Int32} {x6 : Int32} {x7 : Int32}  {v8 : hs_V} {h : hs_H} {r : Int32 × hs_H} (e : hb_225_148 k46 k61 x1 x2 x3 x4 x5 x6 x7 h = some r) (q : Q (some (hs_i r.1)) r.2) : hs_W S d 1 hs_p225 Q 148 [hs_r 12 0, hs_i x1, hs_i x2, hs_i x3, hs_i x4, hs_i x5, hs_i x6, hs_i x7, v8] [] h := by
  unfold hb_225_148 at e
  refine hs_w 2 (pc' := 61) (ls' := [hs_r 12 0, hs_i x1, hs_i x2, hs_i x3, hs_i x4, hs_i x5, hs_i x6, hs_i (x7 + nI 1), v8]) (st' := []) (h' := h) (fun n w => w) ?_
  exact hk61 _ _ _ _ _ _ _ _ _ _ e q
def hb_225_146  (k46 : Int32 × Int32 × Int32 × Int32 × Int32 × Int32 × hs_H → Option (Int32 × hs_H)) (k61 : Int32 × Int32 × Int32 × Int32 × Int32 × Int32 × Int32 × hs_H → Option (Int32 × hs_H)) (x1 : Int32) (x2 : Int32) (x3 : Int32) (x4 : Int32) (x6 : Int32) (x7 : Int32) (s0 : Int32) (h : hs_H) : Option (Int32 × hs_H) := hb_225_148 k46 k61 x1 x2 x3 x4 s0 x6 x7 h
set_option maxHeartbeats 1000000 in
theorem hw_225_146 {S : hs_S} {d : Nat} {Q : hs_Q} (hd : 3 ≤ d)  {k46 : Int32 × Int32 × Int32 × Int32 × Int32 × Int32 × hs_H → Option (Int32 × hs_H)} {k61 : Int32 × Int32 × Int32 × Int32 × Int32 × Int32 × Int32 × hs_H → Option (Int32 × hs_H)} (hk46 : ∀ (x1 : Int32) (x2 : Int32) (x3 : Int32) (x4 : Int32) (x5 : Int32) (x6 : Int32) (h : hs_H) (r : Int32 × hs_H) (v7 : hs_V) (v8 : hs_V), k46 (x1, x2, x3, x4, x5, x6, h) = some r → Q (some (hs_i r.1)) r.2 → hs_W S d 1 hs_p225 Q 46 [hs_r 12 0, hs_i x1, hs_i x2, hs_i x3, hs_i x4, hs_i x5, hs_i x6, v7, v8] [] h) (hk61 : ∀ (x1 : Int32) (x2 : Int32) (x3 : Int32) (x4 : Int32) (x5 : Int32) (x6 : Int32) (x7 : Int32) (h : hs_H) (r : Int32 × hs_H) (v8 : hs_V), k61 (x1, x2, x3, x4, x5, x6, x7, h) = some r → Q (some (hs_i r.1)) r.2 → hs_W S d 1 hs_p225 Q 61 [hs_r 12 0, hs_i x1, hs_i x2, hs_i x3, hs_i x4, hs_i x5, hs_i x6, hs_i x7, v8] [] h) {x1 : Int32} {x2 : Int32} {x3 : Int32} {x4 : Int32} {x6 : Int32} {x7 : Int32} {s0 : Int32} {v5 : hs_V} {v8 : hs_V} {h : hs_H} {r : Int32 × hs_H} (e : hb_225_146 k46 k61 x1 x2 x3 x4 x6 x7 s0 h = some r) (q : Q (some (hs_i r.1)) r.2) : hs_W S d 1 hs_p225 Q 146 [hs_r 12 0, hs_i x1, hs_i x2, hs_i x3, hs_i x4, v5, hs_i x6, hs_i x7, v8] [hs_i s0] h := by
  unfold hb_225_146 at e
  refine hs_w 1 (pc' := 148) (ls' := [hs_r 12 0, hs_i x1, hs_i x2, hs_i x3, hs_i x4, hs_i s0, hs_i x6, hs_i x7, v8]) (st' := []) (h' := h) (fun n w => w) ?_
  exact hw_225_148 hd hk46 hk61 e q
def hb_225_130  (k46 : Int32 × Int32 × Int32 × Int32 × Int32 × Int32 × hs_H → Option (Int32 × hs_H)) (k61 : Int32 × Int32 × Int32 × Int32 × Int32 × Int32 × Int32 × hs_H → Option (Int32 × hs_H)) (x1 : Int32) (x2 : Int32) (x3 : Int32) (x5 : Int32) (x6 : Int32) (x7 : Int32) (x8 : Int32) (s0 : Int32) (h : hs_H) : Option (Int32 × hs_H) := if x5 ≤ x8 then (hb_225_146 k46 k61 x1 x2 x3 s0 x6 x7 x5 h) else (hb_225_146 k46 k61 x1 x2 x3 s0 x6 x7 x8 h)
set_option maxHeartbeats 1000000 in
theorem hw_225_130 {S : hs_S} {d : Nat} {Q : hs_Q} (hd : 3 ≤ d)  {k46 : Int32 × Int32 × Int32 × Int32 × Int32 × Int32 × hs_H → Option (Int32 × hs_H)} {k61 : Int32 × Int32 × Int32 × Int32 × Int32 × Int32 × Int32 × hs_H → Option (Int32 × hs_H)} (hk46 : ∀ (x1 : Int32) (x2 : Int32) (x3 : Int32) (x4 : Int32) (x5 : Int32) (x6 : Int32) (h : hs_H) (r : Int32 × hs_H) (v7 : hs_V) (v8 : hs_V), k46 (x1, x2, x3, x4, x5, x6, h) = some r → Q (some (hs_i r.1)) r.2 → hs_W S d 1 hs_p225 Q 46 [hs_r 12 0, hs_i x1, hs_i x2, hs_i x3, hs_i x4, hs_i x5, hs_i x6, v7, v8] [] h) (hk61 : ∀ (x1 : Int32) (x2 : Int32) (x3 : Int32) (x4 : Int32) (x5 : Int32) (x6 : Int32) (x7 : Int32) (h : hs_H) (r : Int32 × hs_H) (v8 : hs_V), k61 (x1, x2, x3, x4, x5, x6, x7, h) = some r → Q (some (hs_i r.1)) r.2 → hs_W S d 1 hs_p225 Q 61 [hs_r 12 0, hs_i x1, hs_i x2, hs_i x3, hs_i x4, hs_i x5, hs_i x6, hs_i x7, v8] [] h) {x1 : Int32} {x2 : Int32} {x3 : Int32} {x5 : Int32} {x6 : Int32} {x7 : Int32} {x8 : Int32} {s0 : Int32} {v4 : hs_V} {h : hs_H} {r : Int32 × hs_H} (e : hb_225_130 k46 k61 x1 x2 x3 x5 x6 x7 x8 s0 h = some r) (q : Q (some (hs_i r.1)) r.2) : hs_W S d 1 hs_p225 Q 130 [hs_r 12 0, hs_i x1, hs_i x2, hs_i x3, v4, hs_i x5, hs_i x6, hs_i x7, hs_i x8] [hs_i s0] h := by
  unfold hb_225_130 at e
  refine hs_wb 4 (c := x5 ≤ x8) (t := 144) (f := 139) (ls' := [hs_r 12 0, hs_i x1, hs_i x2, hs_i x3, hs_i s0, hs_i x5, hs_i x6, hs_i x7, hs_i x8]) (st' := []) (h' := h) (fun n w => w) (fun b20 => ?_) (fun b20 => ?_)
  · rw [if_pos b20] at e
    refine hs_w 1 (pc' := 146) (ls' := [hs_r 12 0, hs_i x1, hs_i x2, hs_i x3, hs_i s0, hs_i x5, hs_i x6, hs_i x7, hs_i x8]) (st' := [hs_i x5]) (h' := h) (fun n w => w) ?_
    exact hw_225_146 hd hk46 hk61 e q
  · rw [if_neg b20] at e
    refine hs_w 2 (pc' := 146) (ls' := [hs_r 12 0, hs_i x1, hs_i x2, hs_i x3, hs_i s0, hs_i x5, hs_i x6, hs_i x7, hs_i x8]) (st' := [hs_i x8]) (h' := h) (fun n w => w) ?_
    exact hw_225_146 hd hk46 hk61 e q
def hb_225_61  (k46 : Int32 × Int32 × Int32 × Int32 × Int32 × Int32 × hs_H → Option (Int32 × hs_H)) (k61 : Int32 × Int32 × Int32 × Int32 × Int32 × Int32 × Int32 × hs_H → Option (Int32 × hs_H)) (x1 : Int32) (x2 : Int32) (x3 : Int32) (x4 : Int32) (x5 : Int32) (x6 : Int32) (x7 : Int32)  (h : hs_H) : Option (Int32 × hs_H) := if (h.1 12 0 2) ≤ x7 then (k46 (x1, x2, x3, x4, x5, x6 + nI 1, h)) else ((hf_172 x6 x7 h).bind (fun q13 => if q13.1 = 0 then (hb_225_148 k46 k61 x1 x2 x3 x4 x5 x6 x7 q13.2) else ((hf_175 x6 x7 (nI 0) q13.2).bind (fun q15 => (hf_223 x1 x2 q15).bind (fun q16 => (hf_152 q16.1 q16.2).bind (fun q17 => (hf_175 x6 x7 (nI 1) q17.2).bind (fun q18 => if x5 ≤ q17.1 then (hb_225_130 k46 k61 x1 x2 x3 x5 x6 x7 q17.1 x4 q18) else (hb_225_130 k46 k61 x1 x2 x3 x5 x6 x7 q17.1 (((nI 10) * x6) + x7) q18))))))))
set_option maxHeartbeats 1000000 in
theorem hw_225_61 {S : hs_S} {d : Nat} {Q : hs_Q} (hd : 3 ≤ d)  {k46 : Int32 × Int32 × Int32 × Int32 × Int32 × Int32 × hs_H → Option (Int32 × hs_H)} {k61 : Int32 × Int32 × Int32 × Int32 × Int32 × Int32 × Int32 × hs_H → Option (Int32 × hs_H)} (hk46 : ∀ (x1 : Int32) (x2 : Int32) (x3 : Int32) (x4 : Int32) (x5 : Int32) (x6 : Int32) (h : hs_H) (r : Int32 × hs_H) (v7 : hs_V) (v8 : hs_V), k46 (x1, x2, x3, x4, x5, x6, h) = some r → Q (some (hs_i r.1)) r.2 → hs_W S d 1 hs_p225 Q 46 [hs_r 12 0, hs_i x1, hs_i x2, hs_i x3, hs_i x4, hs_i x5, hs_i x6, v7, v8] [] h) (hk61 : ∀ (x1 : Int32) (x2 : Int32) (x3 : Int32) (x4 : Int32) (x5 : Int32) (x6 : Int32) (x7 : Int32) (h : hs_H) (r : Int32 × hs_H) (v8 : hs_V), k61 (x1, x2, x3, x4, x5, x6, x7, h) = some r → Q (some (hs_i r.1)) r.2 → hs_W S d 1 hs_p225 Q 61 [hs_r 12 0, hs_i x1, hs_i x2, hs_i x3, hs_i x4, hs_i x5, hs_i x6, hs_i x7, v8] [] h) {x1 : Int32} {x2 : Int32} {x3 : Int32} {x4 : Int32} {x5 : Int32} {x6 : Int32} {x7 : Int32}  {v8 : hs_V} {h : hs_H} {r : Int32 × hs_H} (e : hb_225_61 k46 k61 x1 x2 x3 x4 x5 x6 x7 h = some r) (q : Q (some (hs_i r.1)) r.2) : hs_W S d 1 hs_p225 Q 61 [hs_r 12 0, hs_i x1, hs_i x2, hs_i x3, hs_i x4, hs_i x5, hs_i x6, hs_i x7, v8] [] h := by
  unfold hb_225_61 at e
  refine hs_wb 4 (c := (h.1 12 0 2) ≤ x7) (t := 154) (f := 70) (ls' := [hs_r 12 0, hs_i x1, hs_i x2, hs_i x3, hs_i x4, hs_i x5, hs_i x6, hs_i x7, v8]) (st' := []) (h' := h) (fun n w => w) (fun b12 => ?_) (fun b12 => ?_)
  · rw [if_pos b12] at e
    refine hs_w 2 (pc' := 46) (ls' := [hs_r 12 0, hs_i x1, hs_i x2, hs_i x3, hs_i x4, hs_i x5, hs_i (x6 + nI 1), hs_i x7, v8]) (st' := []) (h' := h) (fun n w => w) ?_
    exact hk46 _ _ _ _ _ _ _ _ _ _ e q
  · rw [if_neg b12] at e
    obtain ⟨q13, eq13, e⟩ := hs_bind_some e
    try dsimp only at e
    refine hs_wc 4 (y := 172) (a := [hs_r 12 0, hs_i x6, hs_i x7]) (v := some (hs_i q13.1)) (pc' := 78) (ls' := [hs_r 12 0, hs_i x1, hs_i x2, hs_i x3, hs_i x4, hs_i x5, hs_i x6, hs_i x7, v8]) (st' := []) (h' := h) (h2 := q13.2) (fun n w => w) (fun q => hc_172 (by omega) eq13 q) ?_
    refine hs_wb 1 (c := q13.1 = 0) (t := 148) (f := 81) (ls' := [hs_r 12 0, hs_i x1, hs_i x2, hs_i x3, hs_i x4, hs_i x5, hs_i x6, hs_i x7, v8]) (st' := []) (h' := q13.2) (fun n w => w) (fun b14 => ?_) (fun b14 => ?_)
    · rw [if_pos b14] at e
      exact hw_225_148 hd hk46 hk61 e q
    · rw [if_neg b14] at e
      obtain ⟨q15, eq15, e⟩ := hs_bind_some e
      try dsimp only at e
      refine hs_wc 5 (y := 175) (a := [hs_r 12 0, hs_i x6, hs_i x7, hs_i (nI 0)]) (v := none) (pc' := 90) (ls' := [hs_r 12 0, hs_i x1, hs_i x2, hs_i x3, hs_i x4, hs_i x5, hs_i x6, hs_i x7, v8]) (st' := []) (h' := q13.2) (h2 := q15) (fun n w => w) (fun q => hc_175 (by omega) eq15 q) ?_
      obtain ⟨q16, eq16, e⟩ := hs_bind_some e
      try dsimp only at e
      refine hs_wc 4 (y := 223) (a := [hs_r 12 0, hs_i x1, hs_i x2]) (v := some (hs_i q16.1)) (pc' := 96) (ls' := [hs_r 12 0, hs_i x1, hs_i x2, hs_i x3, hs_i x4, hs_i x5, hs_i x6, hs_i x7, v8]) (st' := []) (h' := q15) (h2 := q16.2) (fun n w => w) (fun q => hc_223 (by omega) eq16 q) ?_
      obtain ⟨q17, eq17, e⟩ := hs_bind_some e
      try dsimp only at e
      refine hs_wc 1 (y := 152) (a := [hs_i q16.1]) (v := some (hs_i q17.1)) (pc' := 99) (ls' := [hs_r 12 0, hs_i x1, hs_i x2, hs_i x3, hs_i x4, hs_i x5, hs_i x6, hs_i x7, v8]) (st' := []) (h' := q16.2) (h2 := q17.2) (fun n w => w) (fun q => hc_152 (by omega) eq17 q) ?_
      obtain ⟨q18, eq18, e⟩ := hs_bind_some e
      try dsimp only at e
      refine hs_wc 6 (y := 175) (a := [hs_r 12 0, hs_i x6, hs_i x7, hs_i (nI 1)]) (v := none) (pc' := 110) (ls' := [hs_r 12 0, hs_i x1, hs_i x2, hs_i x3, hs_i x4, hs_i x5, hs_i x6, hs_i x7, hs_i q17.1]) (st' := []) (h' := q17.2) (h2 := q18) (fun n w => w) (fun q => hc_175 (by omega) eq18 q) ?_
      refine hs_wb 3 (c := x5 ≤ q17.1) (t := 128) (f := 117) (ls' := [hs_r 12 0, hs_i x1, hs_i x2, hs_i x3, hs_i x4, hs_i x5, hs_i x6, hs_i x7, hs_i q17.1]) (st' := []) (h' := q18) (fun n w => w) (fun b19 => ?_) (fun b19 => ?_)
      · rw [if_pos b19] at e
        refine hs_w 1 (pc' := 130) (ls' := [hs_r 12 0, hs_i x1, hs_i x2, hs_i x3, hs_i x4, hs_i x5, hs_i x6, hs_i x7, hs_i q17.1]) (st' := [hs_i x4]) (h' := q18) (fun n w => w) ?_
        exact hw_225_130 hd hk46 hk61 e q
      · rw [if_neg b19] at e
        refine hs_w 6 (pc' := 130) (ls' := [hs_r 12 0, hs_i x1, hs_i x2, hs_i x3, hs_i x4, hs_i x5, hs_i x6, hs_i x7, hs_i q17.1]) (st' := [hs_i (((nI 10) * x6) + x7)]) (h' := q18) (fun n w => w) ?_
        exact hw_225_130 hd hk46 hk61 e q
theorem hw_225_61_lp {S : hs_S} {d : Nat} {Q : hs_Q} (hd : 3 ≤ d)  {k46 : Int32 × Int32 × Int32 × Int32 × Int32 × Int32 × hs_H → Option (Int32 × hs_H)} (hk46 : ∀ (x1 : Int32) (x2 : Int32) (x3 : Int32) (x4 : Int32) (x5 : Int32) (x6 : Int32) (h : hs_H) (r : Int32 × hs_H) (v7 : hs_V) (v8 : hs_V), k46 (x1, x2, x3, x4, x5, x6, h) = some r → Q (some (hs_i r.1)) r.2 → hs_W S d 1 hs_p225 Q 46 [hs_r 12 0, hs_i x1, hs_i x2, hs_i x3, hs_i x4, hs_i x5, hs_i x6, v7, v8] [] h) (n : Nat) {x1 : Int32} {x2 : Int32} {x3 : Int32} {x4 : Int32} {x5 : Int32} {x6 : Int32} {x7 : Int32} {h : hs_H} {r : Int32 × hs_H} (e : hs_lp (fun k s => hb_225_61 k46 k s.1 s.2.1 s.2.2.1 s.2.2.2.1 s.2.2.2.2.1 s.2.2.2.2.2.1 s.2.2.2.2.2.2.1 s.2.2.2.2.2.2.2) n (x1, x2, x3, x4, x5, x6, x7, h) = some r) (v8 : hs_V) (q : Q (some (hs_i r.1)) r.2) : hs_W S d 1 hs_p225 Q 61 [hs_r 12 0, hs_i x1, hs_i x2, hs_i x3, hs_i x4, hs_i x5, hs_i x6, hs_i x7, v8] [] h := by
  refine hs_lp_ind (P := fun (s : Int32 × Int32 × Int32 × Int32 × Int32 × Int32 × Int32 × hs_H) (r : Int32 × hs_H) => ∀ (v8 : hs_V), Q (some (hs_i r.1)) r.2 → hs_W S d 1 hs_p225 Q 61 [hs_r 12 0, hs_i s.1, hs_i s.2.1, hs_i s.2.2.1, hs_i s.2.2.2.1, hs_i s.2.2.2.2.1, hs_i s.2.2.2.2.2.1, hs_i s.2.2.2.2.2.2.1, v8] [] s.2.2.2.2.2.2.2) (fun k hk s r e v8 q => ?_) n (x1, x2, x3, x4, x5, x6, x7, h) r e v8 q
  exact hw_225_61 hd hk46 (fun x1 x2 x3 x4 x5 x6 x7 h r v8 e q => hk (x1, x2, x3, x4, x5, x6, x7, h) r e v8 q) e q
def hb_225_46  (k46 : Int32 × Int32 × Int32 × Int32 × Int32 × Int32 × hs_H → Option (Int32 × hs_H)) (x1 : Int32) (x2 : Int32) (x3 : Int32) (x4 : Int32) (x5 : Int32) (x6 : Int32)  (h : hs_H) : Option (Int32 × hs_H) := if (h.1 12 0 2) ≤ x6 then (if ¬ x4 = (nI 4294967292) then (if ¬ x3 = 0 then (hb_225_183 x5 h) else (hb_225_183 x4 h)) else (hb_225_183 (nI 4294967292) h)) else (hs_lp (fun k s => hb_225_61 k46 k s.1 s.2.1 s.2.2.1 s.2.2.2.1 s.2.2.2.2.1 s.2.2.2.2.2.1 s.2.2.2.2.2.2.1 s.2.2.2.2.2.2.2) hs_big (x1, x2, x3, x4, x5, x6, x6 + (nI 1), h))
set_option maxHeartbeats 1000000 in
theorem hw_225_46 {S : hs_S} {d : Nat} {Q : hs_Q} (hd : 3 ≤ d)  {k46 : Int32 × Int32 × Int32 × Int32 × Int32 × Int32 × hs_H → Option (Int32 × hs_H)} (hk46 : ∀ (x1 : Int32) (x2 : Int32) (x3 : Int32) (x4 : Int32) (x5 : Int32) (x6 : Int32) (h : hs_H) (r : Int32 × hs_H) (v7 : hs_V) (v8 : hs_V), k46 (x1, x2, x3, x4, x5, x6, h) = some r → Q (some (hs_i r.1)) r.2 → hs_W S d 1 hs_p225 Q 46 [hs_r 12 0, hs_i x1, hs_i x2, hs_i x3, hs_i x4, hs_i x5, hs_i x6, v7, v8] [] h) {x1 : Int32} {x2 : Int32} {x3 : Int32} {x4 : Int32} {x5 : Int32} {x6 : Int32}  {v7 : hs_V} {v8 : hs_V} {h : hs_H} {r : Int32 × hs_H} (e : hb_225_46 k46 x1 x2 x3 x4 x5 x6 h = some r) (q : Q (some (hs_i r.1)) r.2) : hs_W S d 1 hs_p225 Q 46 [hs_r 12 0, hs_i x1, hs_i x2, hs_i x3, hs_i x4, hs_i x5, hs_i x6, v7, v8] [] h := by
  unfold hb_225_46 at e
  refine hs_wb 4 (c := (h.1 12 0 2) ≤ x6) (t := 160) (f := 55) (ls' := [hs_r 12 0, hs_i x1, hs_i x2, hs_i x3, hs_i x4, hs_i x5, hs_i x6, v7, v8]) (st' := []) (h' := h) (fun n w => w) (fun b9 => ?_) (fun b9 => ?_)
  · rw [if_pos b9] at e
    refine hs_wb 3 (c := ¬ x4 = (nI 4294967292)) (t := 172) (f := 167) (ls' := [hs_r 12 0, hs_i x1, hs_i x2, hs_i x3, hs_i x4, hs_i x5, hs_i x6, v7, v8]) (st' := []) (h' := h) (fun n w => w) (fun b10 => ?_) (fun b10 => ?_)
    · rw [if_pos b10] at e
      refine hs_wb 2 (c := ¬ x3 = 0) (t := 181) (f := 176) (ls' := [hs_r 12 0, hs_i x1, hs_i x2, hs_i x3, hs_i x4, hs_i x5, hs_i x6, v7, v8]) (st' := []) (h' := h) (fun n w => w) (fun b11 => ?_) (fun b11 => ?_)
      · rw [if_pos b11] at e
        refine hs_w 1 (pc' := 183) (ls' := [hs_r 12 0, hs_i x1, hs_i x2, hs_i x3, hs_i x4, hs_i x5, hs_i x6, v7, v8]) (st' := [hs_i x5]) (h' := h) (fun n w => w) ?_
        exact hw_225_183 hd e q
      · rw [if_neg b11] at e
        refine hs_w 2 (pc' := 183) (ls' := [hs_r 12 0, hs_i x1, hs_i x2, hs_i x3, hs_i x4, hs_i x5, hs_i x6, v7, v8]) (st' := [hs_i x4]) (h' := h) (fun n w => w) ?_
        exact hw_225_183 hd e q
    · rw [if_neg b10] at e
      refine hs_w 2 (pc' := 183) (ls' := [hs_r 12 0, hs_i x1, hs_i x2, hs_i x3, hs_i x4, hs_i x5, hs_i x6, v7, v8]) (st' := [hs_i (nI 4294967292)]) (h' := h) (fun n w => w) ?_
      exact hw_225_183 hd e q
  · rw [if_neg b9] at e
    refine hs_w 4 (pc' := 61) (ls' := [hs_r 12 0, hs_i x1, hs_i x2, hs_i x3, hs_i x4, hs_i x5, hs_i x6, hs_i (x6 + (nI 1)), v8]) (st' := []) (h' := h) (fun n w => w) ?_
    exact hw_225_61_lp hd hk46 hs_big e _ q
theorem hw_225_46_lp {S : hs_S} {d : Nat} {Q : hs_Q} (hd : 3 ≤ d)    (n : Nat) {x1 : Int32} {x2 : Int32} {x3 : Int32} {x4 : Int32} {x5 : Int32} {x6 : Int32} {h : hs_H} {r : Int32 × hs_H} (e : hs_lp (fun k s => hb_225_46 k s.1 s.2.1 s.2.2.1 s.2.2.2.1 s.2.2.2.2.1 s.2.2.2.2.2.1 s.2.2.2.2.2.2) n (x1, x2, x3, x4, x5, x6, h) = some r) (v7 : hs_V) (v8 : hs_V) (q : Q (some (hs_i r.1)) r.2) : hs_W S d 1 hs_p225 Q 46 [hs_r 12 0, hs_i x1, hs_i x2, hs_i x3, hs_i x4, hs_i x5, hs_i x6, v7, v8] [] h := by
  refine hs_lp_ind (P := fun (s : Int32 × Int32 × Int32 × Int32 × Int32 × Int32 × hs_H) (r : Int32 × hs_H) => ∀ (v7 : hs_V) (v8 : hs_V), Q (some (hs_i r.1)) r.2 → hs_W S d 1 hs_p225 Q 46 [hs_r 12 0, hs_i s.1, hs_i s.2.1, hs_i s.2.2.1, hs_i s.2.2.2.1, hs_i s.2.2.2.2.1, hs_i s.2.2.2.2.2.1, v7, v8] [] s.2.2.2.2.2.2) (fun k hk s r e v7 v8 q => ?_) n (x1, x2, x3, x4, x5, x6, h) r e v7 v8 q
  exact hw_225_46 hd (fun x1 x2 x3 x4 x5 x6 h r v7 v8 e q => hk (x1, x2, x3, x4, x5, x6, h) r e v7 v8 q) e q
/-- HuntedScentModel.stop(III)I -/
def hf_225 (a1 : Int32) (a2 : Int32) (a3 : Int32) (h : hs_H) : Option (Int32 × hs_H) := (hf_171 a1 h).bind (fun q1 => if q1.1 = 0 then (hb_225_26 q1.2) else ((hf_204 a2 q1.2).bind (fun q3 => if q3.1 = 0 then (hb_225_26 q3.2) else ((hf_150 a3.toInt64 (lN 0) (lN 1) q3.2).bind (fun q5 => if ¬ q5.1 = 0 then ((hf_223 a1 a2 q5.2).bind (fun q7 => (hf_152 q7.1 q7.2).bind (fun q8 => hs_lp (fun k s => hb_225_46 k s.1 s.2.1 s.2.2.1 s.2.2.2.1 s.2.2.2.2.1 s.2.2.2.2.2.1 s.2.2.2.2.2.2) hs_big (a1, a2, a3, nI 4294967292, q8.1, nI 0, q8.2)))) else (hb_225_26 q5.2))))))
set_option maxHeartbeats 1000000 in
theorem hc_225 {S : hs_S} {D : Nat} {Q : hs_Q} (hD : 4 ≤ D) {a1 : Int32} {a2 : Int32} {a3 : Int32} {h : hs_H} {r : Int32 × hs_H} (e : hf_225 a1 a2 a3 h = some r) (q : Q (some (hs_i r.1)) r.2) : hs_call hs_ms S D 225 [hs_r 12 0, hs_i a1, hs_i a2, hs_i a3] h Q := by
  refine hs_go (R := 3) hD rfl (Nat.le_of_ble_eq_true rfl) (fun d hd => ?_)
  show hs_W S d 1 hs_p225 Q 0 [hs_r 12 0, hs_i a1, hs_i a2, hs_i a3, hs_u, hs_u, hs_u, hs_u, hs_u] [] h
  unfold hf_225 at e
  obtain ⟨q1, eq1, e⟩ := hs_bind_some e
  try dsimp only at e
  refine hs_wc 3 (y := 171) (a := [hs_r 12 0, hs_i a1]) (v := some (hs_i q1.1)) (pc' := 5) (ls' := [hs_r 12 0, hs_i a1, hs_i a2, hs_i a3, hs_u, hs_u, hs_u, hs_u, hs_u]) (st' := []) (h' := h) (h2 := q1.2) (fun n w => w) (fun q => hc_171 (by omega) eq1 q) ?_
  refine hs_wb 1 (c := q1.1 = 0) (t := 26) (f := 8) (ls' := [hs_r 12 0, hs_i a1, hs_i a2, hs_i a3, hs_u, hs_u, hs_u, hs_u, hs_u]) (st' := []) (h' := q1.2) (fun n w => w) (fun b2 => ?_) (fun b2 => ?_)
  · rw [if_pos b2] at e
    exact hw_225_26 hd e q
  · rw [if_neg b2] at e
    obtain ⟨q3, eq3, e⟩ := hs_bind_some e
    try dsimp only at e
    refine hs_wc 3 (y := 204) (a := [hs_r 12 0, hs_i a2]) (v := some (hs_i q3.1)) (pc' := 13) (ls' := [hs_r 12 0, hs_i a1, hs_i a2, hs_i a3, hs_u, hs_u, hs_u, hs_u, hs_u]) (st' := []) (h' := q1.2) (h2 := q3.2) (fun n w => w) (fun q => hc_204 (by omega) eq3 q) ?_
    refine hs_wb 1 (c := q3.1 = 0) (t := 26) (f := 16) (ls' := [hs_r 12 0, hs_i a1, hs_i a2, hs_i a3, hs_u, hs_u, hs_u, hs_u, hs_u]) (st' := []) (h' := q3.2) (fun n w => w) (fun b4 => ?_) (fun b4 => ?_)
    · rw [if_pos b4] at e
      exact hw_225_26 hd e q
    · rw [if_neg b4] at e
      obtain ⟨q5, eq5, e⟩ := hs_bind_some e
      try dsimp only at e
      refine hs_wc 5 (y := 150) (a := [hs_l a3.toInt64, hs_l (lN 0), hs_l (lN 1)]) (v := some (hs_i q5.1)) (pc' := 23) (ls' := [hs_r 12 0, hs_i a1, hs_i a2, hs_i a3, hs_u, hs_u, hs_u, hs_u, hs_u]) (st' := []) (h' := q3.2) (h2 := q5.2) (fun n w => w) (fun q => hc_150 (by omega) eq5 q) ?_
      refine hs_wb 1 (c := ¬ q5.1 = 0) (t := 28) (f := 26) (ls' := [hs_r 12 0, hs_i a1, hs_i a2, hs_i a3, hs_u, hs_u, hs_u, hs_u, hs_u]) (st' := []) (h' := q5.2) (fun n w => w) (fun b6 => ?_) (fun b6 => ?_)
      · rw [if_pos b6] at e
        obtain ⟨q7, eq7, e⟩ := hs_bind_some e
        try dsimp only at e
        refine hs_wc 6 (y := 223) (a := [hs_r 12 0, hs_i a1, hs_i a2]) (v := some (hs_i q7.1)) (pc' := 38) (ls' := [hs_r 12 0, hs_i a1, hs_i a2, hs_i a3, hs_i (nI 4294967292), hs_u, hs_u, hs_u, hs_u]) (st' := []) (h' := q5.2) (h2 := q7.2) (fun n w => w) (fun q => hc_223 (by omega) eq7 q) ?_
        obtain ⟨q8, eq8, e⟩ := hs_bind_some e
        try dsimp only at e
        refine hs_wc 1 (y := 152) (a := [hs_i q7.1]) (v := some (hs_i q8.1)) (pc' := 41) (ls' := [hs_r 12 0, hs_i a1, hs_i a2, hs_i a3, hs_i (nI 4294967292), hs_u, hs_u, hs_u, hs_u]) (st' := []) (h' := q7.2) (h2 := q8.2) (fun n w => w) (fun q => hc_152 (by omega) eq8 q) ?_
        refine hs_w 3 (pc' := 46) (ls' := [hs_r 12 0, hs_i a1, hs_i a2, hs_i a3, hs_i (nI 4294967292), hs_i q8.1, hs_i (nI 0), hs_u, hs_u]) (st' := []) (h' := q8.2) (fun n w => w) ?_
        exact hw_225_46_lp hd hs_big e _ _ q
      · rw [if_neg b6] at e
        exact hw_225_26 hd e q
