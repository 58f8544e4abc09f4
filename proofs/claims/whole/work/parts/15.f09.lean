/-! What the methods compute, by program; and that the small machine computes it. -/
/-- HuntedScentModel.draw(I)I -/
def hf_226 (a1 : Int32) (h : hs_H) : Option (Int32 × hs_H) := hs_ck (hs_nz a1) (some (((((hs_put h 12 0 36 (((h.1 12 0 36) * (nI 1103515245)) + (nI 12345))).1 12 0 36) >>> ((nI 16) &&& 31)) &&& (nI 32767)) - ((((hs_put h 12 0 36 (((h.1 12 0 36) * (nI 1103515245)) + (nI 12345))).1 12 0 36) >>> ((nI 16) &&& 31)) &&& (nI 32767)) / a1 * a1, hs_put h 12 0 36 (((h.1 12 0 36) * (nI 1103515245)) + (nI 12345))))
set_option maxHeartbeats 1000000 in
theorem hc_226 {S : hs_S} {D : Nat} {Q : hs_Q} (hD : 1 ≤ D) {a1 : Int32} {h : hs_H} {r : Int32 × hs_H} (e : hf_226 a1 h = some r) (q : Q (some (hs_i r.1)) r.2) : hs_call hs_ms S D 226 [hs_r 12 0, hs_i a1] h Q := by
  refine hs_go (R := 0) hD rfl (Nat.le_of_ble_eq_true rfl) (fun d hd => ?_)
  show hs_W S d 1 hs_p226 Q 0 [hs_r 12 0, hs_i a1] [] h
  unfold hf_226 at e
  obtain ⟨c1, e⟩ := hs_ck_some e
  refine hs_wa 16 (c := ¬ a1 = 0) (pc' := 29) (ls' := [hs_r 12 0, hs_i a1]) (st' := [hs_i (((((hs_put h 12 0 36 (((h.1 12 0 36) * (nI 1103515245)) + (nI 12345))).1 12 0 36) >>> ((nI 16) &&& 31)) &&& (nI 32767)) - ((((hs_put h 12 0 36 (((h.1 12 0 36) * (nI 1103515245)) + (nI 12345))).1 12 0 36) >>> ((nI 16) &&& 31)) &&& (nI 32767)) / a1 * a1)]) (h' := hs_put h 12 0 36 (((h.1 12 0 36) * (nI 1103515245)) + (nI 12345))) (fun n w => w) (hs_nz_iff.mp c1) ?_
  obtain rfl := Option.some.inj e
  exact hs_wr 1 (v := some (hs_i (((((hs_put h 12 0 36 (((h.1 12 0 36) * (nI 1103515245)) + (nI 12345))).1 12 0 36) >>> ((nI 16) &&& 31)) &&& (nI 32767)) - ((((hs_put h 12 0 36 (((h.1 12 0 36) * (nI 1103515245)) + (nI 12345))).1 12 0 36) >>> ((nI 16) &&& 31)) &&& (nI 32767)) / a1 * a1))) (h' := hs_put h 12 0 36 (((h.1 12 0 36) * (nI 1103515245)) + (nI 12345))) (fun n w => w) q
def hb_227_48  (k15 : Int32 × Int32 × Int32 × Int32 × hs_H → Option (Int32 × hs_H)) (x1 : Int32) (x2 : Int32) (x3 : Int32) (x4 : Int32)  (h : hs_H) : Option (Int32 × hs_H) := k15 (x1, x2, x3, x4 + nI 1, h)
set_option maxHeartbeats 1000000 in
theorem hw_227_48 {S : hs_S} {d : Nat} {Q : hs_Q} (hd : 1 ≤ d)  {k15 : Int32 × Int32 × Int32 × Int32 × hs_H → Option (Int32 × hs_H)} (hk15 : ∀ (x1 : Int32) (x2 : Int32) (x3 : Int32) (x4 : Int32) (h : hs_H) (r : Int32 × hs_H) , k15 (x1, x2, x3, x4, h) = some r → Q (some (hs_i r.1)) r.2 → hs_W S d 1 hs_p227 Q 15 [hs_r 12 0, hs_i x1, hs_i x2, hs_i x3, hs_i x4] [] h) {x1 : Int32} {x2 : Int32} {x3 : Int32} {x4 : Int32}   {h : hs_H} {r : Int32 × hs_H} (e : hb_227_48 k15 x1 x2 x3 x4 h = some r) (q : Q (some (hs_i r.1)) r.2) : hs_W S d 1 hs_p227 Q 48 [hs_r 12 0, hs_i x1, hs_i x2, hs_i x3, hs_i x4] [] h := by
  unfold hb_227_48 at e
  refine hs_w 2 (pc' := 15) (ls' := [hs_r 12 0, hs_i x1, hs_i x2, hs_i x3, hs_i (x4 + nI 1)]) (st' := []) (h' := h) (fun n w => w) ?_
  exact hk15 _ _ _ _ _ _  e q
def hb_227_44  (k15 : Int32 × Int32 × Int32 × Int32 × hs_H → Option (Int32 × hs_H)) (x1 : Int32) (x2 : Int32) (x4 : Int32) (s0 : Int32) (h : hs_H) : Option (Int32 × hs_H) := hb_227_48 k15 x1 (x2 + nI 4294967295) s0 x4 h
set_option maxHeartbeats 1000000 in
theorem hw_227_44 {S : hs_S} {d : Nat} {Q : hs_Q} (hd : 1 ≤ d)  {k15 : Int32 × Int32 × Int32 × Int32 × hs_H → Option (Int32 × hs_H)} (hk15 : ∀ (x1 : Int32) (x2 : Int32) (x3 : Int32) (x4 : Int32) (h : hs_H) (r : Int32 × hs_H) , k15 (x1, x2, x3, x4, h) = some r → Q (some (hs_i r.1)) r.2 → hs_W S d 1 hs_p227 Q 15 [hs_r 12 0, hs_i x1, hs_i x2, hs_i x3, hs_i x4] [] h) {x1 : Int32} {x2 : Int32} {x4 : Int32} {s0 : Int32} {v3 : hs_V} {h : hs_H} {r : Int32 × hs_H} (e : hb_227_44 k15 x1 x2 x4 s0 h = some r) (q : Q (some (hs_i r.1)) r.2) : hs_W S d 1 hs_p227 Q 44 [hs_r 12 0, hs_i x1, hs_i x2, v3, hs_i x4] [hs_i s0] h := by
  unfold hb_227_44 at e
  refine hs_w 2 (pc' := 48) (ls' := [hs_r 12 0, hs_i x1, hs_i (x2 + nI 4294967295), hs_i s0, hs_i x4]) (st' := []) (h' := h) (fun n w => w) ?_
  exact hw_227_48 hd hk15 e q
def hb_227_15  (k15 : Int32 × Int32 × Int32 × Int32 × hs_H → Option (Int32 × hs_H)) (x1 : Int32) (x2 : Int32) (x3 : Int32) (x4 : Int32)  (h : hs_H) : Option (Int32 × hs_H) := if (h.1 12 0 2) ≤ x4 then (some (x3, h)) else (if ¬ ((x1 >>> (x4 &&& 31)) &&& (nI 1)) = (nI 1) then (hb_227_48 k15 x1 x2 x3 x4 h) else (if ¬ x2 = 0 then (hb_227_44 k15 x1 x2 x4 x3 h) else (hb_227_44 k15 x1 x2 x4 x4 h)))
set_option maxHeartbeats 1000000 in
theorem hw_227_15 {S : hs_S} {d : Nat} {Q : hs_Q} (hd : 1 ≤ d)  {k15 : Int32 × Int32 × Int32 × Int32 × hs_H → Option (Int32 × hs_H)} (hk15 : ∀ (x1 : Int32) (x2 : Int32) (x3 : Int32) (x4 : Int32) (h : hs_H) (r : Int32 × hs_H) , k15 (x1, x2, x3, x4, h) = some r → Q (some (hs_i r.1)) r.2 → hs_W S d 1 hs_p227 Q 15 [hs_r 12 0, hs_i x1, hs_i x2, hs_i x3, hs_i x4] [] h) {x1 : Int32} {x2 : Int32} {x3 : Int32} {x4 : Int32}   {h : hs_H} {r : Int32 × hs_H} (e : hb_227_15 k15 x1 x2 x3 x4 h = some r) (q : Q (some (hs_i r.1)) r.2) : hs_W S d 1 hs_p227 Q 15 [hs_r 12 0, hs_i x1, hs_i x2, hs_i x3, hs_i x4] [] h := by
  unfold hb_227_15 at e
  refine hs_wb 4 (c := (h.1 12 0 2) ≤ x4) (t := 54) (f := 24) (ls' := [hs_r 12 0, hs_i x1, hs_i x2, hs_i x3, hs_i x4]) (st' := []) (h' := h) (fun n w => w) (fun b3 => ?_) (fun b3 => ?_)
  · rw [if_pos b3] at e
    obtain rfl := Option.some.inj e
    exact hs_wr 2 (v := some (hs_i x3)) (h' := h) (fun n w => w) q
  · rw [if_neg b3] at e
    refine hs_wb 7 (c := ¬ ((x1 >>> (x4 &&& 31)) &&& (nI 1)) = (nI 1)) (t := 48) (f := 34) (ls' := [hs_r 12 0, hs_i x1, hs_i x2, hs_i x3, hs_i x4]) (st' := []) (h' := h) (fun n w => w) (fun b4 => ?_) (fun b4 => ?_)
    · rw [if_pos b4] at e
      exact hw_227_48 hd hk15 e q
    · rw [if_neg b4] at e
      refine hs_wb 2 (c := ¬ x2 = 0) (t := 43) (f := 38) (ls' := [hs_r 12 0, hs_i x1, hs_i x2, hs_i x3, hs_i x4]) (st' := []) (h' := h) (fun n w => w) (fun b5 => ?_) (fun b5 => ?_)
      · rw [if_pos b5] at e
        refine hs_w 1 (pc' := 44) (ls' := [hs_r 12 0, hs_i x1, hs_i x2, hs_i x3, hs_i x4]) (st' := [hs_i x3]) (h' := h) (fun n w => w) ?_
        exact hw_227_44 hd hk15 e q
      · rw [if_neg b5] at e
        refine hs_w 2 (pc' := 44) (ls' := [hs_r 12 0, hs_i x1, hs_i x2, hs_i x3, hs_i x4]) (st' := [hs_i x4]) (h' := h) (fun n w => w) ?_
        exact hw_227_44 hd hk15 e q
theorem hw_227_15_lp {S : hs_S} {d : Nat} {Q : hs_Q} (hd : 1 ≤ d)    (n : Nat) {x1 : Int32} {x2 : Int32} {x3 : Int32} {x4 : Int32} {h : hs_H} {r : Int32 × hs_H} (e : hs_lp (fun k s => hb_227_15 k s.1 s.2.1 s.2.2.1 s.2.2.2.1 s.2.2.2.2) n (x1, x2, x3, x4, h) = some r)  (q : Q (some (hs_i r.1)) r.2) : hs_W S d 1 hs_p227 Q 15 [hs_r 12 0, hs_i x1, hs_i x2, hs_i x3, hs_i x4] [] h := by
  refine hs_lp_ind (P := fun (s : Int32 × Int32 × Int32 × Int32 × hs_H) (r : Int32 × hs_H) => ∀ (_ : True), Q (some (hs_i r.1)) r.2 → hs_W S d 1 hs_p227 Q 15 [hs_r 12 0, hs_i s.1, hs_i s.2.1, hs_i s.2.2.1, hs_i s.2.2.2.1] [] s.2.2.2.2) (fun k hk s r e _ q => ?_) n (x1, x2, x3, x4, h) r e trivial q
  exact hw_227_15 hd (fun x1 x2 x3 x4 h r  e q => hk (x1, x2, x3, x4, h) r e trivial q) e q
/-- HuntedScentModel.drawOf(I)I -/
def hf_227 (a1 : Int32) (h : hs_H) : Option (Int32 × hs_H) := (hf_152 a1 h).bind (fun q1 => (hf_226 q1.1 q1.2).bind (fun q2 => hs_lp (fun k s => hb_227_15 k s.1 s.2.1 s.2.2.1 s.2.2.2.1 s.2.2.2.2) hs_big (a1, q2.1, nI 4294967292, nI 0, q2.2)))
set_option maxHeartbeats 1000000 in
theorem hc_227 {S : hs_S} {D : Nat} {Q : hs_Q} (hD : 2 ≤ D) {a1 : Int32} {h : hs_H} {r : Int32 × hs_H} (e : hf_227 a1 h = some r) (q : Q (some (hs_i r.1)) r.2) : hs_call hs_ms S D 227 [hs_r 12 0, hs_i a1] h Q := by
  refine hs_go (R := 1) hD rfl (Nat.le_of_ble_eq_true rfl) (fun d hd => ?_)
  show hs_W S d 1 hs_p227 Q 0 [hs_r 12 0, hs_i a1, hs_u, hs_u, hs_u] [] h
  unfold hf_227 at e
  obtain ⟨q1, eq1, e⟩ := hs_bind_some e
  try dsimp only at e
  refine hs_wc 3 (y := 152) (a := [hs_i a1]) (v := some (hs_i q1.1)) (pc' := 5) (ls' := [hs_r 12 0, hs_i a1, hs_u, hs_u, hs_u]) (st' := [hs_r 12 0]) (h' := h) (h2 := q1.2) (fun n w => w) (fun q => hc_152 (by omega) eq1 q) ?_
  obtain ⟨q2, eq2, e⟩ := hs_bind_some e
  try dsimp only at e
  refine hs_wc 1 (y := 226) (a := [hs_r 12 0, hs_i q1.1]) (v := some (hs_i q2.1)) (pc' := 8) (ls' := [hs_r 12 0, hs_i a1, hs_u, hs_u, hs_u]) (st' := []) (h' := q1.2) (h2 := q2.2) (fun n w => w) (fun q => hc_226 (by omega) eq2 q) ?_
  refine hs_w 5 (pc' := 15) (ls' := [hs_r 12 0, hs_i a1, hs_i q2.1, hs_i (nI 4294967292), hs_i (nI 0)]) (st' := []) (h' := q2.2) (fun n w => w) ?_
  exact hw_227_15_lp hd hs_big e  q
def hb_228_73  (k8 : Int32 × Int32 × Int32 × Int32 × hs_H → Option (Int32 × hs_H)) (x1 : Int32) (x2 : Int32) (x4 : Int32) (s0 : Int32) (h : hs_H) : Option (Int32 × hs_H) := k8 (x1, x2, s0, x4 + nI 1, h)
set_option maxHeartbeats 1000000 in
theorem hw_228_73 {S : hs_S} {d : Nat} {Q : hs_Q} (hd : 0 ≤ d)  {k8 : Int32 × Int32 × Int32 × Int32 × hs_H → Option (Int32 × hs_H)} (hk8 : ∀ (x1 : Int32) (x2 : Int32) (x3 : Int32) (x4 : Int32) (h : hs_H) (r : Int32 × hs_H) (v5 : hs_V), k8 (x1, x2, x3, x4, h) = some r → Q (some (hs_i r.1)) r.2 → hs_W S d 1 hs_p228 Q 8 [hs_r 12 0, hs_i x1, hs_i x2, hs_i x3, hs_i x4, v5] [] h) {x1 : Int32} {x2 : Int32} {x4 : Int32} {s0 : Int32} {v3 : hs_V} {v5 : hs_V} {h : hs_H} {r : Int32 × hs_H} (e : hb_228_73 k8 x1 x2 x4 s0 h = some r) (q : Q (some (hs_i r.1)) r.2) : hs_W S d 1 hs_p228 Q 73 [hs_r 12 0, hs_i x1, hs_i x2, v3, hs_i x4, v5] [hs_i s0] h := by
  unfold hb_228_73 at e
  refine hs_w 3 (pc' := 8) (ls' := [hs_r 12 0, hs_i x1, hs_i x2, hs_i s0, hs_i (x4 + nI 1), v5]) (st' := []) (h' := h) (fun n w => w) ?_
  exact hk8 _ _ _ _ _ _ _ e q
def hb_228_56  (k8 : Int32 × Int32 × Int32 × Int32 × hs_H → Option (Int32 × hs_H)) (x1 : Int32) (x3 : Int32) (x4 : Int32) (x5 : Int32) (s0 : Int32) (h : hs_H) : Option (Int32 × hs_H) := if x5 = 0 then (hb_228_73 k8 x1 s0 x4 x3 h) else (hs_ck (hs_inb x4 60) (hb_228_73 k8 x1 s0 x4 (h.1 50 0 x4.toNatClampNeg) h))
set_option maxHeartbeats 1000000 in
theorem hw_228_56 {S : hs_S} {d : Nat} {Q : hs_Q} (hd : 0 ≤ d)  {k8 : Int32 × Int32 × Int32 × Int32 × hs_H → Option (Int32 × hs_H)} (hk8 : ∀ (x1 : Int32) (x2 : Int32) (x3 : Int32) (x4 : Int32) (h : hs_H) (r : Int32 × hs_H) (v5 : hs_V), k8 (x1, x2, x3, x4, h) = some r → Q (some (hs_i r.1)) r.2 → hs_W S d 1 hs_p228 Q 8 [hs_r 12 0, hs_i x1, hs_i x2, hs_i x3, hs_i x4, v5] [] h) {x1 : Int32} {x3 : Int32} {x4 : Int32} {x5 : Int32} {s0 : Int32} {v2 : hs_V} {h : hs_H} {r : Int32 × hs_H} (e : hb_228_56 k8 x1 x3 x4 x5 s0 h = some r) (q : Q (some (hs_i r.1)) r.2) : hs_W S d 1 hs_p228 Q 56 [hs_r 12 0, hs_i x1, v2, hs_i x3, hs_i x4, hs_i x5] [hs_i s0] h := by
  unfold hb_228_56 at e
  refine hs_wb 3 (c := x5 = 0) (t := 72) (f := 62) (ls' := [hs_r 12 0, hs_i x1, hs_i s0, hs_i x3, hs_i x4, hs_i x5]) (st' := []) (h' := h) (fun n w => w) (fun b4 => ?_) (fun b4 => ?_)
  · rw [if_pos b4] at e
    refine hs_w 1 (pc' := 73) (ls' := [hs_r 12 0, hs_i x1, hs_i s0, hs_i x3, hs_i x4, hs_i x5]) (st' := [hs_i x3]) (h' := h) (fun n w => w) ?_
    exact hw_228_73 hd hk8 e q
  · rw [if_neg b4] at e
    obtain ⟨c5, e⟩ := hs_ck_some e
    refine hs_wa 4 (c := vp_in x4 60) (pc' := 69) (ls' := [hs_r 12 0, hs_i x1, hs_i s0, hs_i x3, hs_i x4, hs_i x5]) (st' := [hs_i (h.1 50 0 x4.toNatClampNeg)]) (h' := h) (fun n w => w) (hs_inb_iff.mp c5) ?_
    refine hs_w 1 (pc' := 73) (ls' := [hs_r 12 0, hs_i x1, hs_i s0, hs_i x3, hs_i x4, hs_i x5]) (st' := [hs_i (h.1 50 0 x4.toNatClampNeg)]) (h' := h) (fun n w => w) ?_
    exact hw_228_73 hd hk8 e q
def hb_228_43  (k8 : Int32 × Int32 × Int32 × Int32 × hs_H → Option (Int32 × hs_H)) (x1 : Int32) (x2 : Int32) (x3 : Int32) (x4 : Int32) (s0 : Int32) (h : hs_H) : Option (Int32 × hs_H) := if s0 = 0 then (hb_228_56 k8 x1 x3 x4 s0 x2 h) else (hb_228_56 k8 x1 x3 x4 s0 x4 h)
set_option maxHeartbeats 1000000 in
theorem hw_228_43 {S : hs_S} {d : Nat} {Q : hs_Q} (hd : 0 ≤ d)  {k8 : Int32 × Int32 × Int32 × Int32 × hs_H → Option (Int32 × hs_H)} (hk8 : ∀ (x1 : Int32) (x2 : Int32) (x3 : Int32) (x4 : Int32) (h : hs_H) (r : Int32 × hs_H) (v5 : hs_V), k8 (x1, x2, x3, x4, h) = some r → Q (some (hs_i r.1)) r.2 → hs_W S d 1 hs_p228 Q 8 [hs_r 12 0, hs_i x1, hs_i x2, hs_i x3, hs_i x4, v5] [] h) {x1 : Int32} {x2 : Int32} {x3 : Int32} {x4 : Int32} {s0 : Int32} {v5 : hs_V} {h : hs_H} {r : Int32 × hs_H} (e : hb_228_43 k8 x1 x2 x3 x4 s0 h = some r) (q : Q (some (hs_i r.1)) r.2) : hs_W S d 1 hs_p228 Q 43 [hs_r 12 0, hs_i x1, hs_i x2, hs_i x3, hs_i x4, v5] [hs_i s0] h := by
  unfold hb_228_43 at e
  refine hs_wb 3 (c := s0 = 0) (t := 55) (f := 50) (ls' := [hs_r 12 0, hs_i x1, hs_i x2, hs_i x3, hs_i x4, hs_i s0]) (st' := []) (h' := h) (fun n w => w) (fun b3 => ?_) (fun b3 => ?_)
  · rw [if_pos b3] at e
    refine hs_w 1 (pc' := 56) (ls' := [hs_r 12 0, hs_i x1, hs_i x2, hs_i x3, hs_i x4, hs_i s0]) (st' := [hs_i x2]) (h' := h) (fun n w => w) ?_
    exact hw_228_56 hd hk8 e q
  · rw [if_neg b3] at e
    refine hs_w 2 (pc' := 56) (ls' := [hs_r 12 0, hs_i x1, hs_i x2, hs_i x3, hs_i x4, hs_i s0]) (st' := [hs_i x4]) (h' := h) (fun n w => w) ?_
    exact hw_228_56 hd hk8 e q
def hb_228_42  (k8 : Int32 × Int32 × Int32 × Int32 × hs_H → Option (Int32 × hs_H)) (x1 : Int32) (x2 : Int32) (x3 : Int32) (x4 : Int32)  (h : hs_H) : Option (Int32 × hs_H) := hb_228_43 k8 x1 x2 x3 x4 (nI 0) h
set_option maxHeartbeats 1000000 in
theorem hw_228_42 {S : hs_S} {d : Nat} {Q : hs_Q} (hd : 0 ≤ d)  {k8 : Int32 × Int32 × Int32 × Int32 × hs_H → Option (Int32 × hs_H)} (hk8 : ∀ (x1 : Int32) (x2 : Int32) (x3 : Int32) (x4 : Int32) (h : hs_H) (r : Int32 × hs_H) (v5 : hs_V), k8 (x1, x2, x3, x4, h) = some r → Q (some (hs_i r.1)) r.2 → hs_W S d 1 hs_p228 Q 8 [hs_r 12 0, hs_i x1, hs_i x2, hs_i x3, hs_i x4, v5] [] h) {x1 : Int32} {x2 : Int32} {x3 : Int32} {x4 : Int32}  {v5 : hs_V} {h : hs_H} {r : Int32 × hs_H} (e : hb_228_42 k8 x1 x2 x3 x4 h = some r) (q : Q (some (hs_i r.1)) r.2) : hs_W S d 1 hs_p228 Q 42 [hs_r 12 0, hs_i x1, hs_i x2, hs_i x3, hs_i x4, v5] [] h := by
  unfold hb_228_42 at e
  refine hs_w 1 (pc' := 43) (ls' := [hs_r 12 0, hs_i x1, hs_i x2, hs_i x3, hs_i x4, v5]) (st' := [hs_i (nI 0)]) (h' := h) (fun n w => w) ?_
  exact hw_228_43 hd hk8 e q
def hb_228_8  (k8 : Int32 × Int32 × Int32 × Int32 × hs_H → Option (Int32 × hs_H)) (x1 : Int32) (x2 : Int32) (x3 : Int32) (x4 : Int32)  (h : hs_H) : Option (Int32 × hs_H) := if (h.1 12 0 2) ≤ x4 then (some (x2, h)) else (if ¬ ((x1 >>> (x4 &&& 31)) &&& (nI 1)) = (nI 1) then (hb_228_42 k8 x1 x2 x3 x4 h) else (hs_ck (hs_inb x4 60) (if (h.1 50 0 x4.toNatClampNeg) ≤ x3 then (hb_228_42 k8 x1 x2 x3 x4 h) else (hb_228_43 k8 x1 x2 x3 x4 (nI 1) h))))
set_option maxHeartbeats 1000000 in
theorem hw_228_8 {S : hs_S} {d : Nat} {Q : hs_Q} (hd : 0 ≤ d)  {k8 : Int32 × Int32 × Int32 × Int32 × hs_H → Option (Int32 × hs_H)} (hk8 : ∀ (x1 : Int32) (x2 : Int32) (x3 : Int32) (x4 : Int32) (h : hs_H) (r : Int32 × hs_H) (v5 : hs_V), k8 (x1, x2, x3, x4, h) = some r → Q (some (hs_i r.1)) r.2 → hs_W S d 1 hs_p228 Q 8 [hs_r 12 0, hs_i x1, hs_i x2, hs_i x3, hs_i x4, v5] [] h) {x1 : Int32} {x2 : Int32} {x3 : Int32} {x4 : Int32}  {v5 : hs_V} {h : hs_H} {r : Int32 × hs_H} (e : hb_228_8 k8 x1 x2 x3 x4 h = some r) (q : Q (some (hs_i r.1)) r.2) : hs_W S d 1 hs_p228 Q 8 [hs_r 12 0, hs_i x1, hs_i x2, hs_i x3, hs_i x4, v5] [] h := by
  unfold hb_228_8 at e
  refine hs_wb 4 (c := (h.1 12 0 2) ≤ x4) (t := 80) (f := 17) (ls' := [hs_r 12 0, hs_i x1, hs_i x2, hs_i x3, hs_i x4, v5]) (st' := []) (h' := h) (fun n w => w) (fun b1 => ?_) (fun b1 => ?_)
  · rw [if_pos b1] at e
    obtain rfl := Option.some.inj e
    exact hs_wr 2 (v := some (hs_i x2)) (h' := h) (fun n w => w) q
  · rw [if_neg b1] at e
    refine hs_wb 7 (c := ¬ ((x1 >>> (x4 &&& 31)) &&& (nI 1)) = (nI 1)) (t := 42) (f := 27) (ls' := [hs_r 12 0, hs_i x1, hs_i x2, hs_i x3, hs_i x4, v5]) (st' := []) (h' := h) (fun n w => w) (fun b2 => ?_) (fun b2 => ?_)
    · rw [if_pos b2] at e
      exact hw_228_42 hd hk8 e q
    · rw [if_neg b2] at e
      obtain ⟨c6, e⟩ := hs_ck_some e
      refine hs_wa 4 (c := vp_in x4 60) (pc' := 34) (ls' := [hs_r 12 0, hs_i x1, hs_i x2, hs_i x3, hs_i x4, v5]) (st' := [hs_i (h.1 50 0 x4.toNatClampNeg)]) (h' := h) (fun n w => w) (hs_inb_iff.mp c6) ?_
      refine hs_wb 2 (c := (h.1 50 0 x4.toNatClampNeg) ≤ x3) (t := 42) (f := 38) (ls' := [hs_r 12 0, hs_i x1, hs_i x2, hs_i x3, hs_i x4, v5]) (st' := []) (h' := h) (fun n w => w) (fun b7 => ?_) (fun b7 => ?_)
      · rw [if_pos b7] at e
        exact hw_228_42 hd hk8 e q
      · rw [if_neg b7] at e
        refine hs_w 2 (pc' := 43) (ls' := [hs_r 12 0, hs_i x1, hs_i x2, hs_i x3, hs_i x4, v5]) (st' := [hs_i (nI 1)]) (h' := h) (fun n w => w) ?_
        exact hw_228_43 hd hk8 e q
theorem hw_228_8_lp {S : hs_S} {d : Nat} {Q : hs_Q} (hd : 0 ≤ d)    (n : Nat) {x1 : Int32} {x2 : Int32} {x3 : Int32} {x4 : Int32} {h : hs_H} {r : Int32 × hs_H} (e : hs_lp (fun k s => hb_228_8 k s.1 s.2.1 s.2.2.1 s.2.2.2.1 s.2.2.2.2) n (x1, x2, x3, x4, h) = some r) (v5 : hs_V) (q : Q (some (hs_i r.1)) r.2) : hs_W S d 1 hs_p228 Q 8 [hs_r 12 0, hs_i x1, hs_i x2, hs_i x3, hs_i x4, v5] [] h := by
  refine hs_lp_ind (P := fun (s : Int32 × Int32 × Int32 × Int32 × hs_H) (r : Int32 × hs_H) => ∀ (v5 : hs_V), Q (some (hs_i r.1)) r.2 → hs_W S d 1 hs_p228 Q 8 [hs_r 12 0, hs_i s.1, hs_i s.2.1, hs_i s.2.2.1, hs_i s.2.2.2.1, v5] [] s.2.2.2.2) (fun k hk s r e v5 q => ?_) n (x1, x2, x3, x4, h) r e v5 q
  exact hw_228_8 hd (fun x1 x2 x3 x4 h r v5 e q => hk (x1, x2, x3, x4, h) r e v5 q) e q
/-- HuntedScentModel.strongest(I)I -/
def hf_228 (a1 : Int32) (h : hs_H) : Option (Int32 × hs_H) := hs_lp (fun k s => hb_228_8 k s.1 s.2.1 s.2.2.1 s.2.2.2.1 s.2.2.2.2) hs_big (a1, nI 4294967292, nI 0, nI 0, h)
set_option maxHeartbeats 1000000 in
theorem hc_228 {S : hs_S} {D : Nat} {Q : hs_Q} (hD : 1 ≤ D) {a1 : Int32} {h : hs_H} {r : Int32 × hs_H} (e : hf_228 a1 h = some r) (q : Q (some (hs_i r.1)) r.2) : hs_call hs_ms S D 228 [hs_r 12 0, hs_i a1] h Q := by
  refine hs_go (R := 0) hD rfl (Nat.le_of_ble_eq_true rfl) (fun d hd => ?_)
  show hs_W S d 1 hs_p228 Q 0 [hs_r 12 0, hs_i a1, hs_u, hs_u, hs_u, hs_u] [] h
  unfold hf_228 at e
  refine hs_w 6 (pc' := 8) (ls' := [hs_r 12 0, hs_i a1, hs_i (nI 4294967292), hs_i (nI 0), hs_i (nI 0), hs_u]) (st' := []) (h' := h) (fun n w => w) ?_
  exact hw_228_8_lp hd hs_big e _ q
def hb_229_236   (x3 : Int32)  (h : hs_H) : Option (Int32 × hs_H) := hs_ck (hs_b01 x3) (some (x3, h))
set_option maxHeartbeats 1000000 in
theorem hw_229_236 {S : hs_S} {d : Nat} {Q : hs_Q} (hd : 2 ≤ d)    {x3 : Int32}  {v1 : hs_V} {v2 : hs_V} {v4 : hs_V} {v5 : hs_V} {v6 : hs_V} {h : hs_H} {r : Int32 × hs_H} (e : hb_229_236 x3 h = some r) (q : Q (some (hs_i r.1)) r.2) : hs_W S d 2 hs_p229 Q 236 [hs_r 12 0, v1, v2, hs_i x3, v4, v5, v6] [] h := by
  unfold hb_229_236 at e
  obtain ⟨c5, e⟩ := hs_ck_some e
  obtain rfl := Option.some.inj e
  exact hs_wra 2 (c := x3 = 0 ∨ x3 = 1) (v := some (hs_i x3)) (h' := h) (fun n w => w) (hs_b01_iff.mp c5) q
def hb_229_220  (k69 : Int32 × Int32 × Int32 × Int32 × hs_H → Option (Int32 × hs_H)) (x1 : Int32) (x2 : Int32) (x3 : Int32) (x4 : Int32)  (h : hs_H) : Option (Int32 × hs_H) := k69 (x1, x2, x3, x4 + nI 1, hs_put h 12 0 37 ((h.1 12 0 37) + (nI 1)))
set_option maxHeartbeats 1000000 in
theorem hw_229_220 {S : hs_S} {d : Nat} {Q : hs_Q} (hd : 2 ≤ d)  {k69 : Int32 × Int32 × Int32 × Int32 × hs_H → Option (Int32 × hs_H)} (hk69 : ∀ (x1 : Int32) (x2 : Int32) (x3 : Int32) (x4 : Int32) (h : hs_H) (r : Int32 × hs_H) (v5 : hs_V) (v6 : hs_V), k69 (x1, x2, x3, x4, h) = some r → Q (some (hs_i r.1)) r.2 → hs_W S d 2 hs_p229 Q 69 [hs_r 12 0, hs_i x1, hs_i x2, hs_i x3, hs_i x4, v5, v6] [] h) {x1 : Int32} {x2 : Int32} {x3 : Int32} {x4 : Int32}  {v5 : hs_V} {v6 : hs_V} {h : hs_H} {r : Int32 × hs_H} (e : hb_229_220 k69 x1 x2 x3 x4 h = some r) (q : Q (some (hs_i r.1)) r.2) : hs_W S d 2 hs_p229 Q 220 [hs_r 12 0, hs_i x1, hs_i x2, hs_i x3, hs_i x4, v5, v6] [] h := by
  unfold hb_229_220 at e
  refine hs_w 8 (pc' := 69) (ls' := [hs_r 12 0, hs_i x1, hs_i x2, hs_i x3, hs_i (x4 + nI 1), v5, v6]) (st' := []) (h' := hs_put h 12 0 37 ((h.1 12 0 37) + (nI 1))) (fun n w => w) ?_
  exact hk69 _ _ _ _ _ _ _ _ e q
def hb_229_219  (k69 : Int32 × Int32 × Int32 × Int32 × hs_H → Option (Int32 × hs_H)) (x1 : Int32) (x2 : Int32) (x4 : Int32) (s0 : Int32) (h : hs_H) : Option (Int32 × hs_H) := hb_229_220 k69 x1 x2 s0 x4 h
set_option maxHeartbeats 1000000 in
theorem hw_229_219 {S : hs_S} {d : Nat} {Q : hs_Q} (hd : 2 ≤ d)  {k69 : Int32 × Int32 × Int32 × Int32 × hs_H → Option (Int32 × hs_H)} (hk69 : ∀ (x1 : Int32) (x2 : Int32) (x3 : Int32) (x4 : Int32) (h : hs_H) (r : Int32 × hs_H) (v5 : hs_V) (v6 : hs_V), k69 (x1, x2, x3, x4, h) = some r → Q (some (hs_i r.1)) r.2 → hs_W S d 2 hs_p229 Q 69 [hs_r 12 0, hs_i x1, hs_i x2, hs_i x3, hs_i x4, v5, v6] [] h) {x1 : Int32} {x2 : Int32} {x4 : Int32} {s0 : Int32} {v3 : hs_V} {v5 : hs_V} {v6 : hs_V} {h : hs_H} {r : Int32 × hs_H} (e : hb_229_219 k69 x1 x2 x4 s0 h = some r) (q : Q (some (hs_i r.1)) r.2) : hs_W S d 2 hs_p229 Q 219 [hs_r 12 0, hs_i x1, hs_i x2, v3, hs_i x4, v5, v6] [hs_i s0] h := by
  unfold hb_229_219 at e
  refine hs_w 1 (pc' := 220) (ls' := [hs_r 12 0, hs_i x1, hs_i x2, hs_i s0, hs_i x4, v5, v6]) (st' := []) (h' := h) (fun n w => w) ?_
  exact hw_229_220 hd hk69 e q
def hb_229_208  (k69 : Int32 × Int32 × Int32 × Int32 × hs_H → Option (Int32 × hs_H)) (x1 : Int32) (x4 : Int32) (s0 : Int32) (h : hs_H) : Option (Int32 × hs_H) := if ¬ x1 = s0 then (hb_229_219 k69 x1 s0 x4 (nI 0) h) else (hb_229_219 k69 x1 s0 x4 (nI 1) h)
set_option maxHeartbeats 1000000 in
theorem hw_229_208 {S : hs_S} {d : Nat} {Q : hs_Q} (hd : 2 ≤ d)  {k69 : Int32 × Int32 × Int32 × Int32 × hs_H → Option (Int32 × hs_H)} (hk69 : ∀ (x1 : Int32) (x2 : Int32) (x3 : Int32) (x4 : Int32) (h : hs_H) (r : Int32 × hs_H) (v5 : hs_V) (v6 : hs_V), k69 (x1, x2, x3, x4, h) = some r → Q (some (hs_i r.1)) r.2 → hs_W S d 2 hs_p229 Q 69 [hs_r 12 0, hs_i x1, hs_i x2, hs_i x3, hs_i x4, v5, v6] [] h) {x1 : Int32} {x4 : Int32} {s0 : Int32} {v2 : hs_V} {v3 : hs_V} {v5 : hs_V} {v6 : hs_V} {h : hs_H} {r : Int32 × hs_H} (e : hb_229_208 k69 x1 x4 s0 h = some r) (q : Q (some (hs_i r.1)) r.2) : hs_W S d 2 hs_p229 Q 208 [hs_r 12 0, hs_i x1, v2, v3, hs_i x4, v5, v6] [hs_i s0] h := by
  unfold hb_229_208 at e
  refine hs_wb 4 (c := ¬ x1 = s0) (t := 218) (f := 214) (ls' := [hs_r 12 0, hs_i x1, hs_i s0, v3, hs_i x4, v5, v6]) (st' := []) (h' := h) (fun n w => w) (fun b18 => ?_) (fun b18 => ?_)
  · rw [if_pos b18] at e
    refine hs_w 1 (pc' := 219) (ls' := [hs_r 12 0, hs_i x1, hs_i s0, v3, hs_i x4, v5, v6]) (st' := [hs_i (nI 0)]) (h' := h) (fun n w => w) ?_
    exact hw_229_219 hd hk69 e q
  · rw [if_neg b18] at e
    refine hs_w 2 (pc' := 219) (ls' := [hs_r 12 0, hs_i x1, hs_i s0, v3, hs_i x4, v5, v6]) (st' := [hs_i (nI 1)]) (h' := h) (fun n w => w) ?_
    exact hw_229_219 hd hk69 e q
def hb_229_160  (k69 : Int32 × Int32 × Int32 × Int32 × hs_H → Option (Int32 × hs_H)) (x1 : Int32) (x2 : Int32) (x4 : Int32) (s0 : Int32) (h : hs_H) : Option (Int32 × hs_H) := if ¬ s0 = 0 then (hb_229_220 k69 x1 x2 s0 x4 h) else (hs_ck (hs_inb x2 162) (if (h.1 44 0 x2.toNatClampNeg) = 0 then (hb_229_220 k69 x1 x2 s0 x4 h) else (hs_ck (hs_inb x2 162) ((hf_228 (h.1 44 0 x2.toNatClampNeg) h).bind (fun q16 => if ¬ q16.1 = (nI 4294967292) then (hb_229_208 k69 x1 x4 q16.1 q16.2) else (hs_ck (hs_inb x2 162) ((hf_227 (q16.2.1 44 0 x2.toNatClampNeg) q16.2).bind (fun q20 => hb_229_208 k69 x1 x4 q20.1 q20.2))))))))
set_option maxHeartbeats 1000000 in
theorem hw_229_160 {S : hs_S} {d : Nat} {Q : hs_Q} (hd : 2 ≤ d)  {k69 : Int32 × Int32 × Int32 × Int32 × hs_H → Option (Int32 × hs_H)} (hk69 : ∀ (x1 : Int32) (x2 : Int32) (x3 : Int32) (x4 : Int32) (h : hs_H) (r : Int32 × hs_H) (v5 : hs_V) (v6 : hs_V), k69 (x1, x2, x3, x4, h) = some r → Q (some (hs_i r.1)) r.2 → hs_W S d 2 hs_p229 Q 69 [hs_r 12 0, hs_i x1, hs_i x2, hs_i x3, hs_i x4, v5, v6] [] h) {x1 : Int32} {x2 : Int32} {x4 : Int32} {s0 : Int32} {v3 : hs_V} {v5 : hs_V} {v6 : hs_V} {h : hs_H} {r : Int32 × hs_H} (e : hb_229_160 k69 x1 x2 x4 s0 h = some r) (q : Q (some (hs_i r.1)) r.2) : hs_W S d 2 hs_p229 Q 160 [hs_r 12 0, hs_i x1, hs_i x2, v3, hs_i x4, v5, v6] [hs_i s0] h := by
  unfold hb_229_160 at e
  refine hs_wb 3 (c := ¬ s0 = 0) (t := 220) (f := 165) (ls' := [hs_r 12 0, hs_i x1, hs_i x2, hs_i s0, hs_i x4, v5, v6]) (st' := []) (h' := h) (fun n w => w) (fun b12 => ?_) (fun b12 => ?_)
  · rw [if_pos b12] at e
    exact hw_229_220 hd hk69 e q
  · rw [if_neg b12] at e
    obtain ⟨c13, e⟩ := hs_ck_some e
    refine hs_wa 4 (c := vp_in x2 162) (pc' := 171) (ls' := [hs_r 12 0, hs_i x1, hs_i x2, hs_i s0, hs_i x4, v5, v6]) (st' := [hs_i (h.1 44 0 x2.toNatClampNeg)]) (h' := h) (fun n w => w) (hs_inb_iff.mp c13) ?_
    refine hs_wb 1 (c := (h.1 44 0 x2.toNatClampNeg) = 0) (t := 220) (f := 174) (ls' := [hs_r 12 0, hs_i x1, hs_i x2, hs_i s0, hs_i x4, v5, v6]) (st' := []) (h' := h) (fun n w => w) (fun b14 => ?_) (fun b14 => ?_)
    · rw [if_pos b14] at e
      exact hw_229_220 hd hk69 e q
    · rw [if_neg b14] at e
      obtain ⟨c15, e⟩ := hs_ck_some e
      refine hs_wa 5 (c := vp_in x2 162) (pc' := 181) (ls' := [hs_r 12 0, hs_i x1, hs_i x2, hs_i s0, hs_i x4, v5, v6]) (st' := [hs_i (h.1 44 0 x2.toNatClampNeg), hs_r 12 0]) (h' := h) (fun n w => w) (hs_inb_iff.mp c15) ?_
      obtain ⟨q16, eq16, e⟩ := hs_bind_some e
      try dsimp only at e
      refine hs_wc 1 (y := 228) (a := [hs_r 12 0, hs_i (h.1 44 0 x2.toNatClampNeg)]) (v := some (hs_i q16.1)) (pc' := 184) (ls' := [hs_r 12 0, hs_i x1, hs_i x2, hs_i s0, hs_i x4, v5, v6]) (st' := []) (h' := h) (h2 := q16.2) (fun n w => w) (fun q => hc_228 (by omega) eq16 q) ?_
      refine hs_wb 4 (c := ¬ q16.1 = (nI 4294967292)) (t := 206) (f := 193) (ls' := [hs_r 12 0, hs_i x1, hs_i x2, hs_i s0, hs_i x4, v5, hs_i q16.1]) (st' := []) (h' := q16.2) (fun n w => w) (fun b17 => ?_) (fun b17 => ?_)
      · rw [if_pos b17] at e
        refine hs_w 1 (pc' := 208) (ls' := [hs_r 12 0, hs_i x1, hs_i x2, hs_i s0, hs_i x4, v5, hs_i q16.1]) (st' := [hs_i q16.1]) (h' := q16.2) (fun n w => w) ?_
        exact hw_229_208 hd hk69 e q
      · rw [if_neg b17] at e
        obtain ⟨c19, e⟩ := hs_ck_some e
        refine hs_wa 5 (c := vp_in x2 162) (pc' := 200) (ls' := [hs_r 12 0, hs_i x1, hs_i x2, hs_i s0, hs_i x4, v5, hs_i q16.1]) (st' := [hs_i (q16.2.1 44 0 x2.toNatClampNeg), hs_r 12 0]) (h' := q16.2) (fun n w => w) (hs_inb_iff.mp c19) ?_
        obtain ⟨q20, eq20, e⟩ := hs_bind_some e
        try dsimp only at e
        refine hs_wc 1 (y := 227) (a := [hs_r 12 0, hs_i (q16.2.1 44 0 x2.toNatClampNeg)]) (v := some (hs_i q20.1)) (pc' := 203) (ls' := [hs_r 12 0, hs_i x1, hs_i x2, hs_i s0, hs_i x4, v5, hs_i q16.1]) (st' := []) (h' := q16.2) (h2 := q20.2) (fun n w => w) (fun q => hc_227 (by omega) eq20 q) ?_
        refine hs_w 1 (pc' := 208) (ls' := [hs_r 12 0, hs_i x1, hs_i x2, hs_i s0, hs_i x4, v5, hs_i q16.1]) (st' := [hs_i q20.1]) (h' := q20.2) (fun n w => w) ?_
        exact hw_229_208 hd hk69 e q
def hb_229_114  (k69 : Int32 × Int32 × Int32 × Int32 × hs_H → Option (Int32 × hs_H)) (k114 : Int32 × Int32 × Int32 × Int32 × hs_H → Option (Int32 × hs_H)) (x1 : Int32) (x2 : Int32) (x4 : Int32) (x6 : Int32)  (h : hs_H) : Option (Int32 × hs_H) := if (h.1 12 0 2) ≤ x6 then (if ¬ x1 = x2 then (hb_229_160 k69 x1 x2 x4 (nI 0) h) else (hb_229_160 k69 x1 x2 x4 (nI 1) h)) else (hs_ck (hs_inb x6 60) ((hf_183 (h.1 50 0 x6.toNatClampNeg) x6 x1 h).bind (fun q22 => hs_ck (hs_inb x6 60) (k114 (x1, x2, x4, x6 + nI 1, hs_put q22.2 50 0 x6.toNatClampNeg q22.1)))))
set_option maxHeartbeats 1000000 in
theorem hw_229_114 {S : hs_S} {d : Nat} {Q : hs_Q} (hd : 2 ≤ d)  {k69 : Int32 × Int32 × Int32 × Int32 × hs_H → Option (Int32 × hs_H)} {k114 : Int32 × Int32 × Int32 × Int32 × hs_H → Option (Int32 × hs_H)} (hk69 : ∀ (x1 : Int32) (x2 : Int32) (x3 : Int32) (x4 : Int32) (h : hs_H) (r : Int32 × hs_H) (v5 : hs_V) (v6 : hs_V), k69 (x1, x2, x3, x4, h) = some r → Q (some (hs_i r.1)) r.2 → hs_W S d 2 hs_p229 Q 69 [hs_r 12 0, hs_i x1, hs_i x2, hs_i x3, hs_i x4, v5, v6] [] h) (hk114 : ∀ (x1 : Int32) (x2 : Int32) (x4 : Int32) (x6 : Int32) (h : hs_H) (r : Int32 × hs_H) (v3 : hs_V) (v5 : hs_V), k114 (x1, x2, x4, x6, h) = some r → Q (some (hs_i r.1)) r.2 → hs_W S d 2 hs_p229 Q 114 [hs_r 12 0, hs_i x1, hs_i x2, v3, hs_i x4, v5, hs_i x6] [] h) {x1 : Int32} {x2 : Int32} {x4 : Int32} {x6 : Int32}  {v3 : hs_V} {v5 : hs_V} {h : hs_H} {r : Int32 × hs_H} (e : hb_229_114 k69 k114 x1 x2 x4 x6 h = some r) (q : Q (some (hs_i r.1)) r.2) : hs_W S d 2 hs_p229 Q 114 [hs_r 12 0, hs_i x1, hs_i x2, v3, hs_i x4, v5, hs_i x6] [] h := by
  unfold hb_229_114 at e
  refine hs_wb 4 (c := (h.1 12 0 2) ≤ x6) (t := 150) (f := 123) (ls' := [hs_r 12 0, hs_i x1, hs_i x2, v3, hs_i x4, v5, hs_i x6]) (st' := []) (h' := h) (fun n w => w) (fun b10 => ?_) (fun b10 => ?_)
  · rw [if_pos b10] at e
    refine hs_wb 3 (c := ¬ x1 = x2) (t := 159) (f := 155) (ls' := [hs_r 12 0, hs_i x1, hs_i x2, v3, hs_i x4, v5, hs_i x6]) (st' := []) (h' := h) (fun n w => w) (fun b11 => ?_) (fun b11 => ?_)
    · rw [if_pos b11] at e
      refine hs_w 1 (pc' := 160) (ls' := [hs_r 12 0, hs_i x1, hs_i x2, v3, hs_i x4, v5, hs_i x6]) (st' := [hs_i (nI 0)]) (h' := h) (fun n w => w) ?_
      exact hw_229_160 hd hk69 e q
    · rw [if_neg b11] at e
      refine hs_w 2 (pc' := 160) (ls' := [hs_r 12 0, hs_i x1, hs_i x2, v3, hs_i x4, v5, hs_i x6]) (st' := [hs_i (nI 1)]) (h' := h) (fun n w => w) ?_
      exact hw_229_160 hd hk69 e q
  · rw [if_neg b10] at e
    obtain ⟨c21, e⟩ := hs_ck_some e
    refine hs_wa 8 (c := vp_in x6 60) (pc' := 137) (ls' := [hs_r 12 0, hs_i x1, hs_i x2, v3, hs_i x4, v5, hs_i x6]) (st' := [hs_i (h.1 50 0 x6.toNatClampNeg), hs_r 12 0, hs_i x6, hs_r 50 0]) (h' := h) (fun n w => w) (hs_inb_iff.mp c21) ?_
    obtain ⟨q22, eq22, e⟩ := hs_bind_some e
    try dsimp only at e
    refine hs_wc 3 (y := 183) (a := [hs_r 12 0, hs_i (h.1 50 0 x6.toNatClampNeg), hs_i x6, hs_i x1]) (v := some (hs_i q22.1)) (pc' := 143) (ls' := [hs_r 12 0, hs_i x1, hs_i x2, v3, hs_i x4, v5, hs_i x6]) (st' := [hs_i x6, hs_r 50 0]) (h' := h) (h2 := q22.2) (fun n w => w) (fun q => hc_183 (by omega) eq22 q) ?_
    obtain ⟨c23, e⟩ := hs_ck_some e
    refine hs_wa 1 (c := vp_in x6 60) (pc' := 144) (ls' := [hs_r 12 0, hs_i x1, hs_i x2, v3, hs_i x4, v5, hs_i x6]) (st' := []) (h' := hs_put q22.2 50 0 x6.toNatClampNeg q22.1) (fun n w => w) (hs_inb_iff.mp c23) ?_
    refine hs_w 2 (pc' := 114) (ls' := [hs_r 12 0, hs_i x1, hs_i x2, v3, hs_i x4, v5, hs_i (x6 + nI 1)]) (st' := []) (h' := hs_put q22.2 50 0 x6.toNatClampNeg q22.1) (fun n w => w) ?_
    exact hk114 _ _ _ _ _ _ _ _ e q
theorem hw_229_114_lp {S : hs_S} {d : Nat} {Q : hs_Q} (hd : 2 ≤ d)  {k69 : Int32 × Int32 × Int32 × Int32 × hs_H → Option (Int32 × hs_H)} (hk69 : ∀ (x1 : Int32) (x2 : Int32) (x3 : Int32) (x4 : Int32) (h : hs_H) (r : Int32 × hs_H) (v5 : hs_V) (v6 : hs_V), k69 (x1, x2, x3, x4, h) = some r → Q (some (hs_i r.1)) r.2 → hs_W S d 2 hs_p229 Q 69 [hs_r 12 0, hs_i x1, hs_i x2, hs_i x3, hs_i x4, v5, v6] [] h) (n : Nat) {x1 : Int32} {x2 : Int32} {x4 : Int32} {x6 : Int32} {h : hs_H} {r : Int32 × hs_H} (e : hs_lp (fun k s => hb_229_114 k69 k s.1 s.2.1 s.2.2.1 s.2.2.2.1 s.2.2.2.2) n (x1, x2, x4, x6, h) = some r) (v3 : hs_V) (v5 : hs_V) (q : Q (some (hs_i r.1)) r.2) : hs_W S d 2 hs_p229 Q 114 [hs_r 12 0, hs_i x1, hs_i x2, v3, hs_i x4, v5, hs_i x6] [] h := by
  refine hs_lp_ind (P := fun (s : Int32 × Int32 × Int32 × Int32 × hs_H) (r : Int32 × hs_H) => ∀ (v3 : hs_V) (v5 : hs_V), Q (some (hs_i r.1)) r.2 → hs_W S d 2 hs_p229 Q 114 [hs_r 12 0, hs_i s.1, hs_i s.2.1, v3, hs_i s.2.2.1, v5, hs_i s.2.2.2.1] [] s.2.2.2.2) (fun k hk s r e v3 v5 q => ?_) n (x1, x2, x4, x6, h) r e v3 v5 q
  exact hw_229_114 hd hk69 (fun x1 x2 x4 x6 h r v3 v5 e q => hk (x1, x2, x4, x6, h) r e v3 v5 q) e q
def hb_229_110  (k69 : Int32 × Int32 × Int32 × Int32 × hs_H → Option (Int32 × hs_H)) (x2 : Int32) (x4 : Int32) (s0 : Int32) (h : hs_H) : Option (Int32 × hs_H) := hs_lp (fun k s => hb_229_114 k69 k s.1 s.2.1 s.2.2.1 s.2.2.2.1 s.2.2.2.2) hs_big (s0, x2, x4, nI 0, h)
set_option maxHeartbeats 1000000 in
theorem hw_229_110 {S : hs_S} {d : Nat} {Q : hs_Q} (hd : 2 ≤ d)  {k69 : Int32 × Int32 × Int32 × Int32 × hs_H → Option (Int32 × hs_H)} (hk69 : ∀ (x1 : Int32) (x2 : Int32) (x3 : Int32) (x4 : Int32) (h : hs_H) (r : Int32 × hs_H) (v5 : hs_V) (v6 : hs_V), k69 (x1, x2, x3, x4, h) = some r → Q (some (hs_i r.1)) r.2 → hs_W S d 2 hs_p229 Q 69 [hs_r 12 0, hs_i x1, hs_i x2, hs_i x3, hs_i x4, v5, v6] [] h) {x2 : Int32} {x4 : Int32} {s0 : Int32} {v1 : hs_V} {v3 : hs_V} {v5 : hs_V} {v6 : hs_V} {h : hs_H} {r : Int32 × hs_H} (e : hb_229_110 k69 x2 x4 s0 h = some r) (q : Q (some (hs_i r.1)) r.2) : hs_W S d 2 hs_p229 Q 110 [hs_r 12 0, v1, hs_i x2, v3, hs_i x4, v5, v6] [hs_i s0] h := by
  unfold hb_229_110 at e
  refine hs_w 3 (pc' := 114) (ls' := [hs_r 12 0, hs_i s0, hs_i x2, v3, hs_i x4, v5, hs_i (nI 0)]) (st' := []) (h' := h) (fun n w => w) ?_
  exact hw_229_114_lp hd hk69 hs_big e _ _ q
def hb_229_69  (k69 : Int32 × Int32 × Int32 × Int32 × hs_H → Option (Int32 × hs_H)) (x1 : Int32) (x2 : Int32) (x3 : Int32) (x4 : Int32)  (h : hs_H) : Option (Int32 × hs_H) := if (nI 20) ≤ x4 then (hb_229_236 x3 h) else (if ¬ x3 = 0 then (hb_229_236 x3 h) else (hs_ck (hs_inb x1 162) (if ¬ ((h.1 44 0 x1.toNatClampNeg) ||| ((h.1 12 0 3) <<< (x1 &&& 31))) = 0 then ((hf_227 ((h.1 44 0 x1.toNatClampNeg) ||| ((h.1 12 0 3) <<< (x1 &&& 31))) h).bind (fun q9 => hb_229_110 k69 x2 x4 q9.1 q9.2)) else (hb_229_110 k69 x2 x4 x1 h))))
set_option maxHeartbeats 1000000 in
theorem hw_229_69 {S : hs_S} {d : Nat} {Q : hs_Q} (hd : 2 ≤ d)  {k69 : Int32 × Int32 × Int32 × Int32 × hs_H → Option (Int32 × hs_H)} (hk69 : ∀ (x1 : Int32) (x2 : Int32) (x3 : Int32) (x4 : Int32) (h : hs_H) (r : Int32 × hs_H) (v5 : hs_V) (v6 : hs_V), k69 (x1, x2, x3, x4, h) = some r → Q (some (hs_i r.1)) r.2 → hs_W S d 2 hs_p229 Q 69 [hs_r 12 0, hs_i x1, hs_i x2, hs_i x3, hs_i x4, v5, v6] [] h) {x1 : Int32} {x2 : Int32} {x3 : Int32} {x4 : Int32}  {v5 : hs_V} {v6 : hs_V} {h : hs_H} {r : Int32 × hs_H} (e : hb_229_69 k69 x1 x2 x3 x4 h = some r) (q : Q (some (hs_i r.1)) r.2) : hs_W S d 2 hs_p229 Q 69 [hs_r 12 0, hs_i x1, hs_i x2, hs_i x3, hs_i x4, v5, v6] [] h := by
  unfold hb_229_69 at e
  refine hs_wb 3 (c := (nI 20) ≤ x4) (t := 236) (f := 76) (ls' := [hs_r 12 0, hs_i x1, hs_i x2, hs_i x3, hs_i x4, v5, v6]) (st' := []) (h' := h) (fun n w => w) (fun b4 => ?_) (fun b4 => ?_)
  · rw [if_pos b4] at e
    exact hw_229_236 hd e q
  · rw [if_neg b4] at e
    refine hs_wb 2 (c := ¬ x3 = 0) (t := 236) (f := 80) (ls' := [hs_r 12 0, hs_i x1, hs_i x2, hs_i x3, hs_i x4, v5, v6]) (st' := []) (h' := h) (fun n w => w) (fun b6 => ?_) (fun b6 => ?_)
    · rw [if_pos b6] at e
      exact hw_229_236 hd e q
    · rw [if_neg b6] at e
      obtain ⟨c7, e⟩ := hs_ck_some e
      refine hs_wa 4 (c := vp_in x1 162) (pc' := 86) (ls' := [hs_r 12 0, hs_i x1, hs_i x2, hs_i x3, hs_i x4, v5, v6]) (st' := [hs_i (h.1 44 0 x1.toNatClampNeg)]) (h' := h) (fun n w => w) (hs_inb_iff.mp c7) ?_
      refine hs_wb 8 (c := ¬ ((h.1 44 0 x1.toNatClampNeg) ||| ((h.1 12 0 3) <<< (x1 &&& 31))) = 0) (t := 104) (f := 100) (ls' := [hs_r 12 0, hs_i x1, hs_i x2, hs_i x3, hs_i x4, hs_i ((h.1 44 0 x1.toNatClampNeg) ||| ((h.1 12 0 3) <<< (x1 &&& 31))), v6]) (st' := []) (h' := h) (fun n w => w) (fun b8 => ?_) (fun b8 => ?_)
      · rw [if_pos b8] at e
        obtain ⟨q9, eq9, e⟩ := hs_bind_some e
        try dsimp only at e
        refine hs_wc 3 (y := 227) (a := [hs_r 12 0, hs_i ((h.1 44 0 x1.toNatClampNeg) ||| ((h.1 12 0 3) <<< (x1 &&& 31)))]) (v := some (hs_i q9.1)) (pc' := 110) (ls' := [hs_r 12 0, hs_i x1, hs_i x2, hs_i x3, hs_i x4, hs_i ((h.1 44 0 x1.toNatClampNeg) ||| ((h.1 12 0 3) <<< (x1 &&& 31))), v6]) (st' := []) (h' := h) (h2 := q9.2) (fun n w => w) (fun q => hc_227 (by omega) eq9 q) ?_
        exact hw_229_110 hd hk69 e q
      · rw [if_neg b8] at e
        refine hs_w 2 (pc' := 110) (ls' := [hs_r 12 0, hs_i x1, hs_i x2, hs_i x3, hs_i x4, hs_i ((h.1 44 0 x1.toNatClampNeg) ||| ((h.1 12 0 3) <<< (x1 &&& 31))), v6]) (st' := [hs_i x1]) (h' := h) (fun n w => w) ?_
        exact hw_229_110 hd hk69 e q
theorem hw_229_69_lp {S : hs_S} {d : Nat} {Q : hs_Q} (hd : 2 ≤ d)    (n : Nat) {x1 : Int32} {x2 : Int32} {x3 : Int32} {x4 : Int32} {h : hs_H} {r : Int32 × hs_H} (e : hs_lp (fun k s => hb_229_69 k s.1 s.2.1 s.2.2.1 s.2.2.2.1 s.2.2.2.2) n (x1, x2, x3, x4, h) = some r) (v5 : hs_V) (v6 : hs_V) (q : Q (some (hs_i r.1)) r.2) : hs_W S d 2 hs_p229 Q 69 [hs_r 12 0, hs_i x1, hs_i x2, hs_i x3, hs_i x4, v5, v6] [] h := by
  refine hs_lp_ind (P := fun (s : Int32 × Int32 × Int32 × Int32 × hs_H) (r : Int32 × hs_H) => ∀ (v5 : hs_V) (v6 : hs_V), Q (some (hs_i r.1)) r.2 → hs_W S d 2 hs_p229 Q 69 [hs_r 12 0, hs_i s.1, hs_i s.2.1, hs_i s.2.2.1, hs_i s.2.2.2.1, v5, v6] [] s.2.2.2.2) (fun k hk s r e v5 v6 q => ?_) n (x1, x2, x3, x4, h) r e v5 v6 q
  exact hw_229_69 hd (fun x1 x2 x3 x4 h r v5 v6 e q => hk (x1, x2, x3, x4, h) r e v5 v6 q) e q
def hb_229_59  (k23 : Int32 × Int32 × Int32 × Int32 × hs_H → Option (Int32 × hs_H)) (x1 : Int32) (x2 : Int32) (x3 : Int32) (x4 : Int32) (s0 : Int32) (s1 : Int32) (h : hs_H) : Option (Int32 × hs_H) := hs_ck (hs_inb s1 60) (k23 (x1, x2, x3, x4 + nI 1, hs_put h 50 0 s1.toNatClampNeg s0))
set_option maxHeartbeats 1000000 in
theorem hw_229_59 {S : hs_S} {d : Nat} {Q : hs_Q} (hd : 2 ≤ d)  {k23 : Int32 × Int32 × Int32 × Int32 × hs_H → Option (Int32 × hs_H)} (hk23 : ∀ (x1 : Int32) (x2 : Int32) (x3 : Int32) (x4 : Int32) (h : hs_H) (r : Int32 × hs_H) (v5 : hs_V) (v6 : hs_V), k23 (x1, x2, x3, x4, h) = some r → Q (some (hs_i r.1)) r.2 → hs_W S d 2 hs_p229 Q 23 [hs_r 12 0, hs_i x1, hs_i x2, hs_i x3, hs_i x4, v5, v6] [] h) {x1 : Int32} {x2 : Int32} {x3 : Int32} {x4 : Int32} {s0 : Int32} {s1 : Int32} {v5 : hs_V} {v6 : hs_V} {h : hs_H} {r : Int32 × hs_H} (e : hb_229_59 k23 x1 x2 x3 x4 s0 s1 h = some r) (q : Q (some (hs_i r.1)) r.2) : hs_W S d 2 hs_p229 Q 59 [hs_r 12 0, hs_i x1, hs_i x2, hs_i x3, hs_i x4, v5, v6] [hs_i s0, hs_i s1, hs_r 50 0] h := by
  unfold hb_229_59 at e
  obtain ⟨c25, e⟩ := hs_ck_some e
  refine hs_wa 1 (c := vp_in s1 60) (pc' := 60) (ls' := [hs_r 12 0, hs_i x1, hs_i x2, hs_i x3, hs_i x4, v5, v6]) (st' := []) (h' := hs_put h 50 0 s1.toNatClampNeg s0) (fun n w => w) (hs_inb_iff.mp c25) ?_
  refine hs_w 2 (pc' := 23) (ls' := [hs_r 12 0, hs_i x1, hs_i x2, hs_i x3, hs_i (x4 + nI 1), v5, v6]) (st' := []) (h' := hs_put h 50 0 s1.toNatClampNeg s0) (fun n w => w) ?_
  exact hk23 _ _ _ _ _ _ _ _ e q
def hb_229_58  (k23 : Int32 × Int32 × Int32 × Int32 × hs_H → Option (Int32 × hs_H)) (x1 : Int32) (x2 : Int32) (x3 : Int32) (x4 : Int32) (s0 : Int32) (h : hs_H) : Option (Int32 × hs_H) := hb_229_59 k23 x1 x2 x3 x4 (nI 0) s0 h
set_option maxHeartbeats 1000000 in
theorem hw_229_58 {S : hs_S} {d : Nat} {Q : hs_Q} (hd : 2 ≤ d)  {k23 : Int32 × Int32 × Int32 × Int32 × hs_H → Option (Int32 × hs_H)} (hk23 : ∀ (x1 : Int32) (x2 : Int32) (x3 : Int32) (x4 : Int32) (h : hs_H) (r : Int32 × hs_H) (v5 : hs_V) (v6 : hs_V), k23 (x1, x2, x3, x4, h) = some r → Q (some (hs_i r.1)) r.2 → hs_W S d 2 hs_p229 Q 23 [hs_r 12 0, hs_i x1, hs_i x2, hs_i x3, hs_i x4, v5, v6] [] h) {x1 : Int32} {x2 : Int32} {x3 : Int32} {x4 : Int32} {s0 : Int32} {v5 : hs_V} {v6 : hs_V} {h : hs_H} {r : Int32 × hs_H} (e : hb_229_58 k23 x1 x2 x3 x4 s0 h = some r) (q : Q (some (hs_i r.1)) r.2) : hs_W S d 2 hs_p229 Q 58 [hs_r 12 0, hs_i x1, hs_i x2, hs_i x3, hs_i x4, v5, v6] [hs_i s0, hs_r 50 0] h := by
  unfold hb_229_58 at e
  refine hs_w 1 (pc' := 59) (ls' := [hs_r 12 0, hs_i x1, hs_i x2, hs_i x3, hs_i x4, v5, v6]) (st' := [hs_i (nI 0), hs_i s0, hs_r 50 0]) (h' := h) (fun n w => w) ?_
  exact hw_229_59 hd hk23 e q
def hb_229_23  (k23 : Int32 × Int32 × Int32 × Int32 × hs_H → Option (Int32 × hs_H)) (x1 : Int32) (x2 : Int32) (x3 : Int32) (x4 : Int32)  (h : hs_H) : Option (Int32 × hs_H) := if (h.1 12 0 2) ≤ x4 then (hs_lp (fun k s => hb_229_69 k s.1 s.2.1 s.2.2.1 s.2.2.2.1 s.2.2.2.2) hs_big (x1, x2, x3, nI 0, h)) else (if ¬ x4 = x1 then (hb_229_58 k23 x1 x2 x3 x4 x4 h) else ((hf_180 x4 h).bind (fun q26 => if ¬ q26.1 = 0 then (hb_229_58 k23 x1 x2 x3 x4 x4 q26.2) else (hb_229_59 k23 x1 x2 x3 x4 (nI 9) x4 q26.2))))
set_option maxHeartbeats 1000000 in
theorem hw_229_23 {S : hs_S} {d : Nat} {Q : hs_Q} (hd : 2 ≤ d)  {k23 : Int32 × Int32 × Int32 × Int32 × hs_H → Option (Int32 × hs_H)} (hk23 : ∀ (x1 : Int32) (x2 : Int32) (x3 : Int32) (x4 : Int32) (h : hs_H) (r : Int32 × hs_H) (v5 : hs_V) (v6 : hs_V), k23 (x1, x2, x3, x4, h) = some r → Q (some (hs_i r.1)) r.2 → hs_W S d 2 hs_p229 Q 23 [hs_r 12 0, hs_i x1, hs_i x2, hs_i x3, hs_i x4, v5, v6] [] h) {x1 : Int32} {x2 : Int32} {x3 : Int32} {x4 : Int32}  {v5 : hs_V} {v6 : hs_V} {h : hs_H} {r : Int32 × hs_H} (e : hb_229_23 k23 x1 x2 x3 x4 h = some r) (q : Q (some (hs_i r.1)) r.2) : hs_W S d 2 hs_p229 Q 23 [hs_r 12 0, hs_i x1, hs_i x2, hs_i x3, hs_i x4, v5, v6] [] h := by
  unfold hb_229_23 at e
  refine hs_wb 4 (c := (h.1 12 0 2) ≤ x4) (t := 66) (f := 32) (ls' := [hs_r 12 0, hs_i x1, hs_i x2, hs_i x3, hs_i x4, v5, v6]) (st' := []) (h' := h) (fun n w => w) (fun b3 => ?_) (fun b3 => ?_)
  · rw [if_pos b3] at e
    refine hs_w 2 (pc' := 69) (ls' := [hs_r 12 0, hs_i x1, hs_i x2, hs_i x3, hs_i (nI 0), v5, v6]) (st' := []) (h' := h) (fun n w => w) ?_
    exact hw_229_69_lp hd hs_big e _ _ q
  · rw [if_neg b3] at e
    refine hs_wb 6 (c := ¬ x4 = x1) (t := 58) (f := 44) (ls' := [hs_r 12 0, hs_i x1, hs_i x2, hs_i x3, hs_i x4, v5, v6]) (st' := [hs_i x4, hs_r 50 0]) (h' := h) (fun n w => w) (fun b24 => ?_) (fun b24 => ?_)
    · rw [if_pos b24] at e
      exact hw_229_58 hd hk23 e q
    · rw [if_neg b24] at e
      obtain ⟨q26, eq26, e⟩ := hs_bind_some e
      try dsimp only at e
      refine hs_wc 3 (y := 180) (a := [hs_r 12 0, hs_i x4]) (v := some (hs_i q26.1)) (pc' := 50) (ls' := [hs_r 12 0, hs_i x1, hs_i x2, hs_i x3, hs_i x4, v5, v6]) (st' := [hs_i x4, hs_r 50 0]) (h' := h) (h2 := q26.2) (fun n w => w) (fun q => hc_180 (by omega) eq26 q) ?_
      refine hs_wb 1 (c := ¬ q26.1 = 0) (t := 58) (f := 53) (ls' := [hs_r 12 0, hs_i x1, hs_i x2, hs_i x3, hs_i x4, v5, v6]) (st' := [hs_i x4, hs_r 50 0]) (h' := q26.2) (fun n w => w) (fun b27 => ?_) (fun b27 => ?_)
      · rw [if_pos b27] at e
        exact hw_229_58 hd hk23 e q
      · rw [if_neg b27] at e
        refine hs_w 2 (pc' := 59) (ls' := [hs_r 12 0, hs_i x1, hs_i x2, hs_i x3, hs_i x4, v5, v6]) (st' := [hs_i (nI 9), hs_i x4, hs_r 50 0]) (h' := q26.2) (fun n w => w) ?_
        exact hw_229_59 hd hk23 e q
theorem hw_229_23_lp {S : hs_S} {d : Nat} {Q : hs_Q} (hd : 2 ≤ d)    (n : Nat) {x1 : Int32} {x2 : Int32} {x3 : Int32} {x4 : Int32} {h : hs_H} {r : Int32 × hs_H} (e : hs_lp (fun k s => hb_229_23 k s.1 s.2.1 s.2.2.1 s.2.2.2.1 s.2.2.2.2) n (x1, x2, x3, x4, h) = some r) (v5 : hs_V) (v6 : hs_V) (q : Q (some (hs_i r.1)) r.2) : hs_W S d 2 hs_p229 Q 23 [hs_r 12 0, hs_i x1, hs_i x2, hs_i x3, hs_i x4, v5, v6] [] h := by
  refine hs_lp_ind (P := fun (s : Int32 × Int32 × Int32 × Int32 × hs_H) (r : Int32 × hs_H) => ∀ (v5 : hs_V) (v6 : hs_V), Q (some (hs_i r.1)) r.2 → hs_W S d 2 hs_p229 Q 23 [hs_r 12 0, hs_i s.1, hs_i s.2.1, hs_i s.2.2.1, hs_i s.2.2.2.1, v5, v6] [] s.2.2.2.2) (fun k hk s r e v5 v6 q => ?_) n (x1, x2, x3, x4, h) r e v5 v6 q
  exact hw_229_23 hd (fun x1 x2 x3 x4 h r v5 v6 e q => hk (x1, x2, x3, x4, h) r e v5 v6 q) e q
/-- HuntedScentModel.hunt()Z -/
def hf_229  (h : hs_H) : Option (Int32 × hs_H) := (hf_226 (h.1 12 0 2) h).bind (fun q1 => (hf_226 (q1.2.1 12 0 2) q1.2).bind (fun q2 => hs_lp (fun k s => hb_229_23 k s.1 s.2.1 s.2.2.1 s.2.2.2.1 s.2.2.2.2) hs_big (q1.1, q2.1, nI 0, nI 0, q2.2)))
set_option maxHeartbeats 1000000 in
theorem hc_229 {S : hs_S} {D : Nat} {Q : hs_Q} (hD : 3 ≤ D)  {h : hs_H} {r : Int32 × hs_H} (e : hf_229 h = some r) (q : Q (some (hs_i r.1)) r.2) : hs_call hs_ms S D 229 [hs_r 12 0] h Q := by
  refine hs_go (R := 2) hD rfl (Nat.le_of_ble_eq_true rfl) (fun d hd => ?_)
  show hs_W S d 2 hs_p229 Q 0 [hs_r 12 0, hs_u, hs_u, hs_u, hs_u, hs_u, hs_u] [] h
  unfold hf_229 at e
  obtain ⟨q1, eq1, e⟩ := hs_bind_some e
  try dsimp only at e
  refine hs_wc 4 (y := 226) (a := [hs_r 12 0, hs_i (h.1 12 0 2)]) (v := some (hs_i q1.1)) (pc' := 8) (ls' := [hs_r 12 0, hs_u, hs_u, hs_u, hs_u, hs_u, hs_u]) (st' := []) (h' := h) (h2 := q1.2) (fun n w => w) (fun q => hc_226 (by omega) eq1 q) ?_
  obtain ⟨q2, eq2, e⟩ := hs_bind_some e
  try dsimp only at e
  refine hs_wc 5 (y := 226) (a := [hs_r 12 0, hs_i (q1.2.1 12 0 2)]) (v := some (hs_i q2.1)) (pc' := 17) (ls' := [hs_r 12 0, hs_i q1.1, hs_u, hs_u, hs_u, hs_u, hs_u]) (st' := []) (h' := q1.2) (h2 := q2.2) (fun n w => w) (fun q => hc_226 (by omega) eq2 q) ?_
  refine hs_w 5 (pc' := 23) (ls' := [hs_r 12 0, hs_i q1.1, hs_i q2.1, hs_i (nI 0), hs_i (nI 0), hs_u, hs_u]) (st' := []) (h' := q2.2) (fun n w => w) ?_
  exact hw_229_23_lp hd hs_big e _ _ q
def hb_230_22     (h : hs_H) : Option (Int32 × hs_H) := some (nI 4294967295, h)
set_option maxHeartbeats 1000000 in
theorem hw_230_22 {S : hs_S} {d : Nat} {Q : hs_Q} (hd : 3 ≤ d)      {v1 : hs_V} {v2 : hs_V} {v3 : hs_V} {v4 : hs_V} {v5 : hs_V} {h : hs_H} {r : Int32 × hs_H} (e : hb_230_22 h = some r) (q : Q (some (hs_i r.1)) r.2) : hs_W S d 1 hs_p230 Q 22 [hs_r 12 0, v1, v2, v3, v4, v5] [] h := by
  unfold hb_230_22 at e
  obtain rfl := Option.some.inj e
  exact hs_wr 2 (v := some (hs_i (nI 4294967295))) (h' := h) (fun n w => w) q
def hb_230_77    (s0 : Int32) (h : hs_H) : Option (Int32 × hs_H) := some (s0, h)
set_option maxHeartbeats 1000000 in
theorem hw_230_77 {S : hs_S} {d : Nat} {Q : hs_Q} (hd : 3 ≤ d)     {s0 : Int32} {v1 : hs_V} {v2 : hs_V} {v3 : hs_V} {v4 : hs_V} {v5 : hs_V} {h : hs_H} {r : Int32 × hs_H} (e : hb_230_77 s0 h = some r) (q : Q (some (hs_i r.1)) r.2) : hs_W S d 1 hs_p230 Q 77 [hs_r 12 0, v1, v2, v3, v4, v5] [hs_i s0] h := by
  unfold hb_230_77 at e
  obtain rfl := Option.some.inj e
  exact hs_wr 1 (v := some (hs_i s0)) (h' := h) (fun n w => w) q
def hb_230_40  (k40 : Int32 × Int32 × Int32 × Int32 × hs_H → Option (Int32 × hs_H)) (x2 : Int32) (x3 : Int32) (x4 : Int32) (x5 : Int32)  (h : hs_H) : Option (Int32 × hs_H) := if x2 ≤ x5 then (if ¬ x3 = 0 then (hb_230_77 (h.1 12 0 37) h) else (hb_230_77 x4 h)) else ((hf_229 h).bind (fun q7 => (hf_151 q7.1 q7.2).bind (fun q8 => k40 (x2, x3, x4 + q8.1, x5 + nI 1, q8.2))))
set_option maxHeartbeats 1000000 in
theorem hw_230_40 {S : hs_S} {d : Nat} {Q : hs_Q} (hd : 3 ≤ d)  {k40 : Int32 × Int32 × Int32 × Int32 × hs_H → Option (Int32 × hs_H)} (hk40 : ∀ (x2 : Int32) (x3 : Int32) (x4 : Int32) (x5 : Int32) (h : hs_H) (r : Int32 × hs_H) (v1 : hs_V), k40 (x2, x3, x4, x5, h) = some r → Q (some (hs_i r.1)) r.2 → hs_W S d 1 hs_p230 Q 40 [hs_r 12 0, v1, hs_i x2, hs_i x3, hs_i x4, hs_i x5] [] h) {x2 : Int32} {x3 : Int32} {x4 : Int32} {x5 : Int32}  {v1 : hs_V} {h : hs_H} {r : Int32 × hs_H} (e : hb_230_40 k40 x2 x3 x4 x5 h = some r) (q : Q (some (hs_i r.1)) r.2) : hs_W S d 1 hs_p230 Q 40 [hs_r 12 0, v1, hs_i x2, hs_i x3, hs_i x4, hs_i x5] [] h := by
  unfold hb_230_40 at e
  refine hs_wb 3 (c := x2 ≤ x5) (t := 64) (f := 46) (ls' := [hs_r 12 0, v1, hs_i x2, hs_i x3, hs_i x4, hs_i x5]) (st' := []) (h' := h) (fun n w => w) (fun b5 => ?_) (fun b5 => ?_)
  · rw [if_pos b5] at e
    refine hs_wb 2 (c := ¬ x3 = 0) (t := 73) (f := 68) (ls' := [hs_r 12 0, v1, hs_i x2, hs_i x3, hs_i x4, hs_i x5]) (st' := []) (h' := h) (fun n w => w) (fun b6 => ?_) (fun b6 => ?_)
    · rw [if_pos b6] at e
      refine hs_w 2 (pc' := 77) (ls' := [hs_r 12 0, v1, hs_i x2, hs_i x3, hs_i x4, hs_i x5]) (st' := [hs_i (h.1 12 0 37)]) (h' := h) (fun n w => w) ?_
      exact hw_230_77 hd e q
    · rw [if_neg b6] at e
      refine hs_w 2 (pc' := 77) (ls' := [hs_r 12 0, v1, hs_i x2, hs_i x3, hs_i x4, hs_i x5]) (st' := [hs_i x4]) (h' := h) (fun n w => w) ?_
      exact hw_230_77 hd e q
  · rw [if_neg b5] at e
    obtain ⟨q7, eq7, e⟩ := hs_bind_some e
    try dsimp only at e
    refine hs_wc 3 (y := 229) (a := [hs_r 12 0]) (v := some (hs_i q7.1)) (pc' := 52) (ls' := [hs_r 12 0, v1, hs_i x2, hs_i x3, hs_i x4, hs_i x5]) (st' := [hs_i x4]) (h' := h) (h2 := q7.2) (fun n w => w) (fun q => hc_229 (by omega) eq7 q) ?_
    obtain ⟨q8, eq8, e⟩ := hs_bind_some e
    try dsimp only at e
    refine hs_wc 1 (y := 151) (a := [hs_i q7.1]) (v := some (hs_i q8.1)) (pc' := 55) (ls' := [hs_r 12 0, v1, hs_i x2, hs_i x3, hs_i x4, hs_i x5]) (st' := [hs_i x4]) (h' := q7.2) (h2 := q8.2) (fun n w => w) (fun q => hc_151 (by omega) eq8 q) ?_
    refine hs_w 4 (pc' := 40) (ls' := [hs_r 12 0, v1, hs_i x2, hs_i x3, hs_i (x4 + q8.1), hs_i (x5 + nI 1)]) (st' := []) (h' := q8.2) (fun n w => w) ?_
    exact hk40 _ _ _ _ _ _ _ e q
theorem hw_230_40_lp {S : hs_S} {d : Nat} {Q : hs_Q} (hd : 3 ≤ d)    (n : Nat) {x2 : Int32} {x3 : Int32} {x4 : Int32} {x5 : Int32} {h : hs_H} {r : Int32 × hs_H} (e : hs_lp (fun k s => hb_230_40 k s.1 s.2.1 s.2.2.1 s.2.2.2.1 s.2.2.2.2) n (x2, x3, x4, x5, h) = some r) (v1 : hs_V) (q : Q (some (hs_i r.1)) r.2) : hs_W S d 1 hs_p230 Q 40 [hs_r 12 0, v1, hs_i x2, hs_i x3, hs_i x4, hs_i x5] [] h := by
  refine hs_lp_ind (P := fun (s : Int32 × Int32 × Int32 × Int32 × hs_H) (r : Int32 × hs_H) => ∀ (v1 : hs_V), Q (some (hs_i r.1)) r.2 → hs_W S d 1 hs_p230 Q 40 [hs_r 12 0, v1, hs_i s.1, hs_i s.2.1, hs_i s.2.2.1, hs_i s.2.2.2.1] [] s.2.2.2.2) (fun k hk s r e v1 q => ?_) n (x2, x3, x4, x5, h) r e v1 q
  exact hw_230_40 hd (fun x2 x3 x4 x5 h r v1 e q => hk (x2, x3, x4, x5, h) r e v1 q) e q
/-- HuntedScentModel.season(III)I -/
def hf_230 (a1 : Int32) (a2 : Int32) (a3 : Int32) (h : hs_H) : Option (Int32 × hs_H) := (hf_150 a2.toInt64 (lN 1) (lN 20) h).bind (fun q1 => if q1.1 = 0 then (hb_230_22 q1.2) else ((hf_150 a3.toInt64 (lN 0) (lN 1) q1.2).bind (fun q3 => if ¬ q3.1 = 0 then (hs_lp (fun k s => hb_230_40 k s.1 s.2.1 s.2.2.1 s.2.2.2.1 s.2.2.2.2) hs_big (a2, a3, nI 0, nI 0, hs_put (hs_put q3.2 12 0 36 a1) 12 0 37 (nI 0))) else (hb_230_22 q3.2))))
set_option maxHeartbeats 1000000 in
theorem hc_230 {S : hs_S} {D : Nat} {Q : hs_Q} (hD : 4 ≤ D) {a1 : Int32} {a2 : Int32} {a3 : Int32} {h : hs_H} {r : Int32 × hs_H} (e : hf_230 a1 a2 a3 h = some r) (q : Q (some (hs_i r.1)) r.2) : hs_call hs_ms S D 230 [hs_r 12 0, hs_i a1, hs_i a2, hs_i a3] h Q := by
  refine hs_go (R := 3) hD rfl (Nat.le_of_ble_eq_true rfl) (fun d hd => ?_)
  show hs_W S d 1 hs_p230 Q 0 [hs_r 12 0, hs_i a1, hs_i a2, hs_i a3, hs_u, hs_u] [] h
  unfold hf_230 at e
  obtain ⟨q1, eq1, e⟩ := hs_bind_some e
  try dsimp only at e
  refine hs_wc 5 (y := 150) (a := [hs_l a2.toInt64, hs_l (lN 1), hs_l (lN 20)]) (v := some (hs_i q1.1)) (pc' := 9) (ls' := [hs_r 12 0, hs_i a1, hs_i a2, hs_i a3, hs_u, hs_u]) (st' := []) (h' := h) (h2 := q1.2) (fun n w => w) (fun q => hc_150 (by omega) eq1 q) ?_
  refine hs_wb 1 (c := q1.1 = 0) (t := 22) (f := 12) (ls' := [hs_r 12 0, hs_i a1, hs_i a2, hs_i a3, hs_u, hs_u]) (st' := []) (h' := q1.2) (fun n w => w) (fun b2 => ?_) (fun b2 => ?_)
  · rw [if_pos b2] at e
    exact hw_230_22 hd e q
  · rw [if_neg b2] at e
    obtain ⟨q3, eq3, e⟩ := hs_bind_some e
    try dsimp only at e
    refine hs_wc 5 (y := 150) (a := [hs_l a3.toInt64, hs_l (lN 0), hs_l (lN 1)]) (v := some (hs_i q3.1)) (pc' := 19) (ls' := [hs_r 12 0, hs_i a1, hs_i a2, hs_i a3, hs_u, hs_u]) (st' := []) (h' := q1.2) (h2 := q3.2) (fun n w => w) (fun q => hc_150 (by omega) eq3 q) ?_
    refine hs_wb 1 (c := ¬ q3.1 = 0) (t := 24) (f := 22) (ls' := [hs_r 12 0, hs_i a1, hs_i a2, hs_i a3, hs_u, hs_u]) (st' := []) (h' := q3.2) (fun n w => w) (fun b4 => ?_) (fun b4 => ?_)
    · rw [if_pos b4] at e
      refine hs_w 10 (pc' := 40) (ls' := [hs_r 12 0, hs_i a1, hs_i a2, hs_i a3, hs_i (nI 0), hs_i (nI 0)]) (st' := []) (h' := hs_put (hs_put q3.2 12 0 36 a1) 12 0 37 (nI 0)) (fun n w => w) ?_
      exact hw_230_40_lp hd hs_big e _ q
    · rw [if_neg b4] at e
      exact hw_230_22 hd e q
def hb_231_2  (k2 : Int32 × Int32 × Int32 × hs_H → Option (hs_H)) (x1 : Int32) (x2 : Int32) (x3 : Int32)  (h : hs_H) : Option (hs_H) := if (nI 54) ≤ x3 then (some h) else (hs_ck (hs_inb (x2 + x3) 162) (hs_ck (hs_inb (x1 + x3) 162) (k2 (x1, x2, x3 + nI 1, hs_put h 44 0 (x1 + x3).toNatClampNeg (h.1 44 0 (x2 + x3).toNatClampNeg)))))
set_option maxHeartbeats 1000000 in
theorem hw_231_2 {S : hs_S} {d : Nat} {Q : hs_Q} (hd : 0 ≤ d)  {k2 : Int32 × Int32 × Int32 × hs_H → Option (hs_H)} (hk2 : ∀ (x1 : Int32) (x2 : Int32) (x3 : Int32) (h : hs_H) (r : hs_H) , k2 (x1, x2, x3, h) = some r → Q none r → hs_W S d 0 hs_p231 Q 2 [hs_r 12 0, hs_i x1, hs_i x2, hs_i x3] [] h) {x1 : Int32} {x2 : Int32} {x3 : Int32}   {h : hs_H} {r : hs_H} (e : hb_231_2 k2 x1 x2 x3 h = some r) (q : Q none r) : hs_W S d 0 hs_p231 Q 2 [hs_r 12 0, hs_i x1, hs_i x2, hs_i x3] [] h := by
  unfold hb_231_2 at e
  refine hs_wb 3 (c := (nI 54) ≤ x3) (t := 30) (f := 8) (ls' := [hs_r 12 0, hs_i x1, hs_i x2, hs_i x3]) (st' := []) (h' := h) (fun n w => w) (fun b1 => ?_) (fun b1 => ?_)
  · rw [if_pos b1] at e
    obtain rfl := Option.some.inj e
    exact hs_wr 1 (v := none) (h' := h) (fun n w => w) q
  · rw [if_neg b1] at e
    obtain ⟨c2, e⟩ := hs_ck_some e
    refine hs_wa 11 (c := vp_in (x2 + x3) 162) (pc' := 23) (ls' := [hs_r 12 0, hs_i x1, hs_i x2, hs_i x3]) (st' := [hs_i (h.1 44 0 (x2 + x3).toNatClampNeg), hs_i (x1 + x3), hs_r 44 0]) (h' := h) (fun n w => w) (hs_inb_iff.mp c2) ?_
    obtain ⟨c3, e⟩ := hs_ck_some e
    refine hs_wa 1 (c := vp_in (x1 + x3) 162) (pc' := 24) (ls' := [hs_r 12 0, hs_i x1, hs_i x2, hs_i x3]) (st' := []) (h' := hs_put h 44 0 (x1 + x3).toNatClampNeg (h.1 44 0 (x2 + x3).toNatClampNeg)) (fun n w => w) (hs_inb_iff.mp c3) ?_
    refine hs_w 2 (pc' := 2) (ls' := [hs_r 12 0, hs_i x1, hs_i x2, hs_i (x3 + nI 1)]) (st' := []) (h' := hs_put h 44 0 (x1 + x3).toNatClampNeg (h.1 44 0 (x2 + x3).toNatClampNeg)) (fun n w => w) ?_
    exact hk2 _ _ _ _ _  e q
theorem hw_231_2_lp {S : hs_S} {d : Nat} {Q : hs_Q} (hd : 0 ≤ d)    (n : Nat) {x1 : Int32} {x2 : Int32} {x3 : Int32} {h : hs_H} {r : hs_H} (e : hs_lp (fun k s => hb_231_2 k s.1 s.2.1 s.2.2.1 s.2.2.2) n (x1, x2, x3, h) = some r)  (q : Q none r) : hs_W S d 0 hs_p231 Q 2 [hs_r 12 0, hs_i x1, hs_i x2, hs_i x3] [] h := by
  refine hs_lp_ind (P := fun (s : Int32 × Int32 × Int32 × hs_H) (r : hs_H) => ∀ (_ : True), Q none r → hs_W S d 0 hs_p231 Q 2 [hs_r 12 0, hs_i s.1, hs_i s.2.1, hs_i s.2.2.1] [] s.2.2.2) (fun k hk s r e _ q => ?_) n (x1, x2, x3, h) r e trivial q
  exact hw_231_2 hd (fun x1 x2 x3 h r  e q => hk (x1, x2, x3, h) r e trivial q) e q
/-- HuntedScentModel.copies(II)V -/
def hf_231 (a1 : Int32) (a2 : Int32) (h : hs_H) : Option (hs_H) := hs_lp (fun k s => hb_231_2 k s.1 s.2.1 s.2.2.1 s.2.2.2) hs_big (a1, a2, nI 0, h)
set_option maxHeartbeats 1000000 in
theorem hc_231 {S : hs_S} {D : Nat} {Q : hs_Q} (hD : 1 ≤ D) {a1 : Int32} {a2 : Int32} {h : hs_H} {r : hs_H} (e : hf_231 a1 a2 h = some r) (q : Q none r) : hs_call hs_ms S D 231 [hs_r 12 0, hs_i a1, hs_i a2] h Q := by
  refine hs_go (R := 0) hD rfl (Nat.le_of_ble_eq_true rfl) (fun d hd => ?_)
  show hs_W S d 0 hs_p231 Q 0 [hs_r 12 0, hs_i a1, hs_i a2, hs_u] [] h
  unfold hf_231 at e
  refine hs_w 2 (pc' := 2) (ls' := [hs_r 12 0, hs_i a1, hs_i a2, hs_i (nI 0)]) (st' := []) (h' := h) (fun n w => w) ?_
  exact hw_231_2_lp hd hs_big e  q
/-- HuntedScentModel.keep(I)I -/
def hf_232 (a1 : Int32) (h : hs_H) : Option (Int32 × hs_H) := (hf_150 a1.toInt64 (lN 0) (lN 1) h).bind (fun q1 => if ¬ q1.1 = 0 then (hs_ck (hs_inb a1 2) ((hf_151 (q1.2.1 45 0 a1.toNatClampNeg) q1.2).bind (fun q4 => hs_ck (hs_inb a1 2) ((hf_231 ((nI 54) * (a1 + (nI 1))) (nI 0) (hs_put q4.2 45 0 a1.toNatClampNeg (nI 1))).bind (fun q6 => some (q4.1, q6)))))) else (some (nI 4294967295, q1.2)))
set_option maxHeartbeats 1000000 in
theorem hc_232 {S : hs_S} {D : Nat} {Q : hs_Q} (hD : 2 ≤ D) {a1 : Int32} {h : hs_H} {r : Int32 × hs_H} (e : hf_232 a1 h = some r) (q : Q (some (hs_i r.1)) r.2) : hs_call hs_ms S D 232 [hs_r 12 0, hs_i a1] h Q := by
  refine hs_go (R := 1) hD rfl (Nat.le_of_ble_eq_true rfl) (fun d hd => ?_)
  show hs_W S d 1 hs_p232 Q 0 [hs_r 12 0, hs_i a1, hs_u] [] h
  unfold hf_232 at e
  obtain ⟨q1, eq1, e⟩ := hs_bind_some e
  try dsimp only at e
  refine hs_wc 5 (y := 150) (a := [hs_l a1.toInt64, hs_l (lN 0), hs_l (lN 1)]) (v := some (hs_i q1.1)) (pc' := 7) (ls' := [hs_r 12 0, hs_i a1, hs_u]) (st' := []) (h' := h) (h2 := q1.2) (fun n w => w) (fun q => hc_150 (by omega) eq1 q) ?_
  refine hs_wb 1 (c := ¬ q1.1 = 0) (t := 12) (f := 10) (ls' := [hs_r 12 0, hs_i a1, hs_u]) (st' := []) (h' := q1.2) (fun n w => w) (fun b2 => ?_) (fun b2 => ?_)
  · rw [if_pos b2] at e
    obtain ⟨c3, e⟩ := hs_ck_some e
    refine hs_wa 4 (c := vp_in a1 2) (pc' := 18) (ls' := [hs_r 12 0, hs_i a1, hs_u]) (st' := [hs_i (q1.2.1 45 0 a1.toNatClampNeg)]) (h' := q1.2) (fun n w => w) (hs_inb_iff.mp c3) ?_
    obtain ⟨q4, eq4, e⟩ := hs_bind_some e
    try dsimp only at e
    refine hs_wc 1 (y := 151) (a := [hs_i (q1.2.1 45 0 a1.toNatClampNeg)]) (v := some (hs_i q4.1)) (pc' := 21) (ls' := [hs_r 12 0, hs_i a1, hs_u]) (st' := []) (h' := q1.2) (h2 := q4.2) (fun n w => w) (fun q => hc_151 (by omega) eq4 q) ?_
    obtain ⟨c5, e⟩ := hs_ck_some e
    refine hs_waa 6 (c := vp_in a1 2) (c2 := nI 1 = 0 ∨ nI 1 = 1) (pc' := 29) (ls' := [hs_r 12 0, hs_i a1, hs_i q4.1]) (st' := []) (h' := hs_put q4.2 45 0 a1.toNatClampNeg (nI 1)) (fun n w => w) (hs_inb_iff.mp c5) (by decide) ?_
    obtain ⟨q6, eq6, e⟩ := hs_bind_some e
    try dsimp only at e
    refine hs_wc 8 (y := 231) (a := [hs_r 12 0, hs_i ((nI 54) * (a1 + (nI 1))), hs_i (nI 0)]) (v := none) (pc' := 40) (ls' := [hs_r 12 0, hs_i a1, hs_i q4.1]) (st' := []) (h' := hs_put q4.2 45 0 a1.toNatClampNeg (nI 1)) (h2 := q6) (fun n w => w) (fun q => hc_231 (by omega) eq6 q) ?_
    obtain rfl := Option.some.inj e
    exact hs_wr 2 (v := some (hs_i q4.1)) (h' := q6) (fun n w => w) q
  · rw [if_neg b2] at e
    obtain rfl := Option.some.inj e
    exact hs_wr 2 (v := some (hs_i (nI 4294967295))) (h' := q1.2) (fun n w => w) q
/-- HuntedScentModel.back(I)I -/
def hf_233 (a1 : Int32) (h : hs_H) : Option (Int32 × hs_H) := (hf_150 a1.toInt64 (lN 0) (lN 1) h).bind (fun q1 => if ¬ q1.1 = 0 then (hs_ck (hs_inb a1 2) (if ¬ (q1.2.1 45 0 a1.toNatClampNeg) = 0 then ((hf_231 (nI 0) ((nI 54) * (a1 + (nI 1))) q1.2).bind (fun q5 => hs_ck (hs_inb (nI 11) 162) (some (q5.1 44 0 (nI 11).toNatClampNeg, q5)))) else (some (nI 4294967294, q1.2)))) else (some (nI 4294967295, q1.2)))
set_option maxHeartbeats 1000000 in
theorem hc_233 {S : hs_S} {D : Nat} {Q : hs_Q} (hD : 2 ≤ D) {a1 : Int32} {h : hs_H} {r : Int32 × hs_H} (e : hf_233 a1 h = some r) (q : Q (some (hs_i r.1)) r.2) : hs_call hs_ms S D 233 [hs_r 12 0, hs_i a1] h Q := by
  refine hs_go (R := 1) hD rfl (Nat.le_of_ble_eq_true rfl) (fun d hd => ?_)
  show hs_W S d 1 hs_p233 Q 0 [hs_r 12 0, hs_i a1] [] h
  unfold hf_233 at e
  obtain ⟨q1, eq1, e⟩ := hs_bind_some e
  try dsimp only at e
  refine hs_wc 5 (y := 150) (a := [hs_l a1.toInt64, hs_l (lN 0), hs_l (lN 1)]) (v := some (hs_i q1.1)) (pc' := 7) (ls' := [hs_r 12 0, hs_i a1]) (st' := []) (h' := h) (h2 := q1.2) (fun n w => w) (fun q => hc_150 (by omega) eq1 q) ?_
  refine hs_wb 1 (c := ¬ q1.1 = 0) (t := 12) (f := 10) (ls' := [hs_r 12 0, hs_i a1]) (st' := []) (h' := q1.2) (fun n w => w) (fun b2 => ?_) (fun b2 => ?_)
  · rw [if_pos b2] at e
    obtain ⟨c3, e⟩ := hs_ck_some e
    refine hs_wa 4 (c := vp_in a1 2) (pc' := 18) (ls' := [hs_r 12 0, hs_i a1]) (st' := [hs_i (q1.2.1 45 0 a1.toNatClampNeg)]) (h' := q1.2) (fun n w => w) (hs_inb_iff.mp c3) ?_
    refine hs_wb 1 (c := ¬ (q1.2.1 45 0 a1.toNatClampNeg) = 0) (t := 24) (f := 21) (ls' := [hs_r 12 0, hs_i a1]) (st' := []) (h' := q1.2) (fun n w => w) (fun b4 => ?_) (fun b4 => ?_)
    · rw [if_pos b4] at e
      obtain ⟨q5, eq5, e⟩ := hs_bind_some e
      try dsimp only at e
      refine hs_wc 8 (y := 231) (a := [hs_r 12 0, hs_i (nI 0), hs_i ((nI 54) * (a1 + (nI 1)))]) (v := none) (pc' := 35) (ls' := [hs_r 12 0, hs_i a1]) (st' := []) (h' := q1.2) (h2 := q5) (fun n w => w) (fun q => hc_231 (by omega) eq5 q) ?_
      obtain ⟨c6, e⟩ := hs_ck_some e
      refine hs_wa 4 (c := vp_in (nI 11) 162) (pc' := 42) (ls' := [hs_r 12 0, hs_i a1]) (st' := [hs_i (q5.1 44 0 (nI 11).toNatClampNeg)]) (h' := q5) (fun n w => w) (hs_inb_iff.mp c6) ?_
      obtain rfl := Option.some.inj e
      exact hs_wr 1 (v := some (hs_i (q5.1 44 0 (nI 11).toNatClampNeg))) (h' := q5) (fun n w => w) q
    · rw [if_neg b4] at e
      obtain rfl := Option.some.inj e
      exact hs_wr 2 (v := some (hs_i (nI 4294967294))) (h' := q1.2) (fun n w => w) q
  · rw [if_neg b2] at e
    obtain rfl := Option.some.inj e
    exact hs_wr 2 (v := some (hs_i (nI 4294967295))) (h' := q1.2) (fun n w => w) q
def hb_234_29    (s0 : Int32) (h : hs_H) : Option (Int32 × hs_H) := hs_ck (hs_b01 s0) (some (s0, h))
set_option maxHeartbeats 1000000 in
theorem hw_234_29 {S : hs_S} {d : Nat} {Q : hs_Q} (hd : 1 ≤ d)     {s0 : Int32} {v0 : hs_V} {v1 : hs_V} {h : hs_H} {r : Int32 × hs_H} (e : hb_234_29 s0 h = some r) (q : Q (some (hs_i r.1)) r.2) : hs_W S d 2 hs_p234 Q 29 [v0, v1] [hs_i s0] h := by
  unfold hb_234_29 at e
  obtain ⟨c3, e⟩ := hs_ck_some e
  obtain rfl := Option.some.inj e
  exact hs_wra 1 (c := s0 = 0 ∨ s0 = 1) (v := some (hs_i s0)) (h' := h) (fun n w => w) (hs_b01_iff.mp c3) q
def hb_234_28     (h : hs_H) : Option (Int32 × hs_H) := hb_234_29 (nI 0) h
set_option maxHeartbeats 1000000 in
theorem hw_234_28 {S : hs_S} {d : Nat} {Q : hs_Q} (hd : 1 ≤ d)      {v0 : hs_V} {v1 : hs_V} {h : hs_H} {r : Int32 × hs_H} (e : hb_234_28 h = some r) (q : Q (some (hs_i r.1)) r.2) : hs_W S d 2 hs_p234 Q 28 [v0, v1] [] h := by
  unfold hb_234_28 at e
  refine hs_w 1 (pc' := 29) (ls' := [v0, v1]) (st' := [hs_i (nI 0)]) (h' := h) (fun n w => w) ?_
  exact hw_234_29 hd e q
/-- HuntedScentModel.isSheet(II)Z -/
def hf_234 (a0 : Int32) (a1 : Int32) (h : hs_H) : Option (Int32 × hs_H) := (hf_150 a0.toInt64 (lN 0) (lN 3) h).bind (fun q1 => if q1.1 = 0 then (hb_234_28 q1.2) else ((hf_150 a1.toInt64 (lN 0) (lN 2) q1.2).bind (fun q4 => if q4.1 = 0 then (hb_234_28 q4.2) else (hb_234_29 (nI 1) q4.2))))
set_option maxHeartbeats 1000000 in
theorem hc_234 {S : hs_S} {D : Nat} {Q : hs_Q} (hD : 2 ≤ D) {a0 : Int32} {a1 : Int32} {h : hs_H} {r : Int32 × hs_H} (e : hf_234 a0 a1 h = some r) (q : Q (some (hs_i r.1)) r.2) : hs_call hs_ms S D 234 [hs_i a0, hs_i a1] h Q := by
  refine hs_go (R := 1) hD rfl (Nat.le_of_ble_eq_true rfl) (fun d hd => ?_)
  show hs_W S d 2 hs_p234 Q 0 [hs_i a0, hs_i a1] [] h
  unfold hf_234 at e
  obtain ⟨q1, eq1, e⟩ := hs_bind_some e
  try dsimp only at e
  refine hs_wc 5 (y := 150) (a := [hs_l a0.toInt64, hs_l (lN 0), hs_l (lN 3)]) (v := some (hs_i q1.1)) (pc' := 9) (ls' := [hs_i a0, hs_i a1]) (st' := []) (h' := h) (h2 := q1.2) (fun n w => w) (fun q => hc_150 (by omega) eq1 q) ?_
  refine hs_wb 1 (c := q1.1 = 0) (t := 28) (f := 12) (ls' := [hs_i a0, hs_i a1]) (st' := []) (h' := q1.2) (fun n w => w) (fun b2 => ?_) (fun b2 => ?_)
  · rw [if_pos b2] at e
    exact hw_234_28 hd e q
  · rw [if_neg b2] at e
    obtain ⟨q4, eq4, e⟩ := hs_bind_some e
    try dsimp only at e
    refine hs_wc 5 (y := 150) (a := [hs_l a1.toInt64, hs_l (lN 0), hs_l (lN 2)]) (v := some (hs_i q4.1)) (pc' := 21) (ls' := [hs_i a0, hs_i a1]) (st' := []) (h' := q1.2) (h2 := q4.2) (fun n w => w) (fun q => hc_150 (by omega) eq4 q) ?_
    refine hs_wb 1 (c := q4.1 = 0) (t := 28) (f := 24) (ls' := [hs_i a0, hs_i a1]) (st' := []) (h' := q4.2) (fun n w => w) (fun b5 => ?_) (fun b5 => ?_)
    · rw [if_pos b5] at e
      exact hw_234_28 hd e q
    · rw [if_neg b5] at e
      refine hs_w 2 (pc' := 29) (ls' := [hs_i a0, hs_i a1]) (st' := [hs_i (nI 1)]) (h' := q4.2) (fun n w => w) ?_
      exact hw_234_29 hd e q
def hb_235_14     (h : hs_H) : Option (Int32 × hs_H) := some (nI 4294967295, h)
set_option maxHeartbeats 1000000 in
theorem hw_235_14 {S : hs_S} {d : Nat} {Q : hs_Q} (hd : 2 ≤ d)      {v1 : hs_V} {v2 : hs_V} {v3 : hs_V} {v4 : hs_V} {h : hs_H} {r : Int32 × hs_H} (e : hb_235_14 h = some r) (q : Q (some (hs_i r.1)) r.2) : hs_W S d 1 hs_p235 Q 14 [hs_r 12 0, v1, v2, v3, v4] [] h := by
  unfold hb_235_14 at e
  obtain rfl := Option.some.inj e
  exact hs_wr 2 (v := some (hs_i (nI 4294967295))) (h' := h) (fun n w => w) q
def hb_235_40  (k40 : Int32 × Int32 × hs_H → Option (Int32 × hs_H)) (x1 : Int32) (x4 : Int32)  (h : hs_H) : Option (Int32 × hs_H) := if (nI 40) ≤ x4 then (some (nI 1, h)) else (hs_ck (hs_inb (((nI 40) * x1) + x4) 160) (k40 (x1, x4 + nI 1, hs_put h 63 0 (((nI 40) * x1) + x4).toNatClampNeg (nI 0))))
set_option maxHeartbeats 1000000 in
theorem hw_235_40 {S : hs_S} {d : Nat} {Q : hs_Q} (hd : 2 ≤ d)  {k40 : Int32 × Int32 × hs_H → Option (Int32 × hs_H)} (hk40 : ∀ (x1 : Int32) (x4 : Int32) (h : hs_H) (r : Int32 × hs_H) (v2 : hs_V) (v3 : hs_V), k40 (x1, x4, h) = some r → Q (some (hs_i r.1)) r.2 → hs_W S d 1 hs_p235 Q 40 [hs_r 12 0, hs_i x1, v2, v3, hs_i x4] [] h) {x1 : Int32} {x4 : Int32}  {v2 : hs_V} {v3 : hs_V} {h : hs_H} {r : Int32 × hs_H} (e : hb_235_40 k40 x1 x4 h = some r) (q : Q (some (hs_i r.1)) r.2) : hs_W S d 1 hs_p235 Q 40 [hs_r 12 0, hs_i x1, v2, v3, hs_i x4] [] h := by
  unfold hb_235_40 at e
  refine hs_wb 3 (c := (nI 40) ≤ x4) (t := 66) (f := 47) (ls' := [hs_r 12 0, hs_i x1, v2, v3, hs_i x4]) (st' := []) (h' := h) (fun n w => w) (fun b7 => ?_) (fun b7 => ?_)
  · rw [if_pos b7] at e
    obtain rfl := Option.some.inj e
    exact hs_wr 2 (v := some (hs_i (nI 1))) (h' := h) (fun n w => w) q
  · rw [if_neg b7] at e
    obtain ⟨c8, e⟩ := hs_ck_some e
    refine hs_wa 9 (c := vp_in (((nI 40) * x1) + x4) 160) (pc' := 60) (ls' := [hs_r 12 0, hs_i x1, v2, v3, hs_i x4]) (st' := []) (h' := hs_put h 63 0 (((nI 40) * x1) + x4).toNatClampNeg (nI 0)) (fun n w => w) (hs_inb_iff.mp c8) ?_
    refine hs_w 2 (pc' := 40) (ls' := [hs_r 12 0, hs_i x1, v2, v3, hs_i (x4 + nI 1)]) (st' := []) (h' := hs_put h 63 0 (((nI 40) * x1) + x4).toNatClampNeg (nI 0)) (fun n w => w) ?_
    exact hk40 _ _ _ _ _ _ e q
theorem hw_235_40_lp {S : hs_S} {d : Nat} {Q : hs_Q} (hd : 2 ≤ d)    (n : Nat) {x1 : Int32} {x4 : Int32} {h : hs_H} {r : Int32 × hs_H} (e : hs_lp (fun k s => hb_235_40 k s.1 s.2.1 s.2.2) n (x1, x4, h) = some r) (v2 : hs_V) (v3 : hs_V) (q : Q (some (hs_i r.1)) r.2) : hs_W S d 1 hs_p235 Q 40 [hs_r 12 0, hs_i x1, v2, v3, hs_i x4] [] h := by
  refine hs_lp_ind (P := fun (s : Int32 × Int32 × hs_H) (r : Int32 × hs_H) => ∀ (v2 : hs_V) (v3 : hs_V), Q (some (hs_i r.1)) r.2 → hs_W S d 1 hs_p235 Q 40 [hs_r 12 0, hs_i s.1, v2, v3, hs_i s.2.1] [] s.2.2) (fun k hk s r e v2 v3 q => ?_) n (x1, x4, h) r e v2 v3 q
  exact hw_235_40 hd (fun x1 x4 h r v2 v3 e q => hk (x1, x4, h) r e v2 v3 q) e q
/-- HuntedScentModel.sheet(III)I -/
def hf_235 (a1 : Int32) (a2 : Int32) (a3 : Int32) (h : hs_H) : Option (Int32 × hs_H) := (hf_234 a1 a2 h).bind (fun q1 => if q1.1 = 0 then (hb_235_14 q1.2) else (if a3 ≤ (nI 40) then (if 0 ≤ a3 then (hs_ck (hs_inb a1 4) (hs_ck (hs_inb a1 4) (hs_lp (fun k s => hb_235_40 k s.1 s.2.1 s.2.2) hs_big (a1, nI 0, hs_put (hs_put q1.2 61 0 a1.toNatClampNeg a2) 62 0 a1.toNatClampNeg a3)))) else (some (nI 4294967282, q1.2))) else (hb_235_14 q1.2)))
set_option maxHeartbeats 1000000 in
theorem hc_235 {S : hs_S} {D : Nat} {Q : hs_Q} (hD : 3 ≤ D) {a1 : Int32} {a2 : Int32} {a3 : Int32} {h : hs_H} {r : Int32 × hs_H} (e : hf_235 a1 a2 a3 h = some r) (q : Q (some (hs_i r.1)) r.2) : hs_call hs_ms S D 235 [hs_r 12 0, hs_i a1, hs_i a2, hs_i a3] h Q := by
  refine hs_go (R := 2) hD rfl (Nat.le_of_ble_eq_true rfl) (fun d hd => ?_)
  show hs_W S d 1 hs_p235 Q 0 [hs_r 12 0, hs_i a1, hs_i a2, hs_i a3, hs_u] [] h
  unfold hf_235 at e
  obtain ⟨q1, eq1, e⟩ := hs_bind_some e
  try dsimp only at e
  refine hs_wc 3 (y := 234) (a := [hs_i a1, hs_i a2]) (v := some (hs_i q1.1)) (pc' := 5) (ls' := [hs_r 12 0, hs_i a1, hs_i a2, hs_i a3, hs_u]) (st' := []) (h' := h) (h2 := q1.2) (fun n w => w) (fun q => hc_234 (by omega) eq1 q) ?_
  refine hs_wb 1 (c := q1.1 = 0) (t := 14) (f := 8) (ls' := [hs_r 12 0, hs_i a1, hs_i a2, hs_i a3, hs_u]) (st' := []) (h' := q1.2) (fun n w => w) (fun b2 => ?_) (fun b2 => ?_)
  · rw [if_pos b2] at e
    exact hw_235_14 hd e q
  · rw [if_neg b2] at e
    refine hs_wb 3 (c := a3 ≤ (nI 40)) (t := 16) (f := 14) (ls' := [hs_r 12 0, hs_i a1, hs_i a2, hs_i a3, hs_u]) (st' := []) (h' := q1.2) (fun n w => w) (fun b3 => ?_) (fun b3 => ?_)
    · rw [if_pos b3] at e
      refine hs_wb 2 (c := 0 ≤ a3) (t := 23) (f := 20) (ls' := [hs_r 12 0, hs_i a1, hs_i a2, hs_i a3, hs_u]) (st' := []) (h' := q1.2) (fun n w => w) (fun b4 => ?_) (fun b4 => ?_)
      · rw [if_pos b4] at e
        obtain ⟨c5, e⟩ := hs_ck_some e
        refine hs_wa 5 (c := vp_in a1 4) (pc' := 30) (ls' := [hs_r 12 0, hs_i a1, hs_i a2, hs_i a3, hs_u]) (st' := []) (h' := hs_put q1.2 61 0 a1.toNatClampNeg a2) (fun n w => w) (hs_inb_iff.mp c5) ?_
        obtain ⟨c6, e⟩ := hs_ck_some e
        refine hs_wa 5 (c := vp_in a1 4) (pc' := 37) (ls' := [hs_r 12 0, hs_i a1, hs_i a2, hs_i a3, hs_u]) (st' := []) (h' := hs_put (hs_put q1.2 61 0 a1.toNatClampNeg a2) 62 0 a1.toNatClampNeg a3) (fun n w => w) (hs_inb_iff.mp c6) ?_
        refine hs_w 2 (pc' := 40) (ls' := [hs_r 12 0, hs_i a1, hs_i a2, hs_i a3, hs_i (nI 0)]) (st' := []) (h' := hs_put (hs_put q1.2 61 0 a1.toNatClampNeg a2) 62 0 a1.toNatClampNeg a3) (fun n w => w) ?_
        exact hw_235_40_lp hd hs_big e _ _ q
      · rw [if_neg b4] at e
        obtain rfl := Option.some.inj e
        exact hs_wr 2 (v := some (hs_i (nI 4294967282))) (h' := q1.2) (fun n w => w) q
    · rw [if_neg b3] at e
      exact hw_235_14 hd e q
def hb_236_85    (s0 : Int32) (s1 : Int32) (h : hs_H) : Option (Int32 × hs_H) := hs_ck (hs_inb s1 160) (some (nI 1, hs_put h 63 0 s1.toNatClampNeg s0))
set_option maxHeartbeats 1000000 in
theorem hw_236_85 {S : hs_S} {d : Nat} {Q : hs_Q} (hd : 2 ≤ d)     {s0 : Int32} {s1 : Int32} {v1 : hs_V} {v2 : hs_V} {v3 : hs_V} {h : hs_H} {r : Int32 × hs_H} (e : hb_236_85 s0 s1 h = some r) (q : Q (some (hs_i r.1)) r.2) : hs_W S d 1 hs_p236 Q 85 [hs_r 12 0, v1, v2, v3] [hs_i s0, hs_i s1, hs_r 63 0] h := by
  unfold hb_236_85 at e
  obtain ⟨c12, e⟩ := hs_ck_some e
  refine hs_wa 1 (c := vp_in s1 160) (pc' := 86) (ls' := [hs_r 12 0, v1, v2, v3]) (st' := []) (h' := hs_put h 63 0 s1.toNatClampNeg s0) (fun n w => w) (hs_inb_iff.mp c12) ?_
  obtain rfl := Option.some.inj e
  exact hs_wr 2 (v := some (hs_i (nI 1))) (h' := hs_put h 63 0 s1.toNatClampNeg s0) (fun n w => w) q
/-- HuntedScentModel.lay(III)I -/
def hf_236 (a1 : Int32) (a2 : Int32) (a3 : Int32) (h : hs_H) : Option (Int32 × hs_H) := (hf_234 a1 (nI 0) h).bind (fun q1 => if ¬ q1.1 = 0 then (hs_ck (hs_inb a1 4) (if ¬ (q1.2.1 61 0 a1.toNatClampNeg) = (nI 4294967292) then (hs_ck (hs_inb a1 4) ((hf_150 a2.toInt64 (lN 0) (((q1.2.1 62 0 a1.toNatClampNeg) - (nI 1)).toInt64) q1.2).bind (fun q6 => if ¬ q6.1 = 0 then (hs_ck (hs_inb a1 4) (if ¬ (q6.2.1 61 0 a1.toNatClampNeg) = 0 then (hs_ck (hs_inb a1 4) (if ¬ (q6.2.1 61 0 a1.toNatClampNeg) = (nI 1) then (hb_236_85 a3 (((nI 40) * a1) + a2) q6.2) else (hb_236_85 a3.toInt16.toInt32 (((nI 40) * a1) + a2) q6.2))) else (hb_236_85 a3.toInt8.toInt32 (((nI 40) * a1) + a2) q6.2))) else (some (nI 4294967284, q6.2))))) else (some (nI 4294967285, q1.2)))) else (some (nI 4294967295, q1.2)))
set_option maxHeartbeats 1000000 in
theorem hc_236 {S : hs_S} {D : Nat} {Q : hs_Q} (hD : 3 ≤ D) {a1 : Int32} {a2 : Int32} {a3 : Int32} {h : hs_H} {r : Int32 × hs_H} (e : hf_236 a1 a2 a3 h = some r) (q : Q (some (hs_i r.1)) r.2) : hs_call hs_ms S D 236 [hs_r 12 0, hs_i a1, hs_i a2, hs_i a3] h Q := by
  refine hs_go (R := 2) hD rfl (Nat.le_of_ble_eq_true rfl) (fun d hd => ?_)
  show hs_W S d 1 hs_p236 Q 0 [hs_r 12 0, hs_i a1, hs_i a2, hs_i a3] [] h
  unfold hf_236 at e
  obtain ⟨q1, eq1, e⟩ := hs_bind_some e
  try dsimp only at e
  refine hs_wc 3 (y := 234) (a := [hs_i a1, hs_i (nI 0)]) (v := some (hs_i q1.1)) (pc' := 5) (ls' := [hs_r 12 0, hs_i a1, hs_i a2, hs_i a3]) (st' := []) (h' := h) (h2 := q1.2) (fun n w => w) (fun q => hc_234 (by omega) eq1 q) ?_
  refine hs_wb 1 (c := ¬ q1.1 = 0) (t := 10) (f := 8) (ls' := [hs_r 12 0, hs_i a1, hs_i a2, hs_i a3]) (st' := []) (h' := q1.2) (fun n w => w) (fun b2 => ?_) (fun b2 => ?_)
  · rw [if_pos b2] at e
    obtain ⟨c3, e⟩ := hs_ck_some e
    refine hs_wa 4 (c := vp_in a1 4) (pc' := 16) (ls' := [hs_r 12 0, hs_i a1, hs_i a2, hs_i a3]) (st' := [hs_i (q1.2.1 61 0 a1.toNatClampNeg)]) (h' := q1.2) (fun n w => w) (hs_inb_iff.mp c3) ?_
    refine hs_wb 2 (c := ¬ (q1.2.1 61 0 a1.toNatClampNeg) = (nI 4294967292)) (t := 24) (f := 21) (ls' := [hs_r 12 0, hs_i a1, hs_i a2, hs_i a3]) (st' := []) (h' := q1.2) (fun n w => w) (fun b4 => ?_) (fun b4 => ?_)
    · rw [if_pos b4] at e
      obtain ⟨c5, e⟩ := hs_ck_some e
      refine hs_wa 7 (c := vp_in a1 4) (pc' := 33) (ls' := [hs_r 12 0, hs_i a1, hs_i a2, hs_i a3]) (st' := [hs_i (q1.2.1 62 0 a1.toNatClampNeg), hs_l (lN 0), hs_l a2.toInt64]) (h' := q1.2) (fun n w => w) (hs_inb_iff.mp c5) ?_
      obtain ⟨q6, eq6, e⟩ := hs_bind_some e
      try dsimp only at e
      refine hs_wc 4 (y := 150) (a := [hs_l a2.toInt64, hs_l (lN 0), hs_l (((q1.2.1 62 0 a1.toNatClampNeg) - (nI 1)).toInt64)]) (v := some (hs_i q6.1)) (pc' := 39) (ls' := [hs_r 12 0, hs_i a1, hs_i a2, hs_i a3]) (st' := []) (h' := q1.2) (h2 := q6.2) (fun n w => w) (fun q => hc_150 (by omega) eq6 q) ?_
      refine hs_wb 1 (c := ¬ q6.1 = 0) (t := 45) (f := 42) (ls' := [hs_r 12 0, hs_i a1, hs_i a2, hs_i a3]) (st' := []) (h' := q6.2) (fun n w => w) (fun b7 => ?_) (fun b7 => ?_)
      · rw [if_pos b7] at e
        obtain ⟨c8, e⟩ := hs_ck_some e
        refine hs_wa 11 (c := vp_in a1 4) (pc' := 61) (ls' := [hs_r 12 0, hs_i a1, hs_i a2, hs_i a3]) (st' := [hs_i (q6.2.1 61 0 a1.toNatClampNeg), hs_i (((nI 40) * a1) + a2), hs_r 63 0]) (h' := q6.2) (fun n w => w) (hs_inb_iff.mp c8) ?_
        refine hs_wb 1 (c := ¬ (q6.2.1 61 0 a1.toNatClampNeg) = 0) (t := 69) (f := 64) (ls' := [hs_r 12 0, hs_i a1, hs_i a2, hs_i a3]) (st' := [hs_i (((nI 40) * a1) + a2), hs_r 63 0]) (h' := q6.2) (fun n w => w) (fun b9 => ?_) (fun b9 => ?_)
        · rw [if_pos b9] at e
          obtain ⟨c10, e⟩ := hs_ck_some e
          refine hs_wa 4 (c := vp_in a1 4) (pc' := 75) (ls' := [hs_r 12 0, hs_i a1, hs_i a2, hs_i a3]) (st' := [hs_i (q6.2.1 61 0 a1.toNatClampNeg), hs_i (((nI 40) * a1) + a2), hs_r 63 0]) (h' := q6.2) (fun n w => w) (hs_inb_iff.mp c10) ?_
          refine hs_wb 2 (c := ¬ (q6.2.1 61 0 a1.toNatClampNeg) = (nI 1)) (t := 84) (f := 79) (ls' := [hs_r 12 0, hs_i a1, hs_i a2, hs_i a3]) (st' := [hs_i (((nI 40) * a1) + a2), hs_r 63 0]) (h' := q6.2) (fun n w => w) (fun b11 => ?_) (fun b11 => ?_)
          · rw [if_pos b11] at e
            refine hs_w 1 (pc' := 85) (ls' := [hs_r 12 0, hs_i a1, hs_i a2, hs_i a3]) (st' := [hs_i a3, hs_i (((nI 40) * a1) + a2), hs_r 63 0]) (h' := q6.2) (fun n w => w) ?_
            exact hw_236_85 hd e q
          · rw [if_neg b11] at e
            refine hs_w 3 (pc' := 85) (ls' := [hs_r 12 0, hs_i a1, hs_i a2, hs_i a3]) (st' := [hs_i a3.toInt16.toInt32, hs_i (((nI 40) * a1) + a2), hs_r 63 0]) (h' := q6.2) (fun n w => w) ?_
            exact hw_236_85 hd e q
        · rw [if_neg b9] at e
          refine hs_w 3 (pc' := 85) (ls' := [hs_r 12 0, hs_i a1, hs_i a2, hs_i a3]) (st' := [hs_i a3.toInt8.toInt32, hs_i (((nI 40) * a1) + a2), hs_r 63 0]) (h' := q6.2) (fun n w => w) ?_
          exact hw_236_85 hd e q
      · rw [if_neg b7] at e
        obtain rfl := Option.some.inj e
        exact hs_wr 2 (v := some (hs_i (nI 4294967284))) (h' := q6.2) (fun n w => w) q
    · rw [if_neg b4] at e
      obtain rfl := Option.some.inj e
      exact hs_wr 2 (v := some (hs_i (nI 4294967285))) (h' := q1.2) (fun n w => w) q
  · rw [if_neg b2] at e
    obtain rfl := Option.some.inj e
    exact hs_wr 2 (v := some (hs_i (nI 4294967295))) (h' := q1.2) (fun n w => w) q
def hb_237_21     (h : hs_H) : Option (Int32 × hs_H) := some (nI 4294967295, h)
set_option maxHeartbeats 1000000 in
theorem hw_237_21 {S : hs_S} {d : Nat} {Q : hs_Q} (hd : 3 ≤ d)      {v1 : hs_V} {v2 : hs_V} {v3 : hs_V} {v4 : hs_V} {v5 : hs_V} {v6 : hs_V} {v7 : hs_V} {v8 : hs_V} {v9 : hs_V} {v10 : hs_V} {v11 : hs_V} {h : hs_H} {r : Int32 × hs_H} (e : hb_237_21 h = some r) (q : Q (some (hs_i r.1)) r.2) : hs_W S d 1 hs_p237 Q 21 [hs_r 12 0, v1, v2, v3, v4, v5, v6, v7, v8, v9, v10, v11] [] h := by
  unfold hb_237_21 at e
  obtain rfl := Option.some.inj e
  exact hs_wr 2 (v := some (hs_i (nI 4294967295))) (h' := h) (fun n w => w) q
def hb_237_217   (x6 : Int32) (x7 : Int32)  (h : hs_H) : Option (Int32 × hs_H) := some (x7, hs_put h 12 0 41 x6)
set_option maxHeartbeats 1000000 in
theorem hw_237_217 {S : hs_S} {d : Nat} {Q : hs_Q} (hd : 3 ≤ d)    {x6 : Int32} {x7 : Int32}  {v1 : hs_V} {v2 : hs_V} {v3 : hs_V} {v4 : hs_V} {v5 : hs_V} {v8 : hs_V} {v9 : hs_V} {v10 : hs_V} {v11 : hs_V} {h : hs_H} {r : Int32 × hs_H} (e : hb_237_217 x6 x7 h = some r) (q : Q (some (hs_i r.1)) r.2) : hs_W S d 1 hs_p237 Q 217 [hs_r 12 0, v1, v2, v3, v4, v5, hs_i x6, hs_i x7, v8, v9, v10, v11] [] h := by
  unfold hb_237_217 at e
  obtain rfl := Option.some.inj e
  exact hs_wr 5 (v := some (hs_i x7)) (h' := hs_put h 12 0 41 x6) (fun n w => w) q
def hb_237_211  (k41 : Int32 × Int32 × Int32 × Int32 × Int32 × Int32 × Int32 × Int32 × hs_H → Option (Int32 × hs_H)) (x1 : Int32) (x2 : Int32) (x3 : Int32) (x4 : Int32) (x5 : Int32) (x6 : Int32) (x7 : Int32) (x8 : Int32)  (h : hs_H) : Option (Int32 × hs_H) := k41 (x1, x2, x3, x4, x5, x6, x7, x8 + nI 1, h)
set_option maxHeartbeats 1000000 in
theorem hw_237_211 {S : hs_S} {d : Nat} {Q : hs_Q} (hd : 3 ≤ d)  {k41 : Int32 × Int32 × Int32 × Int32 × Int32 × Int32 × Int32 × Int32 × hs_H → Option (Int32 × hs_H)} (hk41 : ∀ (x1 : Int32) (x2 : Int32) (x3 : Int32) (x4 : Int32) (x5 : Int32) (x6 : Int32) (x7 : Int32) (x8 : Int32) (h : hs_H) (r : Int32 × hs_H) (v9 : hs_V) (v10 : hs_V) (v11 : hs_V), k41 (x1, x2, x3, x4, x5, x6, x7, x8, h) = some r → Q (some (hs_i r.1)) r.2 → hs_W S d 1 hs_p237 Q 41 [hs_r 12 0, hs_i x1, hs_i x2, hs_i x3, hs_i x4, hs_i x5, hs_i x6, hs_i x7, hs_i x8, v9, v10, v11] [] h) {x1 : Int32} {x2 : Int32} {x3 : Int32} {x4 : Int32} {x5 : Int32} {x6 : Int32} {x7 : Int32} {x8 : Int32}  {v9 : hs_V} {v10 : hs_V} {v11 : hs_V} {h : hs_H} {r : Int32 × hs_H} (e : hb_237_211 k41 x1 x2 x3 x4 x5 x6 x7 x8 h = some r) (q : Q (some (hs_i r.1)) r.2) : hs_W S d 1 hs_p237 Q 211 [hs_r 12 0, hs_i x1, hs_i x2, hs_i x3, hs_i x4, hs_i x5, hs_i x6, hs_i x7, hs_i x8, v9, v10, v11] [] h := by
  unfold hb_237_211 at e
  refine hs_w 2 (pc' := 41) (ls' := [hs_r 12 0, hs_i x1, hs_i x2, hs_i x3, hs_i x4, hs_i x5, hs_i x6, hs_i x7, hs_i (x8 + nI 1), v9, v10, v11]) (st' := []) (h' := h) (fun n w => w) ?_
  exact hk41 _ _ _ _ _ _ _ _ _ _ _ _ _ e q
def hb_237_143  (k41 : Int32 × Int32 × Int32 × Int32 × Int32 × Int32 × Int32 × Int32 × hs_H → Option (Int32 × hs_H)) (x1 : Int32) (x2 : Int32) (x3 : Int32) (x4 : Int32) (x5 : Int32) (x6 : Int32) (x7 : Int32) (x8 : Int32)  (h : hs_H) : Option (Int32 × hs_H) := if ¬ x6 = 0 then (hb_237_211 k41 x1 x2 x3 x4 x5 x6 x7 x8 h) else (hs_ck (hs_inb ((((nI 40) * x1) + x3) + ((nI 3) * x8)) 160) (hs_ck (hs_inb (((((nI 40) * x1) + x3) + ((nI 3) * x8)) + (nI 1)) 160) (hs_ck (hs_inb (((((nI 40) * x1) + x3) + ((nI 3) * x8)) + (nI 2)) 160) ((hf_187 (h.1 63 0 ((((nI 40) * x1) + x3) + ((nI 3) * x8)).toNatClampNeg) (h.1 63 0 (((((nI 40) * x1) + x3) + ((nI 3) * x8)) + (nI 1)).toNatClampNeg) (h.1 63 0 (((((nI 40) * x1) + x3) + ((nI 3) * x8)) + (nI 2)).toNatClampNeg) h).bind (fun q13 => if 0 ≤ q13.1 then (hb_237_211 k41 x1 x2 x3 x4 x5 x6 (x7 + nI 1) x8 q13.2) else (hs_ck (hs_inb (nI 23) 162) (some ((nI 4294967276) - x8, hs_put q13.2 44 0 (nI 23).toNatClampNeg x5))))))))
set_option maxHeartbeats 1000000 in
theorem hw_237_143 {S : hs_S} {d : Nat} {Q : hs_Q} (hd : 3 ≤ d)  {k41 : Int32 × Int32 × Int32 × Int32 × Int32 × Int32 × Int32 × Int32 × hs_H → Option (Int32 × hs_H)} (hk41 : ∀ (x1 : Int32) (x2 : Int32) (x3 : Int32) (x4 : Int32) (x5 : Int32) (x6 : Int32) (x7 : Int32) (x8 : Int32) (h : hs_H) (r : Int32 × hs_H) (v9 : hs_V) (v10 : hs_V) (v11 : hs_V), k41 (x1, x2, x3, x4, x5, x6, x7, x8, h) = some r → Q (some (hs_i r.1)) r.2 → hs_W S d 1 hs_p237 Q 41 [hs_r 12 0, hs_i x1, hs_i x2, hs_i x3, hs_i x4, hs_i x5, hs_i x6, hs_i x7, hs_i x8, v9, v10, v11] [] h) {x1 : Int32} {x2 : Int32} {x3 : Int32} {x4 : Int32} {x5 : Int32} {x6 : Int32} {x7 : Int32} {x8 : Int32}  {v9 : hs_V} {v10 : hs_V} {v11 : hs_V} {h : hs_H} {r : Int32 × hs_H} (e : hb_237_143 k41 x1 x2 x3 x4 x5 x6 x7 x8 h = some r) (q : Q (some (hs_i r.1)) r.2) : hs_W S d 1 hs_p237 Q 143 [hs_r 12 0, hs_i x1, hs_i x2, hs_i x3, hs_i x4, hs_i x5, hs_i x6, hs_i x7, hs_i x8, v9, v10, v11] [] h := by
  unfold hb_237_143 at e
  refine hs_wb 2 (c := ¬ x6 = 0) (t := 211) (f := 148) (ls' := [hs_r 12 0, hs_i x1, hs_i x2, hs_i x3, hs_i x4, hs_i x5, hs_i x6, hs_i x7, hs_i x8, v9, v10, v11]) (st' := []) (h' := h) (fun n w => w) (fun b9 => ?_) (fun b9 => ?_)
  · rw [if_pos b9] at e
    exact hw_237_211 hd hk41 e q
  · rw [if_neg b9] at e
    obtain ⟨c10, e⟩ := hs_ck_some e
    refine hs_wa 15 (c := vp_in ((((nI 40) * x1) + x3) + ((nI 3) * x8)) 160) (pc' := 169) (ls' := [hs_r 12 0, hs_i x1, hs_i x2, hs_i x3, hs_i x4, hs_i x5, hs_i x6, hs_i x7, hs_i x8, hs_i ((((nI 40) * x1) + x3) + ((nI 3) * x8)), v10, v11]) (st' := [hs_i (h.1 63 0 ((((nI 40) * x1) + x3) + ((nI 3) * x8)).toNatClampNeg), hs_r 12 0]) (h' := h) (fun n w => w) (hs_inb_iff.mp c10) ?_
    obtain ⟨c11, e⟩ := hs_ck_some e
    refine hs_wa 6 (c := vp_in (((((nI 40) * x1) + x3) + ((nI 3) * x8)) + (nI 1)) 160) (pc' := 178) (ls' := [hs_r 12 0, hs_i x1, hs_i x2, hs_i x3, hs_i x4, hs_i x5, hs_i x6, hs_i x7, hs_i x8, hs_i ((((nI 40) * x1) + x3) + ((nI 3) * x8)), v10, v11]) (st' := [hs_i (h.1 63 0 (((((nI 40) * x1) + x3) + ((nI 3) * x8)) + (nI 1)).toNatClampNeg), hs_i (h.1 63 0 ((((nI 40) * x1) + x3) + ((nI 3) * x8)).toNatClampNeg), hs_r 12 0]) (h' := h) (fun n w => w) (hs_inb_iff.mp c11) ?_
    obtain ⟨c12, e⟩ := hs_ck_some e
    refine hs_wa 6 (c := vp_in (((((nI 40) * x1) + x3) + ((nI 3) * x8)) + (nI 2)) 160) (pc' := 187) (ls' := [hs_r 12 0, hs_i x1, hs_i x2, hs_i x3, hs_i x4, hs_i x5, hs_i x6, hs_i x7, hs_i x8, hs_i ((((nI 40) * x1) + x3) + ((nI 3) * x8)), v10, v11]) (st' := [hs_i (h.1 63 0 (((((nI 40) * x1) + x3) + ((nI 3) * x8)) + (nI 2)).toNatClampNeg), hs_i (h.1 63 0 (((((nI 40) * x1) + x3) + ((nI 3) * x8)) + (nI 1)).toNatClampNeg), hs_i (h.1 63 0 ((((nI 40) * x1) + x3) + ((nI 3) * x8)).toNatClampNeg), hs_r 12 0]) (h' := h) (fun n w => w) (hs_inb_iff.mp c12) ?_
    obtain ⟨q13, eq13, e⟩ := hs_bind_some e
    try dsimp only at e
    refine hs_wc 1 (y := 187) (a := [hs_r 12 0, hs_i (h.1 63 0 ((((nI 40) * x1) + x3) + ((nI 3) * x8)).toNatClampNeg), hs_i (h.1 63 0 (((((nI 40) * x1) + x3) + ((nI 3) * x8)) + (nI 1)).toNatClampNeg), hs_i (h.1 63 0 (((((nI 40) * x1) + x3) + ((nI 3) * x8)) + (nI 2)).toNatClampNeg)]) (v := some (hs_i q13.1)) (pc' := 190) (ls' := [hs_r 12 0, hs_i x1, hs_i x2, hs_i x3, hs_i x4, hs_i x5, hs_i x6, hs_i x7, hs_i x8, hs_i ((((nI 40) * x1) + x3) + ((nI 3) * x8)), v10, v11]) (st' := []) (h' := h) (h2 := q13.2) (fun n w => w) (fun q => hc_187 (by omega) eq13 q) ?_
    refine hs_wb 1 (c := 0 ≤ q13.1) (t := 208) (f := 193) (ls' := [hs_r 12 0, hs_i x1, hs_i x2, hs_i x3, hs_i x4, hs_i x5, hs_i x6, hs_i x7, hs_i x8, hs_i ((((nI 40) * x1) + x3) + ((nI 3) * x8)), v10, v11]) (st' := []) (h' := q13.2) (fun n w => w) (fun b14 => ?_) (fun b14 => ?_)
    · rw [if_pos b14] at e
      refine hs_w 1 (pc' := 211) (ls' := [hs_r 12 0, hs_i x1, hs_i x2, hs_i x3, hs_i x4, hs_i x5, hs_i x6, hs_i (x7 + nI 1), hs_i x8, hs_i ((((nI 40) * x1) + x3) + ((nI 3) * x8)), v10, v11]) (st' := []) (h' := q13.2) (fun n w => w) ?_
      exact hw_237_211 hd hk41 e q
    · rw [if_neg b14] at e
      obtain ⟨c15, e⟩ := hs_ck_some e
      refine hs_wa 5 (c := vp_in (nI 23) 162) (pc' := 202) (ls' := [hs_r 12 0, hs_i x1, hs_i x2, hs_i x3, hs_i x4, hs_i x5, hs_i x6, hs_i x7, hs_i x8, hs_i ((((nI 40) * x1) + x3) + ((nI 3) * x8)), v10, v11]) (st' := []) (h' := hs_put q13.2 44 0 (nI 23).toNatClampNeg x5) (fun n w => w) (hs_inb_iff.mp c15) ?_
      obtain rfl := Option.some.inj e
      exact hs_wr 4 (v := some (hs_i ((nI 4294967276) - x8))) (h' := hs_put q13.2 44 0 (nI 23).toNatClampNeg x5) (fun n w => w) q
def hb_237_135  (k41 : Int32 × Int32 × Int32 × Int32 × Int32 × Int32 × Int32 × Int32 × hs_H → Option (Int32 × hs_H)) (k56 : Int32 × Int32 × Int32 × Int32 × Int32 × Int32 × Int32 × Int32 × Int32 × hs_H → Option (Int32 × hs_H)) (x1 : Int32) (x2 : Int32) (x3 : Int32) (x4 : Int32) (x5 : Int32) (x7 : Int32) (x8 : Int32) (x9 : Int32) (s0 : Int32) (h : hs_H) : Option (Int32 × hs_H) := k56 (x1, x2, x3, x4, x5, s0, x7, x8, x9 + nI 1, h)
set_option maxHeartbeats 1000000 in
theorem hw_237_135 {S : hs_S} {d : Nat} {Q : hs_Q} (hd : 3 ≤ d)  {k41 : Int32 × Int32 × Int32 × Int32 × Int32 × Int32 × Int32 × Int32 × hs_H → Option (Int32 × hs_H)} {k56 : Int32 × Int32 × Int32 × Int32 × Int32 × Int32 × Int32 × Int32 × Int32 × hs_H → Option (Int32 × hs_H)} (hk41 : ∀ (x1 : Int32) (x2 : Int32) (x3 : Int32) (x4 : Int32) (x5 : Int32) (x6 : Int32) (x7 : Int32) (x8 : Int32) (h : hs_H) (r : Int32 × hs_H) (v9 : hs_V) (v10 : hs_V) (v11 : hs_V), k41 (x1, x2, x3, x4, x5, x6, x7, x8, h) = some r → Q (some (hs_i r.1)) r.2 → hs_W S d 1 hs_p237 Q 41 [hs_r 12 0, hs_i x1, hs_i x2, hs_i x3, hs_i x4, hs_i x5, hs_i x6, hs_i x7, hs_i x8, v9, v10, v11] [] h) (hk56 : ∀ (x1 : Int32) (x2 : Int32) (x3 : Int32) (x4 : Int32) (x5 : Int32) (x6 : Int32) (x7 : Int32) (x8 : Int32) (x9 : Int32) (h : hs_H) (r : Int32 × hs_H) (v10 : hs_V) (v11 : hs_V), k56 (x1, x2, x3, x4, x5, x6, x7, x8, x9, h) = some r → Q (some (hs_i r.1)) r.2 → hs_W S d 1 hs_p237 Q 56 [hs_r 12 0, hs_i x1, hs_i x2, hs_i x3, hs_i x4, hs_i x5, hs_i x6, hs_i x7, hs_i x8, hs_i x9, v10, v11] [] h) {x1 : Int32} {x2 : Int32} {x3 : Int32} {x4 : Int32} {x5 : Int32} {x7 : Int32} {x8 : Int32} {x9 : Int32} {s0 : Int32} {v6 : hs_V} {v10 : hs_V} {v11 : hs_V} {h : hs_H} {r : Int32 × hs_H} (e : hb_237_135 k41 k56 x1 x2 x3 x4 x5 x7 x8 x9 s0 h = some r) (q : Q (some (hs_i r.1)) r.2) : hs_W S d 1 hs_p237 Q 135 [hs_r 12 0, hs_i x1, hs_i x2, hs_i x3, hs_i x4, hs_i x5, v6, hs_i x7, hs_i x8, hs_i x9, v10, v11] [hs_i s0] h := by
  unfold hb_237_135 at e
  refine hs_w 3 (pc' := 56) (ls' := [hs_r 12 0, hs_i x1, hs_i x2, hs_i x3, hs_i x4, hs_i x5, hs_i s0, hs_i x7, hs_i x8, hs_i (x9 + nI 1), v10, v11]) (st' := []) (h' := h) (fun n w => w) ?_
  exact hk56 _ _ _ _ _ _ _ _ _ _ _ _ _ e q
def hb_237_130  (k41 : Int32 × Int32 × Int32 × Int32 × Int32 × Int32 × Int32 × Int32 × hs_H → Option (Int32 × hs_H)) (k56 : Int32 × Int32 × Int32 × Int32 × Int32 × Int32 × Int32 × Int32 × Int32 × hs_H → Option (Int32 × hs_H)) (x1 : Int32) (x2 : Int32) (x3 : Int32) (x4 : Int32) (x5 : Int32) (x7 : Int32) (x8 : Int32) (x9 : Int32)  (h : hs_H) : Option (Int32 × hs_H) := hb_237_135 k41 k56 x1 x2 x3 x4 x5 x7 x8 x9 (nI 2) h
set_option maxHeartbeats 1000000 in
theorem hw_237_130 {S : hs_S} {d : Nat} {Q : hs_Q} (hd : 3 ≤ d)  {k41 : Int32 × Int32 × Int32 × Int32 × Int32 × Int32 × Int32 × Int32 × hs_H → Option (Int32 × hs_H)} {k56 : Int32 × Int32 × Int32 × Int32 × Int32 × Int32 × Int32 × Int32 × Int32 × hs_H → Option (Int32 × hs_H)} (hk41 : ∀ (x1 : Int32) (x2 : Int32) (x3 : Int32) (x4 : Int32) (x5 : Int32) (x6 : Int32) (x7 : Int32) (x8 : Int32) (h : hs_H) (r : Int32 × hs_H) (v9 : hs_V) (v10 : hs_V) (v11 : hs_V), k41 (x1, x2, x3, x4, x5, x6, x7, x8, h) = some r → Q (some (hs_i r.1)) r.2 → hs_W S d 1 hs_p237 Q 41 [hs_r 12 0, hs_i x1, hs_i x2, hs_i x3, hs_i x4, hs_i x5, hs_i x6, hs_i x7, hs_i x8, v9, v10, v11] [] h) (hk56 : ∀ (x1 : Int32) (x2 : Int32) (x3 : Int32) (x4 : Int32) (x5 : Int32) (x6 : Int32) (x7 : Int32) (x8 : Int32) (x9 : Int32) (h : hs_H) (r : Int32 × hs_H) (v10 : hs_V) (v11 : hs_V), k56 (x1, x2, x3, x4, x5, x6, x7, x8, x9, h) = some r → Q (some (hs_i r.1)) r.2 → hs_W S d 1 hs_p237 Q 56 [hs_r 12 0, hs_i x1, hs_i x2, hs_i x3, hs_i x4, hs_i x5, hs_i x6, hs_i x7, hs_i x8, hs_i x9, v10, v11] [] h) {x1 : Int32} {x2 : Int32} {x3 : Int32} {x4 : Int32} {x5 : Int32} {x7 : Int32} {x8 : Int32} {x9 : Int32}  {v6 : hs_V} {v10 : hs_V} {v11 : hs_V} {h : hs_H} {r : Int32 × hs_H} (e : hb_237_130 k41 k56 x1 x2 x3 x4 x5 x7 x8 x9 h = some r) (q : Q (some (hs_i r.1)) r.2) : hs_W S d 1 hs_p237 Q 130 [hs_r 12 0, hs_i x1, hs_i x2, hs_i x3, hs_i x4, hs_i x5, v6, hs_i x7, hs_i x8, hs_i x9, v10, v11] [] h := by
  unfold hb_237_130 at e
  refine hs_w 2 (pc' := 135) (ls' := [hs_r 12 0, hs_i x1, hs_i x2, hs_i x3, hs_i x4, hs_i x5, v6, hs_i x7, hs_i x8, hs_i x9, v10, v11]) (st' := [hs_i (nI 2)]) (h' := h) (fun n w => w) ?_
  exact hw_237_135 hd hk41 hk56 e q
def hb_237_56  (k41 : Int32 × Int32 × Int32 × Int32 × Int32 × Int32 × Int32 × Int32 × hs_H → Option (Int32 × hs_H)) (k56 : Int32 × Int32 × Int32 × Int32 × Int32 × Int32 × Int32 × Int32 × Int32 × hs_H → Option (Int32 × hs_H)) (x1 : Int32) (x2 : Int32) (x3 : Int32) (x4 : Int32) (x5 : Int32) (x6 : Int32) (x7 : Int32) (x8 : Int32) (x9 : Int32)  (h : hs_H) : Option (Int32 × hs_H) := if (nI 3) ≤ x9 then (hb_237_143 k41 x1 x2 x3 x4 x5 x6 x7 x8 h) else (if ¬ x6 = 0 then (hb_237_143 k41 x1 x2 x3 x4 x5 x6 x7 x8 h) else (hs_ck (hs_inb x1 4) (if ¬ (h.1 61 0 x1.toNatClampNeg) = (nI 4294967292) then (hs_ck (hs_inb x1 4) (if (h.1 61 0 x1.toNatClampNeg) = x2 then (if (lg_cmp ((x3.toInt64 + (((nI 3) * x8).toInt64)) + x9.toInt64) (lN 0)) < 0 then (hb_237_130 k41 k56 x1 x2 x3 x4 x5 x7 x8 x9 h) else (hs_ck (hs_inb x1 4) (if (lg_cmp ((x3.toInt64 + (((nI 3) * x8).toInt64)) + x9.toInt64) ((h.1 62 0 x1.toNatClampNeg).toInt64)) < 0 then (hb_237_135 k41 k56 x1 x2 x3 x4 x5 x7 x8 x9 (nI 0) h) else (hb_237_130 k41 k56 x1 x2 x3 x4 x5 x7 x8 x9 h)))) else (hb_237_135 k41 k56 x1 x2 x3 x4 x5 x7 x8 x9 (nI 3) h))) else (hb_237_135 k41 k56 x1 x2 x3 x4 x5 x7 x8 x9 (nI 1) h))))
set_option maxHeartbeats 1000000 in
theorem hw_237_56 {S : hs_S} {d : Nat} {Q : hs_Q} (hd : 3 ≤ d)  {k41 : Int32 × Int32 × Int32 × Int32 × Int32 × Int32 × Int32 × Int32 × hs_H → Option (Int32 × hs_H)} {k56 : Int32 × Int32 × Int32 × Int32 × Int32 × Int32 × Int32 × Int32 × Int32 × hs_H → Option (Int32 × hs_H)} (hk41 : ∀ (x1 : Int32) (x2 : Int32) (x3 : Int32) (x4 : Int32) (x5 : Int32) (x6 : Int32) (x7 : Int32) (x8 : Int32) (h : hs_H) (r : Int32 × hs_H) (v9 : hs_V) (v10 : hs_V) (v11 : hs_V), k41 (x1, x2, x3, x4, x5, x6, x7, x8, h) = some r → Q (some (hs_i r.1)) r.2 → hs_W S d 1 hs_p237 Q 41 [hs_r 12 0, hs_i x1, hs_i x2, hs_i x3, hs_i x4, hs_i x5, hs_i x6, hs_i x7, hs_i x8, v9, v10, v11] [] h) (hk56 : ∀ (x1 : Int32) (x2 : Int32) (x3 : Int32) (x4 : Int32) (x5 : Int32) (x6 : Int32) (x7 : Int32) (x8 : Int32) (x9 : Int32) (h : hs_H) (r : Int32 × hs_H) (v10 : hs_V) (v11 : hs_V), k56 (x1, x2, x3, x4, x5, x6, x7, x8, x9, h) = some r → Q (some (hs_i r.1)) r.2 → hs_W S d 1 hs_p237 Q 56 [hs_r 12 0, hs_i x1, hs_i x2, hs_i x3, hs_i x4, hs_i x5, hs_i x6, hs_i x7, hs_i x8, hs_i x9, v10, v11] [] h) {x1 : Int32} {x2 : Int32} {x3 : Int32} {x4 : Int32} {x5 : Int32} {x6 : Int32} {x7 : Int32} {x8 : Int32} {x9 : Int32}  {v10 : hs_V} {v11 : hs_V} {h : hs_H} {r : Int32 × hs_H} (e : hb_237_56 k41 k56 x1 x2 x3 x4 x5 x6 x7 x8 x9 h = some r) (q : Q (some (hs_i r.1)) r.2) : hs_W S d 1 hs_p237 Q 56 [hs_r 12 0, hs_i x1, hs_i x2, hs_i x3, hs_i x4, hs_i x5, hs_i x6, hs_i x7, hs_i x8, hs_i x9, v10, v11] [] h := by
  unfold hb_237_56 at e
  refine hs_wb 3 (c := (nI 3) ≤ x9) (t := 143) (f := 62) (ls' := [hs_r 12 0, hs_i x1, hs_i x2, hs_i x3, hs_i x4, hs_i x5, hs_i x6, hs_i x7, hs_i x8, hs_i x9, v10, v11]) (st' := []) (h' := h) (fun n w => w) (fun b8 => ?_) (fun b8 => ?_)
  · rw [if_pos b8] at e
    exact hw_237_143 hd hk41 e q
  · rw [if_neg b8] at e
    refine hs_wb 2 (c := ¬ x6 = 0) (t := 143) (f := 67) (ls' := [hs_r 12 0, hs_i x1, hs_i x2, hs_i x3, hs_i x4, hs_i x5, hs_i x6, hs_i x7, hs_i x8, hs_i x9, v10, v11]) (st' := []) (h' := h) (fun n w => w) (fun b16 => ?_) (fun b16 => ?_)
    · rw [if_pos b16] at e
      exact hw_237_143 hd hk41 e q
    · rw [if_neg b16] at e
      obtain ⟨c17, e⟩ := hs_ck_some e
      refine hs_wa 15 (c := vp_in x1 4) (pc' := 87) (ls' := [hs_r 12 0, hs_i x1, hs_i x2, hs_i x3, hs_i x4, hs_i x5, hs_i x6, hs_i x7, hs_i x8, hs_i x9, hs_l ((x3.toInt64 + (((nI 3) * x8).toInt64)) + x9.toInt64), hs_u]) (st' := [hs_i (h.1 61 0 x1.toNatClampNeg)]) (h' := h) (fun n w => w) (hs_inb_iff.mp c17) ?_
      refine hs_wb 2 (c := ¬ (h.1 61 0 x1.toNatClampNeg) = (nI 4294967292)) (t := 96) (f := 92) (ls' := [hs_r 12 0, hs_i x1, hs_i x2, hs_i x3, hs_i x4, hs_i x5, hs_i x6, hs_i x7, hs_i x8, hs_i x9, hs_l ((x3.toInt64 + (((nI 3) * x8).toInt64)) + x9.toInt64), hs_u]) (st' := []) (h' := h) (fun n w => w) (fun b18 => ?_) (fun b18 => ?_)
      · rw [if_pos b18] at e
        obtain ⟨c19, e⟩ := hs_ck_some e
        refine hs_wa 4 (c := vp_in x1 4) (pc' := 102) (ls' := [hs_r 12 0, hs_i x1, hs_i x2, hs_i x3, hs_i x4, hs_i x5, hs_i x6, hs_i x7, hs_i x8, hs_i x9, hs_l ((x3.toInt64 + (((nI 3) * x8).toInt64)) + x9.toInt64), hs_u]) (st' := [hs_i (h.1 61 0 x1.toNatClampNeg)]) (h' := h) (fun n w => w) (hs_inb_iff.mp c19) ?_
        refine hs_wb 2 (c := (h.1 61 0 x1.toNatClampNeg) = x2) (t := 110) (f := 106) (ls' := [hs_r 12 0, hs_i x1, hs_i x2, hs_i x3, hs_i x4, hs_i x5, hs_i x6, hs_i x7, hs_i x8, hs_i x9, hs_l ((x3.toInt64 + (((nI 3) * x8).toInt64)) + x9.toInt64), hs_u]) (st' := []) (h' := h) (fun n w => w) (fun b20 => ?_) (fun b20 => ?_)
        · rw [if_pos b20] at e
          refine hs_wb 4 (c := (lg_cmp ((x3.toInt64 + (((nI 3) * x8).toInt64)) + x9.toInt64) (lN 0)) < 0) (t := 130) (f := 117) (ls' := [hs_r 12 0, hs_i x1, hs_i x2, hs_i x3, hs_i x4, hs_i x5, hs_i x6, hs_i x7, hs_i x8, hs_i x9, hs_l ((x3.toInt64 + (((nI 3) * x8).toInt64)) + x9.toInt64), hs_u]) (st' := []) (h' := h) (fun n w => w) (fun b21 => ?_) (fun b21 => ?_)
          · rw [if_pos b21] at e
            exact hw_237_130 hd hk41 hk56 e q
          · rw [if_neg b21] at e
            obtain ⟨c22, e⟩ := hs_ck_some e
            refine hs_wa 5 (c := vp_in x1 4) (pc' := 125) (ls' := [hs_r 12 0, hs_i x1, hs_i x2, hs_i x3, hs_i x4, hs_i x5, hs_i x6, hs_i x7, hs_i x8, hs_i x9, hs_l ((x3.toInt64 + (((nI 3) * x8).toInt64)) + x9.toInt64), hs_u]) (st' := [hs_i (h.1 62 0 x1.toNatClampNeg), hs_l ((x3.toInt64 + (((nI 3) * x8).toInt64)) + x9.toInt64)]) (h' := h) (fun n w => w) (hs_inb_iff.mp c22) ?_
            refine hs_wb 3 (c := (lg_cmp ((x3.toInt64 + (((nI 3) * x8).toInt64)) + x9.toInt64) ((h.1 62 0 x1.toNatClampNeg).toInt64)) < 0) (t := 134) (f := 130) (ls' := [hs_r 12 0, hs_i x1, hs_i x2, hs_i x3, hs_i x4, hs_i x5, hs_i x6, hs_i x7, hs_i x8, hs_i x9, hs_l ((x3.toInt64 + (((nI 3) * x8).toInt64)) + x9.toInt64), hs_u]) (st' := []) (h' := h) (fun n w => w) (fun b23 => ?_) (fun b23 => ?_)
            · rw [if_pos b23] at e
              refine hs_w 1 (pc' := 135) (ls' := [hs_r 12 0, hs_i x1, hs_i x2, hs_i x3, hs_i x4, hs_i x5, hs_i x6, hs_i x7, hs_i x8, hs_i x9, hs_l ((x3.toInt64 + (((nI 3) * x8).toInt64)) + x9.toInt64), hs_u]) (st' := [hs_i (nI 0)]) (h' := h) (fun n w => w) ?_
              exact hw_237_135 hd hk41 hk56 e q
            · rw [if_neg b23] at e
              exact hw_237_130 hd hk41 hk56 e q
        · rw [if_neg b20] at e
          refine hs_w 2 (pc' := 135) (ls' := [hs_r 12 0, hs_i x1, hs_i x2, hs_i x3, hs_i x4, hs_i x5, hs_i x6, hs_i x7, hs_i x8, hs_i x9, hs_l ((x3.toInt64 + (((nI 3) * x8).toInt64)) + x9.toInt64), hs_u]) (st' := [hs_i (nI 3)]) (h' := h) (fun n w => w) ?_
          exact hw_237_135 hd hk41 hk56 e q
      · rw [if_neg b18] at e
        refine hs_w 2 (pc' := 135) (ls' := [hs_r 12 0, hs_i x1, hs_i x2, hs_i x3, hs_i x4, hs_i x5, hs_i x6, hs_i x7, hs_i x8, hs_i x9, hs_l ((x3.toInt64 + (((nI 3) * x8).toInt64)) + x9.toInt64), hs_u]) (st' := [hs_i (nI 1)]) (h' := h) (fun n w => w) ?_
        exact hw_237_135 hd hk41 hk56 e q
theorem hw_237_56_lp {S : hs_S} {d : Nat} {Q : hs_Q} (hd : 3 ≤ d)  {k41 : Int32 × Int32 × Int32 × Int32 × Int32 × Int32 × Int32 × Int32 × hs_H → Option (Int32 × hs_H)} (hk41 : ∀ (x1 : Int32) (x2 : Int32) (x3 : Int32) (x4 : Int32) (x5 : Int32) (x6 : Int32) (x7 : Int32) (x8 : Int32) (h : hs_H) (r : Int32 × hs_H) (v9 : hs_V) (v10 : hs_V) (v11 : hs_V), k41 (x1, x2, x3, x4, x5, x6, x7, x8, h) = some r → Q (some (hs_i r.1)) r.2 → hs_W S d 1 hs_p237 Q 41 [hs_r 12 0, hs_i x1, hs_i x2, hs_i x3, hs_i x4, hs_i x5, hs_i x6, hs_i x7, hs_i x8, v9, v10, v11] [] h) (n : Nat) {x1 : Int32} {x2 : Int32} {x3 : Int32} {x4 : Int32} {x5 : Int32} {x6 : Int32} {x7 : Int32} {x8 : Int32} {x9 : Int32} {h : hs_H} {r : Int32 × hs_H} (e : hs_lp (fun k s => hb_237_56 k41 k s.1 s.2.1 s.2.2.1 s.2.2.2.1 s.2.2.2.2.1 s.2.2.2.2.2.1 s.2.2.2.2.2.2.1 s.2.2.2.2.2.2.2.1 s.2.2.2.2.2.2.2.2.1 s.2.2.2.2.2.2.2.2.2) n (x1, x2, x3, x4, x5, x6, x7, x8, x9, h) = some r) (v10 : hs_V) (v11 : hs_V) (q : Q (some (hs_i r.1)) r.2) : hs_W S d 1 hs_p237 Q 56 [hs_r 12 0, hs_i x1, hs_i x2, hs_i x3, hs_i x4, hs_i x5, hs_i x6, hs_i x7, hs_i x8, hs_i x9, v10, v11] [] h := by
  refine hs_lp_ind (P := fun (s : Int32 × Int32 × Int32 × Int32 × Int32 × Int32 × Int32 × Int32 × Int32 × hs_H) (r : Int32 × hs_H) => ∀ (v10 : hs_V) (v11 : hs_V), Q (some (hs_i r.1)) r.2 → hs_W S d 1 hs_p237 Q 56 [hs_r 12 0, hs_i s.1, hs_i s.2.1, hs_i s.2.2.1, hs_i s.2.2.2.1, hs_i s.2.2.2.2.1, hs_i s.2.2.2.2.2.1, hs_i s.2.2.2.2.2.2.1, hs_i s.2.2.2.2.2.2.2.1, hs_i s.2.2.2.2.2.2.2.2.1, v10, v11] [] s.2.2.2.2.2.2.2.2.2) (fun k hk s r e v10 v11 q => ?_) n (x1, x2, x3, x4, x5, x6, x7, x8, x9, h) r e v10 v11 q
  exact hw_237_56 hd hk41 (fun x1 x2 x3 x4 x5 x6 x7 x8 x9 h r v10 v11 e q => hk (x1, x2, x3, x4, x5, x6, x7, x8, x9, h) r e v10 v11 q) e q
def hb_237_41  (k41 : Int32 × Int32 × Int32 × Int32 × Int32 × Int32 × Int32 × Int32 × hs_H → Option (Int32 × hs_H)) (x1 : Int32) (x2 : Int32) (x3 : Int32) (x4 : Int32) (x5 : Int32) (x6 : Int32) (x7 : Int32) (x8 : Int32)  (h : hs_H) : Option (Int32 × hs_H) := if x4 ≤ x8 then (hb_237_217 x6 x7 h) else (if ¬ x6 = 0 then (hb_237_217 x6 x7 h) else (hs_lp (fun k s => hb_237_56 k41 k s.1 s.2.1 s.2.2.1 s.2.2.2.1 s.2.2.2.2.1 s.2.2.2.2.2.1 s.2.2.2.2.2.2.1 s.2.2.2.2.2.2.2.1 s.2.2.2.2.2.2.2.2.1 s.2.2.2.2.2.2.2.2.2) hs_big (x1, x2, x3, x4, x5, x6, x7, x8, nI 0, h)))
set_option maxHeartbeats 1000000 in
theorem hw_237_41 {S : hs_S} {d : Nat} {Q : hs_Q} (hd : 3 ≤ d)  {k41 : Int32 × Int32 × Int32 × Int32 × Int32 × Int32 × Int32 × Int32 × hs_H → Option (Int32 × hs_H)} (hk41 : ∀ (x1 : Int32) (x2 : Int32) (x3 : Int32) (x4 : Int32) (x5 : Int32) (x6 : Int32) (x7 : Int32) (x8 : Int32) (h : hs_H) (r : Int32 × hs_H) (v9 : hs_V) (v10 : hs_V) (v11 : hs_V), k41 (x1, x2, x3, x4, x5, x6, x7, x8, h) = some r → Q (some (hs_i r.1)) r.2 → hs_W S d 1 hs_p237 Q 41 [hs_r 12 0, hs_i x1, hs_i x2, hs_i x3, hs_i x4, hs_i x5, hs_i x6, hs_i x7, hs_i x8, v9, v10, v11] [] h) {x1 : Int32} {x2 : Int32} {x3 : Int32} {x4 : Int32} {x5 : Int32} {x6 : Int32} {x7 : Int32} {x8 : Int32}  {v9 : hs_V} {v10 : hs_V} {v11 : hs_V} {h : hs_H} {r : Int32 × hs_H} (e : hb_237_41 k41 x1 x2 x3 x4 x5 x6 x7 x8 h = some r) (q : Q (some (hs_i r.1)) r.2) : hs_W S d 1 hs_p237 Q 41 [hs_r 12 0, hs_i x1, hs_i x2, hs_i x3, hs_i x4, hs_i x5, hs_i x6, hs_i x7, hs_i x8, v9, v10, v11] [] h := by
  unfold hb_237_41 at e
  refine hs_wb 3 (c := x4 ≤ x8) (t := 217) (f := 48) (ls' := [hs_r 12 0, hs_i x1, hs_i x2, hs_i x3, hs_i x4, hs_i x5, hs_i x6, hs_i x7, hs_i x8, v9, v10, v11]) (st' := []) (h' := h) (fun n w => w) (fun b6 => ?_) (fun b6 => ?_)
  · rw [if_pos b6] at e
    exact hw_237_217 hd e q
  · rw [if_neg b6] at e
    refine hs_wb 2 (c := ¬ x6 = 0) (t := 217) (f := 53) (ls' := [hs_r 12 0, hs_i x1, hs_i x2, hs_i x3, hs_i x4, hs_i x5, hs_i x6, hs_i x7, hs_i x8, v9, v10, v11]) (st' := []) (h' := h) (fun n w => w) (fun b7 => ?_) (fun b7 => ?_)
    · rw [if_pos b7] at e
      exact hw_237_217 hd e q
    · rw [if_neg b7] at e
      refine hs_w 2 (pc' := 56) (ls' := [hs_r 12 0, hs_i x1, hs_i x2, hs_i x3, hs_i x4, hs_i x5, hs_i x6, hs_i x7, hs_i x8, hs_i (nI 0), v10, v11]) (st' := []) (h' := h) (fun n w => w) ?_
      exact hw_237_56_lp hd hk41 hs_big e _ _ q
theorem hw_237_41_lp {S : hs_S} {d : Nat} {Q : hs_Q} (hd : 3 ≤ d)    (n : Nat) {x1 : Int32} {x2 : Int32} {x3 : Int32} {x4 : Int32} {x5 : Int32} {x6 : Int32} {x7 : Int32} {x8 : Int32} {h : hs_H} {r : Int32 × hs_H} (e : hs_lp (fun k s => hb_237_41 k s.1 s.2.1 s.2.2.1 s.2.2.2.1 s.2.2.2.2.1 s.2.2.2.2.2.1 s.2.2.2.2.2.2.1 s.2.2.2.2.2.2.2.1 s.2.2.2.2.2.2.2.2) n (x1, x2, x3, x4, x5, x6, x7, x8, h) = some r) (v9 : hs_V) (v10 : hs_V) (v11 : hs_V) (q : Q (some (hs_i r.1)) r.2) : hs_W S d 1 hs_p237 Q 41 [hs_r 12 0, hs_i x1, hs_i x2, hs_i x3, hs_i x4, hs_i x5, hs_i x6, hs_i x7, hs_i x8, v9, v10, v11] [] h := by
  refine hs_lp_ind (P := fun (s : Int32 × Int32 × Int32 × Int32 × Int32 × Int32 × Int32 × Int32 × hs_H) (r : Int32 × hs_H) => ∀ (v9 : hs_V) (v10 : hs_V) (v11 : hs_V), Q (some (hs_i r.1)) r.2 → hs_W S d 1 hs_p237 Q 41 [hs_r 12 0, hs_i s.1, hs_i s.2.1, hs_i s.2.2.1, hs_i s.2.2.2.1, hs_i s.2.2.2.2.1, hs_i s.2.2.2.2.2.1, hs_i s.2.2.2.2.2.2.1, hs_i s.2.2.2.2.2.2.2.1, v9, v10, v11] [] s.2.2.2.2.2.2.2.2) (fun k hk s r e v9 v10 v11 q => ?_) n (x1, x2, x3, x4, x5, x6, x7, x8, h) r e v9 v10 v11 q
  exact hw_237_41 hd (fun x1 x2 x3 x4 x5 x6 x7 x8 h r v9 v10 v11 e q => hk (x1, x2, x3, x4, x5, x6, x7, x8, h) r e v9 v10 v11 q) e q
/-- HuntedScentModel.read(IIII)I -/
def hf_237 (a1 : Int32) (a2 : Int32) (a3 : Int32) (a4 : Int32) (h : hs_H) : Option (Int32 × hs_H) := (hf_234 a1 a2 h).bind (fun q1 => if q1.1 = 0 then (hb_237_21 q1.2) else ((hf_150 a4.toInt64 (lN 0) (lN 10) q1.2).bind (fun q3 => if ¬ q3.1 = 0 then (hs_ck (hs_inb (nI 23) 162) (hs_lp (fun k s => hb_237_41 k s.1 s.2.1 s.2.2.1 s.2.2.2.1 s.2.2.2.2.1 s.2.2.2.2.2.1 s.2.2.2.2.2.2.1 s.2.2.2.2.2.2.2.1 s.2.2.2.2.2.2.2.2) hs_big (a1, a2, a3, a4, q3.2.1 44 0 (nI 23).toNatClampNeg, nI 0, nI 0, nI 0, q3.2))) else (hb_237_21 q3.2))))
set_option maxHeartbeats 1000000 in
theorem hc_237 {S : hs_S} {D : Nat} {Q : hs_Q} (hD : 4 ≤ D) {a1 : Int32} {a2 : Int32} {a3 : Int32} {a4 : Int32} {h : hs_H} {r : Int32 × hs_H} (e : hf_237 a1 a2 a3 a4 h = some r) (q : Q (some (hs_i r.1)) r.2) : hs_call hs_ms S D 237 [hs_r 12 0, hs_i a1, hs_i a2, hs_i a3, hs_i a4] h Q := by
  refine hs_go (R := 3) hD rfl (Nat.le_of_ble_eq_true rfl) (fun d hd => ?_)
  show hs_W S d 1 hs_p237 Q 0 [hs_r 12 0, hs_i a1, hs_i a2, hs_i a3, hs_i a4, hs_u, hs_u, hs_u, hs_u, hs_u, hs_u, hs_u] [] h
  unfold hf_237 at e
  obtain ⟨q1, eq1, e⟩ := hs_bind_some e
  try dsimp only at e
  refine hs_wc 3 (y := 234) (a := [hs_i a1, hs_i a2]) (v := some (hs_i q1.1)) (pc' := 5) (ls' := [hs_r 12 0, hs_i a1, hs_i a2, hs_i a3, hs_i a4, hs_u, hs_u, hs_u, hs_u, hs_u, hs_u, hs_u]) (st' := []) (h' := h) (h2 := q1.2) (fun n w => w) (fun q => hc_234 (by omega) eq1 q) ?_
  refine hs_wb 1 (c := q1.1 = 0) (t := 21) (f := 8) (ls' := [hs_r 12 0, hs_i a1, hs_i a2, hs_i a3, hs_i a4, hs_u, hs_u, hs_u, hs_u, hs_u, hs_u, hs_u]) (st' := []) (h' := q1.2) (fun n w => w) (fun b2 => ?_) (fun b2 => ?_)
  · rw [if_pos b2] at e
    exact hw_237_21 hd e q
  · rw [if_neg b2] at e
    obtain ⟨q3, eq3, e⟩ := hs_bind_some e
    try dsimp only at e
    refine hs_wc 5 (y := 150) (a := [hs_l a4.toInt64, hs_l (lN 0), hs_l (lN 10)]) (v := some (hs_i q3.1)) (pc' := 18) (ls' := [hs_r 12 0, hs_i a1, hs_i a2, hs_i a3, hs_i a4, hs_u, hs_u, hs_u, hs_u, hs_u, hs_u, hs_u]) (st' := []) (h' := q1.2) (h2 := q3.2) (fun n w => w) (fun q => hc_150 (by omega) eq3 q) ?_
    refine hs_wb 1 (c := ¬ q3.1 = 0) (t := 23) (f := 21) (ls' := [hs_r 12 0, hs_i a1, hs_i a2, hs_i a3, hs_i a4, hs_u, hs_u, hs_u, hs_u, hs_u, hs_u, hs_u]) (st' := []) (h' := q3.2) (fun n w => w) (fun b4 => ?_) (fun b4 => ?_)
    · rw [if_pos b4] at e
      obtain ⟨c5, e⟩ := hs_ck_some e
      refine hs_wa 4 (c := vp_in (nI 23) 162) (pc' := 30) (ls' := [hs_r 12 0, hs_i a1, hs_i a2, hs_i a3, hs_i a4, hs_u, hs_u, hs_u, hs_u, hs_u, hs_u, hs_u]) (st' := [hs_i (q3.2.1 44 0 (nI 23).toNatClampNeg)]) (h' := q3.2) (fun n w => w) (hs_inb_iff.mp c5) ?_
      refine hs_w 7 (pc' := 41) (ls' := [hs_r 12 0, hs_i a1, hs_i a2, hs_i a3, hs_i a4, hs_i (q3.2.1 44 0 (nI 23).toNatClampNeg), hs_i (nI 0), hs_i (nI 0), hs_i (nI 0), hs_u, hs_u, hs_u]) (st' := []) (h' := q3.2) (fun n w => w) ?_
      exact hw_237_41_lp hd hs_big e _ _ _ q
    · rw [if_neg b4] at e
      exact hw_237_21 hd e q
/-- HuntedScentModel.torn()I -/
def hf_238  (h : hs_H) : Option (Int32 × hs_H) := some (h.1 12 0 41, h)
set_option maxHeartbeats 1000000 in
theorem hc_238 {S : hs_S} {D : Nat} {Q : hs_Q} (hD : 1 ≤ D)  {h : hs_H} {r : Int32 × hs_H} (e : hf_238 h = some r) (q : Q (some (hs_i r.1)) r.2) : hs_call hs_ms S D 238 [hs_r 12 0] h Q := by
  refine hs_go (R := 0) hD rfl (Nat.le_of_ble_eq_true rfl) (fun d hd => ?_)
  show hs_W S d 1 hs_p238 Q 0 [hs_r 12 0] [] h
  unfold hf_238 at e
  obtain rfl := Option.some.inj e
  exact hs_wr 3 (v := some (hs_i (h.1 12 0 41))) (h' := h) (fun n w => w) q
def hb_239_133    (s0 : Int32) (h : hs_H) : Option (Int32 × hs_H) := some (s0, h)
set_option maxHeartbeats 1000000 in
theorem hw_239_133 {S : hs_S} {d : Nat} {Q : hs_Q} (hd : 1 ≤ d)     {s0 : Int32} {v1 : hs_V} {v2 : hs_V} {v3 : hs_V} {h : hs_H} {r : Int32 × hs_H} (e : hb_239_133 s0 h = some r) (q : Q (some (hs_i r.1)) r.2) : hs_W S d 1 hs_p239 Q 133 [hs_r 12 0, v1, v2, v3] [hs_i s0] h := by
  unfold hb_239_133 at e
  obtain rfl := Option.some.inj e
  exact hs_wr 1 (v := some (hs_i s0)) (h' := h) (fun n w => w) q
def hb_239_30  (k4 : Int32 × Int32 × Int32 × hs_H → Option (Int32 × hs_H)) (x1 : Int32) (x3 : Int32) (s0 : Int32) (s1 : Int32) (h : hs_H) : Option (Int32 × hs_H) := (hf_151 s0 h).bind (fun q17 => k4 (x1, s1 + q17.1, x3 + nI 1, q17.2))
set_option maxHeartbeats 1000000 in
theorem hw_239_30 {S : hs_S} {d : Nat} {Q : hs_Q} (hd : 1 ≤ d)  {k4 : Int32 × Int32 × Int32 × hs_H → Option (Int32 × hs_H)} (hk4 : ∀ (x1 : Int32) (x2 : Int32) (x3 : Int32) (h : hs_H) (r : Int32 × hs_H) , k4 (x1, x2, x3, h) = some r → Q (some (hs_i r.1)) r.2 → hs_W S d 1 hs_p239 Q 4 [hs_r 12 0, hs_i x1, hs_i x2, hs_i x3] [] h) {x1 : Int32} {x3 : Int32} {s0 : Int32} {s1 : Int32} {v2 : hs_V} {h : hs_H} {r : Int32 × hs_H} (e : hb_239_30 k4 x1 x3 s0 s1 h = some r) (q : Q (some (hs_i r.1)) r.2) : hs_W S d 1 hs_p239 Q 30 [hs_r 12 0, hs_i x1, v2, hs_i x3] [hs_i s0, hs_i s1] h := by
  unfold hb_239_30 at e
  obtain ⟨q17, eq17, e⟩ := hs_bind_some e
  try dsimp only at e
  refine hs_wc 1 (y := 151) (a := [hs_i s0]) (v := some (hs_i q17.1)) (pc' := 33) (ls' := [hs_r 12 0, hs_i x1, v2, hs_i x3]) (st' := [hs_i s1]) (h' := h) (h2 := q17.2) (fun n w => w) (fun q => hc_151 (by omega) eq17 q) ?_
  refine hs_w 4 (pc' := 4) (ls' := [hs_r 12 0, hs_i x1, hs_i (s1 + q17.1), hs_i (x3 + nI 1)]) (st' := []) (h' := q17.2) (fun n w => w) ?_
  exact hk4 _ _ _ _ _  e q
def hb_239_4  (k4 : Int32 × Int32 × Int32 × hs_H → Option (Int32 × hs_H)) (x1 : Int32) (x2 : Int32) (x3 : Int32)  (h : hs_H) : Option (Int32 × hs_H) := if (h.1 12 0 2) ≤ x3 then (if x1 = nI 0 then (hs_ck (hs_inb (nI 23) 162) (some (h.1 44 0 (nI 23).toNatClampNeg, h))) else (if x1 = nI 1 then (some (x2, h)) else (if x1 = nI 2 then (hs_ck (hs_inb (nI 0) 2) ((hf_151 (h.1 45 0 (nI 0).toNatClampNeg) h).bind (fun q7 => hs_ck (hs_inb (nI 1) 2) ((hf_151 (q7.2.1 45 0 (nI 1).toNatClampNeg) q7.2).bind (fun q9 => some (q7.1 + q9.1, q9.2)))))) else (if x1 = nI 3 then (some (h.1 12 0 14, h)) else (if x1 = nI 4 then (hs_ck (hs_inb (nI 0) 4) (if ¬ (h.1 61 0 (nI 0).toNatClampNeg) = (nI 4294967292) then (hs_ck (hs_inb (nI 0) 4) (hb_239_133 (h.1 62 0 (nI 0).toNatClampNeg) h)) else (hb_239_133 (nI 4294967292) h))) else (some (nI 4294967295, h))))))) else (hs_ck (hs_inb ((nI 13) + x3) 162) (if (h.1 44 0 ((nI 13) + x3).toNatClampNeg) ≤ 0 then (hb_239_30 k4 x1 x3 (nI 0) x2 h) else (hb_239_30 k4 x1 x3 (nI 1) x2 h)))
set_option maxHeartbeats 1000000 in
theorem hw_239_4 {S : hs_S} {d : Nat} {Q : hs_Q} (hd : 1 ≤ d)  {k4 : Int32 × Int32 × Int32 × hs_H → Option (Int32 × hs_H)} (hk4 : ∀ (x1 : Int32) (x2 : Int32) (x3 : Int32) (h : hs_H) (r : Int32 × hs_H) , k4 (x1, x2, x3, h) = some r → Q (some (hs_i r.1)) r.2 → hs_W S d 1 hs_p239 Q 4 [hs_r 12 0, hs_i x1, hs_i x2, hs_i x3] [] h) {x1 : Int32} {x2 : Int32} {x3 : Int32}   {h : hs_H} {r : Int32 × hs_H} (e : hb_239_4 k4 x1 x2 x3 h = some r) (q : Q (some (hs_i r.1)) r.2) : hs_W S d 1 hs_p239 Q 4 [hs_r 12 0, hs_i x1, hs_i x2, hs_i x3] [] h := by
  unfold hb_239_4 at e
  refine hs_wb 4 (c := (h.1 12 0 2) ≤ x3) (t := 41) (f := 12) (ls' := [hs_r 12 0, hs_i x1, hs_i x2, hs_i x3]) (st' := []) (h' := h) (fun n w => w) (fun b1 => ?_) (fun b1 => ?_)
  · rw [if_pos b1] at e
    refine hs_ws1 2 (df := 134) (x := x1) (ps := [0, 76, 1, 84, 2, 86, 3, 106, 4, 111]) (ls' := [hs_r 12 0, hs_i x1, hs_i x2, hs_i x3]) (st' := []) (h' := h) (fun n w => w) ?_
    refine hs_ws2 (fun b2 => ?_) (fun b2 => ?_)
    · rw [if_pos b2] at e
      obtain ⟨c3, e⟩ := hs_ck_some e
      refine hs_wa 4 (c := vp_in (nI 23) 162) (pc' := 83) (ls' := [hs_r 12 0, hs_i x1, hs_i x2, hs_i x3]) (st' := [hs_i (h.1 44 0 (nI 23).toNatClampNeg)]) (h' := h) (fun n w => w) (hs_inb_iff.mp c3) ?_
      obtain rfl := Option.some.inj e
      exact hs_wr 1 (v := some (hs_i (h.1 44 0 (nI 23).toNatClampNeg))) (h' := h) (fun n w => w) q
    rw [if_neg b2] at e
    refine hs_ws2 (fun b4 => ?_) (fun b4 => ?_)
    · rw [if_pos b4] at e
      obtain rfl := Option.some.inj e
      exact hs_wr 2 (v := some (hs_i x2)) (h' := h) (fun n w => w) q
    rw [if_neg b4] at e
    refine hs_ws2 (fun b5 => ?_) (fun b5 => ?_)
    · rw [if_pos b5] at e
      obtain ⟨c6, e⟩ := hs_ck_some e
      refine hs_wa 4 (c := vp_in (nI 0) 2) (pc' := 92) (ls' := [hs_r 12 0, hs_i x1, hs_i x2, hs_i x3]) (st' := [hs_i (h.1 45 0 (nI 0).toNatClampNeg)]) (h' := h) (fun n w => w) (hs_inb_iff.mp c6) ?_
      obtain ⟨q7, eq7, e⟩ := hs_bind_some e
      try dsimp only at e
      refine hs_wc 1 (y := 151) (a := [hs_i (h.1 45 0 (nI 0).toNatClampNeg)]) (v := some (hs_i q7.1)) (pc' := 95) (ls' := [hs_r 12 0, hs_i x1, hs_i x2, hs_i x3]) (st' := []) (h' := h) (h2 := q7.2) (fun n w => w) (fun q => hc_151 (by omega) eq7 q) ?_
      obtain ⟨c8, e⟩ := hs_ck_some e
      refine hs_wa 4 (c := vp_in (nI 1) 2) (pc' := 101) (ls' := [hs_r 12 0, hs_i x1, hs_i x2, hs_i x3]) (st' := [hs_i (q7.2.1 45 0 (nI 1).toNatClampNeg), hs_i q7.1]) (h' := q7.2) (fun n w => w) (hs_inb_iff.mp c8) ?_
      obtain ⟨q9, eq9, e⟩ := hs_bind_some e
      try dsimp only at e
      refine hs_wc 1 (y := 151) (a := [hs_i (q7.2.1 45 0 (nI 1).toNatClampNeg)]) (v := some (hs_i q9.1)) (pc' := 104) (ls' := [hs_r 12 0, hs_i x1, hs_i x2, hs_i x3]) (st' := [hs_i q7.1]) (h' := q7.2) (h2 := q9.2) (fun n w => w) (fun q => hc_151 (by omega) eq9 q) ?_
      obtain rfl := Option.some.inj e
      exact hs_wr 2 (v := some (hs_i (q7.1 + q9.1))) (h' := q9.2) (fun n w => w) q
    rw [if_neg b5] at e
    refine hs_ws2 (fun b10 => ?_) (fun b10 => ?_)
    · rw [if_pos b10] at e
      obtain rfl := Option.some.inj e
      exact hs_wr 3 (v := some (hs_i (h.1 12 0 14))) (h' := h) (fun n w => w) q
    rw [if_neg b10] at e
    refine hs_ws2 (fun b11 => ?_) (fun b11 => ?_)
    · rw [if_pos b11] at e
      obtain ⟨c12, e⟩ := hs_ck_some e
      refine hs_wa 4 (c := vp_in (nI 0) 4) (pc' := 117) (ls' := [hs_r 12 0, hs_i x1, hs_i x2, hs_i x3]) (st' := [hs_i (h.1 61 0 (nI 0).toNatClampNeg)]) (h' := h) (fun n w => w) (hs_inb_iff.mp c12) ?_
      refine hs_wb 2 (c := ¬ (h.1 61 0 (nI 0).toNatClampNeg) = (nI 4294967292)) (t := 127) (f := 122) (ls' := [hs_r 12 0, hs_i x1, hs_i x2, hs_i x3]) (st' := []) (h' := h) (fun n w => w) (fun b13 => ?_) (fun b13 => ?_)
      · rw [if_pos b13] at e
        obtain ⟨c14, e⟩ := hs_ck_some e
        refine hs_wa 4 (c := vp_in (nI 0) 4) (pc' := 133) (ls' := [hs_r 12 0, hs_i x1, hs_i x2, hs_i x3]) (st' := [hs_i (h.1 62 0 (nI 0).toNatClampNeg)]) (h' := h) (fun n w => w) (hs_inb_iff.mp c14) ?_
        exact hw_239_133 hd e q
      · rw [if_neg b13] at e
        refine hs_w 2 (pc' := 133) (ls' := [hs_r 12 0, hs_i x1, hs_i x2, hs_i x3]) (st' := [hs_i (nI 4294967292)]) (h' := h) (fun n w => w) ?_
        exact hw_239_133 hd e q
    rw [if_neg b11] at e
    refine hs_ws3 ?_
    obtain rfl := Option.some.inj e
    exact hs_wr 2 (v := some (hs_i (nI 4294967295))) (h' := h) (fun n w => w) q
  · rw [if_neg b1] at e
    obtain ⟨c15, e⟩ := hs_ck_some e
    refine hs_wa 7 (c := vp_in ((nI 13) + x3) 162) (pc' := 22) (ls' := [hs_r 12 0, hs_i x1, hs_i x2, hs_i x3]) (st' := [hs_i (h.1 44 0 ((nI 13) + x3).toNatClampNeg), hs_i x2]) (h' := h) (fun n w => w) (hs_inb_iff.mp c15) ?_
    refine hs_wb 1 (c := (h.1 44 0 ((nI 13) + x3).toNatClampNeg) ≤ 0) (t := 29) (f := 25) (ls' := [hs_r 12 0, hs_i x1, hs_i x2, hs_i x3]) (st' := [hs_i x2]) (h' := h) (fun n w => w) (fun b16 => ?_) (fun b16 => ?_)
    · rw [if_pos b16] at e
      refine hs_w 1 (pc' := 30) (ls' := [hs_r 12 0, hs_i x1, hs_i x2, hs_i x3]) (st' := [hs_i (nI 0), hs_i x2]) (h' := h) (fun n w => w) ?_
      exact hw_239_30 hd hk4 e q
    · rw [if_neg b16] at e
      refine hs_w 2 (pc' := 30) (ls' := [hs_r 12 0, hs_i x1, hs_i x2, hs_i x3]) (st' := [hs_i (nI 1), hs_i x2]) (h' := h) (fun n w => w) ?_
      exact hw_239_30 hd hk4 e q
theorem hw_239_4_lp {S : hs_S} {d : Nat} {Q : hs_Q} (hd : 1 ≤ d)    (n : Nat) {x1 : Int32} {x2 : Int32} {x3 : Int32} {h : hs_H} {r : Int32 × hs_H} (e : hs_lp (fun k s => hb_239_4 k s.1 s.2.1 s.2.2.1 s.2.2.2) n (x1, x2, x3, h) = some r)  (q : Q (some (hs_i r.1)) r.2) : hs_W S d 1 hs_p239 Q 4 [hs_r 12 0, hs_i x1, hs_i x2, hs_i x3] [] h := by
  refine hs_lp_ind (P := fun (s : Int32 × Int32 × Int32 × hs_H) (r : Int32 × hs_H) => ∀ (_ : True), Q (some (hs_i r.1)) r.2 → hs_W S d 1 hs_p239 Q 4 [hs_r 12 0, hs_i s.1, hs_i s.2.1, hs_i s.2.2.1] [] s.2.2.2) (fun k hk s r e _ q => ?_) n (x1, x2, x3, h) r e trivial q
  exact hw_239_4 hd (fun x1 x2 x3 h r  e q => hk (x1, x2, x3, h) r e trivial q) e q
/-- HuntedScentModel.count(I)I -/
def hf_239 (a1 : Int32) (h : hs_H) : Option (Int32 × hs_H) := hs_lp (fun k s => hb_239_4 k s.1 s.2.1 s.2.2.1 s.2.2.2) hs_big (a1, nI 0, nI 0, h)
set_option maxHeartbeats 1000000 in
theorem hc_239 {S : hs_S} {D : Nat} {Q : hs_Q} (hD : 2 ≤ D) {a1 : Int32} {h : hs_H} {r : Int32 × hs_H} (e : hf_239 a1 h = some r) (q : Q (some (hs_i r.1)) r.2) : hs_call hs_ms S D 239 [hs_r 12 0, hs_i a1] h Q := by
  refine hs_go (R := 1) hD rfl (Nat.le_of_ble_eq_true rfl) (fun d hd => ?_)
  show hs_W S d 1 hs_p239 Q 0 [hs_r 12 0, hs_i a1, hs_u, hs_u] [] h
  unfold hf_239 at e
  refine hs_w 4 (pc' := 4) (ls' := [hs_r 12 0, hs_i a1, hs_i (nI 0), hs_i (nI 0)]) (st' := []) (h' := h) (fun n w => w) ?_
  exact hw_239_4_lp hd hs_big e  q
