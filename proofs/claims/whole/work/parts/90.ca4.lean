/-! Casts: what the class lists ahead. -/
def v01 (k c : Nat) : Nat := if 0 < c ∧ pcn 10 c = k then 1 else 0
theorem rk_all : (List.range 6).all (fun k => decide (smN (v01 k) 1024 ≤ 252)) = true := by decide +kernel
theorem smN_mono {v : Nat → Nat} {n m : Nat} (h : n ≤ m) : smN v n ≤ smN v m := by
  have : ∀ d, smN v n ≤ smN v (n + d) := by
    intro d
    induction d with
    | zero => exact Nat.le_refl _
    | succ d ih => exact Nat.le_trans ih (Nat.le_add_right _ _)
  have h2 := this (m - n)
  rwa [show n + (m - n) = m by omega] at h2
theorem rk_le {k m : Nat} (hk : k ≤ 5) (hm : m ≤ 1024) : smN (v01 k) m ≤ 252 := by
  have h1 := of_decide_eq_true (List.all_eq_true.mp rk_all k (List.mem_range.mpr (by omega)))
  have h2 := smN_mono (v := v01 k) hm
  omega
def tv (H : hs_H) (j : Nat) : Nat := (H.1 23 0 j).toBitVec.toNat
theorem tv_e (H : hs_H) (j : Nat) : H.1 23 0 j = nI (tv H j) := nI_bv _
theorem tn_of {x : Int32} {a : Nat} (h : x = nI a) (ha : a < 4294967296) : x.toBitVec.toNat = a := by
  rw [h, nx_tn, Nat.mod_eq_of_lt ha]
/-- the throwable casts below m -/
def thA (k m C : Nat) (H : hs_H) : Prop := (∀ j, j < C → (0 < tv H j ∧ tv H j < m) ∧ pcn 10 (tv H j) = k) ∧ (∀ c, 0 < c → c < m → pcn 10 c = k → ∃ j, j < C ∧ tv H j = c) ∧ ∀ i j, i < j → j < C → tv H i < tv H j
def thr (N k : Nat) (H : hs_H) : Prop := ∃ C, C ≤ 252 ∧ H.1 0 0 5 = nI C ∧ thA k (2 ^ N) C H
theorem sp_1 {N k : Nat} {h : hs_H} (hN : N ≤ 10) (hN1 : h.1 4 0 1 = nI N) (hk : k ≤ 5) (h6 : h.1 0 0 6 = nI k) : ∃ H, hf_1 h = some H ∧ hs_fr [(0, some 0), (23, some 0)] h H ∧ (∀ p, p ≠ 5 → H.1 0 0 p = h.1 0 0 p) ∧ thr N k H := by
  have hp := p2_lt hN
  have h2 : 1 ≤ 2 ^ N := Nat.one_le_two_pow
  unfold hf_1
  refine lp_q2 (f := fun k s => hb_1_7 k s.1 s.2) (I := fun d q => ∃ m H, 1 ≤ m ∧ m ≤ 2 ^ N ∧ d = 2 ^ N - m ∧ (hs_fr [(0, some 0), (23, some 0)] h H ∧ (∀ p, p ≠ 5 → H.1 0 0 p = h.1 0 0 p) ∧ H.1 0 0 5 = nI (smN (v01 k) m) ∧ thA k m (smN (v01 k) m) H) ∧ q = (nI m, H)) (Q := fun o => ∃ H, o = some H ∧ hs_fr [(0, some 0), (23, some 0)] h H ∧ (∀ p, p ≠ 5 → H.1 0 0 p = h.1 0 0 p) ∧ thr N k H) (fun d q hI k7 => ?_) (2 ^ N - 1) _ hs_big ⟨1, hs_put h 0 0 5 (nI 0), Nat.le_refl _, h2, rfl, ⟨hs_fr.rf.put (.inl (.head _)), fun p hp => by rw [nx_get, if_neg (fun q => hp q.2.2)], by rw [nx_get, if_pos ⟨rfl, rfl, rfl⟩]; rfl, ⟨fun j hj => absurd hj (by rw [show smN (v01 k) 1 = 0 from rfl]; omega), fun c h1 h2 _ => by omega, fun i j h1 hj => absurd hj (by rw [show smN (v01 k) 1 = 0 from rfl]; omega)⟩⟩, rfl⟩ (lp_big (by omega))
  obtain ⟨m, H, hm1, hm, rfl, ⟨fr, w1, w2, ⟨tA, tB, tC⟩⟩, rfl⟩ := hI
  have hC := rk_le (k := k) (m := m) hk (by omega)
  have e4 : H.1 4 0 = h.1 4 0 := (fr 4 0 (by intro q hq; revert q; simp)).1
  have e31 := sp_31 (o := 0) (N := N) (h := H) (by rw [e4]; exact hN1) (by omega)
  by_cases hin : m = 2 ^ N
  · subst hin
    refine Or.inl ⟨H, ?_, fr, w1, _, hC, w2, tA, tB, tC⟩
    show hb_1_7 k7 (nI (2 ^ N)) H = _
    unfold hb_1_7
    rw [e31, Option.bind_some]
    dsimp only
    rw [if_pos (nI_lt (by omega) (by omega))]
  · refine Or.inr ?_
    have hpl := pcn_le m 10
    have e6 : H.1 0 0 6 = nI k := by rw [w1 6 (by omega)]; exact h6
    have eS : smN (v01 k) (m + 1) = smN (v01 k) m + v01 k m := rfl
    by_cases c : pcn 10 m = k
    · have ev : v01 k m = 1 := if_pos ⟨by omega, c⟩
      rw [ev] at eS
      have hC2 := rk_le (k := k) (m := m + 1) hk (by omega)
      have tvS : ∀ j, tv (hs_put (hs_put H 23 0 (smN (v01 k) m) (nI m)) 0 0 5 (nI (smN (v01 k) m + 1))) j = if j = smN (v01 k) m then m else tv H j := fun j => by
        unfold tv
        rw [nx_get, if_neg (by omega), nx_get]
        by_cases q : j = smN (v01 k) m
        · rw [if_pos ⟨rfl, rfl, q⟩, if_pos q]
          exact tn_of rfl (by omega)
        · rw [if_neg (fun w => q w.2.2), if_neg q]
      refine ⟨2 ^ N - (m + 1), (nI (m + 1), hs_put (hs_put H 23 0 (smN (v01 k) m) (nI m)) 0 0 5 (nI (smN (v01 k) m + 1))), by omega, ⟨m + 1, _, by omega, by omega, rfl, ⟨(fr.put (.inl (.tail _ (.head _)))).put (.inl (.head _)), fun p hp => ?_, ?_, ⟨fun j hj => ?_, fun x h1 h2 h3 => ?_, fun i j h1 hj => ?_⟩⟩, rfl⟩, ?_⟩
      · rw [nx_get, if_neg (fun q => hp q.2.2), nx_get, if_neg (by omega)]
        exact w1 p hp
      · rw [nx_get, if_pos ⟨rfl, rfl, rfl⟩, eS]
      · rw [tvS]
        by_cases q : j = smN (v01 k) m
        · rw [if_pos q]; exact ⟨⟨by omega, by omega⟩, c⟩
        · rw [if_neg q]
          have := tA j (by omega)
          exact ⟨⟨this.1.1, by omega⟩, this.2⟩
      · by_cases q : x = m
        · exact ⟨smN (v01 k) m, by omega, by rw [tvS, if_pos rfl, q]⟩
        · obtain ⟨j, hj, hx⟩ := tB x h1 (by omega) h3
          exact ⟨j, by omega, by rw [tvS, if_neg (by omega)]; exact hx⟩
      · rw [tvS, tvS, if_neg (show ¬ i = smN (v01 k) m by omega)]
        by_cases q : j = smN (v01 k) m
        · rw [if_pos q]
          exact (tA i (by omega)).1.2
        · rw [if_neg q]
          exact tC i j h1 (by omega)
      · show hb_1_7 k7 (nI m) H = _
        have e5 : (hs_put H 23 0 (smN (v01 k) m) (nI m)).1 0 0 5 = nI (smN (v01 k) m) := by rw [nx_get, if_neg (by omega)]; exact w2
        unfold hb_1_7 hb_1_59
        rw [e31, Option.bind_some]
        dsimp only
        rw [if_neg (nI_nlt (by omega) (by omega)), sp_240 (by omega), Option.bind_some]
        dsimp only
        rw [e6, c, if_neg (fun q => q rfl), w2, if_neg (nI_ge (by omega) (by omega)), nx_inb (by omega) (by omega), nx_ck, nI_clamp (by omega), e5, nI_add, nI_add]
    · have ev : v01 k m = 0 := if_neg (fun q => c q.2)
      rw [ev, Nat.add_zero] at eS
      refine ⟨2 ^ N - (m + 1), (nI (m + 1), H), by omega, ⟨m + 1, H, by omega, by omega, rfl, ⟨fr, w1, by rw [eS]; exact w2, ⟨fun j hj => ?_, fun x h1 h2 h3 => ?_, fun i j h1 hj => ?_⟩⟩, rfl⟩, ?_⟩
      · have := tA j (by omega)
        exact ⟨⟨this.1.1, by omega⟩, this.2⟩
      · have hxm : x ≠ m := fun q => c (by rw [← q]; exact h3)
        obtain ⟨j, hj, hx⟩ := tB x h1 (by omega) h3
        exact ⟨j, by omega, hx⟩
      · exact tC i j h1 (by omega)
      · show hb_1_7 k7 (nI m) H = _
        unfold hb_1_7 hb_1_59
        rw [e31, Option.bind_some]
        dsimp only
        rw [if_neg (nI_nlt (by omega) (by omega)), sp_240 (by omega), Option.bind_some]
        dsimp only
        rw [e6, if_pos (fun q => c (nI_inj (by omega) (by omega) q)), nI_add]
/-- the set without its least node -/
theorem low_all : (List.range 1024).all (fun S => (List.range 10).all (fun i => ((S &&& (S - 1)).testBit i) == (S.testBit i && !decide (i = pkn S 0 10)))) = true := by decide +kernel
theorem low_bit {S i : Nat} (hS : S < 1024) : (S &&& (S - 1)).testBit i = (S.testBit i && !decide (i = pkn S 0 10)) := by
  by_cases hi : i < 10
  · have h := List.all_eq_true.mp (List.all_eq_true.mp low_all S (List.mem_range.mpr hS)) i (List.mem_range.mpr hi)
    exact eq_of_beq h
  · have hl : S &&& (S - 1) < 2 ^ 10 := Nat.lt_of_le_of_lt Nat.and_le_left (by omega)
    rw [tb_hi hl (by omega), tb_hi (n := 10) (show S < 2 ^ 10 by omega) (by omega)]
    rfl
section CL
variable {J : Nat → Nat} {N re : Nat}
theorem nxs_low {S : Nat} (hN : N ≤ 10) (hS : S < 2 ^ N) (h0 : S ≠ 0) : pkn S 0 10 < N ∧ nxs J N re S = nxs J N re (S &&& (S - 1)) ||| stp J re (pkn S 0 10) := by
  have hp := p2_lt hN
  have hpos := pcn_pos (n := 10) (show S < 2 ^ 10 by omega) h0
  have hk := pkn_lt (k := 0) hN hS hpos
  refine ⟨hk.1, tb_ext fun t => Bool.eq_iff_iff.mpr ?_⟩
  rw [Nat.testBit_or, Bool.or_eq_true]
  unfold nxs
  rw [tb_stpA, tb_stpA]
  constructor
  · rintro ⟨i, hi, h1, h2⟩
    by_cases c : i = pkn S 0 10
    · rw [c] at h2; exact Or.inr h2
    · refine Or.inl ⟨i, hi, ?_, h2⟩
      rw [low_bit (by omega), h1, decide_eq_false c]
      rfl
  · rintro (⟨i, hi, h1, h2⟩ | h)
    · rw [low_bit (by omega), Bool.and_eq_true] at h1
      exact ⟨i, hi, h1.1, h2⟩
    · exact ⟨pkn S 0 10, hk.1, hk.2, h⟩
theorem sp_2 {h : hs_H} (n : ch_n N re J h) (hN : N ≤ 10) (hJ : ∀ k, J k < 2 ^ N) (hre : re = 0 ∨ re = 1) : ∃ H, hf_2 h = some H ∧ hs_fr [(20, some 0), (21, some 0)] h H ∧ (∀ S, S < 2 ^ N → H.1 20 0 S = nI (nxs J N re S)) ∧ ∀ S, 0 < S → S < 2 ^ N → H.1 21 0 S = nI 4294967295 := by
  have hp := p2_lt hN
  have h2 : 1 ≤ 2 ^ N := Nat.one_le_two_pow
  unfold hf_2
  rw [nx_inb (by omega) (by omega), nx_ck, nI_clamp (by omega)]
  refine lp_q2 (f := fun k s => hb_2_9 k s.1 s.2) (I := fun d q => ∃ m H, 1 ≤ m ∧ m ≤ 2 ^ N ∧ d = 2 ^ N - m ∧ (hs_fr [(20, some 0), (21, some 0)] h H ∧ (∀ S, S < m → H.1 20 0 S = nI (nxs J N re S)) ∧ ∀ S, 0 < S → S < m → H.1 21 0 S = nI 4294967295) ∧ q = (nI m, H)) (Q := fun o => ∃ H, o = some H ∧ hs_fr [(20, some 0), (21, some 0)] h H ∧ (∀ S, S < 2 ^ N → H.1 20 0 S = nI (nxs J N re S)) ∧ ∀ S, 0 < S → S < 2 ^ N → H.1 21 0 S = nI 4294967295) (fun d q hI k9 => ?_) (2 ^ N - 1) _ hs_big ⟨1, hs_put h 20 0 0 (nI 0), Nat.le_refl _, h2, rfl, ⟨hs_fr.rf.put (.inl (.head _)), fun S hS => by rw [nx_get, if_pos ⟨rfl, rfl, by omega⟩, show S = 0 by omega, nxs_0], fun S h1 h3 => by omega⟩, rfl⟩ (lp_big (by omega))
  obtain ⟨m, H, hm1, hm, rfl, ⟨fr, w1, w2⟩, rfl⟩ := hI
  have n' := ch_n_fr fr rfl n
  have e31 := sp_31 (o := 0) (N := N) (h := H) n'.1 (by omega)
  by_cases hin : m = 2 ^ N
  · subst hin
    refine Or.inl ⟨H, ?_, fr, w1, w2⟩
    show hb_2_9 k9 (nI (2 ^ N)) H = _
    unfold hb_2_9 hb_2_70
    rw [e31, Option.bind_some]
    dsimp only
    rw [if_pos (nI_lt (by omega) (by omega))]
  · have hpos := pcn_pos (n := 10) (show m < 2 ^ 10 by omega) (by omega)
    have hcp := clr_pk m (by omega) 0 (by omega) hpos
    obtain ⟨l1, l2⟩ := nxs_low (J := J) (re := re) hN (show m < 2 ^ N by omega) (by omega)
    have hand : m &&& (m - 1) ≤ m - 1 := Nat.and_le_right
    refine Or.inr ⟨2 ^ N - (m + 1), (nI (m + 1), hs_put (hs_put H 20 0 m (nI (nxs J N re m))) 21 0 m (nI 4294967295)), by omega, ⟨m + 1, _, by omega, by omega, rfl, ⟨(fr.put (.inl (.head _))).put (.inl (.tail _ (.head _))), fun S hS => ?_, fun S h1 h3 => ?_⟩, rfl⟩, ?_⟩
    · rw [nx_get, if_neg (by omega), nx_get]
      by_cases c : S = m
      · rw [if_pos ⟨rfl, rfl, c⟩, c]
      · rw [if_neg (fun q => c q.2.2)]
        exact w1 S (by omega)
    · rw [nx_get]
      by_cases c : S = m
      · rw [if_pos ⟨rfl, rfl, c⟩]
      · rw [if_neg (fun q => c q.2.2), nx_get, if_neg (by omega)]
        exact w2 S h1 (by omega)
    · show hb_2_9 k9 (nI m) H = _
      unfold hb_2_9
      rw [e31, Option.bind_some]
      dsimp only
      rw [if_neg (nI_nlt (by omega) (by omega)), if_neg (nI_ge (by omega) (by omega)), pk_sub hm1, nx_and, nx_inb (show m &&& (m - 1) < 1024 by omega) (by omega), nx_ck, nI_clamp (show m &&& (m - 1) < 2147483648 by omega), w1 _ (by omega), sp_148 (by omega) (by omega) hcp.1.2.2 (fun i hi => hcp.2.1 i (by omega) hi), Option.bind_some]
      dsimp only
      rw [sp_40 n'.1 n'.2.1 hre n'.2.2 hJ l1 hN, Option.bind_some]
      dsimp only
      rw [nx_inb (by omega) (by omega), nx_ck, nx_ck, nI_clamp (by omega), nx_or, ← l2, nI_add]
end CL
