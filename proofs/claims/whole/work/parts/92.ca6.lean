/-! Casts: the class's rows read back. -/
section RB
variable {J : Nat → Nat} {N re k : Nat}
/-- where the greedy sets came from -/
def chn (J : Nat → Nat) (N re k S i : Nat) (H : hs_H) : Prop := H.1 21 0 S = nI 0 ∧ ∀ j, j < i → H.1 21 0 (gsq J N re k S (j + 1)) = nI (lcc J N re k (gsq J N re k S j) * 1024 + gsq J N re k S j)
theorem sp_6 {s : Nat} {H : hs_H} (h0 : 0 < s) (hs : s < 1024) : hf_6 (nI s) H = some (H.1 21 0 s, H) := by
  unfold hf_6 hb_6_21
  rw [if_neg (nI_nle h0 (by omega)), if_neg (nI_ge (by omega) (by omega)), nx_inb (by omega) (by omega), nx_ck, nI_clamp (by omega)]
theorem gsq_pos {S t : Nat} (hN : N ≤ 10) (hJ : ∀ k, J k < 2 ^ N) (hre : re = 0 ∨ re = 1) (hk1 : 1 ≤ k) (hS : S < 2 ^ N) (hD : fwe J N re k S ≠ 99999) (ht : t < fwe J N re k S) : 0 < gsq J N re k S t ∧ gsq J N re k S t < 2 ^ N ∧ fwe J N re k (gsq J N re k S t) + t = fwe J N re k S ∧ (0 < lcc J N re k (gsq J N re k S t) ∧ lcc J N re k (gsq J N re k S t) < 2 ^ N) := by
  have hb := (fwe_b (k := k) hN hJ hre hS).resolve_left hD
  obtain ⟨g1, g2⟩ := gsq_spec hN hJ hre hk1 hS hD t (by omega)
  have h0 : gsq J N re k S t ≠ 0 := fun q => by
    have := (fwe_0 (J := J) (N := N) (re := re) (k := k)).mpr q
    omega
  have sp := lcc_spec hN hJ hre hk1 g1 h0 (by omega)
  exact ⟨by omega, g1, g2, sp.2.1, sp.2.2.1⟩
theorem sp_8n {S n : Nat} {H : hs_H} (hN : N ≤ 10) (hJ : ∀ k, J k < 2 ^ N) (hre : re = 0 ∨ re = 1) (hk1 : 1 ≤ k) (hS : S < 2 ^ N) (hD : fwe J N re k S ≠ 99999) (h0 : S ≠ 0) (hn : fwe J N re k S = n) (c : chn J N re k S (n - 1) H) : hf_8 (nI (gsq J N re k S (n - 1))) H = some (nI n, H) := by
  have hp := p2_lt hN
  have hb := (fwe_b (k := k) hN hJ hre hS).resolve_left hD
  have hn0 : fwe J N re k S ≠ 0 := fun q => h0 (fwe_0.mp q)
  unfold hf_8
  refine lp_for (f := fun k s => hb_8_4 k s.1 s.2.1 s.2.2) (st := fun j => (nI (1 + j), nI (gsq J N re k S (n - 1 - j)), H)) (e := n - 1) (fun j hj q => ?_) (fun q => ?_) 0 hs_big (Nat.zero_le _) (lp_big (by omega))
  · show hb_8_4 q (nI (1 + j)) (nI (gsq J N re k S (n - 1 - j))) H = q (nI (1 + (j + 1)), nI (gsq J N re k S (n - 1 - (j + 1))), H)
    obtain ⟨a1, a2, a3, a4, a5⟩ := gsq_pos hN hJ hre hk1 hS hD (show n - 1 - j < fwe J N re k S by omega)
    obtain ⟨b1, b2, b3, b4, b5⟩ := gsq_pos hN hJ hre hk1 hS hD (show n - 1 - (j + 1) < fwe J N re k S by omega)
    have e := c.2 (n - 1 - (j + 1)) (by omega)
    rw [show n - 1 - (j + 1) + 1 = n - 1 - j by omega] at e
    generalize gsq J N re k S (n - 1 - j) = A at a1 a2 a3 a4 a5 e
    generalize gsq J N re k S (n - 1 - (j + 1)) = B at b1 b2 b3 b4 b5 e
    generalize lcc J N re k B = L at b4 b5 e
    unfold hb_8_4
    rw [if_neg (nI_ge (by omega) (by omega)), sp_6 a1 (by omega), Option.bind_some, e]
    dsimp only
    rw [if_neg (nI_nle (by omega) (by omega)), sp_6 a1 (by omega), Option.bind_some, e]
    dsimp only
    rw [pk_rem (by omega) (by omega) (by omega), nI_add, show (L * 1024 + B) % 1024 = B by omega, show 1 + j + 1 = 1 + (j + 1) by omega]
  · show hb_8_4 q (nI (1 + (n - 1))) (nI (gsq J N re k S (n - 1 - (n - 1)))) H = _
    have e : H.1 21 0 (gsq J N re k S 0) = nI 0 := c.1
    obtain ⟨a1, a2, a3, a4, a5⟩ := gsq_pos hN hJ hre hk1 hS hD (show 0 < fwe J N re k S by omega)
    rw [Nat.sub_self, show 1 + (n - 1) = n by omega]
    generalize gsq J N re k S 0 = A at a1 a2 a3 a4 a5 e
    unfold hb_8_4 hb_8_35
    rw [if_neg (nI_ge (by omega) (by omega)), sp_6 a1 (by omega), Option.bind_some, e]
    dsimp only
    rw [if_pos (by decide)]
theorem sp_8 {S : Nat} {H : hs_H} (hN : N ≤ 10) (hJ : ∀ k, J k < 2 ^ N) (hre : re = 0 ∨ re = 1) (hk1 : 1 ≤ k) (hS : S < 2 ^ N) (hD : fwe J N re k S ≠ 99999) (h0 : S ≠ 0) (c : chn J N re k S (fwe J N re k S - 1) H) : hf_8 (nI (gsq J N re k S (fwe J N re k S - 1))) H = some (nI (fwe J N re k S), H) := sp_8n hN hJ hre hk1 hS hD h0 rfl c
theorem sp_7 {X : Nat} {H : hs_H} (hN : N ≤ 10) (hJ : ∀ k, J k < 2 ^ N) (hre : re = 0 ∨ re = 1) (hk1 : 1 ≤ k) (hX : X < 2 ^ N) (hD : fwe J N re k X = 1) (t : thr N k H) : hf_7 (nI X) H = some (nI (lcc J N re k X), H) := by
  have hp := p2_lt hN
  obtain ⟨C, hC, h5, tA, tB, tC⟩ := t
  have h0 : X ≠ 0 := fun q => by
    have := (fwe_0 (J := J) (N := N) (re := re) (k := k)).mpr q
    omega
  have sp := lcc_spec hN hJ hre hk1 hX h0 (by omega)
  have hdz : ∀ c, fwe J N re k (nxs J N re (dif X c)) + 1 = fwe J N re k X ↔ dif X c = 0 := fun c => by
    have hdl := dif_le X c
    rw [hD]
    constructor
    · intro q
      have q2 := fwe_0.mp (show fwe J N re k (nxs J N re (dif X c)) = 0 by omega)
      exact Classical.byContradiction (fun w => nxs_ne hJ hre (by omega) w q2)
    · intro q
      rw [q, nxs_0, fwe_0.mpr rfl]
  obtain ⟨g, hg, hg2⟩ := tB _ sp.2.1 sp.2.2.1 sp.1.1
  unfold hf_7
  refine lp_for (f := fun k s => hb_7_2 k s.1 s.2.1 s.2.2) (st := fun j => (nI X, nI j, H)) (e := g) (fun j hj q => ?_) (fun q => ?_) 0 hs_big (Nat.zero_le _) (lp_big (by omega))
  · show hb_7_2 q (nI X) (nI j) H = _
    have hlt := tC j g hj hg
    have hA := tA j (by omega)
    have hnz : dif X (tv H j) ≠ 0 := fun w => sp.2.2.2 (tv H j) (by omega) ⟨hA.2, (hdz _).mpr w⟩
    have hdl := dif_le X (tv H j)
    unfold hb_7_2
    rw [h5, if_neg (nI_ge (by omega) (by omega)), if_neg (nI_ge (by omega) (by omega)), nx_inb (by omega) (by omega), nx_ck, nI_clamp (by omega), tv_e H j, nx_dif, if_pos (nI_ne0 (by omega) (by omega)), nI_add]
  · show hb_7_2 q (nI X) (nI g) H = _
    have hz := (hdz _).mp sp.1.2
    unfold hb_7_2
    rw [h5, if_neg (nI_ge (by omega) (by omega)), if_neg (nI_ge (by omega) (by omega)), nx_inb (by omega) (by omega), nx_ck, nI_clamp (by omega), tv_e H g, nx_dif, hg2, hz, if_neg (fun w => w rfl), nx_ck]
/-- what is kept of a search -/
def casF (J : Nat → Nat) (N re k S : Nat) (H : hs_H) : Prop := (fwe J N re k S = 99999 ∧ H.1 0 0 7 = nI 0) ∨ (fwe J N re k S ≠ 99999 ∧ H.1 0 0 7 = nI (fwe J N re k S) ∧ H.1 0 0 8 = nI (gsq J N re k S (fwe J N re k S - 1)) ∧ thr N k H ∧ chn J N re k S (fwe J N re k S - 1) H)
theorem sp_9i {S n t j : Nat} {H : hs_H} (q : Int32 × Int32 × Int32 × hs_H → Option (Int32 × hs_H)) (hN : N ≤ 10) (hJ : ∀ k, J k < 2 ^ N) (hre : re = 0 ∨ re = 1) (hk1 : 1 ≤ k) (hS : S < 2 ^ N) (hD : fwe J N re k S ≠ 99999) (hn : fwe J N re k S = n) (c : chn J N re k S (n - 1) H) (hj : j < n - 2 - t) (ht : t < n - 1) : hb_9_46 q (nI t) (nI (gsq J N re k S (n - 1 - j))) (nI (n - 2 - j)) H = q (nI t, nI (gsq J N re k S (n - 1 - (j + 1))), nI (n - 2 - (j + 1)), H) := by
  have hp := p2_lt hN
  have hb := (fwe_b (k := k) hN hJ hre hS).resolve_left hD
  obtain ⟨a1, a2, a3, a4, a5⟩ := gsq_pos hN hJ hre hk1 hS hD (show n - 1 - j < fwe J N re k S by omega)
  obtain ⟨b1, b2, b3, b4, b5⟩ := gsq_pos hN hJ hre hk1 hS hD (show n - 1 - (j + 1) < fwe J N re k S by omega)
  have e := c.2 (n - 1 - (j + 1)) (by omega)
  rw [show n - 1 - (j + 1) + 1 = n - 1 - j by omega] at e
  generalize gsq J N re k S (n - 1 - j) = A at a1 a2 a3 a4 a5 e
  generalize gsq J N re k S (n - 1 - (j + 1)) = B at b1 b2 b3 b4 b5 e
  generalize lcc J N re k B = L at b4 b5 e
  have eD : nI (n - 2 - j) + dM = nI (n - 2 - (j + 1)) := by rw [dM_1 (by omega) (by omega), Nat.sub_sub]
  unfold hb_9_46
  rw [dM_eq, if_neg (nI_ge (by omega) (by omega)), sp_6 a1 (by omega), Option.bind_some, e]
  dsimp only
  rw [pk_rem (by omega) (by omega) (by omega), eD, show (L * 1024 + B) % 1024 = B by omega]
theorem sp_9b {S n t : Nat} {H : hs_H} (hN : N ≤ 10) (hJ : ∀ k, J k < 2 ^ N) (hre : re = 0 ∨ re = 1) (hk1 : 1 ≤ k) (hS : S < 2 ^ N) (hD : fwe J N re k S ≠ 99999) (hn : fwe J N re k S = n) (c : chn J N re k S (n - 1) H) (ht : t < n - 1) : hs_lp (fun k s => hb_9_46 k s.1 s.2.1 s.2.2.1 s.2.2.2) hs_big (nI t, nI (gsq J N re k S (n - 1)), nI (n - 2), H) = some (nI (lcc J N re k (gsq J N re k S t)), H) := by
  have hp := p2_lt hN
  have hb := (fwe_b (k := k) hN hJ hre hS).resolve_left hD
  refine lp_for (f := fun k s => hb_9_46 k s.1 s.2.1 s.2.2.1 s.2.2.2) (st := fun j => (nI t, nI (gsq J N re k S (n - 1 - j)), nI (n - 2 - j), H)) (e := n - 2 - t) (fun j hj q => sp_9i q hN hJ hre hk1 hS hD hn c hj ht) (fun q => ?_) 0 hs_big (Nat.zero_le _) (lp_big (by omega))
  show hb_9_46 q (nI t) (nI (gsq J N re k S (n - 1 - (n - 2 - t)))) (nI (n - 2 - (n - 2 - t))) H = _
  rw [show n - 1 - (n - 2 - t) = t + 1 by omega, show n - 2 - (n - 2 - t) = t by omega]
  obtain ⟨a1, a2, a3, a4, a5⟩ := gsq_pos hN hJ hre hk1 hS hD (show t + 1 < fwe J N re k S by omega)
  obtain ⟨b1, b2, b3, b4, b5⟩ := gsq_pos hN hJ hre hk1 hS hD (show t < fwe J N re k S by omega)
  have e := c.2 t (by omega)
  generalize gsq J N re k S (t + 1) = A at a1 a2 a3 a4 a5 e
  generalize gsq J N re k S t = B at b1 b2 b3 b4 b5 e
  generalize lcc J N re k B = L at b4 b5 e
  unfold hb_9_46
  rw [if_pos (nI_le (Nat.le_refl _) (by omega)), sp_6 a1 (by omega), Option.bind_some, e]
  dsimp only
  rw [pk_div (by omega) (by omega) (by omega), show (L * 1024 + B) / 1024 = L by omega]
theorem sp_9 {S t : Nat} {H : hs_H} (hN : N ≤ 10) (hJ : ∀ k, J k < 2 ^ N) (hre : re = 0 ∨ re = 1) (hk1 : 1 ≤ k) (hS : S < 2 ^ N) (h0 : S ≠ 0) (ht : t < 1024) (f : casF J N re k S H) : hf_9 (nI t) H = some (if fwe J N re k S = 99999 then nI 4294967292 else nI (cst J N re k S t), H) := by
  have hp := p2_lt hN
  unfold hf_9 hb_9_12
  rw [if_neg (nI_pos (by omega))]
  rcases f with ⟨f1, f2⟩ | ⟨hD, f2, f3, f4, f5⟩
  · rw [f2, if_neg (nI_nlt (by omega) (by omega)), if_pos f1]
  · have hb := (fwe_b (k := k) hN hJ hre hS).resolve_left hD
    have hn0 : fwe J N re k S ≠ 0 := fun q => h0 (fwe_0.mp q)
    rw [f2, f3, if_neg hD]
    unfold cst
    by_cases c1 : t < fwe J N re k S
    · rw [if_pos (nI_lt c1 (by omega)), if_pos c1, pk_sub (show 1 ≤ fwe J N re k S by omega)]
      by_cases c2 : t = fwe J N re k S - 1
      · obtain ⟨b1, b2, b3, b4, b5⟩ := gsq_pos hN hJ hre hk1 hS hD c1
        rw [if_neg (fun q => q (by rw [c2])), ← c2, sp_7 hN hJ hre hk1 b2 (by omega) f4]
        rfl
      · rw [if_pos (fun q => c2 (nI_inj (by omega) (by omega) q)), pk_sub (show 2 ≤ fwe J N re k S by omega)]
        exact sp_9b hN hJ hre hk1 hS hD rfl f5 (by omega)
    · rw [if_neg (nI_nlt (by omega) (by omega)), if_neg c1]
end RB
