/-! season: draws. -/
section FP
variable {VC : Nat → (Nat → Nat) → Nat → Int32 → Int32 → hs_H → Prop} {VH : Nat → (Nat → Nat) → Nat → hs_H → Prop} {VW : st_VW}
/-- all that is read, the model's own row apart -/
def st_Lall' : List (Nat × Nat) := st_L1 ++ st_L2 ++ st_L3 ++ (st_L4 ++ [(6, 0), (31, 0), (47, 0), (11, 0)])
/-- only such places of the model's own row change as nothing depends on -/
theorem st_all_fp (V : st_V VC VH VW) {K : List (Nat × Option Nat)} {b : Nat} {h h' : hs_H} (f : hs_fr K h h') (o : st_outb K st_Lall' = true) (e12 : ∀ p, p = 2 ∨ p = 3 ∨ p = 4 ∨ p = 5 ∨ p = 14 ∨ p = 19 ∨ p = 41 → h'.1 12 0 p = h.1 12 0 p) (p : st_all VC VH VW b h) : st_all VC VH VW b h' := by
  unfold st_Lall' at o
  rw [st_outb_app, st_outb_app, st_outb_app, Bool.and_eq_true, Bool.and_eq_true, Bool.and_eq_true] at o
  obtain ⟨⟨⟨o1, o2⟩, o3⟩, o5⟩ := o
  have o5' := o5
  rw [st_outb_app, Bool.and_eq_true] at o5'
  obtain ⟨o4, o6⟩ := o5'
  have e6 := st_out_at f o6
  have e60 : h'.1 6 0 = h.1 6 0 := e6 (6, 0) (by simp)
  have e31 : h'.1 31 0 = h.1 31 0 := e6 (31, 0) (by simp)
  have e47 : h'.1 47 0 = h.1 47 0 := e6 (47, 0) (by simp)
  have e11 : h'.1 11 0 = h.1 11 0 := e6 (11, 0) (by simp)
  obtain ⟨N, re, W, Ho, J, st, pl, mv, s, z, t, n, g, c, d, hcd, co, ⟨m1, m2, m3, m4⟩, im, ca, ⟨rs1, ⟨T, t1, t2, t3, t4⟩, rs3⟩⟩ := p
  refine ⟨N, re, W, Ho, J, st, pl, mv, s, z, t, n, g, c, d, hcd, st_core_dep.fr f o1 co, ⟨?_, ?_, ?_, ?_⟩, st_imgs_dep.fr f o2 im, (st_cache_dep V).fr f o3 ca, st_sheets_dep.fr f o4 rs1, ⟨T, t1, ?_, ?_, ?_⟩, ?_, ?_⟩
  · rw [e12 2 (by omega)]; exact m1
  · rw [e12 3 (by omega)]; exact m2
  · rw [e12 4 (by omega)]; exact m3
  · rw [e12 5 (by omega)]; exact m4
  · rw [e60]; exact t2
  · rw [e12 14 (by omega)]; exact t3
  · rw [e31, e47]; exact t4
  · rw [e60, e12 19 (by omega)]; exact rs3.1
  · rw [e11, e12 41 (by omega)]; exact rs3.2
end FP
def nxt (x : Int32) : Int32 := x * nI 1103515245 + nI 12345
def drw (x : Int32) : Nat := x.toBitVec.toNat / 65536 % 32768
theorem drw_lt (x : Int32) : drw x < 32768 := Nat.mod_lt _ (by omega)
theorem drw_u (x : Int32) : ((x.toUInt32 >>> ((nI 16).toUInt32 &&& Int32.toUInt32 31)).toInt32) &&& nI 32767 = nI (drw x) := by
  have h1 := pk_ushr x (nI 16) 16 (by decide)
  rw [pk_and _ 15 (by decide), h1]
  rfl
theorem drw_s (x : Int32) : (x >>> (nI 16 &&& 31)) &&& nI 32767 = nI (drw x) := by
  have h1 := pk_shr x (nI 16 &&& 31) 16 (by decide)
  rw [pk_and _ 15 (by decide)]
  have h2 : x.toInt >>> (16 : Nat) = x.toInt / 65536 := by rw [Int.shiftRight_eq_div_pow]; rfl
  rw [h2] at h1
  have b1 := bv_lt x
  have b2 := bv_lt (x >>> (nI 16 &&& 31))
  have e1 : (x >>> (nI 16 &&& 31)).toInt = if 2 * (x >>> (nI 16 &&& 31)).toBitVec.toNat < 2 ^ 32 then ((x >>> (nI 16 &&& 31)).toBitVec.toNat : Int) else ((x >>> (nI 16 &&& 31)).toBitVec.toNat : Int) - (2 ^ 32 : Nat) := BitVec.toInt_eq_toNat_cond _
  have e2 : x.toInt = if 2 * x.toBitVec.toNat < 2 ^ 32 then (x.toBitVec.toNat : Int) else (x.toBitVec.toNat : Int) - (2 ^ 32 : Nat) := BitVec.toInt_eq_toNat_cond _
  have e3 : (x >>> (nI 16 &&& 31)).toBitVec.toNat % 2 ^ 15 = drw x := by
    unfold drw
    generalize (x >>> (nI 16 &&& 31)).toBitVec.toNat = B at *
    generalize x.toBitVec.toNat = A at *
    split at e1 <;> split at e2 <;> omega
  rw [e3]
theorem nz_nI {k : Nat} (h0 : 0 < k) (hk : k < 2147483648) : hs_nz (nI k) = true := decide_eq_true (nI_ne0 h0 hk)
theorem sp_77 {k : Nat} {h : hs_H} (h0 : 0 < k) (hk : k < 2147483648) : hf_77 (nI k) h = some (nI (drw (nxt (h.1 7 0 2)) % k), hs_put h 7 0 2 (nxt (h.1 7 0 2))) := by
  unfold hf_77 hb_77_36
  rw [show (h.1 7 0 2) * nI 1103515245 + nI 12345 = nxt (h.1 7 0 2) from rfl, if_neg (nI_nle h0 hk), nz_nI h0 hk, nx_ck, nx_get, if_pos ⟨rfl, rfl, rfl⟩, drw_u, pk_rem (by have := drw_lt (nxt (h.1 7 0 2)); omega) h0 (by omega)]
theorem sp_226 {k : Nat} {h : hs_H} (h0 : 0 < k) (hk : k < 2147483648) : hf_226 (nI k) h = some (nI (drw (nxt (h.1 12 0 36)) % k), hs_put h 12 0 36 (nxt (h.1 12 0 36))) := by
  unfold hf_226
  rw [show (h.1 12 0 36) * nI 1103515245 + nI 12345 = nxt (h.1 12 0 36) from rfl, nz_nI h0 hk, nx_ck, nx_get, if_pos ⟨rfl, rfl, rfl⟩, drw_s, pk_rem (by have := drw_lt (nxt (h.1 12 0 36)); omega) h0 (by omega)]
theorem sp_148 {a j : Nat} {h : hs_H} (ha : a < 2147483648) (hj : j < 10) (h1 : a.testBit j = true) (h2 : ∀ i, i < j → a.testBit i = false) : hf_148 (nI a) h = some (nI j, h) := by
  unfold hf_148
  refine lp_for (st := fun i => (nI a, nI i, h)) (e := j) (fun i hi k => ?_) (fun k => ?_) 0 hs_big (by omega) (lp_big (by omega))
  · show hb_148_2 k (nI a) (nI i) h = _
    unfold hb_148_2
    rw [if_neg (nI_ge (by omega) (by omega)), nx_bit ha (by omega), h2 i hi, if_pos (by decide), nI_add]
  · show hb_148_2 k (nI a) (nI j) h = _
    unfold hb_148_2
    rw [if_neg (nI_ge (by omega) (by omega)), nx_bit ha (by omega), h1, if_neg (by decide)]
theorem sp_148z {a : Nat} {h : hs_H} (ha : a < 2147483648) (h2 : ∀ i, i < 10 → a.testBit i = false) : hf_148 (nI a) h = some (nI 4294967292, h) := by
  unfold hf_148
  refine lp_for (st := fun i => (nI a, nI i, h)) (e := 10) (fun i hi k => ?_) (fun k => ?_) 0 hs_big (by omega) (lp_big (by omega))
  · show hb_148_2 k (nI a) (nI i) h = _
    unfold hb_148_2
    rw [if_neg (nI_ge (by omega) (by omega)), nx_bit ha (by omega), h2 i hi, if_pos (by decide), nI_add]
  · show hb_148_2 k (nI a) (nI 10) h = _
    unfold hb_148_2
    rw [if_pos (by decide)]
/-- without its k lowest bits -/
def clr (m : Nat) : Nat → Nat
  | 0 => m
  | k + 1 => clr m k &&& (clr m k - 1)
/-- the node that k bits of m lie below, of the first n -/
def pkn (m k : Nat) : Nat → Nat
  | 0 => 4294967292
  | n + 1 => if m.testBit n = true ∧ pcn n m = k then n else pkn m k n
def clrB (m k : Nat) : Bool := !decide (k < pcn 10 m) || ((((clr m k).testBit (pkn m k 10) && decide (pkn m k 10 < 10)) && m.testBit (pkn m k 10)) && ((List.range 10).all (fun i => !decide (i < pkn m k 10) || !(clr m k).testBit i) && (List.range k).all (fun i => decide (0 < clr m i))))
theorem clrB_all : (List.range 1024).all (fun m => (List.range 10).all (fun k => clrB m k)) = true := by decide +kernel
theorem clr_pk (m : Nat) (hm : m < 1024) (k : Nat) (hk : k < 10) (h : k < pcn 10 m) : ((clr m k).testBit (pkn m k 10) = true ∧ pkn m k 10 < 10 ∧ m.testBit (pkn m k 10) = true) ∧ (∀ i, i < 10 → i < pkn m k 10 → (clr m k).testBit i = false) ∧ ∀ i, i < k → 0 < clr m i := by
  have h1 := List.all_eq_true.mp (List.all_eq_true.mp clrB_all m (List.mem_range.mpr hm)) k (List.mem_range.mpr hk)
  unfold clrB at h1
  rw [decide_eq_true h, Bool.not_true, Bool.false_or, Bool.and_eq_true, Bool.and_eq_true, Bool.and_eq_true, Bool.and_eq_true, decide_eq_true_eq] at h1
  obtain ⟨⟨⟨h2, h3⟩, h4⟩, h5, h6⟩ := h1
  refine ⟨⟨h2, h3, h4⟩, fun i hi hip => ?_, fun i hi => of_decide_eq_true (List.all_eq_true.mp h6 i (List.mem_range.mpr hi))⟩
  have h7 := List.all_eq_true.mp h5 i (List.mem_range.mpr hi)
  rw [decide_eq_true hip, Bool.not_true, Bool.false_or, Bool.not_eq_true'] at h7
  exact h7
theorem clr_le (m : Nat) : ∀ k, clr m k ≤ m := by
  intro k
  induction k with
  | zero => exact Nat.le_refl _
  | succ k ih => exact Nat.le_trans Nat.and_le_left ih
theorem pcn_pos {m n : Nat} (hm : m < 2 ^ n) (h0 : m ≠ 0) : 0 < pcn n m := by
  obtain ⟨j, hj⟩ := tb_ne0 h0
  have := pcn_lt (a := 0) (b := m) (fun i q => by rw [Nat.zero_testBit] at q; cases q) (Nat.zero_testBit j) hj n (tb_in hm hj)
  omega
theorem pkn_hi {m k N : Nat} (hm : m < 2 ^ N) : ∀ d, pkn m k (N + d) = pkn m k N := by
  intro d
  induction d with
  | zero => rfl
  | succ d ih =>
    show (if m.testBit (N + d) = true ∧ pcn (N + d) m = k then N + d else pkn m k (N + d)) = _
    rw [if_neg (fun q => by rw [tb_hi hm (by omega)] at q; exact absurd q.1 (by decide)), ih]
theorem pkn_lt {m k N : Nat} (hN : N ≤ 10) (hm : m < 2 ^ N) (hk : k < pcn 10 m) : pkn m k 10 < N ∧ m.testBit (pkn m k 10) = true := by
  have hp := p2_lt hN
  have hk2 := pcn_le m 10
  have h1 := (clr_pk m (by omega) k (by omega) hk).1
  exact ⟨tb_in hm h1.2.2, h1.2.2⟩
def dM : Int32 := nI 4294967295
def dwn (x M : Int32) : Nat → Int32
  | 0 => x
  | p + 1 => dwn x M p + M
theorem dwn_all : (List.range 10).all (fun k => (List.range 11).all (fun p => decide (decide (dwn (nI k) dM p = 0) = decide (p = k)))) = true := by decide +kernel
theorem skp {k p : Nat} (hk : k < 10) (hp : p ≤ 10) : (dwn (nI k) dM p = 0) ↔ p = k := by
  have h := of_decide_eq_true (List.all_eq_true.mp (List.all_eq_true.mp dwn_all k (List.mem_range.mpr hk)) p (List.mem_range.mpr (by omega)))
  exact decide_eq_decide.mp h
theorem dM_eq : nI 4294967295 = dM := rfl
theorem dM_1 {n : Nat} (h : 1 ≤ n) (h2 : n < 2147483648) : nI n + dM = nI (n - 1) := by
  rw [← dM_eq]
  exact nI_m1 h h2
theorem sp_76i {m k i : Nat} {H : hs_H} (q : Int32 × Int32 × hs_H → Option (Int32 × hs_H)) (h0 : 0 < clr m i) (hi : i < k) (hk : k < 10) : hb_76_11 q (nI (clr m i)) (nI (k - i)) H = q (nI (clr m (i + 1)), nI (k - (i + 1)), H) := by
  have e : nI (k - i) + dM = nI (k - (i + 1)) := by rw [dM_1 (by omega) (by omega), Nat.sub_sub]
  have e2 : nI (clr m i) &&& (nI (clr m i) - nI 1) = nI (clr m (i + 1)) := by rw [pk_sub h0, nx_and]; rfl
  unfold hb_76_11
  rw [if_neg (nI_nle (by omega) (by omega)), dM_eq, e, e2]
theorem sp_76b {m k : Nat} {H : hs_H} (hm : m < 1024) (hk : k < pcn 10 m) : hs_lp (fun k s => hb_76_11 k s.1 s.2.1 s.2.2) hs_big (nI m, nI k, H) = some (nI (pkn m k 10), H) := by
  have hp2 := pcn_le m 10
  obtain ⟨⟨c1, c2, c3⟩, c4, c5⟩ := clr_pk m hm k (by omega) hk
  have hx : ∀ q : Int32 × Int32 × hs_H → Option (Int32 × hs_H), hb_76_11 q (nI (clr m k)) (nI (k - k)) H = some (nI (pkn m k 10), H) := fun q => by
    have := clr_le m k
    have e := sp_148 (a := clr m k) (h := H) (by omega) c2 c1 (fun i hi => c4 i (by omega) hi)
    have e0 : nI (k - k) = 0 := by rw [Nat.sub_self]; rfl
    unfold hb_76_11
    rw [e0, if_pos (Int32.le_refl _), e, Option.bind_some]
  exact lp_for (f := fun k s => hb_76_11 k s.1 s.2.1 s.2.2) (st := fun i => (nI (clr m i), nI (k - i), H)) (e := k) (X := some (nI (pkn m k 10), H)) (fun i hi q => sp_76i q (c5 i hi) hi (by omega)) hx 0 hs_big (by omega) (lp_big (by omega))
theorem sp_76 {m : Nat} {h : hs_H} (hm : m < 1024) (h0 : m ≠ 0) : hf_76 (nI m) h = some (nI (pkn m (drw (nxt (h.1 7 0 2)) % pcn 10 m) 10), hs_put h 7 0 2 (nxt (h.1 7 0 2))) := by
  have hp : 0 < pcn 10 m := pcn_pos (n := 10) (by omega) h0
  have hp2 := pcn_le m 10
  have e := sp_76b (m := m) (k := drw (nxt (h.1 7 0 2)) % pcn 10 m) (H := hs_put h 7 0 2 (nxt (h.1 7 0 2))) hm (Nat.mod_lt _ hp)
  unfold hf_76
  rw [sp_240 hm, Option.bind_some, sp_77 hp (by omega), Option.bind_some]
  exact e
theorem sp_227 {N m : Nat} {h : hs_H} (hN : h.1 12 0 2 = nI N) (hN2 : N ≤ 10) (hm : m < 2 ^ N) (h0 : m ≠ 0) : hf_227 (nI m) h = some (nI (pkn m (drw (nxt (h.1 12 0 36)) % pcn 10 m) 10), hs_put h 12 0 36 (nxt (h.1 12 0 36))) := by
  have hp1 := p2_lt hN2
  have hp : 0 < pcn 10 m := pcn_pos (n := 10) (by omega) h0
  have hp2 := pcn_le m 10
  unfold hf_227
  rw [sp_152 (by omega), Option.bind_some]
  dsimp only
  rw [sp_226 hp (by omega), Option.bind_some]
  have hk := Nat.mod_lt (drw (nxt (h.1 12 0 36))) hp
  have hN' : (hs_put h 12 0 36 (nxt (h.1 12 0 36))).1 12 0 2 = nI N := by rw [nx_get, if_neg (by omega)]; exact hN
  generalize hs_put h 12 0 36 (nxt (h.1 12 0 36)) = H at hN'
  generalize drw (nxt (h.1 12 0 36)) % pcn 10 m = k at hk
  have e10 : pkn m k 10 = pkn m k N := by
    have := pkn_hi (k := k) hm (10 - N)
    rwa [show N + (10 - N) = 10 by omega] at this
  rw [e10]
  refine lp_for (st := fun i => (nI m, dwn (nI k) dM (pcn i m), nI (pkn m k i), nI i, H)) (e := N) (fun i hi q => ?_) (fun q => ?_) 0 hs_big (by omega) (lp_big (by omega))
  · show hb_227_15 q (nI m) (dwn (nI k) dM (pcn i m)) (nI (pkn m k i)) (nI i) H = q (nI m, dwn (nI k) dM (pcn i m + (m.testBit i).toNat), nI (if m.testBit i = true ∧ pcn i m = k then i else pkn m k i), nI (i + 1), H)
    have hpi := pcn_le m i
    unfold hb_227_15 hb_227_44 hb_227_48
    rw [hN', if_neg (nI_ge hi (by omega)), nx_bit (by omega) (by omega), dM_eq, nI_add]
    cases hb : m.testBit i with
    | false =>
      rw [if_pos (by decide), if_neg (fun q => absurd q.1 (by decide))]
      rfl
    | true =>
      rw [if_neg (by decide), show dwn (nI k) dM (pcn i m + true.toNat) = dwn (nI k) dM (pcn i m) + dM from rfl]
      by_cases h3 : pcn i m = k
      · rw [if_neg (fun q => q ((skp (by omega) (by omega)).mpr h3)), if_pos ⟨rfl, h3⟩]
      · rw [if_pos (fun q => h3 ((skp (by omega) (by omega)).mp q)), if_neg (fun q => h3 q.2)]
  · show hb_227_15 q (nI m) (dwn (nI k) dM (pcn N m)) (nI (pkn m k N)) (nI N) H = _
    unfold hb_227_15
    rw [hN', if_pos (nI_le (Nat.le_refl _) (by omega))]
