/-! The class's steps between two nodes. -/
theorem bl_lt {J : Nat → Nat} {N M : Nat} (hM : M < 2 ^ N) (hJ : ∀ k, J k < 2 ^ N) : ∀ r, bl J N M r < 2 ^ N := by
  intro r
  induction r with
  | zero => exact hM
  | succ r ih => exact or_lt ih (uni_lt hJ N)
theorem sp_43s {o N M j r : Nat} {J : Nat → Nat} {h : hs_H} (k : Int32 × Int32 × Int32 × hs_H → Option (Int32 × hs_H)) (hN : h.1 4 o 1 = nI N) (hN2 : N ≤ 10) (hJ : ∀ k, k < 10 → h.1 27 o k = nI (J k)) (hM : M < 2 ^ N) (hJb : ∀ k, J k < 2 ^ N) (hj : j < 10) (hr : r < N) (hb : (bl J N M r).testBit j = false) : hb_43_7 o k (nI j) (nI (bl J N M r)) (nI r) h = k (nI j, nI (bl J N M (r + 1)), nI (r + 1), h) := by
  have hp := p2_lt hN2
  have hl := bl_lt hM hJb r
  unfold hb_43_7
  rw [hN, if_neg (nI_ge hr (by omega)), sp_147 (by omega) (by omega), Option.bind_some, hb]
  dsimp only
  rw [if_pos (by decide), sp_42 hN hN2 hJ (by omega), Option.bind_some, nx_or, nI_add]
  rfl
theorem sp_43 {o N i j v : Nat} {J : Nat → Nat} {h : hs_H} (hN : h.1 4 o 1 = nI N) (hN2 : N ≤ 10) (hJ : ∀ k, k < 10 → h.1 27 o k = nI (J k)) (hJb : ∀ k, J k < 2 ^ N) (hi : i < N) (hj : j < N) (hv : v < N) (h1 : (bl J N (2 ^ i) v).testBit j = true) (h2 : ∀ u, u < v → (bl J N (2 ^ i) u).testBit j = false) : hf_43 o (nI i) (nI j) h = some (nI v, h) := by
  have hp := p2_lt hN2
  have hM : 2 ^ i < 2 ^ N := Nat.pow_lt_pow_right (by omega) hi
  unfold hf_43
  rw [nx_shl1 (by omega)]
  refine lp_for (st := fun r => (nI j, nI (bl J N (2 ^ i) r), nI r, h)) (e := v) (fun r hr k => ?_) (fun k => ?_) 0 hs_big (by omega) (lp_big (by omega))
  · exact sp_43s k hN hN2 hJ hM hJb (by omega) (by omega) (h2 r hr)
  · show hb_43_7 o k (nI j) (nI (bl J N (2 ^ i) v)) (nI v) h = _
    have hl := bl_lt hM hJb v
    unfold hb_43_7
    rw [hN, if_neg (nI_ge hv (by omega)), sp_147 (by omega) (by omega), Option.bind_some, h1]
    dsimp only
    rw [if_neg (by decide)]
theorem sp_43n {o N i j : Nat} {J : Nat → Nat} {h : hs_H} (hN : h.1 4 o 1 = nI N) (hN2 : N ≤ 10) (hJ : ∀ k, k < 10 → h.1 27 o k = nI (J k)) (hJb : ∀ k, J k < 2 ^ N) (hi : i < N) (hj : j < N) (h2 : ∀ u, u < N → (bl J N (2 ^ i) u).testBit j = false) : hf_43 o (nI i) (nI j) h = some (nI 4294967292, h) := by
  have hM : 2 ^ i < 2 ^ N := Nat.pow_lt_pow_right (by omega) hi
  unfold hf_43
  rw [nx_shl1 (by omega)]
  refine lp_for (st := fun r => (nI j, nI (bl J N (2 ^ i) r), nI r, h)) (e := N) (fun r hr k => ?_) (fun k => ?_) 0 hs_big (by omega) (lp_big (by omega))
  · exact sp_43s k hN hN2 hJ hM hJb (by omega) hr (h2 r hr)
  · show hb_43_7 o k (nI j) (nI (bl J N (2 ^ i) N)) (nI N) h = _
    unfold hb_43_7
    rw [hN, if_pos (nI_le (Nat.le_refl _) (by omega))]
