/-! The model's steps (its labelling of the nodes). -/
theorem sp_178i {N M r i : Nat} {J : Nat → Nat} {h : hs_H} (k37 : Int32 × hs_H → Option hs_H) (k45 : Int32 × Int32 × hs_H → Option hs_H) (hN : h.1 12 0 2 = nI N) (hN2 : N ≤ 10) (hJ : ∀ k, k < 10 → h.1 44 0 (0 + k) = nI (J k)) (hJb : ∀ k, J k < 1024) (hr : r < 10) (hi : i < N) : hs_lp (fun k s => hb_178_56 k37 k45 k s.1 s.2.1 s.2.2.1 s.2.2.2) hs_big (nI r, nI i, nI 0, rw48 h (labq N M J r i 0)) = k45 (nI r, nI (i + 1), rw48 h (labq N M J r (i + 1) 0)) := by
  refine lp_for (st := fun j => (nI r, nI i, nI j, rw48 h (labq N M J r i j))) (e := N) (fun j hj k => ?_) (fun k => ?_) 0 hs_big (by omega) (lp_big (by omega))
  · show hb_178_56 k37 k45 k (nI r) (nI i) (nI j) (rw48 h (labq N M J r i j)) = k (nI r, nI i, nI (j + 1), rw48 h (labq N M J r i (j + 1)))
    have eN : (rw48 h (labq N M J r i j)).1 12 0 2 = nI N := by rw [rw48_ne (by decide), hN]
    have ei := rw48_at (h := h) (f := labq N M J r i j) (show i < 10 by omega)
    have ej := rw48_at (h := h) (f := labq N M J r i j) (show j < 10 by omega)
    have e172 := sp_172 (J := J) (i := i) (j := j) (h := rw48 h (labq N M J r i j)) (fun k hk => by rw [rw48_ne (by decide)]; exact hJ k hk) (by have := hJb i; omega) (by omega) (by omega)
    have hb1 : labq N M J r i j i ≤ 99999 := by
      unfold labq labp
      have q := labp_le (N := N) (M := M) (J := J) r i
      repeat' split
      all_goals omega
    have hb2 : labq N M J r i j j ≤ 99999 := by
      unfold labq labp
      have q := labp_le (N := N) (M := M) (J := J) r j
      repeat' split
      all_goals omega
    have eS := fun y => labq_S (N := N) (M := M) (J := J) (r := r) (i := i) (j := j) (y := y) (by omega) hj
    have same : ¬ (lab N M J r i = r ∧ (J i).testBit j = true ∧ labq N M J r i j j = 99999) → rw48 h (labq N M J r i j) = rw48 h (labq N M J r i (j + 1)) := fun hn => rw48_same (fun y _ => by
      rw [eS y]
      by_cases h1 : y = j
      · rw [if_pos h1, if_neg hn, h1]
      · rw [if_neg h1])
    unfold hb_178_56 hb_178_107
    rw [eN, if_neg (nI_ge hj (by omega)), nx_inb (by omega) (by omega), nx_ck, nI_clamp (by omega), ei]
    by_cases h1 : labq N M J r i j i = r
    · rw [h1, if_neg (fun q => q rfl), e172, Option.bind_some]
      dsimp only
      have h1' := (labq_r (by omega)).mp h1
      cases h2 : (J i).testBit j with
      | false => rw [if_pos (by decide), nI_add, same (fun q => by rw [h2] at q; exact Bool.false_ne_true q.2.1)]
      | true =>
        rw [if_neg (by decide), nx_inb (by omega) (by omega), nx_ck, nI_clamp (by omega), ej]
        by_cases h3 : labq N M J r i j j = 99999
        · rw [h3, if_neg (fun q => q rfl), nx_ck, nI_add, nI_add, rw48_put (by omega)]
          congr 4
          refine rw48_same (fun y _ => ?_)
          rw [eS y]
          by_cases h4 : y = j
          · rw [if_pos h4, if_pos h4, if_pos ⟨h1', h2, h3⟩]
          · rw [if_neg h4, if_neg h4]
        · rw [if_pos (fun q => h3 (nI_inj (by omega) (by omega) q)), nI_add, same (fun q => h3 q.2.2)]
    · rw [if_pos (fun q => h1 (nI_inj (by omega) (by omega) q)), nI_add, same (fun q => h1 ((labq_r (by omega)).mpr q.1))]
  · show hb_178_56 k37 k45 k (nI r) (nI i) (nI N) (rw48 h (labq N M J r i N)) = _
    unfold hb_178_56
    rw [rw48_ne (by decide), hN, if_pos (nI_le (Nat.le_refl _) (by omega)), nI_add, rw48_same (fun y _ => labq_N)]
theorem sp_178m {N M r : Nat} {J : Nat → Nat} {h : hs_H} (k37 : Int32 × hs_H → Option hs_H) (hN : h.1 12 0 2 = nI N) (hN2 : N ≤ 10) (hJ : ∀ k, k < 10 → h.1 44 0 (0 + k) = nI (J k)) (hJb : ∀ k, J k < 1024) (hr : r < 10) : hs_lp (fun k s => hb_178_45 k37 k s.1 s.2.1 s.2.2) hs_big (nI r, nI 0, rw48 h (labq N M J r 0 0)) = k37 (nI (r + 1), rw48 h (lab N M J (r + 1))) := by
  refine lp_for (st := fun i => (nI r, nI i, rw48 h (labq N M J r i 0))) (e := N) (fun i hi k => ?_) (fun k => ?_) 0 hs_big (by omega) (lp_big (by omega))
  · show hb_178_45 k37 k (nI r) (nI i) (rw48 h (labq N M J r i 0)) = _
    unfold hb_178_45
    rw [rw48_ne (by decide), hN, if_neg (nI_ge hi (by omega))]
    exact sp_178i k37 k hN hN2 hJ hJb hr hi
  · show hb_178_45 k37 k (nI r) (nI N) (rw48 h (labq N M J r N 0)) = _
    unfold hb_178_45
    rw [rw48_ne (by decide), hN, if_pos (nI_le (Nat.le_refl _) (by omega)), nI_add, rw48_same (fun y _ => labq_e)]
theorem sp_178 {N M : Nat} {J : Nat → Nat} {h : hs_H} (hN : h.1 12 0 2 = nI N) (hN2 : N ≤ 10) (hJ : ∀ k, k < 10 → h.1 44 0 (0 + k) = nI (J k)) (hJb : ∀ k, J k < 1024) (hM : M < 2147483648) : hf_178 (nI M) h = some (rw48 h (lab N M J 10)) := by
  unfold hf_178
  have o : hs_lp (fun k s => hb_178_37 k s.1 s.2) hs_big (nI 0, rw48 h (lab N M J 0)) = some (rw48 h (lab N M J 10)) := by
    refine lp_for (st := fun r => (nI r, rw48 h (lab N M J r))) (e := 10) (fun r hr k => ?_) (fun k => ?_) 0 hs_big (by omega) (lp_big (by omega))
    · show hb_178_37 k (nI r) (rw48 h (lab N M J r)) = _
      unfold hb_178_37
      rw [if_neg (nI_ge hr (by omega)), ← rw48_same (f := labq N M J r 0 0) (fun y _ => labq_0)]
      exact sp_178m k hN hN2 hJ hJb hr
    · rfl
  have r0 : hs_row h 48 0 10 (fun y => nI (lab N M J 0 y)) = rw48 h (lab N M J 0) := rfl
  have s := lp_for (f := fun k s => hb_178_2 k s.1 s.2.1 s.2.2) (st := fun j => (nI M, nI j, hs_row h 48 0 j (fun y => nI (lab N M J 0 y)))) (e := 10) (X := some (rw48 h (lab N M J 10))) (fun j hj k => by
    show hb_178_2 k (nI M) (nI j) (hs_row h 48 0 j (fun y => nI (lab N M J 0 y))) = _
    unfold hb_178_2 hb_178_28
    rw [if_neg (nI_ge hj (by omega)), nx_bit (by omega) (by omega), nx_inb (by omega) (by omega), nx_ck, nx_ck, nI_clamp (by omega), nI_add]
    have e := hs_rowS h 48 0 j (fun y => nI (lab N M J 0 y))
    rw [← e]
    cases hb : M.testBit j with
    | true =>
      have e0 : lab N M J 0 j = 0 := by unfold lab; rw [if_pos hb]
      rw [if_neg (fun q => q rfl)]
      try dsimp only
      rw [e0]
    | false =>
      have e0 : lab N M J 0 j = 99999 := by unfold lab; rw [hb, if_neg Bool.false_ne_true]
      rw [if_pos (by decide)]
      try dsimp only
      rw [e0]) (fun k => by
    show hb_178_2 k (nI M) (nI 10) (hs_row h 48 0 10 (fun y => nI (lab N M J 0 y))) = _
    unfold hb_178_2
    rw [if_pos (nI_le (Nat.le_refl _) (by omega)), r0]
    exact o) 0 hs_big (by omega) (lp_big (by omega))
  rw [hs_row0] at s
  exact s
