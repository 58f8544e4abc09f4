/-! Doubt: the model's search as a whole; the class's fold. -/
theorem lps_fin {α β : Type} {F : (α → Option β) → α → Option β} {d M : Nat} {s s' : α} {X : Option β} (h : lps F d s s') (hM : d < M) (hx : ∀ k, F k s' = X) : hs_lp F M s = X := by
  have e : M = (M - d - 1 + 1) + d := by omega
  rw [e, h (M - d - 1 + 1)]
  exact hx _
theorem smN_zero {v : Nat → Nat} : ∀ n, (∀ k, k < n → v k = 0) → smN v n = 0 := by
  intro n
  induction n with
  | zero => intro _; rfl
  | succ n ih =>
    intro h
    show smN v n + v n = 0
    rw [ih (fun k hk => h k (by omega)), h n (by omega)]
section DU
variable {J : Nat → Nat} {N re W n P a0 : Nat}
theorem df_0 {h : hs_H} : dfS N W n P a0 [] [] h (stH (hs_put (hs_row h 54 0 2048 (fun _ => nI 0)) 12 0 31 (nI 0)) 0 a0 N (sm0 W a0)) := by
  have e54 : ∀ s, s < 2048 → (stH (hs_put (hs_row h 54 0 2048 (fun _ => nI 0)) 12 0 31 (nI 0)) 0 a0 N (sm0 W a0)).1 54 0 s = nI 0 := fun s hs => by
    unfold stH
    rw [nx_rowbget, if_neg (by omega), nx_get, if_neg (by omega), nx_get, if_neg (by omega), nx_rowget, if_pos ⟨rfl, rfl, hs⟩]
  refine ⟨⟨(((hs_row_fr (.inl (.tail _ (.tail _ (.tail _ (.tail _ (.head _))))))).put (.inl (.head _))).put (.inl (.tail _ (.head _)))).tr (hs_rowb_fr (.inl (.tail _ (.tail _ (.head _))))), fun x hx => ?_⟩, fun u hu => ?_, ⟨fun _ => 0, fun w hw => absurd hw (Nat.not_lt_zero _), fun s hs => ⟨0, by omega, e54 s hs, fun b => ⟨fun q => ?_, fun ⟨w, hw, _⟩ => absurd hw (Nat.not_lt_zero _)⟩⟩, fun w w' hw => absurd hw (Nat.not_lt_zero _), fun w hw => absurd hw (Nat.not_lt_zero _), ?_⟩, fun w hw => absurd hw (Nat.not_lt_zero _), ?_⟩
  · unfold stH
    rw [nx_rowbget, if_neg (by omega), nx_get, if_neg (by omega), nx_get, if_neg (fun q => hx q.2.2), nx_rowget, if_neg (by omega)]
  · have hu0 : u = 0 := Nat.le_zero.mp hu
    subst hu0
    unfold stH
    refine ⟨?_, fun k hk => ?_⟩
    · rw [nx_rowbget, if_neg (by omega), nx_get, if_pos ⟨rfl, rfl, rfl⟩]
      rfl
    · rw [nx_rowbget, if_pos (by omega), show 10 * 0 + k - 10 * 0 = k by omega]
      rfl
  · rw [Nat.zero_testBit] at q; cases q
  · exact Nat.le_of_eq (smN_zero 2048 (fun s hs => if_pos (e54 s hs)))
  · unfold stH
    rw [nx_rowbget, if_neg (by omega), nx_get, if_neg (by omega), nx_get, if_pos ⟨rfl, rfl, rfl⟩]
    rfl
theorem cD_b {r : Nat} (hr : r ≤ 2) : 10 * cD r + 1 < 1000000 := by
  match r, hr with
  | 0, _ => decide
  | 1, _ => decide
  | 2, _ => decide
theorem sp_203 {h : hs_H} (c : df_n N re W J h) (hN : N ≤ 10) (hre : re = 0 ∨ re = 1) (hJ : ∀ k, J k < 2 ^ N) (hJa : ∀ a, (J a).testBit a = false) (hW : W < 2 ^ N) (hP : P < 2147483648) (hn : n ≤ 3) (ha : a0 < N) : ∃ G, hf_203 (nI a0) (nI n) (nI P) h = some (nI (bmx (dvw J N re W n P a0) (wyl J N re n a0).length), G) ∧ dfS N W n P a0 [] (wyl J N re n a0) h G := by
  have hp := p2_lt hN
  have p0 := df_0 (N := N) (W := W) (n := n) (P := P) (a0 := a0) (h := h)
  have e189 := sp_189z (N := N) (W := W) (to := a0) (h := hs_put (hs_row h 54 0 2048 (fun _ => nI 0)) 12 0 31 (nI 0)) (by rw [nx_get, if_neg (by omega), nx_rowget, if_neg (by omega)]; exact c.1) (by rw [nx_get, if_neg (by omega), nx_rowget, if_neg (by omega)]; exact c.2.2.1) hN (by omega) ha
  have e189' : hf_189 (nI 0) (nI a0) (hs_put (hs_row h 54 0 2048 (fun _ => nI 0)) 12 0 31 (nI 0)) = some (stH (hs_put (hs_row h 54 0 2048 (fun _ => nI 0)) 12 0 31 (nI 0)) 0 a0 N (sm0 W a0)) := e189
  have hlen : (wyl J N re n a0).length ≤ 1000 := by
    have h1 := wyl_len (J := J) (re := re) hN n a0
    have h2 : 10 ^ n ≤ 10 ^ 3 := Nat.pow_le_pow_right (by omega) hn
    omega
  have main : ∃ G, (if ¬ nI n = 0 then hb_203_45 (nI n) (nI P) (nI 1) (stH (hs_put (hs_row h 54 0 2048 (fun _ => nI 0)) 12 0 31 (nI 0)) 0 a0 N (sm0 W a0)) else hb_203_45 (nI n) (nI P) (nI 4294967295) (stH (hs_put (hs_row h 54 0 2048 (fun _ => nI 0)) 12 0 31 (nI 0)) 0 a0 N (sm0 W a0))) = some (nI (bmx (dvw J N re W n P a0) (wyl J N re n a0).length), G) ∧ dfS N W n P a0 [] (wyl J N re n a0) h G := by
    generalize stH (hs_put (hs_row h 54 0 2048 (fun _ => nI 0)) 12 0 31 (nI 0)) 0 a0 N (sm0 W a0) = G0 at p0
    by_cases hn0 : n = 0
    · subst hn0
      obtain ⟨G1, g1, g2⟩ := df_take (l := []) hN hP hn rfl (show a0 < 10 by omega) (by show 0 < 1000; omega) c.1 p0
      have g2' : dfS N W 0 P a0 [] (wyl J N re 0 a0) h G1 := g2
      have e1 := sp_203e hN hJ hre hP hn ha g2'
      refine ⟨G1, ?_, g2'⟩
      rw [if_neg (by decide)]
      unfold hb_203_45
      rw [if_neg (by decide), g1, Option.bind_some]
      refine lps_fin (F := fun k s => hb_203_60 k s.1 s.2.1 s.2.2.1 s.2.2.2.1 s.2.2.2.2) lps_rf (lp_big (by omega)) (fun k => ?_)
      show hb_203_60 k (nI 0) (nI P) (nI 4294967295) (nI 0) G1 = _
      unfold hb_203_60
      rw [if_pos (by decide)]
      exact e1
    · obtain ⟨d, G1, d1, d2, d3⟩ := df_run c hN hre hJ hJa hW hP hn (n - 1) [] [] G0 (by show 0 + (n - 1) + 1 = n; omega) ha p0 (by
        show 0 + (wyl J N re (n - 1 + 1) a0).length ≤ 1000
        rw [show n - 1 + 1 = n by omega]
        omega)
      have e2 : [] ++ (wyl J N re (n - 1 + 1) (lastN a0 [])).map (fun l => [] ++ l) = wyl J N re n a0 := by
        rw [show n - 1 + 1 = n by omega]
        show (wyl J N re n a0).map (fun l => l) = _
        rw [List.map_id']
      rw [e2] at d3
      have e1 := sp_203e hN hJ hre hP hn ha d3
      have cb := cD_b (show n - 1 ≤ 2 by omega)
      refine ⟨G1, ?_, d3⟩
      rw [if_pos (nI_ne0 (by omega) (by omega))]
      unfold hb_203_45
      rw [if_pos (nI_ne0 (by omega) (by omega))]
      refine lps_fin (F := fun k s => hb_203_60 k s.1 s.2.1 s.2.2.1 s.2.2.2.1 s.2.2.2.2) d2 (lp_big (by omega)) (fun k => ?_)
      show hb_203_60 k (nI n) (nI P) (nI 0) (nI (a0 + 1)) G1 = _
      unfold hb_203_60
      rw [if_pos (by decide)]
      exact e1
  obtain ⟨G, m1, m2⟩ := main
  refine ⟨G, ?_, m2⟩
  unfold hf_203
  have s0 := lp_for (f := fun k s => hb_203_3 k s.1 s.2.1 s.2.2.1 s.2.2.2.1 s.2.2.2.2) (st := fun j => (nI a0, nI n, nI P, nI j, hs_row h 54 0 j (fun _ => nI 0))) (e := 2048) (X := some (nI (bmx (dvw J N re W n P a0) (wyl J N re n a0).length), G)) (fun j hj q => by
    show hb_203_3 q (nI a0) (nI n) (nI P) (nI j) (hs_row h 54 0 j (fun _ => nI 0)) = q (nI a0, nI n, nI P, nI (j + 1), hs_row h 54 0 (j + 1) (fun _ => nI 0))
    have eS := hs_rowS h 54 0 j (fun _ => nI 0)
    rw [← eS]
    generalize hs_row h 54 0 j (fun _ => nI 0) = B
    unfold hb_203_3
    rw [if_neg (nI_ge hj (by omega)), nx_inb (by omega) (by omega), nx_ck, nI_clamp (show j < 2147483648 by omega), nI_add]) (fun q => by
    show hb_203_3 q (nI a0) (nI n) (nI P) (nI 2048) (hs_row h 54 0 2048 (fun _ => nI 0)) = _
    unfold hb_203_3
    rw [if_pos (Int32.le_refl _), e189', Option.bind_some]
    exact m1) 0 hs_big (Nat.zero_le _) (lp_big (by omega))
  rw [hs_row0] at s0
  exact s0
theorem bmx_congr {D D' : Nat → Nat} : ∀ m, m < 4294967292 → (∀ i, i < m → D i = D' i) → bmx D m = bmx D' m := by
  intro m
  induction m with
  | zero => intro _ _; rfl
  | succ m ih =>
    intro hm h
    have e := ih (by omega) (fun i hi => h i (by omega))
    show (if bmx D m = 4294967292 ∨ D (bmx D m) < D m then m else bmx D m) = if bmx D' m = 4294967292 ∨ D' (bmx D' m) < D' m then m else bmx D' m
    rw [e, h m (by omega)]
    rcases bmx_lt (D := D') m (by omega) with ⟨-, q⟩ | q
    · rw [if_pos (Or.inl q), if_pos (Or.inl q)]
    · rw [h _ (by omega)]
theorem fold_bmx {tl o w t : Nat} : ∀ (m : Nat) (L : List (List Nat)), L.length = m → m < 4294967292 → (∀ l, l ∈ L → 1 ≤ pcn 10 (oth J N re tl o l)) → L.foldl (updW J N re tl o w t) (0, 0) = if m = 0 then (0, 0) else (pcn 10 (oth J N re tl o (nthL L (bmx (fun i => pcn 10 (oth J N re tl o (nthL L i))) m))), w ||| encW t (nthL L (bmx (fun i => pcn 10 (oth J N re tl o (nthL L i))) m))) := by
  intro m
  induction m with
  | zero =>
    intro L hL _ _
    rw [List.eq_nil_of_length_eq_zero hL]
    rfl
  | succ m ih =>
    intro L hL hm h1
    rcases List.eq_nil_or_concat L with rfl | ⟨L', l, rfl⟩
    · cases hL
    · rw [List.concat_eq_append] at hL h1 ⊢
      have hL' : L'.length = m := by
        rw [List.length_append] at hL
        have : [l].length = 1 := rfl
        omega
      have nth : ∀ i, i < m → nthL (L' ++ [l]) i = nthL L' i := fun i hi => by rw [nthL_app, if_neg (by omega)]
      have nthm : nthL (L' ++ [l]) m = l := by rw [nthL_app, if_pos hL'.symm]
      have bc := bmx_congr (D := fun i => pcn 10 (oth J N re tl o (nthL (L' ++ [l]) i))) (D' := fun i => pcn 10 (oth J N re tl o (nthL L' i))) m (by omega) (fun i hi => by rw [nth i hi])
      have hl1 := h1 l (List.mem_append_right _ List.mem_cons_self)
      rw [List.foldl_append, ih L' hL' (by omega) (fun x hx => h1 x (List.mem_append_left _ hx)), if_neg (show ¬ m + 1 = 0 by omega)]
      have eb : bmx (fun i => pcn 10 (oth J N re tl o (nthL (L' ++ [l]) i))) (m + 1) = if bmx (fun i => pcn 10 (oth J N re tl o (nthL L' i))) m = 4294967292 ∨ pcn 10 (oth J N re tl o (nthL (L' ++ [l]) (bmx (fun i => pcn 10 (oth J N re tl o (nthL L' i))) m))) < pcn 10 (oth J N re tl o l) then m else bmx (fun i => pcn 10 (oth J N re tl o (nthL L' i))) m := by
        show (if bmx (fun i => pcn 10 (oth J N re tl o (nthL (L' ++ [l]) i))) m = 4294967292 ∨ pcn 10 (oth J N re tl o (nthL (L' ++ [l]) (bmx (fun i => pcn 10 (oth J N re tl o (nthL (L' ++ [l]) i))) m))) < pcn 10 (oth J N re tl o (nthL (L' ++ [l]) m)) then m else bmx (fun i => pcn 10 (oth J N re tl o (nthL (L' ++ [l]) i))) m) = _
        rw [bc, nthm]
      rw [eb]
      show updW J N re tl o w t _ l = _
      have hb := bmx_lt (D := fun i => pcn 10 (oth J N re tl o (nthL L' i))) m (by omega)
      generalize bmx (fun i => pcn 10 (oth J N re tl o (nthL L' i))) m = b at hb
      by_cases m0 : m = 0
      · rw [if_pos m0]
        have hbN : b = 4294967292 := by
          rcases hb with ⟨-, q⟩ | q
          · exact q
          · omega
        rw [if_pos (Or.inl hbN), nthm]
        unfold updW
        rw [if_pos (show (0, 0).1 < pcn 10 (oth J N re tl o l) from hl1)]
      · have hbm : b < m := hb.resolve_left (fun q => m0 q.1)
        rw [if_neg m0, nth b hbm]
        unfold updW
        dsimp only
        by_cases c : pcn 10 (oth J N re tl o (nthL L' b)) < pcn 10 (oth J N re tl o l)
        · rw [if_pos c, if_pos (Or.inr c), nthm]
        · rw [if_neg c, if_neg (fun q => q.elim (fun w => by omega) c), nth b hbm]
end DU
