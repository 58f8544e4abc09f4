/-! Ways that fit: the class counts walks, all of them. -/
section WK
variable {J : Nat → Nat} {N re : Nat}
def wkQ (J : Nat → Nat) (N re r : Nat) (h H : hs_H) : Prop := hs_fr [(37, none), (38, some 0)] h H ∧ ∀ q, q < r → H.1 38 0 q = nI (onw J N re q) ∧ ∀ j, j < N → H.1 37 q j = nI (wk J re q j)
theorem sp_98r {r : Nat} {h H : hs_H} (k38 : Int32 × hs_H → Option hs_H) (hN : N ≤ 10) (hre : re = 0 ∨ re = 1) (hJ : ∀ k, J k < 2 ^ N) (c : ch_n N re J h) (hr : r < 5) (p : wkQ J N re (r + 1) h H) : ∃ H', wkQ J N re (r + 2) h H' ∧ hs_lp (fun k s => hb_98_60 k38 k s.1 s.2.1 s.2.2) hs_big (nI (r + 1), nI 0, hs_put H 38 0 (r + 1) (nI 0)) = k38 (nI (r + 2), H') := by
  refine lp_q2 (f := fun k s => hb_98_60 k38 k s.1 s.2.1 s.2.2) (I := fun d q => ∃ i G, i ≤ N ∧ d = N - i ∧ wkS J N re (r + 1) i h G ∧ q = (nI (r + 1), nI i, G)) (Q := fun o => ∃ H', wkQ J N re (r + 2) h H' ∧ o = k38 (nI (r + 2), H')) (fun d q hI k => ?_) N (nI (r + 1), nI 0, hs_put H 38 0 (r + 1) (nI 0)) hs_big ⟨0, _, Nat.zero_le _, rfl, ⟨p.1.put (.inl (.tail _ (.head _))), fun q hq => ⟨?_, fun j hj => ?_⟩, ?_, fun j hj => absurd hj (Nat.not_lt_zero _)⟩, rfl⟩ (lp_big (by omega))
  · obtain ⟨i, G, hi, rfl, w, rfl⟩ := hI
    by_cases hiN : i < N
    · obtain ⟨G', g1, g2⟩ := sp_98i k38 hN hre hJ c hr hiN w
      exact Or.inr ⟨N - (i + 1), _, by omega, ⟨i + 1, G', by omega, rfl, g1, rfl⟩, g2 k⟩
    · have e : i = N := by omega
      rw [e] at w
      refine Or.inl ⟨G, ⟨w.1, fun q hq => ?_⟩, ?_⟩
      · by_cases hq2 : q < r + 1
        · exact w.2.1 q hq2
        · have e2 : q = r + 1 := by omega
          rw [e2]
          exact ⟨w.2.2.1, w.2.2.2⟩
      · show hb_98_60 k38 k (nI (r + 1)) (nI i) G = _
        unfold hb_98_60 hb_98_133
        rw [(ch_n_fr w.1 rfl c).1, if_pos (nI_le (by omega) (by omega)), nI_add]
  · rw [nx_get, if_neg (by omega)]; exact (p.2 q hq).1
  · rw [nx_get, if_neg (by omega)]; exact (p.2 q hq).2 j hj
  · rw [nx_get, if_pos ⟨rfl, rfl, rfl⟩]; rfl
theorem sp_98 {n : Nat} {h : hs_H} (hN : N ≤ 10) (hre : re = 0 ∨ re = 1) (hJ : ∀ k, J k < 2 ^ N) (c : ch_n N re J h) (hn : n ≤ 5) (h9 : h.1 10 0 9 = nI n) : ∃ H, hf_98 h = some H ∧ wkQ J N re (n + 1) h H := by
  have outer : ∀ G, wkQ J N re 1 h G → ∃ H, hs_lp (fun k s => hb_98_38 k s.1 s.2) hs_big (nI 1, G) = some H ∧ wkQ J N re (n + 1) h H := by
    intro G pG
    refine lp_q2 (f := fun k s => hb_98_38 k s.1 s.2) (I := fun d q => ∃ r G, r ≤ n ∧ d = n - r ∧ wkQ J N re (r + 1) h G ∧ q = (nI (r + 1), G)) (Q := fun o => ∃ H, o = some H ∧ wkQ J N re (n + 1) h H) (fun d q hI k => ?_) n (nI 1, G) hs_big ⟨0, G, Nat.zero_le _, rfl, pG, rfl⟩ (lp_big (by omega))
    obtain ⟨r, G, hr, rfl, w, rfl⟩ := hI
    have e9 : G.1 10 0 9 = nI n := by rw [(w.1 10 0 (by intro q hq; revert q; simp)).1]; exact h9
    by_cases hrn : r < n
    · obtain ⟨G', g1, g2⟩ := sp_98r k hN hre hJ c (by omega) w
      refine Or.inr ⟨n - (r + 1), _, by omega, ⟨r + 1, G', by omega, rfl, g1, rfl⟩, ?_⟩
      show hb_98_38 k (nI (r + 1)) G = _
      unfold hb_98_38
      rw [e9, if_neg (nI_nlt (by omega) (by omega)), if_neg (nI_nlt (by omega) (by omega)), nx_inb (show r + 1 < 6 by omega) (by omega), nx_ck, nI_clamp (show r + 1 < 2147483648 by omega)]
      exact g2
    · have e : r = n := by omega
      rw [e] at w
      refine Or.inl ⟨G, ?_, w⟩
      show hb_98_38 k (nI (r + 1)) G = _
      unfold hb_98_38 hb_98_139
      rw [e9, if_pos (nI_lt (by omega) (by omega))]
  have e31 := sp_31 (o := 0) (N := N) (h := h) c.1 (by omega)
  unfold hf_98
  rw [e31, Option.bind_some]
  dsimp only
  rw [nx_inb (show 0 < 6 by omega) (by omega), nx_ck, nI_clamp (show 0 < 2147483648 by omega)]
  generalize hA : hs_put h 38 0 0 (nI (2 ^ N - 1)) = A
  have pA : wkQ J N re 1 h (hs_row A 37 0 10 (fun _ => nI 1)) := by
    refine ⟨?_, fun q hq => ?_⟩
    · rw [← hA]
      exact (hs_fr.rf.put (.inl (.tail _ (.head _)))).tr (hs_row_fr (.inr (.head _)))
    · have e : q = 0 := by omega
      subst e
      refine ⟨?_, fun j hj => ?_⟩
      · rw [nx_rowget, if_neg (by omega), ← hA, nx_get, if_pos ⟨rfl, rfl, rfl⟩, onw_0]
      · rw [nx_rowget, if_pos ⟨rfl, rfl, by omega⟩]
        rfl
  obtain ⟨H, o1, o2⟩ := outer (hs_row A 37 0 10 (fun _ => nI 1)) pA
  · refine ⟨H, ?_, o2⟩
    have hl := lp_for (f := fun k s => hb_98_15 k s.1 s.2) (st := fun i => (nI i, hs_row A 37 0 i (fun _ => nI 1))) (e := 10) (X := some H) (fun i hi k => ?_) (fun k => ?_) 0 hs_big (by omega) (lp_big (by omega))
    · rw [hs_row0] at hl
      exact hl
    · show hb_98_15 k (nI i) (hs_row A 37 0 i (fun _ => nI 1)) = k (nI (i + 1), hs_row A 37 0 (i + 1) (fun _ => nI 1))
      unfold hb_98_15
      rw [if_neg (nI_ge hi (by omega)), nx_inb (show 0 < 6 by omega) (by omega), nx_ck, nx_inb (show i < 10 by omega) (by omega), nx_ck, nI_clamp (show 0 < 2147483648 by omega), nI_clamp (show i < 2147483648 by omega), nI_add, ← hs_rowS A 37 0 i (fun _ => nI 1)]
    · show hb_98_15 k (nI 10) (hs_row A 37 0 10 (fun _ => nI 1)) = _
      unfold hb_98_15
      rw [if_pos (nI_le (Nat.le_refl _) (by omega))]
      exact o1
end WK
