/-! Ways that fit: the model takes one. -/
theorem sp_192 {n c : Nat} {pt cb : Nat → Nat} {h : hs_H} (hn : n ≤ 5) (hc : c < 2147483648) (h49 : ∀ t, t ≤ n → h.1 49 0 t = nI (pt t)) (hpt : ∀ t, t ≤ n → pt t < 10) (h51 : ∀ t, t ≤ n → h.1 51 0 t = nI (cb t)) (h24 : h.1 12 0 24 = nI c) : ∃ H, hf_192 (nI n) h = some H ∧ hs_fr [(12, some 0), (51, some 0), (52, some 0)] h H ∧ (∀ x, x ≠ 24 → H.1 12 0 x = h.1 12 0 x) ∧ H.1 12 0 24 = nI (c + 1) ∧ (∀ t, t ≤ n → H.1 51 0 t = nI (cb t ||| 2 ^ pt t)) ∧ ∀ t, t ≤ n → H.1 52 0 t = if c = 0 then nI (pt t) else h.1 52 0 t := by
  unfold hf_192
  refine lp_q2 (f := fun k s => hb_192_2 k s.1 s.2.1 s.2.2) (I := fun d q => ∃ j H, j ≤ n + 1 ∧ d = n + 1 - j ∧ (hs_fr [(51, some 0), (52, some 0)] h H ∧ (∀ t, t < j → H.1 51 0 t = nI (cb t ||| 2 ^ pt t)) ∧ (∀ t, j ≤ t → H.1 51 0 t = h.1 51 0 t) ∧ (∀ t, t < j → H.1 52 0 t = if c = 0 then nI (pt t) else h.1 52 0 t) ∧ ∀ t, j ≤ t → H.1 52 0 t = h.1 52 0 t) ∧ q = (nI n, nI j, H)) (Q := fun o => ∃ H, o = some H ∧ hs_fr [(12, some 0), (51, some 0), (52, some 0)] h H ∧ (∀ x, x ≠ 24 → H.1 12 0 x = h.1 12 0 x) ∧ H.1 12 0 24 = nI (c + 1) ∧ (∀ t, t ≤ n → H.1 51 0 t = nI (cb t ||| 2 ^ pt t)) ∧ ∀ t, t ≤ n → H.1 52 0 t = if c = 0 then nI (pt t) else h.1 52 0 t) (fun d q hI k => ?_) (n + 1) _ hs_big ⟨0, h, by omega, rfl, ⟨hs_fr.rf, fun t ht => absurd ht (Nat.not_lt_zero _), fun _ _ => rfl, fun t ht => absurd ht (Nat.not_lt_zero _), fun _ _ => rfl⟩, rfl⟩ (lp_big (by omega))
  obtain ⟨j, H, hj, rfl, ⟨fr, w1, w2, w3, w4⟩, rfl⟩ := hI
  have e12 : H.1 12 0 = h.1 12 0 := (fr 12 0 (by intro q hq; revert q; simp)).1
  have e49 : H.1 49 0 = h.1 49 0 := (fr 49 0 (by intro q hq; revert q; simp)).1
  by_cases hjn : j = n + 1
  · subst hjn
    refine Or.inl ⟨hs_put H 12 0 24 (nI (c + 1)), ?_, (fr.sub (hs_sub_cons (.inl (.tail _ (.head _))) (hs_sub_cons (.inl (.tail _ (.tail _ (.head _)))) hs_sub_nil))).put (.inl (.head _)), fun x hx => ?_, ?_, fun t ht => ?_, fun t ht => ?_⟩
    · show hb_192_2 k (nI n) (nI (n + 1)) H = _
      unfold hb_192_2
      rw [if_pos (nI_lt (by omega) (by omega)), e12, h24, nI_add]
    · rw [nx_get, if_neg (fun q => hx q.2.2), e12]
    · rw [nx_get, if_pos ⟨rfl, rfl, rfl⟩]
    · rw [nx_get, if_neg (by omega)]; exact w1 t (by omega)
    · rw [nx_get, if_neg (by omega)]; exact w3 t (by omega)
  · have p49 : H.1 49 0 j = nI (pt j) := by rw [e49]; exact h49 j (by omega)
    have p51 : H.1 51 0 j = nI (cb j) := by rw [w2 j (Nat.le_refl _)]; exact h51 j (by omega)
    have hp := hpt j (by omega)
    have q49 : (hs_put H 51 0 j (nI (cb j ||| 2 ^ pt j))).1 49 0 j = nI (pt j) := by rw [nx_get, if_neg (by omega)]; exact p49
    have q24 : (hs_put H 51 0 j (nI (cb j ||| 2 ^ pt j))).1 12 0 24 = nI c := by rw [nx_get, if_neg (by omega), e12]; exact h24
    have q52 : (hs_put H 51 0 j (nI (cb j ||| 2 ^ pt j))).1 52 0 j = h.1 52 0 j := by rw [nx_get, if_neg (by omega)]; exact w4 j (Nat.le_refl _)
    refine Or.inr ⟨n + 1 - (j + 1), (nI n, nI (j + 1), hs_put (hs_put H 51 0 j (nI (cb j ||| 2 ^ pt j))) 52 0 j (if c = 0 then nI (pt j) else h.1 52 0 j)), by omega, ⟨j + 1, _, by omega, rfl, ⟨(fr.put (.inl (.head _))).put (.inl (.tail _ (.head _))), fun t ht => ?_, fun t ht => ?_, fun t ht => ?_, fun t ht => ?_⟩, rfl⟩, ?_⟩
    · rw [nx_get, if_neg (by omega), nx_get]
      by_cases e : t = j
      · rw [if_pos ⟨rfl, rfl, e⟩, e]
      · rw [if_neg (fun q => e q.2.2)]; exact w1 t (by omega)
    · rw [nx_get, if_neg (by omega), nx_get, if_neg (by omega)]; exact w2 t (by omega)
    · rw [nx_get]
      by_cases e : t = j
      · rw [if_pos ⟨rfl, rfl, e⟩, e]
      · rw [if_neg (fun q => e q.2.2), nx_get, if_neg (by omega)]; exact w3 t (by omega)
    · rw [nx_get, if_neg (by omega), nx_get, if_neg (by omega)]; exact w4 t (by omega)
    · show hb_192_2 k (nI n) (nI j) H = _
      unfold hb_192_2 hb_192_51
      rw [if_neg (nI_nlt (by omega) (by omega)), nx_inb (show j < 6 by omega) (by omega), nx_ck, nI_clamp (show j < 2147483648 by omega), p49, p51, nx_shl1 (by omega), nx_or, q24, q52, q49, nI_add]
      by_cases c0 : c = 0
      · rw [if_neg (show ¬ ¬ nI c = 0 from fun q => q (by rw [c0]; rfl)), if_pos c0]
        rfl
      · rw [if_pos (nI_ne0 (by omega) (by omega)), if_neg c0]
        rfl
