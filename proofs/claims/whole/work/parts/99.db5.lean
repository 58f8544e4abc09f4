/-! Doubt: the model takes a way. -/
def kyW (n P N : Nat) (sm : Nat → Nat → Nat) : kyT := (lN (if 0 < n then svP P (sm 1) N else 0), lN (if 1 < n then svP P (sm 2) N else 0), lN (if 2 < n then svP P (sm 3) N else 0))
/-- the way that the model goes, as far as turn n -/
def wyS (N n : Nat) (pt : Nat → Nat) (sm : Nat → Nat → Nat) (G : hs_H) : Prop := ∀ t, t ≤ n → G.1 49 0 t = nI (pt t) ∧ (∀ k, k < N → G.1 50 0 (10 * t + k) = nI (sm t k)) ∧ (∀ k, sm t k ≤ 18)
/-- the nodes of the ways taken -/
def ndS (n m : Nat) (nd : Nat → Nat → Nat) (G : hs_H) : Prop := ∀ w, w < m → ∀ t, t ≤ n → G.1 56 0 (4 * w + t) = nI (nd w t)
section TK
variable {N n P m : Nat} {ky : Nat → kyT} {en sl : Nat → Nat} {nd : Nat → Nat → Nat} {pt : Nat → Nat} {sm : Nat → Nat → Nat} {G : hs_H}
theorem sp_202a (hN : G.1 12 0 2 = nI N) (hN2 : N ≤ 10) (hP : P < 2147483648) (hn : n ≤ 3) (y : wyS N n pt sm G) : hf_202 (nI n) (nI P) G = hb_202_45 (nI n) (kyW n P N sm).2.2 (kyW n P N sm).2.1 (kyW n P N sm).1 G := by
  unfold hf_202 hb_202_15 hb_202_30 kyW
  by_cases c0 : 0 < n
  · have e1 := sp_200 (t := 1) (s := sm 1) hN hN2 hP (by omega) (y 1 (by omega)).2.2 (y 1 (by omega)).2.1
    rw [if_neg (nI_nle c0 (by omega)), e1, Option.bind_some, if_pos c0]
    dsimp only
    by_cases c1 : 1 < n
    · have e2 := sp_200 (t := 2) (s := sm 2) hN hN2 hP (by omega) (y 2 (by omega)).2.2 (y 2 (by omega)).2.1
      rw [if_neg (nI_ge c1 (by omega)), e2, Option.bind_some, if_pos c1]
      dsimp only
      by_cases c2 : 2 < n
      · have e3 := sp_200 (t := 3) (s := sm 3) hN hN2 hP (by omega) (y 3 (by omega)).2.2 (y 3 (by omega)).2.1
        rw [if_neg (nI_ge c2 (by omega)), e3, Option.bind_some, if_pos c2]
      · rw [if_pos (nI_le (by omega) (by omega)), if_neg c2]
    · rw [if_pos (nI_le (by omega) (by omega)), if_neg c1, if_pos (nI_le (by omega) (by omega)), if_neg (show ¬ 2 < n by omega)]
  · rw [if_pos (by rw [show n = 0 by omega]; decide), if_neg c0, if_pos (nI_le (by omega) (by omega)), if_neg (show ¬ 1 < n by omega), if_pos (nI_le (by omega) (by omega)), if_neg (show ¬ 2 < n by omega)]
theorem sp_202 (hN : G.1 12 0 2 = nI N) (hN2 : N ≤ 10) (hP : P < 2147483648) (hn : n ≤ 3) (hm : m < 1000) (h31 : G.1 12 0 31 = nI m) (y : wyS N n pt sm G) (hpt : pt n < 10) (tb : tbS m ky en G sl) (ns : ndS n m nd G) : ∃ G' sl', hf_202 (nI n) (nI P) G = some G' ∧ tbS (m + 1) (fun w => if w = m then kyW n P N sm else ky w) (fun w => if w = m then pt n else en w) G' sl' ∧ ndS n (m + 1) (fun w t => if w = m then pt t else nd w t) G' ∧ G'.1 12 0 31 = nI (m + 1) ∧ hs_fr [(12, some 0), (53, some 0), (54, some 0), (55, some 0), (56, some 0)] G G' ∧ ∀ x, x ≠ 31 → G'.1 12 0 x = G.1 12 0 x := by
  obtain ⟨s, j, q1, q2, q3, q4, q5, q6⟩ := sp_201 (κ := kyW n P N sm) tb (by omega)
  rw [sp_202a hN hN2 hP hn y]
  unfold hb_202_45
  rw [q5, Option.bind_some]
  dsimp only
  obtain ⟨M, m1, m2, m3⟩ := tb.2.1 s q1
  have r54 : (kyP G s (kyW n P N sm)).1 54 0 s = nI M := by rw [kyP_1]; exact m2
  have r49 : ∀ t, t ≤ n → (kyP G s (kyW n P N sm)).1 49 0 t = nI (pt t) := fun t ht => by rw [kyP_1]; exact (y t ht).1
  have r31 : (hs_put (kyP G s (kyW n P N sm)) 54 0 s (nI (M ||| 2 ^ pt n))).1 12 0 31 = nI m := by rw [nx_get, if_neg (by omega), kyP_1]; exact h31
  rw [nx_inb q1 (by omega), nx_ck, nx_inb (show n < 6 by omega) (by omega), nx_ck, nx_ck, nI_clamp (show s < 2147483648 by omega), nI_clamp (show n < 2147483648 by omega), r49 n (Nat.le_refl _), r54, nx_shl1 (by omega), nx_or, r31, nx_inb hm (by omega), nx_ck, nI_clamp (show m < 2147483648 by omega)]
  have fK : hs_fr [(12, some 0), (53, some 0), (54, some 0), (55, some 0), (56, some 0)] G (hs_put (hs_put (kyP G s (kyW n P N sm)) 54 0 s (nI (M ||| 2 ^ pt n))) 55 0 m (nI s)) := by
    unfold kyP
    exact ((((hs_fr.rf.putL (.inl (.tail _ (.head _)))).putL (.inl (.tail _ (.head _)))).putL (.inl (.tail _ (.head _)))).put (.inl (.tail _ (.tail _ (.head _))))).put (.inl (.tail _ (.tail _ (.tail _ (.head _)))))
  have k54 : ∀ x, (hs_put (hs_put (kyP G s (kyW n P N sm)) 54 0 s (nI (M ||| 2 ^ pt n))) 55 0 m (nI s)).1 54 0 x = if x = s then nI (M ||| 2 ^ pt n) else G.1 54 0 x := fun x => by
    rw [nx_get, if_neg (by omega), nx_get]
    by_cases c : x = s
    · rw [if_pos ⟨rfl, rfl, c⟩, if_pos c]
    · rw [if_neg (fun q => c q.2.2), if_neg c, kyP_1]
  have k55 : ∀ x, (hs_put (hs_put (kyP G s (kyW n P N sm)) 54 0 s (nI (M ||| 2 ^ pt n))) 55 0 m (nI s)).1 55 0 x = if x = m then nI s else G.1 55 0 x := fun x => by
    rw [nx_get]
    by_cases c : x = m
    · rw [if_pos ⟨rfl, rfl, c⟩, if_pos c]
    · rw [if_neg (fun q => c q.2.2), if_neg c, nx_get, if_neg (by omega), kyP_1]
  have k53 : ∀ x, kyA (hs_put (hs_put (kyP G s (kyW n P N sm)) 54 0 s (nI (M ||| 2 ^ pt n))) 55 0 m (nI s)) x = if x = s then kyW n P N sm else kyA G x := fun x => kyA_P
  have k56 : ∀ x, (hs_put (hs_put (kyP G s (kyW n P N sm)) 54 0 s (nI (M ||| 2 ^ pt n))) 55 0 m (nI s)).1 56 0 x = G.1 56 0 x := fun x => by rw [nx_get, if_neg (by omega), nx_get, if_neg (by omega), kyP_1]
  have k49 : ∀ t, t ≤ n → (hs_put (hs_put (kyP G s (kyW n P N sm)) 54 0 s (nI (M ||| 2 ^ pt n))) 55 0 m (nI s)).1 49 0 t = nI (pt t) := fun t ht => by rw [nx_get, if_neg (by omega), nx_get, if_neg (by omega)]; exact r49 t ht
  have k12 : ∀ x, (hs_put (hs_put (kyP G s (kyW n P N sm)) 54 0 s (nI (M ||| 2 ^ pt n))) 55 0 m (nI s)).1 12 0 x = G.1 12 0 x := fun x => by rw [nx_get, if_neg (by omega), nx_get, if_neg (by omega), kyP_1]
  generalize hs_put (hs_put (kyP G s (kyW n P N sm)) 54 0 s (nI (M ||| 2 ^ pt n))) 55 0 m (nI s) = H at fK k54 k55 k53 k56 k49 k12
  have hl : hs_lp (fun k s => hb_202_79 k s.1 s.2.1 s.2.2) hs_big (nI n, nI 0, hs_rowb H 56 0 (4 * m) 0 (fun t => nI (pt t))) = some (hs_put (hs_rowb H 56 0 (4 * m) (n + 1) (fun t => nI (pt t))) 12 0 31 (nI (m + 1))) := by
    refine lp_for (f := fun k s => hb_202_79 k s.1 s.2.1 s.2.2) (st := fun t => (nI n, nI t, hs_rowb H 56 0 (4 * m) t (fun t => nI (pt t)))) (e := n + 1) (fun t ht k => ?_) (fun k => ?_) 0 hs_big (Nat.zero_le _) (lp_big (by omega))
    · show hb_202_79 k (nI n) (nI t) (hs_rowb H 56 0 (4 * m) t (fun t => nI (pt t))) = k (nI n, nI (t + 1), hs_rowb H 56 0 (4 * m) (t + 1) (fun t => nI (pt t)))
      have eS := hs_rowbS H 56 0 (4 * m) t (fun t => nI (pt t))
      have w1 : (hs_rowb H 56 0 (4 * m) t (fun t => nI (pt t))).1 12 0 31 = nI m := by rw [nx_rowbget, if_neg (by omega), k12]; exact h31
      have w2 : (hs_rowb H 56 0 (4 * m) t (fun t => nI (pt t))).1 49 0 t = nI (pt t) := by rw [nx_rowbget, if_neg (by omega)]; exact k49 t (by omega)
      rw [← eS]
      generalize hs_rowb H 56 0 (4 * m) t (fun t => nI (pt t)) = B at w1 w2
      unfold hb_202_79
      rw [if_neg (nI_nlt (by omega) (by omega)), w1, pk_mul, nI_add, nI_add, nx_inb (show t < 6 by omega) (by omega), nx_ck, nx_inb (show 4 * m + t < 4000 by omega) (by omega), nx_ck, nI_clamp (show 4 * m + t < 2147483648 by omega), nI_clamp (show t < 2147483648 by omega), w2]
    · show hb_202_79 k (nI n) (nI (n + 1)) (hs_rowb H 56 0 (4 * m) (n + 1) (fun t => nI (pt t))) = _
      have w1 : (hs_rowb H 56 0 (4 * m) (n + 1) (fun t => nI (pt t))).1 12 0 31 = nI m := by rw [nx_rowbget, if_neg (by omega), k12]; exact h31
      unfold hb_202_79
      rw [if_pos (nI_lt (by omega) (by omega)), w1, nI_add]
  rw [hs_rowb0] at hl
  refine ⟨_, _, hl, tb_add (G' := hs_put (hs_rowb H 56 0 (4 * m) (n + 1) (fun t => nI (pt t))) 12 0 31 (nI (m + 1))) tb hpt q1 q2 q3 q4 q6 m2 m1 (fun x => ?_) (fun x => ?_) (fun x => ?_), fun w hw t ht => ?_, ?_, ?_, fun x hx => ?_⟩
  · rw [nx_get, if_neg (by omega), nx_rowbget, if_neg (by omega)]; exact k54 x
  · rw [nx_get, if_neg (by omega), nx_rowbget, if_neg (by omega)]; exact k55 x
  · exact k53 x
  · rw [nx_get, if_neg (by omega), nx_rowbget]
    dsimp only
    by_cases c : w = m
    · rw [if_pos (by omega), if_pos c, c, Nat.add_sub_cancel_left]
    · rw [if_neg (by omega), if_neg c, k56]
      exact ns w (by omega) t ht
  · rw [nx_get, if_pos ⟨rfl, rfl, rfl⟩]
  · exact (fK.tr (hs_rowb_fr (.inl (.tail _ (.tail _ (.tail _ (.tail _ (.head _)))))))).put (.inl (.head _))
  · rw [nx_get, if_neg (fun q => hx q.2.2), nx_rowbget, if_neg (by omega)]
    exact k12 x
end TK
