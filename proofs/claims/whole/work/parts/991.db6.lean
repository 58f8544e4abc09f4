/-! Doubt: the model's ways, one behind another. -/
/-- d rounds of a loop lead from s to s' -/
def lps {α β : Type} (F : (α → Option β) → α → Option β) (d : Nat) (s s' : α) : Prop := ∀ n, hs_lp F (n + d) s = hs_lp F n s'
theorem lps_rf {α β : Type} {F : (α → Option β) → α → Option β} {s : α} : lps F 0 s s := fun _ => rfl
theorem lps_1 {α β : Type} {F : (α → Option β) → α → Option β} {s s' : α} (h : ∀ k, F k s = k s') : lps F 1 s s' := fun n => h (hs_lp F n)
theorem lps_tr {α β : Type} {F : (α → Option β) → α → Option β} {d e : Nat} {s s' s2 : α} (h : lps F d s s') (g : lps F e s' s2) : lps F (d + e) s s2 := fun n => by
  rw [show n + (d + e) = (n + e) + d by omega, h (n + e), g n]
def nthL : List (List Nat) → Nat → List Nat
  | [], _ => []
  | l :: _, 0 => l
  | _ :: ls, w + 1 => nthL ls w
theorem nthL_app {l : List Nat} : ∀ (L : List (List Nat)) (w : Nat), nthL (L ++ [l]) w = if w = L.length then l else nthL L w := by
  intro L
  induction L with
  | nil =>
    intro w
    match w with
    | 0 => rfl
    | w + 1 => rfl
  | cons x L ih =>
    intro w
    match w with
    | 0 =>
      rw [if_neg (by rw [List.length_cons]; omega)]
      rfl
    | w + 1 =>
      show nthL (L ++ [l]) w = if w + 1 = (x :: L).length then l else nthL L w
      rw [ih w, List.length_cons]
      by_cases c : w = L.length
      · rw [if_pos c, if_pos (by omega)]
      · rw [if_neg c, if_neg (by omega)]
/-- the node of a turn -/
def nthN : Nat → List Nat → Nat → Nat
  | a, _, 0 => a
  | _, [], _ + 1 => 0
  | _, i :: l, t + 1 => nthN i l t
/-- the smells of a turn -/
def smA (W : Nat) : (Nat → Nat) → List Nat → Nat → (Nat → Nat)
  | s, _, 0 => s
  | s, [], _ + 1 => s
  | s, i :: l, t + 1 => smA W (passS W s i) l t
theorem nthN_app {j : Nat} : ∀ (l : List Nat) (a u : Nat), u ≤ l.length + 1 → nthN a (l ++ [j]) u = if u = l.length + 1 then j else nthN a l u := by
  intro l
  induction l with
  | nil =>
    intro a u hu
    match u, hu with
    | 0, _ => rfl
    | 1, _ => rfl
    | u + 2, hu => exact absurd hu (by show ¬ u + 2 ≤ 0 + 1; omega)
  | cons i l ih =>
    intro a u hu
    match u, hu with
    | 0, _ => rw [if_neg (by omega)]; rfl
    | u + 1, hu =>
      rw [List.length_cons] at hu
      show nthN i (l ++ [j]) u = if u + 1 = (i :: l).length + 1 then j else nthN i l u
      rw [ih i u (by omega), List.length_cons]
      by_cases c : u = l.length + 1
      · rw [if_pos c, if_pos (by omega)]
      · rw [if_neg c, if_neg (by omega)]
theorem nthN_last : ∀ (l : List Nat) (a : Nat), nthN a l l.length = lastN a l := by
  intro l
  induction l with
  | nil => intro a; rfl
  | cons i l ih => intro a; exact ih i
theorem lastN_app {j : Nat} : ∀ (l : List Nat) (a : Nat), lastN a (l ++ [j]) = j := by
  intro l
  induction l with
  | nil => intro a; rfl
  | cons i l ih => intro a; exact ih i
theorem smA_app {W j : Nat} : ∀ (l : List Nat) (s : Nat → Nat) (u : Nat), u ≤ l.length + 1 → smA W s (l ++ [j]) u = if u = l.length + 1 then passS W (smA W s l l.length) j else smA W s l u := by
  intro l
  induction l with
  | nil =>
    intro s u hu
    match u, hu with
    | 0, _ => rfl
    | 1, _ => rfl
    | u + 2, hu => exact absurd hu (by show ¬ u + 2 ≤ 0 + 1; omega)
  | cons i l ih =>
    intro s u hu
    match u, hu with
    | 0, _ => rw [if_neg (by omega)]; rfl
    | u + 1, hu =>
      rw [List.length_cons] at hu
      show smA W (passS W s i) (l ++ [j]) u = if u + 1 = (i :: l).length + 1 then passS W (smA W (passS W s i) l l.length) j else smA W (passS W s i) l u
      rw [ih _ u (by omega), List.length_cons]
      by_cases c : u = l.length + 1
      · rw [if_pos c, if_pos (by omega)]
      · rw [if_neg c, if_neg (by omega)]
theorem smA_ok {W : Nat} : ∀ (l : List Nat) (s : Nat → Nat) (u : Nat), (∀ k, s k ≤ 18) → (∀ k, W.testBit k = true → s k = 0) → (∀ k, smA W s l u k ≤ 18) ∧ ∀ k, W.testBit k = true → smA W s l u k = 0 := by
  intro l
  induction l with
  | nil =>
    intro s u h1 h2
    match u with
    | 0 => exact ⟨h1, h2⟩
    | u + 1 => exact ⟨h1, h2⟩
  | cons i l ih =>
    intro s u h1 h2
    match u with
    | 0 => exact ⟨h1, h2⟩
    | u + 1 => exact ih _ u (passS_le h1) (passS_W h2)
section DF
variable (J : Nat → Nat) (N re W n P a0 : Nat)
def sm0 (W a0 : Nat) : Nat → Nat := passS W (fun _ => 0) a0
/-- the model's tables tell the ways L, its rows the way pre -/
def dfS (pre : List Nat) (L : List (List Nat)) (h0 G : hs_H) : Prop :=
  (hs_fr [(12, some 0), (49, some 0), (50, some 0), (53, some 0), (54, some 0), (55, some 0), (56, some 0)] h0 G ∧ ∀ x, x ≠ 31 → G.1 12 0 x = h0.1 12 0 x) ∧ (∀ u, u ≤ pre.length → G.1 49 0 u = nI (nthN a0 pre u) ∧ ∀ k, k < N → G.1 50 0 (10 * u + k) = nI (smA W (sm0 W a0) pre u k)) ∧ (∃ sl, tbS L.length (fun w => kyW n P N (smA W (sm0 W a0) (nthL L w))) (fun w => lastN a0 (nthL L w)) G sl) ∧ ndS n L.length (fun w t => nthN a0 (nthL L w) t) G ∧ G.1 12 0 31 = nI L.length
end DF
section DG
variable {J : Nat → Nat} {N re W n P a0 : Nat}
theorem sm0_ok : (∀ k, sm0 W a0 k ≤ 18) ∧ ∀ k, W.testBit k = true → sm0 W a0 k = 0 := ⟨passS_le (fun _ => Nat.zero_le _), passS_W (fun _ _ => rfl)⟩
/-- a node more on the model's way -/
theorem df_push {pre : List Nat} {L : List (List Nat)} {h0 G : hs_H} {j : Nat} (hN : N ≤ 10) (hn : pre.length < 3) (p : dfS N W n P a0 pre L h0 G) : dfS N W n P a0 (pre ++ [j]) L h0 (stH G (pre.length + 1) j N (passS W (smA W (sm0 W a0) pre pre.length) j)) := by
  obtain ⟨⟨p1, p2⟩, p3, ⟨sl, p4⟩, p5, p6⟩ := p
  have fr : hs_fr [(49, some 0), (50, some 0)] G (stH G (pre.length + 1) j N (passS W (smA W (sm0 W a0) pre pre.length) j)) := (hs_fr.rf.put (.inl (.head _))).tr (hs_rowb_fr (.inl (.tail _ (.head _))))
  have e : ∀ c, c ≠ 49 → c ≠ 50 → (stH G (pre.length + 1) j N (passS W (smA W (sm0 W a0) pre pre.length) j)).1 c 0 = G.1 c 0 ∧ (stH G (pre.length + 1) j N (passS W (smA W (sm0 W a0) pre pre.length) j)).2 c 0 = G.2 c 0 := fun c h1 h2 => fr c 0 (by
    intro q hq hh
    rcases hh with rfl | rfl <;> simp at hq <;> omega)
  have hl : (pre ++ [j]).length = pre.length + 1 := by rw [List.length_append]; rfl
  refine ⟨⟨p1.tr (fr.sub (hs_sub_cons (.inl (.tail _ (.head _))) (hs_sub_cons (.inl (.tail _ (.tail _ (.head _)))) hs_sub_nil))), fun x hx => by rw [(e 12 (by omega) (by omega)).1]; exact p2 x hx⟩, fun u hu => ?_, ⟨sl, ?_⟩, ?_, ?_⟩
  · rw [hl] at hu
    rw [nthN_app pre a0 u hu, smA_app pre (sm0 W a0) u hu]
    unfold stH
    by_cases c : u = pre.length + 1
    · rw [if_pos c, if_pos c]
      refine ⟨?_, fun k hk => ?_⟩
      · rw [nx_rowbget, if_neg (by omega), nx_get, if_pos ⟨rfl, rfl, c⟩]
      · rw [nx_rowbget, if_pos (by omega), show 10 * u + k - 10 * (pre.length + 1) = k by omega]
    · rw [if_neg c, if_neg c]
      obtain ⟨q1, q2⟩ := p3 u (by omega)
      refine ⟨?_, fun k hk => ?_⟩
      · rw [nx_rowbget, if_neg (by omega), nx_get, if_neg (by omega)]; exact q1
      · rw [nx_rowbget, if_neg (by omega), nx_get, if_neg (by omega)]; exact q2 k hk
  · unfold tbS kyA o01 at p4 ⊢
    rw [(e 55 (by omega) (by omega)).1, (e 54 (by omega) (by omega)).1, (e 53 (by omega) (by omega)).2]
    exact p4
  · intro w hw t ht
    rw [(e 56 (by omega) (by omega)).1]
    exact p5 w hw t ht
  · rw [(e 12 (by omega) (by omega)).1]; exact p6
/-- back to a shorter way -/
theorem df_pop {pre : List Nat} {L : List (List Nat)} {h0 G : hs_H} {j : Nat} (p : dfS N W n P a0 (pre ++ [j]) L h0 G) : dfS N W n P a0 pre L h0 G := by
  obtain ⟨p1, p3, p4⟩ := p
  refine ⟨p1, fun u hu => ?_, p4⟩
  have hl : (pre ++ [j]).length = pre.length + 1 := by rw [List.length_append]; rfl
  have q := p3 u (by rw [hl]; omega)
  rw [nthN_app pre a0 u (by omega), smA_app pre (sm0 W a0) u (by omega), if_neg (by omega), if_neg (by omega)] at q
  exact q
/-- a way is taken -/
theorem df_take {l : List Nat} {L : List (List Nat)} {h0 G : hs_H} (hN : N ≤ 10) (hP : P < 2147483648) (hn : n ≤ 3) (hl : l.length = n) (hla : lastN a0 l < 10) (hL : L.length < 1000) (hN1 : h0.1 12 0 2 = nI N) (p : dfS N W n P a0 l L h0 G) : ∃ G', hf_202 (nI n) (nI P) G = some G' ∧ dfS N W n P a0 l (L ++ [l]) h0 G' := by
  obtain ⟨⟨p1, p2⟩, p3, ⟨sl, p4⟩, p5, p6⟩ := p
  have y : wyS N n (nthN a0 l) (smA W (sm0 W a0) l) G := fun t ht => by
    obtain ⟨q1, q2⟩ := p3 t (by omega)
    exact ⟨q1, q2, (smA_ok l (sm0 W a0) t sm0_ok.1 sm0_ok.2).1⟩
  have elast : nthN a0 l n = lastN a0 l := by rw [← hl]; exact nthN_last l a0
  obtain ⟨G', sl', g1, g2, g3, g4, g5, g6⟩ := sp_202 (by rw [p2 2 (by omega)]; exact hN1) hN hP hn hL p6 y (by rw [elast]; exact hla) p4 p5
  have e1 : (fun w => if w = L.length then kyW n P N (smA W (sm0 W a0) l) else kyW n P N (smA W (sm0 W a0) (nthL L w))) = fun w => kyW n P N (smA W (sm0 W a0) (nthL (L ++ [l]) w)) := by
    funext w
    rw [nthL_app]
    by_cases c : w = L.length
    · rw [if_pos c, if_pos c]
    · rw [if_neg c, if_neg c]
  have e2 : (fun w => if w = L.length then nthN a0 l n else lastN a0 (nthL L w)) = fun w => lastN a0 (nthL (L ++ [l]) w) := by
    funext w
    rw [nthL_app, elast]
    by_cases c : w = L.length
    · rw [if_pos c, if_pos c]
    · rw [if_neg c, if_neg c]
  have e3 : (fun w t => if w = L.length then nthN a0 l t else nthN a0 (nthL L w) t) = fun w t => nthN a0 (nthL (L ++ [l]) w) t := by
    funext w t
    rw [nthL_app]
    by_cases c : w = L.length
    · rw [if_pos c, if_pos c]
    · rw [if_neg c, if_neg c]
  have hlen : (L ++ [l]).length = L.length + 1 := by rw [List.length_append]; rfl
  rw [e1, e2] at g2
  rw [e3] at g3
  refine ⟨G', g1, ⟨p1.tr (g5.sub (hs_sub_cons (.inl (.head _)) (hs_sub_cons (.inl (.tail _ (.tail _ (.tail _ (.head _))))) (hs_sub_cons (.inl (.tail _ (.tail _ (.tail _ (.tail _ (.head _)))))) (hs_sub_cons (.inl (.tail _ (.tail _ (.tail _ (.tail _ (.tail _ (.head _))))))) (hs_sub_cons (.inl (.tail _ (.tail _ (.tail _ (.tail _ (.tail _ (.tail _ (.head _)))))))) hs_sub_nil)))))), fun x hx => by rw [g6 x hx]; exact p2 x hx⟩, fun u hu => ?_, ⟨sl', by rw [hlen]; exact g2⟩, by rw [hlen]; exact g3, by rw [hlen]; exact g4⟩
  have e49 : G'.1 49 0 = G.1 49 0 := (g5 49 0 (by intro q hq; revert q; simp)).1
  have e50 : G'.1 50 0 = G.1 50 0 := (g5 50 0 (by intro q hq; revert q; simp)).1
  rw [e49, e50]
  exact p3 u hu
end DG
