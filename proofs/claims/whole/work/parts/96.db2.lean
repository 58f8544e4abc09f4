/-! Doubt: the class. -/
theorem sp_39 {o N re : Nat} {J : Nat → Nat} {m : Nat} {h : hs_H} (hN : h.1 4 o 1 = nI N) (hre : h.1 4 o 2 = nI re) (hJ : ∀ k, k < 10 → h.1 27 o k = nI (J k)) (hm : m < 2147483648) (hh : N ≤ 10) : hf_39 o (nI m) h = some (nI (mvA J re m N), h) := by
  unfold hf_39
  refine lp_for (f := fun k s => hb_39_4 o k s.1 s.2.1 s.2.2.1 s.2.2.2) (st := fun j => (nI m, nI (mvA J re m j), nI j, h)) (e := N) (fun j hj k => ?_) (fun k => ?_) 0 hs_big (by omega) (lp_big (by omega))
  · show hb_39_4 o k (nI m) (nI (mvA J re m j)) (nI j) h = k (nI m, nI (mvA J re m j ||| (if m.testBit j = true then mvs J re j else 0)), nI (j + 1), h)
    unfold hb_39_4 hb_39_30
    rw [hN, if_neg (nI_ge hj (by omega)), sp_147 hm (by omega), Option.bind_some]
    dsimp only
    cases ht : m.testBit j with
    | false => rw [if_pos (by decide), if_neg Bool.false_ne_true, nx_or, nI_add]
    | true =>
      rw [if_neg (by decide), sp_38 hN hre hJ hj hh, Option.bind_some, if_pos rfl, nI_add]
      dsimp only
      rw [nx_or]
      rfl
  · show hb_39_4 o k (nI m) (nI (mvA J re m N)) (nI N) h = _
    unfold hb_39_4
    rw [hN, if_pos (nI_le (Nat.le_refl _) (by omega))]
/-- a way as the class writes it, from turn t on -/
def encW : Nat → List Nat → Nat
  | _, [] => 0
  | t, i :: l => i * 2 ^ (4 * (t + 1)) ||| encW (t + 1) l
section DC
variable (J : Nat → Nat) (N re tl : Nat)
def updW (o w t : Nat) (s : Nat × Nat) (l : List Nat) : Nat × Nat := if s.1 < pcn 10 (oth J N re tl o l) then (pcn 10 (oth J N re tl o l), w ||| encW t l) else s
end DC
def dbH (h : hs_H) (s : Nat × Nat) : hs_H := hs_put (hs_put h 2 0 1 (nI s.1)) 2 0 4 (nI s.2)
theorem dbH_ne {h : hs_H} {s : Nat × Nat} {c i k : Nat} (hne : ¬ (c = 2 ∧ i = 0 ∧ (k = 1 ∨ k = 4))) : (dbH h s).1 c i k = h.1 c i k := by
  unfold dbH
  rw [nx_get, if_neg (fun q => hne ⟨q.1, q.2.1, Or.inr q.2.2⟩), nx_get, if_neg (fun q => hne ⟨q.1, q.2.1, Or.inl q.2.2⟩)]
theorem dbH_1 {h : hs_H} {s : Nat × Nat} : (dbH h s).1 2 0 1 = nI s.1 := by
  unfold dbH
  rw [nx_get, if_neg (by omega), nx_get, if_pos ⟨rfl, rfl, rfl⟩]
theorem dbH_4 {h : hs_H} {s : Nat × Nat} : (dbH h s).1 2 0 4 = nI s.2 := by
  unfold dbH
  rw [nx_get, if_pos ⟨rfl, rfl, rfl⟩]
theorem dbH_put {h : hs_H} {s : Nat × Nat} {x y : Nat} : hs_put (hs_put (dbH h s) 2 0 1 (nI x)) 2 0 4 (nI y) = dbH h (x, y) := hs_ext (fun c' i' k' => by
  unfold dbH
  simp only [nx_get]
  by_cases h1 : c' = 2 ∧ i' = 0 ∧ k' = 4
  · rw [if_pos h1, if_pos h1]
  · simp only [if_neg h1]
    by_cases h2 : c' = 2 ∧ i' = 0 ∧ k' = 1
    · rw [if_pos h2, if_pos h2]
    · simp only [if_neg h2]) rfl
section DD
variable {J : Nat → Nat} {N re tl : Nat}
theorem oth_lt (hN : N ≤ 10) (hJ : ∀ k, J k < 2 ^ N) (hre : re = 0 ∨ re = 1) : ∀ (l : List Nat) (o a : Nat), o < 2 ^ N → isW J N re a l → oth J N re tl o l < 2 ^ N := by
  intro l
  induction l with
  | nil => intro o a ho _; exact ho
  | cons i l ih =>
    intro o a ho hw
    refine ih _ i ?_ hw.2
    by_cases ht : tl.testBit i = true
    · rw [if_pos ht]; exact Nat.pow_lt_pow_right (by omega) hw.1.1
    · rw [if_neg ht]; exact Nat.lt_of_le_of_lt (dif_le _ _) (mvA_lt hJ hre N (Nat.le_refl _))
/-- the ways that begin with one of the first j nodes -/
def wyp (J : Nat → Nat) (N re r a j : Nat) : List (List Nat) := (List.range j).flatMap (fun i => if (mvs J re a).testBit i = true then (wyl J N re r i).map (fun l => i :: l) else [])
theorem wyp_S {r a j : Nat} : wyp J N re r a (j + 1) = wyp J N re r a j ++ (if (mvs J re a).testBit j = true then (wyl J N re r j).map (fun l => j :: l) else []) := by
  unfold wyp
  rw [List.range_succ, List.flatMap_append, List.flatMap_singleton]
theorem wyp_N {r a : Nat} : wyp J N re r a N = wyl J N re (r + 1) a := rfl
theorem fold_cons {o w t i : Nat} {s : Nat × Nat} : ∀ (ls : List (List Nat)), (ls.map (fun l => i :: l)).foldl (updW J N re tl o w t) s = ls.foldl (updW J N re tl (if tl.testBit i = true then 2 ^ i else dif (mvA J re o N) tl) (w ||| i * 2 ^ (4 * (t + 1))) (t + 1)) s := by
  intro ls
  induction ls generalizing s with
  | nil => rfl
  | cons l ls ih =>
    show (ls.map (fun l => i :: l)).foldl (updW J N re tl o w t) (updW J N re tl o w t s (i :: l)) = ls.foldl _ (updW J N re tl (if tl.testBit i = true then 2 ^ i else dif (mvA J re o N) tl) (w ||| i * 2 ^ (4 * (t + 1))) (t + 1) s l)
    rw [ih]
    have e : updW J N re tl o w t s (i :: l) = updW J N re tl (if tl.testBit i = true then 2 ^ i else dif (mvA J re o N) tl) (w ||| i * 2 ^ (4 * (t + 1))) (t + 1) s l := by
      unfold updW
      show (if s.1 < pcn 10 (oth J N re tl (if tl.testBit i = true then 2 ^ i else dif (mvA J re o N) tl) l) then (pcn 10 (oth J N re tl (if tl.testBit i = true then 2 ^ i else dif (mvA J re o N) tl) l), w ||| (i * 2 ^ (4 * (t + 1)) ||| encW (t + 1) l)) else s) = _
      rw [Nat.or_assoc]
    rw [e]
/-- what the class reads of itself -/
def db_n (N re tl n : Nat) (J : Nat → Nat) (h : hs_H) : Prop := ch_n N re J h ∧ h.1 2 0 2 = nI n ∧ h.1 2 0 3 = nI tl
theorem db_n_H {n : Nat} {h : hs_H} {s : Nat × Nat} (p : db_n N re tl n J h) : db_n N re tl n J (dbH h s) := by
  obtain ⟨⟨p1, p2, p3⟩, p4, p5⟩ := p
  exact ⟨⟨by rw [dbH_ne (by omega)]; exact p1, by rw [dbH_ne (by omega)]; exact p2, fun k hk => by rw [dbH_ne (by omega)]; exact p3 k hk⟩, by rw [dbH_ne (by omega)]; exact p4, by rw [dbH_ne (by omega)]; exact p5⟩
theorem sp_26 {o w : Nat} {h : hs_H} {s : Nat × Nat} (ho : o < 1024) (hs : s.1 ≤ 10) : hf_26 (nI o) (nI w) (dbH h s) = some (dbH h (if s.1 < pcn 10 o then (pcn 10 o, w) else s)) := by
  have hp := pcn_le o 10
  unfold hf_26 hb_26_23
  rw [sp_240 ho, Option.bind_some]
  dsimp only
  rw [dbH_1]
  by_cases c : s.1 < pcn 10 o
  · rw [if_neg (nI_ge c (by omega)), if_pos c, dbH_put]
  · rw [if_pos (nI_le (by omega) (by omega)), if_neg c]
theorem upd_b {o w t : Nat} {s : Nat × Nat} {ls : List (List Nat)} (hs : s.1 ≤ 10) : (ls.foldl (updW J N re tl o w t) s).1 ≤ 10 := by
  induction ls generalizing s with
  | nil => exact hs
  | cons l ls ih =>
    refine ih ?_
    unfold updW
    split
    · exact pcn_le _ _
    · exact hs
theorem sp_25 {n : Nat} {h : hs_H} (hN : N ≤ 10) (hJ : ∀ k, J k < 2 ^ N) (hre : re = 0 ∨ re = 1) (htl : tl < 2147483648) (hn : n ≤ 3) (p : db_n N re tl n J h) : ∀ (r m t a o w : Nat) (s : Nat × Nat), t + r = n → r < m → a < N → o < 2 ^ N → s.1 ≤ 10 → hf_25 m (nI t) (nI a) (nI o) (nI w) (dbH h s) = some (dbH h ((wyl J N re r a).foldl (updW J N re tl o w t) s)) := by
  have hp := p2_lt hN
  intro r
  induction r with
  | zero =>
    intro m t a o w s ht hm ha ho hs
    match m, hm with
    | m + 1, _ =>
      obtain ⟨n1, n2, n3⟩ := db_n_H (s := s) p
      show hg_25 (hf_25 m) (nI t) (nI a) (nI o) (nI w) (dbH h s) = some (dbH h (updW J N re tl o w t s []))
      unfold hg_25 hb_25_13
      rw [n2, if_pos (nI_le (by omega) (by omega)), sp_26 (by omega) hs, Option.bind_some]
      show some (dbH h (if s.1 < pcn 10 o then (pcn 10 o, w) else s)) = some (dbH h (if s.1 < pcn 10 o then (pcn 10 o, w ||| 0) else s))
      rw [Nat.or_zero]
  | succ r ih =>
    intro m t a o w s ht hm ha ho hs
    match m, hm with
    | m + 1, hm =>
      obtain ⟨n1, n2, n3⟩ := db_n_H (s := s) p
      have hmA := mvA_lt (o := o) hJ hre N (Nat.le_refl _)
      have hdl := dif_le (mvA J re o N) tl
      have hmv := mvs_lt (re := re) hJ hre ha
      show hg_25 (hf_25 m) (nI t) (nI a) (nI o) (nI w) (dbH h s) = _
      unfold hg_25
      have e38 : hf_38 0 (nI a) (dbH h s) = some (nI (mvs J re a), dbH h s) := sp_38 n1.1 n1.2.1 n1.2.2 ha hN
      rw [n2, if_neg (nI_ge (by omega) (by omega)), if_pos (nI_lt (by omega) (by omega)), e38, Option.bind_some]
      dsimp only
      rw [sp_39 n1.1 n1.2.1 n1.2.2 (by omega) hN, Option.bind_some]
      dsimp only
      rw [n3, nx_dif]
      refine lp_for (f := fun k s => hb_25_51 (hf_25 m) k s.1 s.2.1 s.2.2.1 s.2.2.2.1 s.2.2.2.2.1 s.2.2.2.2.2) (st := fun j => (nI t, nI w, nI (mvs J re a), nI (dif (mvA J re o N) tl), nI j, dbH h ((wyp J N re r a j).foldl (updW J N re tl o w t) s))) (e := N) (fun j hj k => ?_) (fun k => ?_) 0 hs_big (by omega) (lp_big (by omega))
      · show hb_25_51 (hf_25 m) k (nI t) (nI w) (nI (mvs J re a)) (nI (dif (mvA J re o N) tl)) (nI j) (dbH h ((wyp J N re r a j).foldl (updW J N re tl o w t) s)) = k (nI t, nI w, nI (mvs J re a), nI (dif (mvA J re o N) tl), nI (j + 1), dbH h ((wyp J N re r a (j + 1)).foldl (updW J N re tl o w t) s))
        have hsb := upd_b (J := J) (N := N) (re := re) (tl := tl) (o := o) (w := w) (t := t) (ls := wyp J N re r a j) hs
        rw [wyp_S, List.foldl_append]
        generalize (wyp J N re r a j).foldl (updW J N re tl o w t) s = s1 at hsb
        obtain ⟨q1, q2, q3⟩ := db_n_H (s := s1) p
        unfold hb_25_51 hb_25_94 hb_25_118
        rw [q1.1, if_neg (nI_ge hj (by omega)), sp_147 (by omega) (by omega), Option.bind_some]
        dsimp only
        cases hb : (mvs J re a).testBit j with
        | false =>
          rw [if_pos (by decide), if_neg Bool.false_ne_true, nI_add]
          rfl
        | true =>
          have eo : (if tl.testBit j = true then 2 ^ j else dif (mvA J re o N) tl) < 2 ^ N := by
            by_cases c : tl.testBit j = true
            · rw [if_pos c]; exact Nat.pow_lt_pow_right (by omega) hj
            · rw [if_neg c]; omega
          have hrec := ih m (t + 1) j (if tl.testBit j = true then 2 ^ j else dif (mvA J re o N) tl) (w ||| j * 2 ^ (4 * (t + 1))) s1 (by omega) (by omega) hj eo hsb
          rw [if_neg (by decide), if_pos rfl, fold_cons, q3, sp_147 (by omega) (by omega), Option.bind_some]
          dsimp only
          rw [nI_add, pk_mul, nx_shl _ (by omega), nx_or, nx_shl1 (by omega)]
          cases ht2 : tl.testBit j with
          | false =>
            rw [ht2, if_neg Bool.false_ne_true] at hrec
            rw [if_pos (by decide), if_neg Bool.false_ne_true, hrec, Option.bind_some, nI_add]
          | true =>
            rw [ht2, if_pos rfl] at hrec
            rw [if_neg (by decide), if_pos rfl, hrec, Option.bind_some, nI_add]
      · show hb_25_51 (hf_25 m) k (nI t) (nI w) (nI (mvs J re a)) (nI (dif (mvA J re o N) tl)) (nI N) (dbH h ((wyp J N re r a N).foldl (updW J N re tl o w t) s)) = _
        obtain ⟨q1, q2, q3⟩ := db_n_H (s := (wyp J N re r a N).foldl (updW J N re tl o w t) s) p
        unfold hb_25_51
        rw [q1.1, if_pos (nI_le (Nat.le_refl _) (by omega)), wyp_N]
/-- the class's search -/
def dbS (J : Nat → Nat) (N re tl n a : Nat) : Nat × Nat := (wyl J N re n a).foldl (updW J N re tl (2 ^ a) a 0) (0, 0)
theorem sp_23 {n a P W : Nat} {h : hs_H} (hN : N ≤ 10) (hJ : ∀ k, J k < 2 ^ N) (hre : re = 0 ∨ re = 1) (hP : P < 2 ^ N) (hn : n ≤ 3) (ha : a < N) (c : ch_n N re J h) (hW : h.1 4 0 4 = nI W) : ∃ H, hf_23 (nI a) (nI n) (nI P) h = some H ∧ hs_fr [(2, some 0)] h H ∧ H.1 2 0 1 = nI (dbS J N re (dif P W) n a).1 ∧ H.1 2 0 4 = nI (dbS J N re (dif P W) n a).2 := by
  have hp := p2_lt hN
  have hdl := dif_le P W
  have e4 : (hs_put (hs_put (hs_put h 2 0 1 (nI 0)) 2 0 2 (nI n)) 2 0 4 (nI 0)).1 4 0 4 = nI W := by simp (disch := omega) only [hW, nq_nf, nq_nt, nq_le_t, nq_le_f, nq_lt_t, nq_lt_f, nq_eq_t, nq_eq_f, nq_neg, nq_pos, nq_le0f, nq_le0t, nq_lt0t, nq_lt0f, nq_eq0f, nq_eq0t, nI_add, nI_clamp, nx_inb, nx_ck, Option.bind_some, nx_get, nx_get2, nx_dif, nx_or, bI_0, bI_01, bI_nt, bI_nf, if_true, if_false, ite_true, ite_false, not_true_eq_false, not_false_eq_true, and_true, true_and, and_false, false_and, Bool.false_eq_true, Bool.true_eq_false, reduceCtorEq]
  have f : hs_fr [(2, some 0)] h (hs_put (hs_put (hs_put (hs_put h 2 0 1 (nI 0)) 2 0 2 (nI n)) 2 0 4 (nI 0)) 2 0 3 (nI (dif P W))) := (((hs_fr.rf.put (.inl (.head _))).put (.inl (.head _))).put (.inl (.head _))).put (.inl (.head _))
  have g1 : (hs_put (hs_put (hs_put (hs_put h 2 0 1 (nI 0)) 2 0 2 (nI n)) 2 0 4 (nI 0)) 2 0 3 (nI (dif P W))).1 2 0 1 = nI 0 := by simp (disch := omega) only [nq_nf, nq_nt, nq_le_t, nq_le_f, nq_lt_t, nq_lt_f, nq_eq_t, nq_eq_f, nq_neg, nq_pos, nq_le0f, nq_le0t, nq_lt0t, nq_lt0f, nq_eq0f, nq_eq0t, nI_add, nI_clamp, nx_inb, nx_ck, Option.bind_some, nx_get, nx_get2, nx_dif, nx_or, bI_0, bI_01, bI_nt, bI_nf, if_true, if_false, ite_true, ite_false, not_true_eq_false, not_false_eq_true, and_true, true_and, and_false, false_and, Bool.false_eq_true, Bool.true_eq_false, reduceCtorEq]
  have g2 : (hs_put (hs_put (hs_put (hs_put h 2 0 1 (nI 0)) 2 0 2 (nI n)) 2 0 4 (nI 0)) 2 0 3 (nI (dif P W))).1 2 0 2 = nI n := by simp (disch := omega) only [nq_nf, nq_nt, nq_le_t, nq_le_f, nq_lt_t, nq_lt_f, nq_eq_t, nq_eq_f, nq_neg, nq_pos, nq_le0f, nq_le0t, nq_lt0t, nq_lt0f, nq_eq0f, nq_eq0t, nI_add, nI_clamp, nx_inb, nx_ck, Option.bind_some, nx_get, nx_get2, nx_dif, nx_or, bI_0, bI_01, bI_nt, bI_nf, if_true, if_false, ite_true, ite_false, not_true_eq_false, not_false_eq_true, and_true, true_and, and_false, false_and, Bool.false_eq_true, Bool.true_eq_false, reduceCtorEq]
  have g3 : (hs_put (hs_put (hs_put (hs_put h 2 0 1 (nI 0)) 2 0 2 (nI n)) 2 0 4 (nI 0)) 2 0 3 (nI (dif P W))).1 2 0 3 = nI (dif P W) := by simp (disch := omega) only [nq_nf, nq_nt, nq_le_t, nq_le_f, nq_lt_t, nq_lt_f, nq_eq_t, nq_eq_f, nq_neg, nq_pos, nq_le0f, nq_le0t, nq_lt0t, nq_lt0f, nq_eq0f, nq_eq0t, nI_add, nI_clamp, nx_inb, nx_ck, Option.bind_some, nx_get, nx_get2, nx_dif, nx_or, bI_0, bI_01, bI_nt, bI_nf, if_true, if_false, ite_true, ite_false, not_true_eq_false, not_false_eq_true, and_true, true_and, and_false, false_and, Bool.false_eq_true, Bool.true_eq_false, reduceCtorEq]
  have g4 : (hs_put (hs_put (hs_put (hs_put h 2 0 1 (nI 0)) 2 0 2 (nI n)) 2 0 4 (nI 0)) 2 0 3 (nI (dif P W))).1 2 0 4 = nI 0 := by simp (disch := omega) only [nq_nf, nq_nt, nq_le_t, nq_le_f, nq_lt_t, nq_lt_f, nq_eq_t, nq_eq_f, nq_neg, nq_pos, nq_le0f, nq_le0t, nq_lt0t, nq_lt0f, nq_eq0f, nq_eq0t, nI_add, nI_clamp, nx_inb, nx_ck, Option.bind_some, nx_get, nx_get2, nx_dif, nx_or, bI_0, bI_01, bI_nt, bI_nf, if_true, if_false, ite_true, ite_false, not_true_eq_false, not_false_eq_true, and_true, true_and, and_false, false_and, Bool.false_eq_true, Bool.true_eq_false, reduceCtorEq]
  unfold hf_23
  rw [e4, nx_dif, nx_shl1 (by omega)]
  have cG := ch_n_fr f rfl c
  generalize hs_put (hs_put (hs_put (hs_put h 2 0 1 (nI 0)) 2 0 2 (nI n)) 2 0 4 (nI 0)) 2 0 3 (nI (dif P W)) = G at f g1 g2 g3 g4 cG
  have e0 : G = dbH G (0, 0) := hs_ext (fun c' i' k' => by
    by_cases h1 : c' = 2 ∧ i' = 0 ∧ k' = 1
    · rw [h1.1, h1.2.1, h1.2.2, dbH_1, g1]
    · by_cases h2 : c' = 2 ∧ i' = 0 ∧ k' = 4
      · rw [h2.1, h2.2.1, h2.2.2, dbH_4, g4]
      · rw [dbH_ne (fun q => q.2.2.elim (fun w => h1 ⟨q.1, q.2.1, w⟩) (fun w => h2 ⟨q.1, q.2.1, w⟩))]) rfl
  have main := sp_25 (h := G) hN hJ hre (show dif P W < 2147483648 by omega) hn ⟨cG, g2, g3⟩ n 10 0 a (2 ^ a) a (0, 0) (by omega) (by omega) ha (Nat.pow_lt_pow_right (by omega) ha) (Nat.zero_le _)
  rw [← e0] at main
  rw [main, Option.bind_some]
  exact ⟨_, rfl, (f.put (.inl (.head _))).put (.inl (.head _)), dbH_1, dbH_4⟩
end DD
