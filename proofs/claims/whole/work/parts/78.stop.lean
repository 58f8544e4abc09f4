/-! stop: a lane away for a while. -/
theorem tie_back {J : Nat → Nat} {i j N : Nat} (hN : N ≤ 10) (hi : i < N) (hj : j < N) (hij : i ≠ j) (hJ : ∀ k, J k < 2 ^ N) (hJs : ∀ a b, (J a).testBit b = (J b).testBit a) (hb : (J i).testBit j = true) : tieJ (tieJ J i j false) i j true = J := by
  have hp := p2_lt hN
  funext k
  apply tb_ext
  intro m
  rw [tb_tie hij (fun k => by have := tie_lt (is := false) hi hj hJ k; omega), tb_tie hij (fun k => by have := hJ k; omega)]
  by_cases h1 : (k = i ∧ m = j) ∨ (k = j ∧ m = i)
  · rw [if_pos h1]
    rcases h1 with ⟨rfl, rfl⟩ | ⟨rfl, rfl⟩
    · exact hb.symm
    · rw [hJs]; exact hb.symm
  · rw [if_neg h1, if_neg h1]
theorem sp_45 {J : Nat → Nat} {N Ho i j f Hd : Nat} {H : hs_H} (hN : H.1 4 0 1 = nI N) (hHo : H.1 4 0 5 = nI Ho) (hN2 : N ≤ 10) (hc : ∀ k, k < 10 → H.1 27 0 k = nI (J k)) (hJ : ∀ k, J k < 2 ^ N) (hJs : ∀ a b, (J a).testBit b = (J b).testBit a) (hf : f < N) (hHd : Hd < 2 ^ N) (hi : i < N) (hj : j < N) (hij : i ≠ j) (hb : (J i).testBit j = true) : hf_45 0 (nI i) (nI j) (nI f) (nI Hd) H = some (nI (opv (tieJ J i j false) N Hd f Ho), hs_put H 4 0 6 (H.1 4 0 6 + nI 1 + nI 1)) := by
  have hp := p2_lt hN2
  have hJ' := tie_lt (is := false) hi hj hJ
  unfold hf_45
  rw [show nI 0 = bI false from rfl, sp_34 hc (by omega) (by omega) hij, Option.bind_some, sp_44 (J := tieJ J i j false) (N := N) (Ho := Ho) (by unfold tie_c; simp (disch := omega) only [hN, nq_nf, nq_nt, nq_le_t, nq_le_f, nq_lt_t, nq_lt_f, nq_eq_t, nq_eq_f, nq_neg, nq_pos, nq_le0f, nq_le0t, nq_lt0t, nq_lt0f, nq_eq0f, nq_eq0t, nI_add, nI_clamp, nx_inb, nx_ck, Option.bind_some, nx_get, nx_get2, nx_dif, nx_or, bI_0, bI_01, bI_nt, bI_nf, if_true, if_false, ite_true, ite_false, not_true_eq_false, not_false_eq_true, and_true, true_and, and_false, false_and, Bool.false_eq_true, Bool.true_eq_false, reduceCtorEq]) (by unfold tie_c; simp (disch := omega) only [hHo, nq_nf, nq_nt, nq_le_t, nq_le_f, nq_lt_t, nq_lt_f, nq_eq_t, nq_eq_f, nq_neg, nq_pos, nq_le0f, nq_le0t, nq_lt0t, nq_lt0f, nq_eq0f, nq_eq0t, nI_add, nI_clamp, nx_inb, nx_ck, Option.bind_some, nx_get, nx_get2, nx_dif, nx_or, bI_0, bI_01, bI_nt, bI_nf, if_true, if_false, ite_true, ite_false, not_true_eq_false, not_false_eq_true, and_true, true_and, and_false, false_and, Bool.false_eq_true, Bool.true_eq_false, reduceCtorEq]) hN2 (tie_c_J hc) hJ' hf hHd, Option.bind_some]
  dsimp only
  have e34 : hf_34 0 (nI i) (nI j) (nI 1) (tie_c H 0 i j J false) = some (tie_c (tie_c H 0 i j J false) 0 i j (tieJ J i j false) true) := sp_34 (is := true) (J := tieJ J i j false) (tie_c_J hc) (by omega) (by omega) hij
  rw [e34, Option.bind_some]
  have hb2 := tie_back hN2 hi hj hij hJ hJs hb
  congr 2
  unfold tie_c
  rw [hb2]
  refine hs_ext (fun c' i' k' => ?_) rfl
  have e6 : (hs_put (hs_put (hs_put H 27 0 i (nI (tieJ J i j false i))) 27 0 j (nI (tieJ J i j false j))) 4 0 6 (H.1 4 0 6 + nI 1)).1 4 0 6 = H.1 4 0 6 + nI 1 := by simp (disch := omega) only [nq_nf, nq_nt, nq_le_t, nq_le_f, nq_lt_t, nq_lt_f, nq_eq_t, nq_eq_f, nq_neg, nq_pos, nq_le0f, nq_le0t, nq_lt0t, nq_lt0f, nq_eq0f, nq_eq0t, nI_add, nI_clamp, nx_inb, nx_ck, Option.bind_some, nx_get, nx_get2, nx_dif, nx_or, bI_0, bI_01, bI_nt, bI_nf, if_true, if_false, ite_true, ite_false, not_true_eq_false, not_false_eq_true, and_true, true_and, and_false, false_and, Bool.false_eq_true, Bool.true_eq_false, reduceCtorEq]
  rw [e6]
  simp only [nx_get]
  by_cases h1 : c' = 4 ∧ i' = 0 ∧ k' = 6
  · rw [if_pos h1, if_pos h1]
  · simp only [if_neg h1]
    by_cases h2 : c' = 27 ∧ i' = 0 ∧ k' = j
    · rw [if_pos h2, h2.1, h2.2.1, h2.2.2, hc j (by omega)]
    · rw [if_neg h2]
      by_cases h3 : c' = 27 ∧ i' = 0 ∧ k' = i
      · rw [if_pos h3, h3.1, h3.2.1, h3.2.2, hc i (by omega)]
      · rw [if_neg h3, if_neg h2, if_neg h3]
theorem rw48_2 {h : hs_H} {f g : Nat → Nat} : rw48 (rw48 h f) g = rw48 h g := hs_ext (fun c' i' k' => by
  unfold rw48
  rw [nx_rowget, nx_rowget, nx_rowget]
  by_cases h1 : c' = 48 ∧ i' = 0 ∧ k' < 10
  · rw [if_pos h1, if_pos h1]
  · rw [if_neg h1, if_neg h1, if_neg h1]) rfl
/-- the model's three steps: away, look, back -/
theorem sp_225t {J : Nat → Nat} {N Ho i j f Hd : Nat} {H : hs_H} (hN : H.1 12 0 2 = nI N) (hHo : H.1 12 0 5 = nI Ho) (hN2 : N ≤ 10) (hm : ∀ k, k < 10 → H.1 44 0 k = nI (J k)) (hJ : ∀ k, J k < 2 ^ N) (hJs : ∀ a b, (J a).testBit b = (J b).testBit a) (hf : f < N) (hHd : Hd < 2 ^ N) (hi : i < N) (hj : j < N) (hij : i ≠ j) (hb : (J i).testBit j = true) {β : Type} (K : Int32 → hs_H → Option β) : (hf_175 (nI i) (nI j) (nI 0) H).bind (fun q15 => (hf_223 (nI f) (nI Hd) q15).bind (fun q16 => (hf_152 q16.1 q16.2).bind (fun q17 => (hf_175 (nI i) (nI j) (nI 1) q17.2).bind (fun q18 => K q17.1 q18)))) = K (nI (pcn 10 (opv (tieJ J i j false) N Hd f Ho))) (rw48 H (lab N Hd (tieJ J i j false) 10)) := by
  have hp := p2_lt hN2
  have hJ' := tie_lt (is := false) hi hj hJ
  have hov : opv (tieJ J i j false) N Hd f Ho < 2147483648 := by
    have h1 := (opn_lt (Hd := Hd) hJ' hf 9).2
    have h2 := and_lt (n := N) Ho h1
    unfold opv
    omega
  rw [show nI 0 = bI false from rfl, sp_175 hm (by omega) (by omega) hij, Option.bind_some, sp_223 (J := tieJ J i j false) (N := N) (Ho := Ho) (by unfold tie_m; simp (disch := omega) only [hN, nq_nf, nq_nt, nq_le_t, nq_le_f, nq_lt_t, nq_lt_f, nq_eq_t, nq_eq_f, nq_neg, nq_pos, nq_le0f, nq_le0t, nq_lt0t, nq_lt0f, nq_eq0f, nq_eq0t, nI_add, nI_clamp, nx_inb, nx_ck, Option.bind_some, nx_get, nx_get2, nx_dif, nx_or, bI_0, bI_01, bI_nt, bI_nf, if_true, if_false, ite_true, ite_false, not_true_eq_false, not_false_eq_true, and_true, true_and, and_false, false_and, Bool.false_eq_true, Bool.true_eq_false, reduceCtorEq]) (by unfold tie_m; simp (disch := omega) only [hHo, nq_nf, nq_nt, nq_le_t, nq_le_f, nq_lt_t, nq_lt_f, nq_eq_t, nq_eq_f, nq_neg, nq_pos, nq_le0f, nq_le0t, nq_lt0t, nq_lt0f, nq_eq0f, nq_eq0t, nI_add, nI_clamp, nx_inb, nx_ck, Option.bind_some, nx_get, nx_get2, nx_dif, nx_or, bI_0, bI_01, bI_nt, bI_nf, if_true, if_false, ite_true, ite_false, not_true_eq_false, not_false_eq_true, and_true, true_and, and_false, false_and, Bool.false_eq_true, Bool.true_eq_false, reduceCtorEq]) hN2 (tie_m_J hm) hJ' hf hHd, Option.bind_some]
  dsimp only
  rw [sp_152 hov, Option.bind_some]
  dsimp only
  rw [show nI 1 = bI true from rfl, sp_175 (J := tieJ J i j false) (fun k hk => by rw [rw48_ne (by decide)]; exact tie_m_J hm k hk) (by omega) (by omega) hij, Option.bind_some]
  have hb2 := tie_back hN2 hi hj hij hJ hJs hb
  have e : tie_m (rw48 (tie_m H i j J false) (lab N Hd (tieJ J i j false) 10)) i j (tieJ J i j false) true = rw48 H (lab N Hd (tieJ J i j false) 10) := by
    unfold tie_m
    rw [hb2]
    refine hs_ext (fun c' i' k' => ?_) rfl
    rw [nx_get]
    by_cases h2 : c' = 44 ∧ i' = 0 ∧ k' = j
    · rw [if_pos h2, h2.1, h2.2.1, h2.2.2, rw48_ne (by decide), hm j (by omega)]
    · rw [if_neg h2, nx_get]
      by_cases h3 : c' = 44 ∧ i' = 0 ∧ k' = i
      · rw [if_pos h3, h3.1, h3.2.1, h3.2.2, rw48_ne (by decide), hm i (by omega)]
      · rw [if_neg h3]
        unfold rw48
        rw [nx_rowget, nx_rowget]
        by_cases h4 : c' = 48 ∧ i' = 0 ∧ k' < 10
        · rw [if_pos h4, if_pos h4]
        · rw [if_neg h4, if_neg h4, nx_get, if_neg h2, nx_get, if_neg h3]
  rw [e]
/-- what is known behind some pairs: the lane, how few, how many were looked at, the last labels -/
abbrev sqT : Type := Nat × Nat × Nat × (Nat → Nat)
def sqS (J : Nat → Nat) (N Hd f Ho a b : Nat) (s : sqT) : sqT :=
  if (J a).testBit b = true then (if pcn 10 (opv (tieJ J a b false) N Hd f Ho) < s.2.1 then (10 * a + b, pcn 10 (opv (tieJ J a b false) N Hd f Ho), s.2.2.1 + 1, lab N Hd (tieJ J a b false) 10) else (s.1, s.2.1, s.2.2.1 + 1, lab N Hd (tieJ J a b false) 10)) else s
def sqr (J : Nat → Nat) (N Hd f Ho a : Nat) (s : sqT) : Nat → sqT
  | 0 => s
  | k + 1 => sqS J N Hd f Ho a (a + 1 + k) (sqr J N Hd f Ho a s k)
def sq (J : Nat → Nat) (N Hd f Ho : Nat) : Nat → sqT
  | 0 => (4294967292, pcn 10 (opv J N Hd f Ho), 0, lab N Hd J 10)
  | a + 1 => sqr J N Hd f Ho a (sq J N Hd f Ho a) (N - 1 - a)
theorem sq_0 {J : Nat → Nat} {N Hd f Ho : Nat} : sq J N Hd f Ho 0 = (4294967292, pcn 10 (opv J N Hd f Ho), 0, lab N Hd J 10) := rfl
def sqb : Nat → Nat
  | 0 => 0
  | a + 1 => sqb a + (9 - a)
section SQ
variable {J : Nat → Nat} {N Hd f Ho : Nat}
theorem sqS_b {a b : Nat} {s : sqT} (ha : a < 10) (hb : b < 10) (h1 : s.1 < 110 ∨ s.1 = 4294967292) (h2 : s.2.1 ≤ 10) : ((sqS J N Hd f Ho a b s).1 < 110 ∨ (sqS J N Hd f Ho a b s).1 = 4294967292) ∧ (sqS J N Hd f Ho a b s).2.1 ≤ 10 ∧ (sqS J N Hd f Ho a b s).2.2.1 ≤ s.2.2.1 + 1 := by
  unfold sqS
  by_cases c1 : (J a).testBit b = true
  · rw [if_pos c1]
    by_cases c2 : pcn 10 (opv (tieJ J a b false) N Hd f Ho) < s.2.1
    · rw [if_pos c2]
      exact ⟨Or.inl (by show 10 * a + b < 110; omega), pcn_le _ _, Nat.le_refl _⟩
    · rw [if_neg c2]
      exact ⟨h1, h2, Nat.le_refl _⟩
  · rw [if_neg c1]
    exact ⟨h1, h2, Nat.le_succ _⟩
theorem sqr_b {a : Nat} {s : sqT} (hN : N ≤ 10) (h1 : s.1 < 110 ∨ s.1 = 4294967292) (h2 : s.2.1 ≤ 10) : ∀ k, k ≤ N - 1 - a → ((sqr J N Hd f Ho a s k).1 < 110 ∨ (sqr J N Hd f Ho a s k).1 = 4294967292) ∧ (sqr J N Hd f Ho a s k).2.1 ≤ 10 ∧ (sqr J N Hd f Ho a s k).2.2.1 ≤ s.2.2.1 + k := by
  intro k
  induction k with
  | zero => intro _; exact ⟨h1, h2, Nat.le_refl _⟩
  | succ k ih =>
    intro hk
    obtain ⟨i1, i2, i3⟩ := ih (by omega)
    have := sqS_b (J := J) (N := N) (Hd := Hd) (f := f) (Ho := Ho) (a := a) (b := a + 1 + k) (s := sqr J N Hd f Ho a s k) (by omega) (by omega) i1 i2
    exact ⟨this.1, this.2.1, by have := this.2.2; show (sqS J N Hd f Ho a (a + 1 + k) (sqr J N Hd f Ho a s k)).2.2.1 ≤ _; omega⟩
theorem sq_b (hN : N ≤ 10) : ∀ a, a ≤ N → ((sq J N Hd f Ho a).1 < 110 ∨ (sq J N Hd f Ho a).1 = 4294967292) ∧ (sq J N Hd f Ho a).2.1 ≤ 10 ∧ (sq J N Hd f Ho a).2.2.1 ≤ sqb a := by
  intro a
  induction a with
  | zero => intro _; exact ⟨Or.inr rfl, pcn_le _ _, Nat.le_refl _⟩
  | succ a ih =>
    intro ha
    obtain ⟨i1, i2, i3⟩ := ih (by omega)
    have := sqr_b (J := J) (N := N) (Hd := Hd) (f := f) (Ho := Ho) (a := a) (s := sq J N Hd f Ho a) hN i1 i2 (N - 1 - a) (Nat.le_refl _)
    exact ⟨this.1, this.2.1, by have := this.2.2; show (sqr J N Hd f Ho a (sq J N Hd f Ho a) (N - 1 - a)).2.2.1 ≤ sqb a + (9 - a); omega⟩
theorem sqb_le : ∀ a, a < 11 → sqb a ≤ 45 := by decide
/-- the class's heap: the net's changes are all that changes -/
def sqH (h : hs_H) (c m : Nat) : hs_H := hs_put h 4 0 6 (nI (c + 2 * m))
theorem sqH_0 {h : hs_H} {c : Nat} (e : h.1 4 0 6 = nI c) : sqH h c 0 = h := by
  unfold sqH
  refine hs_ext (fun c' i' k' => ?_) rfl
  rw [nx_get]
  by_cases q : c' = 4 ∧ i' = 0 ∧ k' = 6
  · rw [if_pos q, q.1, q.2.1, q.2.2, e]; rfl
  · rw [if_neg q]
theorem sp_135s {a b c : Nat} {h : hs_H} {s : sqT} {x3 : Int32} (k54 : Int32 × Int32 × Int32 × Int32 × Int32 × Int32 × hs_H → Option (Int32 × hs_H)) (k72 : Int32 × Int32 × Int32 × Int32 × Int32 × Int32 × Int32 × hs_H → Option (Int32 × hs_H)) (hN : h.1 4 0 1 = nI N) (hHo : h.1 4 0 5 = nI Ho) (hN2 : N ≤ 10) (hc : ∀ k, k < 10 → h.1 27 0 k = nI (J k)) (hJ : ∀ k, J k < 2 ^ N) (hJs : ∀ a b, (J a).testBit b = (J b).testBit a) (hf : f < N) (hHd : Hd < 2 ^ N) (ha : a < b) (hb : b < N) (h2 : s.2.1 ≤ 10) : hb_135_72 k54 k72 (nI f) (nI Hd) x3 (nI s.1) (nI s.2.1) (nI a) (nI b) (sqH h c s.2.2.1) = k72 (nI f, nI Hd, x3, nI (sqS J N Hd f Ho a b s).1, nI (sqS J N Hd f Ho a b s).2.1, nI a, nI (b + 1), sqH h c (sqS J N Hd f Ho a b s).2.2.1) := by
  have hp := p2_lt hN2
  have hJa := hJ a
  have e1 : (sqH h c s.2.2.1).1 4 0 1 = nI N := by unfold sqH; simp (disch := omega) only [hN, nq_nf, nq_nt, nq_le_t, nq_le_f, nq_lt_t, nq_lt_f, nq_eq_t, nq_eq_f, nq_neg, nq_pos, nq_le0f, nq_le0t, nq_lt0t, nq_lt0f, nq_eq0f, nq_eq0t, nI_add, nI_clamp, nx_inb, nx_ck, Option.bind_some, nx_get, nx_get2, nx_dif, nx_or, bI_0, bI_01, bI_nt, bI_nf, if_true, if_false, ite_true, ite_false, not_true_eq_false, not_false_eq_true, and_true, true_and, and_false, false_and, Bool.false_eq_true, Bool.true_eq_false, reduceCtorEq]
  have e5 : (sqH h c s.2.2.1).1 4 0 5 = nI Ho := by unfold sqH; simp (disch := omega) only [hHo, nq_nf, nq_nt, nq_le_t, nq_le_f, nq_lt_t, nq_lt_f, nq_eq_t, nq_eq_f, nq_neg, nq_pos, nq_le0f, nq_le0t, nq_lt0t, nq_lt0f, nq_eq0f, nq_eq0t, nI_add, nI_clamp, nx_inb, nx_ck, Option.bind_some, nx_get, nx_get2, nx_dif, nx_or, bI_0, bI_01, bI_nt, bI_nf, if_true, if_false, ite_true, ite_false, not_true_eq_false, not_false_eq_true, and_true, true_and, and_false, false_and, Bool.false_eq_true, Bool.true_eq_false, reduceCtorEq]
  have eJ : ∀ k, k < 10 → (sqH h c s.2.2.1).1 27 0 k = nI (J k) := fun k hk => by unfold sqH; simp (disch := omega) only [hc, nq_nf, nq_nt, nq_le_t, nq_le_f, nq_lt_t, nq_lt_f, nq_eq_t, nq_eq_f, nq_neg, nq_pos, nq_le0f, nq_le0t, nq_lt0t, nq_lt0f, nq_eq0f, nq_eq0t, nI_add, nI_clamp, nx_inb, nx_ck, Option.bind_some, nx_get, nx_get2, nx_dif, nx_or, bI_0, bI_01, bI_nt, bI_nf, if_true, if_false, ite_true, ite_false, not_true_eq_false, not_false_eq_true, and_true, true_and, and_false, false_and, Bool.false_eq_true, Bool.true_eq_false, reduceCtorEq]
  unfold hb_135_72 hb_135_136
  rw [e1, if_neg (nI_ge hb (by omega)), sp_33 eJ (by omega) (by omega) (by omega), Option.bind_some]
  dsimp only
  unfold sqS
  cases c1 : (J a).testBit b with
  | false =>
    rw [if_pos (by decide), if_neg Bool.false_ne_true, nI_add]
  | true =>
    rw [if_neg (by decide), if_pos rfl, sp_45 (J := J) (N := N) (Ho := Ho) e1 e5 hN2 eJ hJ hJs hf hHd (by omega) hb (by omega) c1, Option.bind_some]
    dsimp only
    have hov : opv (tieJ J a b false) N Hd f Ho < 1024 := by
      have h1 := (opn_lt (Hd := Hd) (tie_lt (is := false) (show a < N by omega) hb hJ) hf 9).2
      have h2 := and_lt (n := N) Ho h1
      unfold opv
      omega
    rw [sp_240 hov, Option.bind_some]
    dsimp only
    have e6 : hs_put (sqH h c s.2.2.1) 4 0 6 ((sqH h c s.2.2.1).1 4 0 6 + nI 1 + nI 1) = sqH h c (s.2.2.1 + 1) := by
      unfold sqH
      refine hs_ext (fun c' i' k' => ?_) rfl
      rw [nx_get, nx_get, nx_get, nx_get]
      by_cases q : c' = 4 ∧ i' = 0 ∧ k' = 6
      · rw [if_pos q, if_pos q, if_pos ⟨rfl, rfl, rfl⟩, nI_add, nI_add, show c + 2 * s.2.2.1 + 1 + 1 = c + 2 * (s.2.2.1 + 1) by omega]
      · rw [if_neg q, if_neg q, if_neg q]
    rw [e6]
    have hpl := pcn_le (opv (tieJ J a b false) N Hd f Ho) 10
    by_cases c2 : pcn 10 (opv (tieJ J a b false) N Hd f Ho) < s.2.1
    · rw [if_neg (nI_ge c2 (by omega)), if_pos c2]
      unfold hf_149
      rw [Option.bind_some]
      dsimp only
      rw [pk_mul, nI_add, nI_add]
    · rw [if_pos (nI_le (by omega) (by omega)), if_neg c2, nI_add]
theorem sp_225s {a b : Nat} {h : hs_H} {s : sqT} {x3 : Int32} (k46 : Int32 × Int32 × Int32 × Int32 × Int32 × Int32 × hs_H → Option (Int32 × hs_H)) (k61 : Int32 × Int32 × Int32 × Int32 × Int32 × Int32 × Int32 × hs_H → Option (Int32 × hs_H)) (hN : h.1 12 0 2 = nI N) (hHo : h.1 12 0 5 = nI Ho) (hN2 : N ≤ 10) (hm : ∀ k, k < 10 → h.1 44 0 k = nI (J k)) (hJ : ∀ k, J k < 2 ^ N) (hJs : ∀ a b, (J a).testBit b = (J b).testBit a) (hf : f < N) (hHd : Hd < 2 ^ N) (ha : a < b) (hb : b < N) (h2 : s.2.1 ≤ 10) : hb_225_61 k46 k61 (nI f) (nI Hd) x3 (nI s.1) (nI s.2.1) (nI a) (nI b) (rw48 h s.2.2.2) = k61 (nI f, nI Hd, x3, nI (sqS J N Hd f Ho a b s).1, nI (sqS J N Hd f Ho a b s).2.1, nI a, nI (b + 1), rw48 h (sqS J N Hd f Ho a b s).2.2.2) := by
  have hp := p2_lt hN2
  have hJa := hJ a
  have e1 : (rw48 h s.2.2.2).1 12 0 2 = nI N := by rw [rw48_ne (by decide)]; exact hN
  have e5 : (rw48 h s.2.2.2).1 12 0 5 = nI Ho := by rw [rw48_ne (by decide)]; exact hHo
  have eJ : ∀ k, k < 10 → (rw48 h s.2.2.2).1 44 0 k = nI (J k) := fun k hk => by rw [rw48_ne (by decide)]; exact hm k hk
  unfold hb_225_61 hb_225_148
  rw [e1, if_neg (nI_ge hb (by omega)), sp_172 (J := J) (fun k hk => by rw [Nat.zero_add]; exact eJ k hk) (by omega) (by omega) (by omega), Option.bind_some]
  dsimp only
  unfold sqS
  cases c1 : (J a).testBit b with
  | false =>
    rw [if_pos (by decide), if_neg Bool.false_ne_true, nI_add]
  | true =>
    rw [if_neg (by decide), if_pos rfl, sp_225t (J := J) (N := N) (Ho := Ho) e1 e5 hN2 eJ hJ hJs hf hHd (by omega) hb (by omega) c1 (fun v q => if nI s.2.1 ≤ v then hb_225_130 k46 k61 (nI f) (nI Hd) x3 (nI s.2.1) (nI a) (nI b) v (nI s.1) q else hb_225_130 k46 k61 (nI f) (nI Hd) x3 (nI s.2.1) (nI a) (nI b) v (((nI 10) * nI a) + nI b) q), rw48_2]
    unfold hb_225_130 hb_225_146 hb_225_148
    have hpl := pcn_le (opv (tieJ J a b false) N Hd f Ho) 10
    by_cases c2 : pcn 10 (opv (tieJ J a b false) N Hd f Ho) < s.2.1
    · rw [if_neg (nI_ge c2 (by omega)), if_neg (nI_ge c2 (by omega)), if_pos c2, pk_mul, nI_add, nI_add]
    · rw [if_pos (nI_le (by omega) (by omega)), if_pos (nI_le (by omega) (by omega)), if_neg c2, nI_add]
end SQ
def stop_a (x3 : Int32) (s : sqT) : Int32 := if s.1 = 4294967292 then nI 4294967292 else if x3 = 0 then nI s.1 else nI s.2.1
section SR
variable {J : Nat → Nat} {N Hd f Ho : Nat}
theorem sp_135 {c : Nat} {h : hs_H} {x3 : Int32} (hN : h.1 4 0 1 = nI N) (hHo : h.1 4 0 5 = nI Ho) (hN2 : N ≤ 10) (hc : ∀ k, k < 10 → h.1 27 0 k = nI (J k)) (hJ : ∀ k, J k < 2 ^ N) (hJs : ∀ a b, (J a).testBit b = (J b).testBit a) (hf : f < N) (hHd : Hd < 2 ^ N) : hs_lp (fun k s => hb_135_54 k s.1 s.2.1 s.2.2.1 s.2.2.2.1 s.2.2.2.2.1 s.2.2.2.2.2.1 s.2.2.2.2.2.2) hs_big (nI f, nI Hd, x3, nI 4294967292, nI (pcn 10 (opv J N Hd f Ho)), nI 0, sqH h c 0) = some (stop_a x3 (sq J N Hd f Ho N), sqH h c (sq J N Hd f Ho N).2.2.1) := by
  have hsb := sq_b (J := J) (N := N) (Hd := Hd) (f := f) (Ho := Ho) hN2
  refine lp_for (st := fun a => (nI f, nI Hd, x3, nI (sq J N Hd f Ho a).1, nI (sq J N Hd f Ho a).2.1, nI a, sqH h c (sq J N Hd f Ho a).2.2.1)) (e := N) (fun a ha k => ?_) (fun k => ?_) 0 hs_big (by omega) (lp_big (by omega))
  · show hb_135_54 k (nI f) (nI Hd) x3 (nI (sq J N Hd f Ho a).1) (nI (sq J N Hd f Ho a).2.1) (nI a) (sqH h c (sq J N Hd f Ho a).2.2.1) = k (nI f, nI Hd, x3, nI (sqr J N Hd f Ho a (sq J N Hd f Ho a) (N - 1 - a)).1, nI (sqr J N Hd f Ho a (sq J N Hd f Ho a) (N - 1 - a)).2.1, nI (a + 1), sqH h c (sqr J N Hd f Ho a (sq J N Hd f Ho a) (N - 1 - a)).2.2.1)
    obtain ⟨b1, b2, -⟩ := hsb a (by omega)
    generalize sq J N Hd f Ho a = s at b1 b2
    have e1 : ∀ m, (sqH h c m).1 4 0 1 = nI N := fun m => by unfold sqH; simp (disch := omega) only [hN, nq_nf, nq_nt, nq_le_t, nq_le_f, nq_lt_t, nq_lt_f, nq_eq_t, nq_eq_f, nq_neg, nq_pos, nq_le0f, nq_le0t, nq_lt0t, nq_lt0f, nq_eq0f, nq_eq0t, nI_add, nI_clamp, nx_inb, nx_ck, Option.bind_some, nx_get, nx_get2, nx_dif, nx_or, bI_0, bI_01, bI_nt, bI_nf, if_true, if_false, ite_true, ite_false, not_true_eq_false, not_false_eq_true, and_true, true_and, and_false, false_and, Bool.false_eq_true, Bool.true_eq_false, reduceCtorEq]
    have rb := sqr_b (J := J) (N := N) (Hd := Hd) (f := f) (Ho := Ho) (a := a) (s := s) hN2 b1 b2
    unfold hb_135_54
    rw [e1, if_neg (nI_ge ha (by omega)), nI_add]
    refine lp_for (st := fun j => (nI f, nI Hd, x3, nI (sqr J N Hd f Ho a s j).1, nI (sqr J N Hd f Ho a s j).2.1, nI a, nI (a + 1 + j), sqH h c (sqr J N Hd f Ho a s j).2.2.1)) (e := N - 1 - a) (fun j hj q => ?_) (fun q => ?_) 0 hs_big (by omega) (lp_big (by omega))
    · exact sp_135s (s := sqr J N Hd f Ho a s j) k q hN hHo hN2 hc hJ hJs hf hHd (by omega) (by omega) (rb j (by omega)).2.1
    · show hb_135_72 k q (nI f) (nI Hd) x3 (nI (sqr J N Hd f Ho a s (N - 1 - a)).1) (nI (sqr J N Hd f Ho a s (N - 1 - a)).2.1) (nI a) (nI (a + 1 + (N - 1 - a))) (sqH h c (sqr J N Hd f Ho a s (N - 1 - a)).2.2.1) = _
      unfold hb_135_72
      rw [e1, if_pos (nI_le (by omega) (by omega)), nI_add]
  · show hb_135_54 k (nI f) (nI Hd) x3 (nI (sq J N Hd f Ho N).1) (nI (sq J N Hd f Ho N).2.1) (nI N) (sqH h c (sq J N Hd f Ho N).2.2.1) = _
    obtain ⟨b1, b2, -⟩ := hsb N (Nat.le_refl _)
    generalize sq J N Hd f Ho N = s at b1 b2
    have e1 : (sqH h c s.2.2.1).1 4 0 1 = nI N := by unfold sqH; simp (disch := omega) only [hN, nq_nf, nq_nt, nq_le_t, nq_le_f, nq_lt_t, nq_lt_f, nq_eq_t, nq_eq_f, nq_neg, nq_pos, nq_le0f, nq_le0t, nq_lt0t, nq_lt0f, nq_eq0f, nq_eq0t, nI_add, nI_clamp, nx_inb, nx_ck, Option.bind_some, nx_get, nx_get2, nx_dif, nx_or, bI_0, bI_01, bI_nt, bI_nf, if_true, if_false, ite_true, ite_false, not_true_eq_false, not_false_eq_true, and_true, true_and, and_false, false_and, Bool.false_eq_true, Bool.true_eq_false, reduceCtorEq]
    unfold hb_135_54 hb_135_159 hb_135_166 stop_a
    rw [e1, if_pos (nI_le (Nat.le_refl _) (by omega))]
    by_cases q1 : s.1 = 4294967292
    · rw [if_pos q1, q1]
      by_cases q2 : x3 = 0
      · rw [if_pos q2]
      · rw [if_neg q2, if_neg (fun q => q rfl)]
    · rw [if_neg q1]
      by_cases q2 : x3 = 0
      · rw [if_pos q2, if_pos q2]
      · rw [if_neg q2, if_neg q2, if_pos (fun q => q1 (nI_inj (by omega) (by omega) q))]
theorem sp_225 {h : hs_H} {x3 : Int32} (hN : h.1 12 0 2 = nI N) (hHo : h.1 12 0 5 = nI Ho) (hN2 : N ≤ 10) (hm : ∀ k, k < 10 → h.1 44 0 k = nI (J k)) (hJ : ∀ k, J k < 2 ^ N) (hJs : ∀ a b, (J a).testBit b = (J b).testBit a) (hf : f < N) (hHd : Hd < 2 ^ N) : hs_lp (fun k s => hb_225_46 k s.1 s.2.1 s.2.2.1 s.2.2.2.1 s.2.2.2.2.1 s.2.2.2.2.2.1 s.2.2.2.2.2.2) hs_big (nI f, nI Hd, x3, nI 4294967292, nI (pcn 10 (opv J N Hd f Ho)), nI 0, rw48 h (lab N Hd J 10)) = some (stop_a x3 (sq J N Hd f Ho N), rw48 h (sq J N Hd f Ho N).2.2.2) := by
  have hsb := sq_b (J := J) (N := N) (Hd := Hd) (f := f) (Ho := Ho) hN2
  have e0 : rw48 h (lab N Hd J 10) = rw48 h (sq J N Hd f Ho 0).2.2.2 := by rw [sq_0]
  rw [e0]
  refine lp_for (st := fun a => (nI f, nI Hd, x3, nI (sq J N Hd f Ho a).1, nI (sq J N Hd f Ho a).2.1, nI a, rw48 h (sq J N Hd f Ho a).2.2.2)) (e := N) (fun a ha k => ?_) (fun k => ?_) 0 hs_big (by omega) (lp_big (by omega))
  · show hb_225_46 k (nI f) (nI Hd) x3 (nI (sq J N Hd f Ho a).1) (nI (sq J N Hd f Ho a).2.1) (nI a) (rw48 h (sq J N Hd f Ho a).2.2.2) = k (nI f, nI Hd, x3, nI (sqr J N Hd f Ho a (sq J N Hd f Ho a) (N - 1 - a)).1, nI (sqr J N Hd f Ho a (sq J N Hd f Ho a) (N - 1 - a)).2.1, nI (a + 1), rw48 h (sqr J N Hd f Ho a (sq J N Hd f Ho a) (N - 1 - a)).2.2.2)
    obtain ⟨b1, b2, -⟩ := hsb a (by omega)
    generalize sq J N Hd f Ho a = s at b1 b2
    have e1 : ∀ m, (rw48 h m).1 12 0 2 = nI N := fun m => by rw [rw48_ne (by decide)]; exact hN
    have rb := sqr_b (J := J) (N := N) (Hd := Hd) (f := f) (Ho := Ho) (a := a) (s := s) hN2 b1 b2
    unfold hb_225_46
    rw [e1, if_neg (nI_ge ha (by omega)), nI_add]
    refine lp_for (st := fun j => (nI f, nI Hd, x3, nI (sqr J N Hd f Ho a s j).1, nI (sqr J N Hd f Ho a s j).2.1, nI a, nI (a + 1 + j), rw48 h (sqr J N Hd f Ho a s j).2.2.2)) (e := N - 1 - a) (fun j hj q => ?_) (fun q => ?_) 0 hs_big (by omega) (lp_big (by omega))
    · exact sp_225s (s := sqr J N Hd f Ho a s j) k q hN hHo hN2 hm hJ hJs hf hHd (by omega) (by omega) (rb j (by omega)).2.1
    · show hb_225_61 k q (nI f) (nI Hd) x3 (nI (sqr J N Hd f Ho a s (N - 1 - a)).1) (nI (sqr J N Hd f Ho a s (N - 1 - a)).2.1) (nI a) (nI (a + 1 + (N - 1 - a))) (rw48 h (sqr J N Hd f Ho a s (N - 1 - a)).2.2.2) = _
      unfold hb_225_61
      rw [e1, if_pos (nI_le (by omega) (by omega)), nI_add]
  · show hb_225_46 k (nI f) (nI Hd) x3 (nI (sq J N Hd f Ho N).1) (nI (sq J N Hd f Ho N).2.1) (nI N) (rw48 h (sq J N Hd f Ho N).2.2.2) = _
    obtain ⟨b1, b2, -⟩ := hsb N (Nat.le_refl _)
    generalize sq J N Hd f Ho N = s at b1 b2
    have e1 : (rw48 h s.2.2.2).1 12 0 2 = nI N := by rw [rw48_ne (by decide)]; exact hN
    unfold hb_225_46 hb_225_183 stop_a
    rw [e1, if_pos (nI_le (Nat.le_refl _) (by omega))]
    by_cases q1 : s.1 = 4294967292
    · rw [if_pos q1, q1, if_neg (fun q => q rfl)]
    · rw [if_neg q1, if_pos (fun q => q1 (nI_inj (by omega) (by omega) q))]
      by_cases q2 : x3 = 0
      · rw [if_pos q2, if_neg (fun q => q q2)]
      · rw [if_neg q2, if_pos q2]
end SR
section CS
variable {VC : Nat → (Nat → Nat) → Nat → Int32 → Int32 → hs_H → Prop} {VH : Nat → (Nat → Nat) → Nat → hs_H → Prop} {VW : st_VW}
theorem cl_stop (V : st_V VC VH VW) {a e w : Int32} : st_call VC VH VW (hf_135 a e w) (hf_225 a e w) := by
  intro b h hb p
  have p0 := p
  obtain ⟨N, re, W, Ho, J, st, pl, mv, s, z, t, n, g, c, d, ⟨hc, hd⟩, ⟨⟨okN, okF, okS⟩, ⟨cN, cF, cS⟩, mJ, mF, mS⟩, mN, im, ca, rs⟩ := p
  obtain ⟨⟨hN1, hN2⟩, hre, hst, ⟨hW, hHo⟩, hJ, hJ0, hJs, hJa⟩ := id okN
  obtain ⟨cN1, cN2, cN3, cN4, cN5, cJ⟩ := id cN
  obtain ⟨mN1, mN2, mN3, mN4⟩ := id mN
  obtain ⟨mJ1, mJ2⟩ := st_mJ0 mJ
  obtain ⟨mF1, mF2, mF3⟩ := st_mF0 mF
  obtain ⟨mS1, mS2⟩ := st_mS0 mS
  obtain ⟨cF1, cF2, cF3⟩ := id cF
  obtain ⟨cS1, cS2⟩ := id cS
  have hp := p2_lt hN2
  obtain ⟨⟨ca1, ca2⟩, ca3, ca4, ca5⟩ := id ca
  by_cases hok : nd N a = true ∧ nm N e = true ∧ rg 0 1 w = true
  · obtain ⟨i, hi, rfl⟩ := (nd_of (by omega)).mp hok.1
    obtain ⟨j, hj, rfl⟩ := (nm_of (by omega)).mp hok.2.1
    obtain ⟨x, -, hx, rfl⟩ := (rg_of (by omega)).mp hok.2.2
    have hJ1 : ∀ k, J k < 1024 := fun k => by have := hJ k; omega
    have hov : opv J N j i Ho < 1024 := by
      have h1 := (opn_lt (Hd := j) hJ hi 9).2
      have h2 := and_lt (n := N) Ho h1
      unfold opv
      omega
    have hcnt := ((sq_b (J := J) (N := N) (Hd := j) (f := i) (Ho := Ho) hN2) N (Nat.le_refl _)).2.2
    have hsb := sqb_le N (by omega)
    refine ⟨stop_a (nI x) (sq J N j i Ho N), sqH h c (sq J N j i Ho N).2.2.1, rw48 (sqH h c (sq J N j i Ho N).2.2.1) (sq J N j i Ho N).2.2.2, ?_, ?_, ?_⟩
    · have main := sp_135 (c := c) (x3 := nI x) cN1 cN5 hN2 cJ hJ hJs hi hj
      rw [sqH_0 ca1] at main
      unfold hf_135
      rw [sp_29 cN1 (by omega), hok.1, Option.bind_some]
      dsimp only
      rw [if_neg (by decide), sp_30 cN1 (by omega), hok.2.1, Option.bind_some]
      dsimp only
      rw [if_neg (by decide), if_neg (nI_pos (by omega)), if_pos (nI_le hx (by omega)), sp_44 cN1 cN5 hN2 cJ hJ hi hj, Option.bind_some]
      dsimp only
      rw [sp_240 hov, Option.bind_some]
      exact main
    · generalize (sq J N j i Ho N).2.2.1 = cnt
      have e1 : (sqH h c cnt).1 12 0 2 = nI N := by unfold sqH; simp (disch := omega) only [mN1, nq_nf, nq_nt, nq_le_t, nq_le_f, nq_lt_t, nq_lt_f, nq_eq_t, nq_eq_f, nq_neg, nq_pos, nq_le0f, nq_le0t, nq_lt0t, nq_lt0f, nq_eq0f, nq_eq0t, nI_add, nI_clamp, nx_inb, nx_ck, Option.bind_some, nx_get, nx_get2, nx_dif, nx_or, bI_0, bI_01, bI_nt, bI_nf, if_true, if_false, ite_true, ite_false, not_true_eq_false, not_false_eq_true, and_true, true_and, and_false, false_and, Bool.false_eq_true, Bool.true_eq_false, reduceCtorEq]
      have e4 : (sqH h c cnt).1 12 0 5 = nI Ho := by unfold sqH; simp (disch := omega) only [mN4, nq_nf, nq_nt, nq_le_t, nq_le_f, nq_lt_t, nq_lt_f, nq_eq_t, nq_eq_f, nq_neg, nq_pos, nq_le0f, nq_le0t, nq_lt0t, nq_lt0f, nq_eq0f, nq_eq0t, nI_add, nI_clamp, nx_inb, nx_ck, Option.bind_some, nx_get, nx_get2, nx_dif, nx_or, bI_0, bI_01, bI_nt, bI_nf, if_true, if_false, ite_true, ite_false, not_true_eq_false, not_false_eq_true, and_true, true_and, and_false, false_and, Bool.false_eq_true, Bool.true_eq_false, reduceCtorEq]
      have eJ : ∀ k, k < 10 → (sqH h c cnt).1 44 0 k = nI (J k) := fun k hk => by unfold sqH; simp (disch := omega) only [mJ1, nq_nf, nq_nt, nq_le_t, nq_le_f, nq_lt_t, nq_lt_f, nq_eq_t, nq_eq_f, nq_neg, nq_pos, nq_le0f, nq_le0t, nq_lt0t, nq_lt0f, nq_eq0f, nq_eq0t, nI_add, nI_clamp, nx_inb, nx_ck, Option.bind_some, nx_get, nx_get2, nx_dif, nx_or, bI_0, bI_01, bI_nt, bI_nf, if_true, if_false, ite_true, ite_false, not_true_eq_false, not_false_eq_true, and_true, true_and, and_false, false_and, Bool.false_eq_true, Bool.true_eq_false, reduceCtorEq]
      generalize sqH h c cnt = H at e1 e4 eJ
      have main := sp_225 (h := H) (x3 := nI x) e1 e4 hN2 eJ hJ hJs hi hj
      unfold hf_225
      rw [sp_171 e1 (by omega) (by omega), hok.1, Option.bind_some]
      dsimp only
      rw [if_neg (by decide), sp_204 e1 (by omega), hok.2.1, Option.bind_some]
      dsimp only
      rw [if_neg (by decide), sp_150r (lo := 0) (hi := 1) rfl rfl, hok.2.2, Option.bind_some]
      dsimp only
      rw [if_pos (by decide), sp_223 e1 e4 hN2 eJ hJ hi hj, Option.bind_some]
      dsimp only
      rw [sp_152 (by omega), Option.bind_some]
      exact main
    · generalize sq J N j i Ho N = Z at hcnt
      by_cases hz : Z.2.2.1 = 0
      · rw [hz, sqH_0 ca1]
        exact (st_all_fr V (K := [(48, some 0)]) (hs_row_fr (.inl (.head _))) rfl p0).up VC VH VW (by omega)
      · have f : hs_fr [(4, some 0), (48, some 0)] h (rw48 (sqH h c Z.2.2.1) Z.2.2.2) := hs_fr.tr (hs_fr.rf.put (.inl (.head _))) (hs_row_fr (.inl (.tail _ (.head _))))
        have e4 : ∀ p, p ≠ 6 → (rw48 (sqH h c Z.2.2.1) Z.2.2.2).1 4 0 p = h.1 4 0 p := fun p hp => by rw [rw48_ne (by decide)]; unfold sqH; simp (disch := omega) only [nq_nf, nq_nt, nq_le_t, nq_le_f, nq_lt_t, nq_lt_f, nq_eq_t, nq_eq_f, nq_neg, nq_pos, nq_le0f, nq_le0t, nq_lt0t, nq_lt0f, nq_eq0f, nq_eq0t, nI_add, nI_clamp, nx_inb, nx_ck, Option.bind_some, nx_get, nx_get2, nx_dif, nx_or, bI_0, bI_01, bI_nt, bI_nf, if_true, if_false, ite_true, ite_false, not_true_eq_false, not_false_eq_true, and_true, true_and, and_false, false_and, Bool.false_eq_true, Bool.true_eq_false, reduceCtorEq]
        have e6 : (rw48 (sqH h c Z.2.2.1) Z.2.2.2).1 4 0 6 = nI (c + 2 * Z.2.2.1) := by rw [rw48_ne (by decide)]; unfold sqH; simp (disch := omega) only [nq_nf, nq_nt, nq_le_t, nq_le_f, nq_lt_t, nq_lt_f, nq_eq_t, nq_eq_f, nq_neg, nq_pos, nq_le0f, nq_le0t, nq_lt0t, nq_lt0f, nq_eq0f, nq_eq0t, nI_add, nI_clamp, nx_inb, nx_ck, Option.bind_some, nx_get, nx_get2, nx_dif, nx_or, bI_0, bI_01, bI_nt, bI_nf, if_true, if_false, ite_true, ite_false, not_true_eq_false, not_false_eq_true, and_true, true_and, and_false, false_and, Bool.false_eq_true, Bool.true_eq_false, reduceCtorEq]
        have e27 : (rw48 (sqH h c Z.2.2.1) Z.2.2.2).1 27 0 = h.1 27 0 := (f 27 0 (by intro q hq; revert q; simp)).1
        exact ⟨N, re, W, Ho, J, st, pl, mv, s, z, t, n, g, c + 2 * Z.2.2.1, d, ⟨by omega, by omega⟩, ⟨⟨okN, okF, okS⟩, ⟨⟨by rw [e4 _ (by omega)]; exact cN1, by rw [e4 _ (by omega)]; exact cN2, by rw [e4 _ (by omega)]; exact cN3, by rw [e4 _ (by omega)]; exact cN4, by rw [e4 _ (by omega)]; exact cN5, fun k hk => by rw [e27]; exact cJ k hk⟩, st_cF_dep.fr f rfl cF, st_cS_dep.fr f rfl cS⟩, st_mJ_dep.fr f rfl mJ, st_mF_dep.fr f rfl mF, st_mS_dep.fr f rfl mS⟩, st_mN_dep.fr f rfl mN, st_imgs_dep.fr f rfl im, ⟨⟨e6, (f 5 0 (by intro q hq; revert q; simp)).1 ▸ ca2⟩, st_cas_new (by omega) ((st_cas_dep V).fr f rfl ca3), st_cha_new (by omega) ((st_cha_dep V).fr f rfl ca4), st_way_new (by omega) (Nat.le_refl _) (Or.inl (by omega)) ((st_way_dep V).fr f rfl ca5)⟩, st_rest_dep.fr f rfl rs⟩
  · refine ⟨nI 4294967295, h, h, ?_, ?_, p0.up VC VH VW (by omega)⟩
    · unfold hf_135 hb_135_31
      rw [sp_29 cN1 (by omega), Option.bind_some]
      dsimp only
      cases h1 : nd N a with
      | false => rw [if_pos (by decide)]
      | true =>
        rw [if_neg (by decide), sp_30 cN1 (by omega), Option.bind_some]
        dsimp only
        cases h2 : nm N e with
        | false => rw [if_pos (by decide)]
        | true =>
          have h3 : rg 0 1 w = false := eq_false_of_ne_true (fun q => hok ⟨h1, h2, q⟩)
          rw [if_neg (by decide)]
          rcases rg_f (by omega) h3 with h4 | ⟨h4, h5⟩
          · rw [if_pos h4]
          · rw [if_neg h4, if_neg h5]
    · unfold hf_225 hb_225_26
      rw [sp_171 mN1 (by omega) (by omega), Option.bind_some]
      dsimp only
      cases h1 : nd N a with
      | false => rw [if_pos (by decide)]
      | true =>
        rw [if_neg (by decide), sp_204 mN1 (by omega), Option.bind_some]
        dsimp only
        cases h2 : nm N e with
        | false => rw [if_pos (by decide)]
        | true =>
          have h3 : rg 0 1 w = false := eq_false_of_ne_true (fun q => hok ⟨h1, h2, q⟩)
          rw [if_neg (by decide), sp_150r (lo := 0) (hi := 1) rfl rfl, h3, Option.bind_some]
          dsimp only
          rw [if_neg (by decide)]
end CS
