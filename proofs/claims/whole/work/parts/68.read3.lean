/-! read: the model's loop. -/
theorem i64_sum {x : Int32} {a b : Nat} (ha : a < 1000) (hb : b < 1000) : ((x.toInt64 + (nI a).toInt64) + (nI b).toInt64).toInt = x.toInt + a + b := by
  have h1 : x.toInt < 2147483648 := Int32.toInt_lt x
  have h2 : -2147483648 ≤ x.toInt := Int32.le_toInt x
  have e1 : (x.toInt64 + (nI a).toInt64).toInt = x.toInt + a := by
    have e : (x.toInt64 + (nI a).toInt64).toInt = (x.toInt + a).bmod 18446744073709551616 := by rw [Int64.toInt_add, i64_of, nI_64 (by omega)]
    rw [e, Int.bmod_def]
    omega
  have e : ((x.toInt64 + (nI a).toInt64) + (nI b).toInt64).toInt = (x.toInt + a + b).bmod 18446744073709551616 := by rw [Int64.toInt_add, e1, nI_64 (by omega)]
  rw [e, Int.bmod_def]
  omega
abbrev RdK : Type := Int32 × Int32 × Int32 × Int32 × Int32 × Int32 × Int32 × Int32 × hs_H → Option (Int32 × hs_H)
abbrev RdK2 : Type := Int32 × Int32 × Int32 × Int32 × Int32 × Int32 × Int32 × Int32 × Int32 × hs_H → Option (Int32 × hs_H)
theorem rd_56s {k41 : RdK} {k56 : RdK2} {x1 l x x4 x5 x6 x7 x8 x9 : Int32} {h : hs_H} (hs : nI 3 ≤ x9 ∨ ¬ x6 = 0) : hb_237_56 k41 k56 x1 l x x4 x5 x6 x7 x8 x9 h = hb_237_143 k41 x1 l x x4 x5 x6 x7 x8 h := by
  unfold hb_237_56
  by_cases h1 : nI 3 ≤ x9
  · rw [if_pos h1]
  · rw [if_neg h1, if_pos (hs.resolve_left h1)]
theorem rd_56n {k41 : RdK} {k56 : RdK2} {k : Nat} {l x x4 x5 x7 x8 : Int32} {h : hs_H} (hk : k < 4) (hu : st_u k none h) : hb_237_56 k41 k56 (nI k) l x x4 x5 (nI 0) x7 x8 (nI 0) h = k56 (nI k, l, x, x4, x5, nI 1, x7, x8, nI 1, h) := by
  have hq : (nI 4294967292 = nI 4294967292) = True := eq_true rfl
  unfold hb_237_56 hb_237_135
  simp (disch := omega) only [hu.2, hq, nq_nf, nq_nt, nq_le_t, nq_le_f, nq_lt_t, nq_lt_f, nq_eq_t, nq_eq_f, nq_neg, nq_pos, nq_le0f, nq_le0t, nq_lt0t, nq_lt0f, nq_eq0f, nq_eq0t, nI_add, nI_clamp, nx_inb, nx_ck, Option.bind_some, nx_get, nx_get2, nx_dif, nx_or, bI_0, bI_01, bI_nt, bI_nf, if_true, if_false, ite_true, ite_false, not_true_eq_false, not_false_eq_true, and_true, true_and, and_false, false_and, Bool.false_eq_true, Bool.true_eq_false, reduceCtorEq]
theorem rd_56l {k41 : RdK} {k56 : RdK2} {k ln n : Nat} {l x x4 x5 x7 x8 : Int32} {h : hs_H} (hk : k < 4) (hu : st_u k (some (ln, n)) h) (hl : ¬ nI ln = l) : hb_237_56 k41 k56 (nI k) l x x4 x5 (nI 0) x7 x8 (nI 0) h = k56 (nI k, l, x, x4, x5, nI 3, x7, x8, nI 1, h) := by
  obtain ⟨h1, h2, h3, h4, h5, h6, h7⟩ := hu
  have hq : (nI ln = nI 4294967292) = False := eq_false (fun h9 => by have := nI_inj (by omega) (by omega) h9; omega)
  have hl' : (nI ln = l) = False := eq_false hl
  unfold hb_237_56 hb_237_135
  simp (disch := omega) only [h4, hq, hl', nq_nf, nq_nt, nq_le_t, nq_le_f, nq_lt_t, nq_lt_f, nq_eq_t, nq_eq_f, nq_neg, nq_pos, nq_le0f, nq_le0t, nq_lt0t, nq_lt0f, nq_eq0f, nq_eq0t, nI_add, nI_clamp, nx_inb, nx_ck, Option.bind_some, nx_get, nx_get2, nx_dif, nx_or, bI_0, bI_01, bI_nt, bI_nf, if_true, if_false, ite_true, ite_false, not_true_eq_false, not_false_eq_true, and_true, true_and, and_false, false_and, Bool.false_eq_true, Bool.true_eq_false, reduceCtorEq]
theorem rd_56 {k41 : RdK} {k56 : RdK2} {k ln n i j : Nat} {x x4 x5 x7 : Int32} {h : hs_H} (hk : k < 4) (hu : st_u k (some (ln, n)) h) (hi : i ≤ 10) (hj : j < 3) : hb_237_56 k41 k56 (nI k) (nI ln) x x4 x5 (nI 0) x7 (nI i) (nI j) h = k56 (nI k, nI ln, x, x4, x5, (if 0 ≤ x.toInt + (3 * i : Nat) + j ∧ x.toInt + (3 * i : Nat) + j < n then nI 0 else nI 2), x7, nI i, nI (j + 1), h) := by
  obtain ⟨h1, h2, h3, h4, h5, h6, h7⟩ := hu
  have hq : (nI ln = nI 4294967292) = False := eq_false (fun h9 => by have := nI_inj (by omega) (by omega) h9; omega)
  have e := i64_sum (x := x) (a := 3 * i) (b := j) (by omega) (by omega)
  unfold hb_237_56 hb_237_130 hb_237_135
  simp (disch := omega) only [h4, hq, pk_mul, nq_nf, nq_nt, nq_le_t, nq_le_f, nq_lt_t, nq_lt_f, nq_eq_t, nq_eq_f, nq_neg, nq_pos, nq_le0f, nq_le0t, nq_lt0t, nq_lt0f, nq_eq0f, nq_eq0t, nI_add, nI_clamp, nx_inb, nx_ck, Option.bind_some, nx_get, nx_get2, nx_dif, nx_or, bI_0, bI_01, bI_nt, bI_nf, if_true, if_false, ite_true, ite_false, not_true_eq_false, not_false_eq_true, and_true, true_and, and_false, false_and, Bool.false_eq_true, Bool.true_eq_false, reduceCtorEq]
  rw [h6]
  simp only [lg_cmp_lt, Int64.lt_iff_toInt_lt]
  rw [e, lN_t (by omega), nI_64 (show n < 2147483648 by omega)]
  by_cases c1 : x.toInt + (3 * i : Nat) + j < ((0 : Nat) : Int)
  · rw [if_pos c1, if_neg (by omega)]
  · rw [if_neg c1]
    by_cases c2 : x.toInt + (3 * i : Nat) + j < (n : Int)
    · rw [if_pos c2, if_pos (by omega)]
    · rw [if_neg c2, if_neg (by omega)]
abbrev rdL (k41 : RdK) : RdK2 → RdK2 := fun k s => hb_237_56 k41 k s.1 s.2.1 s.2.2.1 s.2.2.2.1 s.2.2.2.2.1 s.2.2.2.2.2.1 s.2.2.2.2.2.2.1 s.2.2.2.2.2.2.2.1 s.2.2.2.2.2.2.2.2.1 s.2.2.2.2.2.2.2.2.2
theorem rd_lp {k41 : RdK} {fu : Nat} {x1 l x x4 x5 x6 x7 x8 x9 : Int32} {h : hs_H} : hs_lp (rdL k41) (fu + 1) (x1, l, x, x4, x5, x6, x7, x8, x9, h) = hb_237_56 k41 (hs_lp (rdL k41) fu) x1 l x x4 x5 x6 x7 x8 x9 h := rfl
theorem rd_in {k41 : RdK} {k i : Nat} {u : Option (Nat × Nat)} {l x x4 x5 x7 : Int32} {h : hs_H} (hk : k < 4) (hu : st_u k u h) (hi : i ≤ 10) : ∀ fu, 4 ≤ fu → hs_lp (rdL k41) fu (nI k, l, x, x4, x5, nI 0, x7, nI i, nI 0, h) = hb_237_143 k41 (nI k) l x x4 x5 (nI (kd3 u l x i)) x7 (nI i) h := by
  intro fu hfu
  match fu, hfu with
  | fu + 4, _ =>
    match u, hu with
    | none, hu =>
      rw [rd_lp, rd_56n hk hu, rd_lp, rd_56s (.inr (by decide))]
      rfl
    | some (ln, n), hu =>
      show _ = hb_237_143 k41 (nI k) l x x4 x5 (nI (if nI ln = l then (if in3 n x i = true then 0 else 2) else 3)) x7 (nI i) h
      by_cases hl : nI ln = l
      · subst hl
        rw [if_pos rfl, rd_lp, rd_56 hk hu hi (by omega)]
        by_cases c0 : 0 ≤ x.toInt + (3 * i : Nat) + (0 : Nat) ∧ x.toInt + (3 * i : Nat) + (0 : Nat) < (n : Int)
        · rw [if_pos c0, rd_lp, rd_56 hk hu hi (by omega)]
          by_cases c1 : 0 ≤ x.toInt + (3 * i : Nat) + (0 + 1 : Nat) ∧ x.toInt + (3 * i : Nat) + (0 + 1 : Nat) < (n : Int)
          · rw [if_pos c1, rd_lp, rd_56 hk hu hi (by omega)]
            by_cases c2 : 0 ≤ x.toInt + (3 * i : Nat) + (0 + 1 + 1 : Nat) ∧ x.toInt + (3 * i : Nat) + (0 + 1 + 1 : Nat) < (n : Int)
            · rw [if_pos c2, rd_lp, rd_56s (.inl (by decide)), if_pos]
              unfold in3
              rw [decide_eq_true_eq]
              omega
            · rw [if_neg c2, rd_lp, rd_56s (.inl (by decide)), if_neg]
              unfold in3
              rw [decide_eq_true_eq]
              omega
          · rw [if_neg c1, rd_lp, rd_56s (.inr (by decide)), if_neg]
            unfold in3
            rw [decide_eq_true_eq]
            omega
        · rw [if_neg c0, rd_lp, rd_56s (.inr (by decide)), if_neg]
          unfold in3
          rw [decide_eq_true_eq]
          omega
      · rw [if_neg hl, rd_lp, rd_56l hk hu hl, rd_lp, rd_56s (.inr (by decide))]
