/-! open: the fox's front, the hounds' balls. -/
/-- the bits below n that P picks -/
def sel (P : Nat → Bool) : Nat → Nat
  | 0 => 0
  | n + 1 => sel P n ||| (if P n = true then 2 ^ n else 0)
theorem tb_sel {P : Nat → Bool} (i : Nat) : ∀ n, (sel P n).testBit i = (decide (i < n) && P i) := by
  intro n
  induction n with
  | zero => show (0 : Nat).testBit i = _; rw [Nat.zero_testBit, decide_eq_false (by omega)]; rfl
  | succ n ih =>
    show (sel P n ||| (if P n = true then 2 ^ n else 0)).testBit i = _
    rw [Nat.testBit_or, ih]
    by_cases h : i = n
    · subst h
      rw [decide_eq_false (by omega), decide_eq_true (by omega), Bool.false_and, Bool.false_or, Bool.true_and]
      cases hp : P i with
      | true => rw [if_pos rfl, tb_pow]; exact decide_eq_true rfl
      | false => rw [if_neg Bool.false_ne_true, Nat.zero_testBit]
    · have h2 : (if P n = true then 2 ^ n else 0).testBit i = false := by
        cases hp : P n with
        | true => rw [if_pos rfl, tb_pow]; exact decide_eq_false (by omega)
        | false => rw [if_neg Bool.false_ne_true, Nat.zero_testBit]
      rw [h2, Bool.or_false]
      by_cases h3 : i < n
      · rw [decide_eq_true h3, decide_eq_true (by omega)]
      · rw [decide_eq_false h3, decide_eq_false (by omega)]
theorem sel_lt {P : Nat → Bool} : ∀ n, sel P n < 2 ^ n := by
  intro n
  apply Nat.lt_pow_two_of_testBit
  intro i hi
  rw [tb_sel, decide_eq_false (by omega), Bool.false_and]
theorem uni0 {J : Nat → Nat} : ∀ n, uni J 0 n = 0 := by
  intro n
  induction n with
  | zero => rfl
  | succ n ih =>
    show uni J 0 n ||| (if (0 : Nat).testBit n = true then J n else 0) = 0
    rw [ih, Nat.zero_testBit, if_neg Bool.false_ne_true]
    rfl
theorem dif0 (b : Nat) : dif 0 b = 0 := Nat.zero_and _
def opn (J : Nat → Nat) (N Hd f : Nat) : Nat → Nat × Nat
  | 0 => (dif (2 ^ f) Hd, dif (2 ^ f) Hd)
  | s + 1 => (dif (dif (uni J (opn J N Hd f s).1 N) (bl J N Hd (s + 1))) (opn J N Hd f s).2, (opn J N Hd f s).2 ||| dif (dif (uni J (opn J N Hd f s).1 N) (bl J N Hd (s + 1))) (opn J N Hd f s).2)
section OP
variable {J : Nat → Nat} {N Hd f : Nat}
theorem opn_lt (hJ : ∀ k, J k < 2 ^ N) (hf : f < N) : ∀ s, (opn J N Hd f s).1 < 2 ^ N ∧ (opn J N Hd f s).2 < 2 ^ N := by
  intro s
  induction s with
  | zero =>
    have : dif (2 ^ f) Hd < 2 ^ N := Nat.lt_of_le_of_lt (dif_le _ _) (Nat.pow_lt_pow_right (by omega) hf)
    exact ⟨this, this⟩
  | succ s ih =>
    have : dif (dif (uni J (opn J N Hd f s).1 N) (bl J N Hd (s + 1))) (opn J N Hd f s).2 < 2 ^ N := Nat.lt_of_le_of_lt (Nat.le_trans (dif_le _ _) (dif_le _ _)) (uni_lt hJ N)
    exact ⟨this, or_lt ih.2 this⟩
theorem opn_S {s : Nat} (h : (opn J N Hd f s).1 = 0) : opn J N Hd f (s + 1) = (0, (opn J N Hd f s).2) := by
  show (dif (dif (uni J (opn J N Hd f s).1 N) (bl J N Hd (s + 1))) (opn J N Hd f s).2, (opn J N Hd f s).2 ||| dif (dif (uni J (opn J N Hd f s).1 N) (bl J N Hd (s + 1))) (opn J N Hd f s).2) = _
  rw [h, uni0, dif0, dif0, Nat.or_zero]
theorem opn_stay {s : Nat} (h : (opn J N Hd f s).1 = 0) : ∀ d, opn J N Hd f (s + d) = (0, (opn J N Hd f s).2) := by
  intro d
  induction d with
  | zero => exact Prod.ext h rfl
  | succ d ih =>
    have h2 := opn_S (J := J) (N := N) (Hd := Hd) (f := f) (s := s + d) (by rw [ih])
    show opn J N Hd f (s + d + 1) = _
    rw [h2, ih]
theorem opn_end {s : Nat} (h : (opn J N Hd f s).1 = 0) (hs : s ≤ 9) : (opn J N Hd f s).2 = (opn J N Hd f 9).2 := by
  have := opn_stay h (9 - s)
  rw [show s + (9 - s) = 9 by omega] at this
  rw [this]
theorem tb_ne0 {a : Nat} (h : a ≠ 0) : ∃ j, a.testBit j = true := by
  obtain ⟨j, -, hj⟩ := tb_new (a := 0) (b := a) (fun i q => by rw [Nat.zero_testBit] at q; cases q) h
  exact ⟨j, hj⟩
theorem opn_cnt (hJ : ∀ k, J k < 2 ^ N) (hN : N ≤ 10) (hf : f < N) : ∀ s, (opn J N Hd f s).1 ≠ 0 → s + 1 ≤ pcn N (opn J N Hd f s).2 := by
  intro s
  induction s with
  | zero =>
    intro h
    obtain ⟨j, hj⟩ := tb_ne0 h
    have := pcn_lt (a := 0) (b := (opn J N Hd f 0).2) (fun i q => by rw [Nat.zero_testBit] at q; cases q) (Nat.zero_testBit j) hj N (tb_in (opn_lt hJ hf 0).1 hj)
    omega
  | succ s ih =>
    intro h
    have h0 : (opn J N Hd f s).1 ≠ 0 := fun q => h (by rw [opn_S q])
    have h1 := ih h0
    obtain ⟨j, hj⟩ := tb_ne0 h
    have hp := p2_lt hN
    have hu := uni_lt (M := (opn J N Hd f s).1) hJ N
    have hd := dif_le (uni J (opn J N Hd f s).1 N) (bl J N Hd (s + 1))
    have hj2 : (dif (dif (uni J (opn J N Hd f s).1 N) (bl J N Hd (s + 1))) (opn J N Hd f s).2).testBit j = true := hj
    have hj3 := hj2
    rw [tb_dif (by omega), Bool.and_eq_true, Bool.not_eq_true'] at hj3
    have hs : ∀ i, (opn J N Hd f s).2.testBit i = true → (opn J N Hd f (s + 1)).2.testBit i = true := fun i q => by
      show ((opn J N Hd f s).2 ||| dif (dif (uni J (opn J N Hd f s).1 N) (bl J N Hd (s + 1))) (opn J N Hd f s).2).testBit i = true
      rw [Nat.testBit_or, q]
      rfl
    have hn : (opn J N Hd f (s + 1)).2.testBit j = true := by
      show ((opn J N Hd f s).2 ||| dif (dif (uni J (opn J N Hd f s).1 N) (bl J N Hd (s + 1))) (opn J N Hd f s).2).testBit j = true
      rw [Nat.testBit_or, hj2, Bool.or_true]
    have := pcn_lt hs hj3.2 hn N (tb_in (opn_lt hJ hf (s + 1)).2 hn)
    omega
theorem opn_N (hJ : ∀ k, J k < 2 ^ N) (hN : N ≤ 10) (hN1 : 1 ≤ N) (hf : f < N) : (opn J N Hd f (N - 1)).2 = (opn J N Hd f 9).2 := by
  have h1 : (opn J N Hd f N).1 = 0 := by
    by_cases h : (opn J N Hd f N).1 = 0
    · exact h
    · have := opn_cnt hJ hN hf N h
      have := pcn_le (opn J N Hd f N).2 N
      omega
  have h2 : (opn J N Hd f N).2 = (opn J N Hd f (N - 1)).2 := by
    have e : opn J N Hd f N = opn J N Hd f (N - 1 + 1) := by rw [show N - 1 + 1 = N by omega]
    rw [e] at h1 ⊢
    have h1' : dif (dif (uni J (opn J N Hd f (N - 1)).1 N) (bl J N Hd (N - 1 + 1))) (opn J N Hd f (N - 1)).2 = 0 := h1
    show (opn J N Hd f (N - 1)).2 ||| dif (dif (uni J (opn J N Hd f (N - 1)).1 N) (bl J N Hd (N - 1 + 1))) (opn J N Hd f (N - 1)).2 = _
    rw [h1', Nat.or_zero]
  by_cases h9 : N = 10
  · subst h9; rfl
  · rw [← h2]
    exact opn_end h1 (by omega)
/-- the open holes -/
def opv (J : Nat → Nat) (N Hd f Ho : Nat) : Nat := (opn J N Hd f 9).2 &&& Ho
theorem sp_44 {o Ho : Nat} {h : hs_H} (hN : h.1 4 o 1 = nI N) (hHo : h.1 4 o 5 = nI Ho) (hN2 : N ≤ 10) (hc : ∀ k, k < 10 → h.1 27 o k = nI (J k)) (hJ : ∀ k, J k < 2 ^ N) (hf : f < N) (hHd : Hd < 2 ^ N) : hf_44 o (nI f) (nI Hd) h = some (nI (opv J N Hd f Ho), h) := by
  have hp := p2_lt hN2
  unfold hf_44
  rw [nx_shl1 (by omega), nx_dif]
  refine lp_q (I := fun d s => ∃ r, r < N ∧ d = N - r ∧ s = (nI (bl J N Hd r), nI (opn J N Hd f r).1, nI (opn J N Hd f r).2, nI (r + 1), h)) (Q := fun x => x = some (nI (opv J N Hd f Ho), h)) (fun d s hI => ?_) N _ hs_big ⟨0, by omega, rfl, rfl⟩ (lp_big (by omega))
  obtain ⟨r, hr, rfl, rfl⟩ := hI
  have hl := opn_lt (Hd := Hd) hJ hf r
  have hb := bl_lt hHd hJ r
  by_cases h1 : r + 1 = N
  · refine Or.inl (fun k => ?_)
    show hb_44_18 o k (nI (bl J N Hd r)) (nI (opn J N Hd f r).1) (nI (opn J N Hd f r).2) (nI (r + 1)) h = _
    unfold hb_44_18 hb_44_70
    rw [hN, h1, if_pos (nI_le (Nat.le_refl _) (by omega)), hHo, nx_and]
    have e := opn_N (Hd := Hd) hJ hN2 (by omega) hf
    rw [show N - 1 = r by omega] at e
    rw [e]
    rfl
  · by_cases h2 : (opn J N Hd f r).1 = 0
    · refine Or.inl (fun k => ?_)
      show hb_44_18 o k (nI (bl J N Hd r)) (nI (opn J N Hd f r).1) (nI (opn J N Hd f r).2) (nI (r + 1)) h = _
      unfold hb_44_18 hb_44_70
      rw [hN, if_neg (nI_ge (by omega) (by omega)), h2, if_pos (by decide), hHo, nx_and, opn_end h2 (by omega)]
      rfl
    · refine Or.inr ⟨N - (r + 1), _, by omega, ⟨r + 1, by omega, rfl, rfl⟩, fun k => ?_⟩
      show hb_44_18 o k (nI (bl J N Hd r)) (nI (opn J N Hd f r).1) (nI (opn J N Hd f r).2) (nI (r + 1)) h = _
      unfold hb_44_18
      rw [hN, if_neg (nI_ge (by omega) (by omega)), if_neg (nI_ne0 (by omega) (by omega)), sp_42 hN hN2 hc (by omega), Option.bind_some]
      dsimp only
      rw [sp_42 hN hN2 hc (by omega), Option.bind_some]
      dsimp only
      rw [nx_or, nx_dif, nx_dif, nx_or, nI_add]
      rfl
/-- the model's front -/
def opm (J : Nat → Nat) (N Hd f s : Nat) (i : Nat) : Bool := (uni J (opn J N Hd f s).1 N).testBit i && (!(opn J N Hd f s).2.testBit i && !decide (lab N Hd J 10 i ≤ s + 1))
theorem opm_sel (hJ : ∀ k, J k < 2 ^ N) (hN : N ≤ 10) (hHd : Hd < 2 ^ N) {s : Nat} (hs : s < 9) : sel (opm J N Hd f s) N = (opn J N Hd f (s + 1)).1 := by
  have hp := p2_lt hN
  have hu := uni_lt (M := (opn J N Hd f s).1) hJ N
  have hd := dif_le (uni J (opn J N Hd f s).1 N) (bl J N Hd (s + 1))
  apply tb_ext
  intro i
  show _ = (dif (dif (uni J (opn J N Hd f s).1 N) (bl J N Hd (s + 1))) (opn J N Hd f s).2).testBit i
  rw [tb_sel, tb_dif (by omega), tb_dif (by omega)]
  unfold opm
  have e : decide (lab N Hd J 10 i ≤ s + 1) = (bl J N Hd (s + 1)).testBit i := by
    apply Bool.eq_iff_iff.mpr
    rw [decide_eq_true_eq]
    exact lab_le hHd hJ (by omega)
  rw [e]
  by_cases hi : i < N
  · rw [decide_eq_true hi, Bool.true_and]
    cases (uni J (opn J N Hd f s).1 N).testBit i <;> cases (opn J N Hd f s).2.testBit i <;> cases (bl J N Hd (s + 1)).testBit i <;> rfl
  · rw [decide_eq_false hi, tb_hi hu (by omega)]
    rfl
theorem lab_lt {M r j : Nat} : lab N M J r j ≤ 99999 ∨ lab N M J r j ≤ r := by
  rcases labp_le (N := N) (M := M) (J := J) r j with q | q
  · exact Or.inr q
  · exact Or.inl (Nat.le_of_eq q)
theorem sp_223a {Ho r : Nat} {h : hs_H} {L : Nat → Nat} (k28 : Int32 × Int32 × Int32 × hs_H → Option (Int32 × hs_H)) (hN : h.1 12 0 2 = nI N) (hN2 : N ≤ 10) (hm : ∀ k, k < 10 → h.1 44 0 k = nI (J k)) (hJ : ∀ k, J k < 2 ^ N) (hf : f < N) (hr : r < 9) (hw : ∀ k, k < 10 → h.1 48 0 k = nI (lab N Hd J 10 k)) (hHd : Hd < 2 ^ N) : hs_lp (fun k s => hb_223_87 k28 k s.1 s.2.1 s.2.2.1 s.2.2.2.1 s.2.2.2.2.1 s.2.2.2.2.2) hs_big (nI 0, nI (opn J N Hd f r).2, nI (r + 1), nI (uni J (opn J N Hd f r).1 N), nI 0, h) = k28 (nI (opn J N Hd f (r + 1)).1, nI (opn J N Hd f (r + 1)).2, nI (r + 1 + 1), h) := by
  have hp := p2_lt hN2
  have hl := opn_lt (Hd := Hd) hJ hf r
  have hu := uni_lt (M := (opn J N Hd f r).1) hJ N
  refine lp_for (st := fun j => (nI (sel (opm J N Hd f r) j), nI (opn J N Hd f r).2, nI (r + 1), nI (uni J (opn J N Hd f r).1 N), nI j, h)) (e := N) (fun j hj k => ?_) (fun k => ?_) 0 hs_big (by omega) (lp_big (by omega))
  · show hb_223_87 k28 k (nI (sel (opm J N Hd f r) j)) (nI (opn J N Hd f r).2) (nI (r + 1)) (nI (uni J (opn J N Hd f r).1 N)) (nI j) h = k (nI (sel (opm J N Hd f r) j ||| (if opm J N Hd f r j = true then 2 ^ j else 0)), nI (opn J N Hd f r).2, nI (r + 1), nI (uni J (opn J N Hd f r).1 N), nI (j + 1), h)
    unfold hb_223_87 hb_223_137 hb_223_138
    have hll := lab_lt (N := N) (J := J) (M := Hd) (r := 10) (j := j)
    rw [hN, if_neg (nI_ge hj (by omega)), nx_bit (by omega) (by omega), nx_bit (by omega) (by omega), nx_inb (by omega) (by omega), nx_ck, nI_clamp (by omega), hw j (by omega), nx_or, nx_shl1 (by omega), nx_or, nI_add]
    unfold opm
    cases h1 : (uni J (opn J N Hd f r).1 N).testBit j with
    | false => rw [if_pos (by decide), Bool.false_and, if_neg Bool.false_ne_true]
    | true =>
      rw [if_neg (by decide), Bool.true_and]
      cases h2 : (opn J N Hd f r).2.testBit j with
      | true => rw [if_pos (by decide), Bool.not_true, Bool.false_and, if_neg Bool.false_ne_true]
      | false =>
        rw [if_neg (by decide), Bool.not_false, Bool.true_and]
        by_cases h3 : lab N Hd J 10 j ≤ r + 1
        · rw [if_pos (nI_le h3 (by omega)), decide_eq_true h3, Bool.not_true, if_neg Bool.false_ne_true]
        · rw [if_neg (nI_ge (by omega) (by omega)), decide_eq_false h3, Bool.not_false, if_pos rfl]
  · show hb_223_87 k28 k (nI (sel (opm J N Hd f r) N)) (nI (opn J N Hd f r).2) (nI (r + 1)) (nI (uni J (opn J N Hd f r).1 N)) (nI N) h = _
    unfold hb_223_87
    rw [hN, if_pos (nI_le (Nat.le_refl _) (by omega)), opm_sel hJ hN2 hHd hr, nx_or, nI_add]
    rfl
theorem sp_223b {r : Nat} {h : hs_H} (k28 : Int32 × Int32 × Int32 × hs_H → Option (Int32 × hs_H)) (hN : h.1 12 0 2 = nI N) (hN2 : N ≤ 10) (hm : ∀ k, k < 10 → h.1 44 0 k = nI (J k)) (hJ : ∀ k, J k < 2 ^ N) (hf : f < N) (hr : r < 9) (hw : ∀ k, k < 10 → h.1 48 0 k = nI (lab N Hd J 10 k)) (hHd : Hd < 2 ^ N) : hb_223_28 k28 (nI (opn J N Hd f r).1) (nI (opn J N Hd f r).2) (nI (r + 1)) h = k28 (nI (opn J N Hd f (r + 1)).1, nI (opn J N Hd f (r + 1)).2, nI (r + 1 + 1), h) := by
  have hp := p2_lt hN2
  have hl := opn_lt (Hd := Hd) hJ hf r
  unfold hb_223_28
  rw [if_neg (nI_ge (by omega) (by omega))]
  refine lp_for (st := fun j => (nI (opn J N Hd f r).1, nI (opn J N Hd f r).2, nI (r + 1), nI (uni J (opn J N Hd f r).1 j), nI j, h)) (e := N) (fun j hj k => ?_) (fun k => ?_) 0 hs_big (by omega) (lp_big (by omega))
  · show hb_223_41 k28 k (nI (opn J N Hd f r).1) (nI (opn J N Hd f r).2) (nI (r + 1)) (nI (uni J (opn J N Hd f r).1 j)) (nI j) h = k (nI (opn J N Hd f r).1, nI (opn J N Hd f r).2, nI (r + 1), nI (uni J (opn J N Hd f r).1 j ||| (if (opn J N Hd f r).1.testBit j = true then J j else 0)), nI (j + 1), h)
    unfold hb_223_41 hb_223_73
    rw [hN, if_neg (nI_ge hj (by omega)), nx_bit (by omega) (by omega), nx_inb (by omega) (by omega), nx_ck, nI_clamp (by omega), hm j (by omega), nx_or, nx_or, nI_add]
    cases h1 : (opn J N Hd f r).1.testBit j with
    | false => rw [if_pos (by decide), if_neg Bool.false_ne_true]
    | true => rw [if_neg (by decide), if_pos rfl]
  · show hb_223_41 k28 k (nI (opn J N Hd f r).1) (nI (opn J N Hd f r).2) (nI (r + 1)) (nI (uni J (opn J N Hd f r).1 N)) (nI N) h = _
    unfold hb_223_41
    rw [hN, if_pos (nI_le (Nat.le_refl _) (by omega))]
    exact sp_223a (Ho := 0) (L := fun _ => 0) k28 hN hN2 hm hJ hf hr hw hHd
theorem sp_223 {Ho : Nat} {h : hs_H} (hN : h.1 12 0 2 = nI N) (hHo : h.1 12 0 5 = nI Ho) (hN2 : N ≤ 10) (hm : ∀ k, k < 10 → h.1 44 0 k = nI (J k)) (hJ : ∀ k, J k < 2 ^ N) (hf : f < N) (hHd : Hd < 2 ^ N) : hf_223 (nI f) (nI Hd) h = some (nI (opv J N Hd f Ho), rw48 h (lab N Hd J 10)) := by
  have hp := p2_lt hN2
  have hJ1 : ∀ k, J k < 1024 := fun k => by have := hJ k; omega
  unfold hf_223
  rw [sp_178 hN hN2 (fun k hk => by rw [Nat.zero_add]; exact hm k hk) hJ1 (by omega), Option.bind_some]
  have w : ∀ k, k < 10 → (rw48 h (lab N Hd J 10)).1 48 0 k = nI (lab N Hd J 10 k) := fun k hk => rw48_at hk
  have hN' : (rw48 h (lab N Hd J 10)).1 12 0 2 = nI N := by rw [rw48_ne (by decide)]; exact hN
  have hHo' : (rw48 h (lab N Hd J 10)).1 12 0 5 = nI Ho := by rw [rw48_ne (by decide)]; exact hHo
  have hm' : ∀ k, k < 10 → (rw48 h (lab N Hd J 10)).1 44 0 k = nI (J k) := fun k hk => by rw [rw48_ne (by decide)]; exact hm k hk
  generalize rw48 h (lab N Hd J 10) = H at w hN' hHo' hm'
  have hll := lab_lt (N := N) (J := J) (M := Hd) (r := 10) (j := f)
  have main : hb_223_21 (nI (dif (2 ^ f) Hd)) H = some (nI (opv J N Hd f Ho), H) := by
    unfold hb_223_21
    refine lp_for (st := fun r => (nI (opn J N Hd f r).1, nI (opn J N Hd f r).2, nI (r + 1), H)) (e := 9) (fun r hr k => ?_) (fun k => ?_) 0 hs_big (by omega) (lp_big (by omega))
    · exact sp_223b k hN' hN2 hm' hJ hf hr w hHd
    · show hb_223_28 k (nI (opn J N Hd f 9).1) (nI (opn J N Hd f 9).2) (nI 10) H = _
      unfold hb_223_28
      rw [if_pos (by decide), hHo', nx_and]
      rfl
  rw [nx_inb (by omega) (by omega), nx_ck, nI_clamp (by omega), w f (by omega), nx_shl1 (by omega)]
  have hf2 : (2 ^ f) < 4294967296 := Nat.lt_of_lt_of_le (Nat.pow_lt_pow_right (by omega) hf) (by omega)
  by_cases h1 : Hd.testBit f = true
  · have e0 : dif (2 ^ f) Hd = 0 := tb_ext fun i => by
      rw [tb_dif hf2, tb_pow, Nat.zero_testBit]
      by_cases q : f = i
      · subst q; rw [h1, Bool.not_true, Bool.and_false]
      · rw [decide_eq_false q, Bool.false_and]
    have h2 := (lab_le (s := 0) (j := f) hHd hJ (by omega)).mpr h1
    rw [if_pos (by rw [show lab N Hd J 10 f = 0 by omega]; decide), ← e0]
    exact main
  · have e0 : dif (2 ^ f) Hd = 2 ^ f := tb_ext fun i => by
      rw [tb_dif hf2, tb_pow]
      by_cases q : f = i
      · subst q; rw [eq_false_of_ne_true h1, Bool.not_false, Bool.and_true]
      · rw [decide_eq_false q, Bool.false_and]
    have h2 : ¬ lab N Hd J 10 f ≤ 0 := fun q => h1 ((lab_le (s := 0) (j := f) hHd hJ (by omega)).mp q)
    rw [if_neg (nI_nle (by omega) (by omega)), ← e0]
    exact main
end OP
section CO
variable {VC : Nat → (Nat → Nat) → Nat → Int32 → Int32 → hs_H → Prop} {VH : Nat → (Nat → Nat) → Nat → hs_H → Prop} {VW : st_VW}
theorem cl_open (V : st_V VC VH VW) {a e : Int32} : st_call VC VH VW (hf_134 a e) (hf_224 a e) := by
  intro b h hb p
  have p0 := p
  obtain ⟨N, re, W, Ho, J, st, pl, mv, s, z, t, n, g, c, d, ⟨hc, hd⟩, ⟨⟨okN, okF, okS⟩, ⟨cN, cF, cS⟩, mJ, mF, mS⟩, mN, im, ca, rs⟩ := p
  obtain ⟨⟨hN1, hN2⟩, hre, hst, ⟨hW, hHo⟩, hJ, hJ0, hJs, hJa⟩ := id okN
  obtain ⟨cN1, cN2, cN3, cN4, cN5, cJ⟩ := id cN
  obtain ⟨mN1, mN2, mN3, mN4⟩ := id mN
  obtain ⟨mJ1, mJ2⟩ := st_mJ0 mJ
  obtain ⟨mF1, mF2, mF3⟩ := st_mF0 mF
  obtain ⟨mS1, mS2⟩ := st_mS0 mS
  obtain ⟨cF1, cF2, cF3⟩ := id cF
  obtain ⟨cS1, cS2⟩ := id cS
  have hp := p2_lt hN2
  by_cases hok : nd N a = true ∧ nm N e = true
  · obtain ⟨i, hi, rfl⟩ := (nd_of (by omega)).mp hok.1
    obtain ⟨j, hj, rfl⟩ := (nm_of (by omega)).mp hok.2
    refine ⟨nI (opv J N j i Ho), h, rw48 h (lab N j J 10), ?_, ?_, (st_all_fr V (K := [(48, some 0)]) (hs_row_fr (.inl (.head _))) rfl p0).up VC VH VW (by omega)⟩
    · unfold hf_134 hb_134_35
      rw [sp_29 cN1 (by omega), hok.1]
      simp (disch := omega) only [nq_nf, nq_nt, nq_le_t, nq_le_f, nq_lt_t, nq_lt_f, nq_eq_t, nq_eq_f, nq_neg, nq_pos, nq_le0f, nq_le0t, nq_lt0t, nq_lt0f, nq_eq0f, nq_eq0t, nI_add, nI_clamp, nx_inb, nx_ck, Option.bind_some, nx_get, nx_get2, nx_dif, nx_or, bI_0, bI_01, bI_nt, bI_nf, if_true, if_false, ite_true, ite_false, not_true_eq_false, not_false_eq_true, and_true, true_and, and_false, false_and, Bool.false_eq_true, Bool.true_eq_false, reduceCtorEq]
      rw [sp_30 cN1 (by omega), hok.2]
      simp (disch := omega) only [nq_nf, nq_nt, nq_le_t, nq_le_f, nq_lt_t, nq_lt_f, nq_eq_t, nq_eq_f, nq_neg, nq_pos, nq_le0f, nq_le0t, nq_lt0t, nq_lt0f, nq_eq0f, nq_eq0t, nI_add, nI_clamp, nx_inb, nx_ck, Option.bind_some, nx_get, nx_get2, nx_dif, nx_or, bI_0, bI_01, bI_nt, bI_nf, if_true, if_false, ite_true, ite_false, not_true_eq_false, not_false_eq_true, and_true, true_and, and_false, false_and, Bool.false_eq_true, Bool.true_eq_false, reduceCtorEq]
      rw [sp_44 cN1 cN5 hN2 cJ hJ hi hj]
      rfl
    · unfold hf_224 hb_224_26
      rw [sp_171 mN1 (by omega) (by omega), hok.1]
      simp (disch := omega) only [nq_nf, nq_nt, nq_le_t, nq_le_f, nq_lt_t, nq_lt_f, nq_eq_t, nq_eq_f, nq_neg, nq_pos, nq_le0f, nq_le0t, nq_lt0t, nq_lt0f, nq_eq0f, nq_eq0t, nI_add, nI_clamp, nx_inb, nx_ck, Option.bind_some, nx_get, nx_get2, nx_dif, nx_or, bI_0, bI_01, bI_nt, bI_nf, if_true, if_false, ite_true, ite_false, not_true_eq_false, not_false_eq_true, and_true, true_and, and_false, false_and, Bool.false_eq_true, Bool.true_eq_false, reduceCtorEq]
      rw [sp_204 mN1 (by omega), hok.2]
      simp (disch := omega) only [nq_nf, nq_nt, nq_le_t, nq_le_f, nq_lt_t, nq_lt_f, nq_eq_t, nq_eq_f, nq_neg, nq_pos, nq_le0f, nq_le0t, nq_lt0t, nq_lt0f, nq_eq0f, nq_eq0t, nI_add, nI_clamp, nx_inb, nx_ck, Option.bind_some, nx_get, nx_get2, nx_dif, nx_or, bI_0, bI_01, bI_nt, bI_nf, if_true, if_false, ite_true, ite_false, not_true_eq_false, not_false_eq_true, and_true, true_and, and_false, false_and, Bool.false_eq_true, Bool.true_eq_false, reduceCtorEq]
      rw [sp_223 mN1 mN4 hN2 mJ1 hJ hi hj]
      rfl
  · have hbad : nd N a = false ∨ nm N e = false := by
      cases h1 : nd N a with
      | false => exact Or.inl rfl
      | true =>
        cases h2 : nm N e with
        | false => exact Or.inr rfl
        | true => exact (hok ⟨h1, h2⟩).elim
    refine ⟨nI 4294967295, h, h, ?_, ?_, p0.up VC VH VW (by omega)⟩
    · unfold hf_134 hb_134_34 hb_134_35
      rw [sp_29 cN1 (by omega)]
      rcases hbad with h1 | h1
      · simp (disch := omega) only [h1, nq_nf, nq_nt, nq_le_t, nq_le_f, nq_lt_t, nq_lt_f, nq_eq_t, nq_eq_f, nq_neg, nq_pos, nq_le0f, nq_le0t, nq_lt0t, nq_lt0f, nq_eq0f, nq_eq0t, nI_add, nI_clamp, nx_inb, nx_ck, Option.bind_some, nx_get, nx_get2, nx_dif, nx_or, bI_0, bI_01, bI_nt, bI_nf, if_true, if_false, ite_true, ite_false, not_true_eq_false, not_false_eq_true, and_true, true_and, and_false, false_and, Bool.false_eq_true, Bool.true_eq_false, reduceCtorEq]
      · cases h2 : nd N a
        · simp (disch := omega) only [nq_nf, nq_nt, nq_le_t, nq_le_f, nq_lt_t, nq_lt_f, nq_eq_t, nq_eq_f, nq_neg, nq_pos, nq_le0f, nq_le0t, nq_lt0t, nq_lt0f, nq_eq0f, nq_eq0t, nI_add, nI_clamp, nx_inb, nx_ck, Option.bind_some, nx_get, nx_get2, nx_dif, nx_or, bI_0, bI_01, bI_nt, bI_nf, if_true, if_false, ite_true, ite_false, not_true_eq_false, not_false_eq_true, and_true, true_and, and_false, false_and, Bool.false_eq_true, Bool.true_eq_false, reduceCtorEq]
        · simp (disch := omega) only [sp_30 cN1, h1, nq_nf, nq_nt, nq_le_t, nq_le_f, nq_lt_t, nq_lt_f, nq_eq_t, nq_eq_f, nq_neg, nq_pos, nq_le0f, nq_le0t, nq_lt0t, nq_lt0f, nq_eq0f, nq_eq0t, nI_add, nI_clamp, nx_inb, nx_ck, Option.bind_some, nx_get, nx_get2, nx_dif, nx_or, bI_0, bI_01, bI_nt, bI_nf, if_true, if_false, ite_true, ite_false, not_true_eq_false, not_false_eq_true, and_true, true_and, and_false, false_and, Bool.false_eq_true, Bool.true_eq_false, reduceCtorEq]
    · unfold hf_224 hb_224_25 hb_224_26
      rw [sp_171 mN1 (by omega) (by omega)]
      rcases hbad with h1 | h1
      · simp (disch := omega) only [h1, nq_nf, nq_nt, nq_le_t, nq_le_f, nq_lt_t, nq_lt_f, nq_eq_t, nq_eq_f, nq_neg, nq_pos, nq_le0f, nq_le0t, nq_lt0t, nq_lt0f, nq_eq0f, nq_eq0t, nI_add, nI_clamp, nx_inb, nx_ck, Option.bind_some, nx_get, nx_get2, nx_dif, nx_or, bI_0, bI_01, bI_nt, bI_nf, if_true, if_false, ite_true, ite_false, not_true_eq_false, not_false_eq_true, and_true, true_and, and_false, false_and, Bool.false_eq_true, Bool.true_eq_false, reduceCtorEq]
      · cases h2 : nd N a
        · simp (disch := omega) only [nq_nf, nq_nt, nq_le_t, nq_le_f, nq_lt_t, nq_lt_f, nq_eq_t, nq_eq_f, nq_neg, nq_pos, nq_le0f, nq_le0t, nq_lt0t, nq_lt0f, nq_eq0f, nq_eq0t, nI_add, nI_clamp, nx_inb, nx_ck, Option.bind_some, nx_get, nx_get2, nx_dif, nx_or, bI_0, bI_01, bI_nt, bI_nf, if_true, if_false, ite_true, ite_false, not_true_eq_false, not_false_eq_true, and_true, true_and, and_false, false_and, Bool.false_eq_true, Bool.true_eq_false, reduceCtorEq]
        · simp (disch := omega) only [sp_204 mN1, h1, nq_nf, nq_nt, nq_le_t, nq_le_f, nq_lt_t, nq_lt_f, nq_eq_t, nq_eq_f, nq_neg, nq_pos, nq_le0f, nq_le0t, nq_lt0t, nq_lt0f, nq_eq0f, nq_eq0t, nI_add, nI_clamp, nx_inb, nx_ck, Option.bind_some, nx_get, nx_get2, nx_dif, nx_or, bI_0, bI_01, bI_nt, bI_nf, if_true, if_false, ite_true, ite_false, not_true_eq_false, not_false_eq_true, and_true, true_and, and_false, false_and, Bool.false_eq_true, Bool.true_eq_false, reduceCtorEq]
end CO
