/-! doubt. -/
theorem alk_rfl {tl : Nat} : ∀ l : List Nat, alk tl l l := by
  intro l
  induction l with
  | nil => trivial
  | cons i l ih => exact ⟨fun _ => rfl, ih⟩
def dgB (a x y z : Nat) : Bool := decide (a ||| (x * 16 ||| (y * 256 ||| z * 4096)) < 65536) && ((decide ((a ||| (x * 16 ||| (y * 256 ||| z * 4096))) / 1 % 16 = a) && decide ((a ||| (x * 16 ||| (y * 256 ||| z * 4096))) / 16 % 16 = x)) && (decide ((a ||| (x * 16 ||| (y * 256 ||| z * 4096))) / 256 % 16 = y) && decide ((a ||| (x * 16 ||| (y * 256 ||| z * 4096))) / 4096 % 16 = z)))
theorem dg_all : (List.range 10).all (fun a => (List.range 10).all (fun x => (List.range 10).all (fun y => (List.range 10).all (fun z => dgB a x y z)))) = true := by decide +kernel
theorem dg_at {a x y z : Nat} (ha : a < 10) (hx : x < 10) (hy : y < 10) (hz : z < 10) : a ||| (x * 16 ||| (y * 256 ||| z * 4096)) < 65536 ∧ (a ||| (x * 16 ||| (y * 256 ||| z * 4096))) / 1 % 16 = a ∧ (a ||| (x * 16 ||| (y * 256 ||| z * 4096))) / 16 % 16 = x ∧ (a ||| (x * 16 ||| (y * 256 ||| z * 4096))) / 256 % 16 = y ∧ (a ||| (x * 16 ||| (y * 256 ||| z * 4096))) / 4096 % 16 = z := by
  have h := List.all_eq_true.mp (List.all_eq_true.mp (List.all_eq_true.mp (List.all_eq_true.mp dg_all a (List.mem_range.mpr ha)) x (List.mem_range.mpr hx)) y (List.mem_range.mpr hy)) z (List.mem_range.mpr hz)
  unfold dgB at h
  rw [Bool.and_eq_true, Bool.and_eq_true, Bool.and_eq_true, Bool.and_eq_true, decide_eq_true_eq, decide_eq_true_eq, decide_eq_true_eq, decide_eq_true_eq, decide_eq_true_eq] at h
  exact ⟨h.1, h.2.1.1, h.2.1.2, h.2.2.1, h.2.2.2⟩
theorem enc_dig {a t : Nat} {l : List Nat} (ha : a < 10) (hl : l.length ≤ 3) (hi : ∀ i, i ∈ l → i < 10) (ht : t ≤ l.length) : a ||| encW 0 l < 65536 ∧ (a ||| encW 0 l) / 2 ^ (4 * t) % 16 = nthN a l t := by
  match l, hl, hi, ht with
  | [], _, _, ht =>
    have d := dg_at ha (show 0 < 10 by omega) (show 0 < 10 by omega) (show 0 < 10 by omega)
    match t, ht with
    | 0, _ => exact ⟨d.1, d.2.1⟩
  | [x], _, hi, ht =>
    have d := dg_at ha (hi x List.mem_cons_self) (show 0 < 10 by omega) (show 0 < 10 by omega)
    match t, ht with
    | 0, _ => exact ⟨d.1, d.2.1⟩
    | 1, _ => exact ⟨d.1, d.2.2.1⟩
  | [x, y], _, hi, ht =>
    have d := dg_at ha (hi x List.mem_cons_self) (hi y (List.mem_cons_of_mem _ List.mem_cons_self)) (show 0 < 10 by omega)
    match t, ht with
    | 0, _ => exact ⟨d.1, d.2.1⟩
    | 1, _ => exact ⟨d.1, d.2.2.1⟩
    | 2, _ => exact ⟨d.1, d.2.2.2.1⟩
  | [x, y, z], _, hi, ht =>
    have d := dg_at ha (hi x List.mem_cons_self) (hi y (List.mem_cons_of_mem _ List.mem_cons_self)) (hi z (List.mem_cons_of_mem _ (List.mem_cons_of_mem _ List.mem_cons_self)))
    have e : a ||| encW 0 [x, y, z] = a ||| (x * 16 ||| (y * 256 ||| z * 4096)) := by
      show a ||| (x * 16 ||| (y * 256 ||| (z * 4096 ||| 0))) = _
      rw [Nat.or_zero]
    rw [e]
    match t, ht with
    | 0, _ => exact ⟨d.1, d.2.1⟩
    | 1, _ => exact ⟨d.1, d.2.2.1⟩
    | 2, _ => exact ⟨d.1, d.2.2.2.1⟩
    | 3, _ => exact ⟨d.1, d.2.2.2.2⟩
section DV
variable {J : Nat → Nat} {N re W n P a0 : Nat}
/-- the best way's number -/
def dbb (J : Nat → Nat) (N re W n P a0 : Nat) : Nat := bmx (dvw J N re W n P a0) (wyl J N re n a0).length
theorem dbS_eq (hN : N ≤ 10) (hJ : ∀ k, J k < 2 ^ N) (hre : re = 0 ∨ re = 1) (hn : n ≤ 3) (ha : a0 < N) : dbS J N re (dif P W) n a0 = if (wyl J N re n a0).length = 0 then (0, 0) else (dvw J N re W n P a0 (dbb J N re W n P a0), a0 ||| encW 0 (nthL (wyl J N re n a0) (dbb J N re W n P a0))) := by
  have hp := p2_lt hN
  have hlen : (wyl J N re n a0).length ≤ 1000 := by
    have h1 := wyl_len (J := J) (re := re) hN n a0
    have h2 : 10 ^ n ≤ 10 ^ 3 := Nat.pow_le_pow_right (by omega) hn
    omega
  exact fold_bmx (J := J) (N := N) (re := re) (tl := dif P W) (o := 2 ^ a0) (w := a0) (t := 0) _ (wyl J N re n a0) rfl (by omega) (fun l hl => by
    have hw := (mem_wyl n a0 l).mp hl
    have ho : (2 : Nat) ^ a0 < 2 ^ N := Nat.pow_lt_pow_right (by omega) ha
    have hb : (2 ^ a0).testBit a0 = true := by rw [tb_pow]; exact decide_eq_true rfl
    have h1 := (tb_oth (tl := dif P W) hN hJ hre l (2 ^ a0) a0 ho hb hw.2 (lastN a0 l)).mpr ⟨a0, l, hb, hw.2, alk_rfl l, rfl⟩
    have h2 := oth_lt (tl := dif P W) hN hJ hre l (2 ^ a0) a0 ho hw.2
    exact pcn_pos (n := 10) (by omega) (fun q => by rw [q, Nat.zero_testBit] at h1; cases h1))
theorem dvw_b (hN : N ≤ 10) (hJ : ∀ k, J k < 2 ^ N) (hre : re = 0 ∨ re = 1) (ha : a0 < N) {w : Nat} (hw : w < (wyl J N re n a0).length) : 1 ≤ dvw J N re W n P a0 w ∧ dvw J N re W n P a0 w ≤ 10 := by
  have hp := p2_lt hN
  have hl := (mem_wyl n a0 _).mp (nthL_mem _ w hw)
  have ho : (2 : Nat) ^ a0 < 2 ^ N := Nat.pow_lt_pow_right (by omega) ha
  have hb : (2 ^ a0).testBit a0 = true := by rw [tb_pow]; exact decide_eq_true rfl
  have h1 := (tb_oth (tl := dif P W) hN hJ hre _ (2 ^ a0) a0 ho hb hl.2 _).mpr ⟨a0, _, hb, hl.2, alk_rfl _, rfl⟩
  have h2 := oth_lt (tl := dif P W) hN hJ hre _ (2 ^ a0) a0 ho hl.2
  exact ⟨pcn_pos (n := 10) (by omega) (fun q => by rw [q, Nat.zero_testBit] at h1; cases h1), pcn_le _ 10⟩
/-- the doubt that is answered -/
def dbA (J : Nat → Nat) (N re W n P a0 : Nat) : Nat := if (wyl J N re n a0).length = 0 then 0 else dvw J N re W n P a0 (dbb J N re W n P a0)
theorem dbb_lt (hN : N ≤ 10) (hn : n ≤ 3) : ((wyl J N re n a0).length = 0 ∧ dbb J N re W n P a0 = 4294967292) ∨ dbb J N re W n P a0 < (wyl J N re n a0).length := by
  have hlen : (wyl J N re n a0).length ≤ 1000 := by
    have h1 := wyl_len (J := J) (re := re) hN n a0
    have h2 : 10 ^ n ≤ 10 ^ 3 := Nat.pow_le_pow_right (by omega) hn
    omega
  exact bmx_lt _ (by omega)
theorem sp_127 {a b c : Int32} {h : hs_H} (cN1 : h.1 4 0 1 = nI N) (hN2 : N ≤ 10) : hf_127 a b c h = some (bI (nd N a && (rg 0 3 b && nm N c)), h) := by
  unfold hf_127 hb_127_35 hb_127_36
  rw [sp_29 cN1 (by omega), Option.bind_some]
  dsimp only
  cases nd N a with
  | false => rw [if_pos (by decide)]; rfl
  | true =>
    have e : hf_146 (nI 3) b.toInt64 h = some (bI (rg 0 3 b), h) := by
      rw [sp_146 (by omega), i64_of]
      rfl
    rw [if_neg (by decide), e, Option.bind_some]
    dsimp only
    cases rg 0 3 b with
    | false => rw [if_pos (by decide)]; rfl
    | true =>
      rw [if_neg (by decide), sp_30 cN1 (by omega), Option.bind_some]
      dsimp only
      cases nm N c with
      | false => rw [if_pos (by decide)]; rfl
      | true => rw [if_neg (by decide)]; rfl
end DV
section CD
variable {VC : Nat → (Nat → Nat) → Nat → Int32 → Int32 → hs_H → Prop} {VH : Nat → (Nat → Nat) → Nat → hs_H → Prop} {VW : st_VW}
theorem cl_doubt (V : st_V VC VH VW) {a e f w : Int32} : st_call VC VH VW (hf_125 a e f w) (hf_205 a e f w) := by
  intro b h hb p
  have p0 := p
  obtain ⟨N, re, W, Ho, J, st, pl, mv, s, z, t, n, g, c, d, ⟨hc, hd⟩, ⟨⟨okN, okF, okS⟩, ⟨cN, cF, cS⟩, mJ, mF, mS⟩, mN, im, ca, rs⟩ := p
  obtain ⟨⟨hN1, hN2⟩, hre, hst, ⟨hW, hHo⟩, hJ, hJ0, hJs, hJa⟩ := id okN
  obtain ⟨cN1, cN2, cN3, cN4, cN5, cJ⟩ := id cN
  obtain ⟨mN1, mN2, mN3, mN4⟩ := id mN
  obtain ⟨mJ1, mJ2⟩ := st_mJ0 mJ
  obtain ⟨mF1, mF2, mF3⟩ := st_mF0 mF
  obtain ⟨mS1, mS2⟩ := st_mS0 mS
  obtain ⟨cF1, cF2, cF3⟩ := id cF
  obtain ⟨cS1, cS2⟩ := id cS
  have hp := p2_lt hN2
  by_cases hok : (nd N a = true ∧ rg 0 3 e = true ∧ nm N f = true) ∧ (w = 0 ∨ ∃ x, e = nI x ∧ x ≤ 3 ∧ rg 10 (10 + x) w = true)
  · obtain ⟨⟨h1, h2, h3⟩, hw⟩ := hok
    obtain ⟨i, hi, rfl⟩ := (nd_of (by omega)).mp h1
    obtain ⟨x, -, hx, rfl⟩ := (rg_of (by omega)).mp h2
    obtain ⟨P, hP, rfl⟩ := (nm_of (by omega)).mp h3
    have hw2 : ∃ tt, tt ≤ x ∧ (w ≠ 0 → w = nI (10 + tt)) ∧ (w ≠ 0 → rg 10 (10 + x) w = true) := by
      rcases hw with q | ⟨y, q1, q2, q3⟩
      · exact ⟨0, by omega, fun z => absurd q z, fun z => absurd q z⟩
      · have hxy := nI_inj (by omega) (by omega) q1
        subst hxy
        obtain ⟨z, z1, z2, z3⟩ := (rg_of (by omega)).mp q3
        exact ⟨z - 10, by omega, fun _ => by rw [z3, show 10 + (z - 10) = z by omega], fun _ => q3⟩
    obtain ⟨tt, ht, hw3, hw4⟩ := hw2
    obtain ⟨H, s1, s2, s3, s4⟩ := sp_23 (h := h) hN2 hJ hre hP hx hi ⟨cN1, cN2, cJ⟩ cN4
    have pH := st_all_fr V s2 rfl p0
    have e12 : H.1 12 0 = h.1 12 0 := (s2 12 0 (by intro q hq; revert q; simp)).1
    have e44 : H.1 44 0 = h.1 44 0 := (s2 44 0 (by intro q hq; revert q; simp)).1
    obtain ⟨G, g1, g2⟩ := sp_203 (h := H) (n := x) (P := P) (a0 := i) (W := W) (N := N) (re := re) (J := J) ⟨by rw [e12]; exact mN1, by rw [e12]; exact mN2, by rw [e12]; exact mN3, fun k hk => by rw [e44]; exact mJ1 k hk⟩ hN2 hre hJ hJa hW (by omega) hx hi
    have pG : st_all VC VH VW (b + 100) G := (st_all_fp V g2.1.1 rfl (fun p hp => g2.1.2 p (by omega)) pH).up VC VH VW (by omega)
    have hbb := dbb_lt (J := J) (re := re) (W := W) (P := P) (a0 := i) hN2 hx
    rw [dbS_eq hN2 hJ hre hx hi] at s3 s4
    have hlen : (wyl J N re x i).length ≤ 1000 := by
      have h1 := wyl_len (J := J) (re := re) hN2 x i
      have h2 : 10 ^ x ≤ 10 ^ 3 := Nat.pow_le_pow_right (by omega) hx
      omega
    have g1' : hf_203 (nI i) (nI x) (nI P) H = some (nI (dbb J N re W x P i), G) := g1
    have cpre : ∀ r, hb_125_31 (nI i) (nI x) (nI P) w h = some r → hf_125 (nI i) (nI x) (nI P) w h = some r := by
      intro r hr
      unfold hf_125
      rw [sp_127 cN1 hN2, h1, h2, h3, Option.bind_some]
      dsimp only
      rw [if_neg (by decide)]
      by_cases q : w = 0
      · rw [if_pos q]; exact hr
      · rw [if_neg q, sp_146m (by omega), hw4 q, Option.bind_some]
        dsimp only
        rw [if_pos (by decide)]
        exact hr
    have mpre : ∀ r, hb_205_52 (nI i) (nI x) (nI P) w H = some r → hf_205 (nI i) (nI x) (nI P) w H = some r := by
      intro r hr
      have k1 : H.1 12 0 2 = nI N := by rw [e12]; exact mN1
      unfold hf_205
      rw [sp_171 k1 (by omega) (by omega), h1, Option.bind_some]
      dsimp only
      rw [if_neg (by decide), sp_150r (lo := 0) (hi := 3) rfl rfl, h2, Option.bind_some]
      dsimp only
      rw [if_neg (by decide), sp_204 k1 (by omega), h3, Option.bind_some]
      dsimp only
      rw [if_neg (by decide)]
      by_cases q : w = 0
      · rw [if_pos q]; exact hr
      · rw [if_neg q, nI_add, sp_150r (lo := 10) (hi := 10 + x) rfl (nI_64 (by omega)), hw4 q, Option.bind_some]
        dsimp only
        rw [if_pos (by decide)]
        exact hr
    refine ⟨if w = 0 then nI (dbA J N re W x P i) else if (wyl J N re x i).length = 0 then nI 4294967292 else nI (nthN i (nthL (wyl J N re x i) (dbb J N re W x P i)) tt), H, G, cpre _ ?_, mpre _ ?_, pG⟩
    · unfold hb_125_31 hb_125_81
      rw [s1, Option.bind_some]
      by_cases q : w = 0
      · rw [if_neg (fun z => z q), if_pos q, s3]
        unfold dbA
        by_cases m0 : (wyl J N re x i).length = 0
        · rw [if_pos m0, if_pos m0]
        · rw [if_neg m0, if_neg m0]
      · rw [if_pos q, if_neg q, s3]
        by_cases m0 : (wyl J N re x i).length = 0
        · rw [if_pos m0, if_pos m0, if_pos (show nI (0, 0).1 ≤ 0 by decide)]
        · have hbl := hbb.resolve_left (fun z => m0 z.1)
          have db := dvw_b (W := W) (P := P) hN2 hJ hre hi hbl
          have hlw := (mem_wyl x i _).mp (nthL_mem _ _ hbl)
          have en := enc_dig (a := i) (t := tt) (l := nthL (wyl J N re x i) (dbb J N re W x P i)) (by omega) (by rw [hlw.1]; exact hx) (fun y hy => by have := isW_lt _ _ hlw.2 y hy; omega) (by rw [hlw.1]; exact ht)
          rw [if_neg m0] at s4
          rw [if_neg m0, if_neg m0, if_neg (show ¬ nI (dvw J N re W x P i (dbb J N re W x P i), i ||| encW 0 (nthL (wyl J N re x i) (dbb J N re W x P i))).1 ≤ 0 from nI_nle (by show 0 < dvw J N re W x P i (dbb J N re W x P i); omega) (by show dvw J N re W x P i (dbb J N re W x P i) < 2147483648; omega)), hw3 q, pk_sub (by omega), Nat.add_sub_cancel_left]
          unfold hf_24
          rw [s4, Option.bind_some, pk_mul]
          dsimp only
          rw [nx_shr (by omega) (by omega), nx_and, show (15 : Nat) = 2 ^ 4 - 1 from rfl, Nat.and_two_pow_sub_one_eq_mod, show (2 : Nat) ^ 4 = 16 from rfl, en.2]
    · unfold hb_205_52 hb_205_122
      rw [g1', Option.bind_some]
      dsimp only
      have mk := df_mask hN2 hJ hre (by omega) hx hi g2
      by_cases q : w = 0
      · rw [if_neg (fun z => z q), if_pos q]
        unfold dbA
        by_cases m0 : (wyl J N re x i).length = 0
        · have hbN : dbb J N re W x P i = 4294967292 := by
            rcases hbb with z | z
            · exact z.2
            · omega
          rw [hbN, if_neg (fun z => z rfl), if_pos m0]
        · have hbl := hbb.resolve_left (fun z => m0 z.1)
          obtain ⟨s', t1, t2, M, u1, u2, u3⟩ := mk _ hbl
          rw [if_pos (fun z => by have := nI_inj (by omega) (by omega) z; omega), if_neg m0, nx_inb (show dbb J N re W x P i < 1000 by omega) (by omega), nx_ck, nI_clamp (show dbb J N re W x P i < 2147483648 by omega), t2, nx_inb t1 (by omega), nx_ck, nI_clamp (show s' < 2147483648 by omega), u2, sp_152 (by omega), Option.bind_some, u3]
      · rw [if_pos q, if_neg q]
        by_cases m0 : (wyl J N re x i).length = 0
        · have hbN : dbb J N re W x P i = 4294967292 := by
            rcases hbb with z | z
            · exact z.2
            · omega
          rw [hbN, if_neg (fun z => z rfl), if_pos m0]
        · have hbl := hbb.resolve_left (fun z => m0 z.1)
          have e56 := g2.2.2.2.1 _ hbl tt ht
          have e56' : G.1 56 0 (4 * dbb J N re W x P i + tt) = nI (nthN i (nthL (wyl J N re x i) (dbb J N re W x P i)) tt) := e56
          rw [if_pos (fun z => by have := nI_inj (by omega) (by omega) z; omega), if_neg m0, hw3 q, pk_mul, nI_add, pk_sub (by omega), show 4 * dbb J N re W x P i + (10 + tt) - 10 = 4 * dbb J N re W x P i + tt by omega, nx_inb (show 4 * dbb J N re W x P i + tt < 4000 by omega) (by omega), nx_ck, nI_clamp (show 4 * dbb J N re W x P i + tt < 2147483648 by omega), e56']
  · refine ⟨nI 4294967295, h, h, ?_, ?_, p0.up VC VH VW (by omega)⟩
    · unfold hf_125 hb_125_29
      rw [sp_127 cN1 hN2, Option.bind_some]
      dsimp only
      cases h1 : nd N a with
      | false => rw [if_pos (by rw [Bool.false_and]; decide)]
      | true =>
        cases h2 : rg 0 3 e with
        | false => rw [if_pos (by rw [Bool.true_and, Bool.false_and]; decide)]
        | true =>
          cases h3 : nm N f with
          | false => rw [if_pos (by decide)]
          | true =>
            obtain ⟨x, -, hx, rfl⟩ := (rg_of (by omega)).mp h2
            have hno : ¬ (w = 0 ∨ ∃ y, nI x = nI y ∧ y ≤ 3 ∧ rg 10 (10 + y) w = true) := fun q => hok ⟨⟨h1, h2, h3⟩, q⟩
            rw [if_neg (by decide), if_neg (fun q => hno (Or.inl q)), sp_146m (by omega), eq_false_of_ne_true (fun q => hno (Or.inr ⟨x, rfl, hx, q⟩)), Option.bind_some]
            dsimp only
            rw [if_neg (by decide)]
    · unfold hf_205 hb_205_50
      rw [sp_171 mN1 (by omega) (by omega), Option.bind_some]
      dsimp only
      cases h1 : nd N a with
      | false => rw [if_pos (by decide)]
      | true =>
        rw [if_neg (by decide), sp_150r (lo := 0) (hi := 3) rfl rfl, Option.bind_some]
        dsimp only
        cases h2 : rg 0 3 e with
        | false => rw [if_pos (by decide)]
        | true =>
          rw [if_neg (by decide), sp_204 mN1 (by omega), Option.bind_some]
          dsimp only
          cases h3 : nm N f with
          | false => rw [if_pos (by decide)]
          | true =>
            obtain ⟨x, -, hx, rfl⟩ := (rg_of (by omega)).mp h2
            have hno : ¬ (w = 0 ∨ ∃ y, nI x = nI y ∧ y ≤ 3 ∧ rg 10 (10 + y) w = true) := fun q => hok ⟨⟨h1, h2, h3⟩, q⟩
            rw [if_neg (by decide), if_neg (fun q => hno (Or.inl q)), nI_add, sp_150r (lo := 10) (hi := 10 + x) rfl (nI_64 (by omega)), eq_false_of_ne_true (fun q => hno (Or.inr ⟨x, rfl, hx, q⟩)), Option.bind_some]
            dsimp only
            rw [if_neg (by decide)]
end CD
