/-! Doubt: the model's best way. -/
theorem wyl_len {J : Nat → Nat} {N re : Nat} (hN : N ≤ 10) : ∀ r a, (wyl J N re r a).length ≤ 10 ^ r := by
  intro r
  induction r with
  | zero => intro a; exact Nat.le_refl _
  | succ r ih =>
    intro a
    have h : ∀ j, (wyp J N re r a j).length ≤ j * 10 ^ r := by
      intro j
      induction j with
      | zero => exact Nat.zero_le _
      | succ j ihj =>
        rw [wyp_S, List.length_append, Nat.succ_mul]
        by_cases c : (mvs J re a).testBit j = true
        · rw [if_pos c, List.length_map]
          exact Nat.add_le_add ihj (ih j)
        · rw [if_neg c]
          exact Nat.le_trans ihj (Nat.le_add_right _ _)
    have h1 := h N
    have h2 : N * 10 ^ r ≤ 10 * 10 ^ r := Nat.mul_le_mul_right _ hN
    have h3 : 10 ^ (r + 1) = 10 * 10 ^ r := by rw [Nat.pow_succ, Nat.mul_comm]
    show (wyp J N re r a N).length ≤ _
    omega
theorem nthL_mem : ∀ (L : List (List Nat)) (w : Nat), w < L.length → nthL L w ∈ L := by
  intro L
  induction L with
  | nil => intro w h; exact absurd h (Nat.not_lt_zero _)
  | cons x L ih =>
    intro w h
    match w, h with
    | 0, _ => exact List.mem_cons_self
    | w + 1, h => exact List.mem_cons_of_mem _ (ih w (by rw [List.length_cons] at h; omega))
theorem mem_nthL : ∀ (L : List (List Nat)) (l : List Nat), l ∈ L → ∃ w, w < L.length ∧ nthL L w = l := by
  intro L
  induction L with
  | nil => intro l h; exact absurd h List.not_mem_nil
  | cons x L ih =>
    intro l h
    rcases List.mem_cons.mp h with rfl | h
    · exact ⟨0, by rw [List.length_cons]; omega, rfl⟩
    · obtain ⟨w, h1, h2⟩ := ih l h
      exact ⟨w + 1, by rw [List.length_cons]; omega, h2⟩
theorem kyW_sv {W P N n : Nat} {s : Nat → Nat} (hN : N ≤ 10) (hn : n ≤ 3) (h1 : ∀ k, s k ≤ 18) (h2 : ∀ k, W.testBit k = true → s k = 0) (l l' : List Nat) (hl : l.length = n) (hl' : l'.length = n) : kyW n P N (smA W s l) = kyW n P N (smA W s l') ↔ svW W P N s l = svW W P N s l' := by
  have b : ∀ (l : List Nat) u, svP P (smA W s l u) N < 9223372036854775808 := fun l u => by
    have := svP_lt10 (P := P) (smA_ok l s u h1 h2).1 hN
    omega
  have e : ∀ {x y : Nat}, x < 9223372036854775808 → y < 9223372036854775808 → (lN x = lN y ↔ x = y) := fun hx hy => pk_lEQ hx hy
  unfold kyW
  rw [Prod.mk.injEq, Prod.mk.injEq]
  match n, l, l', hl, hl', hn with
  | 0, [], [], _, _, _ => exact ⟨fun _ => rfl, fun _ => ⟨rfl, rfl, rfl⟩⟩
  | 1, [x], [y], _, _, _ =>
    show (lN (svP P (passS W s x) N) = lN (svP P (passS W s y) N) ∧ lN 0 = lN 0 ∧ lN 0 = lN 0) ↔ [svP P (passS W s x) N] = [svP P (passS W s y) N]
    have b1 : ∀ x, svP P (passS W s x) N < 9223372036854775808 := fun x => b [x] 1
    rw [e (b1 x) (b1 y), List.cons.injEq]
    exact ⟨fun q => ⟨q.1, rfl⟩, fun q => ⟨q.1, rfl, rfl⟩⟩
  | 2, [x, x2], [y, y2], _, _, _ =>
    show (lN (svP P (passS W s x) N) = lN (svP P (passS W s y) N) ∧ lN (svP P (passS W (passS W s x) x2) N) = lN (svP P (passS W (passS W s y) y2) N) ∧ lN 0 = lN 0) ↔ [svP P (passS W s x) N, svP P (passS W (passS W s x) x2) N] = [svP P (passS W s y) N, svP P (passS W (passS W s y) y2) N]
    have b1 : ∀ x, svP P (passS W s x) N < 9223372036854775808 := fun x => b [x] 1
    have b2 : ∀ x x2, svP P (passS W (passS W s x) x2) N < 9223372036854775808 := fun x x2 => b [x, x2] 2
    rw [e (b1 x) (b1 y), e (b2 x x2) (b2 y y2), List.cons.injEq, List.cons.injEq]
    exact ⟨fun q => ⟨q.1, q.2.1, rfl⟩, fun q => ⟨q.1, q.2.1, rfl⟩⟩
  | 3, [x, x2, x3], [y, y2, y3], _, _, _ =>
    show (lN (svP P (passS W s x) N) = lN (svP P (passS W s y) N) ∧ lN (svP P (passS W (passS W s x) x2) N) = lN (svP P (passS W (passS W s y) y2) N) ∧ lN (svP P (passS W (passS W (passS W s x) x2) x3) N) = lN (svP P (passS W (passS W (passS W s y) y2) y3) N)) ↔ [svP P (passS W s x) N, svP P (passS W (passS W s x) x2) N, svP P (passS W (passS W (passS W s x) x2) x3) N] = [svP P (passS W s y) N, svP P (passS W (passS W s y) y2) N, svP P (passS W (passS W (passS W s y) y2) y3) N]
    have b1 : ∀ x, svP P (passS W s x) N < 9223372036854775808 := fun x => b [x] 1
    have b2 : ∀ x x2, svP P (passS W (passS W s x) x2) N < 9223372036854775808 := fun x x2 => b [x, x2] 2
    have b3 : ∀ x x2 x3, svP P (passS W (passS W (passS W s x) x2) x3) N < 9223372036854775808 := fun x x2 x3 => b [x, x2, x3] 3
    rw [e (b1 x) (b1 y), e (b2 x x2) (b2 y y2), e (b3 x x2 x3) (b3 y y2 y3), List.cons.injEq, List.cons.injEq, List.cons.injEq]
    exact ⟨fun q => ⟨q.1, q.2.1, q.2.2, rfl⟩, fun q => ⟨q.1, q.2.1, q.2.2.1⟩⟩
theorem alk_len {tl : Nat} : ∀ (l l' : List Nat), alk tl l l' → l'.length = l.length := by
  intro l
  induction l with
  | nil =>
    intro l' h
    match l', h with
    | [], _ => rfl
    | _ :: _, h => exact h.elim
  | cons i l ih =>
    intro l' h
    match l', h with
    | [], h => exact h.elim
    | j :: m, h => rw [List.length_cons, List.length_cons, ih m h.2]
theorem isW_lt {J : Nat → Nat} {N re : Nat} : ∀ (l : List Nat) (a : Nat), isW J N re a l → ∀ i, i ∈ l → i < N := by
  intro l
  induction l with
  | nil => intro a _ i h; exact absurd h List.not_mem_nil
  | cons x l ih =>
    intro a h i hi
    rcases List.mem_cons.mp hi with rfl | hi
    · exact h.1.1
    · exact ih x h.2 i hi
/-- the first with the most -/
def bmx (D : Nat → Nat) : Nat → Nat
  | 0 => 4294967292
  | w + 1 => if bmx D w = 4294967292 ∨ D (bmx D w) < D w then w else bmx D w
theorem bmx_lt {D : Nat → Nat} : ∀ m, m < 4294967292 → (m = 0 ∧ bmx D m = 4294967292) ∨ bmx D m < m := by
  intro m
  induction m with
  | zero => intro _; exact Or.inl ⟨rfl, rfl⟩
  | succ m ih =>
    intro hm
    refine Or.inr ?_
    show (if bmx D m = 4294967292 ∨ D (bmx D m) < D m then m else bmx D m) < m + 1
    by_cases c : bmx D m = 4294967292 ∨ D (bmx D m) < D m
    · rw [if_pos c]; omega
    · rw [if_neg c]
      rcases ih (by omega) with ⟨-, q⟩ | q
      · exact absurd (Or.inl q) c
      · omega
section DS
variable {J : Nat → Nat} {N re W n P a0 : Nat}
/-- how many he could be taken for, by way w -/
def dvw (J : Nat → Nat) (N re W n P a0 w : Nat) : Nat := pcn 10 (oth J N re (dif P W) (2 ^ a0) (nthL (wyl J N re n a0) w))
/-- what the tables say behind all ways -/
theorem df_mask {h0 G : hs_H} (hN : N ≤ 10) (hJ : ∀ k, J k < 2 ^ N) (hre : re = 0 ∨ re = 1) (hP : P < 2147483648) (hn : n ≤ 3) (ha : a0 < N) (p : dfS N W n P a0 [] (wyl J N re n a0) h0 G) : ∀ w, w < (wyl J N re n a0).length → ∃ s, s < 2048 ∧ G.1 55 0 w = nI s ∧ ∃ M, M < 1024 ∧ G.1 54 0 s = nI M ∧ pcn 10 M = dvw J N re W n P a0 w := by
  intro w hw
  obtain ⟨sl, tb⟩ := p.2.2.1
  obtain ⟨t1, t2, t3⟩ := tb.1 w hw
  obtain ⟨M, m1, m2, m3⟩ := tb.2.1 (sl w) t1
  have t3' : ∀ w, w < (wyl J N re n a0).length → kyA G (sl w) = kyW n P N (smA W (sm0 W a0) (nthL (wyl J N re n a0) w)) := fun w hw => (tb.1 w hw).2.2
  refine ⟨sl w, t1, t2, M, m1, m2, ?_⟩
  have hlw := (mem_wyl n a0 _).mp (nthL_mem _ w hw)
  have so := sm0_ok (W := W) (a0 := a0)
  have e : M = oth J N re (dif P W) (2 ^ a0) (nthL (wyl J N re n a0) w) := by
    apply tb_ext
    intro b
    apply Bool.eq_iff_iff.mpr
    rw [m3 b, tb_oth hN hJ hre _ (2 ^ a0) a0 (Nat.pow_lt_pow_right (by omega) ha) (by rw [tb_pow]; exact decide_eq_true rfl) hlw.2 b]
    constructor
    · rintro ⟨w', h1, h2, h3⟩
      have hlw' := (mem_wyl n a0 _).mp (nthL_mem _ w' h1)
      have ek : kyW n P N (smA W (sm0 W a0) (nthL (wyl J N re n a0) w)) = kyW n P N (smA W (sm0 W a0) (nthL (wyl J N re n a0) w')) := by
        rw [← t3' w hw, ← t3' w' h1, h2]
      rw [kyW_sv hN hn so.1 so.2 _ _ hlw.1 hlw'.1, svW_alk (by omega) _ _ _ _ (by rw [hlw.1, hlw'.1]) (isW_lt _ _ hlw.2) (isW_lt _ _ hlw'.2) so.1 so.1 so.2 so.2 (fun _ _ _ => rfl)] at ek
      exact ⟨a0, _, by rw [tb_pow]; exact decide_eq_true rfl, hlw'.2, ek, h3⟩
    · rintro ⟨a', l', h1, h2, h3, h4⟩
      rw [tb_pow, decide_eq_true_eq] at h1
      subst h1
      have hl' := alk_len _ _ h3
      obtain ⟨w', q1, q2⟩ := mem_nthL _ l' ((mem_wyl n a0 l').mpr ⟨by rw [hl', hlw.1], h2⟩)
      refine ⟨w', q1, ?_, by show lastN a0 (nthL (wyl J N re n a0) w') = b; rw [q2]; exact h4⟩
      refine tb.2.2.1 w' w q1 hw ?_
      dsimp only
      rw [q2, kyW_sv hN hn so.1 so.2 _ _ (by rw [hl', hlw.1]) hlw.1, eq_comm, svW_alk (by omega) _ _ _ _ (by rw [hl']) (isW_lt _ _ hlw.2) (isW_lt _ _ h2) so.1 so.1 so.2 so.2 (fun _ _ _ => rfl)]
      exact h3
  rw [e]
  rfl
theorem sp_203e {h0 G : hs_H} (hN : N ≤ 10) (hJ : ∀ k, J k < 2 ^ N) (hre : re = 0 ∨ re = 1) (hP : P < 2147483648) (hn : n ≤ 3) (ha : a0 < N) (p : dfS N W n P a0 [] (wyl J N re n a0) h0 G) : hs_lp (fun k s => hb_203_157 k s.1 s.2.1 s.2.2) hs_big (nI 4294967292, nI 0, G) = some (nI (bmx (dvw J N re W n P a0) (wyl J N re n a0).length), G) := by
  have hlen : (wyl J N re n a0).length ≤ 1000 := by
    have h1 := wyl_len (J := J) (re := re) hN n a0
    have h2 : 10 ^ n ≤ 10 ^ 3 := Nat.pow_le_pow_right (by omega) hn
    omega
  have mk := df_mask hN hJ hre hP hn ha p
  have h31 := p.2.2.2.2
  generalize (wyl J N re n a0).length = m at hlen mk h31
  refine lp_for (f := fun k s => hb_203_157 k s.1 s.2.1 s.2.2) (st := fun w => (nI (bmx (dvw J N re W n P a0) w), nI w, G)) (e := m) (fun w hw k => ?_) (fun k => ?_) 0 hs_big (Nat.zero_le _) (lp_big (by omega))
  · show hb_203_157 k (nI (bmx (dvw J N re W n P a0) w)) (nI w) G = k (nI (if bmx (dvw J N re W n P a0) w = 4294967292 ∨ dvw J N re W n P a0 (bmx (dvw J N re W n P a0) w) < dvw J N re W n P a0 w then w else bmx (dvw J N re W n P a0) w), nI (w + 1), G)
    have hb := bmx_lt (D := dvw J N re W n P a0) w (by omega)
    generalize bmx (dvw J N re W n P a0) w = b at hb
    obtain ⟨s, s1, s2, M, m1, m2, m3⟩ := mk w hw
    unfold hb_203_157 hb_203_206 hb_203_211 hb_203_225
    rw [h31, if_neg (nI_ge hw (by omega)), nI_add]
    by_cases c : b = 4294967292
    · rw [if_pos (by rw [c]), if_pos (Or.inl c), if_neg (by decide)]
    · have hbw : b < w := hb.resolve_left (fun q => c q.2)
      obtain ⟨s', t1, t2, M', u1, u2, u3⟩ := mk b (by omega)
      have hpM := pcn_le M 10
      have hpM' := pcn_le M' 10
      rw [if_neg (fun q => c (nI_inj (by omega) (by omega) q)), nx_inb (show w < 1000 by omega) (by omega), nx_ck, nI_clamp (show w < 2147483648 by omega), s2, nx_inb s1 (by omega), nx_ck, nI_clamp (show s < 2147483648 by omega), m2, sp_152 (by omega), Option.bind_some]
      dsimp only
      rw [nx_inb (show b < 1000 by omega) (by omega), nx_ck, nI_clamp (show b < 2147483648 by omega), t2, nx_inb t1 (by omega), nx_ck, nI_clamp (show s' < 2147483648 by omega), u2, sp_152 (by omega), Option.bind_some]
      dsimp only
      rw [m3, u3]
      rw [m3] at hpM
      rw [u3] at hpM'
      by_cases c2 : dvw J N re W n P a0 b < dvw J N re W n P a0 w
      · rw [if_neg (nI_ge c2 (by omega)), if_pos (Or.inr c2), if_neg (by decide)]
      · rw [if_pos (nI_le (by omega) (by omega)), if_pos (show nI 0 = 0 by decide), if_neg (fun q => q.elim c c2)]
  · show hb_203_157 k (nI (bmx (dvw J N re W n P a0) m)) (nI m) G = _
    unfold hb_203_157
    rw [h31, if_pos (nI_le (Nat.le_refl _) (by omega))]
end DS
