/-! Chases: the model's rounds. -/
def okv (x : Nat) : Prop := x = 1000000 ∨ x ≤ 1000
theorem mN_min {x y : Nat} (hx : okv x) (hy : okv y) : nI (mN (min x y)) = if nI (mN x) ≤ nI (mN y) then nI (mN x) else nI (mN y) := by
  unfold mN okv at *
  rcases Nat.le_total x y with h | h
  · rw [Nat.min_eq_left h, if_pos (nI_le (by split <;> split <;> omega) (by split <;> omega))]
  · rw [Nat.min_eq_right h]
    by_cases e : x = y
    · rw [e, if_pos (Int32.le_refl _)]
    · rw [if_neg (nI_ge (by split <;> split <;> omega) (by split <;> omega))]
/-- what of the net the model's chase reads -/
def mk_n (N re : Nat) (J : Nat → Nat) (h : hs_H) : Prop := h.1 12 0 2 = nI N ∧ h.1 12 0 3 = nI re ∧ ∀ k, k < 10 → h.1 44 0 k = nI (J k)
theorem mk_n_fr {N re : Nat} {J : Nat → Nat} {K : List (Nat × Option Nat)} {h H : hs_H} (f : hs_fr K h H) (o : st_outb K [(12, 0), (44, 0)] = true) (p : mk_n N re J h) : mk_n N re J H := by
  have e := st_out_at f o
  have e1 : H.1 12 0 = h.1 12 0 := e (12, 0) (by simp)
  have e2 : H.1 44 0 = h.1 44 0 := e (44, 0) (by simp)
  unfold mk_n
  rw [e1, e2]
  exact p
theorem sp_213 {f a b : Nat} {h : hs_H} : hf_213 (nI f) (nI a) (nI b) h = some (nI (100 * f + 10 * a + b), h) := by
  unfold hf_213
  rw [pk_mul, pk_mul, nI_add, nI_add]
section CM
variable {J : Nat → Nat} {N re : Nat}
theorem tms_ok {r f a b : Nat} (hr : r ≤ 1000) : okv (tms J N re r f a b) := (tms_L r f a b).imp id (fun q => by omega)
theorem tms_0 {r f a b : Nat} (h : f = a ∨ f = b) : tms J N re r f a b = 0 := by
  have e : tms J N re 0 f a b = 0 := if_pos h
  have := tms_keep (J := J) (N := N) (re := re) (r := 0) (f := f) (a := a) (b := b) (by omega) r
  rw [Nat.zero_add] at this
  rw [this, e]
theorem eRow_ok {v : Nat → Nat → Nat} {i Rb acc : Nat} (hv : ∀ x y, okv (v x y)) (ha : okv acc) (n : Nat) : okv (eRow v i Rb acc n) := by
  rcases eRow_at (v := v) (i := i) (Rb := Rb) (acc := acc) n with q | ⟨j, -, -, q⟩
  · rw [q]; exact ha
  · rw [q]; exact hv _ _
theorem eAll_ok {v : Nat → Nat → Nat} {Ra Rb acc : Nat} (hv : ∀ x y, okv (v x y)) (ha : okv acc) (n : Nat) : okv (eAll v N Ra Rb acc n) := by
  rcases eAll_at (v := v) (N := N) (Ra := Ra) (Rb := Rb) (acc := acc) n with q | ⟨i, j, -, -, -, -, q⟩
  · rw [q]; exact ha
  · rw [q]; exact hv _ _
theorem lasts_ok {r f a b : Nat} (hr : r ≤ 1000) : okv (lasts J N re r f a b) := eAll_ok (fun x y => tms_ok hr) (Or.inl rfl) N
theorem lasts_0 {r f a b : Nat} (ha : a < N) (hb : b < N) (h : f = a ∨ f = b) : lasts J N re r f a b = 0 := by
  have h1 : lasts J N re r f a b ≤ tms J N re r f a b := (eAll_le N).2 a b ha hb (tb_rch.mpr (Or.inl rfl)) (tb_rch.mpr (Or.inl rfl))
  rw [tms_0 h] at h1
  omega
theorem bI_e0 (x : Bool) : (bI x = 0) ↔ ¬ x = true := by cases x <;> decide
theorem sp_214 {r f a b : Nat} {h : hs_H} (n : mk_n N re J h) (hN : N ≤ 10) (hJ : ∀ k, J k < 2 ^ N) (ha : a < N) (hb : b < N) (hf : f < N) (hr : r ≤ 1000) (hv : ∀ x y, x < N → y < N → h.1 59 0 (100 * f + 10 * x + y) = nI (mN (tms J N re r f x y))) : hf_214 (nI f) (nI a) (nI b) h = some (nI (mN (lasts J N re r f a b)), h) := by
  have hp := p2_lt hN
  have n3 : ∀ k, k < 10 → h.1 44 0 (0 + k) = nI (J k) := fun k hk => by rw [Nat.zero_add]; exact n.2.2 k hk
  have hok : ∀ x y, okv (tms J N re r f x y) := fun x y => tms_ok hr
  have hz : ∀ x y, x = f ∨ y = f → tms J N re r f x y = 0 := fun x y q => tms_0 (by rcases q with q | q
                                                                                    · exact Or.inl q.symm
                                                                                    · exact Or.inr q.symm)
  unfold hf_214 lasts
  generalize tms J N re r f = v at hok hv hz
  refine lp_for (st := fun i => (nI f, nI a, nI b, nI (mN (eAll v N (rch J a) (rch J b) 1000000 i)), nI i, h)) (e := N) (fun i hi k => ?_) (fun k => ?_) 0 hs_big (by omega) (lp_big (by omega))
  · show hb_214_7 k (nI f) (nI a) (nI b) (nI (mN (eAll v N (rch J a) (rch J b) 1000000 i))) (nI i) h = k (nI f, nI a, nI b, nI (mN (if (rch J a).testBit i = true then eRow v i (rch J b) (eAll v N (rch J a) (rch J b) 1000000 i) N else eAll v N (rch J a) (rch J b) 1000000 i)), nI (i + 1), h)
    have hE := eAll_ok (N := N) (Ra := rch J a) (Rb := rch J b) hok (Or.inl rfl) i
    generalize eAll v N (rch J a) (rch J b) 1000000 i = E at hE
    unfold hb_214_7
    rw [n.1, if_neg (nI_ge hi (by omega))]
    suffices s0 : hs_lp (fun k1 s => hb_214_19 k k1 s.1 s.2.1 s.2.2.1 s.2.2.2.1 s.2.2.2.2.1 s.2.2.2.2.2.1 s.2.2.2.2.2.2) hs_big (nI f, nI a, nI b, nI (mN (if (rch J a).testBit i = true then eRow v i (rch J b) E 0 else E)), nI i, nI 0, h) = k (nI f, nI a, nI b, nI (mN (if (rch J a).testBit i = true then eRow v i (rch J b) E N else E)), nI (i + 1), h) by
      rw [show (if (rch J a).testBit i = true then eRow v i (rch J b) E 0 else E) = E by split <;> rfl] at s0
      exact s0
    refine lp_for (st := fun j => (nI f, nI a, nI b, nI (mN (if (rch J a).testBit i = true then eRow v i (rch J b) E j else E)), nI i, nI j, h)) (e := N) (fun j hj q => ?_) (fun q => ?_) 0 hs_big (by omega) (lp_big (by omega))
    · show hb_214_19 k q (nI f) (nI a) (nI b) (nI (mN (if (rch J a).testBit i = true then eRow v i (rch J b) E j else E))) (nI i) (nI j) h = q (nI f, nI a, nI b, nI (mN (if (rch J a).testBit i = true then (if (rch J b).testBit j = true then min (eRow v i (rch J b) E j) (v i j) else eRow v i (rch J b) E j) else E)), nI i, nI (j + 1), h)
      have hE2 := eRow_ok (v := v) (i := i) (Rb := rch J b) (acc := E) hok hE j
      generalize eRow v i (rch J b) E j = E2 at hE2
      have e60 : ∀ x, hb_214_60 k q (nI f) (nI a) (nI b) x (nI i) (nI j) h = hb_214_89 k q (nI f) (nI a) (nI b) x (nI i) (nI j) (nI (mN (v i j))) h := by
        intro x
        unfold hb_214_60 hb_214_72
        by_cases c1 : i = f
        · rw [if_pos (by rw [c1]), hz i j (Or.inl c1)]
          rfl
        · rw [if_neg (fun q => c1 (nI_inj (by omega) (by omega) q))]
          by_cases c2 : j = f
          · rw [if_neg (fun q => q (by rw [c2])), hz i j (Or.inr c2)]
            rfl
          · rw [if_pos (fun q => c2 (nI_inj (by omega) (by omega) q)), sp_213, Option.bind_some]
            dsimp only
            rw [nx_inb (by omega) (by omega), nx_ck, nI_clamp (by omega), hv i j hi hj]
      have e44 : ∀ x, hb_214_44 k q (nI f) (nI a) (nI b) x (nI i) (nI j) h = if (rch J b).testBit j = true then hb_214_60 k q (nI f) (nI a) (nI b) x (nI i) (nI j) h else hb_214_107 k q (nI f) (nI a) (nI b) x (nI i) (nI j) h := by
        intro x
        unfold hb_214_44
        by_cases c1 : j = b
        · rw [if_pos (by rw [c1]), if_pos (tb_rch.mpr (Or.inl c1))]
        · rw [if_neg (fun q => c1 (nI_inj (by omega) (by omega) q)), sp_172 n3 (by have := hJ b; omega) (by omega) (by omega), Option.bind_some]
          dsimp only
          by_cases c2 : (J b).testBit j = true
          · rw [if_neg (fun w => (bI_e0 _).mp w c2), if_pos (tb_rch.mpr (Or.inr c2))]
          · rw [if_pos ((bI_e0 _).mpr c2), if_neg (fun w => (tb_rch.mp w).elim c1 c2)]
      have e19 : ∀ x, hb_214_19 k q (nI f) (nI a) (nI b) x (nI i) (nI j) h = if (rch J a).testBit i = true then hb_214_44 k q (nI f) (nI a) (nI b) x (nI i) (nI j) h else hb_214_107 k q (nI f) (nI a) (nI b) x (nI i) (nI j) h := by
        intro x
        unfold hb_214_19
        rw [n.1, if_neg (nI_ge hj (by omega))]
        by_cases c1 : i = a
        · rw [if_pos (by rw [c1]), if_pos (tb_rch.mpr (Or.inl c1))]
        · rw [if_neg (fun q => c1 (nI_inj (by omega) (by omega) q)), sp_172 n3 (by have := hJ a; omega) (by omega) (by omega), Option.bind_some]
          dsimp only
          by_cases c2 : (J a).testBit i = true
          · rw [if_neg (fun w => (bI_e0 _).mp w c2), if_pos (tb_rch.mpr (Or.inr c2))]
          · rw [if_pos ((bI_e0 _).mpr c2), if_neg (fun w => (tb_rch.mp w).elim c1 c2)]
      rw [e19]
      by_cases c1 : (rch J a).testBit i = true
      · rw [if_pos c1, if_pos c1, if_pos c1, e44]
        by_cases c2 : (rch J b).testBit j = true
        · rw [if_pos c2, if_pos c2, e60, mN_min hE2 (hok i j)]
          unfold hb_214_89 hb_214_105 hb_214_107
          by_cases c3 : nI (mN E2) ≤ nI (mN (v i j))
          · rw [if_pos c3, if_pos c3, nI_add]
          · rw [if_neg c3, if_neg c3, nI_add]
        · rw [if_neg c2, if_neg c2]
          unfold hb_214_107
          rw [nI_add]
      · rw [if_neg c1, if_neg c1, if_neg c1]
        unfold hb_214_107
        rw [nI_add]
    · show hb_214_19 k q (nI f) (nI a) (nI b) (nI (mN (if (rch J a).testBit i = true then eRow v i (rch J b) E N else E))) (nI i) (nI N) h = _
      unfold hb_214_19
      rw [n.1, if_pos (nI_le (Nat.le_refl _) (by omega)), nI_add]
  · show hb_214_7 k (nI f) (nI a) (nI b) (nI (mN (eAll v N (rch J a) (rch J b) 1000000 N))) (nI N) h = _
    unfold hb_214_7
    rw [n.1, if_pos (nI_le (Nat.le_refl _) (by omega))]
theorem sp_215 {r f a b : Nat} {h : hs_H} (hN : N ≤ 10) (ha : a < N) (hb : b < N) (hf : f < N) (hr : r ≤ 1000) (hv : h.1 60 0 (100 * f + 10 * a + b) = nI (mN (lasts J N re r f a b))) : hf_215 (nI f) (nI a) (nI b) h = some (nI (mB (lasts J N re r f a b)), h) := by
  have hok := lasts_ok (J := J) (N := N) (re := re) (r := r) (f := f) (a := a) (b := b) hr
  have e25 : ∀ x, okv x → hb_215_25 (nI (mN x)) h = some (nI (mB x), h) := by
    intro x hx
    unfold hb_215_25 hb_215_43 mN mB
    by_cases c : x = 1000000
    · rw [if_pos c, if_pos c, if_neg (fun q => q rfl)]
    · have hx2 := hx.resolve_left c
      rw [if_neg c, if_neg c, if_pos (fun q => by have := nI_inj (by omega) (by omega) q; omega), nI_add]
  unfold hf_215 hb_215_10
  by_cases c1 : f = a
  · rw [if_pos (by rw [c1]), lasts_0 ha hb (Or.inl c1)]
    exact e25 0 (Or.inr (by omega))
  · rw [if_neg (fun q => c1 (nI_inj (by omega) (by omega) q))]
    by_cases c2 : f = b
    · rw [if_neg (fun q => q (by rw [c2])), lasts_0 ha hb (Or.inr c2)]
      exact e25 0 (Or.inr (by omega))
    · rw [if_pos (fun q => c2 (nI_inj (by omega) (by omega) q)), sp_213, Option.bind_some]
      dsimp only
      rw [nx_inb (by omega) (by omega), nx_ck, nI_clamp (by omega), hv]
      exact e25 _ hok
theorem sp_216 {f i : Nat} {h : hs_H} (n : mk_n N re J h) (hN : N ≤ 10) (hJ : ∀ k, J k < 2 ^ N) (hJa : ∀ a, (J a).testBit a = false) (hre : re = 0 ∨ re = 1) (hf : f < N) (hi : i < N) : hf_216 (nI f) (nI i) h = some (bI ((stp J re f).testBit i), h) := by
  have hp := p2_lt hN
  have hm := mvs_lt (re := re) hJ hre hf
  have em : J f ||| re * 2 ^ f = mvs J re f := rfl
  have hJf := hJ f
  unfold hf_216 hb_216_35
  rw [nx_inb (by omega) (by omega), nx_ck, nI_clamp (by omega), n.2.2 f (by omega), n.2.1, nx_shl _ (by omega), nx_or, em]
  unfold stp
  by_cases c : mvs J re f = 0
  · rw [if_pos c, c, if_neg (fun q => q rfl), tb_pow]
    by_cases c2 : i = f
    · rw [if_neg (fun q => q (by rw [c2])), decide_eq_true c2.symm]
      rfl
    · rw [if_pos (fun q => c2 (nI_inj (by omega) (by omega) q)), decide_eq_false (fun q => c2 q.symm)]
      rfl
  · rw [if_neg c, if_pos (nI_ne0 (by omega) (by omega)), sp_181 n.2.1 hre n.2.2 hJa (by omega) (by omega) (by omega), Option.bind_some]
    dsimp only
    rw [bI_01, nx_ck]
theorem mx_b {p : Nat → Bool} {r a b : Nat} (hr : r ≤ 1000) (n : Nat) : mx p (fun to => mB (lasts J N re r to a b)) n ≤ 99999 := mx_le n (fun k hk _ => by
  show (if lasts J N re r k a b = 1000000 then 99999 else lasts J N re r k a b + 1) ≤ 99999
  rcases lasts_ok (J := J) (N := N) (re := re) (r := r) (f := k) (a := a) (b := b) hr with q | q
  · rw [if_pos q]; omega
  · rw [if_neg (by omega)]; omega)
theorem mB_b {x : Nat} (hx : okv x) : mB x ≤ 99999 := by
  unfold mB okv at *
  split <;> omega
theorem sp_217 {r f a b : Nat} {h : hs_H} (n : mk_n N re J h) (hN : N ≤ 10) (hJ : ∀ k, J k < 2 ^ N) (hJa : ∀ a, (J a).testBit a = false) (hre : re = 0 ∨ re = 1) (ha : a < N) (hb : b < N) (hf : f < N) (hr : r ≤ 1000) (hv : ∀ x, x < N → h.1 60 0 (100 * x + 10 * a + b) = nI (mN (lasts J N re r x a b))) : hf_217 (nI f) (nI a) (nI b) h = some (nI (mx (fun to => (stp J re f).testBit to) (fun to => mB (lasts J N re r to a b)) N), h) := by
  unfold hf_217
  have hmb := fun n => mx_b (J := J) (N := N) (re := re) (p := fun to => (stp J re f).testBit to) (a := a) (b := b) hr n
  refine lp_for (st := fun i => (nI f, nI a, nI b, nI (mx (fun to => (stp J re f).testBit to) (fun to => mB (lasts J N re r to a b)) i), nI i, h)) (e := N) (fun i hi k => ?_) (fun k => ?_) 0 hs_big (by omega) (lp_big (by omega))
  · show hb_217_6 k (nI f) (nI a) (nI b) (nI (mx (fun to => (stp J re f).testBit to) (fun to => mB (lasts J N re r to a b)) i)) (nI i) h = k (nI f, nI a, nI b, nI (if (stp J re f).testBit i = true then max (mx (fun to => (stp J re f).testBit to) (fun to => mB (lasts J N re r to a b)) i) (mB (lasts J N re r i a b)) else mx (fun to => (stp J re f).testBit to) (fun to => mB (lasts J N re r to a b)) i), nI (i + 1), h)
    have hm := hmb i
    have hB := mB_b (lasts_ok (J := J) (N := N) (re := re) (r := r) (f := i) (a := a) (b := b) hr)
    generalize mx (fun to => (stp J re f).testBit to) (fun to => mB (lasts J N re r to a b)) i = M at hm
    unfold hb_217_6 hb_217_49 hb_217_51
    rw [n.1, if_neg (nI_ge hi (by omega)), sp_216 n hN hJ hJa hre hf hi, Option.bind_some]
    dsimp only
    by_cases c : (stp J re f).testBit i = true
    · rw [if_neg (fun w => (bI_e0 _).mp w c), if_pos c, sp_215 hN ha hb hi hr (hv i hi), Option.bind_some]
      dsimp only
      rw [nI_add]
      rcases Nat.lt_or_ge M (mB (lasts J N re r i a b)) with q | q
      · rw [if_neg (nI_ge q (by omega)), Nat.max_eq_right (by omega)]
      · rw [if_pos (nI_le q (by omega)), Nat.max_eq_left q]
    · rw [if_pos ((bI_e0 _).mpr c), if_neg c, nI_add]
  · show hb_217_6 k (nI f) (nI a) (nI b) (nI (mx (fun to => (stp J re f).testBit to) (fun to => mB (lasts J N re r to a b)) N)) (nI N) h = _
    unfold hb_217_6
    rw [n.1, if_pos (nI_le (Nat.le_refl _) (by omega))]
theorem chg_tms {r : Nat} (hr : r < 1000) : chg J N re r ↔ ∃ f x y, f < N ∧ x < N ∧ y < N ∧ tms J N re (r + 1) f x y ≠ tms J N re r f x y := by
  constructor
  · rintro ⟨x, y, hx, hy, hne⟩
    obtain ⟨f, h1, h2⟩ := tb_new (fun i q => lst_mono (d := 1) q) hne
    have h3 : tms J N re r f x y = 1000000 := by
      apply Classical.byContradiction
      intro w
      rw [(tms_in (by omega)).mpr w] at h1
      cases h1
    refine ⟨f, x, y, tb_in (lst_lt hx hy (r + 1)) h2, hx, hy, ?_⟩
    have e : tms J N re (r + 1) f x y = r + 1 := if_pos ⟨h3, h2⟩
    rw [e, h3]
    omega
  · rintro ⟨f, x, y, hf, hx, hy, hne⟩
    refine ⟨x, y, hx, hy, fun q => hne ?_⟩
    show (if tms J N re r f x y = 1000000 ∧ (lst J N re (r + 1) x y).testBit f = true then r + 1 else tms J N re r f x y) = _
    rw [if_neg (fun w => ?_)]
    rw [q] at w
    exact (tms_in (by omega)).mp w.2 w.1
/-- hunted, as far as place k -/
theorem sp_218h {r : Nat} {h : hs_H} {x1 : Int32} (k54 : Int32 × hs_H → Option hs_H) (n : mk_n N re J h) (hN : N ≤ 10) (hJ : ∀ k, J k < 2 ^ N) (hr : r ≤ 1000) (h59 : ∀ f x y, f < N → x < N → y < N → h.1 59 0 (100 * f + 10 * x + y) = nI (mN (tms J N re r f x y))) : ∃ H, hs_fr [(60, some 0)] h H ∧ (∀ f x y, f < N → x < N → y < N → H.1 60 0 (100 * f + 10 * x + y) = nI (mN (lasts J N re r f x y))) ∧ hs_lp (fun k s => hb_218_62 k54 k s.1 s.2.1 s.2.2) hs_big (x1, nI 0, h) = hs_lp (fun k s => hb_218_131 k54 k s.1 s.2.1 s.2.2) hs_big (x1, nI 0, H) := by
  refine lp_q2 (I := fun d q => ∃ i H, i ≤ 100 * N ∧ d = 100 * N - i ∧ hs_fr [(60, some 0)] h H ∧ (∀ f x y, f < N → x < N → y < N → 100 * f + 10 * x + y < i → H.1 60 0 (100 * f + 10 * x + y) = nI (mN (lasts J N re r f x y))) ∧ q = (x1, nI i, H)) (Q := fun o => ∃ H, hs_fr [(60, some 0)] h H ∧ (∀ f x y, f < N → x < N → y < N → H.1 60 0 (100 * f + 10 * x + y) = nI (mN (lasts J N re r f x y))) ∧ o = hs_lp (fun k s => hb_218_131 k54 k s.1 s.2.1 s.2.2) hs_big (x1, nI 0, H)) (fun d q hI k => ?_) (100 * N) _ hs_big ⟨0, h, by omega, rfl, hs_fr.rf, fun f x y _ _ _ w => absurd w (Nat.not_lt_zero _), rfl⟩ (lp_big (by omega))
  obtain ⟨i, H, hi, rfl, fr, hv, rfl⟩ := hI
  have n' := mk_n_fr fr rfl n
  by_cases h1 : i = 100 * N
  · subst h1
    refine Or.inl ⟨H, fr, fun f x y hf hx hy => hv f x y hf hx hy (by omega), ?_⟩
    show hb_218_62 k54 k x1 (nI (100 * N)) H = _
    unfold hb_218_62
    rw [n'.1, pk_mul, if_pos (nI_le (Nat.le_refl _) (by omega))]
  · refine Or.inr ?_
    have e1 : nI i / nI 100 = nI (i / 100) := pk_div (by omega) (by omega) (by omega)
    have e2 : nI i / nI 10 = nI (i / 10) := pk_div (by omega) (by omega) (by omega)
    have e3 : nI (i / 10) - nI (i / 10) / nI 10 * nI 10 = nI (i / 10 % 10) := pk_rem (by omega) (by omega) (by omega)
    have e4 : nI i - nI (i / 10) * nI 10 = nI (i % 10) := by rw [← e2]; exact pk_rem (by omega) (by omega) (by omega)
    by_cases c : i / 10 % 10 < N ∧ i % 10 < N
    · have e59 : H.1 59 0 = h.1 59 0 := (fr 59 0 (by intro q hq; revert q; simp)).1
      have e214 := sp_214 (r := r) (f := i / 100) (a := i / 10 % 10) (b := i % 10) n' hN hJ c.1 c.2 (by omega) hr (fun x y hx hy => by rw [e59]; exact h59 (i / 100) x y (by omega) hx hy)
      refine ⟨100 * N - (i + 1), _, by omega, ⟨i + 1, hs_put H 60 0 i (nI (mN (lasts J N re r (i / 100) (i / 10 % 10) (i % 10)))), by omega, rfl, fr.put (.inl (.head _)), fun f x y hf hx hy w => ?_, rfl⟩, ?_⟩
      · rw [nx_get]
        by_cases c2 : 60 = 60 ∧ 0 = 0 ∧ 100 * f + 10 * x + y = i
        · rw [if_pos c2, show i / 100 = f by omega, show i / 10 % 10 = x by omega, show i % 10 = y by omega]
        · rw [if_neg c2]
          exact hv f x y hf hx hy (by omega)
      · show hb_218_62 k54 k x1 (nI i) H = _
        unfold hb_218_62 hb_218_123
        rw [n'.1, pk_mul, if_neg (nI_ge (by omega) (by omega)), e2, e3, e4, if_neg (nI_ge c.1 (by omega)), if_neg (nI_ge c.2 (by omega)), e1, e214, Option.bind_some]
        dsimp only
        rw [nx_inb (by omega) (by omega), nx_ck, nI_clamp (by omega), nI_add]
    · refine ⟨100 * N - (i + 1), _, by omega, ⟨i + 1, H, by omega, rfl, fr, fun f x y hf hx hy w => hv f x y hf hx hy (by omega), rfl⟩, ?_⟩
      show hb_218_62 k54 k x1 (nI i) H = _
      unfold hb_218_62 hb_218_123
      rw [n'.1, pk_mul, if_neg (nI_ge (by omega) (by omega)), e2, e3, e4, nI_add]
      by_cases c1 : i / 10 % 10 < N
      · rw [if_neg (nI_ge c1 (by omega)), if_pos (nI_le (by omega) (by omega))]
      · rw [if_pos (nI_le (by omega) (by omega))]
/-- caught, as far as place k -/
def cuS (J : Nat → Nat) (N re r i : Nat) (m : Bool) (h H : hs_H) : Prop :=
  hs_fr [(59, some 0)] h H ∧ (∀ f x y, f < N → x < N → y < N → H.1 59 0 (100 * f + 10 * x + y) = nI (mN (if 100 * f + 10 * x + y < i then tms J N re (r + 1) f x y else tms J N re r f x y))) ∧ (m = true ↔ ∃ f x y, f < N ∧ x < N ∧ y < N ∧ 100 * f + 10 * x + y < i ∧ tms J N re (r + 1) f x y ≠ tms J N re r f x y)
theorem sp_218c {r : Nat} {h : hs_H} (k54 : Int32 × hs_H → Option hs_H) (n : mk_n N re J h) (hN : N ≤ 10) (hJ : ∀ k, J k < 2 ^ N) (hJa : ∀ a, (J a).testBit a = false) (hre : re = 0 ∨ re = 1) (hr : r < 1000) (h59 : ∀ f x y, f < N → x < N → y < N → h.1 59 0 (100 * f + 10 * x + y) = nI (mN (tms J N re r f x y))) (h60 : ∀ f x y, f < N → x < N → y < N → h.1 60 0 (100 * f + 10 * x + y) = nI (mN (lasts J N re r f x y))) : ∃ m H, hs_fr [(59, some 0)] h H ∧ (∀ f x y, f < N → x < N → y < N → H.1 59 0 (100 * f + 10 * x + y) = nI (mN (tms J N re (r + 1) f x y))) ∧ (m = true ↔ chg J N re r) ∧ hs_lp (fun k s => hb_218_131 k54 k s.1 s.2.1 s.2.2) hs_big (nI 0, nI 0, h) = k54 (bI m, H) := by
  refine lp_q2 (I := fun d q => ∃ i m H, i ≤ 100 * N ∧ d = 100 * N - i ∧ cuS J N re r i m h H ∧ q = (bI m, nI i, H)) (Q := fun o => ∃ m H, hs_fr [(59, some 0)] h H ∧ (∀ f x y, f < N → x < N → y < N → H.1 59 0 (100 * f + 10 * x + y) = nI (mN (tms J N re (r + 1) f x y))) ∧ (m = true ↔ chg J N re r) ∧ o = k54 (bI m, H)) (fun d q hI k => ?_) (100 * N) _ hs_big ⟨0, false, h, by omega, rfl, ⟨hs_fr.rf, fun f x y hf hx hy => by rw [if_neg (Nat.not_lt_zero _)]; exact h59 f x y hf hx hy, ⟨fun q => absurd q (by decide), fun ⟨f, x, y, _, _, _, w, _⟩ => absurd w (Nat.not_lt_zero _)⟩⟩, rfl⟩ (lp_big (by omega))
  obtain ⟨i, m, H, hi, rfl, ⟨fr, hv, hm⟩, rfl⟩ := hI
  have n' := mk_n_fr fr rfl n
  by_cases h1 : i = 100 * N
  · subst h1
    refine Or.inl ⟨m, H, fr, fun f x y hf hx hy => by rw [hv f x y hf hx hy, if_pos (by omega)], ?_, ?_⟩
    · rw [hm, chg_tms hr]
      exact ⟨fun ⟨f, x, y, hf, hx, hy, _, w⟩ => ⟨f, x, y, hf, hx, hy, w⟩, fun ⟨f, x, y, hf, hx, hy, w⟩ => ⟨f, x, y, hf, hx, hy, by omega, w⟩⟩
    · show hb_218_131 k54 k (bI m) (nI (100 * N)) H = _
      unfold hb_218_131
      rw [n'.1, pk_mul, if_pos (nI_le (Nat.le_refl _) (by omega))]
  · refine Or.inr ?_
    have e1 : nI i / nI 100 = nI (i / 100) := pk_div (by omega) (by omega) (by omega)
    have e2 : nI i / nI 10 = nI (i / 10) := pk_div (by omega) (by omega) (by omega)
    have e3 : nI (i / 10) - nI (i / 10) / nI 10 * nI 10 = nI (i / 10 % 10) := pk_rem (by omega) (by omega) (by omega)
    have e4 : nI i - nI (i / 10) * nI 10 = nI (i % 10) := by rw [← e2]; exact pk_rem (by omega) (by omega) (by omega)
    -- nothing new at this place
    have skip : (∀ f x y, f < N → x < N → y < N → 100 * f + 10 * x + y = i → tms J N re (r + 1) f x y = tms J N re r f x y) → cuS J N re r (i + 1) m h H := by
      intro w
      refine ⟨fr, fun f x y hf hx hy => ?_, ?_⟩
      · rw [hv f x y hf hx hy]
        by_cases c2 : 100 * f + 10 * x + y = i
        · rw [if_neg (by omega), if_pos (by omega), w f x y hf hx hy c2]
        · by_cases c3 : 100 * f + 10 * x + y < i
          · rw [if_pos c3, if_pos (by omega)]
          · rw [if_neg c3, if_neg (by omega)]
      · rw [hm]
        exact ⟨fun ⟨f, x, y, hf, hx, hy, w1, w2⟩ => ⟨f, x, y, hf, hx, hy, by omega, w2⟩, fun ⟨f, x, y, hf, hx, hy, w1, w2⟩ => ⟨f, x, y, hf, hx, hy, by
          by_cases c2 : 100 * f + 10 * x + y = i
          · exact absurd (w f x y hf hx hy c2) w2
          · omega, w2⟩⟩
    by_cases c : i / 10 % 10 < N ∧ i % 10 < N
    · have hfi : i / 100 < N := by omega
      have hidx : 100 * (i / 100) + 10 * (i / 10 % 10) + i % 10 = i := by omega
      have hat := hv (i / 100) (i / 10 % 10) (i % 10) hfi c.1 c.2
      rw [hidx, if_neg (Nat.lt_irrefl _)] at hat
      have hot := tms_ok (J := J) (N := N) (re := re) (r := r) (f := i / 100) (a := i / 10 % 10) (b := i % 10) (by omega)
      by_cases c0 : tms J N re r (i / 100) (i / 10 % 10) (i % 10) = 1000000
      · have e60 : H.1 60 0 = h.1 60 0 := (fr 60 0 (by intro q hq; revert q; simp)).1
        have e217 := sp_217 (r := r) (f := i / 100) (a := i / 10 % 10) (b := i % 10) n' hN hJ hJa hre c.1 c.2 hfi (by omega) (fun x hx => by rw [e60]; exact h60 x _ _ hx c.1 c.2)
        rw [round_eq hN hJ hre hfi hr c0] at e217
        have hot1 := tms_ok (J := J) (N := N) (re := re) (r := r + 1) (f := i / 100) (a := i / 10 % 10) (b := i % 10) (by omega)
        refine ⟨100 * N - (i + 1), _, by omega, ⟨i + 1, m || !decide (tms J N re (r + 1) (i / 100) (i / 10 % 10) (i % 10) = 1000000), hs_put H 59 0 i (nI (mN (tms J N re (r + 1) (i / 100) (i / 10 % 10) (i % 10)))), by omega, rfl, ⟨fr.put (.inl (.head _)), fun f x y hf hx hy => ?_, ?_⟩, rfl⟩, ?_⟩
        · rw [nx_get]
          by_cases c2 : 59 = 59 ∧ 0 = 0 ∧ 100 * f + 10 * x + y = i
          · rw [if_pos c2, if_pos (by omega), show i / 100 = f by omega, show i / 10 % 10 = x by omega, show i % 10 = y by omega]
          · rw [if_neg c2, hv f x y hf hx hy]
            by_cases c3 : 100 * f + 10 * x + y < i
            · rw [if_pos c3, if_pos (by omega)]
            · rw [if_neg c3, if_neg (by omega)]
        · rw [Bool.or_eq_true, hm, Bool.not_eq_true', decide_eq_false_iff_not]
          constructor
          · rintro (⟨f, x, y, hf, hx, hy, w1, w2⟩ | w)
            · exact ⟨f, x, y, hf, hx, hy, by omega, w2⟩
            · exact ⟨i / 100, i / 10 % 10, i % 10, hfi, c.1, c.2, by omega, by rw [c0]; exact w⟩
          · rintro ⟨f, x, y, hf, hx, hy, w1, w2⟩
            by_cases c2 : 100 * f + 10 * x + y = i
            · refine Or.inr ?_
              rw [show i / 100 = f by omega, show i / 10 % 10 = x by omega, show i % 10 = y by omega] at c0 ⊢
              rw [c0] at w2
              exact w2
            · exact Or.inl ⟨f, x, y, hf, hx, hy, by omega, w2⟩
        · show hb_218_131 k54 k (bI m) (nI i) H = _
          have emN : nI (mN (tms J N re r (i / 100) (i / 10 % 10) (i % 10))) = nI 99999 := by rw [c0]; rfl
          have eat : (hs_put H 59 0 i (nI (mN (tms J N re (r + 1) (i / 100) (i / 10 % 10) (i % 10))))).1 59 0 i = nI (mN (tms J N re (r + 1) (i / 100) (i / 10 % 10) (i % 10))) := by rw [nx_get, if_pos ⟨rfl, rfl, rfl⟩]
          unfold hb_218_131 hb_218_218 hb_218_223 hb_218_224
          rw [n'.1, pk_mul, if_neg (nI_ge (by omega) (by omega)), e2, e3, e4, if_neg (nI_ge c.1 (by omega)), if_neg (nI_ge c.2 (by omega)), nx_inb (by omega) (by omega), nx_ck, nI_clamp (by omega), hat, emN, if_neg (fun q => q rfl), e1, e217, Option.bind_some]
          dsimp only
          rw [nx_ck, nx_ck, eat, nI_add]
          cases m with
          | true => rw [if_pos (by decide)]; rfl
          | false =>
            rw [if_neg (by decide)]
            by_cases c4 : tms J N re (r + 1) (i / 100) (i / 10 % 10) (i % 10) = 1000000
            · rw [if_pos (by rw [c4]; rfl), decide_eq_true c4]; rfl
            · have q := hot1.resolve_left c4
              have e5 : mN (tms J N re (r + 1) (i / 100) (i / 10 % 10) (i % 10)) = tms J N re (r + 1) (i / 100) (i / 10 % 10) (i % 10) := if_neg c4
              rw [if_neg (fun w => by rw [e5] at w; have := nI_inj (by omega) (by omega) w; omega), decide_eq_false c4]; rfl
      · have q := hot.resolve_left c0
        have e5 : mN (tms J N re r (i / 100) (i / 10 % 10) (i % 10)) = tms J N re r (i / 100) (i / 10 % 10) (i % 10) := if_neg c0
        refine ⟨100 * N - (i + 1), _, by omega, ⟨i + 1, m, H, by omega, rfl, skip (fun f x y hf hx hy w => ?_), rfl⟩, ?_⟩
        · have w0 : tms J N re r f x y ≠ 1000000 := by
            rw [show i / 100 = f by omega, show i / 10 % 10 = x by omega, show i % 10 = y by omega] at c0
            exact c0
          exact tms_keep w0 1
        · show hb_218_131 k54 k (bI m) (nI i) H = _
          unfold hb_218_131 hb_218_224
          rw [n'.1, pk_mul, if_neg (nI_ge (by omega) (by omega)), e2, e3, e4, if_neg (nI_ge c.1 (by omega)), if_neg (nI_ge c.2 (by omega)), nx_inb (by omega) (by omega), nx_ck, nI_clamp (by omega), hat, if_pos (fun w => by rw [e5] at w; have := nI_inj (by omega) (by omega) w; omega), nI_add]
    · refine ⟨100 * N - (i + 1), _, by omega, ⟨i + 1, m, H, by omega, rfl, skip (fun f x y hf hx hy w => absurd (show i / 10 % 10 < N ∧ i % 10 < N by omega) c), rfl⟩, ?_⟩
      show hb_218_131 k54 k (bI m) (nI i) H = _
      unfold hb_218_131 hb_218_224
      rw [n'.1, pk_mul, if_neg (nI_ge (by omega) (by omega)), e2, e3, e4, nI_add]
      by_cases c1 : i / 10 % 10 < N
      · rw [if_neg (nI_ge c1 (by omega)), if_pos (nI_le (by omega) (by omega))]
      · rw [if_pos (nI_le (by omega) (by omega))]
theorem eAll_same {v w : Nat → Nat → Nat} {Ra Rb acc : Nat} (h : ∀ x y, x < N → y < N → v x y = w x y) : ∀ n, n ≤ N → eAll v N Ra Rb acc n = eAll w N Ra Rb acc n := by
  have hr : ∀ i acc, i < N → ∀ n, n ≤ N → eRow v i Rb acc n = eRow w i Rb acc n := by
    intro i acc hi n
    induction n with
    | zero => intro _; rfl
    | succ n ih =>
      intro hn
      show (if Rb.testBit n = true then min (eRow v i Rb acc n) (v i n) else eRow v i Rb acc n) = if Rb.testBit n = true then min (eRow w i Rb acc n) (w i n) else eRow w i Rb acc n
      rw [ih (by omega), h i n hi (by omega)]
  intro n
  induction n with
  | zero => intro _; rfl
  | succ n ih =>
    intro hn
    show (if Ra.testBit n = true then eRow v n Rb (eAll v N Ra Rb acc n) N else eAll v N Ra Rb acc n) = if Ra.testBit n = true then eRow w n Rb (eAll w N Ra Rb acc n) N else eAll w N Ra Rb acc n
    rw [ih (by omega), hr n _ (by omega) N (Nat.le_refl _)]
theorem sp_218 {h : hs_H} (n : mk_n N re J h) (hN : N ≤ 10) (hN1 : 2 ≤ N) (hJ : ∀ k, J k < 2 ^ N) (hJa : ∀ a, (J a).testBit a = false) (hre : re = 0 ∨ re = 1) : ∃ H, hf_218 h = some H ∧ hs_fr [(59, some 0), (60, some 0)] h H ∧ (∀ f x y, f < N → x < N → y < N → H.1 59 0 (100 * f + 10 * x + y) = nI (mN (tms J N re 1000 f x y))) ∧ (∀ f x y, f < N → x < N → y < N → H.1 60 0 (100 * f + 10 * x + y) = nI (mN (lasts J N re 1000 f x y))) := by
  obtain ⟨R, hR, hR1, hR2⟩ := chg_end (J := J) (re := re) hN hN1
  have main : ∃ H, hs_lp (fun k s => hb_218_54 k s.1 s.2) hs_big (nI 1, hs_row h 59 0 1000 (fun k => nI (if k / 100 = k / 10 % 10 ∨ k / 100 = k % 10 then 0 else 99999))) = some H ∧ hs_fr [(59, some 0), (60, some 0)] h H ∧ (∀ f x y, f < N → x < N → y < N → H.1 59 0 (100 * f + 10 * x + y) = nI (mN (tms J N re 1000 f x y))) ∧ (∀ f x y, f < N → x < N → y < N → H.1 60 0 (100 * f + 10 * x + y) = nI (mN (lasts J N re 1000 f x y))) := by
    have f0 : hs_fr [(59, some 0), (60, some 0)] h (hs_row h 59 0 1000 (fun k => nI (if k / 100 = k / 10 % 10 ∨ k / 100 = k % 10 then 0 else 99999))) := hs_row_fr (.inl (.head _))
    have v0 : ∀ f x y, f < N → x < N → y < N → (hs_row h 59 0 1000 (fun k => nI (if k / 100 = k / 10 % 10 ∨ k / 100 = k % 10 then 0 else 99999))).1 59 0 (100 * f + 10 * x + y) = nI (mN (tms J N re 0 f x y)) := fun f x y hf hx hy => by
      rw [nx_rowget, if_pos ⟨rfl, rfl, by omega⟩, show (100 * f + 10 * x + y) / 100 = f by omega, show (100 * f + 10 * x + y) / 10 % 10 = x by omega, show (100 * f + 10 * x + y) % 10 = y by omega]
      have e : tms J N re 0 f x y = if f = x ∨ f = y then 0 else 1000000 := rfl
      rw [e]
      by_cases c : f = x ∨ f = y
      · rw [if_pos c, if_pos c]; rfl
      · rw [if_neg c, if_neg c]; rfl
    generalize hs_row h 59 0 1000 (fun k => nI (if k / 100 = k / 10 % 10 ∨ k / 100 = k % 10 then 0 else 99999)) = H0 at f0 v0
    refine lp_q2 (I := fun d q => ∃ H, (∃ r, r ≤ R ∧ d = R - r + 1 ∧ hs_fr [(59, some 0), (60, some 0)] h H ∧ (∀ f x y, f < N → x < N → y < N → H.1 59 0 (100 * f + 10 * x + y) = nI (mN (tms J N re r f x y))) ∧ q = (nI 1, H)) ∨ (d = 0 ∧ hs_fr [(59, some 0), (60, some 0)] h H ∧ (∀ f x y, f < N → x < N → y < N → H.1 59 0 (100 * f + 10 * x + y) = nI (mN (tms J N re 1000 f x y))) ∧ (∀ f x y, f < N → x < N → y < N → H.1 60 0 (100 * f + 10 * x + y) = nI (mN (lasts J N re 1000 f x y))) ∧ q = (nI 0, H))) (Q := fun o => ∃ H, o = some H ∧ hs_fr [(59, some 0), (60, some 0)] h H ∧ (∀ f x y, f < N → x < N → y < N → H.1 59 0 (100 * f + 10 * x + y) = nI (mN (tms J N re 1000 f x y))) ∧ (∀ f x y, f < N → x < N → y < N → H.1 60 0 (100 * f + 10 * x + y) = nI (mN (lasts J N re 1000 f x y)))) (fun d q hI k => ?_) (R + 1) _ hs_big ⟨H0, Or.inl ⟨0, by omega, by omega, f0, v0, rfl⟩⟩ (lp_big (by omega))
    obtain ⟨H, ⟨r, hr, rfl, fr, hv, rfl⟩ | ⟨rfl, fr, hv, hw, rfl⟩⟩ := hI
    · refine Or.inr ?_
      obtain ⟨H1, g1, g2, g3⟩ := sp_218h (r := r) (x1 := nI 0) k (mk_n_fr fr rfl n) hN hJ (by omega) hv
      have e59 : H1.1 59 0 = H.1 59 0 := (g1 59 0 (by intro q hq; revert q; simp)).1
      have fr1 : hs_fr [(59, some 0), (60, some 0)] h H1 := fr.tr (g1.sub (hs_sub_cons (.inl (.tail _ (.head _))) hs_sub_nil))
      obtain ⟨m, H2, q1, q2, q3, q4⟩ := sp_218c (r := r) (h := H1) k (mk_n_fr fr1 rfl n) hN hJ hJa hre (by omega) (fun f x y hf hx hy => by rw [e59]; exact hv f x y hf hx hy) g2
      have fr2 : hs_fr [(59, some 0), (60, some 0)] h H2 := fr1.tr (q1.sub (hs_sub_cons (.inl (.head _)) hs_sub_nil))
      have step : hb_218_54 k (nI 1) H = k (bI m, H2) := by
        unfold hb_218_54
        rw [if_neg (by decide), g3, q4]
      by_cases h1 : r = R
      · subst h1
        have hm : m = false := eq_false_of_ne_true (fun q => hR1 (q3.mp q))
        have hst : ∀ f x y, x < N → y < N → tms J N re r f x y = tms J N re 1000 f x y := fun f x y hx hy => by
          have w2 := tms_stay (f := f) hR1 hx hy (by omega) (1000 - r)
          rw [show r + (1000 - r) = 1000 by omega] at w2
          exact w2.symm
        have e60 : H2.1 60 0 = H1.1 60 0 := (q1 60 0 (by intro q hq; revert q; simp)).1
        refine ⟨0, (nI 0, H2), by omega, ⟨H2, Or.inr ⟨rfl, fr2, fun f x y hf hx hy => ?_, fun f x y hf hx hy => ?_, rfl⟩⟩, ?_⟩
        · rw [q2 f x y hf hx hy, tms_stay hR1 hx hy (by omega) 1, hst f x y hx hy]
        · rw [e60, g2 f x y hf hx hy]
          have e : lasts J N re r f x y = lasts J N re 1000 f x y := eAll_same (fun i j hi hj => hst f i j hi hj) N (Nat.le_refl _)
          rw [e]
        · show hb_218_54 k (nI 1) H = _
          rw [step, hm]
          rfl
      · have hm : m = true := q3.mpr (hR2 r (by omega))
        refine ⟨R - (r + 1) + 1, (nI 1, H2), by omega, ⟨H2, Or.inl ⟨r + 1, by omega, rfl, fr2, q2, rfl⟩⟩, ?_⟩
        show hb_218_54 k (nI 1) H = _
        rw [step, hm]
        rfl
    · refine Or.inl ⟨H, ?_, fr, hv, hw⟩
      show hb_218_54 k (nI 0) H = _
      unfold hb_218_54
      rw [if_pos (by decide)]
  obtain ⟨H, m1, m2⟩ := main
  refine ⟨H, ?_, m2⟩
  unfold hf_218
  have s0 := lp_for (f := fun k s => hb_218_2 k s.1 s.2) (st := fun j => (nI j, hs_row h 59 0 j (fun k => nI (if k / 100 = k / 10 % 10 ∨ k / 100 = k % 10 then 0 else 99999)))) (e := 1000) (X := some H) (fun j hj q => by
    show hb_218_2 q (nI j) (hs_row h 59 0 j (fun k => nI (if k / 100 = k / 10 % 10 ∨ k / 100 = k % 10 then 0 else 99999))) = q (nI (j + 1), hs_row h 59 0 (j + 1) (fun k => nI (if k / 100 = k / 10 % 10 ∨ k / 100 = k % 10 then 0 else 99999)))
    have eS := hs_rowS h 59 0 j (fun k => nI (if k / 100 = k / 10 % 10 ∨ k / 100 = k % 10 then 0 else 99999))
    rw [← eS]
    generalize hs_row h 59 0 j (fun k => nI (if k / 100 = k / 10 % 10 ∨ k / 100 = k % 10 then 0 else 99999)) = G
    have e1 : nI j / nI 100 = nI (j / 100) := pk_div (by omega) (by omega) (by omega)
    have e2 : nI j / nI 10 = nI (j / 10) := pk_div (by omega) (by omega) (by omega)
    have e3 : nI (j / 10) - nI (j / 10) / nI 10 * nI 10 = nI (j / 10 % 10) := pk_rem (by omega) (by omega) (by omega)
    have e4 : nI j - nI (j / 10) * nI 10 = nI (j % 10) := by rw [← e2]; exact pk_rem (by omega) (by omega) (by omega)
    unfold hb_218_2 hb_218_39 hb_218_45
    rw [if_neg (nI_ge hj (by omega)), nx_inb (by omega) (by omega), nx_ck, nx_ck, nI_clamp (by omega), nI_add, e1, e2, e3, e4]
    by_cases c1 : j / 100 = j / 10 % 10
    · rw [if_pos (by rw [c1]), if_pos (Or.inl c1)]
    · rw [if_neg (fun q => c1 (nI_inj (by omega) (by omega) q))]
      by_cases c2 : j / 100 = j % 10
      · rw [if_neg (fun q => q (by rw [c2])), if_pos (Or.inr c2)]
      · rw [if_pos (fun q => c2 (nI_inj (by omega) (by omega) q)), if_neg (fun q => q.elim c1 c2)]) (fun q => by
    show hb_218_2 q (nI 1000) (hs_row h 59 0 1000 (fun k => nI (if k / 100 = k / 10 % 10 ∨ k / 100 = k % 10 then 0 else 99999))) = _
    unfold hb_218_2
    rw [if_pos (by decide)]
    exact m1) 0 hs_big (by omega) (lp_big (by omega))
  rw [hs_row0] at s0
  exact s0
end CM
