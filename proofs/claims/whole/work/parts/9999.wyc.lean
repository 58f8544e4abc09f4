/-! Ways that fit: the class goes through them. -/
theorem cbL_app {L M : List (List Nat)} {t : Nat} : cbL (L ++ M) t = cbL L t ||| cbL M t := tb_iff fun i => by
  rw [Nat.testBit_or, Bool.or_eq_true, tb_cbL, tb_cbL, tb_cbL]
  constructor
  · rintro ⟨m, h1, h2⟩
    rcases List.mem_append.mp h1 with h | h
    · exact Or.inl ⟨m, h, h2⟩
    · exact Or.inr ⟨m, h, h2⟩
  · rintro (⟨m, h1, h2⟩ | ⟨m, h1, h2⟩)
    · exact ⟨m, List.mem_append_left _ h1, h2⟩
    · exact ⟨m, List.mem_append_right _ h1, h2⟩
theorem cbL_all {M : List (List Nat)} {t j : Nat} (h : ∀ l, l ∈ M → nz l t = j) (h0 : M ≠ []) : cbL M t = 2 ^ j := tb_iff fun i => by
  rw [tb_cbL, tb_pow, decide_eq_true_eq]
  constructor
  · rintro ⟨l, h1, h2⟩
    rw [← h l h1, h2]
  · rintro rfl
    cases M with
    | nil => exact absurd rfl h0
    | cons l M => exact ⟨l, List.mem_cons_self, h l List.mem_cons_self⟩
theorem isE_app {α : Type} {L M : List α} : (L ++ M).isEmpty = (L.isEmpty && M.isEmpty) := by
  cases L with
  | nil => rfl
  | cons x L => rfl
theorem isE_f {α : Type} {L : List α} : L.isEmpty = false ↔ L ≠ [] := by
  cases L with
  | nil => exact ⟨fun h => (by cases h), fun h => absurd rfl h⟩
  | cons x L => exact ⟨fun _ h => (by cases h), fun _ => rfl⟩
section CE
variable {N re W n m z T : Nat} {J : Nat → Nat} {st : Int32} {tn nn gn : Nat → Nat} {one : Bool}
/-- all ways that begin so -/
def wyX (N re W : Nat) (J : Nat → Nat) (st : Int32) (tn nn gn : Nat → Nat) (n m : Nat) (pre : List Nat) : List (List Nat) := (wyG (mvs J re) N W (fun t s => fitB tn nn gn t s m) (n - pre.length + 1) pre.length (cnd (sel (bgn st) N) (mvs J re) pre) (smA W z0 pre pre.length)).map (fun l => pre ++ l)
theorem wyX_b (hN : N ≤ 10) (hn : n ≤ 5) {pre : List Nat} : (wyX N re W J st tn nn gn n m pre).length ≤ 1000000 := by
  unfold wyX
  rw [List.length_map]
  have h1 := wyG_b (mv := mvs J re) (N := N) (W := W) (fit := fun t s => fitB tn nn gn t s m) (n - pre.length + 1) pre.length (cnd (sel (bgn st) N) (mvs J re) pre) (smA W z0 pre pre.length)
  have h2 : N ^ (n - pre.length + 1) ≤ 10 ^ (n - pre.length + 1) := Nat.pow_le_pow_left hN _
  have h3 : 10 ^ (n - pre.length + 1) ≤ 10 ^ 6 := Nat.pow_le_pow_right (by omega) (by omega)
  have h4 : 10 ^ 6 = 1000000 := by decide
  omega
theorem lsb_of {a : Nat} (h : a ≠ 0) : ∃ i, lsb i a := by
  obtain ⟨j, hj⟩ := tb_ne0 h
  obtain ⟨v, h1, h2, h3⟩ := least_of (p := fun i => a.testBit i = true) hj
  exact ⟨v, h2, fun i hi => eq_false_of_ne_true (h3 i hi)⟩
/-- the end of a way: nothing was smelt later -/
theorem cw_fin {pre : List Nat} {L : List (List Nat)} {G : hs_H} (c : cwN N re W J st z tn nn gn n m T one G) (hN : N ≤ 10) (hJ : ∀ k, J k < 2 ^ N) (hre : re = 0 ∨ re = 1) (hn : n ≤ 5) (hl : pre.length = T) (hT : T ≤ n) (hf : ∀ u, T < u → u ≤ n → ∀ s, fitB tn nn gn u s m = true) (p : cwP N W pre G) (q : cwX N n T one T L G) : ∃ H, hf_103 (nI T) (nI (nxc N re W J st tn nn gn n m pre)) G = some (nI (wyX N re W J st tn nn gn n m pre).length, H) ∧ cwF G H ∧ cwP N W pre H ∧ cwX N n T one T (L ++ wyX N re W J st tn nn gn n m pre) H ∧ ∀ u, u < T → H.1 40 0 u = G.1 40 0 u := by
  have hp := p2_lt hN
  have hx := nxc_lt (W := W) (tn := tn) (nn := nn) (gn := gn) (n := n) (m := m) (st := st) hJ hre (fun u hu => (p.1 u hu).1)
  have hb := fun i hi => tb_nxc (N := N) (re := re) (W := W) (J := J) (st := st) (tn := tn) (nn := nn) (gn := gn) (n := n) (m := m) (pre := pre) hN (i := i) hi
  have hlen : (wyX N re W J st tn nn gn n m pre).length = wsm (wk J re (n - T)) (nxc N re W J st tn nn gn n m pre) 10 := by
    unfold wyX
    rw [List.length_map, wyG_S, wyP_len hN hJ hre (fun u h1 h2 => hf u (by omega) (by omega)) hb N (Nat.le_refl _), wsm_10 hN hx, hl]
  have hcb : cbL (wyX N re W J st tn nn gn n m pre) T = nxc N re W J st tn nn gn n m pre := tb_iff fun i => by
    rw [tb_cbL]
    unfold wyX
    constructor
    · rintro ⟨l, h1, h2⟩
      obtain ⟨l', h3, rfl⟩ := List.mem_map.mp h1
      have e : nz (pre ++ l') T = nz l' 0 := by rw [← hl]; exact nz_appr pre 0
      rw [e] at h2
      obtain ⟨j, l2, rfl, g1, g2, g3⟩ := (mem_wyG _ _ _ _ l').mp h3
      have ej : j = i := h2
      rw [← ej]
      refine (hb j g1).mpr ⟨g2, ?_⟩
      have hw := wyG_wk (J := J) (re := re) (W := W) (fit := fun t s => fitB tn nn gn t s m) hN (n - pre.length) (pre.length + 1) j (passS W (smA W z0 pre pre.length) j)
      have hpos := List.length_pos_of_mem ((mem_wyG _ _ _ _ l2).mpr g3)
      omega
    · intro h
      have hi := tb_in hx h
      obtain ⟨g1, g2⟩ := (hb i hi).mp h
      have hw := wyG_all (W := W) (fit := fun t s => fitB tn nn gn t s m) hN hJ hre (n - pre.length) (pre.length + 1) i (passS W (smA W z0 pre pre.length) i) hi (fun u h1 h2 => hf u (by omega) (by omega))
      cases hg : wyG (mvs J re) N W (fun t s => fitB tn nn gn t s m) (n - pre.length) (pre.length + 1) (mvs J re i) (passS W (smA W z0 pre pre.length) i) with
      | nil =>
        rw [hg] at hw
        have : ([] : List (List Nat)).length = 0 := rfl
        omega
      | cons y Y =>
        refine ⟨pre ++ (i :: y), List.mem_map.mpr ⟨i :: y, (mem_wyG _ _ _ _ _).mpr ⟨i, y, rfl, hi, g1, (mem_wyG _ _ _ _ _).mp (by rw [hg]; exact List.mem_cons_self)⟩, rfl⟩, ?_⟩
        have e : nz (pre ++ (i :: y)) T = nz (i :: y) 0 := by rw [← hl]; exact nz_appr pre 0
        rw [e]
        rfl
  have hlb := wyX_b (re := re) (W := W) (J := J) (st := st) (tn := tn) (nn := nn) (gn := gn) (m := m) (pre := pre) hN hn
  by_cases h0 : nxc N re W J st tn nn gn n m pre = 0
  · have e : wyX N re W J st tn nn gn n m pre = [] := by
      apply List.eq_nil_of_length_eq_zero
      rw [hlen, h0]
      have : ∀ j, wsm (wk J re (n - T)) 0 j = 0 := by
        intro j
        induction j with
        | zero => rfl
        | succ j ih =>
          show wsm (wk J re (n - T)) 0 j + (if (0 : Nat).testBit j = true then wk J re (n - T) j else 0) = 0
          rw [Nat.zero_testBit, if_neg Bool.false_ne_true, ih]
      exact this 10
    rw [e, h0, List.append_nil]
    refine ⟨G, ?_, ⟨hs_fr.rf, fun _ _ => rfl⟩, p, q, fun _ _ => rfl⟩
    unfold hf_103 hb_103_13
    rw [if_pos (show nI 0 = 0 from rfl)]
    rfl
  · have hne : wyX N re W J st tn nn gn n m pre ≠ [] := fun e => h0 (by rw [← hcb, e]; rfl)
    obtain ⟨a, ha, ha2, ha3⟩ := q.2.2 T (Nat.le_refl _) (Nat.le_refl _)
    -- what is done in both cases
    have e33 : ∀ H, cwF G H → (∀ u, H.1 40 0 u = G.1 40 0 u) → hb_103_33 (nI T) (nI (nxc N re W J st tn nn gn n m pre)) H = some (nI (wyX N re W J st tn nn gn n m pre).length, hs_put H 40 0 T (nI (a ||| nxc N re W J st tn nn gn n m pre))) := fun H f h40 => by
      have cH := cwN_fr c f
      have e99 : hf_99 (nI (n - T)) (nI (nxc N re W J st tn nn gn n m pre)) (hs_put H 40 0 T (nI (a ||| nxc N re W J st tn nn gn n m pre))) = some (nI (wsm (wk J re (n - T)) (nxc N re W J st tn nn gn n m pre) 10), hs_put H 40 0 T (nI (a ||| nxc N re W J st tn nn gn n m pre))) := sp_99 hN (by omega) hx (fun j hj => by rw [nx_get, if_neg (by omega)]; exact (cH.2.2.2 (n - T) (by omega)).2 j hj)
      have e9 : (hs_put H 40 0 T (nI (a ||| nxc N re W J st tn nn gn n m pre))).1 10 0 9 = nI n := by rw [nx_get, if_neg (by omega)]; exact cH.2.2.1.1
      unfold hb_103_33
      rw [nx_inb (show T < 6 by omega) (by omega), nx_ck, nx_ck, nI_clamp (show T < 2147483648 by omega), h40, ha2, nx_or, e9, pk_sub hT, e99, Option.bind_some, hlen]
    have fin : ∀ H, cwF G H → cwP N W pre H → (∀ u, H.1 40 0 u = G.1 40 0 u) → H.1 10 0 13 = nI 1 → (one = false → ∀ x X, L ++ wyX N re W J st tn nn gn n m pre = x :: X → ∀ u, u ≤ n → H.1 41 0 u = nI (nz x u)) → cwF G (hs_put H 40 0 T (nI (a ||| nxc N re W J st tn nn gn n m pre))) ∧ cwP N W pre (hs_put H 40 0 T (nI (a ||| nxc N re W J st tn nn gn n m pre))) ∧ cwX N n T one T (L ++ wyX N re W J st tn nn gn n m pre) (hs_put H 40 0 T (nI (a ||| nxc N re W J st tn nn gn n m pre))) ∧ ∀ u, u < T → (hs_put H 40 0 T (nI (a ||| nxc N re W J st tn nn gn n m pre))).1 40 0 u = G.1 40 0 u := fun H f pH h40 h13 h41 => by
      refine ⟨⟨f.1.put (.inl (.tail _ (.tail _ (.tail _ (.head _))))), fun x hx => ?_⟩, ⟨fun u hu => ⟨(pH.1 u hu).1, ?_⟩, fun u hu k hk => ?_⟩, ⟨?_, fun ho x X e u hu => ?_, fun u h1 h2 => ⟨a ||| nxc N re W J st tn nn gn n m pre, or_lt ha hx, ?_, fun ho => ?_⟩⟩, fun u hu => ?_⟩
      · rw [nx_get, if_neg (by omega)]; exact f.2 x hx
      · rw [nx_get, if_neg (by omega)]; exact (pH.1 u hu).2
      · rw [nx_get, if_neg (by omega)]; exact pH.2 u hu k hk
      · rw [nx_get, if_neg (by omega), h13, isE_app, isE_f.mpr hne, Bool.and_false]
        rfl
      · rw [nx_get, if_neg (by omega)]; exact h41 ho x X e u hu
      · have e : u = T := by omega
        rw [nx_get, if_pos ⟨rfl, rfl, e⟩]
      · have e : u = T := by omega
        rw [e, cbL_app, hcb, ha3 ho]
      · rw [nx_get, if_neg (by omega)]; exact h40 u
    unfold hf_103
    rw [if_neg (nI_ne0 (Nat.pos_of_ne_zero h0) (by omega)), if_neg (nI_pos (by omega)), if_pos (nI_le (by omega) (by omega)), q.1]
    by_cases hL : L = []
    · have he : (!L.isEmpty) = false := by rw [hL]; rfl
      rw [he, if_neg (fun w => w rfl)]
      have fP : cwF G (hs_put G 10 0 13 (nI 1)) := ⟨hs_fr.rf.put (.inl (.head _)), fun x hx => by rw [nx_get, if_neg (fun w => hx w.2.2)]⟩
      have cP := cwN_fr c fP
      cases hX : wyX N re W J st tn nn gn n m pre with
      | nil => exact absurd hX hne
      | cons x X =>
        have hX2 := hX
        unfold wyX at hX2
        cases hg : wyG (mvs J re) N W (fun t s => fitB tn nn gn t s m) (n - pre.length + 1) pre.length (cnd (sel (bgn st) N) (mvs J re) pre) (smA W z0 pre pre.length) with
        | nil => rw [hg] at hX2; cases hX2
        | cons y Y =>
          rw [hg] at hX2
          have ex : pre ++ y = x := by
            have : (pre ++ y) :: Y.map (fun l => pre ++ l) = x :: X := hX2
            injection this
          obtain ⟨d1, d2⟩ := wyG_hdT hN hJ hre (fun u h1 h2 => hf u (by omega) (by omega)) hb hg
          have nr : ∀ u, nz x (T + u) = nz y u := fun u => by rw [← ex, ← hl]; exact nz_appr pre u
          obtain ⟨H, s1, s2, s3⟩ := sp_104 (x := x) (nd := nxc N re W J st tn nn gn n m pre) cP hN hJ hre hn hT (fun u hu => by
            rw [nx_get, if_neg (by omega), (p.1 u (by omega)).2, ← ex, nz_appl pre u (by omega)]) hx (by rw [show T = T + 0 by omega, nr 0]; exact d1) (fun u h1 h2 => by
            have := d2 (u - T) (by omega)
            rw [← nr, ← nr, show T + (u - T + 1) = u + 1 by omega, show T + (u - T) = u by omega, show n - pre.length - 1 - (u - T) = n - 1 - u by omega] at this
            exact this)
          have fH : cwF G H := ⟨fP.1.tr (s2.sub (hs_sub_cons (.inl (.tail _ (.tail _ (.tail _ (.tail _ (.head _)))))) hs_sub_nil)), fun x hx => by rw [(s2 10 0 (by intro q hq; revert q; simp)).1]; exact fP.2 x hx⟩
          have a1 : ∀ c i, c ≠ 41 → c ≠ 10 → H.1 c i = G.1 c i := fun c i h1 h2 => by
            rw [(s2 c i (by intro q hq hh; rcases hh with rfl | rfl <;> simp at hq; exact h1 hq.1)).1]
            funext k
            rw [nx_get, if_neg (fun w => h2 w.1)]
          have h40 : ∀ u, H.1 40 0 u = G.1 40 0 u := fun u => by rw [a1 40 0 (by omega) (by omega)]
          have e13 : H.1 10 0 13 = nI 1 := by rw [(s2 10 0 (by intro q hq; revert q; simp)).1, nx_get, if_pos ⟨rfl, rfl, rfl⟩]
          have pH : cwP N W pre H := ⟨fun u hu => ⟨(p.1 u hu).1, by rw [a1 39 0 (by omega) (by omega)]; exact (p.1 u hu).2⟩, fun u hu k hk => by rw [a1 35 u (by omega) (by omega)]; exact p.2 u hu k hk⟩
          have h41 : one = false → ∀ x' X', L ++ wyX N re W J st tn nn gn n m pre = x' :: X' → ∀ u, u ≤ n → H.1 41 0 u = nI (nz x' u) := fun _ x' X' e u hu => by
            rw [hL, hX] at e
            have : x = x' := by
              have : x :: X = x' :: X' := e
              injection this
            rw [← this]
            exact s3 u hu
          rw [s1, Option.bind_some, e33 H fH h40, ← hX]
          exact ⟨_, rfl, fin H fH pH h40 e13 h41⟩
    · have he : (!L.isEmpty) = true := by rw [isE_f.mpr hL]; rfl
      have h13 : G.1 10 0 13 = nI 1 := by rw [q.1, he]; rfl
      rw [he, if_pos (by decide), e33 G ⟨hs_fr.rf, fun _ _ => rfl⟩ (fun _ => rfl)]
      refine ⟨_, rfl, fin G ⟨hs_fr.rf, fun _ _ => rfl⟩ p (fun _ => rfl) h13 (fun ho x X e u hu => ?_)⟩
      cases L with
      | nil => exact absurd rfl hL
      | cons y Y =>
        have : y = x := by
          have : y :: (Y ++ wyX N re W J st tn nn gn n m pre) = x :: X := e
          injection this
        rw [← this]
        exact q.2.1 ho y Y rfl u hu
end CE
