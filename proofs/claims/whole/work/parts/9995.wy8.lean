/-! Ways that fit: all that the model finds. -/
section MY
variable (N re W n m z : Nat) (J : Nat → Nat) (st : Int32) (tn nn gn : Nat → Nat) (one : Bool)
/-- from s0 on the model finds X beside L and stands at t, nx; or it has found the first and stops -/
def mwO (pre : List Nat) (L X : List (List Nat)) (h0 : hs_H) (b : Nat) (s0 : Int32 × Int32 × Int32 × Int32 × Int32 × hs_H) (t nx : Int32) : Prop := ∃ d G', d ≤ b ∧ (((one = false ∨ L ++ X = []) ∧ lps wF d s0 (mwT n m one t nx G') ∧ mwI N W n pre (L ++ X) h0 G') ∨ (one = true ∧ L = [] ∧ ∃ x Y t2 nx2, X = x :: Y ∧ t2 ≤ 5 ∧ lps wF d s0 (mwT n m one (nI t2) nx2 G') ∧ mwF h0 G' ∧ mwE n [x] G'))
end MY
section MZ
variable {N re W n m z : Nat} {J : Nat → Nat} {st : Int32} {tn nn gn : Nat → Nat} {one : Bool} {h0 : hs_H} {pre : List Nat}
theorem mwO_tr {L X Y : List (List Nat)} {b e : Nat} {s0 : Int32 × Int32 × Int32 × Int32 × Int32 × hs_H} {t nx t' nx' : Int32} (p : mwO N W n m one pre L X h0 b s0 t nx) (q : ∀ G, (one = false ∨ L ++ X = []) → mwI N W n pre (L ++ X) h0 G → mwO N W n m one pre (L ++ X) Y h0 e (mwT n m one t nx G) t' nx') : mwO N W n m one pre L (X ++ Y) h0 (b + e) s0 t' nx' := by
  obtain ⟨d, G, hd, ⟨p1, p2, p3⟩ | ⟨p1, p2, x, Z, t2, nx2, p3, p4, p5, p6⟩⟩ := p
  · obtain ⟨d', G', hd', ⟨q1, q2, q3⟩ | ⟨q1, q2, x, Z, t2, nx2, q3, q4, q5, q6⟩⟩ := q G p1 p3
    · refine ⟨d + d', G', by omega, Or.inl ⟨?_, lps_tr p2 q2, ?_⟩⟩
      · rw [← List.append_assoc]; exact q1
      · rw [← List.append_assoc]; exact q3
    · have e1 : L = [] := (List.append_eq_nil_iff.mp q2).1
      have e2 : X = [] := (List.append_eq_nil_iff.mp q2).2
      exact ⟨d + d', G', by omega, Or.inr ⟨q1, e1, x, Z, t2, nx2, by rw [e2, List.nil_append]; exact q3, q4, lps_tr p2 q5, q6⟩⟩
  · exact ⟨d, G, by omega, Or.inr ⟨p1, p2, x, Z ++ Y, t2, nx2, by rw [p3]; rfl, p4, p5, p6⟩⟩
theorem mwO_pop {L X : List (List Nat)} {b : Nat} {s0 : Int32 × Int32 × Int32 × Int32 × Int32 × hs_H} {t nx : Int32} {j : Nat} (p : mwO N W n m one (pre ++ [j]) L X h0 b s0 t nx) : mwO N W n m one pre L X h0 b s0 t nx := by
  obtain ⟨d, G, hd, ⟨p1, p2, p3⟩ | p⟩ := p
  · exact ⟨d, G, hd, Or.inl ⟨p1, p2, mw_pop p3⟩⟩
  · exact ⟨d, G, hd, Or.inr p⟩
theorem cnd_app {c0 j : Nat} {mv : Nat → Nat} : cnd c0 mv (pre ++ [j]) = mv j := by
  have hl : (pre ++ [j]).length = pre.length + 1 := by rw [List.length_append]; rfl
  unfold cnd
  rw [hl, if_neg (by omega), Nat.add_sub_cancel, nz_app pre _ (Nat.le_refl _), if_pos rfl]
theorem mw_run (c : mwN N re W J st z tn nn gn h0) (hN : N ≤ 10) (hre : re = 0 ∨ re = 1) (hJ : ∀ k, J k < 2 ^ N) (hJa : ∀ a, (J a).testBit a = false) (hW : W < 2 ^ N) (hz : z ≤ 10) (hm : m ≤ z) (ok : ∀ k, k < z → tn k ≤ 5 ∧ nn k < N ∧ gn k ≤ 18) (hn : n ≤ 5) : ∀ (r : Nat) (pre : List Nat) (L : List (List Nat)) (G : hs_H), pre.length + r = n → (one = false ∨ L = []) → mwI N W n pre L h0 G → L.length + (wyG (mvs J re) N W (fun t s => fitB tn nn gn t s m) (r + 1) pre.length (cnd (sel (bgn st) N) (mvs J re) pre) (smA W z0 pre pre.length)).length < 2000000 → mwO N W n m one pre L ((wyG (mvs J re) N W (fun t s => fitB tn nn gn t s m) (r + 1) pre.length (cnd (sel (bgn st) N) (mvs J re) pre) (smA W z0 pre pre.length)).map (fun l => pre ++ l)) h0 (10 * cD r + 1) (mwT n m one (nI pre.length) (nI 0) G) (bck pre).1 (bck pre).2 := by
  have hp := p2_lt hN
  -- a row of nodes, if each does its part
  have row : ∀ (r : Nat) (pre : List Nat), pre.length + r = n → (∀ j L G, j < N → (one = false ∨ L = []) → mwI N W n pre L h0 G → L.length + (wy1 (mvs J re) N W (fun t s => fitB tn nn gn t s m) r pre.length (cnd (sel (bgn st) N) (mvs J re) pre) (smA W z0 pre pre.length) j).length < 2000000 → mwO N W n m one pre L ((wy1 (mvs J re) N W (fun t s => fitB tn nn gn t s m) r pre.length (cnd (sel (bgn st) N) (mvs J re) pre) (smA W z0 pre pre.length) j).map (fun l => pre ++ l)) h0 (cD r) (mwT n m one (nI pre.length) (nI j) G) (nI pre.length) (nI (j + 1))) → ∀ L G, (one = false ∨ L = []) → mwI N W n pre L h0 G → L.length + (wyG (mvs J re) N W (fun t s => fitB tn nn gn t s m) (r + 1) pre.length (cnd (sel (bgn st) N) (mvs J re) pre) (smA W z0 pre pre.length)).length < 2000000 → mwO N W n m one pre L ((wyG (mvs J re) N W (fun t s => fitB tn nn gn t s m) (r + 1) pre.length (cnd (sel (bgn st) N) (mvs J re) pre) (smA W z0 pre pre.length)).map (fun l => pre ++ l)) h0 (10 * cD r + 1) (mwT n m one (nI pre.length) (nI 0) G) (bck pre).1 (bck pre).2 := by
    intro r pre hr piece L G ho p hL
    rw [wyG_S] at hL ⊢
    generalize cnd (sel (bgn st) N) (mvs J re) pre = cc at piece hL ⊢
    have inner : ∀ j, j ≤ N → L.length + (wyP (mvs J re) N W (fun t s => fitB tn nn gn t s m) r pre.length cc (smA W z0 pre pre.length) j).length < 2000000 → mwO N W n m one pre L ((wyP (mvs J re) N W (fun t s => fitB tn nn gn t s m) r pre.length cc (smA W z0 pre pre.length) j).map (fun l => pre ++ l)) h0 (j * cD r) (mwT n m one (nI pre.length) (nI 0) G) (nI pre.length) (nI j) := by
      intro j
      induction j with
      | zero =>
        intro _ _
        refine ⟨0, G, Nat.zero_le _, Or.inl ⟨?_, lps_rf, ?_⟩⟩
        · show one = false ∨ L ++ List.map _ [] = []
          rw [List.map_nil, List.append_nil]; exact ho
        · show mwI N W n pre (L ++ List.map _ []) h0 G
          rw [List.map_nil, List.append_nil]; exact p
      | succ j ih =>
        intro hj hlen
        have e : wyP (mvs J re) N W (fun t s => fitB tn nn gn t s m) r pre.length cc (smA W z0 pre pre.length) (j + 1) = wyP (mvs J re) N W (fun t s => fitB tn nn gn t s m) r pre.length cc (smA W z0 pre pre.length) j ++ wy1 (mvs J re) N W (fun t s => fitB tn nn gn t s m) r pre.length cc (smA W z0 pre pre.length) j := rfl
        rw [e, List.length_append] at hlen
        rw [e, List.map_append, Nat.succ_mul]
        refine mwO_tr (ih (by omega) (by omega)) (fun G' ho' p' => piece j _ G' (by omega) ho' p' ?_)
        rw [List.length_append, List.length_map]
        omega
    have hmul : N * cD r ≤ 10 * cD r := Nat.mul_le_mul_right _ hN
    obtain ⟨d, G', hd, h⟩ := mwO_tr (Y := []) (e := 1) (t' := (bck pre).1) (nx' := (bck pre).2) (inner N (Nat.le_refl _) hL) (fun G' ho' p' => ⟨1, G', Nat.le_refl _, Or.inl ⟨by rw [List.append_nil]; exact ho', lps_1 (fun k => mw_back c hN (by omega) ho' p' k), by rw [List.append_nil]; exact p'⟩⟩)
    rw [List.append_nil] at h
    exact ⟨d, G', by omega, h⟩
  intro r
  induction r with
  | zero =>
    intro pre L G hr ho p hL
    refine row 0 pre hr (fun j L G hj ho p hL => ?_) L G ho p hL
    have e : ok1 N re W m J st tn nn gn pre j = true → wy1 (mvs J re) N W (fun t s => fitB tn nn gn t s m) 0 pre.length (cnd (sel (bgn st) N) (mvs J re) pre) (smA W z0 pre pre.length) j = [[j]] := fun q => by
      unfold ok1 at q
      unfold wy1
      rw [if_pos q]
      rfl
    have e' : ok1 N re W m J st tn nn gn pre j = false → wy1 (mvs J re) N W (fun t s => fitB tn nn gn t s m) 0 pre.length (cnd (sel (bgn st) N) (mvs J re) pre) (smA W z0 pre pre.length) j = [] := fun q => by
      unfold ok1 at q
      unfold wy1
      rw [if_neg (by rw [q]; exact Bool.false_ne_true)]
    have hL2 : L.length < 2000000 := by omega
    · rcases mw_step (one := one) c hN hre hJ hJa hW hz hm ok hj hn (by omega) ho hL2 p with ⟨q1, G', g1, g2⟩ | ⟨q1, q2, G', g1, g2⟩ | ⟨q1, q2, -⟩
      · rw [e' q1]
        exact ⟨1, G', Nat.le_refl _, Or.inl ⟨by rw [List.map_nil, List.append_nil]; exact ho, lps_1 g2, by rw [List.map_nil, List.append_nil]; exact g1⟩⟩
      · rw [e q1]
        cases one with
        | false => exact ⟨1, G', Nat.le_refl _, Or.inl ⟨Or.inl rfl, lps_1 g2, g1⟩⟩
        | true =>
          have e3 : L = [] := ho.resolve_left (fun q => by cases q)
          rw [e3] at g1
          exact ⟨1, G', Nat.le_refl _, Or.inr ⟨rfl, e3, pre ++ [j], [], pre.length, _, rfl, by omega, lps_1 g2, g1.1, g1.2.2⟩⟩
      · omega
  | succ r ihr =>
    intro pre L G hr ho p hL
    refine row (r + 1) pre hr (fun j L G hj ho p hL => ?_) L G ho p hL
    have hl1 : (pre ++ [j]).length = pre.length + 1 := by rw [List.length_append]; rfl
    rcases mw_step (one := one) c hN hre hJ hJa hW hz hm ok hj hn (by omega) ho (by omega) p with ⟨q1, G', g1, g2⟩ | ⟨q1, q2, -⟩ | ⟨q1, q2, G', g1, g2⟩
    · have e' : wy1 (mvs J re) N W (fun t s => fitB tn nn gn t s m) (r + 1) pre.length (cnd (sel (bgn st) N) (mvs J re) pre) (smA W z0 pre pre.length) j = [] := by
        unfold ok1 at q1
        unfold wy1
        rw [if_neg (by rw [q1]; exact Bool.false_ne_true)]
      rw [e']
      exact ⟨1, G', by show 1 ≤ 10 * cD r + 2; omega, Or.inl ⟨by rw [List.map_nil, List.append_nil]; exact ho, lps_1 g2, by rw [List.map_nil, List.append_nil]; exact g1⟩⟩
    · omega
    · have e : wy1 (mvs J re) N W (fun t s => fitB tn nn gn t s m) (r + 1) pre.length (cnd (sel (bgn st) N) (mvs J re) pre) (smA W z0 pre pre.length) j = (wyG (mvs J re) N W (fun t s => fitB tn nn gn t s m) (r + 1) (pre.length + 1) (mvs J re j) (passS W (smA W z0 pre pre.length) j)).map (fun l => j :: l) := by
        unfold ok1 at q1
        unfold wy1
        rw [if_pos q1]
      rw [e, List.length_map] at hL
      rw [e, List.map_map]
      have ef : ((fun l => pre ++ l) ∘ fun l => j :: l) = fun l => (pre ++ [j]) ++ l := by
        funext l
        show pre ++ j :: l = pre ++ [j] ++ l
        rw [List.append_assoc]
        rfl
      have esm : smA W z0 (pre ++ [j]) (pre.length + 1) = passS W (smA W z0 pre pre.length) j := by
        rw [smA_app pre z0 _ (Nat.le_refl _), if_pos rfl]
      have h := ihr (pre ++ [j]) L G' (by omega) ho g1
      rw [hl1, cnd_app, esm] at h
      have eb : bck (pre ++ [j]) = (nI pre.length, nI (j + 1)) := by
        unfold bck
        rw [hl1, if_neg (by omega), Nat.add_sub_cancel, nz_app pre _ (Nat.le_refl _), if_pos rfl]
      rw [eb] at h
      rw [ef]
      obtain ⟨d, H, hd, h⟩ := mwO_pop (h hL)
      refine ⟨1 + d, H, by show 1 + d ≤ 10 * cD r + 2; omega, h.imp (fun ⟨p1, p2, p3⟩ => ⟨p1, lps_tr (lps_1 g2) p2, p3⟩) (fun ⟨p1, p2, x, Y, t2, nx2, p3, p4, p5, p6⟩ => ⟨p1, p2, x, Y, t2, nx2, p3, p4, lps_tr (lps_1 g2) p5, p6⟩)⟩
/-- what the search leaves behind -/
theorem sp_193 (c : mwN N re W J st z tn nn gn h0) (hN : N ≤ 10) (hre : re = 0 ∨ re = 1) (hJ : ∀ k, J k < 2 ^ N) (hJa : ∀ a, (J a).testBit a = false) (hW : W < 2 ^ N) (hz : z ≤ 10) (hm : m ≤ z) (ok : ∀ k, k < z → tn k ≤ 5 ∧ nn k < N ∧ gn k ≤ 18) (hn : n ≤ 5) : ∃ G, hf_193 (nI n) (nI m) (bI one) h0 = some G ∧ mwF h0 G ∧ (((one = false ∨ wyG (mvs J re) N W (fun t s => fitB tn nn gn t s m) (n + 1) 0 (sel (bgn st) N) z0 = []) ∧ mwE n (wyG (mvs J re) N W (fun t s => fitB tn nn gn t s m) (n + 1) 0 (sel (bgn st) N) z0) G) ∨ (one = true ∧ ∃ x Y, wyG (mvs J re) N W (fun t s => fitB tn nn gn t s m) (n + 1) 0 (sel (bgn st) N) z0 = x :: Y ∧ mwE n [x] G)) := by
  have hp := p2_lt hN
  have s24 : ∀ k, k < 6 → (hs_put h0 12 0 24 (nI 0)).1 51 0 k = h0.1 51 0 k := fun k _ => by rw [nx_get, if_neg (by omega)]
  generalize hA : hs_put h0 12 0 24 (nI 0) = A at s24
  have fA : mwF h0 (hs_row A 51 0 6 (fun _ => nI 0)) := by
    rw [← hA]
    refine ⟨(hs_fr.rf.put (.inl (.head _))).tr (hs_row_fr (.inl (.tail _ (.tail _ (.tail _ (.head _)))))), fun x hx => ?_⟩
    rw [nx_rowget, if_neg (by omega), nx_get, if_neg (fun q => hx q.2.2)]
  have pI : mwI N W n [] [] h0 (hs_row A 51 0 6 (fun _ => nI 0)) := by
    refine ⟨fA, fun u hu => absurd hu (Nat.not_lt_zero _), ?_, fun t ht => ?_, fun x X e => by cases e⟩
    · rw [nx_rowget, if_neg (by omega), ← hA, nx_get, if_pos ⟨rfl, rfl, rfl⟩]
      rfl
    · rw [nx_rowget, if_pos ⟨rfl, rfl, by omega⟩]
      rfl
  have hb := wyG_b (mv := mvs J re) (N := N) (W := W) (fit := fun t s => fitB tn nn gn t s m) (n + 1) 0 (sel (bgn st) N) z0
  have hb2 : N ^ (n + 1) ≤ 10 ^ 6 := Nat.le_trans (Nat.pow_le_pow_left hN _) (Nat.pow_le_pow_right (by omega) (by omega))
  have h10 : 10 ^ 6 = 1000000 := by decide
  have run := mw_run (one := one) c hN hre hJ hJa hW hz hm ok hn n [] [] _ (Nat.zero_add n) (Or.inr rfl) pI (by
    show 0 + (wyG (mvs J re) N W (fun t s => fitB tn nn gn t s m) (n + 1) 0 (sel (bgn st) N) z0).length < _
    omega)
  have e0 : (wyG (mvs J re) N W (fun t s => fitB tn nn gn t s m) (n + 1) ([] : List Nat).length (cnd (sel (bgn st) N) (mvs J re) []) (smA W z0 [] ([] : List Nat).length)).map (fun l => [] ++ l) = wyG (mvs J re) N W (fun t s => fitB tn nn gn t s m) (n + 1) 0 (sel (bgn st) N) z0 := List.map_id' _
  rw [e0] at run
  have hc : cD n ≤ 200000 := by
    match n, hn with
    | 0, _ => decide
    | 1, _ => decide
    | 2, _ => decide
    | 3, _ => decide
    | 4, _ => decide
    | 5, _ => decide
  obtain ⟨d, G, hd, h⟩ := run
  have fin : ∀ s, lps wF d (mwT n m one (nI 0) (nI 0) (hs_row A 51 0 6 (fun _ => nI 0))) s → (∀ k, wF k s = some G) → hs_lp (fun k s => hb_193_34 k s.1 s.2.1 s.2.2.1 s.2.2.2.1 s.2.2.2.2.1 s.2.2.2.2.2) hs_big (nI n, nI m, bI one, nI 0, nI 0, hs_row A 51 0 6 (fun _ => nI 0)) = some G := fun s p1 p2 => lps_fin p1 (by unfold hs_big; omega) p2
  have start : hs_lp (fun k s => hb_193_34 k s.1 s.2.1 s.2.2.1 s.2.2.2.1 s.2.2.2.2.1 s.2.2.2.2.2) hs_big (nI n, nI m, bI one, nI 0, nI 0, hs_row A 51 0 6 (fun _ => nI 0)) = some G → hf_193 (nI n) (nI m) (bI one) h0 = some G := fun e => by
    unfold hf_193
    rw [hA]
    have hl := lp_for (f := fun k s => hb_193_8 k s.1 s.2.1 s.2.2.1 s.2.2.2.1 s.2.2.2.2) (st := fun i => (nI n, nI m, bI one, nI i, hs_row A 51 0 i (fun _ => nI 0))) (e := 6) (X := some G) (fun i hi k => ?_) (fun k => ?_) 0 hs_big (by omega) (lp_big (by omega))
    · rw [hs_row0] at hl
      exact hl
    · show hb_193_8 k (nI n) (nI m) (bI one) (nI i) (hs_row A 51 0 i (fun _ => nI 0)) = k (nI n, nI m, bI one, nI (i + 1), hs_row A 51 0 (i + 1) (fun _ => nI 0))
      unfold hb_193_8
      rw [if_neg (nI_nlt (by omega) (by omega)), nx_inb (show i < 6 by omega) (by omega), nx_ck, nI_clamp (show i < 2147483648 by omega), nI_add, ← hs_rowS A 51 0 i (fun _ => nI 0)]
    · show hb_193_8 k (nI n) (nI m) (bI one) (nI 6) (hs_row A 51 0 6 (fun _ => nI 0)) = _
      unfold hb_193_8
      rw [if_pos (nI_lt (by omega) (by omega))]
      exact e
  rcases h with ⟨p1, p2, p3⟩ | ⟨p1, -, x, Y, t2, nx2, p3, p4, p5, p6, p7⟩
  · refine ⟨G, start (fin _ p2 (fun k => ?_)), p3.1, Or.inl ⟨p1, p3.2.2⟩⟩
    show hb_193_34 k (nI n) (nI m) (bI one) (nI 0 + dM) (nI 0) G = _
    unfold hb_193_34 hb_193_200
    rw [if_pos dM_n2]
  · refine ⟨G, start (fin _ p5 (fun k => ?_)), p6, Or.inr ⟨p1, x, Y, p3, p7⟩⟩
    show hb_193_34 k (nI n) (nI m) (bI one) (nI t2) nx2 G = _
    unfold hb_193_34 hb_193_200
    rw [if_neg (nI_pos (by omega)), p1, if_neg (by decide), p7.1, if_pos (by show (0 : Int32) < nI 1; decide)]
end MZ
