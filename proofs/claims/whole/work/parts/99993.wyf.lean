/-! Ways that fit: the calls. -/
/-- what the class keeps of a search -/
def wyV : st_VW := fun N J re st W z t n g k h => h.1 10 0 8 = nI (wyZ N re W J st t n g k z).length ∧ (∀ u, u ≤ k → h.1 40 0 u = nI (cbL (wyZ N re W J st t n g k z) u)) ∧ ∀ x X, wyZ N re W J st t n g k z = x :: X → ∀ u, u ≤ k → h.1 41 0 u = nI (nz x u)
theorem wyV_dep {N : Nat} {J : Nat → Nat} {re : Nat} {st : Int32} {W z : Nat} {t n g : Nat → Nat} {k : Nat} : st_dep [(10, 0), (40, 0), (41, 0)] (wyV N J re st W z t n g k) := by
  intro h h' e p
  have e1 : h'.1 10 0 = h.1 10 0 := e (10, 0) (by simp)
  have e2 : h'.1 40 0 = h.1 40 0 := e (40, 0) (by simp)
  have e3 : h'.1 41 0 = h.1 41 0 := e (41, 0) (by simp)
  unfold wyV at p ⊢
  rw [e1, e2, e3]
  exact p
/-- the caches' pictures -/
theorem wy_V : st_V caV chV wyV := ⟨fun _ _ _ _ _ => caV_dep, fun _ _ _ => chV_dep, fun _ _ _ _ _ _ _ _ _ _ => wyV_dep⟩
/-- a call's two functions go alike; and no smells ahead of turn 0 -/
def st_callZ (f g : hs_H → Option (Int32 × hs_H)) : Prop := ∀ (b : Nat) (h : hs_H), b ≤ 1000000 → st_all caV chV wyV b h → stZ h → ∃ r h1 h2, f h = some (r, h1) ∧ g h1 = some (r, h2) ∧ st_all caV chV wyV (b + 100) h2 ∧ stZ h2
theorem stZ.fr {h h' : hs_H} {K : List (Nat × Option Nat)} (p : stZ h) (f : hs_fr K h h') (o : st_outb K [(35, 0)] = true) : stZ h' := st_dep.fr (L := [(35, 0)]) (P := stZ) (fun h h' e p => by
  have e1 : h'.1 35 0 = h.1 35 0 := e (35, 0) (by simp)
  unfold stZ at p ⊢
  rw [e1]
  exact p) f o p
theorem sp_146r {m : Nat} {a : Int32} {h : hs_H} (hm : m < 2147483648) : hf_146 (nI m) a.toInt64 h = some (bI (rg 0 m a), h) := by
  rw [sp_146 hm, i64_of]
  rfl
def mwS (N re W : Nat) (J : Nat → Nat) (st : Int32) (z : Nat) (tn nn gn : Nat → Nat) (n m : Nat) (one : Bool) (H : hs_H) : Prop := (one = false → mwE n (wyZ N re W J st tn nn gn n m) H) ∧ (wyZ N re W J st tn nn gn n m = [] → H.1 12 0 24 = nI 0) ∧ ∀ x X, wyZ N re W J st tn nn gn n m = x :: X → (∃ v, 0 < v ∧ v ≤ 1000000 ∧ H.1 12 0 24 = nI v) ∧ ∀ u, u ≤ n → H.1 52 0 u = nI (nz x u)
section CV
theorem sp_193S {N re W n m z : Nat} {J : Nat → Nat} {st : Int32} {tn nn gn : Nat → Nat} {one : Bool} {h : hs_H} (c : mwN N re W J st z tn nn gn h) (hN : N ≤ 10) (hre : re = 0 ∨ re = 1) (hJ : ∀ k, J k < 2 ^ N) (hJa : ∀ a, (J a).testBit a = false) (hW : W < 2 ^ N) (hz : z ≤ 10) (hm : m ≤ z) (ok : ∀ k, k < z → tn k ≤ 5 ∧ nn k < N ∧ gn k ≤ 18) (hn : n ≤ 5) : ∃ G, hf_193 (nI n) (nI m) (bI one) h = some G ∧ mwF h G ∧ mwS N re W J st z tn nn gn n m one G := by
  obtain ⟨G, g1, g2, g3⟩ := sp_193 (one := one) c hN hre hJ hJa hW hz hm ok hn
  have hvb := wyX_b (re := re) (W := W) (J := J) (st := st) (tn := tn) (nn := nn) (gn := gn) (m := m) (pre := []) hN hn
  rw [wyX_nil] at hvb
  refine ⟨G, g1, g2, ?_⟩
  rcases g3 with ⟨q1, q2⟩ | ⟨q1, x, Y, q2, q3⟩
  · have q2' : mwE n (wyZ N re W J st tn nn gn n m) G := q2
    refine ⟨fun _ => q2', fun e => by rw [q2'.1, e]; rfl, fun x X e => ⟨⟨(wyZ N re W J st tn nn gn n m).length, by rw [e, List.length_cons]; omega, hvb, q2'.1⟩, q2'.2.2 x X e⟩⟩
  · have q2' : wyZ N re W J st tn nn gn n m = x :: Y := q2
    refine ⟨fun e => (by rw [e] at q1; cases q1), fun e => (by rw [e] at q2'; cases q2'), fun x' X' e => ⟨⟨1, by omega, by omega, q3.1⟩, fun u hu => ?_⟩⟩
    rw [q2'] at e
    injection e with e1 e2
    rw [← e1]
    exact q3.2.2 x [] rfl u hu
theorem wy_m {N re W n m z : Nat} {J : Nat → Nat} {st : Int32} {tn nn gn : Nat → Nat} {one : Bool} {b : Nat} {h : hs_H} (p : st_all caV chV wyV b h) (hZ : stZ h) (c : mwN N re W J st z tn nn gn h) (hN : N ≤ 10) (hre : re = 0 ∨ re = 1) (hJ : ∀ k, J k < 2 ^ N) (hJa : ∀ a, (J a).testBit a = false) (hW : W < 2 ^ N) (hz : z ≤ 10) (hm : m ≤ z) (ok : ∀ k, k < z → tn k ≤ 5 ∧ nn k < N ∧ gn k ≤ 18) (hn : n ≤ 5) : ∃ G, hf_193 (nI n) (nI m) (bI one) h = some G ∧ st_all caV chV wyV b G ∧ stZ G ∧ mwS N re W J st z tn nn gn n m one G := by
  obtain ⟨G, g1, g2, g3⟩ := sp_193S (one := one) c hN hre hJ hJa hW hz hm ok hn
  exact ⟨G, g1, st_all_fp wy_V g2.1 rfl (fun p hp => g2.2 p (by omega)) p, hZ.fr g2.1 rfl, g3⟩
theorem wy_search {b N re W Ho : Nat} {J : Nat → Nat} {st pl mv : Int32} {s : Nat → Nat} {z : Nat} {t n g : Nat → Nat} {c d : Nat} {h : hs_H} {k : Nat} (hb : b ≤ 1000000) (hcd : c ≤ b ∧ d ≤ b) (co : st_core 0 0 N re W Ho J st pl mv s z t n g h) (mN : st_mN N re W Ho h) (im : st_imgs N re W Ho h) (ca : st_cache caV chV wyV c d N J re st W z t n g h) (rs : st_rest h) (hZ : stZ h) (hk : k ≤ 5) : ∃ H, hf_95 (nI k) h = some H ∧ hs_fr cwK2 h H ∧ stZ H ∧ wyV N J re st W z t n g k H ∧ st_all caV chV wyV b H := by
  obtain ⟨⟨okN, okF, okS⟩, ⟨cN, cF, cS⟩, mJ, mF, mS⟩ := id co
  obtain ⟨⟨hN1, hN2⟩, hre, hst, ⟨hW, hHo⟩, hJ, hJ0, hJs, hJa⟩ := id okN
  obtain ⟨cN1, cN2, cN3, cN4, cN5, cJ⟩ := id cN
  obtain ⟨⟨ca1, ca2⟩, ca3, ca4, ca5⟩ := id ca
  have new : ∃ H, hb_95_36 (nI k) h = some H ∧ hs_fr cwK2 h H ∧ stZ H ∧ wyV N J re st W z t n g k H ∧ st_all caV chV wyV b H := by
    obtain ⟨H, e1, f, e3, e4, ⟨v, v1, -, v2, -⟩, e5⟩ := sp_97 (one := false) (n := k) (m := z) hN2 hJ hre hst hW okS.1 (Nat.le_refl _) okS.2 hk ⟨cN1, cN2, cJ⟩ ⟨cN3, cN4⟩ cS hZ
    have e1' : hf_97 (nI k) (nI z) (nI 0) h = some H := e1
    have f4 : H.1 4 0 = h.1 4 0 := (f 4 0 (by unfold cwK2; intro q hq; revert q; simp)).1
    have f5 : H.1 5 0 = h.1 5 0 := (f 5 0 (by unfold cwK2; intro q hq; revert q; simp)).1
    have i6 : H.1 4 0 6 = nI c := by rw [f4]; exact ca1
    have i4 : H.1 5 0 4 = nI d := by rw [f5]; exact ca2
    have F : hs_fr cwK2 h (hs_put (hs_put (hs_put H 10 0 14 (nI k)) 10 0 15 (nI c)) 10 0 16 (nI d)) := ((f.put (.inl (.head _))).put (.inl (.head _))).put (.inl (.head _))
    have v10 : ∀ x, x ≠ 14 → x ≠ 15 → x ≠ 16 → (hs_put (hs_put (hs_put H 10 0 14 (nI k)) 10 0 15 (nI c)) 10 0 16 (nI d)).1 10 0 x = H.1 10 0 x := fun x h1 h2 h3 => by
      rw [nx_get, if_neg (fun q => h3 q.2.2), nx_get, if_neg (fun q => h2 q.2.2), nx_get, if_neg (fun q => h1 q.2.2)]
    have v14 : (hs_put (hs_put (hs_put H 10 0 14 (nI k)) 10 0 15 (nI c)) 10 0 16 (nI d)).1 10 0 14 = nI k := by rw [nx_get, if_neg (by omega), nx_get, if_neg (by omega), nx_get, if_pos ⟨rfl, rfl, rfl⟩]
    have v15 : (hs_put (hs_put (hs_put H 10 0 14 (nI k)) 10 0 15 (nI c)) 10 0 16 (nI d)).1 10 0 15 = nI c := by rw [nx_get, if_neg (by omega), nx_get, if_pos ⟨rfl, rfl, rfl⟩]
    have v16 : (hs_put (hs_put (hs_put H 10 0 14 (nI k)) 10 0 15 (nI c)) 10 0 16 (nI d)).1 10 0 16 = nI d := by rw [nx_get, if_pos ⟨rfl, rfl, rfl⟩]
    have vne : ∀ c' i, c' ≠ 10 → (hs_put (hs_put (hs_put H 10 0 14 (nI k)) 10 0 15 (nI c)) 10 0 16 (nI d)).1 c' i = H.1 c' i := fun c' i hc => by
      funext x
      rw [nx_get, if_neg (fun q => hc q.1), nx_get, if_neg (fun q => hc q.1), nx_get, if_neg (fun q => hc q.1)]
    have w : hb_95_36 (nI k) h = some (hs_put (hs_put (hs_put H 10 0 14 (nI k)) 10 0 15 (nI c)) 10 0 16 (nI d)) := by
      have j6 : (hs_put H 10 0 14 (nI k)).1 4 0 6 = nI c := by rw [nx_get, if_neg (by omega)]; exact i6
      have j4 : (hs_put (hs_put H 10 0 14 (nI k)) 10 0 15 (nI c)).1 5 0 4 = nI d := by rw [nx_get, if_neg (by omega), nx_get, if_neg (by omega)]; exact i4
      unfold hb_95_36 hb_95_76
      rw [cS.1, e1', Option.bind_some, j6, j4]
    generalize hs_put (hs_put (hs_put H 10 0 14 (nI k)) 10 0 15 (nI c)) 10 0 16 (nI d) = M at F v10 v14 v15 v16 vne w
    have pV : wyV N J re st W z t n g k M := by
      unfold wyV
      rw [vne 40 0 (by omega), vne 41 0 (by omega), v10 8 (by omega) (by omega) (by omega), v1, v2 rfl]
      exact ⟨rfl, (e5 rfl).1, (e5 rfl).2⟩
    refine ⟨M, w, F, fun q hq => by rw [vne 35 0 (by omega)]; exact e3 q hq, pV, N, re, W, Ho, J, st, pl, mv, s, z, t, n, g, c, d, hcd, st_core_dep.fr F rfl co, st_mN_dep.fr F rfl mN, st_imgs_dep.fr F rfl im, ⟨⟨?_, ?_⟩, (st_cas_dep wy_V).fr F rfl ca3, (st_cha_dep wy_V).fr F rfl ca4, Or.inr ⟨k, hk, v14, c, d, Nat.le_refl _, Nat.le_refl _, v15, v16, fun _ _ => pV⟩⟩, st_rest_dep.fr F rfl rs⟩
    · rw [vne 4 0 (by omega)]; exact i6
    · rw [vne 5 0 (by omega)]; exact i4
  unfold hf_95
  by_cases c1 : h.1 10 0 14 = nI k
  · rw [if_neg (fun w => w c1)]
    rcases ca5 with q | ⟨k', q0, q1, kn, kd, q2, q3, q4, q5, q6⟩
    · rw [q] at c1
      have := nI_inj (by omega) (by omega) c1
      omega
    · rw [q1] at c1
      have ek := nI_inj (by omega) (by omega) c1
      by_cases c2 : kn = c
      · rw [if_neg (fun w => w (by rw [q4, ca1, c2]))]
        by_cases c3 : kd = d
        · rw [if_pos (by rw [q5, ca2, c3])]
          unfold hb_95_76
          exact ⟨h, rfl, hs_fr.rf, hZ, by rw [← ek]; exact q6 c2 c3, N, re, W, Ho, J, st, pl, mv, s, z, t, n, g, c, d, hcd, co, mN, im, ca, rs⟩
        · rw [if_neg (by rw [q5, ca2]; exact fun w => c3 (nI_inj (by omega) (by omega) w))]
          exact new
      · rw [if_pos (by rw [q4, ca1]; exact fun w => c2 (nI_inj (by omega) (by omega) w))]
        exact new
  · rw [if_pos c1]
    exact new
/-- what a call of ways has in hand: the class has searched, then the model -/
theorem wy_both {a : Int32} {b : Nat} {h : hs_H} (hb : b ≤ 1000000) (p : st_all caV chV wyV b h) (hZ : stZ h) (one : Bool) (ha : rg 0 5 a = true) : ∃ N re W J st z tn nn gn n H G, (N ≤ 10 ∧ n ≤ 5 ∧ a = nI n) ∧ (hf_95 a h = some H ∧ wyV N J re st W z tn nn gn n H) ∧ (H.1 44 0 23 = nI z ∧ hf_193 a (nI z) (bI one) H = some G ∧ mwS N re W J st z tn nn gn n z one G) ∧ st_all caV chV wyV (b + 100) G ∧ stZ G := by
  obtain ⟨k, -, hk, rfl⟩ := (rg_of (by omega)).mp ha
  obtain ⟨N, re, W, Ho, J, st, pl, mv, s, z, t, n, g, c, d, ⟨hc, hd⟩, ⟨⟨okN, okF, okS⟩, ⟨cN, cF, cS⟩, mJ, mF, mS⟩, mN, im, ca, rs⟩ := p
  obtain ⟨⟨hN1, hN2⟩, hre, hst, ⟨hW, hHo⟩, hJ, hJ0, hJs, hJa⟩ := id okN
  obtain ⟨cN1, cN2, cN3, cN4, cN5, cJ⟩ := id cN
  obtain ⟨mN1, mN2, mN3, mN4⟩ := id mN
  obtain ⟨mJ1, mJ2⟩ := st_mJ0 mJ
  obtain ⟨mF1, mF2, mF3⟩ := st_mF0 mF
  obtain ⟨mS1, mS2⟩ := st_mS0 mS
  obtain ⟨cF1, cF2, cF3⟩ := id cF
  obtain ⟨cS1, cS2⟩ := id cS
  have hp := p2_lt hN2
  obtain ⟨H, s1, s2, s3, s4, s5⟩ := wy_search hb ⟨hc, hd⟩ ⟨⟨okN, okF, okS⟩, ⟨cN, cF, cS⟩, mJ, mF, mS⟩ mN im ca rs hZ hk
  have e12 : H.1 12 0 = h.1 12 0 := (s2 12 0 (by unfold cwK2; intro q hq; revert q; simp)).1
  have e44 : H.1 44 0 = h.1 44 0 := (s2 44 0 (by unfold cwK2; intro q hq; revert q; simp)).1
  have cm : mwN N re W J st z t n g H := by
    unfold mwN df_n
    rw [e12, e44]
    exact ⟨⟨mN1, mN2, mN3, mJ1⟩, mJ2, mS2⟩
  obtain ⟨G, g1, g3, g4, g5⟩ := wy_m (n := k) (m := z) (one := one) s5 s3 cm hN2 hre hJ hJa hW okS.1 (Nat.le_refl _) okS.2 hk
  exact ⟨N, re, W, J, st, z, t, n, g, k, H, G, ⟨hN2, hk, rfl⟩, ⟨s1, s4⟩, ⟨by rw [e44]; exact mS1, g1, g5⟩, g3.up caV chV wyV (by omega), g4⟩
theorem cl_ways {a : Int32} : st_callZ (hf_120 a) (hf_195 a) := by
  intro b h hb p hZ
  cases ha : rg 0 5 a with
  | true =>
    obtain ⟨N, re, W, J, st, z, tn, nn, gn, n, H, G, ⟨hN, hn, hna⟩, ⟨s1, s2⟩, ⟨g0, g1, g2⟩, g3, g4⟩ := wy_both hb p hZ false ha
    refine ⟨nI (wyZ N re W J st tn nn gn n z).length, H, G, ?_, ?_, g3, g4⟩
    · unfold hf_120
      rw [sp_146r (by omega), ha, Option.bind_some]
      dsimp only
      rw [if_pos (by decide), s1, Option.bind_some, s2.1]
    · unfold hf_195
      rw [sp_194, ha, Option.bind_some]
      dsimp only
      rw [if_pos (by decide), nx_inb (by omega) (by omega), nx_ck, nI_clamp (by omega), g0]
      have g1' : hf_193 a (nI z) (nI 0) H = some G := g1
      rw [g1', Option.bind_some, (g2.1 rfl).1]
  | false =>
    refine ⟨nI 4294967295, h, h, ?_, ?_, p.up caV chV wyV (by omega), hZ⟩
    · unfold hf_120
      rw [sp_146r (by omega), ha, Option.bind_some]
      dsimp only
      rw [if_neg (by decide)]
    · unfold hf_195
      rw [sp_194, ha, Option.bind_some]
      dsimp only
      rw [if_neg (by decide)]
theorem i64_rg {n : Nat} {e : Int32} {h : hs_H} (hn : n ≤ 5) : hf_150 e.toInt64 (lN 0) (nI n).toInt64 h = some (bI (rg 0 n e), h) := sp_150r (by rfl) (nI_64 (by omega))
theorem cl_can {a e : Int32} : st_callZ (hf_121 a e) (hf_196 a e) := by
  intro b h hb p hZ
  by_cases hok : rg 0 5 a = true ∧ ∃ n, n ≤ 5 ∧ a = nI n ∧ rg 0 n e = true
  · obtain ⟨ha, n', hn', hna', he⟩ := hok
    obtain ⟨N, re, W, J, st, z, tn, nn, gn, n, H, G, ⟨hN, hn, hna⟩, ⟨s1, s2⟩, ⟨g0, g1, g2⟩, g3, g4⟩ := wy_both hb p hZ false ha
    have en : n' = n := nI_inj (by omega) (by omega) (hna'.symm.trans hna)
    rw [en] at he
    obtain ⟨u, -, hu, rfl⟩ := (rg_of (by omega)).mp he
    refine ⟨nI (cbL (wyZ N re W J st tn nn gn n z) u), H, G, ?_, ?_, g3, g4⟩
    · unfold hf_121
      rw [sp_146r (by omega), ha, Option.bind_some]
      dsimp only
      rw [if_neg (by decide)]
      rw [hna, sp_146r (by omega), he, Option.bind_some]
      dsimp only
      rw [if_pos (by decide), ← hna, s1, Option.bind_some, nx_inb (by omega) (by omega), nx_ck, nI_clamp (by omega), s2.2.1 u hu]
    · unfold hf_196
      rw [sp_194, ha, Option.bind_some]
      dsimp only
      rw [if_neg (by decide)]
      rw [hna, i64_rg hn, he, Option.bind_some]
      dsimp only
      rw [if_pos (by decide), ← hna, nx_inb (by omega) (by omega), nx_ck, nI_clamp (by omega), g0]
      have g1' : hf_193 a (nI z) (nI 0) H = some G := g1
      rw [g1', Option.bind_some, nx_inb (by omega) (by omega), nx_ck, nI_clamp (by omega), (g2.1 rfl).2.1 u hu]
  · refine ⟨nI 4294967295, h, h, ?_, ?_, p.up caV chV wyV (by omega), hZ⟩
    · unfold hf_121 hb_121_18
      rw [sp_146r (by omega), Option.bind_some]
      dsimp only
      cases ha : rg 0 5 a with
      | false => rw [if_pos (by decide)]
      | true =>
        obtain ⟨n, -, hn, rfl⟩ := (rg_of (by omega)).mp ha
        rw [if_neg (by decide), sp_146r (by omega), eq_false_of_ne_true (fun q => hok ⟨ha, n, hn, rfl, q⟩), Option.bind_some]
        dsimp only
        rw [if_neg (by decide)]
    · unfold hf_196 hb_196_18
      rw [sp_194, Option.bind_some]
      dsimp only
      cases ha : rg 0 5 a with
      | false => rw [if_pos (by decide)]
      | true =>
        obtain ⟨n, -, hn, rfl⟩ := (rg_of (by omega)).mp ha
        rw [if_neg (by decide), i64_rg hn, eq_false_of_ne_true (fun q => hok ⟨ha, n, hn, rfl, q⟩), Option.bind_some]
        dsimp only
        rw [if_neg (by decide)]
theorem pcn_p2 : ∀ i, i < 10 → pcn 10 (2 ^ i) = 1 := by decide +kernel
theorem pcn_1 : ∀ a, a < 1024 → pcn 10 a = 1 → ∃ i, i < 10 ∧ a = 2 ^ i := by decide +kernel
theorem cl_sure {a e : Int32} : st_callZ (hf_122 a e) (hf_197 a e) := by
  intro b h hb p hZ
  by_cases hok : rg 0 5 a = true ∧ ∃ n, n ≤ 5 ∧ a = nI n ∧ rg 0 n e = true
  · obtain ⟨ha, n', hn', hna', he⟩ := hok
    obtain ⟨N, re, W, J, st, z, tn, nn, gn, n, H, G, ⟨hN, hn, hna⟩, ⟨s1, s2⟩, ⟨g0, g1, g2⟩, g3, g4⟩ := wy_both hb p hZ false ha
    have en : n' = n := nI_inj (by omega) (by omega) (hna'.symm.trans hna)
    rw [en] at he
    obtain ⟨u, -, hu, rfl⟩ := (rg_of (by omega)).mp he
    have hlt : ∀ i, (cbL (wyZ N re W J st tn nn gn n z) u).testBit i = true → i < N := fun i hi => by
      obtain ⟨l, h1, h2⟩ := (tb_cbL _).mp hi
      have := (isG_at (J := J) (re := re) hN u (n + 1) 0 _ _ l (by omega) ((mem_wyG _ _ _ _ l).mp h1)).1
      omega
    have hX : cbL (wyZ N re W J st tn nn gn n z) u < 1024 := by
      have : cbL (wyZ N re W J st tn nn gn n z) u < 2 ^ 10 := Nat.lt_pow_two_of_testBit _ (fun i hi => eq_false_of_ne_true (fun q => by have := hlt i q; omega))
      exact this
    have cl : ∀ r, (pcn 10 (cbL (wyZ N re W J st tn nn gn n z) u) ≠ 1 → r = nI 4294967292) → (∀ j, j < 10 → cbL (wyZ N re W J st tn nn gn n z) u = 2 ^ j → r = nI j) → hf_122 a (nI u) h = some (r, H) := fun r h1 h2 => by
      unfold hf_122 hb_122_55
      rw [sp_146r (by omega), ha, Option.bind_some]
      dsimp only
      rw [if_neg (by decide)]
      rw [hna, sp_146r (by omega), he, Option.bind_some]
      dsimp only
      rw [if_pos (by decide), ← hna, s1, Option.bind_some, nx_inb (by omega) (by omega), nx_ck, nI_clamp (by omega), s2.2.1 u hu, sp_240 hX, Option.bind_some]
      by_cases c : pcn 10 (cbL (wyZ N re W J st tn nn gn n z) u) = 1
      · obtain ⟨j, q1, q2⟩ := pcn_1 _ hX c
        rw [if_neg (fun q => q (by rw [c])), q2, sp_148 (j := j) (by rw [← q2]; omega) q1 (by rw [tb_pow]; exact decide_eq_true rfl) (fun i hi => by rw [tb_pow]; exact decide_eq_false (by omega)), Option.bind_some, h2 j q1 q2]
      · rw [if_pos (fun q => c (nI_inj (by have := pcn_le (cbL (wyZ N re W J st tn nn gn n z) u) 10; omega) (by omega) q)), h1 c]
    have md : ∀ r, (wyZ N re W J st tn nn gn n z = [] → r = nI 4294967292) → (∀ x X, wyZ N re W J st tn nn gn n z = x :: X → r = if cbL (wyZ N re W J st tn nn gn n z) u = 2 ^ nz x u then nI (nz x u) else nI 4294967292) → hf_197 a (nI u) H = some (r, G) := fun r h1 h2 => by
      unfold hf_197 hb_197_66 hb_197_68
      rw [sp_194, ha, Option.bind_some]
      dsimp only
      rw [if_neg (by decide)]
      rw [hna, i64_rg hn, he, Option.bind_some]
      dsimp only
      rw [if_pos (by decide), ← hna, nx_inb (by omega) (by omega), nx_ck, nI_clamp (by omega), g0]
      have g1' : hf_193 a (nI z) (nI 0) H = some G := g1
      rw [g1', Option.bind_some]
      cases hx : wyZ N re W J st tn nn gn n z with
      | nil => rw [g2.2.1 hx, if_pos (by decide), h1 hx]
      | cons x X =>
        obtain ⟨⟨v, v1, v2, v3⟩, v4⟩ := g2.2.2 x X hx
        have hxu : nz x u < 10 := by
          have := hlt (nz x u) ((tb_cbL _).mpr ⟨x, by rw [hx]; exact List.mem_cons_self, rfl⟩)
          omega
        have h2p : 2 ^ nz x u < 1024 := Nat.pow_lt_pow_right (show 1 < 2 by omega) hxu
        rw [v3, if_neg (nI_nle v1 (by omega)), nx_inb (show u < 6 by omega) (by omega), nx_ck, nx_ck, nI_clamp (show u < 2147483648 by omega), v4 u hu, (g2.1 rfl).2.1 u hu, nx_shl1 (by omega), h2 x X hx]
        by_cases c : cbL (wyZ N re W J st tn nn gn n z) u = 2 ^ nz x u
        · rw [if_neg (fun q => q (by rw [c])), if_pos c, nx_ck]
        · rw [if_pos (fun q => c (nI_inj (by omega) (by omega) q)), if_neg c]
    cases hx : wyZ N re W J st tn nn gn n z with
    | nil =>
      refine ⟨nI 4294967292, H, G, cl _ (fun _ => rfl) (fun j _ q => ?_), md _ (fun _ => rfl) (fun x X q => (by rw [hx] at q; cases q)), g3, g4⟩
      rw [hx] at q
      have : 0 < 2 ^ j := Nat.two_pow_pos j
      have q0 : (0 : Nat) = 2 ^ j := q
      omega
    | cons x X =>
      have hmem : (cbL (wyZ N re W J st tn nn gn n z) u).testBit (nz x u) = true := (tb_cbL _).mpr ⟨x, by rw [hx]; exact List.mem_cons_self, rfl⟩
      have hxu := hlt _ hmem
      refine ⟨if cbL (wyZ N re W J st tn nn gn n z) u = 2 ^ nz x u then nI (nz x u) else nI 4294967292, H, G, cl _ (fun q => ?_) (fun j q1 q2 => ?_), md _ (fun q => (by rw [hx] at q; cases q)) (fun x' X' q => ?_), g3, g4⟩
      · rw [if_neg (fun w => q (by rw [w]; exact pcn_p2 _ (by omega)))]
      · rw [q2, tb_pow, decide_eq_true_eq] at hmem
        rw [q2, hmem, if_pos rfl]
      · rw [hx] at q
        injection q with q1 q2
        rw [q1]
  · refine ⟨nI 4294967295, h, h, ?_, ?_, p.up caV chV wyV (by omega), hZ⟩
    · unfold hf_122 hb_122_18
      rw [sp_146r (by omega), Option.bind_some]
      dsimp only
      cases ha : rg 0 5 a with
      | false => rw [if_pos (by decide)]
      | true =>
        obtain ⟨n, -, hn, rfl⟩ := (rg_of (by omega)).mp ha
        rw [if_neg (by decide), sp_146r (by omega), eq_false_of_ne_true (fun q => hok ⟨ha, n, hn, rfl, q⟩), Option.bind_some]
        dsimp only
        rw [if_neg (by decide)]
    · unfold hf_197 hb_197_18
      rw [sp_194, Option.bind_some]
      dsimp only
      cases ha : rg 0 5 a with
      | false => rw [if_pos (by decide)]
      | true =>
        obtain ⟨n, -, hn, rfl⟩ := (rg_of (by omega)).mp ha
        rw [if_neg (by decide), i64_rg hn, eq_false_of_ne_true (fun q => hok ⟨ha, n, hn, rfl, q⟩), Option.bind_some]
        dsimp only
        rw [if_neg (by decide)]
theorem cl_way {a e : Int32} : st_callZ (hf_123 a e) (hf_198 a e) := by
  intro b h hb p hZ
  by_cases hok : rg 0 5 a = true ∧ ∃ n, n ≤ 5 ∧ a = nI n ∧ rg 0 n e = true
  · obtain ⟨ha, n', hn', hna', he⟩ := hok
    obtain ⟨N, re, W, J, st, z, tn, nn, gn, n, H, G, ⟨hN, hn, hna⟩, ⟨s1, s2⟩, ⟨g0, g1, g2⟩, g3, g4⟩ := wy_both hb p hZ true ha
    have en : n' = n := nI_inj (by omega) (by omega) (hna'.symm.trans hna)
    rw [en] at he
    obtain ⟨u, -, hu, rfl⟩ := (rg_of (by omega)).mp he
    have hvb := wyX_b (re := re) (W := W) (J := J) (st := st) (tn := tn) (nn := nn) (gn := gn) (m := z) (pre := []) hN hn
    rw [wyX_nil] at hvb
    have g1' : hf_193 a (nI z) (nI 1) H = some G := g1
    refine ⟨match wyZ N re W J st tn nn gn n z with | [] => nI 4294967292 | x :: _ => nI (nz x u), H, G, ?_, ?_, g3, g4⟩
    · unfold hf_123 hb_123_52
      rw [sp_146r (by omega), ha, Option.bind_some]
      dsimp only
      rw [if_neg (by decide)]
      rw [hna, sp_146r (by omega), he, Option.bind_some]
      dsimp only
      rw [if_pos (by decide), ← hna, s1, Option.bind_some, s2.1]
      cases hx : wyZ N re W J st tn nn gn n z with
      | nil => rw [if_pos (by decide)]
      | cons x X =>
        rw [hx] at hvb
        rw [if_neg (nI_nle (by rw [List.length_cons]; omega) (by omega)), nx_inb (show u < 6 by omega) (by omega), nx_ck, nI_clamp (show u < 2147483648 by omega), s2.2.2 x X hx u hu]
    · unfold hf_198 hb_198_51
      rw [sp_194, ha, Option.bind_some]
      dsimp only
      rw [if_neg (by decide)]
      rw [hna, i64_rg hn, he, Option.bind_some]
      dsimp only
      rw [if_pos (by decide), ← hna, nx_inb (by omega) (by omega), nx_ck, nI_clamp (by omega), g0, g1', Option.bind_some]
      cases hx : wyZ N re W J st tn nn gn n z with
      | nil => rw [g2.2.1 hx, if_pos (by decide)]
      | cons x X =>
        obtain ⟨⟨v, v1, v2, v3⟩, v4⟩ := g2.2.2 x X hx
        rw [v3, if_neg (nI_nle v1 (by omega)), nx_inb (show u < 6 by omega) (by omega), nx_ck, nI_clamp (show u < 2147483648 by omega), v4 u hu]
  · refine ⟨nI 4294967295, h, h, ?_, ?_, p.up caV chV wyV (by omega), hZ⟩
    · unfold hf_123 hb_123_18
      rw [sp_146r (by omega), Option.bind_some]
      dsimp only
      cases ha : rg 0 5 a with
      | false => rw [if_pos (by decide)]
      | true =>
        obtain ⟨n, -, hn, rfl⟩ := (rg_of (by omega)).mp ha
        rw [if_neg (by decide), sp_146r (by omega), eq_false_of_ne_true (fun q => hok ⟨ha, n, hn, rfl, q⟩), Option.bind_some]
        dsimp only
        rw [if_neg (by decide)]
    · unfold hf_198 hb_198_18
      rw [sp_194, Option.bind_some]
      dsimp only
      cases ha : rg 0 5 a with
      | false => rw [if_pos (by decide)]
      | true =>
        obtain ⟨n, -, hn, rfl⟩ := (rg_of (by omega)).mp ha
        rw [if_neg (by decide), i64_rg hn, eq_false_of_ne_true (fun q => hok ⟨ha, n, hn, rfl, q⟩), Option.bind_some]
        dsimp only
        rw [if_neg (by decide)]
theorem mwF.tr {h0 G H : hs_H} (f : mwF h0 G) (g : mwF G H) : mwF h0 H := ⟨f.1.tr g.1, fun x hx => (g.2 x hx).trans (f.2 x hx)⟩
theorem cl_cannot : st_callZ hf_124 hf_199 := by
  intro b h hb p hZ
  have p0 := p
  obtain ⟨N, re, W, Ho, J, st, pl, mv, s, z, t, n, g, c, d, ⟨hc, hd⟩, co, mN, im, ca, rs⟩ := p
  obtain ⟨⟨okN, okF, okS⟩, ⟨cN, cF, cS⟩, mJ, mF, mS⟩ := id co
  obtain ⟨⟨hN1, hN2⟩, hre, hst, ⟨hW, hHo⟩, hJ, hJ0, hJs, hJa⟩ := id okN
  obtain ⟨cN1, cN2, cN3, cN4, cN5, cJ⟩ := id cN
  obtain ⟨mN1, mN2, mN3, mN4⟩ := id mN
  obtain ⟨mJ1, mJ2⟩ := st_mJ0 mJ
  obtain ⟨mS1, mS2⟩ := st_mS0 mS
  obtain ⟨⟨ca1, ca2⟩, ca3, ca4, ca5⟩ := id ca
  have hz := okS.1
  -- the class
  have cls : ∃ r H, hf_96 h = some (r, H) ∧ hs_fr cwK2 h H ∧ stZ H ∧ H.1 10 0 14 = nI 4294967292 ∧ ((r = nI 4294967292 ∧ ∀ j, 1 ≤ j → j ≤ z → wyZ N re W J st t n g 5 j ≠ []) ∨ ∃ i, i < z ∧ r = nI i ∧ wyZ N re W J st t n g 5 (i + 1) = [] ∧ ∀ j, 1 ≤ j → j ≤ i → wyZ N re W J st t n g 5 j ≠ []) := by
    unfold hf_96
    refine lp_q2 (f := fun k s => hb_96_8 k s.1 s.2) (I := fun d q => ∃ i H, i ≤ z ∧ d = z - i ∧ hs_fr cwK2 h H ∧ stZ H ∧ H.1 10 0 14 = nI 4294967292 ∧ (∀ j, 1 ≤ j → j ≤ i → wyZ N re W J st t n g 5 j ≠ []) ∧ q = (nI (i + 1), H)) (Q := fun o => ∃ r H, o = some (r, H) ∧ hs_fr cwK2 h H ∧ stZ H ∧ H.1 10 0 14 = nI 4294967292 ∧ ((r = nI 4294967292 ∧ ∀ j, 1 ≤ j → j ≤ z → wyZ N re W J st t n g 5 j ≠ []) ∨ ∃ i, i < z ∧ r = nI i ∧ wyZ N re W J st t n g 5 (i + 1) = [] ∧ ∀ j, 1 ≤ j → j ≤ i → wyZ N re W J st t n g 5 j ≠ [])) (fun d q hI k => ?_) z _ hs_big ⟨0, hs_put h 10 0 14 (nI 4294967292), Nat.zero_le _, rfl, hs_fr.rf.put (.inl (.head _)), fun q hq => by rw [nx_get, if_neg (by omega)]; exact hZ q hq, by rw [nx_get, if_pos ⟨rfl, rfl, rfl⟩], fun j h1 h2 => by omega, rfl⟩ (lp_big (by omega))
    obtain ⟨i, H, hi, rfl, fr, hZ', h14, hlow, rfl⟩ := hI
    have co' := st_core_dep.fr fr rfl co
    have e5 : H.1 5 0 3 = nI z := co'.2.1.2.2.1
    by_cases hiz : i = z
    · refine Or.inl ⟨nI 4294967292, H, ?_, fr, hZ', h14, Or.inl ⟨rfl, fun j h1 h2 => hlow j h1 (by omega)⟩⟩
      show hb_96_8 k (nI (i + 1)) H = _
      unfold hb_96_8
      rw [e5, if_pos (nI_lt (by omega) (by omega))]
    · obtain ⟨H', s1, s2, s3, s4, ⟨v, v1, v2, -, v3⟩, -⟩ := sp_97 (one := true) (n := 5) (m := i + 1) hN2 hJ hre hst hW okS.1 (by omega) okS.2 (Nat.le_refl _) ⟨co'.2.1.1.1, co'.2.1.1.2.1, co'.2.1.1.2.2.2.2.2⟩ ⟨co'.2.1.1.2.2.1, co'.2.1.1.2.2.2.1⟩ co'.2.1.2.2 hZ'
      have s1' : hf_97 (nI 5) (nI (i + 1)) (nI 1) H = some H' := s1
      have fr' := fr.tr s2
      have h14' : H'.1 10 0 14 = nI 4294967292 := by rw [s4 14 (Or.inl rfl)]; exact h14
      by_cases hx : wyZ N re W J st t n g 5 (i + 1) = []
      · have hv : v = 0 := Nat.eq_zero_of_not_pos (fun q => v3.mp q hx)
        refine Or.inl ⟨nI i, H', ?_, fr', s3, h14', Or.inr ⟨i, by omega, rfl, hx, hlow⟩⟩
        show hb_96_8 k (nI (i + 1)) H = _
        unfold hb_96_8
        rw [e5, if_neg (nI_nlt (by omega) (by omega)), s1', Option.bind_some, v1, hv, if_neg (by decide), pk_sub (by omega), Nat.add_sub_cancel]
      · have hv := v3.mpr hx
        refine Or.inr ⟨z - (i + 1), (nI (i + 1 + 1), H'), by omega, ⟨i + 1, H', by omega, rfl, fr', s3, h14', fun j h1 h2 => ?_, rfl⟩, ?_⟩
        · by_cases e : j = i + 1
          · rw [e]; exact hx
          · exact hlow j h1 (by omega)
        · show hb_96_8 k (nI (i + 1)) H = _
          unfold hb_96_8
          rw [e5, if_neg (nI_nlt (by omega) (by omega)), s1', Option.bind_some, v1, if_pos (nI_ne0 (by omega) (by omega)), nI_add]
  obtain ⟨r, H, s1, fr, hZ', h14, hr⟩ := cls
  have f4 : H.1 4 0 = h.1 4 0 := (fr 4 0 (by unfold cwK2; intro q hq; revert q; simp)).1
  have f5 : H.1 5 0 = h.1 5 0 := (fr 5 0 (by unfold cwK2; intro q hq; revert q; simp)).1
  have pH : st_all caV chV wyV b H := ⟨N, re, W, Ho, J, st, pl, mv, s, z, t, n, g, c, d, ⟨hc, hd⟩, st_core_dep.fr fr rfl co, st_mN_dep.fr fr rfl mN, st_imgs_dep.fr fr rfl im, ⟨⟨by rw [f4]; exact ca1, by rw [f5]; exact ca2⟩, (st_cas_dep wy_V).fr fr rfl ca3, (st_cha_dep wy_V).fr fr rfl ca4, Or.inl h14⟩, st_rest_dep.fr fr rfl rs⟩
  have e12 : H.1 12 0 = h.1 12 0 := (fr 12 0 (by unfold cwK2; intro q hq; revert q; simp)).1
  have e44 : H.1 44 0 = h.1 44 0 := (fr 44 0 (by unfold cwK2; intro q hq; revert q; simp)).1
  have cm : mwN N re W J st z t n g H := by
    unfold mwN df_n
    rw [e12, e44]
    exact ⟨⟨mN1, mN2, mN3, mJ1⟩, mJ2, mS2⟩
  -- the model
  have mdl : ∃ G, hf_199 H = some (r, G) ∧ (G = H ∨ mwF H G) := by
    unfold hf_199
    refine lp_q2 (f := fun k s => hb_199_2 k s.1 s.2) (I := fun d q => ∃ i G, i ≤ z ∧ d = z - i ∧ (G = H ∨ mwF H G) ∧ (∀ j, 1 ≤ j → j ≤ i → wyZ N re W J st t n g 5 j ≠ []) ∧ q = (nI i, G)) (Q := fun o => ∃ G, o = some (r, G) ∧ (G = H ∨ mwF H G)) (fun d q hI k => ?_) z _ hs_big ⟨0, H, Nat.zero_le _, rfl, Or.inl rfl, fun j h1 h2 => by omega, rfl⟩ (lp_big (by omega))
    obtain ⟨i, G, hi, rfl, fG, hlow, rfl⟩ := hI
    have cG : mwN N re W J st z t n g G := by
      rcases fG with q | q
      · rw [q]; exact cm
      · exact mwN_fr cm q
    have g23 : G.1 44 0 23 = nI z := by
      have : G.1 44 0 = H.1 44 0 := by
        rcases fG with q | q
        · rw [q]
        · exact (q.1 44 0 (by intro q hq; revert q; simp)).1
      rw [this, e44]
      exact mS1
    by_cases hiz : i = z
    · refine Or.inl ⟨G, ?_, fG⟩
      show hb_199_2 k (nI i) G = _
      unfold hb_199_2
      rw [nx_inb (by omega) (by omega), nx_ck, nI_clamp (by omega), g23, if_pos (nI_le (by omega) (by omega))]
      rcases hr with ⟨r1, -⟩ | ⟨i2, q1, -, q3, -⟩
      · rw [r1]
      · exact absurd q3 (hlow (i2 + 1) (by omega) (by omega))
    · obtain ⟨G', t1, t2, t3⟩ := sp_193S (one := true) (n := 5) (m := i + 1) cG hN2 hre hJ hJa hW okS.1 (by omega) okS.2 (Nat.le_refl _)
      have t1' : hf_193 (nI 5) (nI (i + 1)) (nI 1) G = some G' := t1
      have fG' : mwF H G' := by
        rcases fG with q | q
        · rw [← q]; exact t2
        · exact q.tr t2
      have step : hb_199_2 k (nI i) G = if ¬ G'.1 12 0 24 = 0 then k (nI (i + 1), G') else some (nI i, G') := by
        unfold hb_199_2
        rw [nx_inb (by omega) (by omega), nx_ck, nI_clamp (by omega), g23, if_neg (nI_ge (by omega) (by omega)), nI_add, t1', Option.bind_some]
      cases hx : wyZ N re W J st t n g 5 (i + 1) with
      | nil =>
        refine Or.inl ⟨G', ?_, Or.inr fG'⟩
        show hb_199_2 k (nI i) G = _
        rw [step, t3.2.1 hx, if_neg (by decide)]
        rcases hr with ⟨-, r2⟩ | ⟨i2, q1, q2, q3, q4⟩
        · exact absurd hx (r2 (i + 1) (by omega) (by omega))
        · have : i2 = i := by
            by_cases w : i2 < i
            · exact absurd q3 (hlow (i2 + 1) (by omega) (by omega))
            · by_cases w2 : i < i2
              · exact absurd hx (q4 (i + 1) (by omega) (by omega))
              · omega
          rw [q2, this]
      | cons x X =>
        obtain ⟨⟨v, v1, v2, v3⟩, -⟩ := t3.2.2 x X hx
        refine Or.inr ⟨z - (i + 1), (nI (i + 1), G'), by omega, ⟨i + 1, G', by omega, rfl, Or.inr fG', fun j h1 h2 => ?_, rfl⟩, ?_⟩
        · by_cases e : j = i + 1
          · rw [e, hx]; exact fun q => by cases q
          · exact hlow j h1 (by omega)
        · show hb_199_2 k (nI i) G = _
          rw [step, v3, if_pos (nI_ne0 (by omega) (by omega))]
  obtain ⟨G, g1, g2⟩ := mdl
  refine ⟨r, H, G, ?_, g1, ?_, ?_⟩
  · unfold hf_124
    rw [s1, Option.bind_some]
  · rcases g2 with q | q
    · rw [q]; exact pH.up caV chV wyV (by omega)
    · exact (st_all_fp wy_V q.1 rfl (fun p hp => q.2 p (by omega)) pH).up caV chV wyV (by omega)
  · rcases g2 with q | q
    · rw [q]; exact hZ'
    · exact hZ'.fr q.1 rfl
end CV
