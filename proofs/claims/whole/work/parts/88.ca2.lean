/-! Casts: the model. -/
theorem pcn_z {n : Nat} : pcn n 0 = 0 := pcn_0 n
section CM
variable {J : Nat → Nat} {N re k : Nat}
theorem fw_ok {n S : Nat} (hn : n ≤ 2000) : fw J N re k n S ≤ 99999 := by
  rcases fw_L (J := J) (N := N) (re := re) (k := k) n S with q | q
  · omega
  · omega
theorem sp_209 {S t : Nat} {T : Nat → Nat} {h : hs_H} (hN : N ≤ 10) (hJ : ∀ k, J k < 2 ^ N) (hre : re = 0 ∨ re = 1) (hS : S < 2 ^ N) (hk1 : 1 ≤ k) (hk : k ≤ 10) (ht : t < 99999) (h57 : ∀ m, m < 2 ^ N → h.1 57 0 m = nI (nxs J N re m)) (h58 : ∀ m, m < 2 ^ N → h.1 58 0 m = nI (T m)) (hT : ∀ m, T m ≤ 99999) : ∃ b, hf_209 (nI S) (nI k) (nI t) h = some (bI b, h) ∧ (b = true ↔ ∃ c, wi c S ∧ pcn 10 c = k ∧ T (nxs J N re (dif S c)) = t) := by
  have hp := p2_lt hN
  unfold hf_209
  refine lp_q2 (I := fun d q => ∃ m b, wi m S ∧ d = m + 1 ∧ (b = true → ∃ c, wi c S ∧ pcn 10 c = k ∧ T (nxs J N re (dif S c)) = t) ∧ (b = false → ∀ c, wi c S → m < c → ¬ (pcn 10 c = k ∧ T (nxs J N re (dif S c)) = t)) ∧ q = (nI S, nI k, nI t, bI b, nI m, h)) (Q := fun o => ∃ b, o = some (bI b, h) ∧ (b = true ↔ ∃ c, wi c S ∧ pcn 10 c = k ∧ T (nxs J N re (dif S c)) = t)) (fun d q hI k6 => ?_) (S + 1) _ hs_big ⟨S, false, fun _ q => q, rfl, fun q => absurd q (by decide), fun _ c hc w => absurd (wi_le hc) (by omega), rfl⟩ (lp_big (by omega))
  obtain ⟨m, b, hm, rfl, hb1, hb2, rfl⟩ := hI
  have hmS := wi_le hm
  by_cases h0 : m = 0
  · subst h0
    refine Or.inl ⟨b, ?_, hb1, fun ⟨c, q1, q2, q3⟩ => ?_⟩
    · show hb_209_6 k6 (nI S) (nI k) (nI t) (bI b) (nI 0) h = _
      unfold hb_209_6 hb_209_63
      rw [if_pos (by decide), bI_01, nx_ck]
    · cases hb : b with
      | true => rfl
      | false =>
        have hc0 : 0 < c := Nat.pos_of_ne_zero (fun w => by rw [w, pcn_z] at q2; omega)
        exact absurd ⟨q2, q3⟩ (hb2 hb c q1 hc0)
  · cases hb : b with
    | true =>
      refine Or.inl ⟨true, ?_, fun _ => hb1 hb, fun _ => rfl⟩
      show hb_209_6 k6 (nI S) (nI k) (nI t) (bI true) (nI m) h = _
      unfold hb_209_6 hb_209_63
      rw [if_neg (nI_nle (by omega) (by omega)), if_pos (by decide), bI_01, nx_ck]
    | false =>
      have hand : (m - 1) &&& S ≤ m - 1 := Nat.and_le_left
      have hdl := dif_le S m
      have hnl := nxs_lt hJ hre (dif S m)
      have low : ¬ (pcn 10 m = k ∧ T (nxs J N re (dif S m)) = t) → ∀ c, wi c S → (m - 1) &&& S < c → ¬ (pcn 10 c = k ∧ T (nxs J N re (dif S c)) = t) := by
        intro hno c hc hlt
        by_cases e1 : m < c
        · exact hb2 hb c hc e1
        · by_cases e2 : c = m
          · rw [e2]; exact hno
          · have := sub_next 10 S m c (by omega) hm hc (by omega)
            omega
      refine Or.inr ⟨((m - 1) &&& S) + 1, (nI S, nI k, nI t, bI (decide (pcn 10 m = k ∧ T (nxs J N re (dif S m)) = t)), nI ((m - 1) &&& S), h), by omega, ⟨(m - 1) &&& S, _, fun i q => by rw [Nat.testBit_and, Bool.and_eq_true] at q; exact q.2, rfl, fun q => ⟨m, hm, of_decide_eq_true q⟩, fun q => low (of_decide_eq_false q), rfl⟩, ?_⟩
      show hb_209_6 k6 (nI S) (nI k) (nI t) (bI false) (nI m) h = _
      unfold hb_209_6 hb_209_49 hb_209_50
      have hpl := pcn_le m 10
      rw [if_neg (nI_nle (by omega) (by omega)), if_neg (by decide), sp_152 (by omega), Option.bind_some]
      dsimp only
      rw [pk_sub (by omega), nx_and, nx_dif]
      by_cases c1 : pcn 10 m = k
      · rw [if_neg (fun q => q (by rw [c1])), nx_inb (by omega) (by omega), nx_ck, nI_clamp (by omega), h57 _ (by omega), nx_inb (by omega) (by omega), nx_ck, nI_clamp (by omega), h58 _ hnl]
        have hTb := hT (nxs J N re (dif S m))
        by_cases c2 : T (nxs J N re (dif S m)) = t
        · rw [if_neg (fun q => q (by rw [c2])), decide_eq_true ⟨c1, c2⟩]
          rfl
        · rw [if_pos (fun q => c2 (nI_inj (by omega) (by omega) q)), decide_eq_false (fun q => c2 q.2)]
          rfl
      · rw [if_pos (fun q => c1 (nI_inj (by omega) (by omega) q)), decide_eq_false (fun q => c1 q.1)]
        rfl
/-- the first table -/
theorem fw_1 {S : Nat} (hN : N ≤ 10) (hJ : ∀ k, J k < 2 ^ N) (hre : re = 0 ∨ re = 1) (hk : k ≤ N) (hS : S < 2 ^ N) : fw J N re k 1 S = if S = 0 then 0 else if pcn 10 S ≤ k then 1 else 99999 := by
  have h1 := fwe_1 (J := J) hN hJ hre hk hS
  have h0 := fwe_0 (J := J) (N := N) (re := re) (k := k) (S := S)
  have hb := fw_L (J := J) (N := N) (re := re) (k := k) 1 S
  by_cases e : fw J N re k 1 S = 99999
  · have hw : ¬ win J N re k 1 S = true := fun q => (fw_in (by omega)).mp q e
    have h2 : ¬ fwe J N re k S ≤ 1 := fun q => hw ((fwe_le (by omega)).mpr q)
    rw [e, if_neg (fun q => by have := h0.mpr q; omega), if_neg (fun q => h2 (h1.mpr q))]
  · have e2 := fwe_of e (by omega)
    have hb2 := hb.resolve_left e
    by_cases c : S = 0
    · rw [if_pos c, ← e2]; exact h0.mpr c
    · have c2 : fwe J N re k S ≠ 0 := fun q => c (h0.mp q)
      rw [if_neg c, if_pos (h1.mp (by omega)), ← e2]
      omega
theorem chw_fw {r : Nat} (hr : r < 1999) : chw J N re k r ↔ ∃ S, S < 2 ^ N ∧ fw J N re k (r + 1) S ≠ fw J N re k r S := by
  constructor
  · rintro ⟨S, hS, hne⟩
    refine ⟨S, hS, fun q => hne ?_⟩
    apply Bool.eq_iff_iff.mpr
    rw [fw_in (by omega), fw_in (by omega), q]
  · rintro ⟨S, hS, hne⟩
    refine ⟨S, hS, fun q => hne ?_⟩
    show (if fw J N re k r S = 99999 ∧ win J N re k (r + 1) S = true then r + 1 else fw J N re k r S) = _
    rw [if_neg (fun w => ?_)]
    rw [q] at w
    exact (fw_in (by omega)).mp w.2 w.1
theorem chw_0 (hN : N ≤ 10) (hN1 : 2 ≤ N) (hJ : ∀ k, J k < 2 ^ N) (hre : re = 0 ∨ re = 1) (hk1 : 1 ≤ k) (hk : k ≤ N) : chw J N re k 0 := by
  have h2 : 1 < 2 ^ N := Nat.one_lt_two_pow (by omega)
  refine ⟨1, h2, fun q => ?_⟩
  have h3 : win J N re k 1 1 = true := (fwe_le (by omega)).mpr ((fwe_1 hN hJ hre hk h2).mpr (by
    have : pcn 10 1 = 1 := by decide
    omega))
  have h4 : win J N re k (0 + 1) 1 = true := h3
  rw [q] at h4
  exact absurd (of_decide_eq_true h4) (by decide)
/-- a round of the model, as far as set i -/
theorem sp_208r {r : Nat} {h : hs_H} (k72 : Int32 × Int32 × Int32 × hs_H → Option hs_H) (hN : N ≤ 10) (hN1 : h.1 12 0 2 = nI N) (hJ : ∀ k, J k < 2 ^ N) (hre : re = 0 ∨ re = 1) (hk1 : 1 ≤ k) (hk : k ≤ N) (hr1 : 1 ≤ r) (hr : r < 1999) (h57 : ∀ m, m < 2 ^ N → h.1 57 0 m = nI (nxs J N re m)) (h58 : ∀ m, m < 2 ^ N → h.1 58 0 m = nI (fw J N re k r m)) : ∃ b H, hs_fr [(58, some 0)] h H ∧ (∀ m, m < 2 ^ N → H.1 58 0 m = nI (fw J N re k (r + 1) m)) ∧ (b = true ↔ chw J N re k r) ∧ hs_lp (fun k s => hb_208_81 k72 k s.1 s.2.1 s.2.2.1 s.2.2.2.1 s.2.2.2.2) hs_big (nI k, nI 0, nI (r + 1), nI 1, h) = k72 (nI k, bI b, nI (r + 2), H) := by
  have hp := p2_lt hN
  have h2 : 1 ≤ 2 ^ N := Nat.one_le_two_pow
  have z0 : fw J N re k (r + 1) 0 = fw J N re k r 0 := fw_keep (n := r) (S := 0) ((fw_in (by omega)).mp (win_mono' (n := 0) (decide_eq_true rfl) (by omega))) 1
  refine lp_q2 (I := fun d q => ∃ i b H, 1 ≤ i ∧ i ≤ 2 ^ N ∧ d = 2 ^ N - i ∧ (hs_fr [(58, some 0)] h H ∧ (∀ m, m < 2 ^ N → H.1 58 0 m = nI (if m < i then fw J N re k (r + 1) m else fw J N re k r m)) ∧ (b = true ↔ ∃ S, S < i ∧ fw J N re k (r + 1) S ≠ fw J N re k r S)) ∧ q = (nI k, bI b, nI (r + 1), nI i, H)) (Q := fun o => ∃ b H, hs_fr [(58, some 0)] h H ∧ (∀ m, m < 2 ^ N → H.1 58 0 m = nI (fw J N re k (r + 1) m)) ∧ (b = true ↔ chw J N re k r) ∧ o = k72 (nI k, bI b, nI (r + 2), H)) (fun d q hI k81 => ?_) (2 ^ N - 1) _ hs_big ⟨1, false, h, by omega, h2, rfl, ⟨hs_fr.rf, fun m hm => ?_, ?_⟩, rfl⟩ (lp_big (by omega))
  · obtain ⟨i, b, H, hi1, hi, rfl, ⟨fr, hv, hb⟩, rfl⟩ := hI
    have e12 : H.1 12 0 = h.1 12 0 := (fr 12 0 (by intro q hq; revert q; simp)).1
    have e57 : H.1 57 0 = h.1 57 0 := (fr 57 0 (by intro q hq; revert q; simp)).1
    by_cases hin : i = 2 ^ N
    · subst hin
      refine Or.inl ⟨b, H, fr, fun m hm => by rw [hv m hm, if_pos hm], by rw [hb, chw_fw hr], ?_⟩
      show hb_208_81 k72 k81 (nI k) (bI b) (nI (r + 1)) (nI (2 ^ N)) H = _
      unfold hb_208_81
      rw [e12, hN1, nx_shl1 (by omega), if_pos (Int32.le_refl _), nI_add]
    · refine Or.inr ?_
      have hT : ∀ m, (if m < i then fw J N re k (r + 1) m else fw J N re k r m) ≤ 99999 := fun m => by
        split
        · exact fw_ok (by omega)
        · exact fw_ok (by omega)
      have hat := hv i (by omega)
      rw [if_neg (Nat.lt_irrefl _)] at hat
      have hTr : ∀ m, (if m < i then fw J N re k (r + 1) m else fw J N re k r m) = r ↔ fw J N re k r m = r := fun m => by
        by_cases c : m < i
        · rw [if_pos c]
          by_cases w : fw J N re k r m = 99999 ∧ win J N re k (r + 1) m = true
          · have e : fw J N re k (r + 1) m = r + 1 := if_pos w
            omega
          · have e : fw J N re k (r + 1) m = fw J N re k r m := if_neg w
            rw [e]
        · rw [if_neg c]
      have next : ∀ b' v, (b' = true ↔ b = true ∨ fw J N re k (r + 1) i ≠ fw J N re k r i) → v = fw J N re k (r + 1) i → hs_fr [(58, some 0)] h (hs_put H 58 0 i (nI v)) ∧ (∀ m, m < 2 ^ N → (hs_put H 58 0 i (nI v)).1 58 0 m = nI (if m < i + 1 then fw J N re k (r + 1) m else fw J N re k r m)) ∧ (b' = true ↔ ∃ S, S < i + 1 ∧ fw J N re k (r + 1) S ≠ fw J N re k r S) := by
        intro b' v hb' hv'
        refine ⟨fr.put (.inl (.head _)), fun m hm => ?_, ?_⟩
        · rw [nx_get]
          by_cases c : m = i
          · rw [if_pos ⟨rfl, rfl, c⟩, if_pos (by omega), hv', c]
          · rw [if_neg (fun q => c q.2.2), hv m hm]
            by_cases c2 : m < i
            · rw [if_pos c2, if_pos (by omega)]
            · rw [if_neg c2, if_neg (by omega)]
        · rw [hb', hb]
          constructor
          · rintro (⟨S, q1, q2⟩ | q)
            · exact ⟨S, by omega, q2⟩
            · exact ⟨i, by omega, q⟩
          · rintro ⟨S, q1, q2⟩
            by_cases c : S = i
            · rw [c] at q2; exact Or.inr q2
            · exact Or.inl ⟨S, by omega, q2⟩
      have same : fw J N re k (r + 1) i = fw J N re k r i → hs_put H 58 0 i (nI (fw J N re k (r + 1) i)) = H := by
        intro w
        refine hs_ext (fun c' i' k' => ?_) rfl
        rw [nx_get]
        by_cases c : c' = 58 ∧ i' = 0 ∧ k' = i
        · rw [if_pos c, c.1, c.2.1, c.2.2, hat, w]
        · rw [if_neg c]
      by_cases c0 : fw J N re k r i = 99999
      · obtain ⟨hit, s1, s2⟩ := sp_209 (S := i) (t := r) (T := fun m => if m < i then fw J N re k (r + 1) m else fw J N re k r m) (h := H) hN hJ hre (by omega) hk1 (by omega) (by omega) (fun m hm => by rw [e57]; exact h57 m hm) hv hT
        have hr2 := fw_round (k := k) hN hJ hre (show i < 2 ^ N by omega) hk hr1 (by omega) c0
        have hit2 : hit = true ↔ fw J N re k (r + 1) i = r + 1 := by
          rw [s2, hr2]
          exact ⟨fun ⟨c, q1, q2, q3⟩ => ⟨c, q1, q2, (hTr _).mp q3⟩, fun ⟨c, q1, q2, q3⟩ => ⟨c, q1, q2, (hTr _).mpr q3⟩⟩
        clear hr2 s2
        refine ⟨2 ^ N - (i + 1), (nI k, bI (b || hit), nI (r + 1), nI (i + 1), hs_put H 58 0 i (nI (fw J N re k (r + 1) i))), by omega, ⟨i + 1, _, _, by omega, by omega, rfl, next (b || hit) _ ?_ rfl, rfl⟩, ?_⟩
        · rw [Bool.or_eq_true, hit2, c0]
          rcases fw_L (J := J) (N := N) (re := re) (k := k) (r + 1) i with q | q
          · rw [q]; constructor
            · rintro (w | w)
              · exact Or.inl w
              · omega
            · rintro (w | w)
              · exact Or.inl w
              · exact absurd rfl w
          · have e : fw J N re k (r + 1) i = r + 1 := by
              by_cases w : fw J N re k r i = 99999 ∧ win J N re k (r + 1) i = true
              · exact if_pos w
              · have e : fw J N re k (r + 1) i = fw J N re k r i := if_neg w
                omega
            rw [e]
            constructor
            · rintro (w | w)
              · exact Or.inl w
              · exact Or.inr (by omega)
            · rintro (w | w)
              · exact Or.inl w
              · exact Or.inr rfl
        · show hb_208_81 k72 k81 (nI k) (bI b) (nI (r + 1)) (nI i) H = _
          unfold hb_208_81 hb_208_129
          rw [e12, hN1, nx_shl1 (by omega), if_neg (nI_ge (by omega) (by omega)), nx_inb (by omega) (by omega), nx_ck, nI_clamp (by omega), hat, c0, if_neg (fun q => q rfl), pk_sub (by omega), Nat.add_sub_cancel, s1, Option.bind_some]
          dsimp only
          rw [nI_add]
          cases hh : hit with
          | true =>
            rw [if_neg (by decide), nx_ck, hit2.mp hh]
            cases b <;> rfl
          | false =>
            have w : fw J N re k (r + 1) i = fw J N re k r i := by
              apply Classical.byContradiction
              intro q
              by_cases w : fw J N re k r i = 99999 ∧ win J N re k (r + 1) i = true
              · have e : fw J N re k (r + 1) i = r + 1 := if_pos w
                rw [hit2.mpr e] at hh
                cases hh
              · exact q (if_neg w)
            rw [if_pos (by decide), same w]
            cases b <;> rfl
      · have w : fw J N re k (r + 1) i = fw J N re k r i := fw_keep c0 1
        have nx := next b _ ⟨fun q => Or.inl q, fun q => q.elim id (fun q2 => absurd w q2)⟩ rfl
        rw [same w] at nx
        refine ⟨2 ^ N - (i + 1), (nI k, bI b, nI (r + 1), nI (i + 1), H), by omega, ⟨i + 1, _, _, by omega, by omega, rfl, nx, rfl⟩, ?_⟩
        show hb_208_81 k72 k81 (nI k) (bI b) (nI (r + 1)) (nI i) H = _
        unfold hb_208_81 hb_208_129
        have hfo := fw_ok (J := J) (N := N) (re := re) (k := k) (n := r) (S := i) (by omega)
        rw [e12, hN1, nx_shl1 (by omega), if_neg (nI_ge (by omega) (by omega)), nx_inb (by omega) (by omega), nx_ck, nI_clamp (by omega), hat, if_pos (fun q => c0 (nI_inj (by omega) (by omega) q)), nI_add]
  · by_cases c : m < 1
    · rw [if_pos c, h58 m hm, show m = 0 by omega, z0]
    · rw [if_neg c]; exact h58 m hm
  · constructor
    · intro q; exact absurd q (by decide)
    · rintro ⟨S, q1, q2⟩
      rw [show S = 0 by omega] at q2
      exact absurd z0 q2
/-- the table in the end -/
def cmT (J : Nat → Nat) (N re k : Nat) (H : hs_H) : Prop := (∀ m, m < 2 ^ N → H.1 57 0 m = nI (nxs J N re m)) ∧ ∀ m, m < 2 ^ N → H.1 58 0 m = nI (fwe J N re k m)
theorem sp_208 {kk : Nat} {h : hs_H} (n : mk_n N re J h) (hN : N ≤ 10) (hN1 : 2 ≤ N) (hJ : ∀ k, J k < 2 ^ N) (hre : re = 0 ∨ re = 1) (hk1 : 1 ≤ kk) (hk5 : kk ≤ 5) : ∃ H, hf_208 (nI kk) h = some H ∧ hs_fr [(57, some 0), (58, some 0)] h H ∧ cmT J N re (min kk N) H := by
  have hp := p2_lt hN
  have main : ∀ k, 1 ≤ k → k ≤ N → ∃ H, hb_208_16 (nI k) h = some H ∧ hs_fr [(57, some 0), (58, some 0)] h H ∧ cmT J N re k H := by
    intro k hk1 hk
    obtain ⟨R, hR, hR1, hR2⟩ := chw_end (J := J) (re := re) (k := k) hN
    have hR0 : 1 ≤ R := Nat.pos_of_ne_zero (fun q => hR1 (by rw [q]; exact chw_0 hN hN1 hJ hre hk1 hk))
    have f0 : hs_fr [(57, some 0), (58, some 0)] h (hs_row h 57 0 (2 ^ N) (fun m => nI (stpA J re m N))) := hs_row_fr (.inl (.head _))
    have v0 : ∀ m, m < 2 ^ N → (hs_row h 57 0 (2 ^ N) (fun m => nI (stpA J re m N))).1 57 0 m = nI (nxs J N re m) := fun m hm => by rw [nx_rowget, if_pos ⟨rfl, rfl, hm⟩]; rfl
    unfold hb_208_16
    rw [sp_207 n.1 n.2.1 hre n.2.2 hJ hN, Option.bind_some]
    have n0 := mk_n_fr f0 rfl n
    generalize hs_row h 57 0 (2 ^ N) (fun m => nI (stpA J re m N)) = H0 at f0 v0 n0
    have rounds : ∀ H1, hs_fr [(57, some 0), (58, some 0)] h H1 → (∀ m, m < 2 ^ N → H1.1 57 0 m = nI (nxs J N re m)) → (∀ m, m < 2 ^ N → H1.1 58 0 m = nI (fw J N re k 1 m)) → ∃ H, hs_lp (fun k s => hb_208_72 k s.1 s.2.1 s.2.2.1 s.2.2.2) hs_big (nI k, nI 1, nI 2, H1) = some H ∧ hs_fr [(57, some 0), (58, some 0)] h H ∧ cmT J N re k H := by
      intro H1 f1 w57 w58
      refine lp_q2 (I := fun d q => ∃ H b, hs_fr [(57, some 0), (58, some 0)] h H ∧ (∀ m, m < 2 ^ N → H.1 57 0 m = nI (nxs J N re m)) ∧ ((b = true ∧ ∃ r, 1 ≤ r ∧ r ≤ R ∧ d = R - r + 1 ∧ (∀ m, m < 2 ^ N → H.1 58 0 m = nI (fw J N re k r m)) ∧ q = (nI k, nI 1, nI (r + 1), H)) ∨ (b = false ∧ d = 0 ∧ (∀ m, m < 2 ^ N → H.1 58 0 m = nI (fwe J N re k m)) ∧ ∃ x, q = (nI k, nI 0, x, H)))) (Q := fun o => ∃ H, o = some H ∧ hs_fr [(57, some 0), (58, some 0)] h H ∧ cmT J N re k H) (fun d q hI k72 => ?_) R _ hs_big ⟨H1, true, f1, w57, Or.inl ⟨rfl, 1, by omega, hR0, by omega, w58, rfl⟩⟩ (lp_big (by omega))
      obtain ⟨H, b, fr, g57, ⟨-, r, hr1, hr, rfl, g58, rfl⟩ | ⟨-, rfl, g58, x, rfl⟩⟩ := hI
      · refine Or.inr ?_
        obtain ⟨b2, H2, s1, s2, s3, s4⟩ := sp_208r (r := r) (h := H) k72 hN (mk_n_fr fr rfl n).1 hJ hre hk1 hk hr1 (by omega) g57 g58
        have e57 : H2.1 57 0 = H.1 57 0 := (s1 57 0 (by intro q hq; revert q; simp)).1
        have fr2 : hs_fr [(57, some 0), (58, some 0)] h H2 := fr.tr (s1.sub (hs_sub_cons (.inl (.tail _ (.head _))) hs_sub_nil))
        have step : hb_208_72 k72 (nI k) (nI 1) (nI (r + 1)) H = k72 (nI k, bI b2, nI (r + 2), H2) := by
          unfold hb_208_72
          rw [if_neg (by decide)]
          exact s4
        by_cases c : r = R
        · subst c
          have hb : b2 = false := eq_false_of_ne_true (fun q => hR1 (s3.mp q))
          refine ⟨0, _, by omega, ⟨H2, false, fr2, fun m hm => by rw [e57]; exact g57 m hm, Or.inr ⟨rfl, rfl, fun m hm => ?_, nI (r + 2), rfl⟩⟩, ?_⟩
          · rw [s2 m hm, fw_stay hJ hre hR1 hm (by omega) 1]
            have := fw_stay (k := k) hJ hre hR1 hm (by omega) (2000 - r)
            rw [show r + (2000 - r) = 2000 by omega] at this
            rw [← this]
            rfl
          · show hb_208_72 k72 (nI k) (nI 1) (nI (r + 1)) H = _
            rw [step, hb]
            rfl
        · have hb : b2 = true := s3.mpr (hR2 r (by omega))
          refine ⟨R - (r + 1) + 1, _, by omega, ⟨H2, true, fr2, fun m hm => by rw [e57]; exact g57 m hm, Or.inl ⟨rfl, r + 1, by omega, by omega, rfl, s2, rfl⟩⟩, ?_⟩
          show hb_208_72 k72 (nI k) (nI 1) (nI (r + 1)) H = _
          rw [step, hb]
          rfl
      · refine Or.inl ⟨H, ?_, fr, g57, g58⟩
        show hb_208_72 k72 (nI k) (nI 0) x H = _
        unfold hb_208_72
        rw [if_pos (by decide)]
    have hk10 : k ≤ 10 := by omega
    have s0 := lp_q2 (f := fun k s => hb_208_23 k s.1 s.2.1 s.2.2) (I := fun d q => ∃ i, i ≤ 2 ^ N ∧ d = 2 ^ N - i ∧ q = (nI k, nI i, hs_row H0 58 0 i (fun m => nI (if m = 0 then 0 else if pcn 10 m ≤ k then 1 else 99999)))) (Q := fun o => ∃ H, o = some H ∧ hs_fr [(57, some 0), (58, some 0)] h H ∧ cmT J N re k H) (fun d q hI k23 => ?_) (2 ^ N) (nI k, nI 0, hs_row H0 58 0 0 (fun m => nI (if m = 0 then 0 else if pcn 10 m ≤ k then 1 else 99999))) hs_big ⟨0, Nat.zero_le _, rfl, rfl⟩ (lp_big (by omega))
    · rw [hs_row0] at s0
      exact s0
    · obtain ⟨i, hi, rfl, rfl⟩ := hI
      have eS := hs_rowS H0 58 0 i (fun m => nI (if m = 0 then 0 else if pcn 10 m ≤ k then 1 else 99999))
      by_cases hin : i = 2 ^ N
      · subst hin
        refine Or.inl ?_
        show ∃ H, hb_208_23 k23 (nI k) (nI (2 ^ N)) (hs_row H0 58 0 (2 ^ N) (fun m => nI (if m = 0 then 0 else if pcn 10 m ≤ k then 1 else 99999))) = some H ∧ _
        have f1 : hs_fr [(57, some 0), (58, some 0)] h (hs_row H0 58 0 (2 ^ N) (fun m => nI (if m = 0 then 0 else if pcn 10 m ≤ k then 1 else 99999))) := f0.tr (hs_row_fr (.inl (.tail _ (.head _))))
        have n1 := (mk_n_fr f1 rfl n).1
        obtain ⟨H, r1, r2⟩ := rounds _ f1 (fun m hm => by rw [nx_rowget, if_neg (by omega)]; exact v0 m hm) (fun m hm => by rw [nx_rowget, if_pos ⟨rfl, rfl, hm⟩, fw_1 hN hJ hre hk hm])
        refine ⟨H, ?_, r2⟩
        unfold hb_208_23
        rw [n1, nx_shl1 (by omega), if_pos (Int32.le_refl _)]
        exact r1
      · refine Or.inr ⟨2 ^ N - (i + 1), (nI k, nI (i + 1), hs_row H0 58 0 (i + 1) (fun m => nI (if m = 0 then 0 else if pcn 10 m ≤ k then 1 else 99999))), by omega, ⟨i + 1, by omega, rfl, rfl⟩, ?_⟩
        show hb_208_23 k23 (nI k) (nI i) (hs_row H0 58 0 i (fun m => nI (if m = 0 then 0 else if pcn 10 m ≤ k then 1 else 99999))) = _
        have f1 : hs_fr [(57, some 0), (58, some 0)] h (hs_row H0 58 0 i (fun m => nI (if m = 0 then 0 else if pcn 10 m ≤ k then 1 else 99999))) := f0.tr (hs_row_fr (.inl (.tail _ (.head _))))
        have n1 := (mk_n_fr f1 rfl n).1
        rw [← eS]
        generalize hs_row H0 58 0 i (fun m => nI (if m = 0 then 0 else if pcn 10 m ≤ k then 1 else 99999)) = G at n1
        have hpl := pcn_le i 10
        unfold hb_208_23 hb_208_60
        rw [n1, nx_shl1 (by omega), if_neg (nI_ge (by omega) (by omega)), nx_inb (by omega) (by omega), nx_ck, nI_clamp (by omega), nI_add]
        by_cases c0 : i = 0
        · subst c0
          rw [if_neg (by decide), if_pos rfl]
        · rw [if_pos (nI_ne0 (by omega) (by omega)), sp_152 (by omega), Option.bind_some, if_neg c0]
          dsimp only
          by_cases c1 : pcn 10 i ≤ k
          · rw [if_neg (nI_nlt c1 (by omega)), if_pos c1]
            rfl
          · rw [if_pos (nI_lt (by omega) (by omega)), if_neg c1]
            rfl
  unfold hf_208
  rw [n.1]
  by_cases c : N ≤ kk
  · rw [if_pos (nI_le c (by omega)), Nat.min_eq_right c]
    exact main N (by omega) (Nat.le_refl _)
  · rw [if_neg (nI_ge (by omega) (by omega)), Nat.min_eq_left (by omega)]
    exact main kk hk1 (by omega)
end CM
