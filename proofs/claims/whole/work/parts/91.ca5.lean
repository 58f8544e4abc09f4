/-! Casts: the class's search. -/
def qv (H : hs_H) (x : Nat) : Nat := (H.1 22 0 x).toBitVec.toNat
theorem qv_e (H : hs_H) (x : Nat) : H.1 22 0 x = nI (qv H x) := nI_bv _
def u01 (H : hs_H) (S : Nat) : Nat := if 0 < S ∧ H.1 21 0 S = nI 4294967295 then 1 else 0
theorem smN_upd {v w : Nat → Nat} {i : Nat} : ∀ n, (∀ k, k ≠ i → v k = w k) → smN v n + (if i < n then w i else 0) = smN w n + (if i < n then v i else 0) := by
  intro n
  induction n with
  | zero => intro _; rfl
  | succ n ih =>
    intro h
    have h1 := ih h
    show smN v n + v n + _ = smN w n + w n + _
    by_cases c : i = n
    · subst c
      rw [if_neg (Nat.lt_irrefl _), if_neg (Nat.lt_irrefl _)] at h1
      rw [if_pos (by omega), if_pos (by omega)]
      omega
    · have h2 := h n (fun q => c q.symm)
      by_cases c2 : i < n
      · rw [if_pos c2, if_pos c2] at h1
        rw [if_pos (by omega), if_pos (by omega)]
        omega
      · rw [if_neg c2, if_neg c2] at h1
        rw [if_neg (by omega), if_neg (by omega)]
        omega
section BF
variable {J : Nat → Nat} {N re k : Nat}
/-- what stays as it is while sets are met -/
def bq (N m : Nat) (G H : hs_H) : Prop := hs_fr [(21, some 0), (22, some 0)] G H ∧ (∀ x, x < m → 0 < qv H x ∧ qv H x < 2 ^ N) ∧ m + smN (u01 H) (2 ^ N) = 2 ^ N - 1
/-- what the class reads -/
def bl5 (J : Nat → Nat) (N re k : Nat) (H : hs_H) : Prop := (∀ S, S < 2 ^ N → H.1 20 0 S = nI (nxs J N re S)) ∧ thr N k H ∧ H.1 0 0 6 = nI k
theorem bl5_fr {K : List (Nat × Option Nat)} {h H : hs_H} (f : hs_fr K h H) (o : st_outb K [(0, 0), (20, 0), (23, 0)] = true) (p : bl5 J N re k h) : bl5 J N re k H := by
  have e := st_out_at f o
  have e1 : H.1 0 0 = h.1 0 0 := e (0, 0) (by simp)
  have e2 : H.1 20 0 = h.1 20 0 := e (20, 0) (by simp)
  have e3 : H.1 23 0 = h.1 23 0 := e (23, 0) (by simp)
  unfold bl5 thr thA tv at p ⊢
  rw [e1, e2, e3]
  exact p
/-- the sets met from X by the first e casts -/
def mtS (J : Nat → Nat) (N re k X m e m' : Nat) (h H : hs_H) : Prop :=
  (hs_fr [(21, some 0), (22, some 0)] h H ∧ m ≤ m' ∧ m' + smN (u01 H) (2 ^ N) = 2 ^ N - 1) ∧ (∀ x, x < m → H.1 22 0 x = h.1 22 0 x) ∧ ((∀ S, h.1 21 0 S ≠ nI 4294967295 → H.1 21 0 S = h.1 21 0 S) ∧ ∀ S, H.1 21 0 S ≠ nI 4294967295 → h.1 21 0 S ≠ nI 4294967295 ∨ ∃ x, m ≤ x ∧ x < m' ∧ qv H x = S) ∧ (∀ x, m ≤ x → x < m' → (0 < qv H x ∧ qv H x < 2 ^ N) ∧ fwe J N re k X ≤ fwe J N re k (qv H x) + 1) ∧ (fwe J N re k X ≠ 99999 → h.1 21 0 (nxs J N re (dif X (lcc J N re k X))) = nI 4294967295 → ((∀ i, i < e → tv h i ≠ lcc J N re k X) → H.1 21 0 (nxs J N re (dif X (lcc J N re k X))) = nI 4294967295 ∧ ∀ x, m ≤ x → x < m' → fwe J N re k X < fwe J N re k (qv H x) + 1) ∧ ((∃ i, i < e ∧ tv h i = lcc J N re k X) → ∃ px, m ≤ px ∧ px < m' ∧ qv H px = nxs J N re (dif X (lcc J N re k X)) ∧ H.1 21 0 (nxs J N re (dif X (lcc J N re k X))) = nI (lcc J N re k X * 1024 + X) ∧ ∀ x, m ≤ x → x < px → fwe J N re k X < fwe J N re k (qv H x) + 1))
theorem mt_step {X m e m' C : Nat} {h H : hs_H} (k5 : Int32 × Int32 × Int32 × hs_H → Option (Int32 × hs_H)) (hN : N ≤ 10) (hJ : ∀ k, J k < 2 ^ N) (hre : re = 0 ∨ re = 1) (hk1 : 1 ≤ k) (hk : k ≤ N) (hX0 : X ≠ 0) (hX : X < 2 ^ N) (hXk : k < pcn 10 X) (b : bl5 J N re k h) (hC : C ≤ 252) (h5 : h.1 0 0 5 = nI C) (tA : thA k (2 ^ N) C h) (he : e < C) (p : mtS J N re k X m e m' h H) : ∃ m'' H', mtS J N re k X m (e + 1) m'' h H' ∧ hb_4_5 k5 (nI X) (nI m') (nI e) H = k5 (nI X, nI m'', nI (e + 1), H') := by
  have hp := p2_lt hN
  obtain ⟨⟨p1, p2, p3⟩, p4, ⟨p5, p5b⟩, p6, p7⟩ := p
  have bH := bl5_fr p1 rfl b
  have e0 : H.1 0 0 = h.1 0 0 := (p1 0 0 (by intro q hq; revert q; simp)).1
  have e23 : H.1 23 0 = h.1 23 0 := (p1 23 0 (by intro q hq; revert q; simp)).1
  obtain ⟨⟨tc0, tc1⟩, tc2⟩ := tA.1 e he
  have hdl := dif_le X (tv h e)
  have hnl := nxs_lt (J := J) hJ hre (dif X (tv h e))
  have hdne : dif X (tv h e) ≠ 0 := fun q => by
    have hw : wi X (tv h e) := (dif_sub (by omega)).mp q
    have := pcn_mono hw 10
    omega
  have hn0 := nxs_ne hJ hre (show dif X (tv h e) < 2 ^ N by omega) hdne
  have hup : fwe J N re k X ≤ fwe J N re k (nxs J N re (dif X (tv h e))) + 1 := by
    have hb := fwe_b (k := k) hN hJ hre hX
    by_cases c : fwe J N re k (nxs J N re (dif X (tv h e))) = 99999
    · omega
    · exact fwe_up hN hJ hre tc1 tc2 c
  have hx1 : H.1 23 0 e = nI (tv h e) := by rw [e23]; exact tv_e h e
  -- the machine's steps up to the two tests
  have head : hb_4_5 k5 (nI X) (nI m') (nI e) H = if ¬ H.1 21 0 (nxs J N re (dif X (tv h e))) = nI 4294967295 then k5 (nI X, nI m', nI (e + 1), H) else k5 (nI X, nI (m' + 1), nI (e + 1), hs_put (hs_put H 21 0 (nxs J N re (dif X (tv h e))) (nI (tv h e * 1024 + X))) 22 0 m' (nI (nxs J N re (dif X (tv h e))))) := by
    unfold hb_4_5 hb_4_101 hf_5 hb_5_21
    rw [e0, h5, if_neg (nI_ge he (by omega)), if_neg (nI_ge (by omega) (by omega)), nx_inb (by omega) (by omega), nx_ck, nI_clamp (by omega), hx1, nx_dif, if_neg (nI_pos (by omega)), if_neg (nI_ge (by omega) (by omega)), nx_inb (by omega) (by omega), nx_ck, nI_clamp (by omega), bH.1 _ (by omega), Option.bind_some]
    dsimp only
    rw [if_neg (nI_nle (by omega) (by omega)), if_neg (nI_ge (by omega) (by omega)), nx_inb (by omega) (by omega), nx_ck, nI_clamp (by omega), nI_add]
    by_cases c : H.1 21 0 (nxs J N re (dif X (tv h e))) = nI 4294967295
    · rw [if_neg (fun q => q c), if_neg (nI_ge (by omega) (by omega)), nx_ck, nx_ck, nx_inb (by omega) (by omega), nx_ck, nI_clamp (by omega), hx1, pk_mul, nI_add, nI_add, if_neg (fun q => q c)]
    · rw [if_pos c, if_pos c]
  rw [head]
  by_cases c : H.1 21 0 (nxs J N re (dif X (tv h e))) = nI 4294967295
  · rw [if_neg (fun q => q c)]
    have hcn : 0 < nxs J N re (dif X (tv h e)) := Nat.pos_of_ne_zero hn0
    have hnew : nI (tv h e * 1024 + X) ≠ nI 4294967295 := fun q => by
      have := nI_inj (by omega) (by omega) q
      omega
    have e21 : ∀ S, (hs_put (hs_put H 21 0 (nxs J N re (dif X (tv h e))) (nI (tv h e * 1024 + X))) 22 0 m' (nI (nxs J N re (dif X (tv h e))))).1 21 0 S = if S = nxs J N re (dif X (tv h e)) then nI (tv h e * 1024 + X) else H.1 21 0 S := fun S => by
      rw [nx_get, if_neg (by omega), nx_get]
      by_cases q : S = nxs J N re (dif X (tv h e))
      · rw [if_pos ⟨rfl, rfl, q⟩, if_pos q]
      · rw [if_neg (fun w => q w.2.2), if_neg q]
    have e22 : ∀ x, qv (hs_put (hs_put H 21 0 (nxs J N re (dif X (tv h e))) (nI (tv h e * 1024 + X))) 22 0 m' (nI (nxs J N re (dif X (tv h e))))) x = if x = m' then nxs J N re (dif X (tv h e)) else qv H x := fun x => by
      unfold qv
      rw [nx_get]
      by_cases q : x = m'
      · rw [if_pos ⟨rfl, rfl, q⟩, if_pos q]
        exact tn_of rfl (by omega)
      · rw [if_neg (fun w => q w.2.2), if_neg q, nx_get, if_neg (by omega)]
    have hsm := smN_upd (v := u01 H) (w := u01 (hs_put (hs_put H 21 0 (nxs J N re (dif X (tv h e))) (nI (tv h e * 1024 + X))) 22 0 m' (nI (nxs J N re (dif X (tv h e)))))) (i := nxs J N re (dif X (tv h e))) (2 ^ N) (fun S hS => by
      unfold u01
      rw [e21 S, if_neg hS])
    have hu1 : u01 H (nxs J N re (dif X (tv h e))) = 1 := if_pos ⟨hcn, c⟩
    have hu2 : u01 (hs_put (hs_put H 21 0 (nxs J N re (dif X (tv h e))) (nI (tv h e * 1024 + X))) 22 0 m' (nI (nxs J N re (dif X (tv h e))))) (nxs J N re (dif X (tv h e))) = 0 := by
      unfold u01
      rw [e21, if_pos rfl]
      exact if_neg (fun q => hnew q.2)
    rw [if_pos hnl, if_pos hnl, hu1, hu2] at hsm
    refine ⟨m' + 1, _, ⟨⟨(p1.put (.inl (.head _))).put (.inl (.tail _ (.head _))), by omega, by omega⟩, fun x hx => ?_, ⟨fun S hS => ?_, fun S hS => ?_⟩, fun x h1 h2 => ?_, fun hD hun => ⟨fun hno => ?_, fun hyes => ?_⟩⟩, rfl⟩
    · rw [nx_get, if_neg (by omega), nx_get, if_neg (by omega)]
      exact p4 x hx
    · rw [e21, if_neg (fun q => by
        have := p5 S hS
        rw [← q] at c
        rw [this] at c
        exact hS c)]
      exact p5 S hS
    · rw [e21] at hS
      by_cases q : S = nxs J N re (dif X (tv h e))
      · exact Or.inr ⟨m', p2, by omega, by rw [e22, if_pos rfl, q]⟩
      · rw [if_neg q] at hS
        rcases p5b S hS with w | ⟨x, w1, w2, w3⟩
        · exact Or.inl w
        · exact Or.inr ⟨x, w1, by omega, by rw [e22, if_neg (by omega)]; exact w3⟩
    · rw [e22]
      by_cases q : x = m'
      · rw [if_pos q]; exact ⟨⟨hcn, hnl⟩, hup⟩
      · rw [if_neg q]; exact p6 x h1 (by omega)
    · obtain ⟨q1, q2⟩ := (p7 hD hun).1 (fun i hi => hno i (by omega))
      have sp := lcc_spec hN hJ hre hk1 hX hX0 hD
      have hlt : tv h e < lcc J N re k X := by
        obtain ⟨g, hg, hg2⟩ := tA.2.1 _ sp.2.1 sp.2.2.1 sp.1.1
        have hge : e < g := by
          by_cases w : g < e + 1
          · exact absurd hg2 (hno g w)
          · omega
        have := tA.2.2 e g hge hg
        omega
      have hnh := sp.2.2.2 _ hlt
      have hne : fwe J N re k (nxs J N re (dif X (tv h e))) + 1 ≠ fwe J N re k X := fun q => hnh ⟨tc2, q⟩
      refine ⟨?_, fun x h1 h2 => ?_⟩
      · rw [e21, if_neg (fun q => by rw [q] at sp; exact hne sp.1.2)]
        exact q1
      · rw [e22]
        by_cases q : x = m'
        · rw [if_pos q]; omega
        · rw [if_neg q]; exact q2 x h1 (by omega)
    · by_cases hbef : ∃ i, i < e ∧ tv h i = lcc J N re k X
      · obtain ⟨px, q1, q2, q3, q4, q5⟩ := (p7 hD hun).2 hbef
        refine ⟨px, q1, by omega, by rw [e22, if_neg (by omega)]; exact q3, ?_, fun x h1 h2 => by rw [e22, if_neg (by omega)]; exact q5 x h1 h2⟩
        rw [e21, if_neg (fun q => by
          rw [← q, q4] at c
          have sp := lcc_spec hN hJ hre hk1 hX hX0 hD
          have := nI_inj (by omega) (by omega) c
          omega)]
        exact q4
      · obtain ⟨q1, q2⟩ := (p7 hD hun).1 (fun i hi q => hbef ⟨i, hi, q⟩)
        have hel : tv h e = lcc J N re k X := by
          obtain ⟨i, hi, hi2⟩ := hyes
          by_cases w : i = e
          · rw [← w]; exact hi2
          · exact absurd ⟨i, by omega, hi2⟩ hbef
        refine ⟨m', p2, by omega, by rw [e22, if_pos rfl, hel], by rw [e21, hel, if_pos rfl], fun x h1 h2 => by rw [e22, if_neg (by omega)]; exact q2 x h1 h2⟩
  · rw [if_pos c]
    refine ⟨m', H, ⟨⟨p1, p2, p3⟩, p4, ⟨p5, p5b⟩, p6, fun hD hun => ⟨fun hno => (p7 hD hun).1 (fun i hi => hno i (by omega)), fun hyes => ?_⟩⟩, rfl⟩
    by_cases hbef : ∃ i, i < e ∧ tv h i = lcc J N re k X
    · exact (p7 hD hun).2 hbef
    · obtain ⟨q1, q2⟩ := (p7 hD hun).1 (fun i hi q => hbef ⟨i, hi, q⟩)
      have hel : tv h e = lcc J N re k X := by
        obtain ⟨i, hi, hi2⟩ := hyes
        by_cases w : i = e
        · rw [← w]; exact hi2
        · exact absurd ⟨i, by omega, hi2⟩ hbef
      rw [hel] at c
      exact absurd q1 c
theorem sp_4 {X m C : Nat} {h : hs_H} (hN : N ≤ 10) (hJ : ∀ k, J k < 2 ^ N) (hre : re = 0 ∨ re = 1) (hk1 : 1 ≤ k) (hk : k ≤ N) (hX0 : X ≠ 0) (hX : X < 2 ^ N) (hXk : k < pcn 10 X) (b : bl5 J N re k h) (hC : C ≤ 252) (h5 : h.1 0 0 5 = nI C) (tA : thA k (2 ^ N) C h) (hm : m + smN (u01 h) (2 ^ N) = 2 ^ N - 1) : ∃ m' H, hf_4 (nI X) (nI m) h = some (nI m', H) ∧ mtS J N re k X m C m' h H := by
  have hp := p2_lt hN
  unfold hf_4
  refine lp_q2 (f := fun k s => hb_4_5 k s.1 s.2.1 s.2.2.1 s.2.2.2) (I := fun d q => ∃ e m' H, e ≤ C ∧ d = C - e ∧ mtS J N re k X m e m' h H ∧ q = (nI X, nI m', nI e, H)) (Q := fun o => ∃ m' H, o = some (nI m', H) ∧ mtS J N re k X m C m' h H) (fun d q hI k5 => ?_) C _ hs_big ⟨0, m, h, Nat.zero_le _, rfl, ⟨⟨hs_fr.rf, Nat.le_refl _, hm⟩, fun _ _ => rfl, ⟨fun _ _ => rfl, fun _ w => Or.inl w⟩, fun x h1 h2 => by omega, fun _ hun => ⟨fun _ => ⟨hun, fun x h1 h2 => by omega⟩, fun ⟨i, hi, _⟩ => by omega⟩⟩, rfl⟩ (lp_big (by omega))
  obtain ⟨e, m', H, he, rfl, p, rfl⟩ := hI
  by_cases hin : e = C
  · subst hin
    refine Or.inl ⟨m', H, ?_, p⟩
    show hb_4_5 k5 (nI X) (nI m') (nI e) H = _
    have e0 : H.1 0 0 = h.1 0 0 := (p.1.1 0 0 (by intro q hq; revert q; simp)).1
    unfold hb_4_5 hb_4_107
    rw [e0, h5, if_pos (nI_le (Nat.le_refl _) (by omega))]
  · obtain ⟨m'', H', q1, q2⟩ := mt_step (C := C) k5 hN hJ hre hk1 hk hX0 hX hXk b hC h5 tA (show e < C by omega) p
    exact Or.inr ⟨C - (e + 1), _, by omega, ⟨e + 1, m'', H', by omega, rfl, q1, rfl⟩, q2⟩
end BF
