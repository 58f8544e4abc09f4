/-! Doubt: the model's table of keys. -/
abbrev kyT : Type := Int64 × Int64 × Int64
def hsi (κ : kyT) : Int32 := (((((κ.1 * (lN 1000003)) + (κ.2.1 * (lN 10007))) + κ.2.2) ^^^ ((((κ.1 * (lN 1000003)) + (κ.2.1 * (lN 10007))) + κ.2.2) >>> ((nI 17).toInt64 &&& 63))) &&& (lN 2047)).toInt32
def hsq (κ : kyT) : Nat := (hsi κ).toBitVec.toNat
theorem hsi_e (κ : kyT) : hsi κ = nI (hsq κ) := nI_bv _
theorem hsq_lt (κ : kyT) : hsq κ < 2048 := by
  unfold hsq hsi
  rw [Int64.toInt32_and, lN_i]
  generalize ((((κ.1 * (lN 1000003)) + (κ.2.1 * (lN 10007))) + κ.2.2) ^^^ ((((κ.1 * (lN 1000003)) + (κ.2.1 * (lN 10007))) + κ.2.2) >>> ((nI 17).toInt64 &&& 63))).toInt32 = x
  rw [nI_bv x, nx_and]
  have h1 : x.toBitVec.toNat &&& 2047 ≤ 2047 := Nat.and_le_right
  rw [nx_tn]
  omega
def kyA (G : hs_H) (s : Nat) : kyT := (G.2 53 0 (3 * s), G.2 53 0 (3 * s + 1), G.2 53 0 (3 * s + 2))
def kyP (G : hs_H) (s : Nat) (κ : kyT) : hs_H := hs_putL (hs_putL (hs_putL G 53 0 (3 * s) κ.1) 53 0 (3 * s + 1) κ.2.1) 53 0 (3 * s + 2) κ.2.2
theorem nx_getL (h : hs_H) (c i k : Nat) (x : Int64) (c' i' k' : Nat) : (hs_putL h c i k x).2 c' i' k' = if c' = c ∧ i' = i ∧ k' = k then x else h.2 c' i' k' := by
  by_cases h1 : (c', i') = (c, i)
  · cases h1
    rw [hs_putL_eq]
    unfold vp_updL
    by_cases h2 : k' = k
    · rw [if_pos h2, if_pos ⟨rfl, rfl, h2⟩]
    · rw [if_neg h2, if_neg (fun q => h2 q.2.2)]
  · rw [hs_putL_ne h1, if_neg (fun q => h1 (by rw [q.1, q.2.1]))]
theorem kyP_1 {G : hs_H} {s : Nat} {κ : kyT} : (kyP G s κ).1 = G.1 := rfl
theorem kyA_P {G : hs_H} {s s' : Nat} {κ : kyT} : kyA (kyP G s κ) s' = if s' = s then κ else kyA G s' := by
  unfold kyA kyP
  by_cases c : s' = s
  · subst c
    rw [if_pos rfl, nx_getL, if_neg (by omega), nx_getL, if_neg (by omega), nx_getL, if_pos ⟨rfl, rfl, rfl⟩, nx_getL, if_neg (by omega), nx_getL, if_pos ⟨rfl, rfl, rfl⟩, nx_getL, if_pos ⟨rfl, rfl, rfl⟩]
  · rw [if_neg c]
    simp only [nx_getL]
    rw [if_neg (by omega), if_neg (by omega), if_neg (by omega), if_neg (by omega), if_neg (by omega), if_neg (by omega), if_neg (by omega), if_neg (by omega), if_neg (by omega)]
def o01 (G : hs_H) (s : Nat) : Nat := if G.1 54 0 s = nI 0 then 0 else 1
/-- the table of m ways: their keys, their ends -/
def tbS (m : Nat) (ky : Nat → kyT) (en : Nat → Nat) (G : hs_H) (sl : Nat → Nat) : Prop :=
  (∀ w, w < m → sl w < 2048 ∧ G.1 55 0 w = nI (sl w) ∧ kyA G (sl w) = ky w) ∧ (∀ s, s < 2048 → ∃ M, M < 1024 ∧ G.1 54 0 s = nI M ∧ ∀ b, M.testBit b = true ↔ ∃ w, w < m ∧ sl w = s ∧ en w = b) ∧ (∀ w w', w < m → w' < m → ky w = ky w' → sl w = sl w') ∧ (∀ w, w < m → ∃ j, j < 2048 ∧ sl w = (hsq (ky w) + j) % 2048 ∧ ∀ i, i < j → G.1 54 0 ((hsq (ky w) + i) % 2048) ≠ nI 0) ∧ smN (o01 G) 2048 ≤ m
section TB
variable {m : Nat} {ky : Nat → kyT} {en sl : Nat → Nat} {G : hs_H}
theorem tb_occ (p : tbS m ky en G sl) {s : Nat} (hs : s < 2048) : G.1 54 0 s ≠ nI 0 ↔ ∃ w, w < m ∧ sl w = s := by
  obtain ⟨M, hM, e, hb⟩ := p.2.1 s hs
  rw [e]
  constructor
  · intro h
    have h0 : M ≠ 0 := fun q => h (by rw [q])
    obtain ⟨b, hb2⟩ := tb_ne0 h0
    obtain ⟨w, h1, h2, -⟩ := (hb b).mp hb2
    exact ⟨w, h1, h2⟩
  · rintro ⟨w, h1, h2⟩ q
    have h3 := nI_inj (by omega) (by omega) q
    have h4 := (hb (en w)).mpr ⟨w, h1, h2, rfl⟩
    rw [h3, Nat.zero_testBit] at h4
    cases h4
theorem smN_all {v : Nat → Nat} : ∀ n, (∀ k, k < n → v k = 1) → smN v n = n := by
  intro n
  induction n with
  | zero => intro _; rfl
  | succ n ih =>
    intro h
    show smN v n + v n = n + 1
    rw [ih (fun k hk => h k (by omega)), h n (by omega)]
/-- some slot is empty -/
theorem tb_free (p : tbS m ky en G sl) (hm : m < 2048) : ∃ e, e < 2048 ∧ G.1 54 0 e = nI 0 := by
  apply Classical.byContradiction
  intro h
  have := smN_all (v := o01 G) 2048 (fun k hk => if_neg (fun q => h ⟨k, hk, q⟩))
  have := p.2.2.2.2
  omega
theorem sp_201 {κ : kyT} (p : tbS m ky en G sl) (hm : m < 2048) : ∃ s j, s < 2048 ∧ j < 2048 ∧ s = (hsq κ + j) % 2048 ∧ (∀ i, i < j → G.1 54 0 ((hsq κ + i) % 2048) ≠ nI 0) ∧ hf_201 κ.1 κ.2.1 κ.2.2 G = some (nI s, kyP G s κ) ∧ ((G.1 54 0 s = nI 0 ∧ ∀ w, w < m → ky w ≠ κ) ∨ (G.1 54 0 s ≠ nI 0 ∧ kyA G s = κ)) := by
  have hq := hsq_lt κ
  obtain ⟨e, he, he2⟩ := tb_free p hm
  have hex : G.1 54 0 ((hsq κ + (e + 2048 - hsq κ)) % 2048) = nI 0 ∨ kyA G ((hsq κ + (e + 2048 - hsq κ)) % 2048) = κ := by
    rw [show (hsq κ + (e + 2048 - hsq κ)) % 2048 = e by omega]
    exact Or.inl he2
  have hex2 : G.1 54 0 ((hsq κ + (e + 2048 - hsq κ) % 2048) % 2048) = nI 0 ∨ kyA G ((hsq κ + (e + 2048 - hsq κ) % 2048) % 2048) = κ := by
    rw [show (hsq κ + (e + 2048 - hsq κ) % 2048) % 2048 = e by omega]
    exact Or.inl he2
  obtain ⟨j, hj, h1, h2⟩ := least_of (p := fun j => G.1 54 0 ((hsq κ + j) % 2048) = nI 0 ∨ kyA G ((hsq κ + j) % 2048) = κ) hex2
  have hj2 : j < 2048 := by omega
  refine ⟨(hsq κ + j) % 2048, j, Nat.mod_lt _ (by omega), hj2, rfl, fun i hi q => h2 i hi (Or.inl q), ?_, ?_⟩
  · unfold hf_201
    have e0 : hsi κ = nI ((hsq κ + 0) % 2048) := by rw [hsi_e, Nat.add_zero, Nat.mod_eq_of_lt hq]
    show hs_lp (fun k s => hb_201_31 k s.1 s.2.1 s.2.2.1 s.2.2.2.1 s.2.2.2.2) hs_big (κ.1, κ.2.1, κ.2.2, hsi κ, G) = _
    rw [e0]
    refine lp_for (f := fun k s => hb_201_31 k s.1 s.2.1 s.2.2.1 s.2.2.2.1 s.2.2.2.2) (st := fun i => (κ.1, κ.2.1, κ.2.2, nI ((hsq κ + i) % 2048), G)) (e := j) (fun i hi k => ?_) (fun k => ?_) 0 hs_big (Nat.zero_le _) (lp_big (by omega))
    · show hb_201_31 k κ.1 κ.2.1 κ.2.2 (nI ((hsq κ + i) % 2048)) G = k (κ.1, κ.2.1, κ.2.2, nI ((hsq κ + (i + 1)) % 2048), G)
      have hne := h2 i hi
      have hlt : (hsq κ + i) % 2048 < 2048 := Nat.mod_lt _ (by omega)
      have hnx : nI ((hsq κ + (i + 1)) % 2048) = (nI ((hsq κ + i) % 2048) + nI 1) &&& nI 2047 := by
        rw [nI_add, nx_and, show (2047 : Nat) = 2 ^ 11 - 1 from rfl, Nat.and_two_pow_sub_one_eq_mod]
        congr 1
        omega
      rw [hnx]
      generalize (hsq κ + i) % 2048 = x at hne hlt
      unfold hb_201_31 hb_201_88
      rw [nx_inb hlt (by omega), nx_ck, nI_clamp (by omega), if_neg (show ¬ G.1 54 0 x = 0 from fun q => hne (Or.inl q)), pk_mul, nI_add, nI_add, nI_add, nx_inb (show 3 * x < 6144 by omega) (by omega), nx_ck, nI_clamp (show 3 * x < 2147483648 by omega)]
      by_cases c1 : G.2 53 0 (3 * x) = κ.1
      · rw [if_neg (fun q => q ((lg_cmp_eq _ _).mpr c1)), nx_inb (show 3 * x + 1 < 6144 by omega) (by omega), nx_ck, nI_clamp (show 3 * x + 1 < 2147483648 by omega)]
        by_cases c2 : G.2 53 0 (3 * x + 1) = κ.2.1
        · rw [if_neg (fun q => q ((lg_cmp_eq _ _).mpr c2)), nx_inb (show 3 * x + 2 < 6144 by omega) (by omega), nx_ck, nI_clamp (show 3 * x + 2 < 2147483648 by omega)]
          by_cases c3 : G.2 53 0 (3 * x + 2) = κ.2.2
          · exact absurd (Or.inr (by unfold kyA; rw [c1, c2, c3])) hne
          · rw [if_neg (fun q => c3 ((lg_cmp_eq _ _).mp q))]
        · rw [if_pos (fun q => c2 ((lg_cmp_eq _ _).mp q))]
      · rw [if_pos (fun q => c1 ((lg_cmp_eq _ _).mp q))]
    · show hb_201_31 k κ.1 κ.2.1 κ.2.2 (nI ((hsq κ + j) % 2048)) G = _
      have hlt : (hsq κ + j) % 2048 < 2048 := Nat.mod_lt _ (by omega)
      generalize (hsq κ + j) % 2048 = x at h1 hlt
      have e101 : hb_201_101 κ.1 κ.2.1 κ.2.2 (nI x) G = some (nI x, kyP G x κ) := by
        unfold hb_201_101 kyP
        rw [pk_mul, nI_add, nI_add, nx_inb (show 3 * x < 6144 by omega) (by omega), nx_ck, nx_inb (show 3 * x + 1 < 6144 by omega) (by omega), nx_ck, nx_inb (show 3 * x + 2 < 6144 by omega) (by omega), nx_ck, nI_clamp (show 3 * x < 2147483648 by omega), nI_clamp (show 3 * x + 1 < 2147483648 by omega), nI_clamp (show 3 * x + 2 < 2147483648 by omega)]
      unfold hb_201_31
      rw [e101, nx_inb hlt (by omega), nx_ck, nI_clamp (by omega)]
      by_cases c0 : G.1 54 0 x = nI 0
      · rw [if_pos (by rw [c0]; rfl)]
      · have ck := h1.resolve_left c0
        have k1 : G.2 53 0 (3 * x) = κ.1 := congrArg (fun q : kyT => q.1) ck
        have k2 : G.2 53 0 (3 * x + 1) = κ.2.1 := congrArg (fun q : kyT => q.2.1) ck
        have k3 : G.2 53 0 (3 * x + 2) = κ.2.2 := congrArg (fun q : kyT => q.2.2) ck
        rw [if_neg (show ¬ G.1 54 0 x = 0 from fun q => c0 q), pk_mul, nI_add, nI_add, nx_inb (show 3 * x < 6144 by omega) (by omega), nx_ck, nI_clamp (show 3 * x < 2147483648 by omega), if_neg (fun q => q ((lg_cmp_eq _ _).mpr k1)), nx_inb (show 3 * x + 1 < 6144 by omega) (by omega), nx_ck, nI_clamp (show 3 * x + 1 < 2147483648 by omega), if_neg (fun q => q ((lg_cmp_eq _ _).mpr k2)), nx_inb (show 3 * x + 2 < 6144 by omega) (by omega), nx_ck, nI_clamp (show 3 * x + 2 < 2147483648 by omega), if_pos ((lg_cmp_eq _ _).mpr k3)]
  · by_cases c0 : G.1 54 0 ((hsq κ + j) % 2048) = nI 0
    · refine Or.inl ⟨c0, fun w hw hk => ?_⟩
      obtain ⟨jw, q1, q2, q3⟩ := p.2.2.2.1 w hw
      rw [hk] at q2 q3
      have occ := (tb_occ p (show sl w < 2048 from (p.1 w hw).1)).mpr ⟨w, hw, rfl⟩
      rcases Nat.lt_or_ge j jw with c | c
      · exact q3 j c c0
      · by_cases c2 : j = jw
        · rw [c2, ← q2] at c0; exact occ c0
        · exact h2 jw (by omega) (Or.inr (by rw [← q2, (p.1 w hw).2.2, hk]))
    · exact Or.inr ⟨c0, h1.resolve_left c0⟩
/-- one way more -/
theorem tb_add {κ : kyT} {e s j M : Nat} {G' : hs_H} (p : tbS m ky en G sl) (he : e < 10) (hs : s < 2048) (hj : j < 2048) (hsj : s = (hsq κ + j) % 2048) (hp : ∀ i, i < j → G.1 54 0 ((hsq κ + i) % 2048) ≠ nI 0) (hor : (G.1 54 0 s = nI 0 ∧ ∀ w, w < m → ky w ≠ κ) ∨ (G.1 54 0 s ≠ nI 0 ∧ kyA G s = κ)) (hM : G.1 54 0 s = nI M) (hM2 : M < 1024) (g54 : ∀ x, G'.1 54 0 x = if x = s then nI (M ||| 2 ^ e) else G.1 54 0 x) (g55 : ∀ x, G'.1 55 0 x = if x = m then nI s else G.1 55 0 x) (g53 : ∀ x, kyA G' x = if x = s then κ else kyA G x) : tbS (m + 1) (fun w => if w = m then κ else ky w) (fun w => if w = m then e else en w) G' (fun w => if w = m then s else sl w) := by
  have hne : M ||| 2 ^ e ≠ 0 := fun q => by
    have : (M ||| 2 ^ e).testBit e = true := by rw [Nat.testBit_or, tb_pow, decide_eq_true rfl, Bool.or_true]
    rw [q, Nat.zero_testBit] at this
    cases this
  have hlt : M ||| 2 ^ e < 2 ^ 10 := or_lt hM2 (Nat.pow_lt_pow_right (by omega) he)
  have key : ∀ w, w < m → sl w = s → ky w = κ := fun w hw hq => by
    rcases hor with ⟨c0, -⟩ | ⟨-, c1⟩
    · exact absurd c0 ((tb_occ p hs).mpr ⟨w, hw, hq⟩)
    · rw [← (p.1 w hw).2.2, hq, c1]
  have slot : ∀ w, w < m → ky w = κ → sl w = s := fun w hw hq => by
    rcases hor with ⟨-, c1⟩ | ⟨c0, c1⟩
    · exact absurd hq (c1 w hw)
    · obtain ⟨w0, h1, h2⟩ := (tb_occ p hs).mp c0
      rw [← h2]
      exact p.2.2.1 w w0 hw h1 (by rw [hq, ← (p.1 w0 h1).2.2, h2, c1])
  have occ : ∀ x, G.1 54 0 x ≠ nI 0 → G'.1 54 0 x ≠ nI 0 := fun x hx => by
    rw [g54]
    by_cases c : x = s
    · rw [if_pos c]
      exact fun q => hne (nI_inj (by omega) (by omega) q)
    · rw [if_neg c]; exact hx
  refine ⟨fun w hw => ?_, fun x hx => ?_, fun w w' hw hw' h => ?_, fun w hw => ?_, ?_⟩
  · dsimp only
    by_cases c : w = m
    · rw [if_pos c, if_pos c, g55, if_pos c, g53, if_pos rfl]
      exact ⟨hs, rfl, rfl⟩
    · have hw' : w < m := by omega
      obtain ⟨p1, p2, p3⟩ := p.1 w hw'
      rw [if_neg c, if_neg c, g55, if_neg c, g53]
      by_cases c2 : sl w = s
      · rw [if_pos c2]; exact ⟨p1, p2, (key w hw' c2).symm⟩
      · rw [if_neg c2]; exact ⟨p1, p2, p3⟩
  · obtain ⟨M1, q1, q2, q3⟩ := p.2.1 x hx
    by_cases c : x = s
    · rw [c, hM] at q2
      have hMM := nI_inj (by omega) (by omega) q2
      refine ⟨M ||| 2 ^ e, by omega, by rw [g54, if_pos c], fun b => ?_⟩
      rw [Nat.testBit_or, Bool.or_eq_true, hMM, q3 b, tb_pow, decide_eq_true_eq]
      constructor
      · rintro (⟨w, w1, w2, w3⟩ | h)
        · refine ⟨w, by omega, ?_, ?_⟩
          · dsimp only; rw [if_neg (by omega)]; exact w2
          · dsimp only; rw [if_neg (by omega)]; exact w3
        · refine ⟨m, by omega, ?_, ?_⟩
          · dsimp only; rw [if_pos rfl]; exact c.symm
          · dsimp only; rw [if_pos rfl]; exact h
      · rintro ⟨w, w1, w2, w3⟩
        dsimp only at w2 w3
        by_cases c3 : w = m
        · rw [if_pos c3] at w3; exact Or.inr w3
        · rw [if_neg c3] at w2 w3; exact Or.inl ⟨w, by omega, w2, w3⟩
    · refine ⟨M1, q1, by rw [g54, if_neg c]; exact q2, fun b => ?_⟩
      rw [q3 b]
      constructor
      · rintro ⟨w, w1, w2, w3⟩
        refine ⟨w, by omega, ?_, ?_⟩
        · dsimp only; rw [if_neg (by omega)]; exact w2
        · dsimp only; rw [if_neg (by omega)]; exact w3
      · rintro ⟨w, w1, w2, w3⟩
        dsimp only at w2 w3
        by_cases c3 : w = m
        · rw [if_pos c3] at w2; exact absurd w2.symm c
        · rw [if_neg c3] at w2 w3; exact ⟨w, by omega, w2, w3⟩
  · dsimp only at h ⊢
    by_cases c : w = m
    · by_cases c' : w' = m
      · rw [if_pos c, if_pos c']
      · rw [if_pos c, if_neg c'] at h ⊢
        exact (slot w' (by omega) h.symm).symm
    · by_cases c' : w' = m
      · rw [if_neg c, if_pos c'] at h ⊢
        exact slot w (by omega) h
      · rw [if_neg c, if_neg c'] at h ⊢
        exact p.2.2.1 w w' (by omega) (by omega) h
  · dsimp only
    by_cases c : w = m
    · rw [if_pos c, if_pos c]
      exact ⟨j, hj, hsj, fun i hi => occ _ (hp i hi)⟩
    · rw [if_neg c, if_neg c]
      obtain ⟨jw, q1, q2, q3⟩ := p.2.2.2.1 w (by omega)
      exact ⟨jw, q1, q2, fun i hi => occ _ (q3 i hi)⟩
  · have hsm := smN_upd (v := o01 G) (w := o01 G') (i := s) 2048 (fun x hx => by
      unfold o01
      rw [g54, if_neg hx])
    rw [if_pos hs, if_pos hs] at hsm
    have h1 : o01 G' s = 1 := if_neg (by
      rw [g54, if_pos rfl]
      exact fun q => hne (nI_inj (by omega) (by omega) q))
    have h2 := p.2.2.2.2
    omega
end TB
