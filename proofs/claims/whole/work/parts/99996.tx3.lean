/-! The text: names; what it tells. -/
section TN
variable {n : Nat} {tp : Nat → Nat}
def tx_is (n : Nat) (tp : Nat → Nat) (k p : Nat) : Bool := decide (tx_E n tp p - tx_F n tp p = (hs_txt k).length ∧ ∀ j, j < (hs_txt k).length → tp (tx_F n tp p + j) = (hs_txt k).getD j 0)
/-- which name it is: 7 none -/
def tx_nm (n : Nat) (tp : Nat → Nat) (p : Nat) : Nat := if tx_is n tp 0 p = true then 0 else if tx_is n tp 1 p = true then 1 else if tx_is n tp 2 p = true then 2 else if tx_is n tp 3 p = true then 3 else if tx_is n tp 4 p = true then 4 else if tx_is n tp 5 p = true then 5 else if tx_is n tp 6 p = true then 6 else 7
theorem tx_txt : ∀ k, k < 7 → (hs_txt k).length ≤ 5 ∧ ∀ j, j < 5 → (hs_txt k).getD j 0 < 256 := by decide
theorem sp_72 {p k : Nat} {h : hs_H} (hk : k < 7) (hn : n ≤ 320) (hb : ∀ q, tp q < 256) (hp : p ≤ n) (t : tx_cT n tp h) (c : tx_cK n tp p h) : hf_72_64 k h = some (bI (tx_is n tp k p), h) := by
  obtain ⟨⟨a1, a2⟩, a3, a4, ⟨a5, a6⟩, a7, a8⟩ := tx_spec (tp := tp) hn hp
  obtain ⟨t1, t2⟩ := tx_txt k hk
  obtain ⟨c4, c5, c6, c7⟩ := c
  have hbl : Nat.blt k 7 = true := Nat.blt_eq.mpr hk
  unfold hf_72_64
  rw [hbl, nx_ck, c4, c6, pk_sub a5]
  by_cases e : tx_E n tp p - tx_F n tp p = (hs_txt k).length
  · rw [if_pos (by rw [e])]
    refine lp_q2 (f := fun q s => hb_72_64_20 k q s.1 s.2) (I := fun d q => ∃ j, j ≤ (hs_txt k).length ∧ d = (hs_txt k).length - j ∧ (∀ i, i < j → tp (tx_F n tp p + i) = (hs_txt k).getD i 0) ∧ q = (nI j, h)) (Q := fun o => o = some (bI (tx_is n tp k p), h)) (fun d q hI k2 => ?_) (hs_txt k).length _ hs_big ⟨0, Nat.zero_le _, rfl, fun i hi => absurd hi (Nat.not_lt_zero _), rfl⟩ (lp_big (by omega))
    obtain ⟨j, hj, rfl, hw, rfl⟩ := hI
    by_cases hjl : j < (hs_txt k).length
    · have hbj := t2 j (by omega)
      have hbp := hb (tx_F n tp p + j)
      have st : hb_72_64_20 k k2 (nI j) h = if nI (tp (tx_F n tp p + j)) = nI ((hs_txt k).getD j 0) then k2 (nI (j + 1), h) else some (nI 0, h) := by
        unfold hb_72_64_20
        rw [hbl, nx_ck, if_neg (nI_ge hjl (by omega)), c6, nI_add, if_neg (nI_ge (by omega) (by omega)), nx_inb (show tx_F n tp p + j < 320 by omega) (by omega), nx_ck, nx_ck, nx_inb hjl (by omega), nx_ck, nI_clamp (show tx_F n tp p + j < 2147483648 by omega), nI_clamp (show j < 2147483648 by omega), t.2 _ (by omega), nI_add]
      by_cases w : tp (tx_F n tp p + j) = (hs_txt k).getD j 0
      · refine Or.inr ⟨(hs_txt k).length - (j + 1), (nI (j + 1), h), by omega, ⟨j + 1, by omega, rfl, fun i hi => ?_, rfl⟩, ?_⟩
        · by_cases e2 : i = j
          · rw [e2]; exact w
          · exact hw i (by omega)
        · show hb_72_64_20 k k2 (nI j) h = _
          rw [st, if_pos (by rw [w])]
      · refine Or.inl ?_
        show hb_72_64_20 k k2 (nI j) h = _
        rw [st, if_neg (fun q => w (nI_inj (by omega) (by omega) q))]
        unfold tx_is
        rw [decide_eq_false (fun q => w (q.2 j hjl))]
        rfl
    · have e2 : j = (hs_txt k).length := by omega
      rw [e2] at hw
      refine Or.inl ?_
      show hb_72_64_20 k k2 (nI j) h = _
      unfold hb_72_64_20 hb_72_64_67 tx_is
      rw [hbl, nx_ck, if_pos (nI_le (by omega) (by omega)), decide_eq_true ⟨e, hw⟩]
      rfl
  · rw [if_neg (fun q => e (nI_inj (by omega) (by omega) q))]
    unfold tx_is
    rw [decide_eq_false (fun q => e q.1)]
    rfl
theorem tx_is5 {k p c0 c1 c2 c3 c4 : Nat} (h : hs_txt k = [c0, c1, c2, c3, c4]) : tx_is n tp k p = decide (tx_E n tp p - tx_F n tp p = 5 ∧ tp (tx_F n tp p) = c0 ∧ tp (tx_F n tp p + 1) = c1 ∧ tp (tx_F n tp p + 2) = c2 ∧ tp (tx_F n tp p + 3) = c3 ∧ tp (tx_F n tp p + 4) = c4) := by
  unfold tx_is
  rw [h]
  refine decide_eq_decide.mpr ⟨fun q => ⟨q.1, q.2 0 (Nat.le_of_ble_eq_true rfl), q.2 1 (Nat.le_of_ble_eq_true rfl), q.2 2 (Nat.le_of_ble_eq_true rfl), q.2 3 (Nat.le_of_ble_eq_true rfl), q.2 4 (Nat.le_of_ble_eq_true rfl)⟩, fun q => ⟨q.1, fun j hj => ?_⟩⟩
  obtain ⟨-, q0, q1, q2, q3, q4⟩ := q
  match j, hj with
  | 0, _ => exact q0
  | 1, _ => exact q1
  | 2, _ => exact q2
  | 3, _ => exact q3
  | 4, _ => exact q4
  | j + 5, hj => exact absurd hj (by show ¬ j + 5 < 5; omega)
theorem tx_is4 {k p c0 c1 c2 c3 : Nat} (h : hs_txt k = [c0, c1, c2, c3]) : tx_is n tp k p = decide (tx_E n tp p - tx_F n tp p = 4 ∧ tp (tx_F n tp p) = c0 ∧ tp (tx_F n tp p + 1) = c1 ∧ tp (tx_F n tp p + 2) = c2 ∧ tp (tx_F n tp p + 3) = c3) := by
  unfold tx_is
  rw [h]
  refine decide_eq_decide.mpr ⟨fun q => ⟨q.1, q.2 0 (Nat.le_of_ble_eq_true rfl), q.2 1 (Nat.le_of_ble_eq_true rfl), q.2 2 (Nat.le_of_ble_eq_true rfl), q.2 3 (Nat.le_of_ble_eq_true rfl)⟩, fun q => ⟨q.1, fun j hj => ?_⟩⟩
  obtain ⟨-, q0, q1, q2, q3⟩ := q
  match j, hj with
  | 0, _ => exact q0
  | 1, _ => exact q1
  | 2, _ => exact q2
  | 3, _ => exact q3
  | j + 4, hj => exact absurd hj (by show ¬ j + 4 < 4; omega)
theorem sp_159a {p L c0 c1 c2 c3 c4 : Nat} {h : hs_H} (hL : L = 4 ∨ L = 5) (hc : c0 < 256 ∧ c1 < 256 ∧ c2 < 256 ∧ c3 < 256 ∧ c4 < 256) (hn : n ≤ 320) (hb : ∀ q, tp q < 256) (hp : p ≤ n) (t : tx_mT n tp h) (m : tx_mK n tp p h) : hf_159 (nI L) (nI c0) (nI c1) (nI c2) (nI c3) (nI c4) h = some (bI (decide (tx_E n tp p - tx_F n tp p = L ∧ tp (tx_F n tp p) = c0 ∧ tp (tx_F n tp p + 1) = c1 ∧ tp (tx_F n tp p + 2) = c2 ∧ tp (tx_F n tp p + 3) = c3 ∧ (L = 5 → tp (tx_F n tp p + 4) = c4))), h) := by
  obtain ⟨⟨a1, a2⟩, a3, a4, ⟨a5, a6⟩, a7, a8⟩ := tx_spec (tp := tp) hn hp
  obtain ⟨m1, m2, m3, m4⟩ := m
  obtain ⟨d0, d1, d2, d3, d4⟩ := hc
  unfold hf_159 hb_159_93 hb_159_89 hb_159_94
  rw [m1, m2, pk_sub a5]
  by_cases e : tx_E n tp p - tx_F n tp p = L
  · have lk : ∀ j, j < L → tx_lk n tp (tx_F n tp p + j) = nI (tp (tx_F n tp p + j)) := fun j hj => by unfold tx_lk; rw [if_pos (by omega)]
    have ne : ∀ j c, c < 256 → (¬ nI (tp (tx_F n tp p + j)) = nI c ↔ ¬ tp (tx_F n tp p + j) = c) := fun j c hc => by
      have := hb (tx_F n tp p + j)
      exact not_congr ⟨fun q => nI_inj (by omega) (by omega) q, fun q => by rw [q]⟩
    have lk0 := lk 0 (by omega)
    have ne0 := ne 0 c0 d0
    rw [Nat.add_zero] at lk0 ne0
    rw [if_neg (fun q => q (by rw [e])), sp_158 hn (by omega) t, Option.bind_some, lk0]
    dsimp only
    by_cases e0 : tp (tx_F n tp p) = c0
    · rw [if_neg (fun q => ne0.mp q e0), m2, nI_add, sp_158 hn (by omega) t, Option.bind_some, lk 1 (by omega)]
      dsimp only
      by_cases e1 : tp (tx_F n tp p + 1) = c1
      · rw [if_neg (fun q => (ne 1 c1 d1).mp q e1), m2, nI_add, sp_158 hn (by omega) t, Option.bind_some, lk 2 (by omega)]
        dsimp only
        by_cases e2 : tp (tx_F n tp p + 2) = c2
        · rw [if_neg (fun q => (ne 2 c2 d2).mp q e2), m2, nI_add, sp_158 hn (by omega) t, Option.bind_some, lk 3 (by omega)]
          dsimp only
          by_cases e3 : tp (tx_F n tp p + 3) = c3
          · rw [if_neg (fun q => (ne 3 c3 d3).mp q e3)]
            rcases hL with hL | hL
            · rw [if_pos (nI_lt (by omega) (by omega)), decide_eq_true ⟨e, e0, e1, e2, e3, fun q => by omega⟩]
              rfl
            · rw [if_neg (nI_nlt (by omega) (by omega)), m2, nI_add, sp_158 hn (by omega) t, Option.bind_some, lk 4 (by omega)]
              dsimp only
              by_cases e4 : tp (tx_F n tp p + 4) = c4
              · rw [if_neg (fun q => (ne 4 c4 d4).mp q e4), decide_eq_true ⟨e, e0, e1, e2, e3, fun _ => e4⟩]
                rfl
              · rw [if_pos ((ne 4 c4 d4).mpr e4), decide_eq_false (fun q => e4 (q.2.2.2.2.2 hL))]
                rfl
          · rw [if_pos ((ne 3 c3 d3).mpr e3), decide_eq_false (fun q => e3 q.2.2.2.2.1)]
            rfl
        · rw [if_pos ((ne 2 c2 d2).mpr e2), decide_eq_false (fun q => e2 q.2.2.2.1)]
          rfl
      · rw [if_pos ((ne 1 c1 d1).mpr e1), decide_eq_false (fun q => e1 q.2.2.1)]
        rfl
    · rw [if_pos (ne0.mpr e0), decide_eq_false (fun q => e0 q.2.1)]
      rfl
  · rw [if_pos (fun q => e (nI_inj (by omega) (by omega) q)), decide_eq_false (fun q => e q.1)]
    rfl
theorem sp_159_5 {p k c0 c1 c2 c3 c4 : Nat} {h : hs_H} (hk : hs_txt k = [c0, c1, c2, c3, c4]) (hc : c0 < 256 ∧ c1 < 256 ∧ c2 < 256 ∧ c3 < 256 ∧ c4 < 256) (hn : n ≤ 320) (hb : ∀ q, tp q < 256) (hp : p ≤ n) (t : tx_mT n tp h) (m : tx_mK n tp p h) : hf_159 (nI 5) (nI c0) (nI c1) (nI c2) (nI c3) (nI c4) h = some (bI (tx_is n tp k p), h) := by
  rw [sp_159a (Or.inr rfl) hc hn hb hp t m, tx_is5 hk]
  have : ∀ {a b c d e f : Prop}, (a ∧ b ∧ c ∧ d ∧ e ∧ (5 = 5 → f)) ↔ (a ∧ b ∧ c ∧ d ∧ e ∧ f) := fun {a b c d e f} => ⟨fun q => ⟨q.1, q.2.1, q.2.2.1, q.2.2.2.1, q.2.2.2.2.1, q.2.2.2.2.2 rfl⟩, fun q => ⟨q.1, q.2.1, q.2.2.1, q.2.2.2.1, q.2.2.2.2.1, fun _ => q.2.2.2.2.2⟩⟩
  rw [decide_eq_decide.mpr this]
theorem sp_159_4 {p k c0 c1 c2 c3 : Nat} {h : hs_H} (hk : hs_txt k = [c0, c1, c2, c3]) (hc : c0 < 256 ∧ c1 < 256 ∧ c2 < 256 ∧ c3 < 256) (hn : n ≤ 320) (hb : ∀ q, tp q < 256) (hp : p ≤ n) (t : tx_mT n tp h) (m : tx_mK n tp p h) : hf_159 (nI 4) (nI c0) (nI c1) (nI c2) (nI c3) (nI 0) h = some (bI (tx_is n tp k p), h) := by
  rw [sp_159a (Or.inl rfl) ⟨hc.1, hc.2.1, hc.2.2.1, hc.2.2.2, by omega⟩ hn hb hp t m, tx_is4 hk]
  have : ∀ {a b c d e f : Prop}, (a ∧ b ∧ c ∧ d ∧ e ∧ (4 = 5 → f)) ↔ (a ∧ b ∧ c ∧ d ∧ e) := fun {a b c d e f} => ⟨fun q => ⟨q.1, q.2.1, q.2.2.1, q.2.2.2.1, q.2.2.2.2.1⟩, fun q => ⟨q.1, q.2.1, q.2.2.1, q.2.2.2.1, q.2.2.2.2, fun w => by omega⟩⟩
  rw [decide_eq_decide.mpr this]
theorem sp_160 {p : Nat} {h : hs_H} (hn : n ≤ 320) (hb : ∀ q, tp q < 256) (hp : p ≤ n) (t : tx_mT n tp h) (m : tx_mK n tp p h) : hf_160 h = some (if tx_nm n tp p = 7 then nI 4294967292 else nI (tx_nm n tp p), h) := by
  have e0 := sp_159_5 (k := 0) rfl (by decide) hn hb hp t m
  have e1 := sp_159_4 (k := 1) rfl (by decide) hn hb hp t m
  have e2 := sp_159_5 (k := 2) rfl (by decide) hn hb hp t m
  have e3 := sp_159_4 (k := 3) rfl (by decide) hn hb hp t m
  have e4 := sp_159_5 (k := 4) rfl (by decide) hn hb hp t m
  have e5 := sp_159_4 (k := 5) rfl (by decide) hn hb hp t m
  have e6 := sp_159_5 (k := 6) rfl (by decide) hn hb hp t m
  unfold hf_160 hb_160_144 tx_nm
  rw [e0, Option.bind_some]
  dsimp only
  cases tx_is n tp 0 p with
  | true =>
    rw [if_neg (by decide), if_pos rfl]
    rfl
  | false =>
    rw [if_pos (by decide), e1, Option.bind_some, if_neg Bool.false_ne_true]
    dsimp only
    cases tx_is n tp 1 p with
    | true =>
      rw [if_neg (by decide), if_pos rfl]
      rfl
    | false =>
      rw [if_pos (by decide), e2, Option.bind_some, if_neg Bool.false_ne_true]
      dsimp only
      cases tx_is n tp 2 p with
      | true =>
        rw [if_neg (by decide), if_pos rfl]
        rfl
      | false =>
        rw [if_pos (by decide), e3, Option.bind_some, if_neg Bool.false_ne_true]
        dsimp only
        cases tx_is n tp 3 p with
        | true =>
          rw [if_neg (by decide), if_pos rfl]
          rfl
        | false =>
          rw [if_pos (by decide), e4, Option.bind_some, if_neg Bool.false_ne_true]
          dsimp only
          cases tx_is n tp 4 p with
          | true =>
            rw [if_neg (by decide), if_pos rfl]
            rfl
          | false =>
            rw [if_pos (by decide), e5, Option.bind_some, if_neg Bool.false_ne_true]
            dsimp only
            cases tx_is n tp 5 p with
            | true =>
              rw [if_neg (by decide), if_pos rfl]
              rfl
            | false =>
              rw [if_pos (by decide), e6, Option.bind_some, if_neg Bool.false_ne_true]
              dsimp only
              cases tx_is n tp 6 p with
              | true =>
                rw [if_neg (by decide), if_pos rfl]
                rfl
              | false =>
                rw [if_pos (by decide), if_neg Bool.false_ne_true]
                rfl
end TN
/-- a fault (what, where), or something -/
abbrev tx_R (α : Type) : Type := (Nat × Nat) ⊕ α
def tx_sb {α β : Type} (x : tx_R α) (f : α → tx_R β) : tx_R β := match x with
  | .inl e => .inl e
  | .inr a => f a
/-- what is told: 0 nodes 1 rest 2 water 3 holes 4 how many smelt 5 lines told 6 nodes named 7 start 10.. lanes 30.. smelt -/
def tx_up (σ : Nat → Nat) (i v : Nat) : Nat → Nat := fun k => if k = i then v else σ k
def tx_nd (σ : Nat → Nat) (v : Nat) : Nat → Nat := tx_up σ 6 (σ 6 ||| 2 ^ v)
def tx_ti (σ : Nat → Nat) (a b : Nat) : Nat → Nat := fun k => if k = 10 + a then σ k ||| 2 ^ b else if k = 10 + b then σ k ||| 2 ^ a else σ k
def tx_sm (σ : Nat → Nat) (t v g : Nat) : Nat → Nat := tx_up (tx_up (tx_up (tx_up σ (30 + 3 * σ 4) t) (31 + 3 * σ 4) v) (32 + 3 * σ 4) g) 4 (σ 4 + 1)
section TA
variable (n : Nat) (tp : Nat → Nat)
def ab_num (lo hi p : Nat) : tx_R Nat := if tx_B n tp p = true then .inl (1, tx_F n tp p) else if tx_K n tp p = 2 then (if lo ≤ tx_V n tp p ∧ tx_V n tp p ≤ hi then .inr (tx_V n tp p) else .inl (3, tx_F n tp p)) else .inl (2, tx_F n tp p)
def ab_sign (p : Nat) (σ : Nat → Nat) : tx_R (Nat × (Nat → Nat)) := if tx_B n tp p = true then .inl (1, tx_F n tp p) else if tx_K n tp p = 3 then .inr (tx_E n tp p, σ) else .inl (2, tx_F n tp p)
/-- a lane from a on, the next node at p -/
def ab_lane : Nat → Nat → Nat → (Nat → Nat) → tx_R (Nat × (Nat → Nat))
  | 0, _, _, _ => .inl (0, 0)
  | f + 1, a, p, σ => tx_sb (ab_num n tp 0 9 p) (fun v => if v = a ∨ (σ (10 + a)).testBit v = true then .inl (4, tx_F n tp p) else if tx_B n tp (tx_E n tp p) = false ∧ tx_K n tp (tx_E n tp p) = 2 then ab_lane f v (tx_E n tp p) (tx_ti (tx_nd σ v) a v) else .inr (tx_E n tp p, tx_ti (tx_nd σ v) a v))
/-- a line behind its name, but for its sign -/
def ab_body (k q : Nat) (σ : Nat → Nat) : tx_R (Nat × (Nat → Nat)) :=
  if k = 0 then tx_sb (ab_num n tp 2 10 q) (fun v => .inr (tx_E n tp q, tx_up σ 0 v))
  else if k = 1 then .inr (q, tx_up σ 1 1)
  else if k = 2 then tx_sb (ab_num n tp 0 9 q) (fun v => .inr (tx_E n tp q, tx_up (tx_nd σ v) 7 v))
  else if k = 3 then tx_sb (ab_num n tp 0 9 q) (fun a => ab_lane n tp 400 a (tx_E n tp q) (tx_nd σ a))
  else if k = 4 then tx_sb (ab_num n tp 0 9 q) (fun v => if (σ 2).testBit v = true then .inl (4, tx_F n tp q) else .inr (tx_E n tp q, tx_up (tx_nd σ v) 2 (σ 2 ||| 2 ^ v)))
  else if k = 5 then tx_sb (ab_num n tp 0 9 q) (fun v => if (σ 3).testBit v = true then .inl (4, tx_F n tp q) else .inr (tx_E n tp q, tx_up (tx_nd σ v) 3 (σ 3 ||| 2 ^ v)))
  else tx_sb (ab_num n tp 0 5 q) (fun t => tx_sb (ab_num n tp 0 9 (tx_E n tp q)) (fun v => tx_sb (ab_num n tp 0 18 (tx_E n tp (tx_E n tp q))) (fun g => .inr (tx_E n tp (tx_E n tp (tx_E n tp q)), tx_sm (tx_nd σ v) t v g))))
def ab_told (σ : Nat → Nat) (k : Nat) : Nat → Nat := if k ≤ 2 then tx_up σ 5 (σ 5 ||| 2 ^ k) else σ
def ab_line (p : Nat) (σ : Nat → Nat) : tx_R (Nat × (Nat → Nat)) := if tx_K n tp p = 1 then (if tx_nm n tp p = 7 then .inl (2, tx_F n tp p) else if tx_nm n tp p = 6 ∧ 10 ≤ σ 4 then .inl (5, tx_F n tp p) else if tx_nm n tp p ≤ 2 ∧ (σ 5).testBit (tx_nm n tp p) = true then .inl (4, tx_F n tp p) else tx_sb (ab_body n tp (tx_nm n tp p) (tx_E n tp p) (ab_told σ (tx_nm n tp p))) (fun x => ab_sign n tp x.1 x.2)) else .inl (2, tx_F n tp p)
/-- all lines from p on, l of them told -/
def ab_all : Nat → Nat → Nat → (Nat → Nat) → tx_R (Nat × (Nat → Nat))
  | 0, _, _, _ => .inl (0, 0)
  | f + 1, p, l, σ => if tx_B n tp p = true then .inl (1, tx_F n tp p) else if tx_K n tp p = 0 then (if σ 6 < 2 ^ σ 0 then .inr (l, σ) else .inl (6, n)) else tx_sb (ab_line n tp p σ) (fun x => ab_all f x.1 (l + 1) x.2)
end TA
/-- what is so of all that is told -/
def tx_ok (σ : Nat → Nat) : Prop := (2 ≤ σ 0 ∧ σ 0 ≤ 10) ∧ σ 1 ≤ 1 ∧ (σ 2 < 1024 ∧ ∀ i, (σ 2).testBit i = true → (σ 6).testBit i = true) ∧ (σ 3 < 1024 ∧ ∀ i, (σ 3).testBit i = true → (σ 6).testBit i = true) ∧ (σ 5 < 8 ∧ σ 6 < 1024) ∧ (σ 7 = 4294967292 ∨ (σ 7 < 10 ∧ (σ 6).testBit (σ 7) = true)) ∧ (∀ k, k < 10 → σ (10 + k) < 1024 ∧ ∀ i, i < 10 → (σ (10 + k)).testBit i = (σ (10 + i)).testBit k ∧ ((σ (10 + k)).testBit i = true → i ≠ k ∧ (σ 6).testBit i = true)) ∧ σ 4 ≤ 10 ∧ ∀ j, j < σ 4 → σ (30 + 3 * j) ≤ 5 ∧ (σ (31 + 3 * j) < 10 ∧ (σ 6).testBit (σ (31 + 3 * j)) = true) ∧ σ (32 + 3 * j) ≤ 18
