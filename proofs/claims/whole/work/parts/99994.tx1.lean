/-! The text: tokens, as the class takes them. -/
/-- what a byte begins -/
def tx_kd (c : Nat) : Nat := if 97 ≤ c ∧ c ≤ 122 then 1 else if 48 ≤ c ∧ c ≤ 57 then 2 else if c = 59 then 3 else if c = 32 then 4 else 5
theorem tx_kd_b (c : Nat) : 1 ≤ tx_kd c ∧ tx_kd c ≤ 5 := by
  unfold tx_kd
  by_cases h1 : 97 ≤ c ∧ c ≤ 122
  · rw [if_pos h1]; omega
  · rw [if_neg h1]
    by_cases h2 : 48 ≤ c ∧ c ≤ 57
    · rw [if_pos h2]; omega
    · rw [if_neg h2]
      by_cases h3 : c = 59
      · rw [if_pos h3]; omega
      · rw [if_neg h3]
        by_cases h4 : c = 32
        · rw [if_pos h4]; omega
        · rw [if_neg h4]; omega
section TX
variable (n : Nat) (tp : Nat → Nat)
/-- of a place -/
def tx_at (p : Nat) : Nat := if p < n then tx_kd (tp p) else 0
/-- on from p, while the bytes are of kind k -/
def tx_on (k : Nat) : Nat → Nat → Nat
  | 0, p => p
  | f + 1, p => if tx_at n tp p = k then tx_on k f (p + 1) else p
/-- the token that comes at p: from, kind, end -/
def tx_F (p : Nat) : Nat := tx_on n tp 4 400 p
def tx_K (p : Nat) : Nat := tx_at n tp (tx_F n tp p)
def tx_E (p : Nat) : Nat := if tx_K n tp p = 0 then tx_F n tp p else if tx_K n tp p = 1 ∨ tx_K n tp p = 2 then tx_on n tp (tx_K n tp p) 400 (tx_F n tp p + 1) else tx_F n tp p + 1
/-- whether there is none -/
def tx_B (p : Nat) : Bool := decide (tx_K n tp p = 5 ∨ (tx_K n tp p = 2 ∧ 2 < tx_E n tp p - tx_F n tp p))
/-- the number of the first k figures from f on -/
def tx_num (f : Nat) : Nat → Nat
  | 0 => 0
  | k + 1 => 10 * tx_num f k + (tp (f + k) - 48)
def tx_V (p : Nat) : Nat := if tx_K n tp p = 2 then tx_num tp (tx_F n tp p) (tx_E n tp p - tx_F n tp p) else 0
end TX
section TY
variable {n : Nat} {tp : Nat → Nat}
theorem tx_on_spec {k : Nat} (hk : k ≠ 0) : ∀ f p, p ≤ n → n - p ≤ f → p ≤ tx_on n tp k f p ∧ tx_on n tp k f p ≤ n ∧ (∀ q, p ≤ q → q < tx_on n tp k f p → tx_at n tp q = k) ∧ tx_at n tp (tx_on n tp k f p) ≠ k := by
  intro f
  induction f with
  | zero =>
    intro p h1 h2
    refine ⟨Nat.le_refl _, h1, fun q h3 h4 => absurd h4 (by show ¬ q < p; omega), ?_⟩
    show tx_at n tp p ≠ k
    unfold tx_at
    rw [if_neg (by omega)]
    exact fun q => hk q.symm
  | succ f ih =>
    intro p h1 h2
    show p ≤ (if tx_at n tp p = k then tx_on n tp k f (p + 1) else p) ∧ (if tx_at n tp p = k then tx_on n tp k f (p + 1) else p) ≤ n ∧ (∀ q, p ≤ q → q < (if tx_at n tp p = k then tx_on n tp k f (p + 1) else p) → tx_at n tp q = k) ∧ tx_at n tp (if tx_at n tp p = k then tx_on n tp k f (p + 1) else p) ≠ k
    by_cases c : tx_at n tp p = k
    · have hp : p < n := by
        apply Classical.byContradiction
        intro q
        unfold tx_at at c
        rw [if_neg q] at c
        exact hk c.symm
      rw [if_pos c]
      obtain ⟨i1, i2, i3, i4⟩ := ih (p + 1) (by omega) (by omega)
      refine ⟨by omega, i2, fun q h3 h4 => ?_, i4⟩
      by_cases e : q = p
      · rw [e]; exact c
      · exact i3 q (by omega) h4
    · rw [if_neg c]
      exact ⟨Nat.le_refl _, h1, fun q h3 h4 => by omega, c⟩
theorem tx_at_0 {p : Nat} : tx_at n tp p = 0 ↔ n ≤ p := by
  unfold tx_at
  by_cases h : p < n
  · rw [if_pos h]
    have := (tx_kd_b (tp p)).1
    omega
  · rw [if_neg h]
    omega
theorem tx_at_b {p : Nat} : tx_at n tp p ≤ 5 := by
  unfold tx_at
  by_cases h : p < n
  · rw [if_pos h]; exact (tx_kd_b _).2
  · rw [if_neg h]; omega
/-- where a token lies -/
theorem tx_spec (hn : n ≤ 320) {p : Nat} (hp : p ≤ n) : (p ≤ tx_F n tp p ∧ tx_F n tp p ≤ n) ∧ (∀ q, p ≤ q → q < tx_F n tp p → tx_at n tp q = 4) ∧ tx_K n tp p ≠ 4 ∧ (tx_F n tp p ≤ tx_E n tp p ∧ tx_E n tp p ≤ n) ∧ (tx_K n tp p ≠ 0 → tx_F n tp p < tx_E n tp p ∧ p < n) ∧ (tx_K n tp p = 0 → tx_F n tp p = n) := by
  obtain ⟨a1, a2, a3, a4⟩ := tx_on_spec (tp := tp) (k := 4) (by omega) 400 p hp (by omega)
  have hE : (tx_F n tp p ≤ tx_E n tp p ∧ tx_E n tp p ≤ n) ∧ (tx_K n tp p ≠ 0 → tx_F n tp p < tx_E n tp p ∧ p < n) := by
    have hF : tx_K n tp p ≠ 0 → tx_F n tp p < n := fun q => by
      apply Classical.byContradiction
      intro w
      exact q (tx_at_0.mpr (by omega))
    unfold tx_E
    by_cases c0 : tx_K n tp p = 0
    · rw [if_pos c0]
      exact ⟨⟨Nat.le_refl _, a2⟩, fun q => absurd c0 q⟩
    · have hF0 := hF c0
      rw [if_neg c0]
      have a1' : p ≤ tx_F n tp p := a1
      by_cases c1 : tx_K n tp p = 1 ∨ tx_K n tp p = 2
      · rw [if_pos c1]
        obtain ⟨b1, b2, -, -⟩ := tx_on_spec (n := n) (tp := tp) (k := tx_K n tp p) c0 400 (tx_F n tp p + 1) (by omega) (by omega)
        exact ⟨⟨by omega, b2⟩, fun _ => ⟨by omega, by omega⟩⟩
      · rw [if_neg c1]
        exact ⟨⟨by omega, by omega⟩, fun _ => ⟨by omega, by omega⟩⟩
  refine ⟨⟨a1, a2⟩, a3, a4, hE.1, hE.2, fun q => ?_⟩
  have := tx_at_0.mp q
  have a2' : tx_F n tp p ≤ n := a2
  omega
theorem tx_num_b {f : Nat} (hb : ∀ q, tp q < 256) : ∀ k, k ≤ 2 → tx_num tp f k < 3000 := by
  intro k hk
  match k, hk with
  | 0, _ => show 0 < 3000; omega
  | 1, _ =>
    have := hb (f + 0)
    show 10 * 0 + (tp (f + 0) - 48) < 3000
    omega
  | 2, _ =>
    have h1 := hb (f + 0)
    have h2 := hb (f + 1)
    show 10 * (10 * 0 + (tp (f + 0) - 48)) + (tp (f + 1) - 48) < 3000
    omega
theorem tx_kd_2 {c : Nat} (h : tx_kd c = 2) : 48 ≤ c ∧ c ≤ 57 := by
  unfold tx_kd at h
  by_cases h1 : 97 ≤ c ∧ c ≤ 122
  · rw [if_pos h1] at h; omega
  · rw [if_neg h1] at h
    by_cases h2 : 48 ≤ c ∧ c ≤ 57
    · exact h2
    · rw [if_neg h2] at h
      by_cases h3 : c = 59
      · rw [if_pos h3] at h; omega
      · rw [if_neg h3] at h
        by_cases h4 : c = 32
        · rw [if_pos h4] at h; omega
        · rw [if_neg h4] at h; omega
theorem tx_at_2 {p : Nat} (h : tx_at n tp p = 2) : p < n ∧ 48 ≤ tp p ∧ tp p ≤ 57 := by
  unfold tx_at at h
  by_cases c : p < n
  · rw [if_pos c] at h
    exact ⟨c, tx_kd_2 h⟩
  · rw [if_neg c] at h; omega
end TY
/-- the class's tape -/
def tx_cT (n : Nat) (tp : Nat → Nat) (h : hs_H) : Prop := h.1 6 0 3 = nI n ∧ ∀ k, k < n → h.1 31 0 k = nI (tp k)
/-- the class's reader: rows that a token changes -/
def tx_cF (h0 h : hs_H) : Prop := hs_fr [(6, some 0)] h0 h ∧ ∀ x, x ≠ 4 → x ≠ 5 → x ≠ 6 → x ≠ 7 → x ≠ 10 → x ≠ 11 → h.1 6 0 x = h0.1 6 0 x
section TZ
variable {n : Nat} {tp : Nat → Nat}
theorem tx_cF.rf {h : hs_H} : tx_cF h h := ⟨hs_fr.rf, fun _ _ _ _ _ _ _ => rfl⟩
theorem tx_cF.tr {h0 h1 h2 : hs_H} (f : tx_cF h0 h1) (g : tx_cF h1 h2) : tx_cF h0 h2 := ⟨f.1.tr g.1, fun x a b c d e i => (g.2 x a b c d e i).trans (f.2 x a b c d e i)⟩
theorem tx_cF.put {h0 h : hs_H} {x : Nat} {v : Int32} (f : tx_cF h0 h) (hx : x = 4 ∨ x = 5 ∨ x = 6 ∨ x = 7 ∨ x = 10 ∨ x = 11) : tx_cF h0 (hs_put h 6 0 x v) := ⟨f.1.put (.inl (.head _)), fun y a b c d e i => by rw [nx_get, if_neg (by omega)]; exact f.2 y a b c d e i⟩
theorem tx_cT_fr {h0 h : hs_H} (f : tx_cF h0 h) (t : tx_cT n tp h0) : tx_cT n tp h := by
  unfold tx_cT at t ⊢
  rw [f.2 3 (by omega) (by omega) (by omega) (by omega) (by omega) (by omega), (f.1 31 0 (by intro q hq; revert q; simp)).1]
  exact t
theorem sp_71 {p : Nat} {h : hs_H} (hn : n ≤ 320) (hb : ∀ q, tp q < 256) (hp : p ≤ 320) (t : tx_cT n tp h) : hf_71 (nI p) h = some (nI (tx_at n tp p), h) := by
  obtain ⟨t1, t2⟩ := t
  unfold hf_71 hb_71_19 tx_at
  rw [if_neg (nI_pos (by omega)), t1]
  by_cases c : p < n
  · have hbp := hb p
    rw [if_neg (nI_ge c (by omega)), if_pos (nI_lt (by omega) (by omega)), nx_inb (show p < 320 by omega) (by omega), nx_ck, nx_ck, nI_clamp (show p < 2147483648 by omega), t2 p c, if_pos c]
    have e69 : hb_71_69 (nI p) h = some (nI (if tp p = 59 then 3 else if tp p = 32 then 4 else 5), h) := by
      unfold hb_71_69 hb_71_98
      rw [nx_inb (show p < 320 by omega) (by omega), nx_ck, nx_ck, nI_clamp (show p < 2147483648 by omega), t2 p c]
      by_cases c1 : tp p = 59
      · rw [if_neg (fun q => q (by rw [c1])), if_pos c1]
      · rw [if_pos (fun q => c1 (nI_inj (by omega) (by omega) q)), if_neg c1]
        by_cases c2 : tp p = 32
        · rw [if_neg (fun q => q (by rw [c2])), if_pos c2]
        · rw [if_pos (fun q => c2 (nI_inj (by omega) (by omega) q)), if_neg c2]
    have e45 : hb_71_45 (nI p) h = some (nI (if 48 ≤ tp p ∧ tp p ≤ 57 then 2 else if tp p = 59 then 3 else if tp p = 32 then 4 else 5), h) := by
      unfold hb_71_45
      rw [nx_inb (show p < 320 by omega) (by omega), nx_ck, nx_ck, nI_clamp (show p < 2147483648 by omega), t2 p c, e69]
      by_cases c1 : tp p < 48
      · rw [if_pos (nI_lt c1 (by omega)), if_neg (show ¬ (48 ≤ tp p ∧ tp p ≤ 57) by omega)]
      · rw [if_neg (nI_nlt (by omega) (by omega))]
        by_cases c2 : 57 < tp p
        · rw [if_pos (nI_lt c2 (by omega)), if_neg (show ¬ (48 ≤ tp p ∧ tp p ≤ 57) by omega)]
        · rw [if_neg (nI_nlt (by omega) (by omega)), if_pos (show 48 ≤ tp p ∧ tp p ≤ 57 by omega)]
    unfold tx_kd
    rw [e45]
    by_cases c1 : tp p < 97
    · rw [if_pos (nI_lt c1 (by omega)), if_neg (show ¬ (97 ≤ tp p ∧ tp p ≤ 122) by omega)]
    · rw [if_neg (nI_nlt (by omega) (by omega))]
      by_cases c2 : 122 < tp p
      · rw [if_pos (nI_lt c2 (by omega)), if_neg (show ¬ (97 ≤ tp p ∧ tp p ≤ 122) by omega)]
      · rw [if_neg (nI_nlt (by omega) (by omega)), if_pos (show 97 ≤ tp p ∧ tp p ≤ 122 by omega)]
  · rw [if_pos (nI_le (by omega) (by omega)), if_neg c]
theorem sp_70 {p : Nat} {h : hs_H} (hn : n ≤ 320) (hb : ∀ q, tp q < 256) (hp : p ≤ n) (t : tx_cT n tp h) (hK : tx_K n tp p = 2) (h4 : h.1 6 0 4 = nI (tx_E n tp p)) (h6 : h.1 6 0 6 = nI (tx_F n tp p)) (hl : tx_E n tp p - tx_F n tp p ≤ 2) : hf_70 h = some (nI (tx_V n tp p), h) := by
  obtain ⟨⟨a1, a2⟩, a3, a4, ⟨a5, a6⟩, a7, a8⟩ := tx_spec (tp := tp) hn hp
  have hE : tx_E n tp p = tx_on n tp 2 400 (tx_F n tp p + 1) := by unfold tx_E; rw [hK, if_neg (by omega), if_pos (Or.inr rfl)]
  obtain ⟨b1, b2, b3, b4⟩ := tx_on_spec (n := n) (tp := tp) (k := 2) (by omega) 400 (tx_F n tp p + 1) (by have := a7 (by omega); omega) (by omega)
  have dig : ∀ q, tx_F n tp p ≤ q → q < tx_E n tp p → 48 ≤ tp q := fun q h1 h2 => by
    by_cases e : q = tx_F n tp p
    · rw [e]; exact (tx_at_2 hK).2.1
    · exact (tx_at_2 (b3 q (by omega) (by rw [← hE]; exact h2))).2.1
  unfold hf_70 tx_V
  rw [h6, hK, if_pos rfl]
  generalize hF : tx_F n tp p = F at *
  generalize hEE : tx_E n tp p = E at *
  have hl2 := lp_for (f := fun k s => hb_70_7 k s.1 s.2.1 s.2.2) (st := fun j => (nI (tx_num tp F j), nI (F + j), h)) (e := E - F) (X := some (nI (tx_num tp F (E - F)), h)) (fun j hj k => ?_) (fun k => ?_) 0 hs_big (by omega) (lp_big (by omega))
  · exact hl2
  · show hb_70_7 k (nI (tx_num tp F j)) (nI (F + j)) h = k (nI (10 * tx_num tp F j + (tp (F + j) - 48)), nI (F + (j + 1)), h)
    have hd := dig (F + j) (by omega) (by omega)
    have hbj := hb (F + j)
    have hnb := tx_num_b (f := F) hb j (by omega)
    unfold hb_70_7
    rw [h4, if_neg (nI_ge (by omega) (by omega)), if_neg (nI_ge (by omega) (by omega)), nx_inb (show F + j < 320 by omega) (by omega), nx_ck, nI_clamp (show F + j < 2147483648 by omega), t.2 (F + j) (by omega), pk_mul, nI_add, nI_add, pk_sub (by omega), show 10 * tx_num tp F j + tp (F + j) - 48 = 10 * tx_num tp F j + (tp (F + j) - 48) by omega, Nat.add_assoc]
  · show hb_70_7 k (nI (tx_num tp F (E - F))) (nI (F + (E - F))) h = _
    unfold hb_70_7 hb_70_43
    rw [h4, if_pos (nI_le (by omega) (by omega))]
/-- a token is taken -/
def tx_cK (n : Nat) (tp : Nat → Nat) (p : Nat) (h : hs_H) : Prop := h.1 6 0 4 = nI (tx_E n tp p) ∧ h.1 6 0 5 = nI (tx_K n tp p) ∧ h.1 6 0 6 = nI (tx_F n tp p) ∧ h.1 6 0 7 = nI (tx_V n tp p)
theorem sp_69 {p : Nat} {h : hs_H} (hn : n ≤ 320) (hb : ∀ q, tp q < 256) (hp : p ≤ n) (t : tx_cT n tp h) (h4 : h.1 6 0 4 = nI p) : ∃ H, hf_69 h = some (bI (!tx_B n tp p), H) ∧ tx_cF h H ∧ (tx_B n tp p = true → H.1 6 0 10 = nI 1 ∧ H.1 6 0 11 = nI (tx_F n tp p)) ∧ (tx_B n tp p = false → (H.1 6 0 10 = h.1 6 0 10 ∧ H.1 6 0 11 = h.1 6 0 11) ∧ tx_cK n tp p H) := by
  obtain ⟨⟨a1, a2⟩, a3, a4, ⟨a5, a6⟩, a7, a8⟩ := tx_spec (tp := tp) hn hp
  have hKb : tx_K n tp p ≤ 5 := tx_at_b
  -- behind the run of bytes
  have e132 : ∀ G, tx_cF h G → (G.1 6 0 10 = h.1 6 0 10 ∧ G.1 6 0 11 = h.1 6 0 11) → G.1 6 0 4 = nI (tx_E n tp p) → G.1 6 0 5 = nI (tx_K n tp p) → G.1 6 0 6 = nI (tx_F n tp p) → ∃ H, hb_69_132 G = some (bI (!tx_B n tp p), H) ∧ tx_cF h H ∧ (tx_B n tp p = true → H.1 6 0 10 = nI 1 ∧ H.1 6 0 11 = nI (tx_F n tp p)) ∧ (tx_B n tp p = false → (H.1 6 0 10 = h.1 6 0 10 ∧ H.1 6 0 11 = h.1 6 0 11) ∧ tx_cK n tp p H) := fun G f g10 g4 g5 g6 => by
    have e161 : hb_69_161 G = some (nI 0, hs_put (hs_put G 6 0 10 (nI 1)) 6 0 11 (nI (tx_F n tp p))) := by
      unfold hb_69_161 hf_54
      rw [Option.bind_some, g6]
      rfl
    have bad : tx_B n tp p = true → hb_69_132 G = hb_69_161 G → ∃ H, hb_69_132 G = some (bI (!tx_B n tp p), H) ∧ tx_cF h H ∧ (tx_B n tp p = true → H.1 6 0 10 = nI 1 ∧ H.1 6 0 11 = nI (tx_F n tp p)) ∧ (tx_B n tp p = false → (H.1 6 0 10 = h.1 6 0 10 ∧ H.1 6 0 11 = h.1 6 0 11) ∧ tx_cK n tp p H) := fun hB e => by
      rw [e, e161, hB]
      refine ⟨_, rfl, (f.put (by omega)).put (by omega), fun _ => ⟨?_, ?_⟩, fun q => by cases q⟩
      · rw [nx_get, if_neg (by omega), nx_get, if_pos ⟨rfl, rfl, rfl⟩]
      · rw [nx_get, if_pos ⟨rfl, rfl, rfl⟩]
    have e171 : tx_B n tp p = false → hb_69_171 G = some (nI 1, hs_put G 6 0 7 (nI (tx_V n tp p))) := fun hB => by
      unfold hb_69_171 hb_69_188
      rw [g5]
      by_cases c : tx_K n tp p = 2
      · have hl : tx_E n tp p - tx_F n tp p ≤ 2 := by
          unfold tx_B at hB
          rw [decide_eq_false_iff_not] at hB
          apply Classical.byContradiction
          intro w
          exact hB (Or.inr ⟨c, by omega⟩)
        rw [if_neg (fun q => q (by rw [c])), sp_70 hn hb hp (tx_cT_fr f t) c g4 g6 hl, Option.bind_some]
      · rw [if_pos (fun q => c (nI_inj (by omega) (by omega) q))]
        unfold tx_V
        rw [if_neg c]
    have good : tx_B n tp p = false → hb_69_132 G = hb_69_171 G → ∃ H, hb_69_132 G = some (bI (!tx_B n tp p), H) ∧ tx_cF h H ∧ (tx_B n tp p = true → H.1 6 0 10 = nI 1 ∧ H.1 6 0 11 = nI (tx_F n tp p)) ∧ (tx_B n tp p = false → (H.1 6 0 10 = h.1 6 0 10 ∧ H.1 6 0 11 = h.1 6 0 11) ∧ tx_cK n tp p H) := fun hB e => by
      rw [e, e171 hB, hB]
      refine ⟨_, rfl, f.put (by omega), fun q => (by cases q), fun _ => ⟨⟨?_, ?_⟩, ?_, ?_, ?_, ?_⟩⟩
      · rw [nx_get, if_neg (by omega)]; exact g10.1
      · rw [nx_get, if_neg (by omega)]; exact g10.2
      · rw [nx_get, if_neg (by omega)]; exact g4
      · rw [nx_get, if_neg (by omega)]; exact g5
      · rw [nx_get, if_neg (by omega)]; exact g6
      · rw [nx_get, if_pos ⟨rfl, rfl, rfl⟩]
    by_cases c5 : tx_K n tp p = 5
    · refine bad (by unfold tx_B; exact decide_eq_true (Or.inl c5)) ?_
      unfold hb_69_132
      rw [g5, if_pos (by rw [c5])]
    · by_cases c2 : tx_K n tp p = 2
      · by_cases cl : tx_E n tp p - tx_F n tp p ≤ 2
        · refine good (by unfold tx_B; exact decide_eq_false (by omega)) ?_
          unfold hb_69_132
          rw [g5, if_neg (fun q => c5 (nI_inj (by omega) (by omega) q)), if_neg (fun q => q (by rw [c2])), g4, g6, pk_sub a5, if_pos (nI_le cl (by omega))]
        · refine bad (by unfold tx_B; exact decide_eq_true (Or.inr ⟨c2, by omega⟩)) ?_
          unfold hb_69_132
          rw [g5, if_neg (fun q => c5 (nI_inj (by omega) (by omega) q)), if_neg (fun q => q (by rw [c2])), g4, g6, pk_sub a5, if_neg (nI_ge (by omega) (by omega))]
      · refine good (by unfold tx_B; exact decide_eq_false (by omega)) ?_
        unfold hb_69_132
        rw [g5, if_neg (fun q => c5 (nI_inj (by omega) (by omega) q)), if_pos (fun q => c2 (nI_inj (by omega) (by omega) q))]
  -- the run of bytes
  have e77 : ∀ G, tx_cF h G → (G.1 6 0 10 = h.1 6 0 10 ∧ G.1 6 0 11 = h.1 6 0 11) → G.1 6 0 4 = nI (if tx_K n tp p = 0 then tx_F n tp p else tx_F n tp p + 1) → G.1 6 0 5 = nI (tx_K n tp p) → G.1 6 0 6 = nI (tx_F n tp p) → ∃ H, hs_lp (fun k s => hb_69_77 k s) hs_big G = some (bI (!tx_B n tp p), H) ∧ tx_cF h H ∧ (tx_B n tp p = true → H.1 6 0 10 = nI 1 ∧ H.1 6 0 11 = nI (tx_F n tp p)) ∧ (tx_B n tp p = false → (H.1 6 0 10 = h.1 6 0 10 ∧ H.1 6 0 11 = h.1 6 0 11) ∧ tx_cK n tp p H) := fun G f g10 g4 g5 g6 => by
    by_cases c12 : tx_K n tp p = 1 ∨ tx_K n tp p = 2
    · have c0 : tx_K n tp p ≠ 0 := by omega
      have h7 := a7 c0
      have hE : tx_E n tp p = tx_on n tp (tx_K n tp p) 400 (tx_F n tp p + 1) := by unfold tx_E; rw [if_neg c0, if_pos c12]
      obtain ⟨b1, b2, b3, b4⟩ := tx_on_spec (n := n) (tp := tp) (k := tx_K n tp p) c0 400 (tx_F n tp p + 1) (by omega) (by omega)
      rw [← hE] at b1 b2 b3 b4
      rw [if_neg c0] at g4
      refine lp_q2 (f := fun k s => hb_69_77 k s) (I := fun d G => ∃ q, tx_F n tp p + 1 ≤ q ∧ q ≤ tx_E n tp p ∧ d = tx_E n tp p - q ∧ tx_cF h G ∧ (G.1 6 0 10 = h.1 6 0 10 ∧ G.1 6 0 11 = h.1 6 0 11) ∧ G.1 6 0 4 = nI q ∧ G.1 6 0 5 = nI (tx_K n tp p) ∧ G.1 6 0 6 = nI (tx_F n tp p)) (Q := fun o => ∃ H, o = some (bI (!tx_B n tp p), H) ∧ tx_cF h H ∧ (tx_B n tp p = true → H.1 6 0 10 = nI 1 ∧ H.1 6 0 11 = nI (tx_F n tp p)) ∧ (tx_B n tp p = false → (H.1 6 0 10 = h.1 6 0 10 ∧ H.1 6 0 11 = h.1 6 0 11) ∧ tx_cK n tp p H)) (fun d G hI k => ?_) (tx_E n tp p - (tx_F n tp p + 1)) G hs_big ⟨tx_F n tp p + 1, Nat.le_refl _, b1, rfl, f, g10, g4, g5, g6⟩ (lp_big (by omega))
      obtain ⟨q, q1, q2, rfl, f, g10, g4, g5, g6⟩ := hI
      have e3 : G.1 6 0 3 = nI n := (tx_cT_fr f t).1
      have e71 := sp_71 (p := q) hn hb (by omega) (tx_cT_fr f t)
      have e104 : q < n → hb_69_77 k G = if ¬ nI (tx_at n tp q) = nI (tx_K n tp p) then hb_69_132 G else k (hs_put G 6 0 4 (nI (q + 1))) := fun hq => by
        have : hb_69_104 k G = if ¬ nI (tx_at n tp q) = nI (tx_K n tp p) then hb_69_132 G else k (hs_put G 6 0 4 (nI (q + 1))) := by
          unfold hb_69_104
          rw [g4, e71, Option.bind_some]
          dsimp only
          rw [g5, g4, nI_add]
        unfold hb_69_77
        rw [e3, g4, if_neg (nI_ge hq (by omega)), g5]
        rcases c12 with c | c
        · rw [if_pos (by rw [c]), this]
        · rw [if_neg (by rw [c]; decide), if_neg (fun w => w (by rw [c])), this]
      by_cases hqE : q < tx_E n tp p
      · refine Or.inr ⟨tx_E n tp p - (q + 1), hs_put G 6 0 4 (nI (q + 1)), by omega, ⟨q + 1, by omega, by omega, rfl, f.put (by omega), ⟨?_, ?_⟩, ?_, ?_, ?_⟩, ?_⟩
        · rw [nx_get, if_neg (by omega)]; exact g10.1
        · rw [nx_get, if_neg (by omega)]; exact g10.2
        · rw [nx_get, if_pos ⟨rfl, rfl, rfl⟩]
        · rw [nx_get, if_neg (by omega)]; exact g5
        · rw [nx_get, if_neg (by omega)]; exact g6
        · show hb_69_77 k G = _
          rw [e104 (by omega), if_neg (fun w => w (by rw [b3 q q1 hqE]))]
      · have e : q = tx_E n tp p := by omega
        obtain ⟨H, r1, r2⟩ := e132 G f g10 (by rw [← e]; exact g4) g5 g6
        refine Or.inl ⟨H, ?_, r2⟩
        show hb_69_77 k G = _
        rw [← r1]
        by_cases hq : q < n
        · rw [e104 hq, if_pos (fun w => b4 (by rw [← e]; exact nI_inj (by have := tx_at_b (n := n) (tp := tp) (p := q); omega) (by omega) w))]
        · unfold hb_69_77
          rw [e3, g4, if_pos (nI_le (by omega) (by omega))]
    · have hE : tx_E n tp p = if tx_K n tp p = 0 then tx_F n tp p else tx_F n tp p + 1 := by
        unfold tx_E
        by_cases c0 : tx_K n tp p = 0
        · rw [if_pos c0, if_pos c0]
        · rw [if_neg c0, if_neg c0, if_neg c12]
      obtain ⟨H, r1, r2⟩ := e132 G f g10 (by rw [hE]; exact g4) g5 g6
      refine ⟨H, ?_, r2⟩
      have e3 : G.1 6 0 3 = nI n := (tx_cT_fr f t).1
      refine lps_fin (F := fun k s => hb_69_77 k s) lps_rf (lp_big (by omega)) (fun k => ?_)
      show hb_69_77 k G = _
      rw [← r1]
      unfold hb_69_77
      rw [e3, g4, g5]
      by_cases c0 : nI n ≤ nI (if tx_K n tp p = 0 then tx_F n tp p else tx_F n tp p + 1)
      · rw [if_pos c0]
      · rw [if_neg c0, if_neg (fun q => c12 (Or.inl (nI_inj (by omega) (by omega) q))), if_pos (fun q => c12 (Or.inr (nI_inj (by omega) (by omega) q)))]
  have e36 : ∀ G, tx_cF h G → (G.1 6 0 10 = h.1 6 0 10 ∧ G.1 6 0 11 = h.1 6 0 11) → G.1 6 0 4 = nI (tx_F n tp p) → ∃ H, hb_69_36 G = some (bI (!tx_B n tp p), H) ∧ tx_cF h H ∧ (tx_B n tp p = true → H.1 6 0 10 = nI 1 ∧ H.1 6 0 11 = nI (tx_F n tp p)) ∧ (tx_B n tp p = false → (H.1 6 0 10 = h.1 6 0 10 ∧ H.1 6 0 11 = h.1 6 0 11) ∧ tx_cK n tp p H) := fun G f g10 g4 => by
    have f1 : tx_cF h (hs_put G 6 0 6 (nI (tx_F n tp p))) := f.put (by omega)
    have e71 := sp_71 (p := tx_F n tp p) hn hb (by omega) (tx_cT_fr f1 t)
    have r4 : (hs_put G 6 0 6 (nI (tx_F n tp p))).1 6 0 4 = nI (tx_F n tp p) := by rw [nx_get, if_neg (by omega)]; exact g4
    have r10 : (hs_put G 6 0 6 (nI (tx_F n tp p))).1 6 0 10 = h.1 6 0 10 ∧ (hs_put G 6 0 6 (nI (tx_F n tp p))).1 6 0 11 = h.1 6 0 11 := ⟨by rw [nx_get, if_neg (by omega)]; exact g10.1, by rw [nx_get, if_neg (by omega)]; exact g10.2⟩
    have r6 : (hs_put G 6 0 6 (nI (tx_F n tp p))).1 6 0 6 = nI (tx_F n tp p) := by rw [nx_get, if_pos ⟨rfl, rfl, rfl⟩]
    unfold hb_69_36
    rw [g4, r4, e71, Option.bind_some]
    dsimp only
    generalize hs_put G 6 0 6 (nI (tx_F n tp p)) = G1 at f1 r4 r10 r6
    have s5 : (hs_put G1 6 0 5 (nI (tx_at n tp (tx_F n tp p)))).1 6 0 5 = nI (tx_K n tp p) := by rw [nx_get, if_pos ⟨rfl, rfl, rfl⟩]; rfl
    have s4 : (hs_put G1 6 0 5 (nI (tx_at n tp (tx_F n tp p)))).1 6 0 4 = nI (tx_F n tp p) := by rw [nx_get, if_neg (by omega)]; exact r4
    have s10 : (hs_put G1 6 0 5 (nI (tx_at n tp (tx_F n tp p)))).1 6 0 10 = h.1 6 0 10 ∧ (hs_put G1 6 0 5 (nI (tx_at n tp (tx_F n tp p)))).1 6 0 11 = h.1 6 0 11 := ⟨by rw [nx_get, if_neg (by omega)]; exact r10.1, by rw [nx_get, if_neg (by omega)]; exact r10.2⟩
    have s6 : (hs_put G1 6 0 5 (nI (tx_at n tp (tx_F n tp p)))).1 6 0 6 = nI (tx_F n tp p) := by rw [nx_get, if_neg (by omega)]; exact r6
    have f2 : tx_cF h (hs_put G1 6 0 5 (nI (tx_at n tp (tx_F n tp p)))) := f1.put (by omega)
    rw [s5, s4]
    generalize hs_put G1 6 0 5 (nI (tx_at n tp (tx_F n tp p))) = G2 at f2 s4 s5 s6 s10
    have fin : ∀ v, v = (if tx_K n tp p = 0 then tx_F n tp p else tx_F n tp p + 1) → ∃ H, hs_lp (fun k s => hb_69_77 k s) hs_big (hs_put G2 6 0 4 (nI v)) = some (bI (!tx_B n tp p), H) ∧ tx_cF h H ∧ (tx_B n tp p = true → H.1 6 0 10 = nI 1 ∧ H.1 6 0 11 = nI (tx_F n tp p)) ∧ (tx_B n tp p = false → (H.1 6 0 10 = h.1 6 0 10 ∧ H.1 6 0 11 = h.1 6 0 11) ∧ tx_cK n tp p H) := fun v hv => by
      rw [hv]
      refine e77 _ (f2.put (by omega)) ⟨?_, ?_⟩ ?_ ?_ ?_
      · rw [nx_get, if_neg (by omega)]; exact s10.1
      · rw [nx_get, if_neg (by omega)]; exact s10.2
      · rw [nx_get, if_pos ⟨rfl, rfl, rfl⟩]
      · rw [nx_get, if_neg (by omega)]; exact s5
      · rw [nx_get, if_neg (by omega)]; exact s6
    unfold hb_69_73
    by_cases c0 : tx_K n tp p = 0
    · rw [if_neg (fun q => q (by rw [c0]; rfl)), nI_add]
      exact fin _ (by rw [if_pos c0]; rfl)
    · rw [if_pos (nI_ne0 (by omega) (by omega)), nI_add]
      exact fin _ (by rw [if_neg c0])
  -- the blanks
  unfold hf_69
  refine lp_q2 (f := fun k s => hb_69_0 k s) (I := fun d G => ∃ q, p ≤ q ∧ q ≤ tx_F n tp p ∧ d = tx_F n tp p - q ∧ tx_cF h G ∧ (G.1 6 0 10 = h.1 6 0 10 ∧ G.1 6 0 11 = h.1 6 0 11) ∧ G.1 6 0 4 = nI q) (Q := fun o => ∃ H, o = some (bI (!tx_B n tp p), H) ∧ tx_cF h H ∧ (tx_B n tp p = true → H.1 6 0 10 = nI 1 ∧ H.1 6 0 11 = nI (tx_F n tp p)) ∧ (tx_B n tp p = false → (H.1 6 0 10 = h.1 6 0 10 ∧ H.1 6 0 11 = h.1 6 0 11) ∧ tx_cK n tp p H)) (fun d G hI k => ?_) (tx_F n tp p - p) h hs_big ⟨p, Nat.le_refl _, a1, rfl, tx_cF.rf, ⟨rfl, rfl⟩, h4⟩ (lp_big (by omega))
  obtain ⟨q, q1, q2, rfl, f, g10, g4⟩ := hI
  have e3 : G.1 6 0 3 = nI n := (tx_cT_fr f t).1
  have e71 := sp_71 (p := q) hn hb (by omega) (tx_cT_fr f t)
  by_cases hqF : q < tx_F n tp p
  · refine Or.inr ⟨tx_F n tp p - (q + 1), hs_put G 6 0 4 (nI (q + 1)), by omega, ⟨q + 1, by omega, by omega, rfl, f.put (by omega), ⟨?_, ?_⟩, ?_⟩, ?_⟩
    · rw [nx_get, if_neg (by omega)]; exact g10.1
    · rw [nx_get, if_neg (by omega)]; exact g10.2
    · rw [nx_get, if_pos ⟨rfl, rfl, rfl⟩]
    · show hb_69_0 k G = _
      unfold hb_69_0
      rw [e3, g4, if_neg (nI_ge (by omega) (by omega)), e71, Option.bind_some]
      dsimp only
      rw [a3 q q1 hqF, if_neg (fun w => w rfl), g4, nI_add]
  · have e : q = tx_F n tp p := by omega
    obtain ⟨H, r1, r2⟩ := e36 G f g10 (by rw [← e]; exact g4)
    refine Or.inl ⟨H, ?_, r2⟩
    show hb_69_0 k G = _
    rw [← r1]
    unfold hb_69_0
    rw [e3, g4]
    by_cases hq : q < n
    · rw [if_neg (nI_ge hq (by omega)), e71, Option.bind_some]
      dsimp only
      rw [if_pos (fun w => a4 (by show tx_at n tp (tx_F n tp p) = 4; rw [← e]; exact nI_inj (by have := tx_at_b (n := n) (tp := tp) (p := q); omega) (by omega) w))]
    · rw [if_pos (nI_le (by omega) (by omega))]
end TZ
