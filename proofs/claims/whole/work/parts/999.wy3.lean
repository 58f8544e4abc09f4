/-! Ways that fit: the class's small functions. -/
/-- the latest turn, up to n, of which the first m tell -/
def ltT (tn : Nat → Nat) (n : Nat) : Nat → Nat
  | 0 => 0
  | k + 1 => if tn k ≤ n ∧ ltT tn n k < tn k then tn k else ltT tn n k
theorem ltT_le {tn : Nat → Nat} {n : Nat} : ∀ m, ltT tn n m ≤ n := by
  intro m
  induction m with
  | zero => exact Nat.zero_le _
  | succ m ih =>
    show (if tn m ≤ n ∧ ltT tn n m < tn m then tn m else ltT tn n m) ≤ n
    by_cases c : tn m ≤ n ∧ ltT tn n m < tn m
    · rw [if_pos c]; exact c.1
    · rw [if_neg c]; exact ih
/-- beyond it nothing up to n was smelt -/
theorem ltT_hi {tn : Nat → Nat} {n : Nat} : ∀ m k, k < m → tn k ≤ n → tn k ≤ ltT tn n m := by
  intro m
  induction m with
  | zero => intro k hk; omega
  | succ m ih =>
    intro k hk hn
    show tn k ≤ if tn m ≤ n ∧ ltT tn n m < tn m then tn m else ltT tn n m
    by_cases c : tn m ≤ n ∧ ltT tn n m < tn m
    · rw [if_pos c]
      by_cases e : k = m
      · rw [e]; exact Nat.le_refl _
      · have := ih k (by omega) hn; omega
    · rw [if_neg c]
      by_cases e : k = m
      · rw [e] at hn ⊢; omega
      · exact ih k (by omega) hn
theorem sp_49 {o n m z : Nat} {tn : Nat → Nat} {h : hs_H} (hn : n ≤ 5) (hz : z ≤ 10) (hm : m ≤ z) (h3 : h.1 5 o 3 = nI z) (ht : ∀ k, k < z → h.1 28 o k = nI (tn k)) (ok : ∀ k, k < z → tn k ≤ 5) : hf_49 o (nI m) (nI n) h = some (nI (ltT tn n m), h) := by
  unfold hf_49
  refine lp_for (f := fun k s => hb_49_5 o k s.1 s.2.1 s.2.2.1 s.2.2.2.1 s.2.2.2.2) (st := fun j => (nI m, nI n, nI (ltT tn n j), nI j, h)) (e := m) (fun j hj k => ?_) (fun k => ?_) 0 hs_big (by omega) (lp_big (by omega))
  · show hb_49_5 o k (nI m) (nI n) (nI (ltT tn n j)) (nI j) h = k (nI m, nI n, nI (if tn j ≤ n ∧ ltT tn n j < tn j then tn j else ltT tn n j), nI (j + 1), h)
    have o1 := ok j (by omega)
    have o2 := ltT_le (tn := tn) (n := n) j
    unfold hb_49_5 hb_49_50
    rw [if_neg (nI_ge hj (by omega)), h3, if_neg (nI_ge (by omega) (by omega)), nx_inb (show j < 10 by omega) (by omega), nx_ck, nx_ck, nx_ck, nI_clamp (show j < 2147483648 by omega), ht j (by omega), nI_add]
    by_cases c1 : tn j ≤ n
    · rw [if_neg (nI_nlt c1 (by omega))]
      by_cases c2 : ltT tn n j < tn j
      · rw [if_neg (nI_ge c2 (by omega)), if_pos ⟨c1, c2⟩]
      · rw [if_pos (nI_le (by omega) (by omega)), if_neg (fun q => c2 q.2)]
    · rw [if_pos (nI_lt (by omega) (by omega)), if_neg (fun q => c1 q.1)]
  · show hb_49_5 o k (nI m) (nI n) (nI (ltT tn n m)) (nI m) h = _
    unfold hb_49_5 hb_49_56
    rw [if_pos (nI_le (Nat.le_refl _) (by omega))]
/-- a sum over the nodes of m -/
def wsm (v : Nat → Nat) (m : Nat) : Nat → Nat
  | 0 => 0
  | j + 1 => wsm v m j + (if m.testBit j = true then v j else 0)
/-- the ways of r moves from a node on -/
def wk (J : Nat → Nat) (re : Nat) : Nat → Nat → Nat
  | 0, _ => 1
  | r + 1, i => wsm (wk J re r) (mvs J re i) 10
theorem sp_99 {N r m : Nat} {v : Nat → Nat} {h : hs_H} (hN : N ≤ 10) (hr : r ≤ 5) (hm : m < 2 ^ N) (hv : ∀ j, j < N → h.1 37 r j = nI (v j)) : hf_99 (nI r) (nI m) h = some (nI (wsm v m 10), h) := by
  have hp := p2_lt hN
  unfold hf_99
  refine lp_for (f := fun k s => hb_99_5 k s.1 s.2.1 s.2.2.1 s.2.2.2.1 s.2.2.2.2) (st := fun j => (nI r, nI m, nI (wsm v m j), nI j, h)) (e := 10) (fun j hj k => ?_) (fun k => ?_) 0 hs_big (by omega) (lp_big (by omega))
  · show hb_99_5 k (nI r) (nI m) (nI (wsm v m j)) (nI j) h = k (nI r, nI m, nI (wsm v m j + (if m.testBit j = true then v j else 0)), nI (j + 1), h)
    unfold hb_99_5 hb_99_44
    rw [if_neg (nI_ge hj (by omega)), if_neg (nI_pos (by omega)), if_neg (nI_nlt (by omega) (by omega)), sp_147 (by omega) (by omega), Option.bind_some, nI_add]
    dsimp only
    cases hb : m.testBit j with
    | false => rw [if_pos (by decide), if_neg Bool.false_ne_true, nI_add]
    | true =>
      rw [if_neg (by decide), if_pos rfl, nx_inb (show r < 6 by omega) (by omega), nx_ck, nx_inb (show j < 10 by omega) (by omega), nx_ck, nI_clamp (show r < 2147483648 by omega), nI_clamp (show j < 2147483648 by omega), hv j (tb_in hm hb), nI_add, nI_add]
  · show hb_99_5 k (nI r) (nI m) (nI (wsm v m 10)) (nI 10) h = _
    unfold hb_99_5 hb_99_52
    rw [if_pos (by decide)]
theorem sp_100 {r : Nat} {h : hs_H} (hr : r ≤ 5) : hf_100 (nI r) h = some (h.1 38 0 r, h) := by
  unfold hf_100 hb_100_19
  rw [if_neg (nI_pos (by omega)), if_neg (nI_nlt (by omega) (by omega)), nx_inb (show r < 6 by omega) (by omega), nx_ck, nI_clamp (show r < 2147483648 by omega)]
