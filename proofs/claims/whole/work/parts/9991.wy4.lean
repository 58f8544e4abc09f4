/-! Ways that fit: the class counts walks. -/
theorem wsm_b {v : Nat → Nat} {m c : Nat} (hv : ∀ j, v j ≤ c) : ∀ n, wsm v m n ≤ n * c := by
  intro n
  induction n with
  | zero => exact Nat.zero_le _
  | succ n ih =>
    have := hv n
    show wsm v m n + (if m.testBit n = true then v n else 0) ≤ (n + 1) * c
    rw [Nat.succ_mul]
    by_cases h : m.testBit n = true
    · rw [if_pos h]; omega
    · rw [if_neg h]; omega
theorem wk_b {J : Nat → Nat} {re : Nat} : ∀ r i, wk J re r i ≤ 10 ^ r := by
  intro r
  induction r with
  | zero => intro i; exact Nat.le_refl _
  | succ r ih =>
    intro i
    have h := wsm_b (m := mvs J re i) (ih) 10
    rw [Nat.pow_succ, Nat.mul_comm]
    exact h
/-- nodes with a way of r moves -/
def onw (J : Nat → Nat) (N re r : Nat) : Nat := sel (fun i => decide (0 < wk J re r i)) N
theorem onw_0 {J : Nat → Nat} {N re : Nat} : onw J N re 0 = 2 ^ N - 1 := tb_ext fun i => by
  unfold onw
  rw [tb_sel, tb_mask]
  exact Bool.and_true _
section WK
variable {J : Nat → Nat} {N re : Nat}
/-- the rows of walks as far as r moves, and at r the first i nodes -/
def wkS (J : Nat → Nat) (N re r i : Nat) (h H : hs_H) : Prop := hs_fr [(37, none), (38, some 0)] h H ∧ (∀ q, q < r → H.1 38 0 q = nI (onw J N re q) ∧ ∀ j, j < N → H.1 37 q j = nI (wk J re q j)) ∧ H.1 38 0 r = nI (sel (fun i => decide (0 < wk J re r i)) i) ∧ ∀ j, j < i → H.1 37 r j = nI (wk J re r j)
theorem sp_98i {r i : Nat} {h H : hs_H} (k38 : Int32 × hs_H → Option hs_H) (hN : N ≤ 10) (hre : re = 0 ∨ re = 1) (hJ : ∀ k, J k < 2 ^ N) (c : ch_n N re J h) (hr : r < 5) (hi : i < N) (p : wkS J N re (r + 1) i h H) : ∃ H', wkS J N re (r + 1) (i + 1) h H' ∧ ∀ k, hb_98_60 k38 k (nI (r + 1)) (nI i) H = k (nI (r + 1), nI (i + 1), H') := by
  have hp := p2_lt hN
  obtain ⟨fr, p1, p2, p3⟩ := p
  have c' := ch_n_fr fr rfl c
  have hb := wk_b (J := J) (re := re) (r + 1) i
  have hb2 : 10 ^ (r + 1) ≤ 10 ^ 5 := Nat.pow_le_pow_right (by omega) (by omega)
  have hm := mvs_lt (re := re) hJ hre hi
  have e38 : hf_38 0 (nI i) H = some (nI (mvs J re i), H) := sp_38 c'.1 c'.2.1 c'.2.2 hi hN
  have e99 : hf_99 (nI r) (nI (mvs J re i)) H = some (nI (wk J re (r + 1) i), H) := sp_99 hN (by omega) hm (p1 r (by omega)).2
  have q38 : (hs_put H 37 (r + 1) i (nI (wk J re (r + 1) i))).1 38 0 (r + 1) = nI (sel (fun i => decide (0 < wk J re (r + 1) i)) i) := by rw [nx_get, if_neg (by omega)]; exact p2
  have q37 : (hs_put H 37 (r + 1) i (nI (wk J re (r + 1) i))).1 37 (r + 1) i = nI (wk J re (r + 1) i) := by rw [nx_get, if_pos ⟨rfl, rfl, rfl⟩]
  refine ⟨hs_put (hs_put H 37 (r + 1) i (nI (wk J re (r + 1) i))) 38 0 (r + 1) (nI (sel (fun i => decide (0 < wk J re (r + 1) i)) (i + 1))), ⟨(fr.put (.inr (.head _))).put (.inl (.tail _ (.head _))), fun q hq => ⟨?_, fun j hj => ?_⟩, ?_, fun j hj => ?_⟩, fun k => ?_⟩
  · rw [nx_get, if_neg (by omega), nx_get, if_neg (by omega)]; exact (p1 q hq).1
  · rw [nx_get, if_neg (by omega), nx_get, if_neg (by omega)]; exact (p1 q hq).2 j hj
  · rw [nx_get, if_pos ⟨rfl, rfl, rfl⟩]
  · rw [nx_get, if_neg (by omega), nx_get]
    by_cases e : j = i
    · rw [if_pos ⟨rfl, rfl, e⟩, e]
    · rw [if_neg (fun q => e q.2.2)]; exact p3 j (by omega)
  · have eS : sel (fun i => decide (0 < wk J re (r + 1) i)) (i + 1) = sel (fun i => decide (0 < wk J re (r + 1) i)) i ||| (if decide (0 < wk J re (r + 1) i) = true then 2 ^ i else 0) := rfl
    rw [eS]
    unfold hb_98_60 hb_98_125
    rw [c'.1, if_neg (nI_ge hi (by omega)), if_neg (nI_ge (by omega) (by omega)), nx_inb (show r + 1 < 6 by omega) (by omega), nx_ck, e38, Option.bind_some]
    dsimp only
    rw [pk_sub (by omega), Nat.add_sub_cancel, e99, Option.bind_some]
    dsimp only
    rw [nx_inb (show i < 10 by omega) (by omega), nx_ck, nx_ck, nx_ck, nx_ck, nx_ck, nx_ck, nI_clamp (show r + 1 < 2147483648 by omega), nI_clamp (show i < 2147483648 by omega), q37, q38, nI_add, nx_shl1 (by omega), nx_or, nx_or]
    by_cases c0 : 0 < wk J re (r + 1) i
    · rw [if_neg (nI_nle c0 (by omega)), decide_eq_true c0, if_pos rfl]
    · rw [if_pos (by rw [show wk J re (r + 1) i = 0 by omega]; decide), decide_eq_false c0, if_neg Bool.false_ne_true]
end WK
