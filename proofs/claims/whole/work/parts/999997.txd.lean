/-! The text: the call. -/
/-- the reader's notes are few -/
def st5 (h : hs_H) : Prop := ∃ z, z ≤ 10 ∧ h.1 5 1 3 = nI z
theorem st5.fr {h h' : hs_H} {K : List (Nat × Option Nat)} (p : st5 h) (f : hs_fr K h h') (o : st_outb K [(5, 1)] = true) : st5 h' := st_dep.fr (L := [(5, 1)]) (P := st5) (fun h h' e p => by
  have e1 : h'.1 5 1 = h.1 5 1 := e (5, 1) (by simp)
  unfold st5 at p ⊢
  rw [e1]
  exact p) f o p
def stE (h : hs_H) : Prop := stZ h ∧ st5 h
theorem st5_46 {a b c : Int32} {h : hs_H} {r : Int32 × hs_H} (e : hf_46 1 a b c h = some r) (p : st5 h) : st5 r.2 := by
  obtain ⟨z, hz, h3⟩ := id p
  rw [sp_46 h3 hz] at e
  by_cases c1 : z < 10
  · rw [if_pos c1] at e
    obtain rfl := Option.some.inj e
    refine ⟨z + 1, by omega, ?_⟩
    unfold add_c
    rw [nx_get, if_neg (by omega), nx_get, if_pos ⟨rfl, rfl, rfl⟩]
  · rw [if_neg c1] at e
    obtain rfl := Option.some.inj e
    exact p
theorem st5_62 {h : hs_H} {r : Int32 × hs_H} (e : hf_62 h = some r) (p : st5 h) : st5 r.2 := by
  unfold hf_62 hb_62_89 hb_62_90 at e
  rcases hz_if e with e | e
  · obtain ⟨q2, e2, e⟩ := hs_bind_some e
    have p2 := p.fr (hz_64 e2) rfl
    rcases hz_if e with e | e
    · obtain ⟨q4, e4, e⟩ := hs_bind_some e
      have p4 := p2.fr (hz_66 e4) rfl
      rcases hz_if e with e | e
      · obtain ⟨q6, e6, e⟩ := hs_bind_some e
        have p6 := p4.fr (hz_64 e6) rfl
        rcases hz_if e with e | e
        · obtain ⟨-, e⟩ := hs_ck_some e
          obtain rfl := Option.some.inj e
          exact p6
        · obtain ⟨q9, e9, e⟩ := hs_bind_some e
          have p9 := st5_46 e9 p6
          rcases hz_if e with e | e
          · obtain ⟨-, e⟩ := hs_ck_some e
            obtain rfl := Option.some.inj e
            exact p9
          · obtain ⟨q11, e11, e⟩ := hs_bind_some e
            have p11 := p9.fr (hz_68 e11) rfl
            rcases hz_if e with e | e
            · obtain ⟨-, e⟩ := hs_ck_some e
              obtain rfl := Option.some.inj e
              exact p11
            · obtain ⟨-, e⟩ := hs_ck_some e
              obtain rfl := Option.some.inj e
              exact p11
      · obtain rfl := Option.some.inj e
        exact p4
    · obtain rfl := Option.some.inj e
      exact p2
  · obtain ⟨q, eq, e⟩ := hs_bind_some e
    obtain ⟨-, e⟩ := hs_ck_some e
    obtain rfl := Option.some.inj e
    exact p.fr (hz_54 eq) rfl
theorem st5_55 {h : hs_H} {r : Int32 × hs_H} (e : hf_55 h = some r) (p : st5 h) : st5 r.2 := by
  unfold hf_55 hb_55_14 hb_55_143 at e
  obtain ⟨q1, e1, e⟩ := hs_bind_some e
  have p1 := p.fr (hz_69 e1) rfl
  rcases hz_if e with e | e
  · obtain rfl := Option.some.inj e
    exact p1
  rcases hz_if e with e | e
  · rcases hz_if e with e | e
    · obtain ⟨q5, e5, e⟩ := hs_bind_some e
      have p5 := p1.fr (hz_72_64 e5) rfl
      rcases hz_if e with e | e
      · obtain ⟨q7, e7, e⟩ := hs_bind_some e
        have p7 := p5.fr (hz_72_64 e7) rfl
        rcases hz_if e with e | e
        · obtain ⟨q9, e9, e⟩ := hs_bind_some e
          have p9 := p7.fr (hz_72_64 e9) rfl
          rcases hz_if e with e | e
          · obtain ⟨q11, e11, e⟩ := hs_bind_some e
            have p11 := p9.fr (hz_72_64 e11) rfl
            rcases hz_if e with e | e
            · obtain ⟨q13, e13, e⟩ := hs_bind_some e
              have p13 := p11.fr (hz_72_64 e13) rfl
              rcases hz_if e with e | e
              · obtain ⟨q15, e15, e⟩ := hs_bind_some e
                have p15 := p13.fr (hz_72_64 e15) rfl
                rcases hz_if e with e | e
                · obtain ⟨q17, e17, e⟩ := hs_bind_some e
                  have p17 := p15.fr (hz_72_64 e17) rfl
                  rcases hz_if e with e | e
                  · obtain ⟨q, eq, e⟩ := hs_bind_some e
                    obtain ⟨-, e⟩ := hs_ck_some e
                    obtain rfl := Option.some.inj e
                    exact p17.fr (hz_54 eq) rfl
                  · obtain ⟨q, eq, e⟩ := hs_bind_some e
                    obtain ⟨-, e⟩ := hs_ck_some e
                    obtain rfl := Option.some.inj e
                    exact st5_62 eq p17
                · obtain ⟨q, eq, e⟩ := hs_bind_some e
                  obtain ⟨-, e⟩ := hs_ck_some e
                  obtain rfl := Option.some.inj e
                  exact p15.fr (hz_61 eq) rfl
              · obtain ⟨q, eq, e⟩ := hs_bind_some e
                obtain ⟨-, e⟩ := hs_ck_some e
                obtain rfl := Option.some.inj e
                exact p13.fr (hz_60 eq) rfl
            · obtain ⟨q, eq, e⟩ := hs_bind_some e
              obtain ⟨-, e⟩ := hs_ck_some e
              obtain rfl := Option.some.inj e
              exact p11.fr (hz_59 eq) rfl
          · obtain ⟨q, eq, e⟩ := hs_bind_some e
            obtain ⟨-, e⟩ := hs_ck_some e
            obtain rfl := Option.some.inj e
            exact p9.fr (hz_58 eq) rfl
        · obtain ⟨q, eq, e⟩ := hs_bind_some e
          obtain ⟨-, e⟩ := hs_ck_some e
          obtain rfl := Option.some.inj e
          exact p7.fr (hz_57 eq) rfl
      · obtain ⟨q, eq, e⟩ := hs_bind_some e
        obtain ⟨-, e⟩ := hs_ck_some e
        obtain rfl := Option.some.inj e
        exact p5.fr (hz_56 eq) rfl
    · obtain ⟨q, eq, e⟩ := hs_bind_some e
      obtain ⟨-, e⟩ := hs_ck_some e
      obtain rfl := Option.some.inj e
      exact p1.fr (hz_54 eq) rfl
  · obtain rfl := Option.some.inj e
    exact p1
theorem st5_57 {x : Int32} {h : hs_H} {r : Int32 × hs_H} (e : hb_53_57 x h = some r) (p : st5 h) : st5 r.2 := by
  have k89 : ∀ G, st5 G → ∀ r : Int32 × hs_H, hb_53_89 x G = some r → st5 r.2 := fun G pG r e => by
    have pP : st5 (hs_put G 6 0 3 (nI 0)) := pG.fr (K := [(6, some 0)]) (hs_fr.rf.put (.inl (.head _))) rfl
    unfold hb_53_89 hb_53_112 at e
    rcases hz_if e with e | e
    · obtain rfl := Option.some.inj e
      exact pP
    · obtain rfl := Option.some.inj e
      exact pP
  unfold hb_53_57 at e
  rcases hz_if e with e | e
  · exact k89 _ p _ e
  · obtain ⟨q6, e6, e⟩ := hs_bind_some e
    have p6 := p.fr (hz_30 e6) rfl
    rcases hz_if e with e | e
    · exact k89 _ p6 _ e
    · obtain ⟨q8, e8, e⟩ := hs_bind_some e
      exact k89 _ (p6.fr (hz_54 e8) rfl) _ e
theorem st5_53 {h : hs_H} {r : Int32 × hs_H} (e : hf_53 h = some r) (p : st5 h) : st5 r.2 := by
  obtain ⟨z, hz, h3⟩ := id p
  unfold hf_53 at e
  obtain ⟨q1, e1, e⟩ := hs_bind_some e
  have p1 := p.fr (hz_27 e1) rfl
  obtain ⟨q2, e2, e⟩ := hs_bind_some e
  have p2 : st5 q2 := by
    obtain ⟨z1, hz1, h31⟩ := p1
    obtain ⟨K, k1, k2, k3⟩ := sp_47 hz1 h31
    rw [k1] at e2
    obtain rfl := Option.some.inj e2
    exact ⟨0, by omega, k3⟩
  have p3 : st5 (hs_put (hs_put (hs_put (hs_put q2 6 0 4 (nI 0)) 6 0 8 (nI 0)) 6 0 9 (nI 0)) 6 0 10 (nI 0)) := p2.fr (K := [(6, some 0)]) ((((hs_fr.rf.put (.inl (.head _))).put (.inl (.head _))).put (.inl (.head _))).put (.inl (.head _))) rfl
  refine hs_lp_ind (f := fun k s => hb_53_37 k s.1 s.2) (P := fun (s : Int32 × hs_H) (r : Int32 × hs_H) => st5 s.2 → st5 r.2) (fun k hk s r e ps => ?_) _ _ _ e p3
  have e' : hb_53_37 k s.1 s.2 = some r := e
  unfold hb_53_37 at e'
  rcases hz_if e' with e | e
  · exact st5_57 e ps
  · obtain ⟨q9, e9, e⟩ := hs_bind_some e
    have p9 := st5_55 e9 ps
    rcases hz_if e with e | e
    · exact st5_57 e p9
    · exact hk _ _ e p9
theorem ab_all_g {n : Nat} {tp : Nat → Nat} (hn : n ≤ 320) : ∀ (f p l : Nat) (σ : Nat → Nat), n - p < f → p ≤ n → l ≤ p → tx_ok σ → (∀ e, ab_all n tp f p l σ = .inl e → (0 < e.1 ∧ e.1 < 10) ∧ e.2 ≤ n) ∧ ∀ x, ab_all n tp f p l σ = .inr x → x.1 ≤ n ∧ tx_ok x.2 ∧ x.2 6 < 2 ^ x.2 0 := by
  intro f
  induction f with
  | zero => intro p l σ h; omega
  | succ f ih =>
    intro p l σ hf hp hl ok
    obtain ⟨⟨a1, a2⟩, -⟩ := tx_spec (tp := tp) hn hp
    have e : ab_all n tp (f + 1) p l σ = if tx_B n tp p = true then .inl (1, tx_F n tp p) else if tx_K n tp p = 0 then (if σ 6 < 2 ^ σ 0 then .inr (l, σ) else .inl (6, n)) else tx_sb (ab_line n tp p σ) (fun x => ab_all n tp f x.1 (l + 1) x.2) := rfl
    rw [e]
    by_cases c1 : tx_B n tp p = true
    · rw [if_pos c1]
      refine ⟨fun e q => ?_, fun x q => by cases q⟩
      injection q with q
      rw [← q]
      exact ⟨⟨by show 0 < 1; omega, by show 1 < 10; omega⟩, a2⟩
    · rw [if_neg c1]
      by_cases c2 : tx_K n tp p = 0
      · rw [if_pos c2]
        by_cases c3 : σ 6 < 2 ^ σ 0
        · rw [if_pos c3]
          refine ⟨fun e q => (by cases q), fun x q => ?_⟩
          injection q with q
          rw [← q]
          exact ⟨by show l ≤ n; omega, ok, c3⟩
        · rw [if_neg c3]
          refine ⟨fun e q => ?_, fun x q => by cases q⟩
          injection q with q
          rw [← q]
          exact ⟨⟨by show 0 < 6; omega, by show 6 < 10; omega⟩, Nat.le_refl _⟩
      · rw [if_neg c2]
        have g := ab_line_g (tp := tp) hn hp ok
        cases hL : ab_line n tp p σ with
        | inl e =>
          refine ⟨fun e' q => ?_, fun x q => by cases q⟩
          injection q with q
          rw [← q]
          exact g.1 e hL
        | inr x =>
          obtain ⟨⟨g1, g2⟩, g3⟩ := g.2 x hL
          exact ih x.1 (l + 1) x.2 (by omega) g2 (by omega) g3
theorem tx_neg : ∀ w, w < 321 → nI 4294967286 - nI w < (0 : Int32) := by decide +kernel
/-- what is told is a net, as nets are -/
def tx_J (σ : Nat → Nat) : Nat → Nat := fun k => if k < 10 then σ (10 + k) else 0
theorem tx_okN {σ : Nat → Nat} (ok : tx_ok σ) (h6 : σ 6 < 2 ^ σ 0) : ok_N (σ 0) (tx_J σ) (σ 1) (nI (σ 7)) (σ 2) (σ 3) ∧ ok_S (σ 0) (σ 4) (fun k => σ (30 + 3 * k)) (fun k => σ (31 + 3 * k)) (fun k => σ (32 + 3 * k)) := by
  obtain ⟨p1, p2, p3, p4, p5, p6, p7, p8, p9⟩ := ok
  have in6 : ∀ i, (σ 6).testBit i = true → i < σ 0 := fun i h => tb_in h6 h
  have lt_of : ∀ a, (∀ i, a.testBit i = true → (σ 6).testBit i = true) → a < 2 ^ σ 0 := fun a h => Nat.lt_pow_two_of_testBit _ (fun i hi => eq_false_of_ne_true (fun q => by have := in6 i (h i q); omega))
  have b10 : ∀ k, k < 10 → ∀ i, (σ (10 + k)).testBit i = true → i < 10 := fun k hk i h => tb_in (N := 10) (p7 k hk).1 h
  have jb : ∀ k, k < 10 → ∀ i, (σ (10 + k)).testBit i = true → i ≠ k ∧ (σ 6).testBit i = true := fun k hk i h => ((p7 k hk).2 i (b10 k hk i h)).2 h
  refine ⟨⟨p1, by omega, ?_, ⟨lt_of _ p3.2, lt_of _ p4.2⟩, fun k => ?_, fun k hk => ?_, fun a b => ?_, fun a => ?_⟩, p8, fun k hk => ⟨(p9 k hk).1, in6 _ (p9 k hk).2.1.2, (p9 k hk).2.2⟩⟩
  · rcases p6 with q | q
    · exact Or.inl (by rw [q])
    · exact Or.inr ⟨σ 7, in6 _ q.2, rfl⟩
  · unfold tx_J
    by_cases c : k < 10
    · rw [if_pos c]
      exact lt_of _ (fun i h => (jb k c i h).2)
    · rw [if_neg c]; exact Nat.two_pow_pos _
  · unfold tx_J
    by_cases c : k < 10
    · rw [if_pos c]
      refine tb_iff fun i => ⟨fun h => ?_, fun h => by rw [Nat.zero_testBit] at h; cases h⟩
      have hi := b10 k c i h
      rw [((p7 k c).2 i hi).1] at h
      have := in6 k (jb i hi k h).2
      omega
    · rw [if_neg c]
  · unfold tx_J
    by_cases ca : a < 10
    · by_cases cb : b < 10
      · rw [if_pos ca, if_pos cb]; exact ((p7 a ca).2 b cb).1
      · rw [if_pos ca, if_neg cb, Nat.zero_testBit]
        exact eq_false_of_ne_true (fun q => by have := b10 a ca b q; omega)
    · by_cases cb : b < 10
      · rw [if_neg ca, if_pos cb, Nat.zero_testBit]
        exact (eq_false_of_ne_true (fun q => by have := b10 b cb a q; omega)).symm
      · rw [if_neg ca, if_neg cb]
        rw [Nat.zero_testBit, Nat.zero_testBit]
  · unfold tx_J
    by_cases ca : a < 10
    · rw [if_pos ca]
      exact eq_false_of_ne_true (fun q => (jb a ca a q).1 rfl)
    · rw [if_neg ca, Nat.zero_testBit]
