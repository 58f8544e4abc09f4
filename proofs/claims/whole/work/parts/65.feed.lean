/-! feed. -/
theorem i32_nI (a : Int32) : a = nI a.toBitVec.toNat := by
  apply Int32.toBitVec_inj.mp
  rw [nx_bv, BitVec.ofNat_toNat]
  simp
def fdB (x : Int64) (j : Nat) : Int32 := ((x >>> (((nI 8) * (nI j)).toInt64 &&& 63)).toInt32) &&& (nI 255)
theorem fdB_lt (x : Int64) (j : Nat) : ∃ b, b < 256 ∧ fdB x j = nI b := by
  unfold fdB
  generalize (x >>> (((nI 8) * (nI j)).toInt64 &&& 63)).toInt32 = a
  rw [i32_nI a, nx_and]
  exact ⟨_, Nat.lt_of_le_of_lt Nat.and_le_right (by omega), rfl⟩
theorem fdB_m (x : Int64) (j : Nat) : (((x >>> ((nI (8 * j)).toInt64 &&& 63)) &&& (lN 255)).toInt32) = fdB x j := by
  unfold fdB
  rw [Int64.toInt32_and, pk_mul]
  rfl
/-- the tape after i of eight bytes -/
def fdH (ro fi pl T : Nat) (v : Nat → Int32) (h : hs_H) : Nat → hs_H
  | 0 => h
  | i + 1 => hs_put (hs_put (fdH ro fi pl T v h i) ro 0 (T + i) (v i)) fi 0 pl (nI (T + i + 1))
theorem fdH_pl {ro fi pl T : Nat} {v : Nat → Int32} {h : hs_H} (hh : h.1 fi 0 pl = nI T) : ∀ i, (fdH ro fi pl T v h i).1 fi 0 pl = nI (T + i)
  | 0 => hh
  | i + 1 => by
    show (hs_put _ _ _ _ _).1 fi 0 pl = _
    rw [nx_get, if_pos ⟨rfl, rfl, rfl⟩]
    rfl
theorem fdH_ro {ro fi pl T : Nat} {v : Nat → Int32} {h : hs_H} (hn : ro ≠ fi) (k : Nat) : ∀ i, (fdH ro fi pl T v h i).1 ro 0 k = if T ≤ k ∧ k < T + i then v (k - T) else h.1 ro 0 k
  | 0 => by
    rw [if_neg (by omega)]
    rfl
  | i + 1 => by
    show (hs_put (hs_put (fdH ro fi pl T v h i) _ _ _ _) _ _ _ _).1 ro 0 k = _
    rw [nx_get, if_neg (fun q => hn q.1), nx_get, fdH_ro hn k i]
    by_cases h1 : k = T + i
    · subst h1
      rw [if_pos ⟨rfl, rfl, rfl⟩, if_pos (by omega), Nat.add_sub_cancel_left]
    · rw [if_neg (fun q => h1 q.2.2)]
      by_cases h2 : T ≤ k ∧ k < T + i
      · rw [if_pos h2, if_pos (by omega)]
      · rw [if_neg h2, if_neg (by omega)]
theorem fdH_fi {ro fi pl T : Nat} {v : Nat → Int32} {h : hs_H} (hn : ro ≠ fi) {k : Nat} (hk : k ≠ pl) : ∀ i, (fdH ro fi pl T v h i).1 fi 0 k = h.1 fi 0 k
  | 0 => rfl
  | i + 1 => by
    show (hs_put (hs_put (fdH ro fi pl T v h i) _ _ _ _) _ _ _ _).1 fi 0 k = _
    rw [nx_get, if_neg (fun q => hk q.2.2), nx_get, if_neg (fun q => hn q.1.symm), fdH_fi hn hk i]
theorem fdH_fr {ro fi pl T : Nat} {v : Nat → Int32} {h : hs_H} : ∀ i, hs_fr [(ro, some 0), (fi, some 0)] h (fdH ro fi pl T v h i)
  | 0 => hs_fr.rf
  | i + 1 => ((fdH_fr i).put (.inl (.head _))).put (.inl (.tail _ (.head _)))
theorem nI_m1 {n : Nat} (h : 1 ≤ n) (h2 : n < 2147483648) : nI n + nI 4294967295 = nI (n - 1) := by
  rw [nI_add]
  apply Int32.toBitVec_inj.mp
  rw [nx_bv, nx_bv]
  apply BitVec.eq_of_toNat_eq
  rw [BitVec.toNat_ofNat, BitVec.toNat_ofNat]
  omega
theorem nI_m8 {n : Nat} (h : 8 ≤ n) (h2 : n < 2147483648) : nI n + nI 4294967288 = nI (n - 8) := by
  rw [nI_add]
  apply Int32.toBitVec_inj.mp
  rw [nx_bv, nx_bv]
  apply BitVec.eq_of_toNat_eq
  rw [BitVec.toNat_ofNat, BitVec.toNat_ofNat]
  omega
theorem nI_64p (n : Nat) : nI (4294967296 + n) = nI n := by
  apply Int32.toBitVec_inj.mp
  rw [nx_bv, nx_bv]
  apply BitVec.eq_of_toNat_eq
  rw [BitVec.toNat_ofNat, BitVec.toNat_ofNat]
  omega
def fdV (x : Int64) (i : Nat) : Int32 := fdB x (7 - i)
theorem sp_51n {T : Nat} {x : Int64} {h : hs_H} (t : h.1 6 0 3 = nI T) (hT : T ≤ 320) (hb : ¬ T ≤ 312) : hf_51 x h = some (nI 4294967293, h) := by
  unfold hf_51
  rw [t, if_neg (nI_ge (by omega) (by omega))]
theorem sp_155n {T : Nat} {x : Int64} {h : hs_H} (t : h.1 12 0 14 = nI T) (hT : T ≤ 320) (hb : ¬ T ≤ 312) : hf_155 x h = some (nI 4294967293, h) := by
  unfold hf_155
  rw [t, nI_add, if_neg (nI_ge (by omega) (by omega))]
theorem sp_51 {T : Nat} {x : Int64} {h : hs_H} (t : h.1 6 0 3 = nI T) (hb : T ≤ 312) : hf_51 x h = some (nI (T + 8), fdH 31 6 3 T (fdV x) h 8) := by
  unfold hf_51
  rw [t, if_pos (nI_le hb (by omega))]
  refine lp_for (st := fun i => (x, (if i = 8 then nI 4294967295 else nI (7 - i)), fdH 31 6 3 T (fdV x) h i)) (e := 8) (fun i hi k => ?_) (fun k => ?_) 0 hs_big (by omega) (lp_big (by omega))
  · have e1 : (if i = 8 then nI 4294967295 else nI (7 - i)) = nI (7 - i) := if_neg (by omega)
    have e2 : nI (7 - i) + nI 4294967295 = (if i + 1 = 8 then nI 4294967295 else nI (7 - (i + 1))) := by
      by_cases h7 : i = 7
      · subst h7
        rw [if_pos rfl, nI_add]
      · rw [if_neg (by omega), nI_m1 (by omega) (by omega)]
        rfl
    have e3 : ¬ (nI (7 - i) < 0) := nI_pos (by omega)
    show hb_51_16 k x (if i = 8 then nI 4294967295 else nI (7 - i)) (fdH 31 6 3 T (fdV x) h i) = _
    rw [e1]
    unfold hb_51_16
    have e4 := fdH_pl (ro := 31) (v := fdV x) t i
    rw [if_neg e3, e4, nx_inb (by omega) (by omega), nx_ck, e2, nI_clamp (by omega)]
    have e5 : (hs_put (fdH 31 6 3 T (fdV x) h i) 31 0 (T + i) (fdB x (7 - i))).1 6 0 3 = nI (T + i) := by
      rw [nx_get, if_neg (fun q => by omega), e4]
    show k (x, _, hs_put (hs_put (fdH 31 6 3 T (fdV x) h i) 31 0 (T + i) (fdB x (7 - i))) 6 0 3 ((hs_put (fdH 31 6 3 T (fdV x) h i) 31 0 (T + i) (fdB x (7 - i))).1 6 0 3 + nI 1)) = _
    rw [e5, nI_add]
    rfl
  · show hb_51_16 k x (nI 4294967295) (fdH 31 6 3 T (fdV x) h 8) = _
    unfold hb_51_16
    rw [if_pos (by decide), fdH_pl t 8]
theorem sp_155 {T : Nat} {x : Int64} {h : hs_H} (t : h.1 12 0 14 = nI T) (hb : T ≤ 312) : hf_155 x h = some (nI (T + 8), fdH 47 12 14 T (fdV x) h 8) := by
  unfold hf_155
  rw [t, nI_add, if_pos (nI_le (by omega) (by omega))]
  refine lp_for (st := fun i => (x, (if i = 8 then nI 4294967288 else nI (8 * (7 - i))), fdH 47 12 14 T (fdV x) h i)) (e := 8) (fun i hi k => ?_) (fun k => ?_) 0 hs_big (by omega) (lp_big (by omega))
  · have e1 : (if i = 8 then nI 4294967288 else nI (8 * (7 - i))) = nI (8 * (7 - i)) := if_neg (by omega)
    have e2 : nI (8 * (7 - i)) + nI 4294967288 = (if i + 1 = 8 then nI 4294967288 else nI (8 * (7 - (i + 1)))) := by
      by_cases h7 : i = 7
      · subst h7
        rw [if_pos rfl, nI_add]
      · rw [if_neg (by omega), nI_m8 (by omega) (by omega)]
        congr 1
        omega
    have e3 : ¬ (nI (8 * (7 - i)) < 0) := nI_pos (by omega)
    show hb_155_19 k x (if i = 8 then nI 4294967288 else nI (8 * (7 - i))) (fdH 47 12 14 T (fdV x) h i) = _
    rw [e1]
    unfold hb_155_19
    have e4 := fdH_pl (ro := 47) (v := fdV x) t i
    rw [if_neg e3, e4, nx_inb (by omega) (by omega), nx_ck, e2, nI_clamp (by omega), fdB_m]
    have e5 : (hs_put (fdH 47 12 14 T (fdV x) h i) 47 0 (T + i) (fdB x (7 - i))).1 12 0 14 = nI (T + i) := by
      rw [nx_get, if_neg (fun q => by omega), e4]
    rw [e5, nI_add]
    rfl
  · show hb_155_19 k x (nI 4294967288) (fdH 47 12 14 T (fdV x) h 8) = _
    unfold hb_155_19
    rw [if_pos (by decide), fdH_pl t 8]
section CFe
variable {VC : Nat → (Nat → Nat) → Nat → Int32 → Int32 → hs_H → Prop} {VH : Nat → (Nat → Nat) → Nat → hs_H → Prop} {VW : st_VW}
theorem cl_feed (V : st_V VC VH VW) {x : Int64} : st_call VC VH VW (hf_105 x) (hf_155 x) := by
  intro b h hb p
  have p0 := p
  obtain ⟨N, re, W, Ho, J, st, pl, mv, s, z, t, n, g, c, d, ⟨hc, hd⟩, ⟨⟨okN, okF, okS⟩, ⟨cN, cF, cS⟩, mJ, mF, mS⟩, mN, im, ca, rs⟩ := p
  obtain ⟨⟨hN1, hN2⟩, hre, hst, ⟨hW, hHo⟩, hJ, hJ0, hJs, hJa⟩ := id okN
  obtain ⟨cN1, cN2, cN3, cN4, cN5, cJ⟩ := id cN
  obtain ⟨mN1, mN2, mN3, mN4⟩ := id mN
  obtain ⟨mJ1, mJ2⟩ := st_mJ0 mJ
  obtain ⟨mF1, mF2, mF3⟩ := st_mF0 mF
  obtain ⟨mS1, mS2⟩ := st_mS0 mS
  obtain ⟨cF1, cF2, cF3⟩ := id cF
  obtain ⟨cS1, cS2⟩ := id cS
  have hp := p2_lt hN2
  obtain ⟨rs1, ⟨T, hT, t1, t2, t3⟩, ms1, ms2⟩ := rs
  by_cases hb8 : T ≤ 312
  · have t2' : (fdH 31 6 3 T (fdV x) h 8).1 12 0 14 = nI T := by
      rw [((fdH_fr (ro := 31) (fi := 6) 8) 12 0 (fun r hr hh => by rcases hh with rfl | rfl <;> simp at hr)).1, t2]
    refine ⟨nI (T + 8), _, _, ?_, sp_155 t2' hb8, ?_⟩
    · unfold hf_105
      rw [sp_51 t1 hb8]
      rfl
    · generalize hA : fdH 31 6 3 T (fdV x) h 8 = A at *
      have fA : hs_fr [(31, some 0), (6, some 0)] h A := hA ▸ fdH_fr 8
      have fB : hs_fr [(47, some 0), (12, some 0)] A (fdH 47 12 14 T (fdV x) A 8) := fdH_fr 8
      generalize hB : fdH 47 12 14 T (fdV x) A 8 = B at *
      have o12 : A.1 12 0 = h.1 12 0 := (fA 12 0 (fun r hr hh => by rcases hh with rfl | rfl <;> simp at hr)).1
      have o47 : A.1 47 0 = h.1 47 0 := (fA 47 0 (fun r hr hh => by rcases hh with rfl | rfl <;> simp at hr)).1
      have o6 : B.1 6 0 = A.1 6 0 := (fB 6 0 (fun r hr hh => by rcases hh with rfl | rfl <;> simp at hr)).1
      have o31 : B.1 31 0 = A.1 31 0 := (fB 31 0 (fun r hr hh => by rcases hh with rfl | rfl <;> simp at hr)).1
      have b12 : ∀ k, k ≠ 14 → B.1 12 0 k = h.1 12 0 k := fun k hk => by rw [← hB, fdH_fi (by decide) hk 8, o12]
      have a6 : ∀ k, k ≠ 3 → A.1 6 0 k = h.1 6 0 k := fun k hk => by rw [← hA, fdH_fi (by decide) hk 8]
      have f : hs_fr [(31, some 0), (6, some 0), (47, some 0), (12, some 0)] h B := (fA.sub (fun q hq => .inl (by revert hq; simp; rintro (rfl | rfl) <;> simp))).tr (fB.sub (fun q hq => .inl (by revert hq; simp; rintro (rfl | rfl) <;> simp)))
      refine ⟨N, re, W, Ho, J, st, pl, mv, s, z, t, n, g, c, d, ⟨by omega, by omega⟩, st_core_dep.fr f rfl ⟨⟨okN, okF, okS⟩, ⟨cN, cF, cS⟩, mJ, mF, mS⟩, ?_, st_imgs_dep.fr f rfl im, (st_cache_dep V).fr f rfl ca, st_sheets_dep.fr f rfl rs1, ⟨T + 8, by omega, ?_, ?_, fun k hk => ?_⟩, ?_, ?_⟩
      · unfold st_mN
        rw [b12 2 (by decide), b12 3 (by decide), b12 4 (by decide), b12 5 (by decide)]
        exact mN
      · rw [o6, ← hA, fdH_pl t1 8]
      · rw [← hB, fdH_pl (o12 ▸ t2) 8]
      · have e1 : B.1 31 0 k = if T ≤ k ∧ k < T + 8 then fdV x (k - T) else h.1 31 0 k := by rw [o31, ← hA, fdH_ro (by decide) k 8]
        have e2 : B.1 47 0 k = if T ≤ k ∧ k < T + 8 then fdV x (k - T) else h.1 47 0 k := by rw [← hB, fdH_ro (by decide) k 8, o47]
        by_cases hk2 : T ≤ k
        · rw [e1, e2, if_pos ⟨hk2, hk⟩, if_pos ⟨hk2, hk⟩]
          exact ⟨rfl, fdB_lt _ _⟩
        · rw [e1, e2, if_neg (fun q => hk2 q.1), if_neg (fun q => hk2 q.1)]
          exact t3 k (by omega)
      · rw [o6, a6 10 (by decide), b12 19 (by decide)]
        exact ms1
      · have e11 : B.1 11 0 = h.1 11 0 := (f 11 0 (fun r hr hh => by rcases hh with rfl | rfl <;> simp at hr)).1
        rw [e11, b12 41 (by decide)]
        exact ms2
  · refine ⟨nI 4294967293, h, h, ?_, sp_155n t2 hT hb8, p0.up VC VH VW (by omega)⟩
    unfold hf_105
    rw [sp_51n t1 hT hb8]
    rfl
end CFe
