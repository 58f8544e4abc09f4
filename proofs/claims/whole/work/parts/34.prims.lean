/-! Contracts of the JDK's methods that the class asks of its texts. -/
def pr_m0 : hs_M := (⟨"java/lang/String", "coder", "()B"⟩, prog_17_method_152_code, 1, some .byte, 1, [])
def pr_m1 : hs_M := (⟨"java/lang/String", "isLatin1", "()Z"⟩, prog_17_method_154_code, 1, some .boolean, 1, [])
def pr_m2 : hs_M := (⟨"java/lang/StringLatin1", "charAt", "([BI)C"⟩, prog_18_method_2_code, 2, some .char, 1, [])
def pr_m3 : hs_M := (⟨"java/lang/String", "checkIndex", "(II)V"⟩, prog_17_method_155_code, 2, none, 0, [])
def pr_m4 : hs_M := (⟨"jdk/internal/util/Preconditions", "checkIndex", "(IILjava/util/function/BiFunction;)I"⟩, prog_20_method_11_code, 3, some .int, 1, [])
theorem pr_d0_0 : decode prog_17_method_152_code 0 = .ok (.getstatic 38, 3) := by decide +kernel
theorem pr_d0_3 : decode prog_17_method_152_code 3 = .ok (.ifCond .eq 10, 3) := by decide +kernel
theorem pr_d0_6 : decode prog_17_method_152_code 6 = .ok (.aload_n 0, 1) := by decide +kernel
theorem pr_d0_7 : decode prog_17_method_152_code 7 = .ok (.getfield 15, 3) := by decide +kernel
theorem pr_d0_10 : decode prog_17_method_152_code 10 = .ok (.goto 4, 3) := by decide +kernel
theorem pr_d0_14 : decode prog_17_method_152_code 14 = .ok (.ireturn, 1) := by decide +kernel
theorem pr_d1_0 : decode prog_17_method_154_code 0 = .ok (.getstatic 38, 3) := by decide +kernel
theorem pr_d1_3 : decode prog_17_method_154_code 3 = .ok (.ifCond .eq 14, 3) := by decide +kernel
theorem pr_d1_6 : decode prog_17_method_154_code 6 = .ok (.aload_n 0, 1) := by decide +kernel
theorem pr_d1_7 : decode prog_17_method_154_code 7 = .ok (.getfield 15, 3) := by decide +kernel
theorem pr_d1_10 : decode prog_17_method_154_code 10 = .ok (.ifCond .ne 7, 3) := by decide +kernel
theorem pr_d1_13 : decode prog_17_method_154_code 13 = .ok (.iconst 1, 1) := by decide +kernel
theorem pr_d1_14 : decode prog_17_method_154_code 14 = .ok (.goto 4, 3) := by decide +kernel
theorem pr_d1_18 : decode prog_17_method_154_code 18 = .ok (.ireturn, 1) := by decide +kernel
theorem pr_d2_0 : decode prog_18_method_2_code 0 = .ok (.iload_n 1, 1) := by decide +kernel
theorem pr_d2_1 : decode prog_18_method_2_code 1 = .ok (.aload_n 0, 1) := by decide +kernel
theorem pr_d2_2 : decode prog_18_method_2_code 2 = .ok (.arraylength, 1) := by decide +kernel
theorem pr_d2_3 : decode prog_18_method_2_code 3 = .ok (.invokestatic 9, 3) := by decide +kernel
theorem pr_d2_6 : decode prog_18_method_2_code 6 = .ok (.aload_n 0, 1) := by decide +kernel
theorem pr_d2_7 : decode prog_18_method_2_code 7 = .ok (.iload_n 1, 1) := by decide +kernel
theorem pr_d2_8 : decode prog_18_method_2_code 8 = .ok (.baload, 1) := by decide +kernel
theorem pr_d2_9 : decode prog_18_method_2_code 9 = .ok (.sipush 255, 3) := by decide +kernel
theorem pr_d2_12 : decode prog_18_method_2_code 12 = .ok (.iand, 1) := by decide +kernel
theorem pr_d2_13 : decode prog_18_method_2_code 13 = .ok (.i2c, 1) := by decide +kernel
theorem pr_d2_14 : decode prog_18_method_2_code 14 = .ok (.ireturn, 1) := by decide +kernel
theorem pr_d3_0 : decode prog_17_method_155_code 0 = .ok (.iload_n 0, 1) := by decide +kernel
theorem pr_d3_1 : decode prog_17_method_155_code 1 = .ok (.iload_n 1, 1) := by decide +kernel
theorem pr_d3_2 : decode prog_17_method_155_code 2 = .ok (.getstatic 1053, 3) := by decide +kernel
theorem pr_d3_5 : decode prog_17_method_155_code 5 = .ok (.invokestatic 1059, 3) := by decide +kernel
theorem pr_d3_8 : decode prog_17_method_155_code 8 = .ok (.pop, 1) := by decide +kernel
theorem pr_d3_9 : decode prog_17_method_155_code 9 = .ok (.return_, 1) := by decide +kernel
theorem pr_d4_0 : decode prog_20_method_11_code 0 = .ok (.iload_n 0, 1) := by decide +kernel
theorem pr_d4_1 : decode prog_20_method_11_code 1 = .ok (.ifCond .lt 8, 3) := by decide +kernel
theorem pr_d4_4 : decode prog_20_method_11_code 4 = .ok (.iload_n 0, 1) := by decide +kernel
theorem pr_d4_5 : decode prog_20_method_11_code 5 = .ok (.iload_n 1, 1) := by decide +kernel
theorem pr_d4_6 : decode prog_20_method_11_code 6 = .ok (.if_icmp .lt 10, 3) := by decide +kernel
theorem pr_d4_16 : decode prog_20_method_11_code 16 = .ok (.iload_n 0, 1) := by decide +kernel
theorem pr_d4_17 : decode prog_20_method_11_code 17 = .ok (.ireturn, 1) := by decide +kernel
theorem pr_d5_0 : decode prog_17_method_54_code 0 = .ok (.aload_n 0, 1) := by decide +kernel
theorem pr_d5_1 : decode prog_17_method_54_code 1 = .ok (.getfield 9, 3) := by decide +kernel
theorem pr_d5_4 : decode prog_17_method_54_code 4 = .ok (.arraylength, 1) := by decide +kernel
theorem pr_d5_5 : decode prog_17_method_54_code 5 = .ok (.aload_n 0, 1) := by decide +kernel
theorem pr_d5_6 : decode prog_17_method_54_code 6 = .ok (.invokevirtual 335, 3) := by decide +kernel
theorem pr_d5_9 : decode prog_17_method_54_code 9 = .ok (.ishr, 1) := by decide +kernel
theorem pr_d5_10 : decode prog_17_method_54_code 10 = .ok (.ireturn, 1) := by decide +kernel
theorem pr_d6_0 : decode prog_17_method_56_code 0 = .ok (.aload_n 0, 1) := by decide +kernel
theorem pr_d6_1 : decode prog_17_method_56_code 1 = .ok (.invokevirtual 492, 3) := by decide +kernel
theorem pr_d6_4 : decode prog_17_method_56_code 4 = .ok (.ifCond .eq 12, 3) := by decide +kernel
theorem pr_d6_7 : decode prog_17_method_56_code 7 = .ok (.aload_n 0, 1) := by decide +kernel
theorem pr_d6_8 : decode prog_17_method_56_code 8 = .ok (.getfield 9, 3) := by decide +kernel
theorem pr_d6_11 : decode prog_17_method_56_code 11 = .ok (.iload_n 1, 1) := by decide +kernel
theorem pr_d6_12 : decode prog_17_method_56_code 12 = .ok (.invokestatic 495, 3) := by decide +kernel
theorem pr_d6_15 : decode prog_17_method_56_code 15 = .ok (.ireturn, 1) := by decide +kernel
def pr_rm (k : Nat) : Room := { frames := k, cells := 0, slots := 0, locals := 60 * k }
def pr_Pre (ad : Nat → Nat → Nat) (adV : Nat → Nat) (av : List Value) : Array Value → State → Prop := va_Pc av (fun U => hs_X ad adV (fun _ => False) U U.heap)
def pr_Q (v : Int32) : Array Value → State → Outcome → State → Prop := va_Qi (S := Unit) (fun r _ => r = v) (fun _ _ => True) (fun _ => False)
def pr_V : Array Value → State → Outcome → State → Prop := va_Qv (S := Unit) (fun _ => True) (fun _ _ => True) (fun _ => False)
theorem pr_blind {ad : Nat → Nat → Nat} {adV : Nat → Nat} {av : List Value} : FrameBlind (pr_Pre ad adV av) := by
  intro b U g mk q
  obtain ⟨q0, q1⟩ := q
  exact ⟨q0, hs_X.same (s := U) (U := U.calling g mk b) q1 rfl⟩
theorem pr_pre {ad : Nat → Nat → Nat} {adV : Nat → Nat} {s : State} {H : Heap} {locs : List Loc} (hX : hs_X ad adV (fun _ => False) s s.heap) (hS : va_S (fun _ => False) s.heap H locs) (av : List Value) : ∀ U : State, U.heap = H → s.WarmedH U.vm → pr_Pre ad adV av av.toArray U := by
  intro U hU hW
  refine ⟨rfl, ?_⟩
  show hs_X ad adV (fun _ => False) U U.heap
  rw [hU]
  exact hX.to hW (fun q h1 _ => hS.2.1 q h1 id) (fun _ h => h)
theorem pr_narrow {ad : Nat → Nat → Nat} {adV : Nat → Nat} {A : Nat → Prop} {U : State} {H : Heap} (h : hs_X ad adV A U H) : hs_X ad adV (fun _ => False) U H :=
  ⟨h.1.narrow (fun _ q => q.elim), h.2.1, h.2.2.1.narrow (fun _ q => q.elim), h.2.2.2.1.narrow (fun _ q => q.elim), h.2.2.2.2⟩
theorem pr_nat {j : Int32} {n : Nat} (h : vp_in j n) (hn : n < 2147483648) : ¬ j < 0 ∧ j < Int32.ofNat n := by
  have h1 : ¬ j < 0 := fun q => h (Or.inl q)
  have h2 : j.toNatClampNeg < n := Nat.not_le.mp fun q => h (Or.inr q)
  refine ⟨h1, ?_⟩
  have h0 : (0 : Int) ≤ j.toInt := by
    have := Int32.not_lt.mp h1
    simpa using Int32.le_iff_toInt_le.mp this
  have hj : j.toInt = (j.toNatClampNeg : Int) := by
    show j.toInt = ((j.toInt.toNat : Nat) : Int)
    omega
  have hN : (Int32.ofNat n).toInt = (n : Int) := nI_toInt hn
  exact Int32.lt_iff_toInt_lt.mpr (by rw [hN, hj]; omega)
theorem pr_c0 {l : Launch} {ad : Nat → Nat → Nat} {adV : Nat → Nat} {k : Nat} (hk : k < 7) : Met l pr_m0.1 (hs_kw pr_m0) (pr_rm 0) (pr_Pre ad adV [.ref (ad 64 k)]) (pr_Q 0) 0 0 (fun _ => False) := by
  refine hs_ofW (cc := prog_17_method_152_code) (maxL := 1) (ret := some .byte) rfl rfl ?_
  intro p e s m args below meth c s₁ B hml hv
  obtain ⟨rfl, hX⟩ := hv
  have hx := B.exec
  have hb := B.bytes
  have hr := B.returns
  have hts0 := atoms_spec B.pre
  have hts : ∀ w ∈ hs_T, w.before ([.ref (ad 64 k)] : List Value).toArray s = true := fun w hw => hts0 w (List.mem_cons_of_mem _ hw)
  have hown : s.vm.findClass "java/lang/String" = some m.cls := findClass_of_methodNamed B.named
  rw [lg_entry_eq]
  have hl := lv_entry [.ref (ad 64 k)] (n := 1) (Nat.le_of_ble_eq_true rfl)
  generalize (lg_sl ([.ref (ad 64 k)]) ++ List.replicate (1 - (lg_sl ([.ref (ad 64 k)])).length) Slot.unset).toArray = ls at hl ⊢
  have hl : lv_has ls 1 [(0, .ref (ad 64 k))] := hl
  refine va_gets hx hb hX.2.2.1 va_S.rf hown (hts _ (hs_has_in (k := 3) (i := 25) (by decide +kernel))) (fun _ h => h) pr_d0_0 ?_
  refine lv_if_eq hx hb pr_d0_3 (tgt := 13) rfl (fun q => absurd q (by decide)) (fun _ => ?_)
  refine lv_aload_n hx hb pr_d0_6 rfl (lv_at hl 0 rfl) ?_
  refine vk_getf hx hb (hX.1.1 k hk).2.1 va_S.rf hown (hts _ (hs_has_in (k := 7) (i := 220) (by decide +kernel))) (fun _ h => h) pr_d0_7 ?_
  refine lv_goto hx hb pr_d0_10 (tgt := 14) rfl ?_
  exact W.zret (v := 0) hx hb hr (by decide +kernel) (fun t ht _ => ⟨⟨0, (), rfl, rfl, trivial⟩, va_S.rf.F ht⟩) (fun _ h => by cases h) pr_d0_14
theorem pr_c1 {l : Launch} {ad : Nat → Nat → Nat} {adV : Nat → Nat} {k : Nat} (hk : k < 7) : Met l pr_m1.1 (hs_kw pr_m1) (pr_rm 0) (pr_Pre ad adV [.ref (ad 64 k)]) (pr_Q 1) 0 0 (fun _ => False) := by
  refine hs_ofW (cc := prog_17_method_154_code) (maxL := 1) (ret := some .boolean) rfl rfl ?_
  intro p e s m args below meth c s₁ B hml hv
  obtain ⟨rfl, hX⟩ := hv
  have hx := B.exec
  have hb := B.bytes
  have hr := B.returns
  have hts0 := atoms_spec B.pre
  have hts : ∀ w ∈ hs_T, w.before ([.ref (ad 64 k)] : List Value).toArray s = true := fun w hw => hts0 w (List.mem_cons_of_mem _ hw)
  have hown : s.vm.findClass "java/lang/String" = some m.cls := findClass_of_methodNamed B.named
  rw [lg_entry_eq]
  have hl := lv_entry [.ref (ad 64 k)] (n := 1) (Nat.le_of_ble_eq_true rfl)
  generalize (lg_sl ([.ref (ad 64 k)]) ++ List.replicate (1 - (lg_sl ([.ref (ad 64 k)])).length) Slot.unset).toArray = ls at hl ⊢
  have hl : lv_has ls 1 [(0, .ref (ad 64 k))] := hl
  refine va_gets hx hb hX.2.2.1 va_S.rf hown (hts _ (hs_has_in (k := 3) (i := 25) (by decide +kernel))) (fun _ h => h) pr_d1_0 ?_
  refine lv_if_eq hx hb pr_d1_3 (tgt := 17) rfl (fun q => absurd q (by decide)) (fun _ => ?_)
  refine lv_aload_n hx hb pr_d1_6 rfl (lv_at hl 0 rfl) ?_
  refine vk_getf hx hb (hX.1.1 k hk).2.1 va_S.rf hown (hts _ (hs_has_in (k := 7) (i := 220) (by decide +kernel))) (fun _ h => h) pr_d1_7 ?_
  refine lv_if_ne hx hb pr_d1_10 (tgt := 17) rfl (fun q => absurd rfl q) (fun _ => ?_)
  refine lv_iconst hx hb pr_d1_13 (v := 1) rfl ?_
  refine lv_goto hx hb pr_d1_14 (tgt := 18) rfl ?_
  exact W.zret (v := 1) hx hb hr (by decide +kernel) (fun t ht _ => ⟨⟨1, (), rfl, rfl, trivial⟩, va_S.rf.F ht⟩) (fun _ h => by cases h) pr_d1_18
theorem pr_c4 {l : Launch} {ad : Nat → Nat → Nat} {adV : Nat → Nat} {i n : Int32} {v : Value} (hv : v = .null ∨ ∃ t, v = .ref t) (h0 : ¬ i < 0) (hn : i < n) : Met l pr_m4.1 (hs_kw pr_m4) (pr_rm 0) (pr_Pre ad adV [.int i, .int n, v]) (pr_Q i) 0 0 (fun _ => False) := by
  refine hs_ofW (cc := prog_20_method_11_code) (maxL := 3) (ret := some .int) rfl rfl ?_
  intro p e s m args below meth c s₁ B hml hv9
  obtain ⟨rfl, hX⟩ := hv9
  have hx := B.exec
  have hb := B.bytes
  have hr := B.returns
  have hts0 := atoms_spec B.pre
  have hts : ∀ w ∈ hs_T, w.before ([.int i, .int n, v] : List Value).toArray s = true := fun w hw => hts0 w (List.mem_cons_of_mem _ hw)
  have hown : s.vm.findClass "jdk/internal/util/Preconditions" = some m.cls := findClass_of_methodNamed B.named
  rw [lg_entry_eq]
  have hl := lv_entry [.int i, .int n, v] (n := 3) (by rcases hv with rfl | ⟨t, rfl⟩ <;> exact Nat.le_of_ble_eq_true rfl)
  generalize (lg_sl ([.int i, .int n, v]) ++ List.replicate (3 - (lg_sl ([.int i, .int n, v])).length) Slot.unset).toArray = ls at hl ⊢
  have hl : lv_has ls 3 [(0, .int i), (1, .int n), (2, v)] := by
    rcases hv with rfl | ⟨t, rfl⟩
    · exact hl
    · exact hl
  refine lv_iload_n hx hb pr_d4_0 rfl (lv_at hl 0 rfl) ?_
  refine lv_if_lt hx hb pr_d4_1 (tgt := 9) rfl (fun q => absurd q h0) (fun _ => ?_)
  refine lv_iload_n hx hb pr_d4_4 rfl (lv_at hl 0 rfl) ?_
  refine lv_iload_n hx hb pr_d4_5 rfl (lv_at hl 1 rfl) ?_
  refine lv_icmp_lt hx hb pr_d4_6 (tgt := 16) rfl (fun _ => ?_) (fun q => absurd hn q)
  refine lv_iload_n hx hb pr_d4_16 rfl (lv_at hl 0 rfl) ?_
  exact W.iret (v := i) hx hb hr (fun t ht _ => ⟨⟨i, (), rfl, rfl, trivial⟩, va_S.rf.F ht⟩) (fun _ h => by cases h) pr_d4_17
theorem pr_c3 {l : Launch} {ad : Nat → Nat → Nat} {adV : Nat → Nat} {i n : Int32} (h0 : ¬ i < 0) (hn : i < n) : Met l pr_m3.1 (hs_kw pr_m3) (pr_rm 1) (pr_Pre ad adV [.int i, .int n]) pr_V 0 0 (fun _ => False) := by
  refine hs_ofW (cc := prog_17_method_155_code) (maxL := 2) (ret := none) rfl rfl ?_
  intro p e s m args below meth c s₁ B hml hv
  obtain ⟨rfl, hX⟩ := hv
  have hx := B.exec
  have hb := B.bytes
  have hr := B.returns
  have hts0 := atoms_spec B.pre
  have hts : ∀ w ∈ hs_T, w.before ([.int i, .int n] : List Value).toArray s = true := fun w hw => hts0 w (List.mem_cons_of_mem _ hw)
  have hown : s.vm.findClass "java/lang/String" = some m.cls := findClass_of_methodNamed B.named
  rw [lg_entry_eq]
  have hl := lv_entry [.int i, .int n] (n := 2) (Nat.le_of_ble_eq_true rfl)
  generalize (lg_sl ([.int i, .int n]) ++ List.replicate (2 - (lg_sl ([.int i, .int n])).length) Slot.unset).toArray = ls at hl ⊢
  have hl : lv_has ls 2 [(0, .int i), (1, .int n)] := hl
  have hS : va_S (fun _ => False) s.heap s.heap [] := va_S.rf
  refine lv_iload_n hx hb pr_d3_0 rfl (lv_at hl 0 rfl) ?_
  refine lv_iload_n hx hb pr_d3_1 rfl (lv_at hl 1 rfl) ?_
  have hZ : ∃ v : Value, (v = .null ∨ ∃ t, v = .ref t) ∧ va_Z "jdk/internal/util/Preconditions" "SIOOBE_FORMATTER" "Ljava/util/function/BiFunction;" v (fun _ => False) s s.heap := by
    rcases hX.2.2.2.1 with h | ⟨t, h⟩
    · exact ⟨.null, Or.inl rfl, h⟩
    · exact ⟨.ref t, Or.inr ⟨t, rfl⟩, h⟩
  obtain ⟨v, hv, hZ⟩ := hZ
  refine va_gets hx hb hZ va_S.rf hown (hts _ (hs_has_in (k := 3) (i := 41) (by decide +kernel))) (fun _ h => h) pr_d3_2 ?_
  have hrun : va_Run p l e (headSpec (hs_kw pr_m3) (pr_rm 1)).room s m [Value.int i, .int n].toArray below meth c s.heap [] 0 0 0 0 (F0 m 5 ls [v, .int n, .int i]) [] (pr_Q i [Value.int i, .int n, v].toArray) (fun _ => False) := (va_runS (Ts := hs_T) ⟨hx, hb, hml, hown, hts⟩ (pr_c4 hv h0 hn) ⟨callB_of 3 hts (hs_good (M := pr_m4) (hs_has_in (k := 3) (i := 45) (by decide +kernel))) rfl rfl rfl (hts _ (hs_has_in (k := 1) (i := 16) (by decide +kernel))) (hts _ (hs_has_in (k := 3) (i := 43) (by decide +kernel))) ⟨by decide, by decide, by decide +kernel⟩ ⟨Nat.le_of_ble_eq_true rfl, Nat.le_of_ble_eq_true rfl⟩, hts _ (hs_has_in (k := 3) (i := 44) (by decide +kernel))⟩ ⟨pr_blind, pr_pre hX hS [Value.int i, .int n, v]⟩ rfl rfl (hl.1) rfl (lv_room (Nat.le_of_ble_eq_true rfl)) pr_d3_5 ⟨Nat.le_refl _, Nat.le_refl _⟩)
  refine va_calli (A0 := fun _ => False) hrun hS (fun _ _ h => h) (fun _ h => h) fun r u t H1 locs1 ht _ hw hB _ _ hS => ?_
  refine lv_pop hx hb pr_d3_8 rfl ?_
  exact W.vret hx hb hr (fun t ht _ => ⟨⟨(), rfl, trivial, trivial⟩, hS.F ht⟩) hS.2.2 pr_d3_9
theorem pr_fin : ∀ k, k < 7 → ∀ j, j < hs_slen.getD k 0 → ((((hs_sbyt.getD k []).getD j 0 : Int32) &&& 255).toUInt32 % 65536).toInt32 = nI ((hs_txt k).getD j 0) ∧ narrow .char (.int (nI ((hs_txt k).getD j 0))) = .int (nI ((hs_txt k).getD j 0)) := by decide +kernel
theorem pr_len : ∀ k, k < 7 → hs_slen.getD k 0 = (hs_txt k).length ∧ hs_slen.getD k 0 < 2147483648 ∧ Int32.ofNat (hs_slen.getD k 0) >>> (0 &&& 31) = nI (hs_txt k).length := by decide +kernel
theorem pr_c2 {l : Launch} {ad : Nat → Nat → Nat} {adV : Nat → Nat} {k : Nat} (hk : k < 7) {j : Int32} (hj : vp_in j (hs_slen.getD k 0)) : Met l pr_m2.1 (hs_kw pr_m2) (pr_rm 2) (pr_Pre ad adV [.ref (adV k), .int j]) (pr_Q (nI ((hs_txt k).getD j.toNatClampNeg 0))) 0 0 (fun _ => False) := by
  refine hs_ofW (cc := prog_18_method_2_code) (maxL := 2) (ret := some .char) rfl rfl ?_
  intro p e s m args below meth c s₁ B hml hv
  obtain ⟨rfl, hX⟩ := hv
  have hx := B.exec
  have hb := B.bytes
  have hr := B.returns
  have hts0 := atoms_spec B.pre
  have hts : ∀ w ∈ hs_T, w.before ([.ref (adV k), .int j] : List Value).toArray s = true := fun w hw => hts0 w (List.mem_cons_of_mem _ hw)
  have hown : s.vm.findClass "java/lang/StringLatin1" = some m.cls := findClass_of_methodNamed B.named
  rw [lg_entry_eq]
  have hl := lv_entry [.ref (adV k), .int j] (n := 2) (Nat.le_of_ble_eq_true rfl)
  generalize (lg_sl ([.ref (adV k), .int j]) ++ List.replicate (2 - (lg_sl ([.ref (adV k), .int j])).length) Slot.unset).toArray = ls at hl ⊢
  have hl : lv_has ls 2 [(0, .ref (adV k)), (1, .int j)] := hl
  have hS : va_S (fun _ => False) s.heap s.heap [] := va_S.rf
  obtain ⟨h0, hn⟩ := pr_nat hj (pr_len k hk).2.1
  have hfin := pr_fin k hk j.toNatClampNeg (Nat.not_le.mp fun q => hj (Or.inr q))
  refine lv_iload_n hx hb pr_d2_0 rfl (lv_at hl 1 rfl) ?_
  refine lv_aload_n hx hb pr_d2_1 rfl (lv_at hl 0 rfl) ?_
  refine va_tlen hx hb (hX.1.1 k hk).2.2.2 va_S.rf rfl pr_d2_2 ?_
  have hrun : va_Run p l e (headSpec (hs_kw pr_m2) (pr_rm 2)).room s m [Value.ref (adV k), .int j].toArray below meth c s.heap [] 0 0 0 0 (F0 m 3 ls [.int (Int32.ofNat (hs_slen.getD k 0)), .int j]) [] (pr_V [Value.int j, .int (Int32.ofNat (hs_slen.getD k 0))].toArray) (fun _ => False) := (va_runS (Ts := hs_T) ⟨hx, hb, hml, hown, hts⟩ (pr_c3 h0 hn) ⟨callB_of 2 hts (hs_good (M := pr_m3) (hs_has_in (k := 3) (i := 40) (by decide +kernel))) rfl rfl rfl (hts _ (hs_has_in (k := 1) (i := 14) (by decide +kernel))) (hts _ (hs_has_in (k := 3) (i := 38) (by decide +kernel))) ⟨by decide, by decide, by decide +kernel⟩ ⟨Nat.le_of_ble_eq_true rfl, Nat.le_of_ble_eq_true rfl⟩, hts _ (hs_has_in (k := 3) (i := 39) (by decide +kernel))⟩ ⟨pr_blind, pr_pre hX hS [Value.int j, .int (Int32.ofNat (hs_slen.getD k 0))]⟩ rfl rfl (hl.1) rfl (lv_room (Nat.le_of_ble_eq_true rfl)) pr_d2_3 ⟨Nat.le_refl _, Nat.le_refl _⟩)
  refine va_callv (A0 := fun _ => False) hrun hS (fun _ _ h => h) (fun _ h => h) fun u t H1 locs1 ht _ hw hB _ _ hS => ?_
  refine lv_aload_n hx hb pr_d2_6 rfl (lv_at hl 0 rfl) ?_
  refine lv_iload_n hx hb pr_d2_7 rfl (lv_at hl 1 rfl) ?_
  refine va_tb hx hb (hX.1.1 k hk).2.2.2 hS hj rfl pr_d2_8 ?_
  refine lv_sipush hx hb pr_d2_9 (v := 255) rfl ?_
  refine lv_iand hx hb pr_d2_12 ?_
  refine lv_i2c hx hb pr_d2_13 hfin.1 ?_
  exact W.zret hx hb hr hfin.2 (fun t ht _ => ⟨⟨_, (), rfl, rfl, trivial⟩, hS.F ht⟩) hS.2.2 pr_d2_14
section PRW
variable {l : Launch} {D : va_G} {tc : Nat → ClassId} {ad : Nat → Nat → Nat} {adV : Nat → Nat} {E : List (Nat × Nat)} {h : hs_H} {k sz d : Nat} {Q : hs_Q}
set_option maxHeartbeats 1000000 in
theorem pr_length (hk : k < 7) (hQ : Q (some (hs_i (nI (hs_txt k).length))) h) : Met l (hs_ms 900).1 (hs_kw (hs_ms 900)) (hs_rm d) (hs_Pre D tc ad adV E sz [hs_r 64 k] h) (hs_Post D tc ad E (hs_ms 900).2.2.2.2.1 Q (va_A (hs_ws tc ad E h) sz)) 0 0 (va_A (hs_ws tc ad E h) sz) := by
  refine hs_ofW (cc := prog_17_method_54_code) (maxL := 1) (ret := some .int) rfl rfl ?_
  intro p e s m args below meth c s₁ B hml hv
  obtain ⟨hargs, hsz, hP, hK, hD0, hXw⟩ := hv
  have hargs : args = ([.ref (ad 64 k)] : List Value).toArray := hargs
  subst hargs
  have hX := pr_narrow hXw
  have hx := B.exec
  have hb := B.bytes
  have hr := B.returns
  have hts0 := atoms_spec B.pre
  have hts : ∀ w ∈ hs_T, w.before ([.ref (ad 64 k)] : List Value).toArray s = true := fun w hw => hts0 w (List.mem_cons_of_mem _ hw)
  have hown : s.vm.findClass "java/lang/String" = some m.cls := findClass_of_methodNamed B.named
  rw [lg_entry_eq]
  have hl := lv_entry [.ref (ad 64 k)] (n := 1) (Nat.le_of_ble_eq_true rfl)
  generalize (lg_sl ([.ref (ad 64 k)]) ++ List.replicate (1 - (lg_sl ([.ref (ad 64 k)])).length) Slot.unset).toArray = ls at hl ⊢
  have hl : lv_has ls 1 [(0, .ref (ad 64 k))] := hl
  have hS : va_S (fun _ => False) s.heap s.heap [] := va_S.rf
  refine lv_aload_n hx hb pr_d5_0 rfl (lv_at hl 0 rfl) ?_
  refine vk_getf hx hb (hX.1.1 k hk).2.2.1 va_S.rf hown (hts _ (hs_has_in (k := 7) (i := 219) (by decide +kernel))) (fun _ h => h) pr_d5_1 ?_
  refine va_tlen hx hb (hX.1.1 k hk).2.2.2 va_S.rf rfl pr_d5_4 ?_
  refine lv_aload_n hx hb pr_d5_5 rfl (lv_at hl 0 rfl) ?_
  have hrun : va_Run p l e (headSpec (hs_kw (hs_ms 900)) (hs_rm d)).room s m [Value.ref (ad 64 k)].toArray below meth c s.heap [] 0 0 0 0 (F0 m 6 ls [.ref (ad 64 k), .int (Int32.ofNat (hs_slen.getD k 0))]) [.int (Int32.ofNat (hs_slen.getD k 0))] (pr_Q 0 [Value.ref (ad 64 k)].toArray) (fun _ => False) := va_runV (Ts := hs_T) (C := "java/lang/String") ⟨hx, hb, hml, hown, hts⟩ (pr_c0 hk) ⟨callB_of 0 hts (hs_good (M := pr_m0) (hs_has_in (k := 3) (i := 24) (by decide +kernel))) rfl rfl rfl (hts _ (hs_has_in (k := 1) (i := 14) (by decide +kernel))) (hts _ (hs_has_in (k := 3) (i := 21) (by decide +kernel))) ⟨by decide, by decide, by decide +kernel⟩ ⟨by show 0 + 1 ≤ d + 8; omega, by show 8 + (1 + 11) + 60 * 0 ≤ 60 * d + 400; omega⟩, hts _ (hs_has_in (k := 3) (i := 22) (by decide +kernel)), hts _ (hs_has_in (k := 3) (i := 23) (by decide +kernel))⟩ ⟨pr_blind, vk_recv hX.1 hk hS, pr_pre hX hS [.ref (ad 64 k)]⟩ rfl rfl hl.1 rfl (lv_room (Nat.le_of_ble_eq_true rfl)) pr_d5_6 ⟨Nat.le_refl _, Nat.le_refl _⟩
  refine va_calli (A0 := fun _ => False) hrun hS (fun _ _ h => h) (fun _ h => h) fun r u t H1 locs1 ht _ hw hB _ _ hS => ?_
  have hw : r = 0 := hw
  subst hw
  refine lv_ishr hx hb pr_d5_9 ?_
  rw [(pr_len k hk).2.2]
  exact W.iret hx hb hr (fun t ht hWm => ⟨⟨_, h, rfl, hQ, by rw [ht]; exact hP.kept (fun k q hq => hS.2.1 _ (hP k q hq).lt id), va_K.moved hWm.alike hK⟩, ⟨by rw [ht]; exact hS.1, fun q h1 h2 => by rw [ht]; exact hS.2.1 q h1 id⟩⟩) (fun q hq => (hS.2.2 q hq).elim) pr_d5_10
set_option maxHeartbeats 1000000 in
theorem pr_charAt (hk : k < 7) {j : Int32} (hj : vp_in j (hs_txt k).length) (hQ : Q (some (hs_i (nI ((hs_txt k).getD j.toNatClampNeg 0)))) h) : Met l (hs_ms 901).1 (hs_kw (hs_ms 901)) (hs_rm d) (hs_Pre D tc ad adV E sz [hs_r 64 k, hs_i j] h) (hs_Post D tc ad E (hs_ms 901).2.2.2.2.1 Q (va_A (hs_ws tc ad E h) sz)) 0 0 (va_A (hs_ws tc ad E h) sz) := by
  refine hs_ofW (cc := prog_17_method_56_code) (maxL := 2) (ret := some .char) rfl rfl ?_
  intro p e s m args below meth c s₁ B hml hv
  obtain ⟨hargs, hsz, hP, hK, hD0, hXw⟩ := hv
  have hargs : args = ([.ref (ad 64 k), .int j] : List Value).toArray := hargs
  subst hargs
  have hX := pr_narrow hXw
  have hx := B.exec
  have hb := B.bytes
  have hr := B.returns
  have hts0 := atoms_spec B.pre
  have hts : ∀ w ∈ hs_T, w.before ([.ref (ad 64 k), .int j] : List Value).toArray s = true := fun w hw => hts0 w (List.mem_cons_of_mem _ hw)
  have hown : s.vm.findClass "java/lang/String" = some m.cls := findClass_of_methodNamed B.named
  rw [lg_entry_eq]
  have hl := lv_entry [.ref (ad 64 k), .int j] (n := 2) (Nat.le_of_ble_eq_true rfl)
  generalize (lg_sl ([.ref (ad 64 k), .int j]) ++ List.replicate (2 - (lg_sl ([.ref (ad 64 k), .int j])).length) Slot.unset).toArray = ls at hl ⊢
  have hl : lv_has ls 2 [(0, .ref (ad 64 k)), (1, .int j)] := hl
  have hS : va_S (fun _ => False) s.heap s.heap [] := va_S.rf
  rw [← (pr_len k hk).1] at hj
  have hfin := pr_fin k hk j.toNatClampNeg (Nat.not_le.mp fun q => hj (Or.inr q))
  refine lv_aload_n hx hb pr_d6_0 rfl (lv_at hl 0 rfl) ?_
  have hrun : va_Run p l e (headSpec (hs_kw (hs_ms 901)) (hs_rm d)).room s m [Value.ref (ad 64 k), .int j].toArray below meth c s.heap [] 0 0 0 0 (F0 m 1 ls [.ref (ad 64 k)]) [] (pr_Q 1 [Value.ref (ad 64 k)].toArray) (fun _ => False) := va_runV (Ts := hs_T) (C := "java/lang/String") ⟨hx, hb, hml, hown, hts⟩ (pr_c1 hk) ⟨callB_of 0 hts (hs_good (M := pr_m1) (hs_has_in (k := 3) (i := 34) (by decide +kernel))) rfl rfl rfl (hts _ (hs_has_in (k := 1) (i := 14) (by decide +kernel))) (hts _ (hs_has_in (k := 3) (i := 31) (by decide +kernel))) ⟨by decide, by decide, by decide +kernel⟩ ⟨by show 0 + 1 ≤ d + 8; omega, by show 8 + (1 + 11) + 60 * 0 ≤ 60 * d + 400; omega⟩, hts _ (hs_has_in (k := 3) (i := 32) (by decide +kernel)), hts _ (hs_has_in (k := 3) (i := 33) (by decide +kernel))⟩ ⟨pr_blind, vk_recv hX.1 hk hS, pr_pre hX hS [.ref (ad 64 k)]⟩ rfl rfl hl.1 rfl (lv_room (Nat.le_of_ble_eq_true rfl)) pr_d6_1 ⟨Nat.le_refl _, Nat.le_refl _⟩
  refine va_calli (A0 := fun _ => False) hrun hS (fun _ _ h => h) (fun _ h => h) fun r u t H1 locs1 ht _ hw hB _ _ hS => ?_
  have hw : r = 1 := hw
  subst hw
  refine lv_if_eq hx hb pr_d6_4 (tgt := 16) rfl (fun q => absurd q (by decide)) (fun _ => ?_)
  refine lv_aload_n hx hb pr_d6_7 rfl (lv_at hl 0 rfl) ?_
  refine vk_getf hx hb (hX.1.1 k hk).2.2.1 hS hown (hts _ (hs_has_in (k := 7) (i := 219) (by decide +kernel))) (fun _ h => h) pr_d6_8 ?_
  refine lv_iload_n hx hb pr_d6_11 rfl (lv_at hl 1 rfl) ?_
  have hrun : va_Run p l e (headSpec (hs_kw (hs_ms 901)) (hs_rm d)).room s m [Value.ref (ad 64 k), .int j].toArray below meth c H1 locs1 (0 + 0) (0 + 0) 0 0 (F0 m 12 ls [.int j, .ref (adV k)]) [] (pr_Q (nI ((hs_txt k).getD j.toNatClampNeg 0)) [Value.ref (adV k), .int j].toArray) (fun _ => False) := (va_runS (Ts := hs_T) ⟨hx, hb, hml, hown, hts⟩ (pr_c2 hk hj) ⟨callB_of 2 hts (hs_good (M := pr_m2) (hs_has_in (k := 3) (i := 37) (by decide +kernel))) rfl rfl rfl (hts _ (hs_has_in (k := 1) (i := 15) (by decide +kernel))) (hts _ (hs_has_in (k := 3) (i := 35) (by decide +kernel))) ⟨by decide, by decide, by decide +kernel⟩ ⟨by show 2 + 1 ≤ d + 8; omega, by show 8 + (2 + 11) + 60 * 2 ≤ 60 * d + 400; omega⟩, hts _ (hs_has_in (k := 3) (i := 36) (by decide +kernel))⟩ ⟨pr_blind, pr_pre hX hS [Value.ref (adV k), .int j]⟩ rfl rfl (hl.1) rfl (lv_room (Nat.le_of_ble_eq_true rfl)) pr_d6_12 ⟨Nat.le_refl _, Nat.le_refl _⟩)
  refine va_calli (A0 := fun _ => False) hrun hS (fun _ _ h => h) (fun _ h => h) fun r u t H1 locs1 ht _ hw hB _ _ hS => ?_
  have hw : r = nI ((hs_txt k).getD j.toNatClampNeg 0) := hw
  subst hw
  exact W.zret hx hb hr hfin.2 (fun t ht hWm => ⟨⟨_, h, rfl, hQ, by rw [ht]; exact hP.kept (fun k q hq => hS.2.1 _ (hP k q hq).lt id), va_K.moved hWm.alike hK⟩, ⟨by rw [ht]; exact hS.1, fun q h1 h2 => by rw [ht]; exact hS.2.1 q h1 id⟩⟩) (fun q hq => (hS.2.2 q hq).elim) pr_d6_15
theorem pr_prim {y : Nat} {a : List hs_V} (w : hs_prim y a h Q) : Met l (hs_ms y).1 (hs_kw (hs_ms y)) (hs_rm d) (hs_Pre D tc ad adV E sz a h) (hs_Post D tc ad E (hs_ms y).2.2.2.2.1 Q (va_A (hs_ws tc ad E h) sz)) 0 0 (va_A (hs_ws tc ad E h) sz) := by
  unfold hs_prim at w
  split at w
  next c k =>
    cases h1 : Nat.beq y 900 with
    | false => rw [h1] at w; exact w.elim
    | true =>
      rw [h1] at w
      obtain rfl := Nat.eq_of_beq_eq_true h1
      cases h2 : Nat.beq c 64 with
      | false => rw [h2] at w; exact w.elim
      | true =>
        rw [h2] at w
        obtain rfl := Nat.eq_of_beq_eq_true h2
        exact pr_length w.1 w.2
  next c k j =>
    cases h1 : Nat.beq y 901 with
    | false => rw [h1] at w; exact w.elim
    | true =>
      rw [h1] at w
      obtain rfl := Nat.eq_of_beq_eq_true h1
      cases h2 : Nat.beq c 64 with
      | false => rw [h2] at w; exact w.elim
      | true =>
        rw [h2] at w
        obtain rfl := Nat.eq_of_beq_eq_true h2
        exact pr_charAt w.1 w.2.1 w.2.2
  next => exact w.elim
end PRW
