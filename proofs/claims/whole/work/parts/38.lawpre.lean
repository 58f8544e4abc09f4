/-! What holds where the law begins: the classes, the array classes, the texts, two statics. -/
theorem ls_arr {args : Array Value} {s : State} {ty : FieldType} (h : (Cond.arrayClass ty).before args s = true) (hne : ∀ C, ty ≠ .object C) : ∃ c : ClassId, ArrOfT s c ty ∧ va_RA s c ty := by
  obtain ⟨c, k, comp, h1, h2, h3⟩ := Cond.arrayClass_spec (args := args) (first := s) (o := none) (s := s) (idx := []) h
  refine ⟨c, fun n z => ⟨fun q hq => (by cases hq), k, h2, comp, h3⟩, ?_⟩
  cases ty with
  | object C => exact absurd rfl (hne C)
  | _ => exact h1
theorem ls_arrO {s : State} {C : String} (h : va_AO C s) : ∃ c : ClassId, ArrOfT s c (.object C) ∧ va_RA s c (.object C) := by
  obtain ⟨comp, c, k, h1, -, h3, h4, h5⟩ := Cond.arrayOver_spec (args := #[]) (first := s) (o := none) (s := s) (idx := []) (n := C) h
  exact ⟨c, fun n z => ⟨fun q hq => (by cases hq), k, h3, comp, h4⟩, k, comp, h3, h4, h1, h5⟩
theorem ls_arrA {s : State} {t : FieldType} (h : va_AOA t s) : ∃ c : ClassId, ArrOfT s c (.array t) ∧ va_RA s c (.array t) := by
  have h' : (Cond.arrayOver (.array t)).holds #[] s none s [] = true := h
  simp only [Cond.holds, Cond.value, beq_iff_eq] at h'
  cases hc : s.vm.findClass (FieldType.array t).toString with
  | none => simp [hc] at h'
  | some comp =>
    simp only [hc, Option.bind_some, Option.bind_eq_some_iff, Option.map_eq_some_iff] at h'
    obtain ⟨c, hi, k, hk, hb⟩ := h'
    obtain ⟨hlt, hp, -⟩ := Array.findIdx?_eq_some_iff_getElem.mp hi
    have hkk : s.vm.classes[c] = k := (Array.getElem?_eq_some_iff.mp hk).2
    rw [hkk] at hp
    cases hkind : k.kind with
    | array component ty =>
      rw [hkind] at hb hp
      simp at hb hp
      obtain ⟨hb1, hb2⟩ := hb
      subst hb1
      exact ⟨c, fun n z => ⟨fun q hq => (by cases hq), k, hk, component, hkind⟩, hb2⟩
    | _ => rw [hkind] at hb; simp at hb
theorem ls_inst : ∀ (c : Nat) (q : vw_C), vwCl[c]? = some q → Cond.instantiable q.1 q.2.2 ∈ hs_T := by
  intro c q hq
  match c, hq with
  | 0, hq => cases hq; exact hs_has_in (k := 2) (i := 21) (by decide +kernel)
  | 1, hq => cases hq; exact hs_has_in (k := 2) (i := 65) (by decide +kernel)
  | 2, hq => cases hq; exact hs_has_in (k := 1) (i := 238) (by decide +kernel)
  | 3, hq => cases hq; exact hs_has_in (k := 2) (i := 119) (by decide +kernel)
  | 4, hq => cases hq; exact hs_has_in (k := 1) (i := 29) (by decide +kernel)
  | 5, hq => cases hq; exact hs_has_in (k := 1) (i := 98) (by decide +kernel)
  | 6, hq => cases hq; exact hs_has_in (k := 1) (i := 124) (by decide +kernel)
  | 7, hq => cases hq; exact hs_has_in (k := 2) (i := 90) (by decide +kernel)
  | 8, hq => cases hq; exact hs_has_in (k := 2) (i := 147) (by decide +kernel)
  | 9, hq => cases hq; exact hs_has_in (k := 1) (i := 79) (by decide +kernel)
  | 10, hq => cases hq; exact hs_has_in (k := 1) (i := 175) (by decide +kernel)
  | 11, hq => cases hq; exact hs_has_in (k := 1) (i := 21) (by decide +kernel)
  | 12, hq => cases hq; exact hs_has_in (k := 5) (i := 191) (by decide +kernel)
  | _ + 13, hq => cases hq
theorem ls_Y {args : Array Value} {s : State} (hts : ∀ w ∈ lw_tbl, w.before args s = true) : b2_Y s :=
  ⟨fun w hw => hs_N_of hw (hts w (List.mem_filter.mp hw).1), va_AO.of (hts (.arrayOver (.object "HuntedScent$Image")) (hs_seg_in 2 _ (List.mem_of_getElem? (i := 116) (by decide +kernel)))),
   va_AO.of (hts (.arrayOver (.object "HuntedScent$Sheet")) (hs_seg_in 2 _ (List.mem_of_getElem? (i := 118) (by decide +kernel)))), va_AOA.of (hts (.arrayOver (.array .int)) (hs_seg_in 1 _ (List.mem_of_getElem? (i := 181) (by decide +kernel))))⟩
theorem ls_K {args : Array Value} {s : State} (hts : ∀ w ∈ lw_tbl, w.before args s = true) : ∃ (D : va_G) (tc : Nat → ClassId), va_K D vwCl (hs_tys tc) s := by
  have hN : ∀ c : Nat, ∃ q0 : ClassId × (Nat → Nat), ∀ q : vw_C, vwCl[c]? = some q → u_Kn s q.1 q.2.1 q.2.2 q0.1 q0.2 := by
    intro c
    cases hq : vwCl[c]? with
    | none => exact ⟨(0, fun _ => 0), fun q h => by cases h⟩
    | some q =>
      obtain ⟨cC, iS, h⟩ := u_known (ws := hs_T) (fun w hw => hts w (hs_T_in hw)) (hs_cls_all c q hq).1 (hts _ (hs_T_in (ls_inst c q hq)))
      exact ⟨(cC, iS), fun q2 h2 => by cases h2; exact h⟩
  obtain ⟨dd, hd⟩ := Classical.axiomOfChoice hN
  obtain ⟨_, hY2, hY3, hY4⟩ := ls_Y hts
  obtain ⟨c0, a0⟩ := ls_arr (hts (.arrayClass .int) (hs_T_in (hs_has_in (k := 1) (i := 77) (by decide +kernel)))) (fun C h => by cases h)
  obtain ⟨c1, a1⟩ := ls_arr (hts (.arrayClass .boolean) (hs_T_in (hs_has_in (k := 6) (i := 91) (by decide +kernel)))) (fun C h => by cases h)
  obtain ⟨c2, a2⟩ := ls_arr (hts (.arrayClass .long) (hs_T_in (hs_has_in (k := 6) (i := 92) (by decide +kernel)))) (fun C h => by cases h)
  obtain ⟨c3, a3⟩ := ls_arrO hY2
  obtain ⟨c4, a4⟩ := ls_arrO hY3
  obtain ⟨c5, a5⟩ := ls_arrA hY4
  refine ⟨(fun c => (dd c).1, fun c => (dd c).2), fun t => ([c0, c1, c2, c3, c4, c5] : List Nat).getD t 0, hd, fun k q hq => ?_⟩
  match k, hq with
  | 0, hq => cases hq; exact a0
  | 1, hq => cases hq; exact a1
  | 2, hq => cases hq; exact a2
  | 3, hq => cases hq; exact a3
  | 4, hq => cases hq; exact a4
  | 5, hq => cases hq; exact a5
  | _ + 6, hq => cases hq
def ls_tm (k : Nat) : Term := .string "HuntedScent$Reader" (hs_spix k)
def ls_in (w : Cond) : Bool := decide (w ∈ flatC (Jvm.Cond.and given_1 narrow_1))
theorem ls_f1 : ∀ i, i < 7 → ls_in (.exactly (ls_tm i) "java/lang/String") = true ∧ ls_in (.eq (.field (ls_tm i) "java/lang/String" "coder" "B") (.int 0)) = true ∧ ls_in (.arrayOf (.field (ls_tm i) "java/lang/String" "value" "[B") .byte) = true ∧ ls_in (.eq (.length (.field (ls_tm i) "java/lang/String" "value" "[B")) (.int (Int32.ofNat (hs_slen.getD i 0)))) = true := by decide +kernel
theorem ls_f2 : ∀ i, i < 7 → ∀ j, j < hs_slen.getD i 0 → ls_in (.eq (.elem (.field (ls_tm i) "java/lang/String" "value" "[B") (.int (Int32.ofNat j))) (.int ((hs_sbyt.getD i []).getD j 0))) = true := by decide +kernel
theorem ls_f3 : ∀ i, i < 7 → ∀ j, j < 7 → i ≠ j → (ls_in (.not (.eq (ls_tm i) (ls_tm j))) = true ∨ ls_in (.not (.eq (ls_tm j) (ls_tm i))) = true) := by decide +kernel
theorem ls_f4 : ∀ i, i < 7 → hs_slen.getD i 0 < 2147483648 := by decide +kernel
theorem ls_f5 : ∀ i, i < 7 → Cond.stringRef "HuntedScent$Reader" (hs_spix i) (hs_stx i) ∈ lw_tbl := by
  intro i hi
  match i, hi with
  | 0, _ => exact hs_seg_in 3 _ (List.mem_of_getElem? (i := 12) (by decide +kernel))
  | 1, _ => exact hs_seg_in 3 _ (List.mem_of_getElem? (i := 85) (by decide +kernel))
  | 2, _ => exact hs_seg_in 3 _ (List.mem_of_getElem? (i := 90) (by decide +kernel))
  | 3, _ => exact hs_seg_in 3 _ (List.mem_of_getElem? (i := 103) (by decide +kernel))
  | 4, _ => exact hs_seg_in 3 _ (List.mem_of_getElem? (i := 123) (by decide +kernel))
  | 5, _ => exact hs_seg_in 3 _ (List.mem_of_getElem? (i := 129) (by decide +kernel))
  | 6, _ => exact hs_seg_in 3 _ (List.mem_of_getElem? (i := 134) (by decide +kernel))
  | i + 7, hi => omega
theorem ls_X {args : Array Value} {s : State} (hts : ∀ w ∈ lw_tbl, w.before args s = true) (hgv : (Jvm.Cond.and given_1 narrow_1).before args s = true) : ∃ adT adV : Nat → Nat, hs_X (fun _ k => adT k) adV (fun q => s.heap.size ≤ q) s s.heap := by
  have hA : ∀ a : Nat, a < s.heap.size → ¬ (fun q : Nat => s.heap.size ≤ q) a := fun a h => Nat.not_le.mpr h
  have hin : ∀ w : Cond, ls_in w = true → w.before args s = true := fun w hw => flat_of_before _ hgv w (of_decide_eq_true hw)
  obtain ⟨adT, adV, hS, ht⟩ := vk_Sof (args := args) (s := s) (N := 7) (tm := ls_tm) (len := hs_slen) (byt := hs_sbyt) (A := fun q => s.heap.size ≤ q) (fun i hi => by have := ls_f4 i hi; omega) (fun i hi => hin _ (ls_f1 i hi).1) (fun i hi => hin _ (ls_f1 i hi).2.1) (fun i hi => hin _ (ls_f1 i hi).2.2.1) (fun i hi => hin _ (ls_f1 i hi).2.2.2) (fun i hi j hj => hin _ (ls_f2 i hi j hj))
    (fun i j hi hj hij => (ls_f3 i hi j hj hij).elim (fun h => Or.inl (hin _ h)) (fun h => Or.inr (hin _ h))) hA
  refine ⟨adT, adV, hS, fun k hk => ?_, ?_, ?_, fun w hw => hs_N_of hw (hts w (List.mem_filter.mp hw).1)⟩
  · exact vk_R.of (hts _ (ls_f5 k hk)) (ht k hk)
  · exact va_Zof (args := args) (hts _ (hs_seg_in 3 _ (List.mem_of_getElem? (i := 26) (by decide +kernel)))) (hts (.initialized "java/lang/String") (hs_seg_in 1 _ (List.mem_of_getElem? (i := 14) (by decide +kernel)))) (va_eqt (hin (.eq (.static "java/lang/String" "COMPACT_STRINGS" "Z") (.int 1)) (by decide +kernel))) hA
  · exact va_Zqof (args := args) (hts _ (hs_seg_in 3 _ (List.mem_of_getElem? (i := 42) (by decide +kernel)))) (hts (.initialized "jdk/internal/util/Preconditions") (hs_seg_in 1 _ (List.mem_of_getElem? (i := 16) (by decide +kernel)))) (hin (.isRef (.static "jdk/internal/util/Preconditions" "SIOOBE_FORMATTER" "Ljava/util/function/BiFunction;")) (by decide +kernel)) hA
