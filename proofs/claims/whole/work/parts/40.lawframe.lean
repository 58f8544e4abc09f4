/-! The law's frame as far as 18: the two objects are made; then the small machine. -/
section LF
variable {p : Program} {l : Launch} {e : Env} {R : Room} {s : State} {m : MethodId} {args : Array Value} {below : List Frame} {meth : Method} {c : Code} {Qe : State → Prop}
variable {D : va_G} {tc : Nat → ClassId} {A : Nat → Prop} {cc : ByteArray} {own : String} {adr : List Nat} {w : b2_W} {ls : Array Slot} {H : Heap} {locs : List Loc} {pc cells slots : Nat}
theorem lf_new {index c0 : Nat} {q : vw_C} {rest : List Value} (hx : p.tables.exec = Jvm.exec) (hb : c.code = cc) (hts : ∀ w ∈ hs_T, w.before args s = true) (hown : s.vm.findClass own = some m.cls) (hK : va_K D vwCl (hs_tys tc) s) (hA : ∀ q, s.heap.size ≤ q → A q) (h1 : adr.length = w.length) (h2 : b2_wf w = true)
    (hP : va_P D vwCl (b2_ws tc adr w) H) (hD : va_D A (b2_ws tc adr w)) (hS : va_S A s.heap H locs) (hq : vwCl[c0]? = some q) (hl1 : Cond.classLink own index q.1 ∈ hs_T) (hl2 : Cond.instantiable q.1 q.2.2 ∈ hs_T) (hl3 : Cond.initialized q.1 ∈ hs_T)
    (hf : (List.range q.2.2).all (fun k => match parseFieldDescriptor (q.2.1 k).2.2.1 with
        | some .int => true
        | some .boolean => true
        | some (.object _) => true
        | some (.array _) => true
        | _ => false) = true) (hcells : cells + 1 ≤ R.cells) (hslots : slots + q.2.2 ≤ R.slots) (hdg : decode cc pc = .ok (.new index, 3))
    (kk : ∀ (q1 : Nat) (H1 : Heap), va_P D vwCl (b2_ws tc (adr ++ [q1]) (w ++ [b2_new c0])) H1 → va_D A (b2_ws tc (adr ++ [q1]) (w ++ [b2_new c0])) → va_S A s.heap H1 locs → W p l e R s m args below meth c H1 locs (cells + 1) (slots + q.2.2) Qe (F0 m (pc + 3) ls (.ref q1 :: rest))) :
    W p l e R s m args below meth c H locs cells slots Qe (F0 m pc ls rest) := by
  obtain ⟨hin0, ⟨ty0, hty0⟩, hnm⟩ := hs_cls_all c0 q hq
  have hcv : ∀ adr : List Nat, b2_ce tc adr (b2_new c0) = .inr (c0, (List.range q.2.2).map (fun k => defaultValue (ty0 k))) := by
    intro adr
    unfold b2_new
    rw [hq]
    show Sum.inr (c0, List.map _ (List.map _ _)) = Sum.inr (c0, _)
    rw [List.map_map]
    congr 2
    apply List.map_congr_left
    intro k hk
    have hk2 : k < q.2.2 := List.mem_range.mp hk
    have h5 := List.all_eq_true.mp hf k hk
    show hs_cv (b2_ad adr) (b2_dfl ((parseFieldDescriptor (q.2.1 k).2.2.1).getD .int)) = defaultValue (ty0 k)
    rw [hty0 k hk2] at h5 ⊢
    show hs_cv (b2_ad adr) (b2_dfl (ty0 k)) = _
    apply b2_dfl_cv
    generalize ty0 k = T at h5
    cases T
    case int => exact Or.inl rfl
    case boolean => exact Or.inr (Or.inl rfl)
    case object C => exact Or.inr (Or.inr (Or.inl ⟨C, rfl⟩))
    case array t => exact Or.inr (Or.inr (Or.inr ⟨t, rfl⟩))
    all_goals cases h5
  refine va_new (ci := c0) (C := q.1) (T := q.2.1) (N := q.2.2) (fs := (List.range q.2.2).map (fun k => defaultValue (ty0 k))) hx hb hts hin0 ty0 hty0 hown (hts _ hl1) (hts _ hl2) (hts _ hl3) hK hP hD hS hA hq (fun j hj => ?_) hcells hslots hdg (fun q1 H1 hP hD hS => ?_)
  · unfold vp_V
    rw [List.getD_eq_getElem?_getD, List.getElem?_map, List.getElem?_range hj]
    rfl
  · have hz : b2_ws tc (adr ++ [q1]) (w ++ [b2_new c0]) = b2_ws tc adr w ++ [(q1, .inr (c0, (List.range q.2.2).map (fun k => defaultValue (ty0 k))))] := by
      rw [b2_ws_app h1 h2]
      show _ ++ [(q1, b2_ce tc (adr ++ [q1]) (b2_new c0))] = _
      rw [hcv]
    exact kk q1 H1 (by rw [hz]; exact hP) (by rw [hz]; exact hD) hS
end LF
theorem lf_wf11 : b2_wf [b2_new 11] = true := by decide +kernel
theorem lf_d0 : decode code 0 = .ok (.new 7, 3) := by decide +kernel
theorem lf_d3 : decode code 3 = .ok (.dup, 1) := by decide +kernel
theorem lf_d4 : decode code 4 = .ok (.invokespecial 9, 3) := by decide +kernel
theorem lf_d7 : decode code 7 = .ok (.astore_n 1, 1) := by decide +kernel
theorem lf_d8 : decode code 8 = .ok (.new 10, 3) := by decide +kernel
theorem lf_d11 : decode code 11 = .ok (.dup, 1) := by decide +kernel
theorem lf_d12 : decode code 12 = .ok (.invokespecial 12, 3) := by decide +kernel
theorem lf_d15 : decode code 15 = .ok (.astore_n 2, 1) := by decide +kernel
theorem lf_d16 : decode code 16 = .ok (.iconst 0, 1) := by decide +kernel
theorem lf_d17 : decode code 17 = .ok (.istore_n 3, 1) := by decide +kernel
theorem lf_fld11 : (List.range 12).all (fun k => match parseFieldDescriptor (TX11 k).2.2.1 with
        | some .int => true
        | some .boolean => true
        | some (.object _) => true
        | some (.array _) => true
        | _ => false) = true := by decide +kernel
theorem lf_fld12 : (List.range 42).all (fun k => match parseFieldDescriptor (TX12 k).2.2.1 with
        | some .int => true
        | some .boolean => true
        | some (.object _) => true
        | some (.array _) => true
        | _ => false) = true := by decide +kernel
def R_law : String := "HuntedScentLaw"
def lw_P (b : Addr) (xs : List Int32) (args : Array Value) (s : State) : Prop := args = #[.ref b] ∧ s.IntsAt b xs ∧ xs.length ≤ 320 ∧ (Jvm.Cond.and given_1 narrow_1).before args s = true
def lw_Q (_ : Array Value) (s : State) (o : Outcome) (t : State) : Prop := o = .returned (some (.int 1)) ∧ Framed s o t [] 600000 7302250
def lw_Z (below : List Frame) (a : Array Value) (s : State) : State → Prop := fun t => ∃ o, t.status = .running ∧ Ended t below o ∧ lw_Q a s o t
/-- the law's own end, with 1 on the stack, nothing written that was there before, its room as the claim has it -/
theorem lw_ret {p : Program} {l : Launch} {e : Env} {s : State} {m : MethodId} {below : List Frame} {meth : Method} {c : Code} {b : Nat} (hx : p.tables.exec = Jvm.exec) (hb : c.code = code) (hr : meth.sig.returnType = ret) (hlocks : meth.locks = false) {pc : Nat} {H : Heap} {ls : Array Slot} (hdg : decode code pc = .ok (.ireturn, 1)) : W p l e room_1 s m #[Value.ref b] below meth c H [] 600000 7302250 (lw_Z below #[Value.ref b] s) (F0 m pc ls [.int 1]) := by
  intro T hT X
  obtain ⟨fs, hret, hrun, hended, hW, hframe⟩ := X.leave (v := some (.int 1)) (hlocks := hlocks) (fun h => by rw [hr] at h; cases h)
  have hmeth' : T.vm.method? m = some meth := X.method'
  refine ⟨T.setFrames fs, ?_, .returned (some (.int 1)), hrun, hended, rfl, ⟨_, rfl⟩, hW, hframe⟩
  jvm_step X.here [X.here.top, hx, hb, hdg, hmeth', hr, ret, narrow_b1]
  (try refine ⟨rfl, ?_⟩); (try refine ⟨rfl, ?_⟩)
  first | (intro acts; rw [hret _ acts rfl rfl rfl]) | rw [hret _ _ rfl rfl rfl]
  exact Steps.refl _
/-- what holds at the law's entry: the machine, the code, the tables' words (any of lw_tbl by 'hts w (by decide +kernel)'), the script of L ints xs at the cell b, what the Statement gives of the start (any of its parts by flat_of_before) -/
def lw_At (p : Program) (s : State) (m : MethodId) (meth : Method) (c : Code) (b L : Nat) (xs : Nat → Int32) : Prop :=
  p.tables.exec = Jvm.exec ∧ c.code = code ∧ meth.sig.returnType = ret ∧ c.maxLocals = 4 ∧ s.vm.findClass R_law = some m.cls ∧ (∀ w ∈ lw_tbl, w.before #[Value.ref b] s = true) ∧ va_X b L xs s s.heap ∧ b < s.heap.size ∧ meth.locks = false ∧ (Jvm.Cond.and given_1 narrow_1).before #[Value.ref b] s = true
/-- what is owed of the functions: on every script the law's answers 1 -/
def lf_owed (h2 : hs_H) : Prop := ∀ S : hs_S, S.1 ≤ 320 → ∃ h' : hs_H, hf_law S 0 h2 = some (1, h')
set_option maxHeartbeats 2000000 in
theorem lf_start {E : List (Nat × Nat)} {w1 w2 : b2_W} {al : List hs_V} {mc1 ms1 mcq msq : Nat} {h0 h1 h2 : hs_H} (hyp : lf_Hyp E w1 w2 al mc1 ms1 mcq msq h0 h1 h2) (owed : lf_owed h2) (hM : b2_Mna) {p : Program} {e : Env} {s : State} {m : MethodId} {below : List Frame} {meth : Method} {c : Code} (l : Launch) {b L : Nat} {xs : Nat → Int32} (hL : L ≤ 320) (C0 : lw_At p s m meth c b L xs) : W p l e room_1 s m #[Value.ref b] below meth c s.heap [] 0 0 (lw_Z below #[Value.ref b] s) (entryFrame m ([Value.ref b] : List Value).toArray 4) := by
  obtain ⟨hx, hb, hr, hml, hown, htbl, hXs, hbl, hlocks, hgv⟩ := C0
  have hown : s.vm.findClass "HuntedScentLaw" = some m.cls := hown
  have hts : ∀ w ∈ hs_T, w.before #[Value.ref b] s = true := fun w hw => htbl w (hs_T_in hw)
  obtain ⟨D, tc, hK⟩ := ls_K htbl
  obtain ⟨adT, adV, hX⟩ := ls_X htbl hgv
  have hY := ls_Y htbl
  have hyp0 := hyp
  obtain ⟨hc1, -, ⟨c1, c2, k4, k5⟩, ⟨c4, k6, c5⟩, -, ⟨k7, k8⟩, ⟨hsame, h64, hclo, hnod⟩, -⟩ := hyp0
  have hA : ∀ q : Nat, s.heap.size ≤ q → (fun q : Nat => s.heap.size ≤ q) q := fun _ h => h
  have hP : va_P D vwCl (b2_ws tc [] []) s.heap := fun k q h => by cases h
  have hD : va_D (fun q : Nat => s.heap.size ≤ q) (b2_ws tc [] []) := ⟨fun i j p q h => (by cases h), fun k q h => (by cases h)⟩
  have hS : va_S (fun q : Nat => s.heap.size ≤ q) s.heap s.heap [] := va_S.rf
  have hl := lv_entry ([.ref b]) (n := 4) (Nat.le_of_ble_eq_true rfl)
  rw [lg_entry_eq]
  generalize (lg_sl ([.ref b]) ++ List.replicate (4 - (lg_sl ([.ref b])).length) Slot.unset).toArray = ls at hl ⊢
  have hl : lv_has ls 4 [(0, .ref b)] := hl
  refine lf_new (own := "HuntedScentLaw") (adr := []) (w := []) (c0 := 11) hx hb hts hown hK hA rfl rfl hP hD hS rfl (hs_has_in (k := 1) (i := 20) (by decide +kernel)) (hs_has_in (k := 1) (i := 21) (by decide +kernel)) (hs_has_in (k := 1) (i := 1) (by decide +kernel)) lf_fld11 (Nat.le_of_ble_eq_true rfl) (Nat.le_of_ble_eq_true rfl) lf_d0 (fun q0 H hP hD hS => ?_)
  have hP : va_P D vwCl (b2_ws tc [q0] [b2_new 11]) H := hP
  have hD : va_D (fun q : Nat => s.heap.size ≤ q) (b2_ws tc [q0] [b2_new 11]) := hD
  refine W.widen (k := 1) (n := 12) (Nat.le_refl _) (Nat.le_refl _) ?_
  refine lv_dup hx hb lf_d3 rfl ?_
  have hF : ∀ q, va_A (b2_ws tc [q0] [b2_new 11]) H.size q → s.heap.size ≤ q := by
    intro q hq
    rcases hq with ⟨k, e, hk⟩ | hq
    · exact hD.2 k (q, e) hk
    · exact Nat.le_trans hS.1 hq
  have hmet := (b2_sound (l := l) (D := D) (tc := tc) hM b2_ms_ok hs_cls_all 6 11 [hs_r 11 0] [b2_new 11] w1 _ _ hc1).2 [q0] rfl lf_wf11 (fun v hv => by
    obtain rfl := List.mem_singleton.mp hv
    exact ⟨Nat.zero_lt_one, rfl⟩) H.size
  have hps : PreS s H (b2_Pre D tc [q0] [b2_new 11] H.size [hs_r 11 0]) [Value.ref q0] :=
    ⟨b2_blind, fun U hU hwarm => ⟨rfl, by rw [hU], by rw [hU]; exact hP, va_K.moved hwarm.alike hK, hD.weaken (fun _ _ _ _ => trivial), hY.to hwarm⟩⟩
  have hrun : va_Run p l e room_1 s m #[Value.ref b] below meth c H [] 1 12 mc1 ms1 (F0 m 4 ls [.ref q0, .ref q0]) [.ref q0] (b2_Post D tc [q0] w1 (va_A (b2_ws tc [q0] [b2_new 11]) H.size) [Value.ref q0].toArray) (va_A (b2_ws tc [q0] [b2_new 11]) H.size) :=
    va_runI (Ts := hs_T) (y := b2_m11.1) ⟨hx, hb, hml, hown, hts⟩ hmet ⟨callB_of (ret := none) 0 hts (hs_good (M := b2_m11) (hs_has_in (k := 1) (i := 24) (by decide +kernel))) rfl rfl rfl (hts _ (hs_has_in (k := 1) (i := 1) (by decide +kernel))) (hts _ (hs_has_in (k := 1) (i := 22) (by decide +kernel))) ⟨by decide, by decide, by decide +kernel⟩ ⟨Nat.le_of_ble_eq_true rfl, Nat.le_of_ble_eq_true rfl⟩, rfl, hts _ (hs_has_in (k := 1) (i := 23) (by decide +kernel))⟩ hps rfl rfl hl.1 rfl (lv_room (Nat.le_of_ble_eq_true rfl)) lf_d4 ⟨by show 1 + mc1 ≤ 600000; omega, by show 12 + ms1 ≤ 7302250; omega⟩
  refine va_callv (A0 := fun q : Nat => s.heap.size ≤ q) hrun hS (fun q _ hq => hF q hq) hF fun adr1 t H1 locs1 ht hvm hw hB _ _ hS => ?_
  obtain ⟨hl1, he1⟩ := hw
  obtain ⟨hP1, -, hD1⟩ := hB
  rw [ht] at hP1
  have hD1 : va_D (fun q : Nat => s.heap.size ≤ q) (b2_ws tc adr1 w1) := hD1.weaken (fun _ q _ hq => hF _ hq)
  refine lv_astore_n (lv' := [(1, .ref q0), (0, .ref b)]) hx hb lf_d7 rfl hl (by decide) rfl (fun ls hl => ?_)
  refine lf_new (own := "HuntedScentLaw") (c0 := 12) hx hb hts hown hK hA hl1 c4 hP1 hD1 hS rfl (hs_has_in (k := 5) (i := 190) (by decide +kernel)) (hs_has_in (k := 5) (i := 191) (by decide +kernel)) (hs_has_in (k := 1) (i := 13) (by decide +kernel)) lf_fld12 (by show 1 + mc1 + 1 ≤ 600000; omega) (by show 12 + ms1 + 42 ≤ 7302250; omega) lf_d8 (fun qm H hP hD hS => ?_)
  have hP : va_P D vwCl (b2_ws tc (adr1 ++ [qm]) (w1 ++ [b2_new 12])) H := hP
  have hD : va_D (fun q : Nat => s.heap.size ≤ q) (b2_ws tc (adr1 ++ [qm]) (w1 ++ [b2_new 12])) := hD
  refine lv_dup hx hb lf_d11 rfl ?_
  have hlen2 : (adr1 ++ [qm]).length = (w1 ++ [b2_new 12]).length := by
    rw [List.length_append, List.length_append, hl1]
    rfl
  have hqm : (adr1 ++ [qm]).getD w1.length 0 = qm := by
    rw [List.getD_eq_getElem?_getD, List.getElem?_append_right (by omega), hl1, Nat.sub_self]
    rfl
  have hF2 : ∀ q, va_A (b2_ws tc (adr1 ++ [qm]) (w1 ++ [b2_new 12])) H.size q → s.heap.size ≤ q := by
    intro q hq
    rcases hq with ⟨k, e, hk⟩ | hq
    · exact hD.2 k (q, e) hk
    · exact Nat.le_trans hS.1 hq
  have hmet2 := mc_met hM hyp (l := l) (D := D) (tc := tc) (adT := adT) (adV := adV) (b := b) (sz := H.size) hlen2
  have hps2 : PreS s H (mc_Pre w1 D tc adT adV H.size (adr1 ++ [qm])) [Value.ref qm] :=
    ⟨mc_blind, fun U hU hwarm => ⟨by show _ = [Value.ref ((adr1 ++ [qm]).getD w1.length 0)].toArray; rw [hqm], by rw [hU], by rw [hU]; exact hP, va_K.moved hwarm.alike hK, hD.weaken (fun _ _ _ _ => trivial), hY.to hwarm, by rw [hU]; exact hX.to hwarm (fun q h1 h2 => hS.2.1 q h1 h2) hF2⟩⟩
  have hrun2 : va_Run p l e room_1 s m #[Value.ref b] below meth c H locs1 (1 + mc1 + 1) (12 + ms1 + 42) mcq msq (F0 m 12 ls [.ref qm, .ref qm]) [.ref qm] (mc_Post E w1 w2 h2 D tc adT b H.size (adr1 ++ [qm]) [Value.ref qm].toArray) (va_A (b2_ws tc (adr1 ++ [qm]) (w1 ++ [b2_new 12])) H.size) :=
    va_runI (Ts := hs_T) (y := b2_m12.1) ⟨hx, hb, hml, hown, hts⟩ hmet2 ⟨callB_of (ret := none) 0 hts (hs_good (M := b2_m12) (hs_has_in (k := 5) (i := 194) (by decide +kernel))) rfl rfl rfl (hts _ (hs_has_in (k := 1) (i := 13) (by decide +kernel))) (hts _ (hs_has_in (k := 5) (i := 192) (by decide +kernel))) ⟨by decide, by decide, by decide +kernel⟩ ⟨Nat.le_of_ble_eq_true rfl, Nat.le_of_ble_eq_true rfl⟩, rfl, hts _ (hs_has_in (k := 5) (i := 193) (by decide +kernel))⟩ hps2 rfl rfl hl.1 rfl (lv_room (Nat.le_of_ble_eq_true rfl)) lf_d12 ⟨by show 1 + mc1 + 1 + mcq ≤ 600000; omega, by show 12 + ms1 + 42 + msq ≤ 7302250; omega⟩
  refine va_callv (A0 := fun q : Nat => s.heap.size ≤ q) hrun2 hS (fun q _ hq => hF2 q hq) hF2 fun adr3 t2 H3 locs3 ht2 hvm2 hw2 hB2 _ _ hS => ?_
  obtain ⟨hl3, he3⟩ := hw2
  obtain ⟨hP3, -, hD3⟩ := hB2
  rw [ht2] at hP3
  have hD3 : va_D (fun q : Nat => s.heap.size ≤ q) (hs_ws tc (rs_ad E adr3 adT b) E h2) := hD3.weaken (fun _ q _ hq => hF2 _ hq)
  refine lv_astore_n (lv' := [(2, .ref qm), (1, .ref q0), (0, .ref b)]) hx hb lf_d15 rfl hl (by decide) rfl (fun ls hl => ?_)
  refine lv_iconst (v := 0) hx hb lf_d16 (by decide) ?_
  refine lv_istore_n (lv' := [(3, .int 0), (2, .ref qm), (1, .ref q0), (0, .ref b)]) hx hb lf_d17 rfl hl (by decide) rfl (fun ls hl => ?_)
  have e12 : rs_ad E adr3 adT b 12 0 = qm := by
    rw [rs_ad_E h64 hnod k7, he3 _ (by rw [List.length_append, hl1]; exact Nat.lt_succ_self _), hqm]
  have e11 : rs_ad E adr3 adT b 11 0 = q0 := by
    rw [rs_ad_E h64 hnod k8, he3 0 (by rw [List.length_append]; exact Nat.succ_pos _), b2_getD_app (by omega), he1 0 Nat.zero_lt_one]
    rfl
  have hLH : hs_LH (rs_ad E adr3 adT b) ls [hs_r 65 0, hs_r 11 0, hs_r 12 0, hs_i 0] := by
    refine ⟨hl.1, hl.2.1, fun k v hk => ?_⟩
    obtain ⟨q1, q2, -⟩ := hk
    match k, q1 with
    | 0, q1 =>
      obtain rfl : hs_r 65 0 = v := Option.some.inj q1
      exact lv_at hl 3 rfl
    | 1, q1 =>
      obtain rfl : hs_r 11 0 = v := Option.some.inj q1
      show ls[1]? = some (.val (.ref (rs_ad E adr3 adT b 11 0)))
      rw [e11]
      exact lv_at hl 2 rfl
    | 2, q1 =>
      obtain rfl : hs_r 12 0 = v := Option.some.inj q1
      show ls[2]? = some (.val (.ref (rs_ad E adr3 adT b 12 0)))
      rw [e12]
      exact lv_at hl 1 rfl
    | 3, q1 =>
      obtain rfl : hs_i 0 = v := Option.some.inj q1
      exact lv_at hl 0 rfl
    | _ + 4, q1 => cases q1
  have hok : ∀ c i, (hs_ok0 E c i ∨ (c = 65 ∧ i = 0)) → c < 65 → hs_ok0 E c i := fun c i h hlt => h.elim (fun h => h) (fun h => by omega)
  have hO := hs_ok0_E hclo hnod
  have F : hs_Fx hs_ms p l room_1 s m #[Value.ref b] c (1 + mc1 + 1 + mcq) (12 + ms1 + 42 + msq) (rs_ad E adr3 adT b) adV (fun c i => hs_ok0 E c i ∨ (c = 65 ∧ i = 0)) D tc E (fun q : Nat => s.heap.size ≤ q) code "HuntedScentLaw" (L, xs) (hs_call hs_ms (L, xs) 40) 40 4 :=
    ⟨⟨⟨fun c i h hlt => hO.1 c i (hok c i h (by omega)) hlt, fun c i h => Or.inl (hO.2.1 c i h), fun i hi => Or.inl (hO.2.2.1 i hi), hO.2.2.2⟩, hs_sound hs_ms_ok hs_cls_all hclo hnod (fun d y a h Q w sz => pr_prim w) 40, hok, ⟨Nat.le_of_ble_eq_true rfl, Nat.le_of_ble_eq_true rfl⟩, ⟨by show _ ≤ 600000; omega, by show _ ≤ 7302250; omega⟩, hA, hX⟩, hx, hb, hml, hts, hown, hK, fun i hi => ?_, hs_cls_all⟩
  · obtain ⟨h', ho⟩ := owed (L, xs) hL
    obtain ⟨n, hw⟩ := hw_law (S := (L, xs)) (d := 40) (Q := fun v _ => v = some (hs_i 1)) (by omega) ho rfl
    refine hs_run (rk := 2) (Q := fun v _ => v = some (hs_i 1)) F (lw_okRow_spec lw_k999) ?_ n 18 [hs_r 65 0, hs_r 11 0, hs_r 12 0, hs_i 0] [] h2 ls H3 locs3 hw ⟨hLH, ⟨rfl, fun v hv => ?_⟩, fun v hv => (by cases hv), hP3, hD3, hS⟩
    · intro v h' pc al ls2 H2 locs2 ins hq hee hdg hW
      obtain ⟨x1, -, -, rfl⟩ := hee
      obtain rfl : v = some (hs_i 1) := hq
      refine va_forget hW.2.2.2.2 ?_
      refine W.widen (k := 600000) (n := 7302250) (by omega) (by omega) ?_
      exact lw_ret hx hb hr hlocks hdg
    · rcases List.mem_cons.mp hv with rfl | hv
      · exact Or.inr ⟨rfl, rfl⟩
      rcases List.mem_cons.mp hv with rfl | hv
      · exact Or.inl (Or.inl (List.mem_of_getElem? k8))
      rcases List.mem_cons.mp hv with rfl | hv
      · exact Or.inl (Or.inl (List.mem_of_getElem? k7))
      obtain rfl := List.mem_singleton.mp hv
      exact trivial
  · have hi0 : i = 0 := by
      rcases hi with hi | hi
      · exact (hs_no65 hclo hi).elim
      · exact hi.2
    subst hi0
    exact ⟨hXs, hbl, Nat.not_le.mpr hbl⟩
