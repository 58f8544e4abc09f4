/-! The model's constructor: built as far as 193, then two methods. All that is built is behind names. -/
def mc_okRow (r : Nat × hs_Row) : Bool := decide (decode prog_14_method_1_code r.1 = .ok (r.2.1, r.2.2.1)) && (decide (r.1 = 193) || b2_okR "HuntedScentModel" "<init>" b2_ms 2 r.1 r.2.1 r.2.2.1 r.2.2.2)
theorem mc_rows_ok : b2_p12.all mc_okRow = true := by decide +kernel
theorem mc_rows : ∀ r ∈ b2_p12, decode prog_14_method_1_code r.1 = .ok (r.2.1, r.2.2.1) ∧ (r.1 = 193 ∨ b2_okR "HuntedScentModel" "<init>" b2_ms 2 r.1 r.2.1 r.2.2.1 r.2.2.2 = true) := by
  intro r hr
  have h1 := List.all_eq_true.mp mc_rows_ok r hr
  unfold mc_okRow at h1
  rw [Bool.and_eq_true, decide_eq_true_eq, Bool.or_eq_true, decide_eq_true_eq] at h1
  exact h1
/-- what is known of the worlds built: the law's object (w1), and the model as far as 193 (w2), the labels (E), the heap at 193, 197, 201 -/
def lf_Hyp (E : List (Nat × Nat)) (w1 w2 : b2_W) (al : List hs_V) (mc1 ms1 mcq msq : Nat) (h0 h1 h2 : hs_H) : Prop :=
  b2_call b2_ms 6 11 [hs_r 11 0] [b2_new 11] = some (w1, mc1, ms1) ∧
  b2_runs (b2_call b2_ms 6) b2_p12 193 400 (0, hs_fill 2 [hs_r 12 w1.length], [], w1 ++ [b2_new 12], 0, 0) = some (193, al, [], w2, mcq, msq) ∧
  (mc1 ≤ 1000 ∧ ms1 ≤ 100000 ∧ mcq ≤ 1000 ∧ msq ≤ 100000) ∧ (b2_wf w1 = true ∧ b2_wf (w1 ++ [b2_new 12]) = true ∧ 0 < w1.length) ∧ (al.getD 0 hs_u = hs_r 12 w1.length ∧ al.length = 2) ∧ (E[w1.length]? = some (12, 0) ∧ E[0]? = some (11, 0)) ∧
  (b2_same E w2 = true ∧ E.all (fun q => Nat.blt q.1 64) = true ∧ hs_closed E = true ∧ E.Nodup) ∧ (b2_hE E w2 = h0 ∧ hf_153 h0 = some h1 ∧ hf_154 h1 = some h2)
def mc_rm (mcq msq : Nat) : Room := { frames := 60, cells := mcq, slots := msq, locals := 6000 }
section MC
variable {E : List (Nat × Nat)} {w1 w2 : b2_W} {al : List hs_V} {mc1 ms1 mcq msq : Nat} {h0 h1 h2 : hs_H}
def mc_Pre (w1 : b2_W) (D : va_G) (tc : Nat → ClassId) (adT adV : Nat → Nat) (sz : Nat) (adr : List Nat) : Array Value → State → Prop :=
  va_Pc ([hs_r 12 w1.length].map (hs_cv (b2_ad adr))) (fun U => U.heap.size = sz ∧ va_P D vwCl (b2_ws tc adr (w1 ++ [b2_new 12])) U.heap ∧ va_K D vwCl (hs_tys tc) U ∧ va_D (fun _ => True) (b2_ws tc adr (w1 ++ [b2_new 12])) ∧ b2_Y U ∧ hs_X (fun _ k => adT k) adV (va_A (b2_ws tc adr (w1 ++ [b2_new 12])) sz) U U.heap)
def mc_Post (E : List (Nat × Nat)) (w1 w2 : b2_W) (h2 : hs_H) (D : va_G) (tc : Nat → ClassId) (adT : Nat → Nat) (b sz : Nat) (adr : List Nat) : Array Value → State → Outcome → State → Prop :=
  va_Qv (fun adr' : List Nat => adr'.length = w2.length ∧ ∀ i, i < adr.length → adr'.getD i 0 = adr.getD i 0)
    (fun adr' t => va_P D vwCl (hs_ws tc (rs_ad E adr' adT b) E h2) t.heap ∧ va_K D vwCl (hs_tys tc) t ∧ va_D (va_A (b2_ws tc adr (w1 ++ [b2_new 12])) sz) (hs_ws tc (rs_ad E adr' adT b) E h2)) (va_A (b2_ws tc adr (w1 ++ [b2_new 12])) sz)
theorem mc_blind {D : va_G} {tc : Nat → ClassId} {adT adV : Nat → Nat} {sz : Nat} {adr : List Nat} : FrameBlind (mc_Pre w1 D tc adT adV sz adr) := by
  intro b U g mk q
  obtain ⟨q0, q1, q2, q3, q4, q5, q6⟩ := q
  exact ⟨q0, q1, q2, va_K.moved (u := U) (U := U.calling g mk b) (Vm.Alike.refl U.vm) q3, q4, b2_Y.same (s := U) (U := U.calling g mk b) q5 rfl, hs_X.same (s := U) (U := U.calling g mk b) q6 rfl⟩
theorem mc_run {S : hs_S} {d : Nat} (hd : 5 ≤ d) (e1 : hf_153 h0 = some h1) (e2 : hf_154 h1 = some h2) : hs_W S d 0 hs_p998 (fun v h' => v = none ∧ h' = h2) 193 [hs_r 12 0, hs_u] [] h0 := by
  refine hs_wc 2 (y := 153) (a := [hs_r 12 0]) (v := none) (pc' := 197) (ls' := [hs_r 12 0, hs_u]) (st' := []) (h' := h0) (h2 := h1) (fun n w => w) (fun q => hc_153 (by omega) e1 q) ?_
  refine hs_wc 2 (y := 154) (a := [hs_r 12 0]) (v := none) (pc' := 201) (ls' := [hs_r 12 0, hs_u]) (st' := []) (h' := h1) (h2 := h2) (fun n w => w) (fun q => hc_154 (by omega) e2 q) ?_
  exact hs_wr 1 (v := none) (h' := h2) (fun n w => w) ⟨rfl, rfl⟩
set_option maxHeartbeats 1000000 in
theorem mc_met (hM : b2_Mna) (hyp : lf_Hyp E w1 w2 al mc1 ms1 mcq msq h0 h1 h2) {l : Launch} {D : va_G} {tc : Nat → ClassId} {adT adV : Nat → Nat} {b sz : Nat} {adr : List Nat} (hadr : adr.length = (w1 ++ [b2_new 12]).length) : Met l b2_m12.1 (hs_kw b2_m12) (mc_rm mcq msq) (mc_Pre w1 D tc adT adV sz adr) (mc_Post E w1 w2 h2 D tc adT b sz adr) mcq msq (va_A (b2_ws tc adr (w1 ++ [b2_new 12])) sz) := by
  obtain ⟨-, hq, -, ⟨-, k6, -⟩, ⟨k2, k3⟩, ⟨k7, k8⟩, ⟨hsame, h64, hclo, hnod⟩, ⟨heh0, e1, e2⟩⟩ := hyp
  generalize hW0 : w1 ++ [b2_new 12] = W0 at *
  have hlt : w1.length < W0.length := by
    rw [← hW0, List.length_append]
    exact Nat.lt_succ_self _
  unfold mc_Pre mc_Post
  rw [hW0]
  generalize w1.length = i0 at *
  refine hs_ofW (cc := prog_14_method_1_code) (maxL := 2) (ret := none) rfl rfl ?_
  intro p e s m args below meth c s₁ B hml hv
  obtain ⟨rfl, hsz, hP, hK, hD0, hY, hX⟩ := hv
  have hx := B.exec
  have hb := B.bytes
  have hr := B.returns
  have hts0 := atoms_spec B.pre
  have hts : ∀ w ∈ hs_T, w.before (([hs_r 12 i0] : List hs_V).map (hs_cv (b2_ad adr))).toArray s = true := fun w hw => hts0 w (List.mem_cons_of_mem _ hw)
  have hown : s.vm.findClass "HuntedScentModel" = some m.cls := findClass_of_methodNamed B.named
  subst hsz
  have hD := hD0.self (sz := s.heap.size)
  have hin1 : ∀ v ∈ ([hs_r 12 i0] : List hs_V), hs_In (fun _ i => i < W0.length) v ∧ hs_real v = true := by
    intro v hv
    obtain rfl := List.mem_singleton.mp hv
    exact ⟨hlt, rfl⟩
  rw [lg_entry_eq]
  obtain ⟨hLH, hLl⟩ := hs_entry (b2_ad adr) (a := [hs_r 12 i0]) (n := 2) (fun v hv => (hin1 v hv).2) (Nat.le_of_ble_eq_true rfl)
  have F : b2_Fx b2_ms p l (mc_rm mcq msq) s m (([hs_r 12 i0] : List hs_V).map (hs_cv (b2_ad adr))).toArray meth c D tc (va_A (b2_ws tc adr W0) s.heap.size) prog_14_method_1_code "HuntedScentModel" "<init>" (b2_call b2_ms 6) 6 2 :=
    ⟨⟨b2_sound hM b2_ms_ok hs_cls_all 6, ⟨Nat.le_of_ble_eq_true rfl, Nat.le_of_ble_eq_true rfl⟩, fun q hq => Or.inr hq, hY⟩, hx, hb, hml, hts, hown, hK, fun hn => (name_of_methodNamed B.named B.method).1.trans hn, hs_cls_all⟩
  refine b2_run (e := e) (below := below) hM F mc_rows (q := (193, al, [], w2, mcq, msq)) (c0 := 0) (s0 := 0) (by show 0 + mcq ≤ mcq; omega) (by show 0 + msq ≤ msq; omega) 400 0 _ [] W0 0 0 adr _ s.heap [] hq ⟨hadr, k6, hLH, ⟨hLl, hs_fill_in (hs_args_in _ (fun v hv => (hin1 v hv).1))⟩, fun v hv => (by cases hv), hP, hD, va_S.rf⟩ ?_
  intro adr' ls H locs he g0
  show W p l e _ s m _ below meth c H locs (0 + mcq) (0 + msq) _ (F0 m 193 ls [])
  rw [Nat.zero_add, Nat.zero_add]
  obtain ⟨g1, g2, g3, g4, g5, g6, g7, g8⟩ := g0
  have hl2 : adr'.length = w2.length := g1
  have hPw : va_P D vwCl (hs_ws tc (rs_ad E adr' adT b) E h0) H := by rw [← heh0]; exact rs_P hsame h64 hnod hl2 g6
  have hDw : va_D (va_A (b2_ws tc adr W0) s.heap.size) (hs_ws tc (rs_ad E adr' adT b) E h0) := rs_D hsame h64 hnod hl2 g7
  have had : rs_ad E adr' adT b 12 0 = adr'.getD i0 0 := rs_ad_E h64 hnod k7
  have h12 : (12, 0) ∈ E := List.mem_of_getElem? k7
  have hLH2 : hs_LH (rs_ad E adr' adT b) ls [hs_r 12 0, hs_u] := by
    refine ⟨by rw [g3.1]; exact k3, g3.2.1, fun k v hk => ?_⟩
    obtain ⟨q1, q2, -⟩ := hk
    match k, q1 with
    | 0, q1 =>
      obtain rfl : hs_r 12 0 = v := Option.some.inj q1
      show ls[0]? = some (.val (.ref (rs_ad E adr' adT b 12 0)))
      rw [had]
      exact g3.2.2 0 (hs_r 12 i0) ⟨hs_getD_some k2 (fun q => by cases q), rfl, fun q => by cases q⟩
    | 1, q1 =>
      obtain rfl : hs_u = v := Option.some.inj q1
      cases q2
    | _ + 2, q1 => cases q1
  have hX2 : hs_X (rs_ad E adr' adT b) adV (va_A (b2_ws tc adr W0) s.heap.size) s s.heap := hX
  have F2 : hs_Fx hs_ms p l (mc_rm mcq msq) s m (([hs_r 12 i0] : List hs_V).map (hs_cv (b2_ad adr))).toArray c mcq msq (rs_ad E adr' adT b) adV (hs_ok0 E) D tc E (va_A (b2_ws tc adr W0) s.heap.size) prog_14_method_1_code "HuntedScentModel" (0, fun _ => 0) (hs_call hs_ms (0, fun _ => 0) 8) 8 2 :=
    ⟨⟨hs_ok0_E hclo hnod, hs_sound hs_ms_ok hs_cls_all hclo hnod (fun d y a h Q w sz => pr_prim w) 8, fun c i h _ => h, ⟨Nat.le_of_ble_eq_true rfl, Nat.le_of_ble_eq_true rfl⟩, ⟨Nat.le_refl _, Nat.le_refl _⟩, fun q hq => Or.inr hq, hX2⟩, hx, hb, hml, hts, hown, hK, fun i hi => (hs_no65 hclo hi).elim, hs_cls_all⟩
  obtain ⟨n, hw⟩ := mc_run (S := (0, fun _ => 0)) (d := 8) (by omega) e1 e2
  refine hs_run (rk := 0) (Q := fun v h' => v = none ∧ h' = h2) F2 (lw_okRow_spec lw_k998) ?_ n 193 [hs_r 12 0, hs_u] [] h0 ls H locs hw ⟨hLH2, ⟨rfl, fun v hv => ?_⟩, fun v hv => (by cases hv), hPw, hDw, g8⟩
  · intro v h' pc al2 ls2 H2 locs2 ins hq2 hee hdg hW
    obtain ⟨rfl, rfl⟩ := hq2
    obtain ⟨-, rfl⟩ := hee
    exact W.vret hx hb hr (fun t ht hWm => ⟨⟨adr', rfl, ⟨hl2, he⟩, by rw [ht]; exact hW.1, va_K.moved hWm.alike hK, hW.2.1⟩, hW.2.2.F ht⟩) hW.2.2.2.2 hdg
  · rcases List.mem_cons.mp hv with rfl | hv
    · exact Or.inl h12
    · obtain rfl := List.mem_singleton.mp hv
      exact trivial
end MC
