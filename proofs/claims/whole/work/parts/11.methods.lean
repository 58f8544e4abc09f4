/-! A method whose table holds is run by its table: by the depth of its calls. -/
section HSN
variable {p : Program} {l : Launch} {e : Env} {R : Room} {s : State} {m : MethodId} {args : Array Value} {below : List Frame} {meth : Method} {c : Code} {cells slots : Nat} {Qe : State → Prop}
variable {ad : Nat → Nat → Nat} {adV : Nat → Nat} {ok : Nat → Nat → Prop} {D : va_G} {tc : Nat → ClassId} {E : List (Nat × Nat)} {A : Nat → Prop} {cc : ByteArray} {own : String} {S : hs_S} {ms : Nat → hs_M}
variable {C : hs_C} {Q : hs_Q} {d rk nL : Nat}
theorem hs_run (F : hs_Fx ms p l R s m args c cells slots ad adV ok D tc E A cc own S C d nL) {P : List (Nat × hs_Row)} (hP : ∀ r ∈ P, decode cc r.1 = .ok (r.2.1, r.2.2.1) ∧ hs_okR own ms nL r.1 r.2.1 r.2.2.1 r.2.2.2 = true)
    (hend : ∀ (v : Option hs_V) (h' : hs_H) (pc : Nat) (al : List hs_V) (ls : Array Slot) (H : Heap) (locs : List Loc) (ins : Instr), Q v h' → hs_end rk v ins → decode cc pc = .ok (ins, 1) → hs_Wd D tc ad E A s h' H locs → W p l e R s m args below meth c H locs cells slots Qe (F0 m pc ls (v.toList.map (hs_cv ad)))) :
    ∀ n, hs_KS p l e R s m args below meth c cells slots Qe nL ad ok (hs_Wd D tc ad E A s) (hs_wp S C rk P Q n) := by
  intro n
  induction n with
  | zero => intro pc al st h ls H locs w; exact w.elim
  | succ n ih =>
    intro pc al st h ls H locs w h0
    have w : (match hs_find P pc with
      | some r => hs_step S C (hs_wp S C rk P Q n) Q rk pc al st h r.1 r.2.1 r.2.2
      | none => False) := w
    cases hf : hs_find P pc with
    | none => rw [hf] at w; exact w.elim
    | some r =>
      rw [hf] at w
      obtain ⟨hdg, hr⟩ := hP _ (hs_find_mem hf)
      exact hs_o_step F ih w h0 hdg hr (fun v hq he hst hl => by
        rw [hst]
        exact hend v h pc al ls H locs _ hq he (by rw [hdg]; exact congrArg (fun k => Except.ok (r.1, k)) hl) h0.2.2.2)
end HSN
theorem hs_args_len (ad : Nat → Nat → Nat) : ∀ a : List hs_V, (∀ v ∈ a, hs_real v = true) → (lg_sl (a.map (hs_cv ad))).length = (hs_args a).length := by
  intro a
  induction a with
  | nil => intro _; rfl
  | cons v r ih =>
    intro hr
    have h1 := ih (fun w hw => hr w (List.mem_cons_of_mem _ hw))
    have h2 := hr v List.mem_cons_self
    match v, h2 with
    | .inl x, _ =>
      show (([Slot.val (.int x)] : List Slot) ++ lg_sl (r.map (hs_cv ad))).length = (hs_args r).length + 1
      rw [List.length_append, h1, Nat.add_comm]; rfl
    | .inr (.inl x), _ =>
      show (([Slot.val (.long x), Slot.second] : List Slot) ++ lg_sl (r.map (hs_cv ad))).length = (hs_args r).length + 2
      rw [List.length_append, h1, Nat.add_comm]; rfl
    | .inr (.inr (.inl (x, y))), _ =>
      show (([Slot.val (.ref (ad x y))] : List Slot) ++ lg_sl (r.map (hs_cv ad))).length = (hs_args r).length + 1
      rw [List.length_append, h1, Nat.add_comm]; rfl
theorem hs_args_at (ad : Nat → Nat → Nat) : ∀ (a : List hs_V) (k0 k : Nat) (v : hs_V), (∀ v ∈ a, hs_real v = true) → (hs_args a)[k]? = some v → hs_real v = true → (k0 + k, hs_cv ad v) ∈ lv_args k0 (a.map (hs_cv ad)) := by
  intro a
  induction a with
  | nil => intro k0 k v _ hk; cases hk
  | cons w r ih =>
    intro k0 k v hr hk hv
    have hr2 : ∀ v ∈ r, hs_real v = true := fun w hw => hr w (List.mem_cons_of_mem _ hw)
    have h2 := hr w List.mem_cons_self
    match w, h2, hk with
    | .inl x, _, hk =>
      cases k with
      | zero =>
        obtain rfl : hs_i x = v := Option.some.inj hk
        exact List.mem_cons_self
      | succ k =>
        have := ih (k0 + 1) k v hr2 hk hv
        rw [show k0 + (k + 1) = k0 + 1 + k by omega]
        exact List.mem_cons_of_mem _ this
    | .inr (.inl x), _, hk =>
      match k, hk with
      | 0, hk =>
        obtain rfl : hs_l x = v := Option.some.inj hk
        exact List.mem_cons_self
      | 1, hk =>
        obtain rfl : hs_u = v := Option.some.inj hk
        cases hv
      | k + 2, hk =>
        have := ih (k0 + 2) k v hr2 hk hv
        rw [show k0 + (k + 2) = k0 + 2 + k by omega]
        exact List.mem_cons_of_mem _ this
    | .inr (.inr (.inl (x, y))), _, hk =>
      cases k with
      | zero =>
        obtain rfl : hs_r x y = v := Option.some.inj hk
        exact List.mem_cons_self
      | succ k =>
        have := ih (k0 + 1) k v hr2 hk hv
        rw [show k0 + (k + 1) = k0 + 1 + k by omega]
        exact List.mem_cons_of_mem _ this
theorem hs_args_in {ok : Nat → Nat → Prop} : ∀ a : List hs_V, (∀ v ∈ a, hs_In ok v) → ∀ v ∈ hs_args a, hs_In ok v := by
  intro a
  induction a with
  | nil => intro _ v hv; cases hv
  | cons w r ih =>
    intro h v hv
    have h1 := ih (fun v hv => h v (List.mem_cons_of_mem _ hv))
    have h2 := h w List.mem_cons_self
    match w, h2, hv with
    | .inl x, h2, hv =>
      rcases List.mem_cons.mp hv with rfl | hv
      · exact h2
      · exact h1 v hv
    | .inr (.inl x), h2, hv =>
      rcases List.mem_cons.mp hv with rfl | hv
      · exact h2
      · rcases List.mem_cons.mp hv with rfl | hv
        · exact trivial
        · exact h1 v hv
    | .inr (.inr x), h2, hv =>
      rcases List.mem_cons.mp hv with rfl | hv
      · exact h2
      · exact h1 v hv
theorem hs_entry (ad : Nat → Nat → Nat) {a : List hs_V} {n : Nat} (hr : ∀ v ∈ a, hs_real v = true) (hn : (hs_args a).length ≤ n) : hs_LH ad ((lg_sl (a.map (hs_cv ad)) ++ List.replicate (n - (lg_sl (a.map (hs_cv ad))).length) Slot.unset).toArray) (hs_fill n (hs_args a)) ∧ (hs_fill n (hs_args a)).length = n := by
  have hlen := hs_args_len ad a hr
  have hl : (hs_fill n (hs_args a)).length = n := by unfold hs_fill; simp; omega
  have h := lv_entry (a.map (hs_cv ad)) (n := n) (by rw [hlen]; exact hn)
  refine ⟨⟨by rw [hl]; exact h.1, h.2.1, fun k v hkv => ?_⟩, hl⟩
  obtain ⟨hk, hv, -⟩ := hkv
  unfold hs_fill at hk
  by_cases hlt : k < (hs_args a).length
  · rw [List.getElem?_append_left hlt] at hk
    have := h.2.2 _ (hs_args_at ad a 0 k v hr hk hv)
    simpa using this
  · rw [List.getElem?_append_right (by omega)] at hk
    have := List.eq_of_mem_replicate (List.mem_of_getElem? hk)
    rw [this] at hv
    cases hv
theorem hs_fill_in {ok : Nat → Nat → Prop} {n : Nat} {l : List hs_V} (h : ∀ v ∈ l, hs_In ok v) : ∀ v ∈ hs_fill n l, hs_In ok v := by
  intro v hv
  rcases List.mem_append.mp hv with hv | hv
  · exact h v hv
  · rw [List.eq_of_mem_replicate hv]
    exact trivial
theorem hs_ok0_E {E : List (Nat × Nat)} (hc : hs_closed E = true) (hn : E.Nodup) : hs_okE E (hs_ok0 E) := by
  refine ⟨fun c i h hlt => ?_, fun c i h => Or.inl h, fun i h => Or.inr ⟨rfl, h⟩, hc, hn⟩
  rcases h with h | h
  · exact h
  · omega
theorem hs_no65 {E : List (Nat × Nat)} (hc : hs_closed E = true) {i : Nat} (h : hs_ok0 E 65 i) : False := by
  rcases h with h | h
  · exact absurd (List.all_eq_true.mp hc _ h) (by show ¬ (false = true); exact Bool.false_ne_true)
  · omega
/-- a contract out of the walk of the body, for a method that no native row answers for -/
theorem hs_ofW {l : Launch} {y : MethodName} {ws ws' : List Cond} {rm : Room} {Pc : Array Value → State → Prop} {Qc : Array Value → State → Outcome → State → Prop} {mc ms : Nat} {free : Addr → Prop} {cc : ByteArray} {maxL : Nat} {ret : Option FieldType}
    (hy : plainFor y = true) (hw : ws = Cond.code y cc maxL ret :: ws')
    (body : ∀ p e s m args below meth c s₁, BodyLoose p l y (headSpec ws rm) cc maxL ret e s m args below meth c s₁ → c.maxLocals = maxL → Pc args s →
      W p l e (headSpec ws rm).room s m args below meth c s.heap [] 0 0 (MQ below Qc args s mc ms free) (entryFrame m args maxL)) : Met l y ws rm Pc Qc mc ms free := by
  refine MetFree.of_bodySF (code := cc) (maxLocals := maxL) (ret := ret) hy ?_ ?_
  · intro args s m h hn
    obtain ⟨meth, c, h1, h2, h3, h4, h5, h6, -, -⟩ := Cond.code_spec hn (atoms_spec (ws := ws) h _ (by rw [hw]; exact List.mem_cons_self))
    exact ⟨meth, c, h1, h2, h3, h4, h5, h6⟩
  · intro p e s m args below meth c s₁ B hml hP _
    have hh0 : s₁.heap = s.heap := by rw [B.state]; rfl
    obtain ⟨t, a1, o, b1, b2, b3⟩ := body p e s m args below meth c s₁ B hml hP s₁ hh0 (Stand.of_body B)
    exact ⟨t, o, a1, b1, b2, ⟨b3.1, b3.2⟩⟩
set_option maxHeartbeats 1000000 in
/-- the contracts of all methods, by the depth of calls -/
theorem hs_sound {ms : Nat → hs_M} {S : hs_S} {l : Launch} {D : va_G} {tc : Nat → ClassId} {ad : Nat → Nat → Nat} {adV : Nat → Nat} {E : List (Nat × Nat)} (hms : ∀ y, y < 900 → hs_okM ms (ms y) = true) (hcl : ∀ (c : Nat) (q : vw_C), vwCl[c]? = some q → hs_Cls q) (hc : hs_closed E = true) (hn : E.Nodup)
    (hprim : ∀ (d y : Nat) (a : List hs_V) (h : hs_H) (Q : hs_Q), hs_prim y a h Q → ∀ sz : Nat, Met l (ms y).1 (hs_kw (ms y)) (hs_rm d) (hs_Pre D tc ad adV E sz a h) (hs_Post D tc ad E (ms y).2.2.2.2.1 Q (va_A (hs_ws tc ad E h) sz)) 0 0 (va_A (hs_ws tc ad E h) sz)) :
    ∀ d, hs_Con ms l D tc ad adV E (hs_call ms S d) (hs_rm d) := by
  intro d
  induction d with
  | zero => intro y a h Q w; exact w.elim
  | succ d ih =>
    intro y a h Q w ha sz
    have w : (bif Nat.ble 900 y then hs_prim y a h Q else
      (hs_args a).length ≤ (ms y).2.2.1 ∧ ∃ n, hs_wp S (hs_call ms S d) (ms y).2.2.2.2.1 (ms y).2.2.2.2.2 Q n 0 (hs_fill (ms y).2.2.1 (hs_args a)) [] h) := w
    cases h9 : Nat.ble 900 y with
    | true =>
      rw [h9] at w
      exact hprim (d + 1) y a h Q w sz
    | false =>
      rw [h9] at w
      obtain ⟨hal, n, w⟩ := w
      have hy : y < 900 := by
        refine Nat.not_le.mp fun q => ?_
        rw [Nat.ble_eq_true_of_le q] at h9
        cases h9
      have hM := hms y hy
      generalize hMe : ms y = M at hM hal w ⊢
      obtain ⟨nm, cd, mL, ret, rk, P⟩ := M
      unfold hs_okM at hM
      rw [Bool.and_eq_true, Bool.and_eq_true] at hM
      obtain ⟨⟨hpl, hrows⟩, hret⟩ := hM
      have hrows : ∀ r ∈ P, decode cd r.1 = .ok (r.2.1, r.2.2.1) ∧ hs_okR nm.cls ms mL r.1 r.2.1 r.2.2.1 r.2.2.2 = true := by
        intro r hr
        have := List.all_eq_true.mp hrows r hr
        rw [Bool.and_eq_true, decide_eq_true_eq] at this
        exact this
      have hreal : ∀ v ∈ a, hs_real v = true := fun v hv => (ha v hv).2
      refine hs_ofW (cc := cd) (maxL := mL) (ret := ret) hpl rfl ?_
      intro p e s m args below meth c s₁ B hml hv
      obtain ⟨rfl, hsz, hP, hK, hD0, hX⟩ := hv
      have hx := B.exec
      have hb := B.bytes
      have hr := B.returns
      have hts0 := atoms_spec B.pre
      have hts : ∀ w ∈ hs_T, w.before (a.map (hs_cv ad)).toArray s = true := fun w hw => hts0 w (List.mem_cons_of_mem _ hw)
      have hown : s.vm.findClass nm.cls = some m.cls := findClass_of_methodNamed B.named
      have hlocks := B.notSynchronized
      subst hsz
      have hD := hD0.self (sz := s.heap.size)
      rw [lg_entry_eq]
      obtain ⟨hLH, hLl⟩ := hs_entry ad hreal hal
      have F : hs_Fx ms p l (hs_rm (d + 1)) s m (a.map (hs_cv ad)).toArray c 0 0 ad adV (hs_ok0 E) D tc E (va_A (hs_ws tc ad E h) s.heap.size) cd nm.cls S (hs_call ms S d) d mL :=
        ⟨⟨hs_ok0_E hc hn, ih, fun c i h _ => h, ⟨by show d + 9 ≤ d + 1 + 8; omega, by show 60 * d + 460 ≤ 60 * (d + 1) + 400; omega⟩, ⟨Nat.le_refl _, Nat.le_refl _⟩, fun q hq => Or.inr hq, hX⟩, hx, hb, hml, hts, hown, hK, fun i hi => (hs_no65 hc hi).elim, hcl⟩
      refine hs_run (rk := rk) (Q := Q) (Qe := MQ below (hs_Post D tc ad E rk Q (va_A (hs_ws tc ad E h) s.heap.size)) (a.map (hs_cv ad)).toArray s 0 0 (va_A (hs_ws tc ad E h) s.heap.size)) F hrows ?_ n 0 _ [] h _ _ _ w ⟨hLH, ⟨hLl, hs_fill_in (hs_args_in a (fun v hv => (ha v hv).1))⟩, fun v hv => (by cases hv), hP, hD, va_S.rf⟩
      intro v h' pc al ls H locs ins hq he hdg hW
      match rk, hret, he, hq with
      | 0, hret, he, hq =>
        obtain ⟨rfl, rfl⟩ := he
        have hret : ret = none := of_decide_eq_true hret
        exact W.vret hx hb (hr.trans hret) (fun t ht hWm => ⟨⟨h', rfl, hq, by rw [ht]; exact hW.1, va_K.moved hWm.alike hK⟩, hW.2.2.F ht⟩) hW.2.2.2.2 hdg
      | 1, hret, he, hq =>
        obtain ⟨x, rfl, rfl⟩ := he
        have hret : ret = some .int := of_decide_eq_true hret
        exact W.iret (v := x) hx hb (hr.trans hret) (fun t ht hWm => ⟨⟨x, h', rfl, hq, by rw [ht]; exact hW.1, va_K.moved hWm.alike hK⟩, hW.2.2.F ht⟩) hW.2.2.2.2 hdg
      | 2, hret, he, hq =>
        obtain ⟨x, hx01, rfl, rfl⟩ := he
        have hret : ret = some .boolean := of_decide_eq_true hret
        exact W.zret (v := x) hx hb (hr.trans hret) (by rcases hx01 with rfl | rfl <;> decide +kernel) (fun t ht hWm => ⟨⟨x, h', rfl, hq, by rw [ht]; exact hW.1, va_K.moved hWm.alike hK⟩, hW.2.2.F ht⟩) hW.2.2.2.2 hdg
      | 3, hret, he, hq =>
        obtain ⟨x, rfl, rfl⟩ := he
        have hret : ret = some .long := of_decide_eq_true hret
        exact W.lret (v := x) hx hb (hr.trans hret) (fun t ht hWm => ⟨⟨x, h', rfl, hq, by rw [ht]; exact hW.1, va_K.moved hWm.alike hK⟩, hW.2.2.F ht⟩) hW.2.2.2.2 hdg
