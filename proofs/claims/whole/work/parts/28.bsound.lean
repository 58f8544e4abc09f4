/-! The building machine is sound. -/
section B6
variable {p : Program} {l : Launch} {e : Env} {R : Room} {s : State} {m : MethodId} {args : Array Value} {below : List Frame} {meth : Method} {c : Code} {Qe : State → Prop}
variable {D : va_G} {tc : Nat → ClassId} {A : Nat → Prop} {cc : ByteArray} {own nm : String} {ms : Nat → hs_M} {C : b2_C} {nL d : Nat}
theorem b2_runs_succ {P : List (Nat × hs_Row)} {stop n pc : Nat} {al st : List hs_V} {w : b2_W} {mc msl : Nat} {q : b2_S} (h : b2_runs C P stop (n + 1) (pc, al, st, w, mc, msl) = some q) :
    (pc = stop ∧ q = (pc, al, st, w, mc, msl)) ∨ (pc ≠ stop ∧ ∃ r q1, hs_find P pc = some r ∧ b2_step C pc al st w r.1 r.2.1 r.2.2 = some q1 ∧ b2_small st = true ∧ b2_wf q1.2.2.2.1 = true ∧ w.length ≤ q1.2.2.2.1.length ∧ b2_runs C P stop n (q1.1, q1.2.1, q1.2.2.1, q1.2.2.2.1, mc + q1.2.2.2.2.1, msl + q1.2.2.2.2.2) = some q) := by
  have h : (bif Nat.beq pc stop then some (pc, al, st, w, mc, msl) else match hs_find P pc with
    | some r => (b2_step C pc al st w r.1 r.2.1 r.2.2).bind (fun q => bif b2_small st && (b2_wf q.2.2.2.1 && Nat.ble w.length q.2.2.2.1.length) then b2_runs C P stop n (q.1, q.2.1, q.2.2.1, q.2.2.2.1, mc + q.2.2.2.2.1, msl + q.2.2.2.2.2) else none)
    | none => none) = some q := h
  cases hb : Nat.beq pc stop with
  | true =>
    rw [hb] at h
    exact Or.inl ⟨Nat.eq_of_beq_eq_true hb, (Option.some.inj h).symm⟩
  | false =>
    rw [hb] at h
    have hne : pc ≠ stop := fun hq => by
      subst hq
      have h2 : Nat.beq pc pc = true := Nat.beq_refl pc
      rw [h2] at hb
      cases hb
    cases hf : hs_find P pc with
    | none => rw [hf] at h; cases h
    | some r =>
      rw [hf] at h
      obtain ⟨q1, h1, h2⟩ := hs_bind_some h
      cases hc : (b2_small st && (b2_wf q1.2.2.2.1 && Nat.ble w.length q1.2.2.2.1.length)) with
      | false => rw [hc] at h2; cases h2
      | true =>
        rw [hc] at h2
        rw [Bool.and_eq_true, Bool.and_eq_true] at hc
        exact Or.inr ⟨hne, r, q1, rfl, h1, hc.1, hc.2.1, Nat.le_of_ble_eq_true hc.2.2, h2⟩
theorem b2_runs_le {P : List (Nat × hs_Row)} {stop : Nat} {q : b2_S} : ∀ (n pc : Nat) (al st : List hs_V) (w : b2_W) (mc msl : Nat), b2_runs C P stop n (pc, al, st, w, mc, msl) = some q → (mc ≤ q.2.2.2.2.1 ∧ msl ≤ q.2.2.2.2.2) ∧ w.length ≤ q.2.2.2.1.length ∧ q.1 = stop := by
  intro n
  induction n with
  | zero => intro pc al st w mc msl h; cases h
  | succ n ih =>
    intro pc al st w mc msl h
    rcases b2_runs_succ h with ⟨hp, rfl⟩ | ⟨_, r, q1, hf, h1, hsm, hwf, hle, h2⟩
    · exact ⟨⟨Nat.le_refl _, Nat.le_refl _⟩, Nat.le_refl _, hp⟩
    · obtain ⟨⟨i1, i2⟩, i3, i4⟩ := ih _ _ _ _ _ _ h2
      exact ⟨⟨by omega, by omega⟩, Nat.le_trans hle i3, i4⟩
theorem b2_run (hM : b2_Mna) (F : b2_Fx ms p l R s m args meth c D tc A cc own nm C d nL) {P : List (Nat × hs_Row)} {stop : Nat} (hP : ∀ r ∈ P, decode cc r.1 = .ok (r.2.1, r.2.2.1) ∧ (r.1 = stop ∨ b2_okR own nm ms nL r.1 r.2.1 r.2.2.1 r.2.2.2 = true)) {q : b2_S} {c0 s0 : Nat} (hcells : c0 + q.2.2.2.2.1 ≤ R.cells) (hslots : s0 + q.2.2.2.2.2 ≤ R.slots) :
    ∀ (n pc : Nat) (al st : List hs_V) (w : b2_W) (mc msl : Nat) (adr : List Nat) (ls : Array Slot) (H : Heap) (locs : List Loc), b2_runs C P stop n (pc, al, st, w, mc, msl) = some q → b2_St nL D tc A s adr al st w ls H locs →
      b2_G p l e R s m args below meth c Qe nL D tc A adr q.1 q.2.1 q.2.2.1 q.2.2.2.1 (c0 + q.2.2.2.2.1) (s0 + q.2.2.2.2.2) → W p l e R s m args below meth c H locs (c0 + mc) (s0 + msl) Qe (F0 m pc ls (st.map (hs_cv (b2_ad adr)))) := by
  intro n
  induction n with
  | zero => intro pc al st w mc msl adr ls H locs h; cases h
  | succ n ih =>
    intro pc al st w mc msl adr ls H locs h h0 kk
    rcases b2_runs_succ h with ⟨hp, rfl⟩ | ⟨hne, r, q1, hf, h1, hsm, hwf, hle, h2⟩
    · exact kk adr ls H locs (fun _ _ => rfl) h0
    · obtain ⟨hdg, hr⟩ := hP _ (hs_find_mem hf)
      have hr2 := hr.resolve_left hne
      obtain ⟨⟨i1, i2⟩, i3, i4⟩ := b2_runs_le _ _ _ _ _ _ _ h2
      refine b2_o_step (q := q1) hM F h1 h0 hsm hwf (by omega) (by omega) hdg hr2 ?_
      intro adr' ls' H' locs' he h0'
      rw [Nat.add_assoc, Nat.add_assoc]
      refine ih _ _ _ _ _ _ adr' ls' H' locs' h2 h0' ?_
      intro adr2 ls2 H2 locs2 he2 h02
      refine kk adr2 ls2 H2 locs2 (fun i hi => ?_) h02
      have hl1 := h0.1
      have hl2 := h0'.1
      rw [he2 i (by omega), he i hi]
set_option maxHeartbeats 1000000 in
/-- the constructors' contracts -/
theorem b2_sound (hM : b2_Mna) (hms : ∀ y, b2_okM ms (ms y) = true) (hcl : ∀ (c : Nat) (q : vw_C), vwCl[c]? = some q → hs_Cls q) : ∀ d, b2_Con ms l D tc (b2_call ms d) d := by
  intro d
  induction d with
  | zero => intro y a w w' mc msl h; cases h
  | succ d ih =>
    intro y a w w' mc msl h
    have h : (bif Nat.ble (hs_args a).length (ms y).2.2.1 then (b2_runs (b2_call ms d) (ms y).2.2.2.2.2 (ms y).2.2.2.2.1 1000 (0, hs_fill (ms y).2.2.1 (hs_args a), [], w, 0, 0)).bind (fun q => match q.2.2.1 with
      | [] => bif Nat.ble w.length q.2.2.2.1.length && b2_wf q.2.2.2.1 then some (q.2.2.2.1, q.2.2.2.2.1, q.2.2.2.2.2) else none
      | _ => none) else none) = some (w', mc, msl) := h
    cases h9 : Nat.ble (hs_args a).length (ms y).2.2.1 with
    | false => rw [h9] at h; cases h
    | true =>
      rw [h9] at h
      obtain ⟨q, hq, h⟩ := hs_bind_some h
      have hal := Nat.le_of_ble_eq_true h9
      obtain ⟨pcq, alq, stq, wq, mcq, mslq⟩ := q
      match stq, hq, h with
      | _ :: _, hq, h => cases h
      | [], hq, h =>
      cases h8 : (Nat.ble w.length wq.length && b2_wf wq) with
      | false =>
        have h : (bif Nat.ble w.length wq.length && b2_wf wq then some (wq, mcq, mslq) else none) = some (w', mc, msl) := h
        rw [h8] at h; cases h
      | true =>
        have h : (bif Nat.ble w.length wq.length && b2_wf wq then some (wq, mcq, mslq) else none) = some (w', mc, msl) := h
        rw [h8] at h
        obtain ⟨rfl, rfl, rfl⟩ : wq = w' ∧ mcq = mc ∧ mslq = msl := by
          have h5 := Option.some.inj h
          exact ⟨congrArg (fun q => q.1) h5, congrArg (fun q => q.2.1) h5, congrArg (fun q => q.2.2) h5⟩
        rw [Bool.and_eq_true] at h8
        refine ⟨⟨h8.2, Nat.le_of_ble_eq_true h8.1⟩, fun adr hadr hwf ha sz => ?_⟩
        have hM := hms y
        generalize hMe : ms y = M at hM hal hq ⊢
        obtain ⟨nm, cd, mL, ret, stop, P⟩ := M
        unfold b2_okM at hM
        rw [Bool.and_eq_true, Bool.and_eq_true, Bool.and_eq_true, decide_eq_true_eq] at hM
        obtain ⟨⟨⟨hpl, hret⟩, hrows⟩, hend⟩ := hM
        have hret : ret = none := hret
        subst hret
        have hrows : ∀ r ∈ P, decode cd r.1 = .ok (r.2.1, r.2.2.1) ∧ (r.1 = stop ∨ b2_okR nm.cls nm.name ms mL r.1 r.2.1 r.2.2.1 r.2.2.2 = true) := by
          intro r hr
          have := List.all_eq_true.mp hrows r hr
          rw [Bool.and_eq_true, decide_eq_true_eq, Bool.or_eq_true, decide_eq_true_eq] at this
          exact this
        have hstop : decode cd stop = .ok (.return_, 1) := by
          have hend : (match hs_find P stop with
            | some r => decide (r.1 = .return_ ∧ r.2.1 = 1)
            | none => false) = true := hend
          split at hend
          next r hf =>
            have h7 := of_decide_eq_true hend
            have h6 := (hrows _ (hs_find_mem hf)).1
            obtain ⟨r1, r2, r3⟩ := r
            obtain ⟨e1, e2⟩ := h7
            subst e1
            subst e2
            exact h6
          next => cases hend
        have hreal : ∀ v ∈ a, hs_real v = true := fun v hv => (ha v hv).2
        refine hs_ofW (cc := cd) (maxL := mL) (ret := none) hpl rfl ?_
        intro p e s m args below meth c s₁ B hml hv
        obtain ⟨rfl, hsz, hP, hK, hD0, hY⟩ := hv
        have hx := B.exec
        have hb := B.bytes
        have hr := B.returns
        have hts0 := atoms_spec B.pre
        have hts : ∀ w ∈ hs_T, w.before (a.map (hs_cv (b2_ad adr))).toArray s = true := fun w hw => hts0 w (List.mem_cons_of_mem _ hw)
        have hown : s.vm.findClass nm.cls = some m.cls := findClass_of_methodNamed B.named
        subst hsz
        have hD := hD0.self (sz := s.heap.size)
        rw [lg_entry_eq]
        obtain ⟨hLH, hLl⟩ := hs_entry (b2_ad adr) hreal hal
        have F : b2_Fx ms p l (b2_room (d + 1) mcq mslq) s m (a.map (hs_cv (b2_ad adr))).toArray meth c D tc (va_A (b2_ws tc adr w) s.heap.size) cd nm.cls nm.name (b2_call ms d) d mL :=
          ⟨⟨ih, ⟨by show d + 9 ≤ d + 1 + 8; omega, by show 60 * d + 460 ≤ 60 * (d + 1) + 400; omega⟩, fun q hq => Or.inr hq, hY⟩, hx, hb, hml, hts, hown, hK, fun hn => (name_of_methodNamed B.named B.method).1.trans hn, hcl⟩
        have hgo := b2_run (e := e) (below := below) (Qe := MQ below (b2_Post D tc adr wq (va_A (b2_ws tc adr w) s.heap.size)) (a.map (hs_cv (b2_ad adr))).toArray s mcq mslq (va_A (b2_ws tc adr w) s.heap.size)) hM F hrows (q := (pcq, alq, [], wq, mcq, mslq)) (c0 := 0) (s0 := 0) (by show 0 + mcq ≤ mcq; omega) (by show 0 + mslq ≤ mslq; omega) 1000 0 _ [] w 0 0 adr _ s.heap [] hq ⟨hadr, hwf, hLH, ⟨hLl, hs_fill_in (hs_args_in a (fun v hv => (ha v hv).1))⟩, fun v hv => (by cases hv), hP, hD, va_S.rf⟩ ?_
        · exact hgo
        · intro adr' ls H locs he h0
          have hpc : pcq = stop := (b2_runs_le _ _ _ _ _ _ _ hq).2.2
          subst hpc
          have hw1 := h0.2.2.2.2.2
          show W p l e _ s m _ below meth c H locs (0 + mcq) (0 + mslq) _ _
          rw [Nat.zero_add, Nat.zero_add]
          exact W.vret hx hb hr (fun t ht hWm => ⟨⟨adr', rfl, ⟨h0.1, he⟩, by rw [ht]; exact hw1.1, va_K.moved hWm.alike hK, hw1.2.1⟩, hw1.2.2.F ht⟩) hw1.2.2.2.2 hstop
end B6
