/-! The building machine's run. -/
section B5
variable {p : Program} {l : Launch} {e : Env} {R : Room} {s : State} {m : MethodId} {args : Array Value} {below : List Frame} {meth : Method} {c : Code} {Qe : State → Prop}
variable {D : va_G} {tc : Nat → ClassId} {A : Nat → Prop} {cc : ByteArray} {own nm : String} {ms : Nat → hs_M} {C : b2_C} {nL d : Nat}
variable {adr : List Nat} {al st : List hs_V} {w : b2_W} {ls : Array Slot} {H : Heap} {locs : List Loc} {pc len cells slots : Nat}
end B5
/-- new int[n][k]: what is asked of the machine -/
def b2_Mna : Prop :=
  ∀ {p : Program} {l : Launch} {e : Env} {R : Room} {s : State} {m : MethodId} {args : Array Value} {below : List Frame} {meth : Method} {c : Code} {Qe : State → Prop}
  {D : va_G} {tc : Nat → ClassId} {A : Nat → Prop} {cc : ByteArray} {own nm : String} {ms : Nat → hs_M} {C : b2_C} {nL d : Nat}
  {adr : List Nat} {al : List hs_V} {w : b2_W} {ls : Array Slot} {H : Heap} {locs : List Loc} {pc cells slots : Nat}
  {index : Nat} {n k : Int32} {r : List hs_V} (F : b2_Fx ms p l R s m args meth c D tc A cc own nm C d nL) (h0 : b2_St nL D tc A s adr al (hs_i k :: hs_i n :: r) w ls H locs) (hn : ¬ n < 0) (hk : ¬ k < 0) (hl1 : Cond.classLink own index ("[" ++ (FieldType.array .int).toString) ∈ hs_T) (hl2 : Cond.arrayClass .int ∈ hs_T)
    (hwf : b2_wf (w ++ [.inr (5, n.toNatClampNeg, .inr (.inr ((List.range n.toNatClampNeg).map (fun j => some (w.length + 1 + j)))))] ++ (List.range n.toNatClampNeg).map (fun _ => .inr (0, k.toNatClampNeg, .inl (fun _ => 0)))) = true) (hb1 : n.toNatClampNeg * 4 ≤ 536870912) (hb2 : k.toNatClampNeg * 4 ≤ 536870912) (hcells : cells + (1 + n.toNatClampNeg) ≤ R.cells) (hslots : slots + (n.toNatClampNeg + n.toNatClampNeg * k.toNatClampNeg) ≤ R.slots) (hdg : decode cc pc = .ok (.multianewarray index 2, 4))
    (kk : b2_G p l e R s m args below meth c Qe nL D tc A adr (pc + 4) al (hs_r 0 w.length :: r) (w ++ [.inr (5, n.toNatClampNeg, .inr (.inr ((List.range n.toNatClampNeg).map (fun j => some (w.length + 1 + j)))))] ++ (List.range n.toNatClampNeg).map (fun _ => .inr (0, k.toNatClampNeg, .inl (fun _ => 0)))) (cells + (1 + n.toNatClampNeg)) (slots + (n.toNatClampNeg + n.toNatClampNeg * k.toNatClampNeg))),
  W p l e R s m args below meth c H locs cells slots Qe (F0 m pc ls ((hs_i k :: hs_i n :: r).map (hs_cv (b2_ad adr))))
section B5
variable {p : Program} {l : Launch} {e : Env} {R : Room} {s : State} {m : MethodId} {args : Array Value} {below : List Frame} {meth : Method} {c : Code} {Qe : State → Prop}
variable {D : va_G} {tc : Nat → ClassId} {A : Nat → Prop} {cc : ByteArray} {own nm : String} {ms : Nat → hs_M} {C : b2_C} {nL d : Nat}
variable {adr : List Nat} {al st : List hs_V} {w : b2_W} {ls : Array Slot} {H : Heap} {locs : List Loc} {pc len cells slots : Nat}
theorem b2_tyok_spec {adr : List Nat} {c0 k : Nat} {v : hs_V} (h : b2_tyok c0 k v = true) : ∃ ty, parseFieldDescriptor ((match vwCl[c0]? with
      | some q => (q.2.1 k).2.2.1
      | none => "")) = some ty ∧ narrow ty (hs_cv (b2_ad adr) v) = hs_cv (b2_ad adr) v ∧ fits ty (hs_cv (b2_ad adr) v) = true := by
  unfold b2_tyok at h
  split at h
  next x hp => exact ⟨.int, hp, rfl, rfl⟩
  next x hp =>
    refine ⟨.boolean, hp, ?_, ?_⟩
    · rcases hs_b01_iff.mp h with rfl | rfl
      · show narrow .boolean (.int 0) = .int 0
        decide +kernel
      · show narrow .boolean (.int 1) = .int 1
        decide +kernel
    · rcases hs_b01_iff.mp h with rfl | rfl
      · show fits .boolean (.int 0) = true
        decide +kernel
      · show fits .boolean (.int 1) = true
        decide +kernel
  next x y C0 hp => exact ⟨.object C0, hp, rfl, rfl⟩
  next x y t hp => exact ⟨.array t, hp, rfl, rfl⟩
  next => cases h
theorem b2_KK {pc' : Nat} {al' st' : List hs_V} (h0 : b2_St nL D tc A s adr al st w ls H locs) (kk : b2_G p l e R s m args below meth c Qe nL D tc A adr pc' al' st' w cells slots) :
    hs_KS p l e R s m args below meth c cells slots Qe nL (b2_ad adr) (fun _ i => i < w.length) (fun (_ : hs_H) H locs => va_P D vwCl (b2_ws tc adr w) H ∧ va_D A (b2_ws tc adr w) ∧ va_S A s.heap H locs) (fun pc al st h => pc = pc' ∧ al = al' ∧ st = st' ∧ h = (fun _ _ _ => 0, fun _ _ _ => 0)) := b2_KS h0.1 h0.2.1 kk
set_option maxHeartbeats 4000000 in
theorem b2_o_step (hM : b2_Mna) (F : b2_Fx ms p l R s m args meth c D tc A cc own nm C d nL) {ins : Instr} {x : List Nat} {q : b2_S} (hs : b2_step C pc al st w ins len x = some q) (h0 : b2_St nL D tc A s adr al st w ls H locs) (hsm : b2_small st = true) (hwf : b2_wf q.2.2.2.1 = true) (hcells : cells + q.2.2.2.2.1 ≤ R.cells) (hslots : slots + q.2.2.2.2.2 ≤ R.slots)
    (hdg : decode cc pc = .ok (ins, len)) (hr : b2_okR own nm ms nL pc ins len x = true) (kk : b2_G p l e R s m args below meth c Qe nL D tc A adr q.1 q.2.1 q.2.2.1 q.2.2.2.1 (cells + q.2.2.2.2.1) (slots + q.2.2.2.2.2)) :
    W p l e R s m args below meth c H locs cells slots Qe (F0 m pc ls (st.map (hs_cv (b2_ad adr)))) := by
  have F' := F
  obtain ⟨⟨hcon, hR, hA, hY⟩, hx, hb, hml, hts, hown, hK, hin, hcl⟩ := F'
  have hnl := h0.2.2.2.1.1
  cases ins
  case iconst n =>
    simp only [b2_okR, Bool.and_eq_true, decide_eq_true_eq] at hr
    obtain ⟨rfl, hv⟩ := hr
    obtain rfl := Option.some.inj hs
    exact hs_o_const (v := hs_i (nI (hs_fst x))) (b2_KK h0 kk) trivial rfl ⟨rfl, rfl, rfl, rfl⟩ h0.2.2 (lv_iconst hx hb hdg hv)
  case bipush n =>
    simp only [b2_okR, Bool.and_eq_true, decide_eq_true_eq] at hr
    obtain ⟨rfl, hv⟩ := hr
    obtain rfl := Option.some.inj hs
    exact hs_o_const (v := hs_i (nI (hs_fst x))) (b2_KK h0 kk) trivial rfl ⟨rfl, rfl, rfl, rfl⟩ h0.2.2 (lv_bipush hx hb hdg hv)
  case sipush n =>
    simp only [b2_okR, Bool.and_eq_true, decide_eq_true_eq] at hr
    obtain ⟨rfl, hv⟩ := hr
    obtain rfl := Option.some.inj hs
    exact hs_o_const (v := hs_i (nI (hs_fst x))) (b2_KK h0 kk) trivial rfl ⟨rfl, rfl, rfl, rfl⟩ h0.2.2 (lv_sipush hx hb hdg hv)
  case aload_n k =>
    have hr : len = 1 := of_decide_eq_true hr
    subst hr
    have hs' : (match al.getD k.val hs_u with
      | .inr (.inr (.inl (c, i))) => some (pc + 1, al, hs_r c i :: st, w, 0, 0)
      | _ => none) = some q := hs
    split at hs'
    next c1 i1 hv =>
      obtain rfl := Option.some.inj hs'
      exact hs_o_ldR (k := k.val) (b2_KK h0 kk) (by unfold hs_ldR; rw [hv]; exact ⟨rfl, rfl, rfl, rfl⟩) h0.2.2 (fun hl => lv_aload_n hx hb hdg rfl hl)
    next => cases hs'
  case iload_n k =>
    have hr : len = 1 := of_decide_eq_true hr
    subst hr
    have hs' : (match al.getD k.val hs_u with
      | .inl v => some (pc + 1, al, hs_i v :: st, w, 0, 0)
      | _ => none) = some q := hs
    split at hs'
    next v hv =>
      obtain rfl := Option.some.inj hs'
      exact hs_o_ldI (k := k.val) (b2_KK h0 kk) (by unfold hs_ldI; rw [hv]; exact ⟨rfl, rfl, rfl, rfl⟩) h0.2.2 (fun hl => lv_iload_n hx hb hdg rfl hl)
    next => cases hs'
  case istore_n k =>
    simp only [b2_okR, Bool.and_eq_true, decide_eq_true_eq] at hr
    obtain ⟨rfl, hk⟩ := hr
    match st, hs, h0, kk with
    | .inl v :: r, hs, h0, kk =>
      obtain rfl := Option.some.inj hs
      exact hs_o_st (v := hs_i v) (len := 1) rfl (b2_KK (st := .inl v :: r) h0 kk) ⟨rfl, rfl, rfl, rfl⟩ trivial (by rw [hnl]; exact hk) h0.2.2.pop (fun hl kk' => lv_istore_n hx hb hdg rfl hl (by rw [hnl]; exact hk) rfl kk')
  case astore_n k =>
    simp only [b2_okR, Bool.and_eq_true, decide_eq_true_eq] at hr
    obtain ⟨rfl, hk⟩ := hr
    match st, hs, h0, kk with
    | .inr (.inr (.inl (c1, i1))) :: r, hs, h0, kk =>
      obtain rfl := Option.some.inj hs
      exact hs_o_st (v := hs_r c1 i1) (len := 1) rfl (b2_KK (st := hs_r c1 i1 :: r) h0 kk) ⟨rfl, rfl, rfl, rfl⟩ h0.2.2.hd (by rw [hnl]; exact hk) h0.2.2.pop (fun hl kk' => lv_astore_n hx hb hdg rfl hl (by rw [hnl]; exact hk) rfl kk')
  case iinc k v =>
    simp only [b2_okR, Bool.and_eq_true, decide_eq_true_eq] at hr
    obtain ⟨⟨rfl, hk⟩, hv⟩ := hr
    have hs' : (match al.getD k hs_u with
      | .inl v => some (pc + 3, hs_set al k (hs_i (v + nI (hs_fst x))), st, w, 0, 0)
      | _ => none) = some q := hs
    split at hs'
    next v1 hv1 =>
      obtain rfl := Option.some.inj hs'
      exact hs_o_iinc (n := nI (hs_fst x)) (b2_KK h0 kk) (by unfold hs_iinc; rw [hv1]; exact ⟨rfl, rfl, rfl, rfl⟩) h0.2.2 (by rw [hnl]; exact hk) (fun hl hj hs kk' => lv_iinc hx hb hdg hl hj (by rw [hv]; exact hs) (by rw [hnl]; exact hk) rfl kk')
    next => cases hs'
  case goto o =>
    simp only [b2_okR, Bool.and_eq_true, decide_eq_true_eq] at hr
    obtain ⟨rfl, ht⟩ := hr
    obtain rfl := Option.some.inj hs
    exact lv_goto hx hb hdg ht (kk adr ls H locs (fun _ _ => rfl) h0)
  case if_icmp cd o =>
    simp only [b2_okR, Bool.and_eq_true, decide_eq_true_eq] at hr
    obtain ⟨rfl, ht⟩ := hr
    cases cd
    case ge =>
      match st, hs, h0, kk with
      | .inl b :: .inl a :: r, hs, h0, kk =>
        have hs' : (if b ≤ a then some (hs_fst x, al, r, w, 0, 0) else some (pc + 3, al, r, w, 0, 0)) = some q := hs
        refine lv_icmp_ge hx hb hdg ht (fun hc => ?_) (fun hc => ?_)
        · rw [if_pos hc] at hs'
          obtain rfl := Option.some.inj hs'
          exact kk adr ls H locs (fun _ _ => rfl) ⟨h0.1, h0.2.1, h0.2.2.pop.pop⟩
        · rw [if_neg hc] at hs'
          obtain rfl := Option.some.inj hs'
          exact kk adr ls H locs (fun _ _ => rfl) ⟨h0.1, h0.2.1, h0.2.2.pop.pop⟩
    all_goals cases hs
  case dup =>
    have hr : len = 1 := of_decide_eq_true hr
    subst hr
    match st, hs, h0, kk with
    | .inr (.inr (.inl v)) :: r, hs, h0, kk =>
      obtain rfl := Option.some.inj hs
      exact hs_o_dup (b2_KK h0 kk) ⟨rfl, rfl, rfl, rfl⟩ h0.2.2 (fun hc => lv_dup hx hb hdg hc)
  case new i =>
    simp only [b2_okR, Bool.and_eq_true, decide_eq_true_eq] at hr
    obtain ⟨rfl, hr⟩ := hr
    split at hr
    next c1 a1 b1 a2 b2 a3 b3 =>
      have hs' : (match vwCl[c1]? with
        | some q => some (pc + 3, al, hs_r 0 w.length :: st, w ++ [.inl (c1, (List.range q.2.2).map (fun k => b2_dfl ((parseFieldDescriptor (q.2.1 k).2.2.1).getD .int)))], 1, q.2.2)
        | none => none) = some q := hs
      cases hv : vwCl[c1]? with
      | none => rw [hv] at hs'; cases hs'
      | some vq =>
        rw [hv] at hs' hr
        obtain rfl := Option.some.inj hs'
        simp only [Bool.and_eq_true] at hr
        obtain ⟨⟨⟨r1, r2⟩, r3⟩, r4⟩ := hr
        exact b2_o_new F h0 hv (hs_has_in r1) (hs_has_in r2) (hs_has_in r3) r4 hwf hcells hslots hdg kk
    next => cases hr
  case newarray t =>
    simp only [b2_okR, Bool.and_eq_true, decide_eq_true_eq] at hr
    obtain ⟨rfl, hr⟩ := hr
    have small : ∀ (n : Int32) (r : List hs_V), st = hs_i n :: r → n.toNatClampNeg * 8 ≤ 536870912 := fun n r hst => by
      have := List.all_eq_true.mp hsm (hs_i n) (by rw [hst]; exact List.mem_cons_self)
      exact of_decide_eq_true this
    split at hr
    next a1 b1 =>
      rw [Bool.and_eq_true, decide_eq_true_eq] at hr
      match st, hs, h0, kk, small with
      | .inl n :: r, hs, h0, kk, small =>
        have hs' : (if n < 0 then none else some (pc + 2, al, hs_r 0 w.length :: r, w ++ [.inr (0, n.toNatClampNeg, .inl (fun _ => 0))], 1, n.toNatClampNeg)) = some q := hs
        by_cases hn : n < 0
        · rw [if_pos hn] at hs'; cases hs'
        · rw [if_neg hn] at hs'
          obtain rfl := Option.some.inj hs'
          have h8 := small _ _ rfl
          exact b2_o_newarray (ti := 0) (e2 := .inr (0, n.toNatClampNeg, .inl (fun _ => 0))) (a0 := (n.toNatClampNeg, .inl (fun _ => 0))) F h0 hn hr.1 rfl (hs_has_in hr.2) (fun _ => rfl) (fun _ => rfl) hwf (by show n.toNatClampNeg * 4 ≤ _; omega) hcells hslots hdg kk
    next a1 b1 =>
      rw [Bool.and_eq_true, decide_eq_true_eq] at hr
      match st, hs, h0, kk, small with
      | .inl n :: r, hs, h0, kk, small =>
        have hs' : (if n < 0 then none else some (pc + 2, al, hs_r 0 w.length :: r, w ++ [.inr (1, n.toNatClampNeg, .inl (fun _ => 0))], 1, n.toNatClampNeg)) = some q := hs
        by_cases hn : n < 0
        · rw [if_pos hn] at hs'; cases hs'
        · rw [if_neg hn] at hs'
          obtain rfl := Option.some.inj hs'
          have h8 := small _ _ rfl
          exact b2_o_newarray (ti := 1) (e2 := .inr (1, n.toNatClampNeg, .inl (fun _ => 0))) (a0 := (n.toNatClampNeg, .inl (fun _ => 0))) F h0 hn hr.1 rfl (hs_has_in hr.2) (fun _ => rfl) (fun _ => rfl) hwf (by show n.toNatClampNeg * 1 ≤ _; omega) hcells hslots hdg kk
    next a1 b1 =>
      rw [Bool.and_eq_true, decide_eq_true_eq] at hr
      match st, hs, h0, kk, small with
      | .inl n :: r, hs, h0, kk, small =>
        have hs' : (if n < 0 then none else some (pc + 2, al, hs_r 0 w.length :: r, w ++ [.inr (2, n.toNatClampNeg, .inr (.inl (fun _ => 0)))], 1, n.toNatClampNeg)) = some q := hs
        by_cases hn : n < 0
        · rw [if_pos hn] at hs'; cases hs'
        · rw [if_neg hn] at hs'
          obtain rfl := Option.some.inj hs'
          have h8 := small _ _ rfl
          exact b2_o_newarray (ti := 2) (e2 := .inr (2, n.toNatClampNeg, .inr (.inl (fun _ => 0)))) (a0 := (n.toNatClampNeg, .inr (.inl (fun _ => 0)))) F h0 hn hr.1 rfl (hs_has_in hr.2) (fun _ => rfl) (fun _ => rfl) hwf (by show n.toNatClampNeg * 8 ≤ _; omega) hcells hslots hdg kk
    next => cases hr
  case anewarray i =>
    simp only [b2_okR, Bool.and_eq_true, decide_eq_true_eq] at hr
    obtain ⟨rfl, hr⟩ := hr
    have small : ∀ (n : Int32) (r : List hs_V), st = hs_i n :: r → n.toNatClampNeg * 8 ≤ 536870912 := fun n r hst => by
      have := List.all_eq_true.mp hsm (hs_i n) (by rw [hst]; exact List.mem_cons_self)
      exact of_decide_eq_true this
    split at hr
    next a1 b1 =>
      match st, hs, h0, kk, small with
      | .inl n :: r, hs, h0, kk, small =>
        have hs' : (if n < 0 then none else some (pc + 3, al, hs_r 0 w.length :: r, w ++ [.inr (3, n.toNatClampNeg, .inr (.inr (List.replicate n.toNatClampNeg none)))], 1, n.toNatClampNeg)) = some q := hs
        by_cases hn : n < 0
        · rw [if_pos hn] at hs'; cases hs'
        · rw [if_neg hn] at hs'
          obtain rfl := Option.some.inj hs'
          have h8 := small _ _ rfl
          exact b2_o_anew (ti := 3) F h0 hn rfl (hs_has_in hr) hY.2.1 hwf (by omega) hcells hslots hdg kk
    next a1 b1 =>
      match st, hs, h0, kk, small with
      | .inl n :: r, hs, h0, kk, small =>
        have hs' : (if n < 0 then none else some (pc + 3, al, hs_r 0 w.length :: r, w ++ [.inr (4, n.toNatClampNeg, .inr (.inr (List.replicate n.toNatClampNeg none)))], 1, n.toNatClampNeg)) = some q := hs
        by_cases hn : n < 0
        · rw [if_pos hn] at hs'; cases hs'
        · rw [if_neg hn] at hs'
          obtain rfl := Option.some.inj hs'
          have h8 := small _ _ rfl
          exact b2_o_anew (ti := 4) F h0 hn rfl (hs_has_in hr) hY.2.2.1 hwf (by omega) hcells hslots hdg kk
    next => cases hr
  case getfield i =>
    simp only [b2_okR, Bool.and_eq_true, decide_eq_true_eq] at hr
    obtain ⟨rfl, hr⟩ := hr
    split at hr
    next sg ix nest c1 k1 =>
      match st, hs, h0, kk with
      | .inr (.inr (.inl (cx, i1))) :: r, hs, h0, kk =>
        have hs' : (match w[i1]? with
          | some (.inl (d, fs)) => (match fs[k1]? with
            | some v => bif Nat.beq d c1 && hs_real v then some (pc + 3, al, v :: r, w, 0, 0) else none
            | none => none)
          | _ => none) = some q := hs
        split at hs'
        next d1 fs hw =>
          split at hs'
          next v hv =>
            cases hb2 : (Nat.beq d1 c1 && hs_real v) with
            | false => rw [hb2] at hs'; cases hs'
            | true =>
              rw [hb2] at hs'
              obtain rfl := Option.some.inj hs'
              rw [Bool.and_eq_true] at hb2
              obtain rfl := Nat.eq_of_beq_eq_true hb2.1
              exact b2_o_get F h0 hw hv hb2.2 hr hdg kk
          next => cases hs'
        next => cases hs'
    next => cases hr
  case iastore =>
    have hr : len = 1 := of_decide_eq_true hr
    subst hr
    match st, hs, h0, kk with
    | .inl v :: .inl j :: .inr (.inr (.inl (cx, i1))) :: r, hs, h0, kk =>
      have hs' : (match w[i1]? with
        | some (.inr (0, n, .inl f)) => bif hs_inb j n then some (pc + 1, al, r, w.set i1 (.inr (0, n, .inl (upd f j.toNatClampNeg v))), 0, 0) else none
        | _ => none) = some q := hs
      split at hs'
      next n f hw =>
        cases hb2 : hs_inb j n with
        | false => rw [hb2] at hs'; cases hs'
        | true =>
          rw [hb2] at hs'
          obtain rfl := Option.some.inj hs'
          exact b2_o_iast F h0 hw (hs_inb_iff.mp hb2) hwf hdg kk
      next => cases hs'
  case aastore =>
    simp only [b2_okR, Bool.and_eq_true, decide_eq_true_eq] at hr
    obtain ⟨rfl, hr⟩ := hr
    have key : ∀ (t ci : Nat), x = [t, ci] → ∀ q0 : vw_C, vwCl[ci]? = some q0 → (hs_tys tc)[t]? = some (tc t, .object q0.1) → W p l e R s m args below meth c H locs cells slots Qe (F0 m pc ls (st.map (hs_cv (b2_ad adr)))) := by
      intro t ci hxe q0 hq0 ht0
      subst hxe
      match st, hs, h0, kk with
      | .inr (.inr (.inl (cy, v))) :: .inl j :: .inr (.inr (.inl (cx, i1))) :: r, hs, h0, kk =>
        have hs' : (match w[i1]?, w[v]? with
          | some (.inr (t2, n, .inr (.inr l))), some (.inl (c2, _)) => bif hs_inb j n && Nat.beq t t2 && Nat.beq ci c2 && Nat.beq l.length n then some (pc + 1, al, r, w.set i1 (.inr (t2, n, .inr (.inr (l.set j.toNatClampNeg (some v))))), 0, 0) else none
          | _, _ => none) = some q := hs
        split at hs'
        next t2 n l2 c2 fs hw hv =>
          cases hb2 : (hs_inb j n && Nat.beq t t2 && Nat.beq ci c2 && Nat.beq l2.length n) with
          | false => rw [hb2] at hs'; cases hs'
          | true =>
            rw [hb2] at hs'
            obtain rfl := Option.some.inj hs'
            rw [Bool.and_eq_true, Bool.and_eq_true, Bool.and_eq_true] at hb2
            obtain ⟨⟨⟨g1, g2⟩, g3⟩, g4⟩ := hb2
            obtain rfl := Nat.eq_of_beq_eq_true g2
            obtain rfl := Nat.eq_of_beq_eq_true g3
            exact b2_o_aast F h0 hw hv (hs_inb_iff.mp g1) (Nat.eq_of_beq_eq_true g4) hq0 ht0 hwf hdg kk
        next => cases hs'
    split at hr
    next => exact key 3 3 rfl _ rfl rfl
    next => exact key 4 8 rfl _ rfl rfl
    next => cases hr
  case multianewarray i dm =>
    by_cases hdm : dm = 2
    · subst hdm
      have hr2 : (decide (len = 4) && b2_okMna own i x) = true := hr
      rw [Bool.and_eq_true, decide_eq_true_eq] at hr2
      obtain ⟨rfl, hr2⟩ := hr2
      unfold b2_okMna at hr2
      split at hr2
      next a1 b1 a2 b2 =>
        rw [Bool.and_eq_true] at hr2
        have small : ∀ (n k : Int32) (r : List hs_V), st = hs_i k :: hs_i n :: r → n.toNatClampNeg * 8 ≤ 536870912 ∧ k.toNatClampNeg * 8 ≤ 536870912 := fun n k r hst => by
          have h5 := List.all_eq_true.mp hsm (hs_i n) (by rw [hst]; exact List.mem_cons_of_mem _ List.mem_cons_self)
          have h6 := List.all_eq_true.mp hsm (hs_i k) (by rw [hst]; exact List.mem_cons_self)
          exact ⟨of_decide_eq_true h5, of_decide_eq_true h6⟩
        match st, hs, h0, kk, small with
        | .inl k1 :: .inl n1 :: r, hs, h0, kk, small =>
          have hs' : (if n1 < 0 ∨ k1 < 0 then none else some (pc + 4, al, hs_r 0 w.length :: r,
            w ++ [.inr (5, n1.toNatClampNeg, .inr (.inr ((List.range n1.toNatClampNeg).map (fun j => some (w.length + 1 + j)))))] ++ (List.range n1.toNatClampNeg).map (fun _ => .inr (0, k1.toNatClampNeg, .inl (fun _ => 0))), 1 + n1.toNatClampNeg, n1.toNatClampNeg + n1.toNatClampNeg * k1.toNatClampNeg)) = some q := hs
          by_cases hn : n1 < 0 ∨ k1 < 0
          · rw [if_pos hn] at hs'; cases hs'
          · rw [if_neg hn] at hs'
            obtain rfl := Option.some.inj hs'
            obtain ⟨h5, h6⟩ := small _ _ _ rfl
            exact hM F h0 (fun q => hn (Or.inl q)) (fun q => hn (Or.inr q)) (hs_has_in hr2.1) (hs_has_in hr2.2) hwf (by omega) (by omega) hcells hslots hdg kk
      next => cases hr2
    · exfalso
      match dm, hs, hdm with
      | 0, hs, _ => cases hs
      | 1, hs, _ => cases hs
      | 2, _, h => exact h rfl
      | n + 3, hs, _ => cases hs
  case invokespecial i =>
    simp only [b2_okR, Bool.and_eq_true, decide_eq_true_eq] at hr
    obtain ⟨rfl, hr⟩ := hr
    split at hr
    next a1 b1 a2 b2 a3 b3 =>
      simp only [Bool.and_eq_true] at hr
      match st, hs, h0, kk with
      | .inr (.inr (.inl (cx, i1))) :: r, hs, h0, kk =>
        have hs' : (bif Nat.ble (hs_cat r) 8 then some (pc + 3, al, r, w, 0, 0) else none) = some q := hs
        cases hb2 : Nat.ble (hs_cat r) 8 with
        | false => rw [hb2] at hs'; cases hs'
        | true =>
          rw [hb2] at hs'
          obtain rfl := Option.some.inj hs'
          exact b2_o_obj F h0 hb2 (hs_has_in hr.1.1) (hs_has_in hr.1.2) (hs_has_in hr.2) hdg kk
    next y n nest a1 b1 a2 b2 a3 b3 a4 b4 =>
      simp only [Bool.and_eq_true, decide_eq_true_eq] at hr
      obtain ⟨⟨⟨⟨⟨⟨⟨⟨⟨q1, q2⟩, q3⟩, q4⟩, q5⟩, q6⟩, q7⟩, q8⟩, q9⟩, q10⟩ := hr
      have hs' : (match st.drop n with
        | .inr (.inr (.inl (c, i))) :: r => bif Nat.ble (hs_cat r) 8 then (C y (hs_r c i :: (st.take n).reverse) w).bind (fun q => some (pc + 3, al, r, q.1, q.2.1, q.2.2)) else none
        | _ => none) = some q := hs
      split at hs'
      next cx i1 r hdr =>
        cases hb2 : Nat.ble (hs_cat r) 8 with
        | false => rw [hb2] at hs'; cases hs'
        | true =>
          rw [hb2] at hs'
          obtain ⟨q0, hC, hs'⟩ := hs_bind_some hs'
          obtain rfl := Option.some.inj hs'
          obtain ⟨w2, mc, msl⟩ := q0
          refine b2_o_ctor (nest := nest) (a1 := a1) (b1 := b1) F h0 hdr hb2 hC ⟨q1, q2, q3⟩ q4 q5 q6 ?_ (hs_has_in q8) (hs_has_in q9) (hs_has_in q10) hcells hslots hdg kk
          split at q7
          · exact Or.inl (hs_has_in q7)
          · exact Or.inr (hs_hasN_in q7)
      next => cases hs'
    next => cases hr
  case putfield i =>
    simp only [b2_okR, Bool.and_eq_true, decide_eq_true_eq] at hr
    obtain ⟨rfl, hr⟩ := hr
    have key : ∀ (sg ix nest c1 k1 fin : Nat), x = [sg, ix, nest, c1, k1, fin] → (fin = 1 ∨ fin = 2) → b2_okF own nm i sg ix nest c1 k1 fin = true → W p l e R s m args below meth c H locs cells slots Qe (F0 m pc ls (st.map (hs_cv (b2_ad adr)))) := by
      intro sg ix nest c1 k1 fin hxe hfin hrf
      subst hxe
      match st, hs, h0, kk with
      | v :: .inr (.inr (.inl (cx, i1))) :: r, hs, h0, kk =>
        have hs' : (match w[i1]? with
          | some (.inl (d, fs)) => bif Nat.beq d c1 && Nat.blt k1 fs.length && hs_real v && !hs_long v && b2_tyok c1 k1 v then some (pc + 3, al, r, w.set i1 (.inl (d, fs.set k1 v)), 0, 0) else none
          | _ => none) = some q := hs
        split at hs'
        next d1 fs hw =>
          cases hb2 : (Nat.beq d1 c1 && Nat.blt k1 fs.length && hs_real v && !hs_long v && b2_tyok c1 k1 v) with
          | false => rw [hb2] at hs'; cases hs'
          | true =>
            rw [hb2] at hs'
            obtain rfl := Option.some.inj hs'
            simp only [Bool.and_eq_true] at hb2
            obtain ⟨⟨⟨⟨g1, g2⟩, g3⟩, g4⟩, g5⟩ := hb2
            obtain rfl := Nat.eq_of_beq_eq_true g1
            exact b2_o_put F h0 hw (Nat.le_of_ble_eq_true g2) hfin hrf (b2_tyok_spec g5) hwf hdg kk
        next => cases hs'
    split at hr
    next sg ix nest c1 k1 => exact key _ _ _ _ _ 1 rfl (Or.inl rfl) hr
    next sg ix nest c1 k1 => exact key _ _ _ _ _ 2 rfl (Or.inr rfl) hr
    next => cases hr
  all_goals cases hs
end B5
