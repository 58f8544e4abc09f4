/-! One step. -/
section B4
variable {p : Program} {l : Launch} {e : Env} {R : Room} {s : State} {m : MethodId} {args : Array Value} {below : List Frame} {meth : Method} {c : Code} {Qe : State → Prop}
variable {D : va_G} {tc : Nat → ClassId} {A : Nat → Prop} {cc : ByteArray} {own nm : String} {ms : Nat → hs_M} {C : b2_C} {nL d : Nat}
variable {adr : List Nat} {al st : List hs_V} {w : b2_W} {ls : Array Slot} {H : Heap} {locs : List Loc} {pc len cells slots : Nat}
theorem b2_okF_spec {index sg ix nest c k fin : Nat} (h : b2_okF own nm index sg ix nest c k fin = true) : ∃ q : vw_C, vwCl[c]? = some q ∧ k < q.2.2 ∧ (q.2.1 k).1 = q.1 ∧ (Cond.fieldLink own index q.1 (q.2.1 k).2.1 (q.2.1 k).2.2.1 ∈ hs_T ∨ Cond.fieldLinkNest own index q.1 (q.2.1 k).2.1 (q.2.1 k).2.2.1 "HuntedScent" ∈ hs_N) ∧
    (fin = 0 ∨ (fin = 1 ∧ (q.2.1 k).2.2.2 = false) ∨ ((q.2.1 k).2.2.2 = true ∧ nm = "<init>" ∧ q.1 = own ∧ Cond.fieldLink own index q.1 (q.2.1 k).2.1 (q.2.1 k).2.2.1 ∈ hs_T)) := by
  unfold b2_okF at h
  split at h
  next q hq =>
    simp only [Bool.and_eq_true, decide_eq_true_eq] at h
    obtain ⟨⟨⟨h1, h2⟩, h3⟩, h4⟩ := h
    refine ⟨q, hq, h1, h2, ?_, ?_⟩
    · split at h3
      · exact Or.inl (hs_has_in h3)
      · exact Or.inr (hs_hasN_in h3)
    · split at h4
      · exact Or.inl rfl
      · exact Or.inr (Or.inl ⟨rfl, by simpa using h4⟩)
      · simp only [Bool.and_eq_true, decide_eq_true_eq] at h4
        obtain ⟨⟨⟨h5, h6⟩, h7⟩, h8⟩ := h4
        subst h8
        exact Or.inr (Or.inr ⟨h5, h6, h7, hs_has_in h3⟩)
  next => cases h
/-- a field read -/
theorem b2_o_get {index sg ix nest c0 k i : Nat} {r : List hs_V} {v : hs_V} {cx : Nat} {fs : List hs_V} (F : b2_Fx ms p l R s m args meth c D tc A cc own nm C d nL) (h0 : b2_St nL D tc A s adr al (hs_r cx i :: r) w ls H locs) (hw : w[i]? = some (.inl (c0, fs))) (hk : fs[k]? = some v) (hv : hs_real v = true)
    (hr : b2_okF own nm index sg ix nest c0 k 0 = true) (hdg : decode cc pc = .ok (.getfield index, 3)) (kk : b2_G p l e R s m args below meth c Qe nL D tc A adr (pc + 3) al (v :: r) w cells slots) :
    W p l e R s m args below meth c H locs cells slots Qe (F0 m pc ls ((hs_r cx i :: r).map (hs_cv (b2_ad adr)))) := by
  obtain ⟨⟨hcon, hR, hA, hY⟩, hx, hb, hml, hts, hown, hK, hin, hcl⟩ := F
  obtain ⟨q, hq, hk2, hdecl, hl, -⟩ := b2_okF_spec hr
  obtain ⟨h1, h2, h3⟩ := h0
  have hat := b2_ws_at (tc := tc) h1 hw
  have hin2 : b2_wfE w.length (.inl (c0, fs)) = true := List.all_eq_true.mp h2 _ (List.mem_of_getElem? hw)
  have hv2 : hs_In (fun _ i => i < w.length) v := by
    have h5 := List.all_eq_true.mp (show fs.all (b2_wfV w.length) = true from hin2) v (List.mem_of_getElem? hk)
    match v, h5 with
    | .inl _, _ => exact trivial
    | .inr (.inl _), _ => exact trivial
    | .inr (.inr (.inr _)), _ => exact trivial
    | .inr (.inr (.inl (c, k))), h5 => exact Nat.le_of_ble_eq_true h5
  have hgo := kk adr ls H locs (fun _ _ => rfl) ⟨h1, h2, h3.pop.top hv2 hv⟩
  have hfs : (fs.map (hs_cv (b2_ad adr)))[k]? = some (hs_cv (b2_ad adr) v) := by rw [List.getElem?_map, hk]; rfl
  rcases hl with hl | hl
  · exact va_get (D := D) (ci := c0) (C := q.1) (T := q.2.1) (N := q.2.2) hx hb hts (hcl c0 q hq).1 hown hK h3.2.2.2.1 i hat hq k hk2 (hts _ hl) (fun x hx => by rw [hdecl] at hx; exact hx) hfs hdg hgo
  · exact va_getN (D := D) (ci := c0) (C := q.1) (T := q.2.1) (N := q.2.2) hx hb hts (hcl c0 q hq).1 hown hK h3.2.2.2.1 i hat hq k hk2 (hs_N_use hl (hY.1 _ hl)) (fun x hx => by rw [hdecl] at hx; exact hx) hfs hdg hgo
/-- a field write -/
theorem b2_o_put {index sg ix nest c0 k i fin : Nat} {r : List hs_V} {v : hs_V} {cx : Nat} {fs : List hs_V} (F : b2_Fx ms p l R s m args meth c D tc A cc own nm C d nL) (h0 : b2_St nL D tc A s adr al (v :: hs_r cx i :: r) w ls H locs) (hw : w[i]? = some (.inl (c0, fs))) (hk : k < fs.length) (hfin : fin = 1 ∨ fin = 2)
    (hr : b2_okF own nm index sg ix nest c0 k fin = true) (hty : ∃ ty, parseFieldDescriptor ((match vwCl[c0]? with
      | some q => (q.2.1 k).2.2.1
      | none => "")) = some ty ∧ narrow ty (hs_cv (b2_ad adr) v) = hs_cv (b2_ad adr) v ∧ fits ty (hs_cv (b2_ad adr) v) = true) (hwf : b2_wf (w.set i (.inl (c0, fs.set k v))) = true) (hdg : decode cc pc = .ok (.putfield index, 3)) (kk : b2_G p l e R s m args below meth c Qe nL D tc A adr (pc + 3) al r (w.set i (.inl (c0, fs.set k v))) cells slots) :
    W p l e R s m args below meth c H locs cells slots Qe (F0 m pc ls ((v :: hs_r cx i :: r).map (hs_cv (b2_ad adr)))) := by
  obtain ⟨⟨hcon, hR, hA, hY⟩, hx, hb, hml, hts, hown, hK, hin, hcl⟩ := F
  obtain ⟨q, hq, hk2, hdecl, hl, hf⟩ := b2_okF_spec hr
  rw [hq] at hty
  obtain ⟨ty, hd, hn, hfit⟩ := hty
  have h0' := h0
  obtain ⟨h1, h2, h3⟩ := h0
  have hat := b2_ws_at (tc := tc) h1 hw
  have hlt : i < w.length := (List.getElem?_eq_some_iff.mp hw).1
  obtain ⟨hin0, ⟨ty0, hty0⟩, hnm⟩ := hcl c0 q hq
  have hlen : k < (fs.map (hs_cv (b2_ad adr))).length := by rw [List.length_map]; exact hk
  have hgo : ∀ (H1 : Heap) (locs1 : List Loc), va_P D vwCl ((b2_ws tc adr w).set i (adr.getD i 0, .inr (c0, (fs.map (hs_cv (b2_ad adr))).set k (hs_cv (b2_ad adr) v)))) H1 → va_D A ((b2_ws tc adr w).set i (adr.getD i 0, .inr (c0, (fs.map (hs_cv (b2_ad adr))).set k (hs_cv (b2_ad adr) v)))) → va_S A s.heap H1 locs1 → W p l e R s m args below meth c H1 locs1 cells slots Qe (F0 m (pc + 3) ls (r.map (hs_cv (b2_ad adr)))) := by
    intro H1 locs1 hP hD hS
    have ee : (Sum.inr (c0, (fs.map (hs_cv (b2_ad adr))).set k (hs_cv (b2_ad adr) v)) : va_E) = b2_ce tc adr (.inl (c0, fs.set k v)) := by
      show _ = Sum.inr (c0, (fs.set k v).map _)
      rw [List.map_set]
    rw [ee] at hP hD
    exact kk adr ls H1 locs1 (fun _ _ => rfl) (b2_setSt h0' (fun v hv => List.mem_cons_of_mem _ (List.mem_cons_of_mem _ hv)) hlt hwf hP hD hS)
  have hsame : ∀ x, s.fieldFound? (q.2.1 k).1 (q.2.1 k).2.1 (q.2.1 k).2.2.1 = some x → s.fieldFound? q.1 (q.2.1 k).2.1 (q.2.1 k).2.2.1 = some x := fun x hx => by rw [hdecl] at hx; exact hx
  rcases hf with rfl | ⟨rfl, hf⟩ | ⟨hf, rfl, hq1, hl⟩
  · omega
  · rcases hl with hl | hl
    · exact va_put (D := D) (ci := c0) (C := q.1) (T := q.2.1) (N := q.2.2) hx hb hts hin0 ty0 hty0 hnm hown hK h3.2.2.2.1 h3.2.2.2.2.1 h3.2.2.2.2.2 i hat hq k hk2 (hts _ hl) hsame hf hd hn hfit hlen hdg hgo
    · exact va_putN (D := D) (ci := c0) (C := q.1) (T := q.2.1) (N := q.2.2) hx hb hts hin0 ty0 hty0 hnm hown hK h3.2.2.2.1 h3.2.2.2.2.1 h3.2.2.2.2.2 i hat hq k hk2 (hs_N_use hl (hY.1 _ hl)) hsame hf hd hn hfit hlen hdg hgo
  · exact va_putF (D := D) (ci := c0) (C := q.1) (T := q.2.1) (N := q.2.2) hx hb hts hin0 ty0 hty0 hnm hown hK h3.2.2.2.1 h3.2.2.2.2.1 h3.2.2.2.2.2 i hat hq k hk2 (hts _ hl) hsame hf (hin rfl) (hdecl.trans hq1) hd hn hfit hlen hdg hgo
/-- a new cell, what follows -/
theorem b2_o_grow {e2 : b2_E} {H1 : Heap} {r : List hs_V} {pc' dc ds q : Nat} (h0 : b2_St nL D tc A s adr al st w ls H locs) (hr : ∀ v ∈ r, v ∈ st) (hwf : b2_wf (w ++ [e2]) = true) (hce : b2_ce tc (adr ++ [q]) e2 = b2_ce tc adr e2)
    (hP : va_P D vwCl (b2_ws tc adr w ++ [(q, b2_ce tc adr e2)]) H1) (hD : va_D A (b2_ws tc adr w ++ [(q, b2_ce tc adr e2)])) (hS : va_S A s.heap H1 locs) (kk : b2_G p l e R s m args below meth c Qe nL D tc A adr pc' al (hs_r 0 w.length :: r) (w ++ [e2]) dc ds) :
    W p l e R s m args below meth c H1 locs dc ds Qe (F0 m pc' ls (.ref q :: r.map (hs_cv (b2_ad adr)))) := by
  have h1 := h0.1
  have hws := b2_ws_app (tc := tc) (ad2 := [q]) (w2 := [e2]) h1 h0.2.1
  have hz : List.zipWith (fun a e => (a, b2_ce tc (adr ++ [q]) e)) [q] [e2] = [(q, b2_ce tc adr e2)] := by
    show [(q, b2_ce tc (adr ++ [q]) e2)] = _
    rw [hce]
  rw [hz] at hws
  rw [← hws] at hP hD
  have hst := b2_grow (r := hs_r 0 w.length :: r) (w2 := [e2]) (ad2 := [q]) h0 (fun v hv => (List.mem_cons.mp hv).elim (fun q => Or.inr q) (fun hv => Or.inl (hr v hv))) (Nat.succ_pos _) rfl hwf hP hD hS
  have hgo := kk (adr ++ [q]) ls H1 locs (fun i hi => b2_getD_app hi) hst
  have e1 : (hs_r 0 w.length :: r).map (hs_cv (b2_ad (adr ++ [q]))) = .ref q :: r.map (hs_cv (b2_ad adr)) := by
    show Value.ref ((adr ++ [q]).getD w.length 0) :: _ = _
    rw [b2_st_more (adr := adr) (n := w.length) h1.symm (fun i hi => b2_getD_app hi) (fun v hv => (h0.2.2.2.2.1 v (hr v hv)).1), List.getD_eq_getElem?_getD, List.getElem?_append_right (by omega), h1, Nat.sub_self]
    rfl
  rw [e1] at hgo
  exact hgo
theorem b2_o_newarray {t : ArrayType} {n : Int32} {r : List hs_V} {ti : Nat} {ty : FieldType} {e2 : b2_E} {a0 : vp_A} (F : b2_Fx ms p l R s m args meth c D tc A cc own nm C d nL) (h0 : b2_St nL D tc A s adr al (hs_i n :: r) w ls H locs) (hn : ¬ n < 0) (hty : newarray.typeOf t = ty) (hti : (hs_tys tc)[ti]? = some (tc ti, ty)) (harr : Cond.arrayClass ty ∈ hs_T)
    (ha : ∀ cA : ClassId, vp_cell cA a0 = arrV cA n.toNatClampNeg (fun _ => defaultValue ty)) (hce : ∀ adr, b2_ce tc adr e2 = .inl (tc ti, a0)) (hwf : b2_wf (w ++ [e2]) = true) (hby : n.toNatClampNeg * componentBytes ty ≤ 536870912) (hcells : cells + 1 ≤ R.cells) (hslots : slots + n.toNatClampNeg ≤ R.slots) (hdg : decode cc pc = .ok (.newarray t, 2))
    (kk : b2_G p l e R s m args below meth c Qe nL D tc A adr (pc + 2) al (hs_r 0 w.length :: r) (w ++ [e2]) (cells + 1) (slots + n.toNatClampNeg)) :
    W p l e R s m args below meth c H locs cells slots Qe (F0 m pc ls ((hs_i n :: r).map (hs_cv (b2_ad adr)))) := by
  obtain ⟨⟨hcon, hR, hA, hY⟩, hx, hb, hml, hts, hown, hK, hin, hcl⟩ := F
  have h3 := h0.2.2
  refine va_newa hx hb (by rw [hty]; exact hts _ harr) hty hK h3.2.2.2.1 h3.2.2.2.2.1 h3.2.2.2.2.2 hA ha hn rfl hby hcells hslots hdg (fun q cA H1 hK2 hP hD hS => ?_)
  obtain rfl := b2_tc_eq hK hti hK2 rfl
  rw [← hce adr] at hP hD
  exact b2_o_grow h0 (fun v hv => List.mem_cons_of_mem _ hv) hwf (by rw [hce, hce]) hP hD hS kk
theorem b2_dfl_cv {adr : List Nat} {ty : FieldType} (h : ty = .int ∨ ty = .boolean ∨ (∃ C, ty = .object C) ∨ ∃ t, ty = .array t) : hs_cv (b2_ad adr) (b2_dfl ty) = defaultValue ty := by
  rcases h with rfl | rfl | ⟨C, rfl⟩ | ⟨t, rfl⟩ <;> rfl
theorem b2_o_new {index c0 : Nat} {q : vw_C} (F : b2_Fx ms p l R s m args meth c D tc A cc own nm C d nL) (h0 : b2_St nL D tc A s adr al st w ls H locs) (hq : vwCl[c0]? = some q) (hl1 : Cond.classLink own index q.1 ∈ hs_T) (hl2 : Cond.instantiable q.1 q.2.2 ∈ hs_T) (hl3 : Cond.initialized q.1 ∈ hs_T)
    (hf : (List.range q.2.2).all (fun k => match parseFieldDescriptor (q.2.1 k).2.2.1 with
        | some .int => true
        | some .boolean => true
        | some (.object _) => true
        | some (.array _) => true
        | _ => false) = true) (hwf : b2_wf (w ++ [.inl (c0, (List.range q.2.2).map (fun k => b2_dfl ((parseFieldDescriptor (q.2.1 k).2.2.1).getD .int)))]) = true) (hcells : cells + 1 ≤ R.cells) (hslots : slots + q.2.2 ≤ R.slots) (hdg : decode cc pc = .ok (.new index, 3))
    (kk : b2_G p l e R s m args below meth c Qe nL D tc A adr (pc + 3) al (hs_r 0 w.length :: st) (w ++ [.inl (c0, (List.range q.2.2).map (fun k => b2_dfl ((parseFieldDescriptor (q.2.1 k).2.2.1).getD .int)))]) (cells + 1) (slots + q.2.2)) :
    W p l e R s m args below meth c H locs cells slots Qe (F0 m pc ls (st.map (hs_cv (b2_ad adr)))) := by
  obtain ⟨⟨hcon, hR, hA, hY⟩, hx, hb, hml, hts, hown, hK, hin, hcl⟩ := F
  have h3 := h0.2.2
  obtain ⟨hin0, ⟨ty0, hty0⟩, hnm⟩ := hcl c0 q hq
  have hcv : ∀ adr : List Nat, b2_ce tc adr (.inl (c0, (List.range q.2.2).map (fun k => b2_dfl ((parseFieldDescriptor (q.2.1 k).2.2.1).getD .int)))) = .inr (c0, (List.range q.2.2).map (fun k => defaultValue (ty0 k))) := by
    intro adr
    show Sum.inr (c0, List.map _ (List.map _ _)) = Sum.inr (c0, _)
    rw [List.map_map]
    congr 2
    apply List.map_congr_left
    intro k hk
    have hk2 : k < q.2.2 := List.mem_range.mp hk
    have h5 := List.all_eq_true.mp hf k hk
    show hs_cv (b2_ad adr) (b2_dfl ((parseFieldDescriptor (q.2.1 k).2.2.1).getD .int)) = defaultValue (ty0 k)
    rw [hty0 k hk2] at h5 ⊢
    show hs_cv (b2_ad adr) (b2_dfl (ty0 k)) = _
    apply b2_dfl_cv
    generalize ty0 k = T at h5
    cases T
    case int => exact Or.inl rfl
    case boolean => exact Or.inr (Or.inl rfl)
    case object C => exact Or.inr (Or.inr (Or.inl ⟨C, rfl⟩))
    case array t => exact Or.inr (Or.inr (Or.inr ⟨t, rfl⟩))
    all_goals cases h5
  refine va_new (ci := c0) (C := q.1) (T := q.2.1) (N := q.2.2) (fs := (List.range q.2.2).map (fun k => defaultValue (ty0 k))) hx hb hts hin0 ty0 hty0 hown (hts _ hl1) (hts _ hl2) (hts _ hl3) hK h3.2.2.2.1 h3.2.2.2.2.1 h3.2.2.2.2.2 hA hq (fun j hj => ?_) hcells hslots hdg (fun q1 H1 hP hD hS => ?_)
  · unfold vp_V
    rw [List.getD_eq_getElem?_getD, List.getElem?_map, List.getElem?_range hj]
    rfl
  · rw [← hcv adr] at hP hD
    exact b2_o_grow h0 (fun v hv => hv) hwf (by rw [hcv, hcv]) hP hD hS kk
theorem b2_none_fun {adr : List Nat} {n : Nat} : (fun j => ((List.replicate n (none : Option Nat)).getD j none).map (fun k => adr.getD k 0)) = (fun _ => none) := by
  funext j
  have : (List.replicate n (none : Option Nat)).getD j none = none := by
    rw [List.getD_eq_getElem?_getD]
    cases h : (List.replicate n (none : Option Nat))[j]? with
    | none => rfl
    | some o => exact List.eq_of_mem_replicate (List.mem_of_getElem? h)
  rw [this]
  rfl
theorem b2_o_anew {index ti : Nat} {n : Int32} {r : List hs_V} {Cn : String} (F : b2_Fx ms p l R s m args meth c D tc A cc own nm C d nL) (h0 : b2_St nL D tc A s adr al (hs_i n :: r) w ls H locs) (hn : ¬ n < 0) (hti : (hs_tys tc)[ti]? = some (tc ti, .object Cn)) (hl : Cond.classLink own index Cn ∈ hs_T) (hao : va_AO Cn s)
    (hwf : b2_wf (w ++ [.inr (ti, n.toNatClampNeg, .inr (.inr (List.replicate n.toNatClampNeg none)))]) = true) (hby : n.toNatClampNeg * 4 ≤ 536870912) (hcells : cells + 1 ≤ R.cells) (hslots : slots + n.toNatClampNeg ≤ R.slots) (hdg : decode cc pc = .ok (.anewarray index, 3))
    (kk : b2_G p l e R s m args below meth c Qe nL D tc A adr (pc + 3) al (hs_r 0 w.length :: r) (w ++ [.inr (ti, n.toNatClampNeg, .inr (.inr (List.replicate n.toNatClampNeg none)))]) (cells + 1) (slots + n.toNatClampNeg)) :
    W p l e R s m args below meth c H locs cells slots Qe (F0 m pc ls ((hs_i n :: r).map (hs_cv (b2_ad adr)))) := by
  obtain ⟨⟨hcon, hR, hA, hY⟩, hx, hb, hml, hts, hown, hK, hin, hcl⟩ := F
  have h3 := h0.2.2
  have hce : ∀ adr : List Nat, b2_ce tc adr (.inr (ti, n.toNatClampNeg, .inr (.inr (List.replicate n.toNatClampNeg none)))) = .inl (tc ti, n.toNatClampNeg, .inr (.inr (.inr (.inr (fun _ => none))))) := by
    intro adr
    show Sum.inl (tc ti, n.toNatClampNeg, Sum.inr (Sum.inr (Sum.inr (Sum.inr (fun j => ((List.replicate n.toNatClampNeg (none : Option Nat)).getD j none).map (fun k => adr.getD k 0)))))) = _
    rw [b2_none_fun]
  refine va_newq hx hb hown (hts _ hl) hao hK h3.2.2.2.1 h3.2.2.2.2.1 h3.2.2.2.2.2 hA hn rfl hby hcells hslots hdg (fun q cA H1 hK2 hP hD hS => ?_)
  obtain rfl := b2_tc_eq hK hti hK2 rfl
  rw [← hce adr] at hP hD
  exact b2_o_grow h0 (fun v hv => List.mem_cons_of_mem _ hv) hwf (by rw [hce, hce]) hP hD hS kk
theorem b2_o_iast {v j : Int32} {i n : Nat} {f : Nat → Int32} {cx : Nat} {r : List hs_V} (F : b2_Fx ms p l R s m args meth c D tc A cc own nm C d nL) (h0 : b2_St nL D tc A s adr al (hs_i v :: hs_i j :: hs_r cx i :: r) w ls H locs) (hw : w[i]? = some (.inr (0, n, .inl f))) (hj : vp_in j n) (hwf : b2_wf (w.set i (.inr (0, n, .inl (upd f j.toNatClampNeg v)))) = true) (hdg : decode cc pc = .ok (.iastore, 1))
    (kk : b2_G p l e R s m args below meth c Qe nL D tc A adr (pc + 1) al r (w.set i (.inr (0, n, .inl (upd f j.toNatClampNeg v)))) cells slots) :
    W p l e R s m args below meth c H locs cells slots Qe (F0 m pc ls ((hs_i v :: hs_i j :: hs_r cx i :: r).map (hs_cv (b2_ad adr)))) := by
  obtain ⟨⟨hcon, hR, hA, hY⟩, hx, hb, hml, hts, hown, hK, hin, hcl⟩ := F
  have h0' := h0
  obtain ⟨h1, h2, h3⟩ := h0
  have hat := b2_ws_at (tc := tc) h1 hw
  exact va_iast hx hb hK h3.2.2.2.1 h3.2.2.2.2.1 h3.2.2.2.2.2 i 0 hat rfl hj hdg fun H1 locs1 hP hD hS => kk adr ls H1 locs1 (fun _ _ => rfl) (b2_setSt h0' (fun v hv => List.mem_cons_of_mem _ (List.mem_cons_of_mem _ (List.mem_cons_of_mem _ hv))) (List.getElem?_eq_some_iff.mp hw).1 hwf hP hD hS)
theorem b2_o_aast {j : Int32} {v i n t c2 : Nat} {l2 : List (Option Nat)} {fs : List hs_V} {cx cy : Nat} {r : List hs_V} {q : vw_C} (F : b2_Fx ms p l R s m args meth c D tc A cc own nm C d nL) (h0 : b2_St nL D tc A s adr al (hs_r cy v :: hs_i j :: hs_r cx i :: r) w ls H locs) (hw : w[i]? = some (.inr (t, n, .inr (.inr l2)))) (hv : w[v]? = some (.inl (c2, fs))) (hj : vp_in j n) (hn : l2.length = n) (hq : vwCl[c2]? = some q) (ht : (hs_tys tc)[t]? = some (tc t, .object q.1))
    (hwf : b2_wf (w.set i (.inr (t, n, .inr (.inr (l2.set j.toNatClampNeg (some v)))))) = true) (hdg : decode cc pc = .ok (.aastore, 1))
    (kk : b2_G p l e R s m args below meth c Qe nL D tc A adr (pc + 1) al r (w.set i (.inr (t, n, .inr (.inr (l2.set j.toNatClampNeg (some v)))))) cells slots) :
    W p l e R s m args below meth c H locs cells slots Qe (F0 m pc ls ((hs_r cy v :: hs_i j :: hs_r cx i :: r).map (hs_cv (b2_ad adr)))) := by
  obtain ⟨⟨hcon, hR, hA, hY⟩, hx, hb, hml, hts, hown, hK, hin, hcl⟩ := F
  have h0' := h0
  obtain ⟨h1, h2, h3⟩ := h0
  have hat := b2_ws_at (tc := tc) h1 hw
  have hatv := b2_ws_at (tc := tc) h1 hv
  have hlt : j.toNatClampNeg < n := Nat.not_le.mp fun q => hj (Or.inr q)
  have hfun : va_up (fun j' => (l2.getD j' none).map (fun k => adr.getD k 0)) j.toNatClampNeg (some (adr.getD v 0)) = (fun j' => ((l2.set j.toNatClampNeg (some v)).getD j' none).map (fun k => adr.getD k 0)) := by
    funext j'
    unfold va_up
    by_cases hjj : j' = j.toNatClampNeg
    · subst hjj
      simp only [if_pos rfl, List.getD_eq_getElem?_getD, List.getElem?_set_self (show j.toNatClampNeg < l2.length by omega)]
      rfl
    · simp only [if_neg hjj, List.getD_eq_getElem?_getD, List.getElem?_set_ne (fun q => hjj q.symm)]
  refine va_astq hx hb hK h3.2.2.2.1 h3.2.2.2.2.1 h3.2.2.2.2.2 i t v c2 hat ht hatv hq hj hdg fun H1 locs1 hP hD hS => ?_
  rw [hfun] at hP hD
  exact kk adr ls H1 locs1 (fun _ _ => rfl) (b2_setSt h0' (fun v hv => List.mem_cons_of_mem _ (List.mem_cons_of_mem _ (List.mem_cons_of_mem _ hv))) (List.getElem?_eq_some_iff.mp hw).1 hwf hP hD hS)
theorem b2_o_obj {index i cx : Nat} {r : List hs_V} (F : b2_Fx ms p l R s m args meth c D tc A cc own nm C d nL) (h0 : b2_St nL D tc A s adr al (hs_r cx i :: r) w ls H locs) (hc : Nat.ble (hs_cat r) 8 = true) (hl1 : Cond.methodLink own index Lib.objectInit ∈ hs_T) (hl2 : Cond.instanceMethod Lib.objectInit ∈ hs_T) (hl3 : Cond.code Lib.objectInit ⟨#[0xb1]⟩ 1 none ∈ hs_T) (hdg : decode cc pc = .ok (.invokespecial index, 3))
    (kk : b2_G p l e R s m args below meth c Qe nL D tc A adr (pc + 3) al r w cells slots) :
    W p l e R s m args below meth c H locs cells slots Qe (F0 m pc ls ((hs_r cx i :: r).map (hs_cv (b2_ad adr)))) := by
  obtain ⟨⟨hcon, hR, hA, hY⟩, hx, hb, hml, hts, hown, hK, hin, hcl⟩ := F
  obtain ⟨h1, h2, h3⟩ := h0
  have hcat : ((r.map (hs_cv (b2_ad adr))).map fun v => v.category).sum ≤ 8 := by
    rw [hs_cat_cv _ _ (fun v hv => (h3.pop.2.2.1 v hv).2)]
    exact Nat.le_of_ble_eq_true hc
  refine W.objInit hx hb hown (hts _ hl1) (hts _ hl2) (hts _ hl3) rfl (by rw [hml, ← h3.2.1.1]; exact h3.1.1) rfl hdg (by omega) (by show 2 * 0 + _ + 12 ≤ _; omega) ?_
  exact kk adr ls H locs (fun _ _ => rfl) ⟨h1, h2, h3.pop⟩
theorem b2_o_ctor {index y n nest a1 b1 : Nat} {i cx : Nat} {r : List hs_V} {w' : b2_W} {mc msl : Nat} (F : b2_Fx ms p l R s m args meth c D tc A cc own nm C d nL) (h0 : b2_St nL D tc A s adr al st w ls H locs) (hdr : st.drop n = hs_r cx i :: r) (hc : Nat.ble (hs_cat r) 8 = true) (hC : C y (hs_r cx i :: (st.take n).reverse) w = some (w', mc, msl))
    (hd : (ms y).1.cls ≠ "java/lang/invoke/MethodHandle" ∧ (ms y).1.cls ≠ "java/lang/invoke/VarHandle" ∧ (parseMethodDescriptor (ms y).1.desc).map (fun d => d.parameters.length) = some n) (hL : (ms y).2.2.1 ≤ 40) (hnm : (ms y).1.name = "<init>") (hret : (ms y).2.2.2.1 = none)
    (hl : Cond.methodLink own index (ms y).1 ∈ hs_T ∨ Cond.methodLinkNest own index (ms y).1 "HuntedScent" ∈ hs_N) (hst : Cond.instanceMethod (ms y).1 ∈ hs_T) (hini : Cond.initialized (ms y).1.cls ∈ hs_T) (hcode : Cond.code (ms y).1 (ms y).2.1 (ms y).2.2.1 (ms y).2.2.2.1 ∈ hs_T)
    (hcells : cells + mc ≤ R.cells) (hslots : slots + msl ≤ R.slots) (hdg : decode cc pc = .ok (.invokespecial index, 3))
    (kk : b2_G p l e R s m args below meth c Qe nL D tc A adr (pc + 3) al r w' (cells + mc) (slots + msl)) :
    W p l e R s m args below meth c H locs cells slots Qe (F0 m pc ls (st.map (hs_cv (b2_ad adr)))) := by
  obtain ⟨⟨hcon, hR, hA, hY⟩, hx, hb, hml, hts, hown, hK, hin, hcl⟩ := F
  obtain ⟨h1, h2, h3⟩ := h0
  have hst2 : st = st.take n ++ hs_r cx i :: r := by rw [← hdr, List.take_append_drop]
  have hn : (st.take n).length = n := by
    have h5 : 0 < (st.drop n).length := by rw [hdr]; exact Nat.succ_pos _
    rw [List.length_drop] at h5
    rw [List.length_take]
    omega
  have hmem : ∀ v ∈ hs_r cx i :: r, v ∈ st := fun v hv => by rw [hst2]; exact List.mem_append_right _ hv
  have harg : ∀ v ∈ hs_r cx i :: (st.take n).reverse, hs_In (fun _ i => i < w.length) v ∧ hs_real v = true := by
    intro v hv
    rcases List.mem_cons.mp hv with rfl | hv
    · exact h3.2.2.1 _ (hmem _ List.mem_cons_self)
    · exact h3.2.2.1 v (List.mem_of_mem_take (List.mem_reverse.mp hv))
  obtain ⟨⟨hwf', hlen'⟩, hmet⟩ := hcon y _ w w' mc msl hC
  have hmet := hmet adr h1 h2 harg H.size
  have hcat : ((r.map (hs_cv (b2_ad adr))).map fun v => v.category).sum ≤ 8 := by
    rw [hs_cat_cv _ _ (fun v hv => (h3.2.2.1 v (hmem v (List.mem_cons_of_mem _ hv))).2)]
    exact Nat.le_of_ble_eq_true hc
  have hF : ∀ q, va_A (b2_ws tc adr w) H.size q → A q := by
    intro q hq
    rcases hq with ⟨k, e, hk⟩ | hq
    · exact h3.2.2.2.2.1.2 k (q, e) hk
    · exact hA q (Nat.le_trans h3.2.2.2.2.2.1 hq)
  have hstack : (F0 m pc ls (st.map (hs_cv (b2_ad adr)))).stack = ((st.take n).reverse.map (hs_cv (b2_ad adr))).reverse ++ Value.ref (adr.getD i 0) :: r.map (hs_cv (b2_ad adr)) := by
    show st.map (hs_cv (b2_ad adr)) = _
    rw [← List.map_reverse, List.reverse_reverse]
    conv => lhs; rw [hst2]
    rw [List.map_append]
    rfl
  have hlen : ((st.take n).reverse.map (hs_cv (b2_ad adr))).length = n := by rw [List.length_map, List.length_reverse]; exact hn
  have hfit : (b2_room d mc msl).frames + 1 ≤ R.frames ∧ 8 + ((ms y).2.2.1 + 11) + (b2_room d mc msl).locals ≤ R.locals := hs_fit hL hR.1 hR.2
  have hps : PreS s H (b2_Pre D tc adr w H.size (hs_r cx i :: (st.take n).reverse)) (Value.ref (adr.getD i 0) :: (st.take n).reverse.map (hs_cv (b2_ad adr))) :=
    ⟨b2_blind, fun U hU hwarm => ⟨rfl, by rw [hU], by rw [hU]; exact h3.2.2.2.1, va_K.moved hwarm.alike hK, h3.2.2.2.2.1.weaken (fun _ _ _ _ => trivial), hY.to hwarm⟩⟩
  have hkw : hs_kw (ms y) = Cond.code (ms y).1 (ms y).2.1 (ms y).2.2.1 none :: hs_T := by unfold hs_kw; rw [hret]
  have hszl : (F0 m pc ls (st.map (hs_cv (b2_ad adr)))).locals.size = nL := by rw [← h3.2.1.1]; exact h3.1.1
  have fin : ∀ {a : Array Value}, va_Run p l e R s m args below meth c H locs cells slots mc msl (F0 m pc ls (st.map (hs_cv (b2_ad adr)))) (r.map (hs_cv (b2_ad adr))) (b2_Post D tc adr w' (va_A (b2_ws tc adr w) H.size) a) (va_A (b2_ws tc adr w) H.size) → W p l e R s m args below meth c H locs cells slots Qe (F0 m pc ls (st.map (hs_cv (b2_ad adr)))) := by
    intro a hrun
    refine va_callv (A0 := A) (a := a) hrun h3.2.2.2.2.2 (fun q _ hq => hF q hq) hF fun u t H1 locs1 ht _ hw hB _ _ hS => ?_
    have hmore := b2_st_more (adr := adr) (adr' := u) (n := w.length) h1.symm hw.2 (st := r) (fun v hv => (h3.2.2.1 v (hmem v (List.mem_cons_of_mem _ hv))).1)
    rw [← hmore]
    exact kk u ls H1 locs1 hw.2 ⟨hw.1, hwf', b2_LH_more h1.symm hw.2 h3.2.1.2 h3.1, ⟨h3.2.1.1, fun v hv => b2_in_mono hlen' (h3.2.1.2 v hv)⟩, fun v hv => ⟨b2_in_mono hlen' (h3.2.2.1 v (hmem v (List.mem_cons_of_mem _ hv))).1, (h3.2.2.1 v (hmem v (List.mem_cons_of_mem _ hv))).2⟩, by rw [← ht]; exact hB.1, hB.2.2.weaken (fun _ q _ hq => hF _ hq), hS⟩
  rw [hret] at hcode
  rcases hl with hl | hl
  · exact fin (va_runI (Ts := hs_T) ⟨hx, hb, hml, hown, hts⟩ hmet ⟨callB_of (ret := none) n hts (hs_good (M := ms y) (by rw [hret]; exact hcode)) hkw rfl rfl (hts _ hini) (hts _ hl) hd hfit, hnm, hts _ hst⟩ hps rfl hlen hszl hstack (lv_room hcat) hdg ⟨hcells, hslots⟩)
  · exact fin (va_runIN (Ts := hs_T) ⟨hx, hb, hml, hown, hts⟩ hmet ⟨va_cnB (ret := none) n hts (hs_good (M := ms y) (by rw [hret]; exact hcode)) hkw rfl rfl (hY.1 _ hl) (hts _ hini) hd hfit, hnm, hts _ hst⟩ hps rfl hlen hszl hstack (lv_room hcat) hdg ⟨hcells, hslots⟩)
end B4
