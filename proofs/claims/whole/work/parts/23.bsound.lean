/-! One step of the building machine is one step of the machine. -/
section B2
variable {p : Program} {l : Launch} {e : Env} {R : Room} {s : State} {m : MethodId} {args : Array Value} {below : List Frame} {meth : Method} {c : Code} {Qe : State → Prop}
variable {D : va_G} {tc : Nat → ClassId} {A : Nat → Prop} {cc : ByteArray} {own nm : String} {ms : Nat → hs_M} {C : b2_C} {nL : Nat}
/-- the building machine's state, in the machine -/
def b2_St (nL : Nat) (D : va_G) (tc : Nat → ClassId) (A : Nat → Prop) (s : State) (adr : List Nat) (al st : List hs_V) (w : b2_W) (ls : Array Slot) (H : Heap) (locs : List Loc) : Prop :=
  adr.length = w.length ∧ b2_wf w = true ∧ hs_St nL (b2_ad adr) (fun _ i => i < w.length) (fun (_ : hs_H) H locs => va_P D vwCl (b2_ws tc adr w) H ∧ va_D A (b2_ws tc adr w) ∧ va_S A s.heap H locs) al st (fun _ _ _ => 0, fun _ _ _ => 0) ls H locs
/-- the new state's frame goes on -/
def b2_G (p : Program) (l : Launch) (e : Env) (R : Room) (s : State) (m : MethodId) (args : Array Value) (below : List Frame) (meth : Method) (c : Code) (Qe : State → Prop) (nL : Nat) (D : va_G) (tc : Nat → ClassId) (A : Nat → Prop) (adr : List Nat) (pc : Nat) (al st : List hs_V) (w : b2_W) (cells slots : Nat) : Prop :=
  ∀ (adr' : List Nat) (ls : Array Slot) (H : Heap) (locs : List Loc), (∀ i, i < adr.length → adr'.getD i 0 = adr.getD i 0) → b2_St nL D tc A s adr' al st w ls H locs → W p l e R s m args below meth c H locs cells slots Qe (F0 m pc ls (st.map (hs_cv (b2_ad adr'))))
variable {adr : List Nat} {al st : List hs_V} {w : b2_W} {ls : Array Slot} {H : Heap} {locs : List Loc} {pc len cells slots : Nat}
theorem b2_in_cv {adr adr' : List Nat} {n : Nat} (hn : n = adr.length) (he : ∀ i, i < adr.length → adr'.getD i 0 = adr.getD i 0) {v : hs_V} (h : hs_In (fun _ i => i < n) v) : hs_cv (b2_ad adr') v = hs_cv (b2_ad adr) v := by
  match v, h with
  | .inl _, _ => rfl
  | .inr (.inl _), _ => rfl
  | .inr (.inr (.inr _)), _ => rfl
  | .inr (.inr (.inl (c, k))), h =>
    have hk : k < n := h
    show Value.ref (adr'.getD k 0) = Value.ref (adr.getD k 0)
    rw [he k (by omega)]
theorem b2_in_mono {n n' : Nat} (hn : n ≤ n') {v : hs_V} (h : hs_In (fun _ i => i < n) v) : hs_In (fun _ i => i < n') v := by
  match v, h with
  | .inl _, _ => trivial
  | .inr (.inl _), _ => trivial
  | .inr (.inr (.inr _)), _ => trivial
  | .inr (.inr (.inl (c, k))), h => exact Nat.lt_of_lt_of_le (show k < n from h) hn
/-- the frame's locals and stack under more addresses -/
theorem b2_LH_more {adr adr' : List Nat} {n : Nat} (hn : n = adr.length) (he : ∀ i, i < adr.length → adr'.getD i 0 = adr.getD i 0) {ls : Array Slot} {al : List hs_V} (hin : ∀ v ∈ al, hs_In (fun _ i => i < n) v) (h : hs_LH (b2_ad adr) ls al) : hs_LH (b2_ad adr') ls al :=
  ⟨h.1, h.2.1, fun k v hk => by rw [b2_in_cv hn he (hin v (List.mem_of_getElem? hk.1))]; exact h.2.2 k v hk⟩
theorem b2_st_more {adr adr' : List Nat} {n : Nat} (hn : n = adr.length) (he : ∀ i, i < adr.length → adr'.getD i 0 = adr.getD i 0) {st : List hs_V} (hin : ∀ v ∈ st, hs_In (fun _ i => i < n) v) : st.map (hs_cv (b2_ad adr')) = st.map (hs_cv (b2_ad adr)) :=
  List.map_congr_left fun v hv => b2_in_cv hn he (hin v hv)
/-- a new state out of an old one: the world grown behind, the locals the same, the stack r below what is new -/
theorem b2_grow {w2 : b2_W} {ad2 : List Nat} {H1 : Heap} {locs1 : List Loc} {r : List hs_V} (h0 : b2_St nL D tc A s adr al st w ls H locs) (hr : ∀ v ∈ r, v ∈ st ∨ v = hs_r 0 w.length) (hw2 : 0 < w2.length) (hl : ad2.length = w2.length) (hwf : b2_wf (w ++ w2) = true)
    (hP : va_P D vwCl (b2_ws tc (adr ++ ad2) (w ++ w2)) H1) (hD : va_D A (b2_ws tc (adr ++ ad2) (w ++ w2))) (hS : va_S A s.heap H1 locs1) : b2_St nL D tc A s (adr ++ ad2) al r (w ++ w2) ls H1 locs1 := by
  obtain ⟨h1, h2, h3⟩ := h0
  refine ⟨by rw [List.length_append, List.length_append, h1, hl], hwf, b2_LH_more h1.symm (fun i hi => b2_getD_app hi) h3.2.1.2 h3.1, ⟨h3.2.1.1, fun v hv => b2_in_mono (by rw [List.length_append]; omega) (h3.2.1.2 v hv)⟩, fun v hv => ?_, hP, hD, hS⟩
  rcases hr v hv with hv | rfl
  · exact ⟨b2_in_mono (by rw [List.length_append]; omega) (h3.2.2.1 v hv).1, (h3.2.2.1 v hv).2⟩
  · exact ⟨by show w.length < (w ++ w2).length; rw [List.length_append]; omega, rfl⟩
/-- a new state out of an old one: one cell changed -/
theorem b2_setSt {i : Nat} {e : b2_E} {H1 : Heap} {locs1 : List Loc} {r : List hs_V} (h0 : b2_St nL D tc A s adr al st w ls H locs) (hr : ∀ v ∈ r, v ∈ st) (hi : i < w.length) (hwf : b2_wf (w.set i e) = true)
    (hP : va_P D vwCl ((b2_ws tc adr w).set i (adr.getD i 0, b2_ce tc adr e)) H1) (hD : va_D A ((b2_ws tc adr w).set i (adr.getD i 0, b2_ce tc adr e))) (hS : va_S A s.heap H1 locs1) : b2_St nL D tc A s adr al r (w.set i e) ls H1 locs1 := by
  obtain ⟨h1, h2, h3⟩ := h0
  rw [b2_ws_set h1 hi] at hP hD
  refine ⟨by rw [List.length_set]; exact h1, hwf, h3.1, ⟨h3.2.1.1, fun v hv => by rw [List.length_set]; exact h3.2.1.2 v hv⟩, fun v hv => ?_, hP, hD, hS⟩
  rw [List.length_set]
  exact h3.2.2.1 v (hr v hv)
theorem b2_tc_eq {cA : ClassId} {ty : FieldType} {t : Nat} (hK : va_K D vwCl (hs_tys tc) s) (ht : (hs_tys tc)[t]? = some (tc t, ty)) (hK2 : va_K D vwCl (hs_tys tc ++ [(cA, ty)]) s) (hlt : (hs_tys tc).length = 6) : cA = tc t := by
  have h1 := (hK.2 t _ ht).2
  have h2 := (hK2.2 6 (cA, ty) (by rw [List.getElem?_append_right (by omega), hlt]; rfl)).2
  cases ty
  case object C0 =>
    obtain ⟨kA, comp, -, -, -, h3⟩ := h1
    obtain ⟨kB, comp2, -, -, -, h4⟩ := h2
    exact Option.some.inj (h4.symm.trans h3)
  all_goals exact Option.some.inj (Eq.trans (Eq.symm h2) h1)
end B2
