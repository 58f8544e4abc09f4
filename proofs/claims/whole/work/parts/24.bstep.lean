/-! The steps of the building machine, all. -/
section B3
variable {p : Program} {l : Launch} {e : Env} {R : Room} {s : State} {m : MethodId} {args : Array Value} {below : List Frame} {meth : Method} {c : Code} {Qe : State → Prop}
variable {D : va_G} {tc : Nat → ClassId} {A : Nat → Prop} {cc : ByteArray} {own nm : String} {ms : Nat → hs_M} {C : b2_C} {nL d : Nat}
variable {adr : List Nat} {al st : List hs_V} {w : b2_W} {ls : Array Slot} {H : Heap} {locs : List Loc} {pc len cells slots : Nat}
def b2_room (d mc ms : Nat) : Room := { frames := d + 8, cells := mc, slots := ms, locals := 60 * d + 400 }
def b2_Pre (D : va_G) (tc : Nat → ClassId) (adr : List Nat) (w : b2_W) (sz : Nat) (a : List hs_V) : Array Value → State → Prop :=
  va_Pc (a.map (hs_cv (b2_ad adr))) (fun U => U.heap.size = sz ∧ va_P D vwCl (b2_ws tc adr w) U.heap ∧ va_K D vwCl (hs_tys tc) U ∧ va_D (fun _ => True) (b2_ws tc adr w) ∧ b2_Y U)
def b2_B (D : va_G) (tc : Nat → ClassId) (A : Nat → Prop) (w : b2_W) (adr : List Nat) (t : State) : Prop := va_P D vwCl (b2_ws tc adr w) t.heap ∧ va_K D vwCl (hs_tys tc) t ∧ va_D A (b2_ws tc adr w)
def b2_Post (D : va_G) (tc : Nat → ClassId) (adr : List Nat) (w' : b2_W) (A : Nat → Prop) : Array Value → State → Outcome → State → Prop :=
  va_Qv (fun adr' : List Nat => adr'.length = w'.length ∧ ∀ i, i < adr.length → adr'.getD i 0 = adr.getD i 0) (fun adr' t => b2_B D tc A w' adr' t) A
/-- the constructors' contracts -/
def b2_Con (ms : Nat → hs_M) (l : Launch) (D : va_G) (tc : Nat → ClassId) (C : b2_C) (d : Nat) : Prop :=
  ∀ (y : Nat) (a : List hs_V) (w w' : b2_W) (mc msl : Nat), C y a w = some (w', mc, msl) → (b2_wf w' = true ∧ w.length ≤ w'.length) ∧ ∀ (adr : List Nat), adr.length = w.length → b2_wf w = true → (∀ v ∈ a, hs_In (fun _ i => i < w.length) v ∧ hs_real v = true) → ∀ sz : Nat,
    Met l (ms y).1 (hs_kw (ms y)) (b2_room d mc msl) (b2_Pre D tc adr w sz a) (b2_Post D tc adr w' (va_A (b2_ws tc adr w) sz)) mc msl (va_A (b2_ws tc adr w) sz)
theorem b2_blind {sz : Nat} {a : List hs_V} : FrameBlind (b2_Pre D tc adr w sz a) := by
  intro b U g mk q
  obtain ⟨q0, q1, q2, q3, q4, q5⟩ := q
  exact ⟨q0, q1, q2, va_K.moved (u := U) (U := U.calling g mk b) (Vm.Alike.refl U.vm) q3, q4, b2_Y.same (s := U) (U := U.calling g mk b) q5 rfl⟩
/-- all that stays the same while a frame builds -/
def b2_Fx (ms : Nat → hs_M) (p : Program) (l : Launch) (R : Room) (s : State) (m : MethodId) (args : Array Value) (meth : Method) (c : Code) (D : va_G) (tc : Nat → ClassId) (A : Nat → Prop) (cc : ByteArray) (own nm : String) (C : b2_C) (d nL : Nat) : Prop :=
  (b2_Con ms l D tc C d ∧ (d + 9 ≤ R.frames ∧ 60 * d + 460 ≤ R.locals) ∧ (∀ q, s.heap.size ≤ q → A q) ∧ b2_Y s) ∧
  (p.tables.exec = Jvm.exec ∧ c.code = cc ∧ c.maxLocals = nL ∧ (∀ w ∈ hs_T, w.before args s = true) ∧ s.vm.findClass own = some m.cls ∧ va_K D vwCl (hs_tys tc) s ∧ (nm = "<init>" → meth.name = "<init>") ∧ ∀ (c : Nat) (q : vw_C), vwCl[c]? = some q → hs_Cls q)
theorem b2_KS {pc' : Nat} {al' st' : List hs_V} (h1 : adr.length = w.length) (h2 : b2_wf w = true) (kk : b2_G p l e R s m args below meth c Qe nL D tc A adr pc' al' st' w cells slots) :
    hs_KS p l e R s m args below meth c cells slots Qe nL (b2_ad adr) (fun _ i => i < w.length) (fun (_ : hs_H) H locs => va_P D vwCl (b2_ws tc adr w) H ∧ va_D A (b2_ws tc adr w) ∧ va_S A s.heap H locs) (fun pc al st h => pc = pc' ∧ al = al' ∧ st = st' ∧ h = (fun _ _ _ => 0, fun _ _ _ => 0)) := by
  intro pc al st h ls H locs w0 h0
  obtain ⟨rfl, rfl, rfl, rfl⟩ := w0
  exact kk adr ls H locs (fun _ _ => rfl) ⟨h1, h2, h0⟩
end B3
