/-! The building machine's runs are runs of the machine. -/
/-- what a row of a constructor must say -/
def b2_okF (own : String) (nm : String) (index sg ix nest c k fin : Nat) : Bool := match vwCl[c]? with
  | some q => decide (k < q.2.2) && decide ((q.2.1 k).1 = q.1) && (match nest with
    | 0 => hs_has sg ix (.fieldLink own index q.1 (q.2.1 k).2.1 (q.2.1 k).2.2.1)
    | _ => hs_hasN sg ix (.fieldLinkNest own index q.1 (q.2.1 k).2.1 (q.2.1 k).2.2.1 "HuntedScent")) && (match fin with
    | 0 => true
    | 1 => decide ((q.2.1 k).2.2.2 = false)
    | _ => decide ((q.2.1 k).2.2.2 = true) && decide (nm = "<init>") && decide (q.1 = own) && decide (nest = 0))
  | none => false
def b2_okMna (own : String) (i : Nat) (x : List Nat) : Bool := match x with
  | [a1, b1, a2, b2] => hs_has a1 b1 (.classLink own i ("[" ++ (FieldType.array .int).toString)) && hs_has a2 b2 (.arrayClass .int)
  | _ => false
def b2_okR (own nm : String) (ms : Nat → hs_M) (nL pc : Nat) (ins : Instr) (len : Nat) (x : List Nat) : Bool := match ins with
  | .iconst n => decide (len = 1) && decide (Int32.ofInt n = nI (hs_fst x))
  | .bipush n => decide (len = 2) && decide ((Int8.ofInt n).toInt32 = nI (hs_fst x))
  | .sipush n => decide (len = 3) && decide ((Int16.ofInt n).toInt32 = nI (hs_fst x))
  | .istore_n k => decide (len = 1) && decide (k.val < nL)
  | .astore_n k => decide (len = 1) && decide (k.val < nL)
  | .iinc k n => decide (len = 3) && decide (k < nL) && decide (Int32.ofInt n = nI (hs_fst x))
  | .goto o => decide (len = 3) && decide ((pc : Int) + o = (hs_fst x : Int))
  | .if_icmp _ o => decide (len = 3) && decide ((pc : Int) + o = (hs_fst x : Int))
  | .new i => decide (len = 3) && (match x with
    | [c, a1, b1, a2, b2, a3, b3] => (match vwCl[c]? with
      | some q => hs_has a1 b1 (.classLink own i q.1) && hs_has a2 b2 (.instantiable q.1 q.2.2) && hs_has a3 b3 (.initialized q.1) && (List.range q.2.2).all (fun k => match parseFieldDescriptor (q.2.1 k).2.2.1 with
        | some .int => true
        | some .boolean => true
        | some (.object _) => true
        | some (.array _) => true
        | _ => false)
      | none => false)
    | _ => false)
  | .newarray t => decide (len = 2) && (match x with
    | [0, a1, b1] => decide (newarray.typeOf t = .int) && hs_has a1 b1 (.arrayClass .int)
    | [1, a1, b1] => decide (newarray.typeOf t = .boolean) && hs_has a1 b1 (.arrayClass .boolean)
    | [2, a1, b1] => decide (newarray.typeOf t = .long) && hs_has a1 b1 (.arrayClass .long)
    | _ => false)
  | .anewarray i => decide (len = 3) && (match x with
    | [3, a1, b1] => hs_has a1 b1 (.classLink own i "HuntedScent$Image")
    | [4, a1, b1] => hs_has a1 b1 (.classLink own i "HuntedScent$Sheet")
    | _ => false)
  | .multianewarray i 2 => decide (len = 4) && b2_okMna own i x
  | .putfield i => decide (len = 3) && (match x with
    | [sg, ix, nest, c, k, 1] => b2_okF own nm i sg ix nest c k 1
    | [sg, ix, nest, c, k, 2] => b2_okF own nm i sg ix nest c k 2
    | _ => false)
  | .getfield i => decide (len = 3) && (match x with
    | [sg, ix, nest, c, k, 0] => b2_okF own nm i sg ix nest c k 0
    | _ => false)
  | .aastore => decide (len = 1) && (match x with
    | [3, 3] => true
    | [4, 8] => true
    | _ => false)
  | .invokespecial i => decide (len = 3) && (match x with
    | [a1, b1, a2, b2, a3, b3] => hs_has a1 b1 (.methodLink own i Lib.objectInit) && hs_has a2 b2 (.instanceMethod Lib.objectInit) && hs_has a3 b3 (.code Lib.objectInit ⟨#[0xb1]⟩ 1 none)
    | [y, n, nest, a1, b1, a2, b2, a3, b3, a4, b4] => decide ((ms y).1.cls ≠ "java/lang/invoke/MethodHandle") && decide ((ms y).1.cls ≠ "java/lang/invoke/VarHandle") && decide ((parseMethodDescriptor (ms y).1.desc).map (fun d => d.parameters.length) = some n) && decide ((ms y).2.2.1 ≤ 40) && decide ((ms y).1.name = "<init>") && decide ((ms y).2.2.2.1 = none)
        && (match nest with
          | 0 => hs_has a1 b1 (.methodLink own i (ms y).1)
          | _ => hs_hasN a1 b1 (.methodLinkNest own i (ms y).1 "HuntedScent"))
        && hs_has a2 b2 (.instanceMethod (ms y).1) && hs_has a3 b3 (.initialized (ms y).1.cls) && hs_has a4 b4 (.code (ms y).1 (ms y).2.1 (ms y).2.2.1 (ms y).2.2.2.1)
    | _ => false)
  | _ => decide (len = 1)
def b2_okM (ms : Nat → hs_M) (M : hs_M) : Bool := plainFor M.1 && decide (M.2.2.2.1 = none) && (M.2.2.2.2.2).all (fun r => decide (decode M.2.1 r.1 = .ok (r.2.1, r.2.2.1)) && (decide (r.1 = M.2.2.2.2.1) || b2_okR M.1.cls M.1.name ms M.2.2.1 r.1 r.2.1 r.2.2.1 r.2.2.2)) && (match hs_find M.2.2.2.2.2 M.2.2.2.2.1 with
  | some r => decide (r.1 = .return_ ∧ r.2.1 = 1)
  | none => false)
/-- what the tables say of rows of references -/
def b2_Y (U : State) : Prop := (∀ w ∈ hs_N, va_Nw w U) ∧ va_AO "HuntedScent$Image" U ∧ va_AO "HuntedScent$Sheet" U ∧ va_AOA .int U
theorem b2_Y.to {s U : State} (h : b2_Y s) (hW : s.WarmedH U.vm) : b2_Y U := ⟨fun w hw => hs_N_warm hw hW (h.1 w hw), h.2.1.moved hW.alike, h.2.2.1.moved hW.alike, h.2.2.2.moved hW.alike⟩
theorem b2_Y.same {s U : State} (h : b2_Y s) (hv : U.vm = s.vm) : b2_Y U := ⟨fun w hw => hs_N_same hw hv.symm (h.1 w hw), h.2.1.moved (by rw [hv]; exact Vm.Alike.refl _), h.2.2.1.moved (by rw [hv]; exact Vm.Alike.refl _), h.2.2.2.moved (by rw [hv]; exact Vm.Alike.refl _)⟩
theorem b2_wfV_cv {adr adr' : List Nat} {n : Nat} (hn : n = adr.length) (he : ∀ i, i < adr.length → adr'.getD i 0 = adr.getD i 0) {v : hs_V} (h : b2_wfV n v = true) : hs_cv (b2_ad adr') v = hs_cv (b2_ad adr) v := by
  match v, h with
  | .inl _, _ => rfl
  | .inr (.inl _), _ => rfl
  | .inr (.inr (.inr _)), _ => rfl
  | .inr (.inr (.inl (c, k))), h =>
    have hk : k < n := Nat.le_of_ble_eq_true h
    show Value.ref (adr'.getD k 0) = Value.ref (adr.getD k 0)
    rw [he k (by omega)]
theorem b2_wfE_ce {tc : Nat → ClassId} {adr adr' : List Nat} {n : Nat} (hn : n = adr.length) (he : ∀ i, i < adr.length → adr'.getD i 0 = adr.getD i 0) {e : b2_E} (h : b2_wfE n e = true) : b2_ce tc adr' e = b2_ce tc adr e := by
  match e, h with
  | .inl (c, fs), h =>
    show Sum.inr (c, fs.map _) = Sum.inr (c, fs.map _)
    congr 2
    apply List.map_congr_left
    intro v hv
    exact b2_wfV_cv hn he (List.all_eq_true.mp h v hv)
  | .inr (t, m, .inl f), _ => rfl
  | .inr (t, m, .inr (.inl f)), _ => rfl
  | .inr (t, m, .inr (.inr l)), h =>
    show Sum.inl (tc t, m, Sum.inr (Sum.inr (Sum.inr (Sum.inr (fun j => (l.getD j none).map (fun k => adr'.getD k 0)))))) = Sum.inl (tc t, m, Sum.inr (Sum.inr (Sum.inr (Sum.inr (fun j => (l.getD j none).map (fun k => adr.getD k 0))))))
    have hfun : (fun j => (l.getD j none).map (fun k => adr'.getD k 0)) = (fun j => (l.getD j none).map (fun k => adr.getD k 0)) := by
      funext j
      cases hj : l.getD j none with
      | none => rfl
      | some k =>
        have hm : some k ∈ l := by
          rw [List.getD_eq_getElem?_getD] at hj
          cases hl : l[j]? with
          | none => rw [hl] at hj; cases hj
          | some o => rw [hl] at hj; rw [← (show o = some k from hj)]; exact List.mem_of_getElem? hl
        have hk : Nat.blt k n = true := List.all_eq_true.mp h _ hm
        show some (adr'.getD k 0) = some (adr.getD k 0)
        rw [he k (by have := Nat.le_of_ble_eq_true hk; omega)]
    rw [hfun]
theorem b2_ws_len {tc : Nat → ClassId} {adr : List Nat} {w : b2_W} (h : adr.length = w.length) : (b2_ws tc adr w).length = w.length := by
  unfold b2_ws
  rw [List.length_zipWith]
  omega
theorem b2_ws_at {tc : Nat → ClassId} {adr : List Nat} {w : b2_W} (h : adr.length = w.length) {i : Nat} {e : b2_E} (hi : w[i]? = some e) : (b2_ws tc adr w)[i]? = some (adr.getD i 0, b2_ce tc adr e) := by
  have hlt : i < w.length := (List.getElem?_eq_some_iff.mp hi).1
  unfold b2_ws
  rw [List.getElem?_zipWith, hi, List.getElem?_eq_getElem (by omega)]
  show some _ = some _
  rw [List.getD_eq_getElem?_getD, List.getElem?_eq_getElem (by omega)]
  rfl
theorem b2_getD_app {adr ad2 : List Nat} {i : Nat} (h : i < adr.length) : (adr ++ ad2).getD i 0 = adr.getD i 0 := by
  rw [List.getD_eq_getElem?_getD, List.getD_eq_getElem?_getD, List.getElem?_append_left h]
/-- the world with new cells behind it -/
theorem b2_ws_app {tc : Nat → ClassId} {adr ad2 : List Nat} {w w2 : b2_W} (h : adr.length = w.length) (hwf : b2_wf w = true) : b2_ws tc (adr ++ ad2) (w ++ w2) = b2_ws tc adr w ++ List.zipWith (fun a e => (a, b2_ce tc (adr ++ ad2) e)) ad2 w2 := by
  unfold b2_ws
  rw [List.zipWith_append h]
  congr 1
  apply List.ext_getElem?
  intro i
  rw [List.getElem?_zipWith, List.getElem?_zipWith]
  cases ha : adr[i]? with
  | none => rfl
  | some a =>
    cases hw : w[i]? with
    | none => rfl
    | some e =>
      show some _ = some _
      rw [b2_wfE_ce (tc := tc) (n := w.length) h.symm (fun i hi => b2_getD_app hi) (List.all_eq_true.mp hwf e (List.mem_of_getElem? hw))]
theorem b2_ws_set {tc : Nat → ClassId} {adr : List Nat} {w : b2_W} (h : adr.length = w.length) {i : Nat} {e : b2_E} (hi : i < w.length) : (b2_ws tc adr w).set i (adr.getD i 0, b2_ce tc adr e) = b2_ws tc adr (w.set i e) := by
  apply List.ext_getElem?
  intro j
  by_cases hj : i = j
  · subst hj
    rw [List.getElem?_set_self (by rw [b2_ws_len h]; exact hi), b2_ws_at (by rw [List.length_set]; exact h) (List.getElem?_set_self hi)]
  · rw [List.getElem?_set_ne hj]
    unfold b2_ws
    rw [List.getElem?_zipWith, List.getElem?_zipWith, List.getElem?_set_ne hj]
