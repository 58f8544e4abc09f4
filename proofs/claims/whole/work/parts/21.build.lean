/-! The building of the objects: a second small machine, whose world grows; references are places in it. -/
abbrev b2_E : Type := (Nat × List hs_V) ⊕ (Nat × Nat × ((Nat → Int32) ⊕ ((Nat → Int64) ⊕ List (Option Nat))))
abbrev b2_W : Type := List b2_E
/-- pc, locals, stack, world, cells made, slots made -/
abbrev b2_S : Type := Nat × List hs_V × List hs_V × b2_W × Nat × Nat
/-- pc, locals, stack, world, cells and slots of this step -/
abbrev b2_C : Type := Nat → List hs_V → b2_W → Option (b2_W × Nat × Nat)
def b2_wfV (n : Nat) (v : hs_V) : Bool := match v with
  | .inr (.inr (.inl (_, k))) => Nat.blt k n
  | _ => true
def b2_wfE (n : Nat) (e : b2_E) : Bool := match e with
  | .inl (_, fs) => fs.all (b2_wfV n)
  | .inr (_, _, .inr (.inr l)) => l.all (fun o => match o with
    | some k => Nat.blt k n
    | none => true)
  | _ => true
def b2_wf (w : b2_W) : Bool := w.all (b2_wfE w.length)
def b2_ad (adr : List Nat) : Nat → Nat → Nat := fun _ i => adr.getD i 0
def b2_ce (tc : Nat → ClassId) (adr : List Nat) (e : b2_E) : va_E := match e with
  | .inl (c, fs) => .inr (c, fs.map (hs_cv (b2_ad adr)))
  | .inr (t, n, .inl f) => .inl (tc t, n, .inl f)
  | .inr (t, n, .inr (.inl f)) => .inl (tc t, n, .inr (.inl f))
  | .inr (t, n, .inr (.inr l)) => .inl (tc t, n, .inr (.inr (.inr (.inr (fun j => (l.getD j none).map (fun k => adr.getD k 0))))))
def b2_ws (tc : Nat → ClassId) (adr : List Nat) (w : b2_W) : va_W := List.zipWith (fun a e => (a, b2_ce tc adr e)) adr w
def b2_dfl (t : FieldType) : hs_V := match t with
  | .int => hs_i 0
  | .boolean => hs_i 0
  | _ => hs_u
/-- v is of the type of field k of class c -/
def b2_tyok (c k : Nat) (v : hs_V) : Bool := match v, parseFieldDescriptor ((match vwCl[c]? with
      | some q => (q.2.1 k).2.2.1
      | none => "")) with
  | .inl _, some .int => true
  | .inl x, some .boolean => hs_b01 x
  | .inr (.inr (.inl _)), some (.object _) => true
  | .inr (.inr (.inl _)), some (.array _) => true
  | _, _ => false
/-- one step, but for calls of constructors: what is new; cells, slots -/
def b2_step (C : b2_C) (pc : Nat) (al st : List hs_V) (w : b2_W) (ins : Instr) (len : Nat) (x : List Nat) : Option b2_S := match ins with
  | .iconst _ => some (pc + len, al, hs_i (nI (hs_fst x)) :: st, w, 0, 0)
  | .bipush _ => some (pc + len, al, hs_i (nI (hs_fst x)) :: st, w, 0, 0)
  | .sipush _ => some (pc + len, al, hs_i (nI (hs_fst x)) :: st, w, 0, 0)
  | .aload_n k => (match al.getD k.val hs_u with
    | .inr (.inr (.inl (c, i))) => some (pc + len, al, hs_r c i :: st, w, 0, 0)
    | _ => none)
  | .iload_n k => (match al.getD k.val hs_u with
    | .inl v => some (pc + len, al, hs_i v :: st, w, 0, 0)
    | _ => none)
  | .istore_n k => (match st with
    | .inl v :: r => some (pc + len, hs_set al k.val (hs_i v), r, w, 0, 0)
    | _ => none)
  | .astore_n k => (match st with
    | .inr (.inr (.inl (c, i))) :: r => some (pc + len, hs_set al k.val (hs_r c i), r, w, 0, 0)
    | _ => none)
  | .iinc k _ => (match al.getD k hs_u with
    | .inl v => some (pc + 3, hs_set al k (hs_i (v + nI (hs_fst x))), st, w, 0, 0)
    | _ => none)
  | .goto _ => some (hs_fst x, al, st, w, 0, 0)
  | .if_icmp .ge _ => (match st with
    | .inl b :: .inl a :: r => if b ≤ a then some (hs_fst x, al, r, w, 0, 0) else some (pc + 3, al, r, w, 0, 0)
    | _ => none)
  | .dup => (match st with
    | .inr (.inr (.inl v)) :: r => some (pc + 1, al, .inr (.inr (.inl v)) :: .inr (.inr (.inl v)) :: r, w, 0, 0)
    | _ => none)
  | .new _ => (match x with
    | c :: _ => (match vwCl[c]? with
      | some q => some (pc + 3, al, hs_r 0 w.length :: st, w ++ [.inl (c, (List.range q.2.2).map (fun k => b2_dfl ((parseFieldDescriptor (q.2.1 k).2.2.1).getD .int)))], 1, q.2.2)
      | none => none)
    | _ => none)
  | .newarray _ => (match x, st with
    | 2 :: _, .inl n :: r => if n < 0 then none else some (pc + 2, al, hs_r 0 w.length :: r, w ++ [.inr (2, n.toNatClampNeg, .inr (.inl (fun _ => 0)))], 1, n.toNatClampNeg)
    | t :: _, .inl n :: r => if n < 0 then none else some (pc + 2, al, hs_r 0 w.length :: r, w ++ [.inr (t, n.toNatClampNeg, .inl (fun _ => 0))], 1, n.toNatClampNeg)
    | _, _ => none)
  | .anewarray _ => (match x, st with
    | t :: _, .inl n :: r => if n < 0 then none else some (pc + 3, al, hs_r 0 w.length :: r, w ++ [.inr (t, n.toNatClampNeg, .inr (.inr (List.replicate n.toNatClampNeg none)))], 1, n.toNatClampNeg)
    | _, _ => none)
  | .multianewarray _ 2 => (match st with
    | .inl k :: .inl n :: r => if n < 0 ∨ k < 0 then none else some (pc + 4, al, hs_r 0 w.length :: r,
        w ++ [.inr (5, n.toNatClampNeg, .inr (.inr ((List.range n.toNatClampNeg).map (fun j => some (w.length + 1 + j)))))] ++ (List.range n.toNatClampNeg).map (fun _ => .inr (0, k.toNatClampNeg, .inl (fun _ => 0))), 1 + n.toNatClampNeg, n.toNatClampNeg + n.toNatClampNeg * k.toNatClampNeg)
    | _ => none)
  | .putfield _ => (match x, st with
    | _ :: _ :: _ :: c :: k :: _, v :: .inr (.inr (.inl (_, i))) :: r => (match w[i]? with
      | some (.inl (d, fs)) => bif Nat.beq d c && Nat.blt k fs.length && hs_real v && !hs_long v && b2_tyok c k v then some (pc + 3, al, r, w.set i (.inl (d, fs.set k v)), 0, 0) else none
      | _ => none)
    | _, _ => none)
  | .getfield _ => (match x, st with
    | _ :: _ :: _ :: c :: k :: _, .inr (.inr (.inl (_, i))) :: r => (match w[i]? with
      | some (.inl (d, fs)) => (match fs[k]? with
        | some v => bif Nat.beq d c && hs_real v then some (pc + 3, al, v :: r, w, 0, 0) else none
        | none => none)
      | _ => none)
    | _, _ => none)
  | .iastore => (match st with
    | .inl v :: .inl j :: .inr (.inr (.inl (_, i))) :: r => (match w[i]? with
      | some (.inr (0, n, .inl f)) => bif hs_inb j n then some (pc + 1, al, r, w.set i (.inr (0, n, .inl (upd f j.toNatClampNeg v))), 0, 0) else none
      | _ => none)
    | _ => none)
  | .aastore => (match x, st with
    | t :: ci :: _, .inr (.inr (.inl (_, v))) :: .inl j :: .inr (.inr (.inl (_, i))) :: r => (match w[i]?, w[v]? with
      | some (.inr (t2, n, .inr (.inr l))), some (.inl (c2, _)) => bif hs_inb j n && Nat.beq t t2 && Nat.beq ci c2 && Nat.beq l.length n then some (pc + 1, al, r, w.set i (.inr (t2, n, .inr (.inr (l.set j.toNatClampNeg (some v))))), 0, 0) else none
      | _, _ => none)
    | _, _ => none)
  | .invokespecial _ => (match x with
    | [_, _, _, _, _, _] => (match st with
      | .inr (.inr (.inl _)) :: r => bif Nat.ble (hs_cat r) 8 then some (pc + 3, al, r, w, 0, 0) else none
      | _ => none)
    | y :: n :: _ => (match st.drop n with
      | .inr (.inr (.inl (c, i))) :: r => bif Nat.ble (hs_cat r) 8 then (C y (hs_r c i :: (st.take n).reverse) w).bind (fun q => some (pc + 3, al, r, q.1, q.2.1, q.2.2)) else none
      | _ => none)
    | _ => none)
  | _ => none
/-- how big a row the machine can make at once -/
def b2_small (st : List hs_V) : Bool := st.all (fun v => match v with
  | .inl x => decide (x.toNatClampNeg * 8 ≤ 536870912)
  | _ => true)
def b2_runs (C : b2_C) (P : List (Nat × hs_Row)) (stop : Nat) : Nat → b2_S → Option b2_S
  | 0, _ => none
  | n + 1, (pc, al, st, w, mc, ms) => bif Nat.beq pc stop then some (pc, al, st, w, mc, ms) else match hs_find P pc with
    | some r => (b2_step C pc al st w r.1 r.2.1 r.2.2).bind (fun q => bif b2_small st && (b2_wf q.2.2.2.1 && Nat.ble w.length q.2.2.2.1.length) then b2_runs C P stop n (q.1, q.2.1, q.2.2.1, q.2.2.2.1, mc + q.2.2.2.2.1, ms + q.2.2.2.2.2) else none)
    | none => none
/-- a constructor's run: the world then, cells, slots (its stop stands where a method's answer stands) -/
def b2_call (ms : Nat → hs_M) : Nat → b2_C
  | 0 => fun _ _ _ => none
  | d + 1 => fun y a w => bif Nat.ble (hs_args a).length (ms y).2.2.1 then (b2_runs (b2_call ms d) (ms y).2.2.2.2.2 (ms y).2.2.2.2.1 1000 (0, hs_fill (ms y).2.2.1 (hs_args a), [], w, 0, 0)).bind (fun q => match q.2.2.1 with
    | [] => bif Nat.ble w.length q.2.2.2.1.length && b2_wf q.2.2.2.1 then some (q.2.2.2.1, q.2.2.2.2.1, q.2.2.2.2.2) else none
    | _ => none) else none
