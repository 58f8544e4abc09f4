/-! A small machine over a world of known shape: values, a heap of numbers, one step an instruction; its runs are runs of the machine (part 03, 04). -/
abbrev hs_V : Type := Int32 ⊕ (Int64 ⊕ ((Nat × Nat) ⊕ Unit))
abbrev hs_i (x : Int32) : hs_V := Sum.inl x
abbrev hs_l (x : Int64) : hs_V := Sum.inr (Sum.inl x)
abbrev hs_r (c i : Nat) : hs_V := Sum.inr (Sum.inr (Sum.inl (c, i)))
abbrev hs_u : hs_V := Sum.inr (Sum.inr (Sum.inr ()))
/-- the numbers of the world: by kind, instance, place -/
abbrev hs_H : Type := (Nat → Nat → Nat → Int32) × (Nat → Nat → Nat → Int64)
def hs_put (h : hs_H) (c i k : Nat) (x : Int32) : hs_H := (fun a => if a = c then (fun b => if b = i then upd (h.1 c i) k x else h.1 c b) else h.1 a, h.2)
def hs_putL (h : hs_H) (c i k : Nat) (x : Int64) : hs_H := (h.1, fun a => if a = c then (fun b => if b = i then vp_updL (h.2 c i) k x else h.2 c b) else h.2 a)
/-- the script: its length, its ints -/
abbrev hs_S : Type := Nat × (Nat → Int32)
abbrev hs_Row : Type := Instr × Nat × List Nat
abbrev hs_Q : Type := Option hs_V → hs_H → Prop
abbrev hs_C : Type := Nat → List hs_V → hs_H → hs_Q → Prop
abbrev hs_K : Type := Nat → List hs_V → List hs_V → hs_H → Prop
/-- kinds 0 .. 12: objects of class 0 .. 12 of vwCl; 13 .. 19 none; 20 on: arrays (1 int, 2 boolean, 3 long, 4 references); 5 a text, 6 the script -/
def hs_sorts : List Nat := [0, 0, 0, 0, 0, 0, 0, 0, 0, 0, 0, 0, 0, 9, 9, 9, 9, 9, 9, 9,
  1, 1, 1, 1, 1, 1, 1, 1, 1, 1, 1, 1, 1, 1, 4, 1, 4, 1, 1, 1, 1, 1, 4, 4,
  1, 2, 1, 1, 1, 1, 1, 1, 1, 3, 1, 1, 1, 1, 1, 1, 1, 1, 1, 1, 5, 6]
def hs_lens : List Nat := [0, 0, 0, 0, 0, 0, 0, 0, 0, 0, 0, 0, 0, 0, 0, 0, 0, 0, 0, 0,
  1024, 1024, 1024, 252, 1000, 100, 100, 10, 10, 10, 10, 320, 40, 10, 6, 10, 6, 10, 6, 6, 6, 6, 2, 4,
  162, 2, 54, 320, 10, 6, 60, 6, 6, 6144, 2048, 1000, 4000, 1024, 1024, 1000, 1000, 4, 4, 160, 0, 0]
def hs_sort (c : Nat) : Nat := hs_sorts.getD c 9
def hs_len (c : Nat) : Nat := hs_lens.getD c 0
/-- the texts: their letters -/
def hs_txt (k : Nat) : List Nat := ([[110, 111, 100, 101, 115], [114, 101, 115, 116], [115, 116, 97, 114, 116], [108, 97, 110, 101], [119, 97, 116, 101, 114], [104, 111, 108, 101], [115, 109, 101, 108, 116]] : List (List Nat)).getD k []
def hs_cat : List hs_V → Nat
  | [] => 0
  | .inr (.inl _) :: r => hs_cat r + 2
  | _ :: r => hs_cat r + 1
/-- the locals with v at place k (a long whose second half this was is not read again: hs_ldL asks for its second half) -/
def hs_set (l : List hs_V) (k : Nat) (v : hs_V) : List hs_V := l.set k v
def hs_setL (l : List hs_V) (k : Nat) (v : Int64) : List hs_V := (l.set k (hs_l v)).set (k + 1) hs_u
def hs_find : List (Nat × hs_Row) → Nat → Option hs_Row
  | [], _ => none
  | (p, r) :: t, pc => bif Nat.beq p pc then some r else hs_find t pc
def hs_ins (m d i : Nat) : Nat := bif Nat.beq m 0 then i + d else d
section HS
variable (S : hs_S) (C : hs_C) (K : hs_K) (Q : hs_Q)
def hs_const (v : hs_V) (pc len : Nat) (ls st : List hs_V) (h : hs_H) : Prop := K (pc + len) ls (v :: st) h
def hs_ldI (k pc len : Nat) (ls st : List hs_V) (h : hs_H) : Prop := match ls.getD k hs_u with
  | .inl v => K (pc + len) ls (hs_i v :: st) h
  | _ => False
def hs_ldL (k pc len : Nat) (ls st : List hs_V) (h : hs_H) : Prop := match ls.getD k hs_u, ls.getD (k + 1) (hs_i 0) with
  | .inr (.inl v), .inr (.inr (.inr _)) => K (pc + len) ls (hs_l v :: st) h
  | _, _ => False
def hs_ldR (k pc len : Nat) (ls st : List hs_V) (h : hs_H) : Prop := match ls.getD k hs_u with
  | .inr (.inr (.inl (c, i))) => K (pc + len) ls (hs_r c i :: st) h
  | _ => False
def hs_stI (k pc len : Nat) (ls st : List hs_V) (h : hs_H) : Prop := match st with
  | .inl v :: r => K (pc + len) (hs_set ls k (hs_i v)) r h
  | _ => False
def hs_stR (k pc len : Nat) (ls st : List hs_V) (h : hs_H) : Prop := match st with
  | .inr (.inr (.inl (c, i))) :: r => K (pc + len) (hs_set ls k (hs_r c i)) r h
  | _ => False
def hs_stL (k pc len : Nat) (ls st : List hs_V) (h : hs_H) : Prop := match st with
  | .inr (.inl v) :: r => K (pc + len) (hs_setL ls k v) r h
  | _ => False
def hs_iinc (k : Nat) (n : Int32) (pc : Nat) (ls st : List hs_V) (h : hs_H) : Prop := match ls.getD k hs_u with
  | .inl v => K (pc + 3) (hs_set ls k (hs_i (v + n))) st h
  | _ => False
def hs_bin (f : Int32 → Int32 → Int32) (pc : Nat) (ls st : List hs_V) (h : hs_H) : Prop := match st with
  | .inl y :: .inl x :: r => K (pc + 1) ls (hs_i (f x y) :: r) h
  | _ => False
def hs_dvd (f : Int32 → Int32 → Int32) (pc : Nat) (ls st : List hs_V) (h : hs_H) : Prop := match st with
  | .inl y :: .inl x :: r => ¬ y = 0 ∧ K (pc + 1) ls (hs_i (f x y) :: r) h
  | _ => False
def hs_binL (f : Int64 → Int64 → Int64) (pc : Nat) (ls st : List hs_V) (h : hs_H) : Prop := match st with
  | .inr (.inl y) :: .inr (.inl x) :: r => K (pc + 1) ls (hs_l (f x y) :: r) h
  | _ => False
def hs_shL (f : Int64 → Int32 → Int64) (pc : Nat) (ls st : List hs_V) (h : hs_H) : Prop := match st with
  | .inl y :: .inr (.inl x) :: r => K (pc + 1) ls (hs_l (f x y) :: r) h
  | _ => False
def hs_lcmp (pc : Nat) (ls st : List hs_V) (h : hs_H) : Prop := match st with
  | .inr (.inl y) :: .inr (.inl x) :: r => K (pc + 1) ls (hs_i (lg_cmp x y) :: r) h
  | _ => False
def hs_un (f : Int32 → Int32) (pc : Nat) (ls st : List hs_V) (h : hs_H) : Prop := match st with
  | .inl x :: r => K (pc + 1) ls (hs_i (f x) :: r) h
  | _ => False
def hs_i2l (pc : Nat) (ls st : List hs_V) (h : hs_H) : Prop := match st with
  | .inl x :: r => K (pc + 1) ls (hs_l x.toInt64 :: r) h
  | _ => False
def hs_l2i (pc : Nat) (ls st : List hs_V) (h : hs_H) : Prop := match st with
  | .inr (.inl x) :: r => K (pc + 1) ls (hs_i x.toInt32 :: r) h
  | _ => False
def hs_pop (pc : Nat) (ls st : List hs_V) (h : hs_H) : Prop := match st with
  | .inl _ :: r => K (pc + 1) ls r h
  | _ => False
/-- dup of an int or a reference -/
def hs_dup (pc : Nat) (ls st : List hs_V) (h : hs_H) : Prop := match st with
  | .inl x :: r => K (pc + 1) ls (.inl x :: .inl x :: r) h
  | .inr (.inr (.inl x)) :: r => K (pc + 1) ls (.inr (.inr (.inl x)) :: .inr (.inr (.inl x)) :: r) h
  | _ => False
/-- dup2 of a row and a place -/
def hs_dup2 (pc : Nat) (ls st : List hs_V) (h : hs_H) : Prop := match st with
  | .inl x :: .inr (.inr (.inl y)) :: r => K (pc + 1) ls (.inl x :: .inr (.inr (.inl y)) :: .inl x :: .inr (.inr (.inl y)) :: r) h
  | _ => False
def hs_br (c : Prop) (t pc : Nat) (ls st : List hs_V) (h : hs_H) : Prop := (c → K t ls st h) ∧ (¬ c → K (pc + 3) ls st h)
def hs_if1 (f : Int32 → Prop) (t pc : Nat) (ls st : List hs_V) (h : hs_H) : Prop := match st with
  | .inl x :: r => hs_br K (f x) t pc ls r h
  | _ => False
def hs_if2 (f : Int32 → Int32 → Prop) (t pc : Nat) (ls st : List hs_V) (h : hs_H) : Prop := match st with
  | .inl y :: .inl x :: r => hs_br K (f x y) t pc ls r h
  | _ => False
/-- a switch: the default's place, then number and place in turn -/
def hs_sw (d : Nat) (x : Int32) (ls st : List hs_V) (h : hs_H) : List Nat → Prop
  | v :: t :: r => (x = nI v → K t ls st h) ∧ (¬ x = nI v → hs_sw d x ls st h r)
  | _ => K d ls st h
def hs_sws (e : List Nat) (ls st : List hs_V) (h : hs_H) : Prop := match e, st with
  | d :: ps, .inl x :: r => hs_sw K d x ls r h ps
  | _, _ => False
def hs_ald (pc : Nat) (ls st : List hs_V) (h : hs_H) : Prop := match st with
  | .inl j :: .inr (.inr (.inl (c, i))) :: r => (match hs_sort c with
    | 1 => vp_in j (hs_len c) ∧ K (pc + 1) ls (hs_i (h.1 c i j.toNatClampNeg) :: r) h
    | 6 => vp_in j S.1 ∧ K (pc + 1) ls (hs_i (S.2 j.toNatClampNeg) :: r) h
    | _ => False)
  | _ => False
def hs_zld (pc : Nat) (ls st : List hs_V) (h : hs_H) : Prop := match st with
  | .inl j :: .inr (.inr (.inl (c, i))) :: r => (match hs_sort c with
    | 2 => vp_in j (hs_len c) ∧ K (pc + 1) ls (hs_i (h.1 c i j.toNatClampNeg) :: r) h
    | _ => False)
  | _ => False
def hs_lld (pc : Nat) (ls st : List hs_V) (h : hs_H) : Prop := match st with
  | .inl j :: .inr (.inr (.inl (c, i))) :: r => (match hs_sort c with
    | 3 => vp_in j (hs_len c) ∧ K (pc + 1) ls (hs_l (h.2 c i j.toNatClampNeg) :: r) h
    | _ => False)
  | _ => False
def hs_ast (pc : Nat) (ls st : List hs_V) (h : hs_H) : Prop := match st with
  | .inl x :: .inl j :: .inr (.inr (.inl (c, i))) :: r => (match hs_sort c with
    | 1 => vp_in j (hs_len c) ∧ K (pc + 1) ls r (hs_put h c i j.toNatClampNeg x)
    | _ => False)
  | _ => False
def hs_zst (pc : Nat) (ls st : List hs_V) (h : hs_H) : Prop := match st with
  | .inl x :: .inl j :: .inr (.inr (.inl (c, i))) :: r => (match hs_sort c with
    | 2 => vp_in j (hs_len c) ∧ (x = 0 ∨ x = 1) ∧ K (pc + 1) ls r (hs_put h c i j.toNatClampNeg x)
    | _ => False)
  | _ => False
def hs_lst (pc : Nat) (ls st : List hs_V) (h : hs_H) : Prop := match st with
  | .inr (.inl x) :: .inl j :: .inr (.inr (.inl (c, i))) :: r => (match hs_sort c with
    | 3 => vp_in j (hs_len c) ∧ K (pc + 1) ls r (hs_putL h c i j.toNatClampNeg x)
    | _ => False)
  | _ => False
/-- a row of references c: its elements are the instances of c2 -/
def hs_rld (e : List Nat) (pc : Nat) (ls st : List hs_V) (h : hs_H) : Prop := match e, st with
  | [c, c2], .inl j :: .inr (.inr (.inl (d, i))) :: r => bif Nat.beq d c then vp_in j (hs_len c) ∧ K (pc + 1) ls (hs_r c2 j.toNatClampNeg :: r) h else False
  | _, _ => False
def hs_alen (pc : Nat) (ls st : List hs_V) (h : hs_H) : Prop := match st with
  | .inr (.inr (.inl (c, _))) :: r => (match hs_sort c with
    | 1 => K (pc + 1) ls (hs_i (nI (hs_len c)) :: r) h
    | 6 => K (pc + 1) ls (hs_i (nI S.1) :: r) h
    | _ => False)
  | _ => False
/-- a field: its class, its place, (of a reference) the kind, and how its instance comes from the object's -/
def hs_get (e : List Nat) (pc : Nat) (ls st : List hs_V) (h : hs_H) : Prop := match e, st with
  | [_, _, _, c, k], .inr (.inr (.inl (d, i))) :: r => bif Nat.beq d c then K (pc + 3) ls (hs_i (h.1 c i k) :: r) h else False
  | [_, _, _, c, k, c2, m, a], .inr (.inr (.inl (d, i))) :: r => bif Nat.beq d c then K (pc + 3) ls (hs_r c2 (hs_ins m a i) :: r) h else False
  | _, _ => False
def hs_set1 (e : List Nat) (pc : Nat) (ls st : List hs_V) (h : hs_H) : Prop := match e, st with
  | [_, _, _, c, k], .inl x :: .inr (.inr (.inl (d, i))) :: r => bif Nat.beq d c then K (pc + 3) ls r (hs_put h c i k x) else False
  | [_, _, _, c, k, _], .inl x :: .inr (.inr (.inl (d, i))) :: r => bif Nat.beq d c then (x = 0 ∨ x = 1) ∧ K (pc + 3) ls r (hs_put h c i k x) else False
  | _, _ => False
def hs_opt (v : Option hs_V) (st : List hs_V) : List hs_V := match v with
  | some x => x :: st
  | none => st
/-- not the script -/
def hs_nos (v : hs_V) : Bool := match v with
  | .inr (.inr (.inl (c, _))) => Nat.blt c 65
  | _ => true
/-- a call of a static method: which, how many numbers it takes -/
def hs_inv (e : List Nat) (pc : Nat) (ls st : List hs_V) (h : hs_H) : Prop := match e with
  | y :: n :: _ => bif Nat.ble n st.length && Nat.ble (hs_cat (st.drop n)) 8 && (st.take n).all hs_nos then C y (st.take n).reverse h (fun v h' => K (pc + 3) ls (hs_opt v (st.drop n)) h') else False
  | _ => False
/-- a call on an object: which, how many besides it, its kind -/
def hs_invV (e : List Nat) (pc : Nat) (ls st : List hs_V) (h : hs_H) : Prop := match e with
  | y :: n :: rc :: _ => (match st.drop n with
    | .inr (.inr (.inl (c, i))) :: r => bif Nat.beq c rc && Nat.ble (hs_cat r) 8 && (st.take n).all hs_nos then C y (hs_r c i :: (st.take n).reverse) h (fun v h' => K (pc + 3) ls (hs_opt v r) h') else False
    | _ => False)
  | _ => False
def hs_ldc (e : List Nat) (pc len : Nat) (ls st : List hs_V) (h : hs_H) : Prop := match e with
  | [_, _, v] => K (pc + len) ls (hs_i (nI v) :: st) h
  | [_, _, _, k] => K (pc + len) ls (hs_r 64 k :: st) h
  | _ => False
def hs_ldcL (e : List Nat) (pc : Nat) (ls st : List hs_V) (h : hs_H) : Prop := match e with
  | [_, _, v] => K (pc + 3) ls (hs_l (lN v) :: st) h
  | _ => False
/-- the end: a number, a truth value, a long, nothing -/
def hs_iret (rk : Nat) (st : List hs_V) (h : hs_H) : Prop := match rk, st with
  | 1, [.inl x] => Q (some (hs_i x)) h
  | 2, [.inl x] => (x = 0 ∨ x = 1) ∧ Q (some (hs_i x)) h
  | _, _ => False
def hs_lret (rk : Nat) (st : List hs_V) (h : hs_H) : Prop := match rk, st with
  | 3, [.inr (.inl x)] => Q (some (hs_l x)) h
  | _, _ => False
def hs_vret (rk : Nat) (st : List hs_V) (h : hs_H) : Prop := match rk, st with
  | 0, [] => Q none h
  | _, _ => False
def hs_fst (e : List Nat) : Nat := match e with
  | a :: _ => a
  | [] => 0
def hs_step (rk pc : Nat) (ls st : List hs_V) (h : hs_H) (ins : Instr) (len : Nat) (e : List Nat) : Prop := match ins with
  | .iconst _ => hs_const K (hs_i (nI (hs_fst e))) pc len ls st h
  | .bipush _ => hs_const K (hs_i (nI (hs_fst e))) pc len ls st h
  | .sipush _ => hs_const K (hs_i (nI (hs_fst e))) pc len ls st h
  | .lconst _ => hs_const K (hs_l (lN (hs_fst e))) pc len ls st h
  | .iload k => hs_ldI K k pc len ls st h
  | .iload_n k => hs_ldI K k.val pc len ls st h
  | .lload k => hs_ldL K k pc len ls st h
  | .lload_n k => hs_ldL K k.val pc len ls st h
  | .aload k => hs_ldR K k pc len ls st h
  | .aload_n k => hs_ldR K k.val pc len ls st h
  | .istore k => hs_stI K k pc len ls st h
  | .istore_n k => hs_stI K k.val pc len ls st h
  | .astore k => hs_stR K k pc len ls st h
  | .astore_n k => hs_stR K k.val pc len ls st h
  | .lstore k => hs_stL K k pc len ls st h
  | .lstore_n k => hs_stL K k.val pc len ls st h
  | .iinc k _ => hs_iinc K k (nI (hs_fst e)) pc ls st h
  | .iadd => hs_bin K (fun x y => x + y) pc ls st h
  | .isub => hs_bin K (fun x y => x - y) pc ls st h
  | .imul => hs_bin K (fun x y => x * y) pc ls st h
  | .iand => hs_bin K (fun x y => x &&& y) pc ls st h
  | .ior => hs_bin K (fun x y => x ||| y) pc ls st h
  | .ixor => hs_bin K (fun x y => x ^^^ y) pc ls st h
  | .ishl => hs_bin K (fun x y => x <<< (y &&& 31)) pc ls st h
  | .ishr => hs_bin K (fun x y => x >>> (y &&& 31)) pc ls st h
  | .iushr => hs_bin K (fun x y => (x.toUInt32 >>> (y.toUInt32 &&& Int32.toUInt32 31)).toInt32) pc ls st h
  | .idiv => hs_dvd K (fun x y => x / y) pc ls st h
  | .irem => hs_dvd K (fun x y => x - x / y * y) pc ls st h
  | .ladd => hs_binL K (fun x y => x + y) pc ls st h
  | .lsub => hs_binL K (fun x y => x - y) pc ls st h
  | .lmul => hs_binL K (fun x y => x * y) pc ls st h
  | .land => hs_binL K (fun x y => x &&& y) pc ls st h
  | .lor => hs_binL K (fun x y => x ||| y) pc ls st h
  | .lxor => hs_binL K (fun x y => x ^^^ y) pc ls st h
  | .lshl => hs_shL K (fun x y => x <<< (y.toInt64 &&& 63)) pc ls st h
  | .lshr => hs_shL K (fun x y => x >>> (y.toInt64 &&& 63)) pc ls st h
  | .lcmp => hs_lcmp K pc ls st h
  | .i2b => hs_un K (fun x => x.toInt8.toInt32) pc ls st h
  | .i2s => hs_un K (fun x => x.toInt16.toInt32) pc ls st h
  | .i2l => hs_i2l K pc ls st h
  | .l2i => hs_l2i K pc ls st h
  | .pop => hs_pop K pc ls st h
  | .dup => hs_dup K pc ls st h
  | .dup2 => hs_dup2 K pc ls st h
  | .goto _ => K (hs_fst e) ls st h
  | .ifCond .eq _ => hs_if1 K (fun x => x = 0) (hs_fst e) pc ls st h
  | .ifCond .ne _ => hs_if1 K (fun x => ¬ x = 0) (hs_fst e) pc ls st h
  | .ifCond .lt _ => hs_if1 K (fun x => x < 0) (hs_fst e) pc ls st h
  | .ifCond .ge _ => hs_if1 K (fun x => 0 ≤ x) (hs_fst e) pc ls st h
  | .ifCond .gt _ => hs_if1 K (fun x => 0 < x) (hs_fst e) pc ls st h
  | .ifCond .le _ => hs_if1 K (fun x => x ≤ 0) (hs_fst e) pc ls st h
  | .if_icmp .eq _ => hs_if2 K (fun x y => x = y) (hs_fst e) pc ls st h
  | .if_icmp .ne _ => hs_if2 K (fun x y => ¬ x = y) (hs_fst e) pc ls st h
  | .if_icmp .lt _ => hs_if2 K (fun x y => x < y) (hs_fst e) pc ls st h
  | .if_icmp .ge _ => hs_if2 K (fun x y => y ≤ x) (hs_fst e) pc ls st h
  | .if_icmp .gt _ => hs_if2 K (fun x y => y < x) (hs_fst e) pc ls st h
  | .if_icmp .le _ => hs_if2 K (fun x y => x ≤ y) (hs_fst e) pc ls st h
  | .tableswitch _ _ _ _ => hs_sws K e ls st h
  | .lookupswitch _ _ => hs_sws K e ls st h
  | .iaload => hs_ald S K pc ls st h
  | .baload => hs_zld K pc ls st h
  | .laload => hs_lld K pc ls st h
  | .iastore => hs_ast K pc ls st h
  | .bastore => hs_zst K pc ls st h
  | .lastore => hs_lst K pc ls st h
  | .aaload => hs_rld K e pc ls st h
  | .arraylength => hs_alen S K pc ls st h
  | .getfield _ => hs_get K e pc ls st h
  | .putfield _ => hs_set1 K e pc ls st h
  | .invokevirtual _ => hs_invV C K e pc ls st h
  | .invokestatic _ => hs_inv C K e pc ls st h
  | .ldc _ => hs_ldc K e pc len ls st h
  | .ldc_w _ => hs_ldc K e pc len ls st h
  | .ldc2_w _ => hs_ldcL K e pc ls st h
  | .ireturn => hs_iret Q rk st h
  | .lreturn => hs_lret Q rk st h
  | .return_ => hs_vret Q rk st h
  | _ => False
end HS
/-- n steps of a method's rows come to its end with Q -/
def hs_wp (S : hs_S) (C : hs_C) (rk : Nat) (P : List (Nat × hs_Row)) (Q : hs_Q) : Nat → hs_K
  | 0 => fun _ _ _ _ => False
  | n + 1 => fun pc ls st h => match hs_find P pc with
    | some r => hs_step S C (hs_wp S C rk P Q n) Q rk pc ls st h r.1 r.2.1 r.2.2
    | none => False
/-- a method: its name, its code, the size of its locals, what it answers, its rows -/
abbrev hs_M : Type := MethodName × ByteArray × Nat × Option FieldType × Nat × List (Nat × hs_Row)
/-- the locals at a method's start -/
def hs_args : List hs_V → List hs_V
  | [] => []
  | .inr (.inl x) :: r => hs_l x :: hs_u :: hs_args r
  | v :: r => v :: hs_args r
def hs_fill (n : Nat) (l : List hs_V) : List hs_V := l ++ List.replicate (n - l.length) hs_u
/-- the calls of the JDK's length() and charAt() on the texts -/
def hs_prim (y : Nat) (a : List hs_V) (h : hs_H) (Q : hs_Q) : Prop := match a with
  | [.inr (.inr (.inl (c, k)))] => bif Nat.beq y 900 then bif Nat.beq c 64 then k < 7 ∧ Q (some (hs_i (nI (hs_txt k).length))) h else False else False
  | [.inr (.inr (.inl (c, k))), .inl j] => bif Nat.beq y 901 then bif Nat.beq c 64 then k < 7 ∧ vp_in j (hs_txt k).length ∧ Q (some (hs_i (nI ((hs_txt k).getD j.toNatClampNeg 0)))) h else False else False
  | _ => False
def hs_call (ms : Nat → hs_M) (S : hs_S) : Nat → hs_C
  | 0 => fun _ _ _ _ => False
  | d + 1 => fun y a h Q => bif Nat.ble 900 y then hs_prim y a h Q else
    (hs_args a).length ≤ (ms y).2.2.1 ∧ ∃ n, hs_wp S (hs_call ms S d) (ms y).2.2.2.2.1 (ms y).2.2.2.2.2 Q n 0 (hs_fill (ms y).2.2.1 (hs_args a)) [] h
