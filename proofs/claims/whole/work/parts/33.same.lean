/-! The world built is the small machine's world. (draft: not built yet) -/
def b2_adE (E : List (Nat × Nat)) (adr : List Nat) (c i : Nat) : Nat := adr.getD (E.idxOf (c, i)) 0
def b2_hE (E : List (Nat × Nat)) (w : b2_W) : hs_H := (fun c i => match w[E.idxOf (c, i)]? with
  | some (.inl (_, fs)) => fun k => match fs.getD k hs_u with
    | .inl x => x
    | _ => 0
  | some (.inr (_, _, .inl f)) => f
  | _ => fun _ => 0, fun c i => match w[E.idxOf (c, i)]? with
  | some (.inr (_, _, .inr (.inl f))) => f
  | _ => fun _ => 0)
def b2_okfs (E : List (Nat × Nat)) (t : Nat) : List hs_V → List hs_F → Bool
  | [], [] => true
  | .inl _ :: fs, none :: r => b2_okfs E t fs r
  | .inr (.inr (.inl (_, j))) :: fs, some (c2, m, d) :: r => decide (E[j]? = some (c2, hs_ins m d t)) && b2_okfs E t fs r
  | _, _ => false
def b2_okc (E : List (Nat × Nat)) (e : b2_E) (c t : Nat) : Bool := match e with
  | .inl (d, fs) => Nat.beq d c && Nat.beq (hs_sort c) 0 && b2_okfs E t fs (hs_fk c)
  | .inr (s, n, .inl _) => Nat.beq n (hs_len c) && (Nat.beq s 0 && Nat.beq (hs_sort c) 1 || Nat.beq s 1 && Nat.beq (hs_sort c) 2)
  | .inr (s, n, .inr (.inl _)) => Nat.beq n (hs_len c) && Nat.beq s 2 && Nat.beq (hs_sort c) 3
  | .inr (s, n, .inr (.inr l)) => Nat.beq n (hs_len c) && Nat.beq s (hs_at6 c) && Nat.beq (hs_sort c) 4 && Nat.beq l.length n && ((List.range l.length).zip l).all (fun q => match q.2 with
    | some k => decide (E[k]? = some (hs_el c, q.1))
    | none => false)
def b2_same (E : List (Nat × Nat)) (w : b2_W) : Bool := Nat.beq E.length w.length && (w.zip E).all (fun q => b2_okc E q.1 q.2.1 q.2.2)
theorem b2_w2_same : b2_same b2_E0 b2_w2 = true := by decide +kernel
