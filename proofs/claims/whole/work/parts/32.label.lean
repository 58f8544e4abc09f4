/-! The cells built, labelled with kind and instance. -/
def b2_kids (e : b2_E) (c t : Nat) : List (Nat × Nat × Nat) := match e with
  | .inl (_, fs) => (fs.zip (hs_fk c)).filterMap (fun q => match q.1, q.2 with
    | .inr (.inr (.inl (_, j))), some (c2, m, d) => some (j, c2, hs_ins m d t)
    | _, _ => none)
  | .inr (_, _, .inr (.inr l)) => ((List.range l.length).zip l).filterMap (fun q => q.2.map (fun k => (k, hs_el c, q.1)))
  | _ => []
def b2_lab (w : b2_W) : Nat → List (Nat × Nat × Nat) → List (Option (Nat × Nat)) → List (Option (Nat × Nat))
  | 0, _, L => L
  | _ + 1, [], L => L
  | n + 1, (i, c, t) :: r, L => match L.getD i none with
    | some _ => b2_lab w n r L
    | none => match w[i]? with
      | some e => b2_lab w n (b2_kids e c t ++ r) (L.set i (some (c, t)))
      | none => b2_lab w n r L
/-- the law's object built -/
def b2_w1 : b2_W := ((b2_call b2_ms 6 11 [hs_r 11 0] [b2_new 11]).getD ([], 0, 0)).1
/-- and the model, as far as 193 -/
def b2_s2 : Option b2_S := b2_runs (b2_call b2_ms 6) b2_p12 193 400 (0, hs_fill b2_m12.2.2.1 [hs_r 12 b2_w1.length], [], b2_w1 ++ [b2_new 12], 0, 0)
def b2_w2 : b2_W := (b2_s2.getD (0, [], [], [], 0, 0)).2.2.2.1
def b2_E0 : List (Nat × Nat) := (b2_lab b2_w2 2000 [(0, 11, 0), (b2_w1.length, 12, 0)] (List.replicate b2_w2.length none)).map (fun o => o.getD (99, 99))
theorem b2_w1_some : (b2_call b2_ms 6 11 [hs_r 11 0] [b2_new 11]).isSome = true := by decide +kernel
theorem b2_s2_some : b2_s2.isSome = true := by decide +kernel
theorem b2_E0_all : b2_E0.all (fun q => Nat.blt q.1 64) = true := by decide +kernel
theorem b2_E0_closed : hs_closed b2_E0 = true := by decide +kernel
theorem b2_E0_nodup : b2_E0.Nodup := by decide +kernel
