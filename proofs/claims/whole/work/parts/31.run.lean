/-! The constructors' run. -/
def b2_new (c : Nat) : b2_E := match vwCl[c]? with
  | some q => .inl (c, (List.range q.2.2).map (fun k => b2_dfl ((parseFieldDescriptor (q.2.1 k).2.2.1).getD .int)))
  | none => .inl (c, [])
/-- the model's constructor as far as 193, in a world that holds the model at 1 -/
def b2_rM : Option b2_S := b2_runs (b2_call b2_ms 6) b2_p12 193 400 (0, hs_fill b2_m12.2.2.1 [hs_r 12 1], [], [b2_new 11, b2_new 12], 0, 0)
theorem b2_rM_some : b2_rM.isSome = true := by decide +kernel
