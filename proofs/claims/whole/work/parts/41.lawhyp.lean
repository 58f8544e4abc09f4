/-! The worlds built, by the kernel's own runs. -/
theorem lf_getD1 {o : Option (b2_W × Nat × Nat)} {d : b2_W × Nat × Nat} (h : o.isSome = true) : o = some ((o.getD d).1, (o.getD d).2.1, (o.getD d).2.2) := by
  cases o with
  | none => cases h
  | some q => rfl
theorem lf_getD2 {o : Option b2_S} {d : b2_S} (h : o.isSome = true) (h1 : (o.getD d).1 = 193) (h2 : (o.getD d).2.2.1.isEmpty = true) : o = some (193, (o.getD d).2.1, [], (o.getD d).2.2.2.1, (o.getD d).2.2.2.2.1, (o.getD d).2.2.2.2.2) := by
  cases o with
  | none => cases h
  | some q =>
    obtain ⟨a, b, c, d, e, f⟩ := q
    have h1 : a = 193 := h1
    have h2 : c.isEmpty = true := h2
    subst h1
    obtain rfl := List.isEmpty_iff.mp h2
    rfl
theorem lf_getD3 {o : Option hs_H} {d : hs_H} (h : o.isSome = true) : o = some (o.getD d) := by
  cases o with
  | none => cases h
  | some q => rfl
def lf_v1 : b2_W × Nat × Nat := (b2_call b2_ms 6 11 [hs_r 11 0] [b2_new 11]).getD ([], 0, 0)
def lf_v2 : b2_S := b2_s2.getD (0, [], [], [], 0, 0)
theorem lf_w1_eq : b2_w1 = lf_v1.1 := by unfold b2_w1 lf_v1; rfl
theorem lf_w2_eq : b2_w2 = lf_v2.2.2.2.1 := by unfold b2_w2 lf_v2; rfl
theorem lf_t1 : lf_v2.2.2.1.isEmpty = true := by decide +kernel
theorem lf_t2 : lf_v2.2.1.getD 0 hs_u = hs_r 12 b2_w1.length := by decide +kernel
theorem lf_t3 : lf_v2.2.1.length = 2 := by decide +kernel
theorem lf_t4 : (Nat.ble lf_v1.2.1 1000 && Nat.ble lf_v1.2.2 100000) = true := by decide +kernel
theorem lf_t5 : (Nat.ble lf_v2.2.2.2.2.1 1000 && Nat.ble lf_v2.2.2.2.2.2 100000) = true := by decide +kernel
theorem lf_t6 : (b2_wf b2_w1 && Nat.blt 0 b2_w1.length) = true := by decide +kernel
theorem lf_t7 : b2_wf (b2_w1 ++ [b2_new 12]) = true := by decide +kernel
theorem lf_t8 : b2_E0[b2_w1.length]? = some (12, 0) := by decide +kernel
theorem lf_t9 : b2_E0[0]? = some (11, 0) := by decide +kernel
theorem lf_t10 : lf_v2.1 = 193 := by decide +kernel
