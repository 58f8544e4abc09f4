/-! Where the law begins: the rows that stand as they were built. -/
def s0_rows : List (Nat × Nat × Nat × Nat) := [(4, 0, 1, 5), (4, 0, 2, 0), (4, 0, 3, 4294967292), (4, 0, 4, 0), (4, 0, 5, 0), (9, 0, 1, 4294967292), (9, 0, 2, 0), (5, 0, 3, 0), (3, 0, 3, 0), (3, 1, 3, 0), (8, 0, 2, 4294967292), (8, 1, 2, 4294967292), (8, 2, 2, 4294967292), (8, 3, 2, 4294967292), (61, 0, 0, 4294967292), (61, 0, 1, 4294967292), (61, 0, 2, 4294967292), (61, 0, 3, 4294967292), (6, 0, 3, 0), (12, 0, 14, 0), (6, 0, 10, 0), (12, 0, 19, 0), (11, 0, 11, 0), (12, 0, 41, 0), (0, 0, 9, 0), (1, 0, 4, 0), (10, 0, 14, 4294967292), (5, 1, 3, 0)]
def s0_zero : List (Nat × Nat) := [(27, 0), (33, 0), (35, 0)]
def s0_chk (E : List (Nat × Nat)) (w : b2_W) : Bool := s0_rows.all (fun q => decide ((b2_hE E w).1 q.1 q.2.1 q.2.2.1 = nI q.2.2.2)) && s0_zero.all (fun q => (List.range 10).all (fun k => decide ((b2_hE E w).1 q.1 q.2 k = nI 0))) && (List.range 11).any (fun c => decide ((b2_hE E w).1 4 0 6 = nI c)) && (List.range 11).any (fun c => decide ((b2_hE E w).1 5 0 4 = nI c))
set_option maxRecDepth 100000 in
theorem s0_ok : s0_chk b2_E0 b2_w2 = true := by decide +kernel
