/-! What the heap says between two calls: the class's part beside the model's. -/
def st_cN (o N : Nat) (J : Nat → Nat) (re : Nat) (st : Int32) (W Ho : Nat) (h : hs_H) : Prop := h.1 4 o 1 = nI N ∧ h.1 4 o 2 = nI re ∧ h.1 4 o 3 = st ∧ h.1 4 o 4 = nI W ∧ h.1 4 o 5 = nI Ho ∧ ∀ k, k < 10 → h.1 27 o k = nI (J k)
def st_cF (o : Nat) (pl mv : Int32) (s : Nat → Nat) (h : hs_H) : Prop := h.1 9 o 1 = pl ∧ h.1 9 o 2 = mv ∧ ∀ k, k < 10 → h.1 33 o k = nI (s k)
def st_cS (o z : Nat) (t n g : Nat → Nat) (h : hs_H) : Prop := h.1 5 o 3 = nI z ∧ ∀ k, k < z → h.1 28 o k = nI (t k) ∧ h.1 29 o k = nI (n k) ∧ h.1 30 o k = nI (g k)
def st_mN (N re W Ho : Nat) (h : hs_H) : Prop := h.1 12 0 2 = nI N ∧ h.1 12 0 3 = nI re ∧ h.1 12 0 4 = nI W ∧ h.1 12 0 5 = nI Ho
/-- the model's row: lanes, start, fox, what was smelt; from place B on -/
def st_mJ (c B : Nat) (J : Nat → Nat) (st : Int32) (h : hs_H) : Prop := (∀ k, k < 10 → h.1 c 0 (B + k) = nI (J k)) ∧ h.1 c 0 (B + 10) = st
def st_mF (c B : Nat) (pl mv : Int32) (s : Nat → Nat) (h : hs_H) : Prop := h.1 c 0 (B + 11) = pl ∧ h.1 c 0 (B + 12) = mv ∧ ∀ k, k < 10 → h.1 c 0 (B + 13 + k) = nI (s k)
def st_mS (c B z : Nat) (t n g : Nat → Nat) (h : hs_H) : Prop := h.1 c 0 (B + 23) = nI z ∧ ∀ k, k < z → h.1 c 0 (B + 24 + 3 * k) = nI (t k) ∧ h.1 c 0 (B + 25 + 3 * k) = nI (n k) ∧ h.1 c 0 (B + 26 + 3 * k) = nI (g k)
/-- what is so of a net, a fox, what was smelt -/
def ok_N (N : Nat) (J : Nat → Nat) (re : Nat) (st : Int32) (W Ho : Nat) : Prop := (2 ≤ N ∧ N ≤ 10) ∧ (re = 0 ∨ re = 1) ∧ (st = nI 4294967292 ∨ ∃ i, i < N ∧ st = nI i) ∧ (W < 2 ^ N ∧ Ho < 2 ^ N) ∧ (∀ k, J k < 2 ^ N) ∧ (∀ k, N ≤ k → J k = 0) ∧ (∀ a b, (J a).testBit b = (J b).testBit a) ∧ ∀ a, (J a).testBit a = false
def ok_F (N W : Nat) (pl : Int32) (s : Nat → Nat) : Prop := (pl = nI 4294967292 ∨ ∃ i, i < N ∧ pl = nI i) ∧ (∀ k, s k ≤ 18) ∧ (∀ k, N ≤ k → s k = 0) ∧ ∀ k, W.testBit k = true → s k = 0
def ok_S (N z : Nat) (t n g : Nat → Nat) : Prop := z ≤ 10 ∧ ∀ k, k < z → t k ≤ 5 ∧ n k < N ∧ g k ≤ 18
/-- one core: o the class's instance, B the model's place -/
def st_core (o B N re W Ho : Nat) (J : Nat → Nat) (st pl mv : Int32) (s : Nat → Nat) (z : Nat) (t n g : Nat → Nat) (h : hs_H) : Prop :=
  (ok_N N J re st W Ho ∧ ok_F N W pl s ∧ ok_S N z t n g) ∧ (st_cN o N J re st W Ho h ∧ st_cF o pl mv s h ∧ st_cS o z t n g h) ∧ (st_mJ 44 B J st h ∧ st_mF 44 B pl mv s h ∧ st_mS 44 B z t n g h)
def st_img (k N re W Ho : Nat) (h : hs_H) : Prop := h.1 3 k 3 = h.1 45 0 k ∧ (h.1 3 k 3 = 0 ∨ (h.1 3 k 3 = 1 ∧ ∃ J st pl mv s z t n g, st_core (2 + k) (54 * (k + 1)) N re W Ho J st pl mv s z t n g h))
def st_sheet (k : Nat) (h : hs_H) : Prop := (h.1 8 k 2 = nI 4294967292 ∧ h.1 61 0 k = nI 4294967292) ∨ ∃ ln n : Nat, ln ≤ 2 ∧ n ≤ 40 ∧ h.1 8 k 1 = nI ln ∧ h.1 61 0 k = nI ln ∧ h.1 8 k 2 = nI n ∧ h.1 62 0 k = nI n ∧ ∀ i, i < 40 → h.1 32 k i = h.1 63 0 (40 * k + i)
def st_tape (h : hs_H) : Prop := ∃ T : Nat, T ≤ 320 ∧ h.1 6 0 3 = nI T ∧ h.1 12 0 14 = nI T ∧ ∀ k, k < T → h.1 31 0 k = h.1 47 0 k ∧ ∃ b, b < 256 ∧ h.1 47 0 k = nI b
def st_misc (h : hs_H) : Prop := h.1 6 0 10 = h.1 12 0 19 ∧ h.1 11 0 11 = h.1 12 0 41
/-- what depends on some rows alone -/
def st_dep (L : List (Nat × Nat)) (P : hs_H → Prop) : Prop := ∀ h h' : hs_H, (∀ q ∈ L, h'.1 q.1 q.2 = h.1 q.1 q.2) → P h → P h'
def st_outb (K : List (Nat × Option Nat)) (L : List (Nat × Nat)) : Bool := L.all (fun q => K.all (fun r => !(decide (r = (q.1, some q.2))) && !(decide (r = (q.1, none)))))
theorem st_dep.fr {L : List (Nat × Nat)} {P : hs_H → Prop} {K : List (Nat × Option Nat)} {h h' : hs_H} (d : st_dep L P) (f : hs_fr K h h') (o : st_outb K L = true) (p : P h) : P h' := by
  refine d h h' (fun q hq => (f q.1 q.2 (fun r hr hh => ?_)).1) p
  have h1 := List.all_eq_true.mp (List.all_eq_true.mp o q hq) r hr
  rw [Bool.and_eq_true] at h1
  rcases hh with rfl | rfl
  · simp at h1
  · simp at h1
theorem st_cN_dep {o N : Nat} {J : Nat → Nat} {re : Nat} {st : Int32} {W Ho : Nat} : st_dep [(4, o), (27, o)] (st_cN o N J re st W Ho) := by
  intro h h' e p
  have e1 : h'.1 4 o = h.1 4 o := e (4, o) List.mem_cons_self
  have e2 : h'.1 27 o = h.1 27 o := e (27, o) (List.mem_cons_of_mem _ List.mem_cons_self)
  unfold st_cN at p ⊢
  rw [e1, e2]
  exact p
theorem st_cF_dep {o : Nat} {pl mv : Int32} {s : Nat → Nat} : st_dep [(9, o), (33, o)] (st_cF o pl mv s) := by
  intro h h' e p
  have e1 : h'.1 9 o = h.1 9 o := e (9, o) List.mem_cons_self
  have e2 : h'.1 33 o = h.1 33 o := e (33, o) (List.mem_cons_of_mem _ List.mem_cons_self)
  unfold st_cF at p ⊢
  rw [e1, e2]
  exact p
theorem st_cS_dep {o z : Nat} {t n g : Nat → Nat} : st_dep [(5, o), (28, o), (29, o), (30, o)] (st_cS o z t n g) := by
  intro h h' e p
  have e1 : h'.1 5 o = h.1 5 o := e (5, o) (by simp)
  have e2 : h'.1 28 o = h.1 28 o := e (28, o) (by simp)
  have e3 : h'.1 29 o = h.1 29 o := e (29, o) (by simp)
  have e4 : h'.1 30 o = h.1 30 o := e (30, o) (by simp)
  unfold st_cS at p ⊢
  rw [e1, e2, e3, e4]
  exact p
theorem st_mN_dep {N re W Ho : Nat} : st_dep [(12, 0)] (st_mN N re W Ho) := by
  intro h h' e p
  have e1 : h'.1 12 0 = h.1 12 0 := e (12, 0) List.mem_cons_self
  unfold st_mN at p ⊢
  rw [e1]
  exact p
theorem st_mJ_dep {c B : Nat} {J : Nat → Nat} {st : Int32} : st_dep [(c, 0)] (st_mJ c B J st) := by
  intro h h' e p
  have e1 : h'.1 c 0 = h.1 c 0 := e (c, 0) List.mem_cons_self
  unfold st_mJ at p ⊢
  rw [e1]
  exact p
theorem st_mF_dep {c B : Nat} {pl mv : Int32} {s : Nat → Nat} : st_dep [(c, 0)] (st_mF c B pl mv s) := by
  intro h h' e p
  have e1 : h'.1 c 0 = h.1 c 0 := e (c, 0) List.mem_cons_self
  unfold st_mF at p ⊢
  rw [e1]
  exact p
theorem st_mS_dep {c B z : Nat} {t n g : Nat → Nat} : st_dep [(c, 0)] (st_mS c B z t n g) := by
  intro h h' e p
  have e1 : h'.1 c 0 = h.1 c 0 := e (c, 0) List.mem_cons_self
  unfold st_mS at p ⊢
  rw [e1]
  exact p
theorem st_core_dep {o B N re W Ho : Nat} {J : Nat → Nat} {st pl mv : Int32} {s : Nat → Nat} {z : Nat} {t n g : Nat → Nat} : st_dep [(4, o), (27, o), (9, o), (33, o), (5, o), (28, o), (29, o), (30, o), (44, 0)] (st_core o B N re W Ho J st pl mv s z t n g) := by
  intro h h' e p
  have e1 : h'.1 4 o = h.1 4 o := e (4, o) (by simp)
  have e2 : h'.1 27 o = h.1 27 o := e (27, o) (by simp)
  have e3 : h'.1 9 o = h.1 9 o := e (9, o) (by simp)
  have e4 : h'.1 33 o = h.1 33 o := e (33, o) (by simp)
  have e5 : h'.1 5 o = h.1 5 o := e (5, o) (by simp)
  have e6 : h'.1 28 o = h.1 28 o := e (28, o) (by simp)
  have e7 : h'.1 29 o = h.1 29 o := e (29, o) (by simp)
  have e8 : h'.1 30 o = h.1 30 o := e (30, o) (by simp)
  have e9 : h'.1 44 0 = h.1 44 0 := e (44, 0) (by simp)
  unfold st_core st_cN st_cF st_cS st_mJ st_mF st_mS at p ⊢
  rw [e1, e2, e3, e4, e5, e6, e7, e8, e9]
  exact p
theorem st_img_dep {k N re W Ho : Nat} : st_dep [(3, k), (45, 0), (4, 2 + k), (27, 2 + k), (9, 2 + k), (33, 2 + k), (5, 2 + k), (28, 2 + k), (29, 2 + k), (30, 2 + k), (44, 0)] (st_img k N re W Ho) := by
  intro h h' e p
  have e1 : h'.1 3 k = h.1 3 k := e (3, k) (by simp)
  have e2 : h'.1 45 0 = h.1 45 0 := e (45, 0) (by simp)
  have e3 : h'.1 4 (2 + k) = h.1 4 (2 + k) := e (4, 2 + k) (by simp)
  have e4 : h'.1 27 (2 + k) = h.1 27 (2 + k) := e (27, 2 + k) (by simp)
  have e5 : h'.1 9 (2 + k) = h.1 9 (2 + k) := e (9, 2 + k) (by simp)
  have e6 : h'.1 33 (2 + k) = h.1 33 (2 + k) := e (33, 2 + k) (by simp)
  have e7 : h'.1 5 (2 + k) = h.1 5 (2 + k) := e (5, 2 + k) (by simp)
  have e8 : h'.1 28 (2 + k) = h.1 28 (2 + k) := e (28, 2 + k) (by simp)
  have e9 : h'.1 29 (2 + k) = h.1 29 (2 + k) := e (29, 2 + k) (by simp)
  have e10 : h'.1 30 (2 + k) = h.1 30 (2 + k) := e (30, 2 + k) (by simp)
  have e11 : h'.1 44 0 = h.1 44 0 := e (44, 0) (by simp)
  unfold st_img st_core st_cN st_cF st_cS st_mJ st_mF st_mS at p ⊢
  rw [e1, e2, e3, e4, e5, e6, e7, e8, e9, e10, e11]
  exact p
theorem st_sheet_dep {k : Nat} : st_dep [(8, k), (32, k), (61, 0), (62, 0), (63, 0)] (st_sheet k) := by
  intro h h' e p
  have e1 : h'.1 8 k = h.1 8 k := e (8, k) (by simp)
  have e2 : h'.1 32 k = h.1 32 k := e (32, k) (by simp)
  have e3 : h'.1 61 0 = h.1 61 0 := e (61, 0) (by simp)
  have e4 : h'.1 62 0 = h.1 62 0 := e (62, 0) (by simp)
  have e5 : h'.1 63 0 = h.1 63 0 := e (63, 0) (by simp)
  unfold st_sheet at p ⊢
  rw [e1, e2, e3, e4, e5]
  exact p
theorem st_tape_dep : st_dep [(6, 0), (12, 0), (31, 0), (47, 0)] st_tape := by
  intro h h' e p
  have e1 : h'.1 6 0 = h.1 6 0 := e (6, 0) (by simp)
  have e2 : h'.1 12 0 = h.1 12 0 := e (12, 0) (by simp)
  have e3 : h'.1 31 0 = h.1 31 0 := e (31, 0) (by simp)
  have e4 : h'.1 47 0 = h.1 47 0 := e (47, 0) (by simp)
  unfold st_tape at p ⊢
  rw [e1, e2, e3, e4]
  exact p
