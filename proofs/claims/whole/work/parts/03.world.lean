/-! The world of the small machine in the heap of the machine. -/
def hs_T : List Cond := lw_tbl.filter goodWord
theorem hs_T_in {w : Cond} (h : w ∈ hs_T) : w ∈ lw_tbl := (List.mem_filter.mp h).1
theorem hs_T_good {w : Cond} (h : w ∈ hs_T) : (w.onTables && w.keeps) = true ∨ ∃ ty, w = .arrayClass ty := good_of_word (List.mem_filter.mp h).2
/-- what an object's fields are: none a number, else the kind, and how its instance comes from the object's -/
abbrev hs_F : Type := Option (Nat × Nat × Nat)
def hs_fks : List (List hs_F) := [
  [some (4, 1, 0), some (20, 0, 0), some (21, 0, 0), some (22, 0, 0), some (23, 0, 0), none, none, none, none, none, none, none],
  [some (4, 1, 0), some (24, 0, 0), some (25, 0, 0), some (26, 0, 0), none, none],
  [some (4, 1, 0), none, none, none, none],
  [some (4, 0, 2), some (9, 0, 2), some (5, 0, 2), none],
  [some (27, 0, 0), none, none, none, none, none, none],
  [some (28, 0, 0), some (29, 0, 0), some (30, 0, 0), none, none],
  [some (31, 0, 0), some (4, 1, 1), some (5, 1, 1), none, none, none, none, none, none, none, none, none],
  [some (4, 1, 0), some (9, 1, 1), none, none, none],
  [some (32, 0, 0), none, none],
  [some (33, 0, 0), none, none],
  [some (4, 1, 0), some (5, 1, 0), some (34, 0, 0), some (36, 0, 0), some (38, 0, 0), some (39, 0, 0), some (40, 0, 0), some (41, 0, 0), none, none, none, none, none, none, none, none, none],
  [some (4, 1, 0), some (9, 1, 0), some (5, 1, 0), some (6, 1, 0), some (10, 1, 0), some (2, 1, 0), some (0, 1, 0), some (1, 1, 0), some (7, 1, 0), some (42, 0, 0), some (43, 0, 0), none],
  [some (44, 0, 0), some (45, 0, 0), none, none, none, none, some (46, 0, 0), none, none, none, none, none, none, some (47, 0, 0), none, none, none, none, none, none, none, some (48, 0, 0), some (49, 0, 0), some (50, 0, 0), none, some (51, 0, 0), some (52, 0, 0), some (53, 0, 0), some (54, 0, 0), some (55, 0, 0), some (56, 0, 0), none, some (57, 0, 0), some (58, 0, 0), some (59, 0, 0), some (60, 0, 0), none, none, some (61, 0, 0), some (62, 0, 0), some (63, 0, 0), none]]
def hs_fk (c : Nat) : List hs_F := hs_fks.getD c []
/-- of a row of references: the kind of its elements; where its array class stands among the six -/
def hs_el (c : Nat) : Nat := if c = 34 then 35 else if c = 36 then 37 else if c = 42 then 3 else 8
def hs_at6 (c : Nat) : Nat := if c = 42 then 3 else if c = 43 then 4 else 5
def hs_ty6 : List FieldType := [.int, .boolean, .long, .object "HuntedScent$Image", .object "HuntedScent$Sheet", .array .int]
def hs_tys (tc : Nat → ClassId) : List (ClassId × FieldType) := [(tc 0, .int), (tc 1, .boolean), (tc 2, .long), (tc 3, .object "HuntedScent$Image"), (tc 4, .object "HuntedScent$Sheet"), (tc 5, .array .int)]
def hs_cv (ad : Nat → Nat → Nat) (v : hs_V) : Value := match v with
  | .inl x => .int x
  | .inr (.inl x) => .long x
  | .inr (.inr (.inl (c, i))) => .ref (ad c i)
  | .inr (.inr (.inr _)) => .null
def hs_real (v : hs_V) : Bool := match v with
  | .inr (.inr (.inr _)) => false
  | _ => true
def hs_In (ok : Nat → Nat → Prop) (v : hs_V) : Prop := match v with
  | .inr (.inr (.inl (c, i))) => ok c i
  | _ => True
def hs_long (v : hs_V) : Bool := match v with
  | .inr (.inl _) => true
  | _ => false
/-- what stands at place k of the locals: v, with its second half -/
def hs_vd (al : List hs_V) (k : Nat) (v : hs_V) : Prop := al[k]? = some v ∧ hs_real v = true ∧ (hs_long v = true → al[k + 1]? = some hs_u)
def hs_LH (ad : Nat → Nat → Nat) (ls : Array Slot) (al : List hs_V) : Prop := ls.size = al.length ∧ lv_wf ls ∧ ∀ (k : Nat) (v : hs_V), hs_vd al k v → ls[k]? = some (.val (hs_cv ad v))
def hs_flds (ad : Nat → Nat → Nat) (h : hs_H) (c i : Nat) : Nat → List hs_F → List Value
  | _, [] => []
  | k, none :: r => .int (h.1 c i k) :: hs_flds ad h c i (k + 1) r
  | k, some (c2, m, d) :: r => .ref (ad c2 (hs_ins m d i)) :: hs_flds ad h c i (k + 1) r
def hs_ent (tc : Nat → ClassId) (ad : Nat → Nat → Nat) (h : hs_H) (c i : Nat) : va_E :=
  match hs_sort c with
  | 0 => .inr (c, hs_flds ad h c i 0 (hs_fk c))
  | 1 => .inl (tc 0, hs_len c, .inl (h.1 c i))
  | 2 => .inl (tc 1, hs_len c, .inl (h.1 c i))
  | 3 => .inl (tc 2, hs_len c, .inr (.inl (h.2 c i)))
  | _ => .inl (tc (hs_at6 c), hs_len c, .inr (.inr (.inr (.inr (fun j => some (ad (hs_el c) j))))))
def hs_ws (tc : Nat → ClassId) (ad : Nat → Nat → Nat) (E : List (Nat × Nat)) (h : hs_H) : va_W := E.map (fun q => (ad q.1 q.2, hs_ent tc ad h q.1 q.2))
/-- all that is reached from E lies in E -/
def hs_closed (E : List (Nat × Nat)) : Bool := E.all (fun q => match hs_sort q.1 with
  | 0 => (hs_fk q.1).all (fun f => match f with
    | none => true
    | some (c2, m, d) => decide ((c2, hs_ins m d q.2) ∈ E))
  | 4 => (List.range (hs_len q.1)).all (fun j => decide ((hs_el q.1, j) ∈ E))
  | 1 => true
  | 2 => true
  | 3 => true
  | _ => false)
theorem hs_flds_at (ad : Nat → Nat → Nat) (h : hs_H) (c i : Nat) : ∀ (fk : List hs_F) (k0 k : Nat) (f : hs_F), fk[k]? = some f → (hs_flds ad h c i k0 fk)[k]? = some (match f with
    | none => .int (h.1 c i (k0 + k))
    | some (c2, m, d) => .ref (ad c2 (hs_ins m d i))) := by
  intro fk
  induction fk with
  | nil => intro k0 k f hk; cases hk
  | cons a r ih =>
    intro k0 k f hk
    cases k with
    | zero =>
      obtain rfl : a = f := Option.some.inj hk
      cases a with
      | none => rfl
      | some q => rfl
    | succ k =>
      have h1 := ih (k0 + 1) k f hk
      rw [show k0 + 1 + k = k0 + (k + 1) by omega] at h1
      cases a with
      | none => exact h1
      | some q => exact h1
theorem hs_flds_len (ad : Nat → Nat → Nat) (h : hs_H) (c i : Nat) : ∀ (fk : List hs_F) (k0 : Nat), (hs_flds ad h c i k0 fk).length = fk.length := by
  intro fk
  induction fk with
  | nil => intro k0; rfl
  | cons a r ih =>
    intro k0
    cases a with
    | none => show _ + 1 = _ + 1; rw [ih]
    | some q => show _ + 1 = _ + 1; rw [ih]
/-- a field's write, in the list of its object's values -/
theorem hs_flds_set (ad : Nat → Nat → Nat) (h : hs_H) (c i K : Nat) (x : Int32) : ∀ (fk : List hs_F) (k0 k : Nat), K = k0 + k → fk[k]? = some none → (hs_flds ad h c i k0 fk).set k (.int x) = hs_flds ad (hs_put h c i K x) c i k0 fk := by
  have hother : ∀ (fk : List hs_F) (k0 : Nat), K < k0 → hs_flds ad h c i k0 fk = hs_flds ad (hs_put h c i K x) c i k0 fk := by
    intro fk
    induction fk with
    | nil => intro k0 _; rfl
    | cons a r ih =>
      intro k0 hk
      have h1 := ih (k0 + 1) (by omega)
      cases a with
      | none =>
        show Value.int (h.1 c i k0) :: _ = Value.int ((hs_put h c i K x).1 c i k0) :: _
        rw [h1]
        congr 2
        simp [hs_put, upd, show ¬ k0 = K by omega]
      | some q =>
        show _ :: _ = _ :: _
        rw [h1]
  intro fk
  induction fk with
  | nil => intro k0 k _ hk; cases hk
  | cons a r ih =>
    intro k0 k hK hk
    cases k with
    | zero =>
      obtain rfl : a = none := Option.some.inj hk
      show Value.int x :: _ = Value.int ((hs_put h c i K x).1 c i k0) :: _
      rw [hother r (k0 + 1) (by omega)]
      congr 2
      simp [hs_put, upd, show k0 = K by omega]
    | succ k =>
      have h1 := ih (k0 + 1) k (by omega) hk
      cases a with
      | none =>
        show Value.int (h.1 c i k0) :: (hs_flds ad h c i (k0 + 1) r).set k _ = Value.int ((hs_put h c i K x).1 c i k0) :: _
        rw [h1]
        congr 2
        simp [hs_put, upd, show ¬ k0 = K by omega]
      | some q =>
        show _ :: (hs_flds ad h c i (k0 + 1) r).set k _ = _ :: _
        rw [h1]
theorem hs_put_ne {h : hs_H} {c i k : Nat} {x : Int32} {c' i' : Nat} (hne : (c', i') ≠ (c, i)) : (hs_put h c i k x).1 c' i' = h.1 c' i' := by
  show (if c' = c then (fun b => if b = i then upd (h.1 c i) k x else h.1 c b) else h.1 c') i' = h.1 c' i'
  by_cases h1 : c' = c
  · subst h1
    have h2 : ¬ i' = i := fun q => hne (by rw [q])
    rw [if_pos rfl]
    show (if i' = i then _ else _) = _
    rw [if_neg h2]
  · rw [if_neg h1]
theorem hs_putL_ne {h : hs_H} {c i k : Nat} {x : Int64} {c' i' : Nat} (hne : (c', i') ≠ (c, i)) : (hs_putL h c i k x).2 c' i' = h.2 c' i' := by
  show (if c' = c then (fun b => if b = i then vp_updL (h.2 c i) k x else h.2 c b) else h.2 c') i' = h.2 c' i'
  by_cases h1 : c' = c
  · subst h1
    have h2 : ¬ i' = i := fun q => hne (by rw [q])
    rw [if_pos rfl]
    show (if i' = i then _ else _) = _
    rw [if_neg h2]
  · rw [if_neg h1]
theorem hs_put_eq {h : hs_H} {c i k : Nat} {x : Int32} : (hs_put h c i k x).1 c i = upd (h.1 c i) k x := by
  show (if c = c then (fun b => if b = i then upd (h.1 c i) k x else h.1 c b) else h.1 c) i = _
  rw [if_pos rfl]
  show (if i = i then _ else _) = _
  rw [if_pos rfl]
theorem hs_putL_eq {h : hs_H} {c i k : Nat} {x : Int64} : (hs_putL h c i k x).2 c i = vp_updL (h.2 c i) k x := by
  show (if c = c then (fun b => if b = i then vp_updL (h.2 c i) k x else h.2 c b) else h.2 c) i = _
  rw [if_pos rfl]
  show (if i = i then _ else _) = _
  rw [if_pos rfl]
theorem hs_flds_congr {ad : Nat → Nat → Nat} {h h' : hs_H} {c i : Nat} (hh : h'.1 c i = h.1 c i) : ∀ (fk : List hs_F) (k0 : Nat), hs_flds ad h' c i k0 fk = hs_flds ad h c i k0 fk := by
  intro fk
  induction fk with
  | nil => intro k0; rfl
  | cons a r ih =>
    intro k0
    cases a with
    | none =>
      show Value.int (h'.1 c i k0) :: _ = Value.int (h.1 c i k0) :: _
      rw [ih, hh]
    | some q =>
      show _ :: _ = _ :: _
      rw [ih]
theorem hs_ent_congr {tc : Nat → ClassId} {ad : Nat → Nat → Nat} {h h' : hs_H} {c i : Nat} (h1 : h'.1 c i = h.1 c i) (h2 : h'.2 c i = h.2 c i) : hs_ent tc ad h' c i = hs_ent tc ad h c i := by
  unfold hs_ent
  split
  · rw [hs_flds_congr h1]
  · rw [h1]
  · rw [h1]
  · rw [h2]
  · rfl
/-- one entry's change is a change of one place of the list -/
theorem hs_ws_set {tc : Nat → ClassId} {ad : Nat → Nat → Nat} {E : List (Nat × Nat)} (hE : E.Nodup) {h h' : hs_H} {q0 c i : Nat} {e : va_E} (hq : E[q0]? = some (c, i)) (he : hs_ent tc ad h' c i = e)
    (hne : ∀ c' i', (c', i') ≠ (c, i) → hs_ent tc ad h' c' i' = hs_ent tc ad h c' i') : (hs_ws tc ad E h).set q0 (ad c i, e) = hs_ws tc ad E h' := by
  apply List.ext_getElem?
  intro j
  have hlt : q0 < E.length := (List.getElem?_eq_some_iff.mp hq).1
  by_cases hj : q0 = j
  · subst hj
    rw [List.getElem?_set_self (by unfold hs_ws; rw [List.length_map]; exact hlt)]
    unfold hs_ws
    rw [List.getElem?_map, hq]
    show _ = some (ad c i, hs_ent tc ad h' c i)
    rw [he]
  · rw [List.getElem?_set_ne hj]
    unfold hs_ws
    rw [List.getElem?_map, List.getElem?_map]
    cases hc : E[j]? with
    | none => rfl
    | some x =>
      show some (ad x.1 x.2, hs_ent tc ad h x.1 x.2) = some (ad x.1 x.2, hs_ent tc ad h' x.1 x.2)
      rw [hne x.1 x.2]
      intro hx
      have hx' : x = (c, i) := hx
      rw [hx'] at hc
      exact hj ((List.getElem?_inj hlt hE).mp (hq.trans hc.symm))
theorem hs_ws_at {tc : Nat → ClassId} {ad : Nat → Nat → Nat} {E : List (Nat × Nat)} {h : hs_H} {q0 c i : Nat} (hq : E[q0]? = some (c, i)) : (hs_ws tc ad E h)[q0]? = some (ad c i, hs_ent tc ad h c i) := by
  unfold hs_ws
  rw [List.getElem?_map, hq]
  rfl
