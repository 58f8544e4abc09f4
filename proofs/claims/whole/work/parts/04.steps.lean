/-! Locals and stack of the small machine, and its steps one by one. -/
theorem hs_cat_cv (ad : Nat → Nat → Nat) : ∀ st : List hs_V, (∀ v ∈ st, hs_real v = true) → ((st.map (hs_cv ad)).map fun v => v.category).sum = hs_cat st := by
  intro st
  induction st with
  | nil => intro _; rfl
  | cons a r ih =>
    intro hr
    have h1 := ih (fun v hv => hr v (List.mem_cons_of_mem _ hv))
    have h2 := hr a List.mem_cons_self
    rw [List.map_cons, List.map_cons, List.sum_cons, h1]
    match a, h2 with
    | .inl x, _ => show 1 + hs_cat r = hs_cat r + 1; omega
    | .inr (.inl x), _ => show 2 + hs_cat r = hs_cat r + 2; omega
    | .inr (.inr (.inl x)), _ => show 1 + hs_cat r = hs_cat r + 1; omega
theorem hs_cv_cat2 {ad : Nat → Nat → Nat} {v : hs_V} (h : (hs_cv ad v).category = 2) : ∃ x, v = hs_l x := by
  match v, h with
  | .inl x, h => exact absurd h (by simp [hs_cv, Value.category])
  | .inr (.inl x), _ => exact ⟨x, rfl⟩
  | .inr (.inr (.inl x)), h => exact absurd h (by simp [hs_cv, Value.category])
  | .inr (.inr (.inr x)), h => exact absurd h (by simp [hs_cv, Value.category])
theorem hs_real_cv {ad : Nat → Nat → Nat} {v : hs_V} (h : hs_real v = true) : hs_cv ad v ≠ .null := by
  match v, h with
  | .inl x, _ => intro q; cases q
  | .inr (.inl x), _ => intro q; cases q
  | .inr (.inr (.inl x)), _ => intro q; cases q
/-- the locals, listed -/
def hs_locs (ad : Nat → Nat → Nat) : Nat → List hs_V → List (Nat × Value)
  | _, [] => []
  | k, v :: r => bif hs_real v then (k, hs_cv ad v) :: hs_locs ad (k + 1) r else hs_locs ad (k + 1) r
theorem hs_locs_mem (ad : Nat → Nat → Nat) : ∀ (al : List hs_V) (k0 : Nat) (q : Nat × Value), q ∈ hs_locs ad k0 al ↔ ∃ (k : Nat) (v : hs_V), al[k]? = some v ∧ hs_real v = true ∧ q = (k0 + k, hs_cv ad v) := by
  intro al
  induction al with
  | nil => intro k0 q; simp [hs_locs]
  | cons a r ih =>
    intro k0 q
    constructor
    · intro hq
      by_cases ha : hs_real a = true
      · rw [hs_locs, ha] at hq
        rcases List.mem_cons.mp hq with h | h
        · exact ⟨0, a, rfl, ha, h⟩
        · obtain ⟨k, v, h1, h2, h3⟩ := (ih (k0 + 1) q).mp h
          exact ⟨k + 1, v, h1, h2, by rw [h3, show k0 + 1 + k = k0 + (k + 1) by omega]⟩
      · have ha' : hs_real a = false := by simpa using ha
        rw [hs_locs, ha'] at hq
        obtain ⟨k, v, h1, h2, h3⟩ := (ih (k0 + 1) q).mp hq
        exact ⟨k + 1, v, h1, h2, by rw [h3, show k0 + 1 + k = k0 + (k + 1) by omega]⟩
    · rintro ⟨k, v, h1, h2, rfl⟩
      cases k with
      | zero =>
        obtain rfl : a = v := Option.some.inj h1
        rw [hs_locs, h2]
        exact List.mem_cons_self
      | succ k =>
        have h3 : (k0 + (k + 1), hs_cv ad v) ∈ hs_locs ad (k0 + 1) r := (ih (k0 + 1) _).mpr ⟨k, v, h1, h2, by rw [show k0 + 1 + k = k0 + (k + 1) by omega]⟩
        rw [hs_locs]
        cases hs_real a
        · exact h3
        · exact List.mem_cons_of_mem _ h3
theorem hs_LH.has {ad : Nat → Nat → Nat} {ls : Array Slot} {al : List hs_V} (h : hs_LH ad ls al) : lv_has ls al.length (hs_locs ad 0 al) := by
  refine ⟨h.1, h.2.1, fun q hq => ?_⟩
  obtain ⟨k, v, h1, h2, rfl⟩ := (hs_locs_mem ad al 0 q).mp hq
  have := h.2.2 k v h1 h2
  simpa using this
theorem hs_LH.get {ad : Nat → Nat → Nat} {ls : Array Slot} {al : List hs_V} (h : hs_LH ad ls al) {k : Nat} {v : hs_V} (hv : al.getD k hs_u = v) (hr : hs_real v = true) : ls[k]? = some (.val (hs_cv ad v)) := by
  refine h.2.2 k v ?_ hr
  rw [List.getD_eq_getElem?_getD] at hv
  cases hk : al[k]? with
  | none => rw [hk] at hv; rw [← hv] at hr; cases hr
  | some w => rw [hk] at hv; rw [← hv]; rfl
theorem hs_set_len : ∀ (al : List hs_V) (k : Nat) (v : hs_V), (hs_set al k v).length = al.length := by
  intro al
  induction al with
  | nil => intro k v; rfl
  | cons a r ih =>
    intro k v
    match k, a with
    | 0, a => rfl
    | 1, .inr (.inl x) => show _ + 1 = _ + 1; rw [ih]
    | 1, .inl x => show _ + 1 = _ + 1; rw [ih]
    | 1, .inr (.inr x) => show _ + 1 = _ + 1; rw [ih]
    | k + 2, .inl x => show _ + 1 = _ + 1; rw [ih]
    | k + 2, .inr (.inl x) => show _ + 1 = _ + 1; rw [ih]
    | k + 2, .inr (.inr x) => show _ + 1 = _ + 1; rw [ih]
theorem hs_setL_len : ∀ (al : List hs_V) (k : Nat) (v : Int64), (hs_setL al k v).length = al.length := by
  intro al
  induction al with
  | nil => intro k v; rfl
  | cons a r ih =>
    intro k v
    match k, a with
    | 0, a => show _ + 1 = _ + 1; rw [hs_set_len]
    | 1, .inr (.inl x) => show _ + 1 = _ + 1; rw [ih]
    | 1, .inl x => show _ + 1 = _ + 1; rw [ih]
    | 1, .inr (.inr x) => show _ + 1 = _ + 1; rw [ih]
    | k + 2, .inl x => show _ + 1 = _ + 1; rw [ih]
    | k + 2, .inr (.inl x) => show _ + 1 = _ + 1; rw [ih]
    | k + 2, .inr (.inr x) => show _ + 1 = _ + 1; rw [ih]
/-- what stands in the locals behind a write -/
theorem hs_set_at : ∀ (al : List hs_V) (i : Nat) (x : hs_V), i < al.length → ∀ (k : Nat) (v : hs_V), (hs_set al i x)[k]? = some v → hs_real v = true → (k = i ∧ v = x) ∨ (k ≠ i ∧ al[k]? = some v ∧ ¬ (k + 1 = i ∧ ∃ y, v = hs_l y)) := by
  intro al
  induction al with
  | nil => intro i x hi; exact absurd hi (Nat.not_lt_zero _)
  | cons a r ih =>
    intro i x hi k v hk hr
    match i, a, hi, hk with
    | 0, a, _, hk =>
      cases k with
      | zero => exact Or.inl ⟨rfl, (Option.some.inj hk).symm⟩
      | succ k => exact Or.inr ⟨by omega, hk, by omega⟩
    | 1, .inr (.inl y), hi, hk =>
      cases k with
      | zero =>
        have : hs_u = v := Option.some.inj hk
        rw [← this] at hr
        cases hr
      | succ k =>
        rcases ih 0 x (by simpa using hi) k v hk hr with ⟨h1, h2⟩ | ⟨h1, h2, h3⟩
        · exact Or.inl ⟨by omega, h2⟩
        · exact Or.inr ⟨by omega, h2, by omega⟩
    | 1, .inl y, hi, hk =>
      cases k with
      | zero =>
        have e : Sum.inl y = v := Option.some.inj hk
        exact Or.inr ⟨by omega, hk, fun q => by obtain ⟨-, z, hz⟩ := q; rw [hz] at e; cases e⟩
      | succ k =>
        rcases ih 0 x (by simpa using hi) k v hk hr with ⟨h1, h2⟩ | ⟨h1, h2, h3⟩
        · exact Or.inl ⟨by omega, h2⟩
        · exact Or.inr ⟨by omega, h2, by omega⟩
    | 1, .inr (.inr y), hi, hk =>
      cases k with
      | zero =>
        have e : Sum.inr (Sum.inr y) = v := Option.some.inj hk
        exact Or.inr ⟨by omega, hk, fun q => by obtain ⟨-, z, hz⟩ := q; rw [hz] at e; cases e⟩
      | succ k =>
        rcases ih 0 x (by simpa using hi) k v hk hr with ⟨h1, h2⟩ | ⟨h1, h2, h3⟩
        · exact Or.inl ⟨by omega, h2⟩
        · exact Or.inr ⟨by omega, h2, by omega⟩
    | i + 2, a, hi, hk =>
      have hk' : (a :: hs_set r (i + 1) x)[k]? = some v := by
        match a, hk with
        | .inl y, hk => exact hk
        | .inr (.inl y), hk => exact hk
        | .inr (.inr y), hk => exact hk
      cases k with
      | zero => exact Or.inr ⟨by omega, hk', by omega⟩
      | succ k =>
        rcases ih (i + 1) x (by simp at hi; omega) k v hk' hr with ⟨h1, h2⟩ | ⟨h1, h2, h3⟩
        · exact Or.inl ⟨by omega, h2⟩
        · exact Or.inr ⟨by omega, h2, fun q => h3 ⟨by omega, q.2⟩⟩
theorem hs_setL_at : ∀ (al : List hs_V) (i : Nat) (x : Int64), i + 1 < al.length → ∀ (k : Nat) (v : hs_V), (hs_setL al i x)[k]? = some v → hs_real v = true → (k = i ∧ v = hs_l x) ∨ (k ≠ i ∧ k ≠ i + 1 ∧ al[k]? = some v ∧ ¬ (k + 1 = i ∧ ∃ y, v = hs_l y)) := by
  intro al
  induction al with
  | nil => intro i x hi; exact absurd hi (Nat.not_lt_zero _)
  | cons a r ih =>
    intro i x hi k v hk hr
    match i, a, hi, hk with
    | 0, a, hi, hk =>
      cases k with
      | zero => exact Or.inl ⟨rfl, (Option.some.inj hk).symm⟩
      | succ k =>
        rcases hs_set_at r 0 hs_u (by simpa using hi) k v hk hr with ⟨h1, h2⟩ | ⟨h1, h2, h3⟩
        · rw [h2] at hr; cases hr
        · exact Or.inr ⟨by omega, by omega, h2, by omega⟩
    | 1, .inr (.inl y), hi, hk =>
      cases k with
      | zero =>
        have : hs_u = v := Option.some.inj hk
        rw [← this] at hr
        cases hr
      | succ k =>
        rcases ih 0 x (by simp at hi; omega) k v hk hr with ⟨h1, h2⟩ | ⟨h1, h2, h3, h4⟩
        · exact Or.inl ⟨by omega, h2⟩
        · exact Or.inr ⟨by omega, by omega, h3, by omega⟩
    | 1, .inl y, hi, hk =>
      cases k with
      | zero =>
        have e : Sum.inl y = v := Option.some.inj hk
        exact Or.inr ⟨by omega, by omega, hk, fun q => by obtain ⟨-, z, hz⟩ := q; rw [hz] at e; cases e⟩
      | succ k =>
        rcases ih 0 x (by simp at hi; omega) k v hk hr with ⟨h1, h2⟩ | ⟨h1, h2, h3, h4⟩
        · exact Or.inl ⟨by omega, h2⟩
        · exact Or.inr ⟨by omega, by omega, h3, by omega⟩
    | 1, .inr (.inr y), hi, hk =>
      cases k with
      | zero =>
        have e : Sum.inr (Sum.inr y) = v := Option.some.inj hk
        exact Or.inr ⟨by omega, by omega, hk, fun q => by obtain ⟨-, z, hz⟩ := q; rw [hz] at e; cases e⟩
      | succ k =>
        rcases ih 0 x (by simp at hi; omega) k v hk hr with ⟨h1, h2⟩ | ⟨h1, h2, h3, h4⟩
        · exact Or.inl ⟨by omega, h2⟩
        · exact Or.inr ⟨by omega, by omega, h3, by omega⟩
    | i + 2, a, hi, hk =>
      have hk' : (a :: hs_setL r (i + 1) x)[k]? = some v := by
        match a, hk with
        | .inl y, hk => exact hk
        | .inr (.inl y), hk => exact hk
        | .inr (.inr y), hk => exact hk
      cases k with
      | zero => exact Or.inr ⟨by omega, by omega, hk', by omega⟩
      | succ k =>
        rcases ih (i + 1) x (by simp at hi ⊢; omega) k v hk' hr with ⟨h1, h2⟩ | ⟨h1, h2, h3, h4⟩
        · exact Or.inl ⟨by omega, h2⟩
        · exact Or.inr ⟨by omega, by omega, h3, fun q => h4 ⟨by omega, q.2⟩⟩
theorem hs_LH.put {ad : Nat → Nat → Nat} {ls' : Array Slot} {al : List hs_V} {i : Nat} {x : hs_V} (hi : i < al.length)
    (h' : lv_has ls' al.length ((i, hs_cv ad x) :: (hs_locs ad 0 al).filter (fun q => !(q.1 == i) && !(q.1 + 1 == i && q.2.category == 2)))) : hs_LH ad ls' (hs_set al i x) := by
  refine ⟨by rw [hs_set_len]; exact h'.1, h'.2.1, fun k v hk hr => ?_⟩
  rcases hs_set_at al i x hi k v hk hr with ⟨rfl, rfl⟩ | ⟨h1, h2, h3⟩
  · exact h'.2.2 _ List.mem_cons_self
  · refine h'.2.2 (k, hs_cv ad v) (List.mem_cons_of_mem _ (List.mem_filter.mpr ⟨(hs_locs_mem ad al 0 _).mpr ⟨k, v, h2, hr, by rw [Nat.zero_add]⟩, ?_⟩))
    simp only [Bool.and_eq_true, Bool.not_eq_true', beq_eq_false_iff_ne, ne_eq, Bool.and_eq_false_iff, beq_iff_eq]
    refine ⟨h1, ?_⟩
    by_cases hc : k + 1 = i
    · right
      intro hcat
      exact h3 ⟨hc, hs_cv_cat2 hcat⟩
    · exact Or.inl hc
theorem hs_LH.putL {ad : Nat → Nat → Nat} {ls' : Array Slot} {al : List hs_V} {i : Nat} {x : Int64} (hi : i + 1 < al.length)
    (h' : lv_has ls' al.length ((i, Value.long x) :: (hs_locs ad 0 al).filter (fun q => !(q.1 == i) && (!(q.1 == i + 1) && !(q.1 + 1 == i && q.2.category == 2))))) : hs_LH ad ls' (hs_setL al i x) := by
  refine ⟨by rw [hs_setL_len]; exact h'.1, h'.2.1, fun k v hk hr => ?_⟩
  rcases hs_setL_at al i x hi k v hk hr with ⟨rfl, rfl⟩ | ⟨h1, h2, h3, h4⟩
  · exact h'.2.2 _ List.mem_cons_self
  · refine h'.2.2 (k, hs_cv ad v) (List.mem_cons_of_mem _ (List.mem_filter.mpr ⟨(hs_locs_mem ad al 0 _).mpr ⟨k, v, h3, hr, by rw [Nat.zero_add]⟩, ?_⟩))
    simp only [Bool.and_eq_true, Bool.not_eq_true', beq_eq_false_iff_ne, ne_eq, Bool.and_eq_false_iff, beq_iff_eq]
    refine ⟨h1, h2, ?_⟩
    by_cases hc : k + 1 = i
    · right
      intro hcat
      exact h4 ⟨hc, hs_cv_cat2 hcat⟩
    · exact Or.inl hc
theorem hs_set_in {ok : Nat → Nat → Prop} : ∀ {al : List hs_V} {i : Nat} {x : hs_V}, (∀ v ∈ al, hs_In ok v) → hs_In ok x → ∀ v ∈ hs_set al i x, hs_In ok v := by
  intro al
  induction al with
  | nil => intro i x _ _ v hv; cases hv
  | cons a r ih =>
    intro i x h hx v hv
    have hr : ∀ v ∈ r, hs_In ok v := fun v hv => h v (List.mem_cons_of_mem _ hv)
    have ha := h a List.mem_cons_self
    match i, a, hv with
    | 0, a, hv =>
      rcases List.mem_cons.mp hv with rfl | hv
      · exact hx
      · exact hr v hv
    | 1, .inr (.inl y), hv =>
      rcases List.mem_cons.mp hv with rfl | hv
      · exact trivial
      · exact ih hr hx v hv
    | 1, .inl y, hv =>
      rcases List.mem_cons.mp hv with rfl | hv
      · exact trivial
      · exact ih hr hx v hv
    | 1, .inr (.inr y), hv =>
      rcases List.mem_cons.mp hv with rfl | hv
      · exact ha
      · exact ih hr hx v hv
    | i + 2, .inl y, hv =>
      rcases List.mem_cons.mp hv with rfl | hv
      · exact ha
      · exact ih hr hx v hv
    | i + 2, .inr (.inl y), hv =>
      rcases List.mem_cons.mp hv with rfl | hv
      · exact ha
      · exact ih hr hx v hv
    | i + 2, .inr (.inr y), hv =>
      rcases List.mem_cons.mp hv with rfl | hv
      · exact ha
      · exact ih hr hx v hv
theorem hs_setL_in {ok : Nat → Nat → Prop} : ∀ {al : List hs_V} {i : Nat} {x : Int64}, (∀ v ∈ al, hs_In ok v) → ∀ v ∈ hs_setL al i x, hs_In ok v := by
  intro al
  induction al with
  | nil => intro i x _ v hv; cases hv
  | cons a r ih =>
    intro i x h v hv
    have hr : ∀ v ∈ r, hs_In ok v := fun v hv => h v (List.mem_cons_of_mem _ hv)
    have ha := h a List.mem_cons_self
    match i, a, hv with
    | 0, a, hv =>
      rcases List.mem_cons.mp hv with rfl | hv
      · exact trivial
      · exact hs_set_in (x := hs_u) hr trivial v hv
    | 1, .inr (.inl y), hv =>
      rcases List.mem_cons.mp hv with rfl | hv
      · exact trivial
      · exact ih hr v hv
    | 1, .inl y, hv =>
      rcases List.mem_cons.mp hv with rfl | hv
      · exact trivial
      · exact ih hr v hv
    | 1, .inr (.inr y), hv =>
      rcases List.mem_cons.mp hv with rfl | hv
      · exact ha
      · exact ih hr v hv
    | i + 2, .inl y, hv =>
      rcases List.mem_cons.mp hv with rfl | hv
      · exact ha
      · exact ih hr v hv
    | i + 2, .inr (.inl y), hv =>
      rcases List.mem_cons.mp hv with rfl | hv
      · exact ha
      · exact ih hr v hv
    | i + 2, .inr (.inr y), hv =>
      rcases List.mem_cons.mp hv with rfl | hv
      · exact ha
      · exact ih hr v hv
theorem hs_getD_in {ok : Nat → Nat → Prop} {al : List hs_V} (h : ∀ v ∈ al, hs_In ok v) (k : Nat) : hs_In ok (al.getD k hs_u) := by
  rw [List.getD_eq_getElem?_getD]
  cases hk : al[k]? with
  | none => exact trivial
  | some w => exact h w (List.mem_of_getElem? hk)
