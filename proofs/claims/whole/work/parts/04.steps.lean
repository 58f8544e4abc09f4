/-! Locals and stack of the small machine, and its steps one by one. -/
theorem hs_cat_cv (ad : Nat → Nat → Nat) : ∀ st : List hs_V, (∀ v ∈ st, hs_real v = true) → ((st.map (hs_cv ad)).map fun v => v.category).sum = hs_cat st := by
  intro st
  induction st with
  | nil => intro _; rfl
  | cons a r ih =>
    intro hr
    have h1 := ih (fun v hv => hr v (List.mem_cons_of_mem _ hv))
    have h2 := hr a List.mem_cons_self
    rw [List.map_cons, List.map_cons, List.sum_cons, h1]
    match a, h2 with
    | .inl x, _ => show 1 + hs_cat r = hs_cat r + 1; omega
    | .inr (.inl x), _ => show 2 + hs_cat r = hs_cat r + 2; omega
    | .inr (.inr (.inl x)), _ => show 1 + hs_cat r = hs_cat r + 1; omega
theorem hs_cv_cat2 {ad : Nat → Nat → Nat} {v : hs_V} (h : (hs_cv ad v).category = 2) : ∃ x, v = hs_l x := by
  match v, h with
  | .inl x, h => exact absurd h (by simp [hs_cv, Value.category])
  | .inr (.inl x), _ => exact ⟨x, rfl⟩
  | .inr (.inr (.inl x)), h => exact absurd h (by simp [hs_cv, Value.category])
  | .inr (.inr (.inr x)), h => exact absurd h (by simp [hs_cv, Value.category])
theorem hs_real_cv {ad : Nat → Nat → Nat} {v : hs_V} (h : hs_real v = true) : hs_cv ad v ≠ .null := by
  match v, h with
  | .inl x, _ => intro q; cases q
  | .inr (.inl x), _ => intro q; cases q
  | .inr (.inr (.inl x)), _ => intro q; cases q
def hs_vdb (al : List hs_V) (k : Nat) (v : hs_V) : Bool := hs_real v && (!hs_long v || (match al[k + 1]? with
  | some (.inr (.inr (.inr _))) => true
  | _ => false))
theorem hs_vdb_iff {al : List hs_V} {k : Nat} {v : hs_V} : hs_vdb al k v = true ↔ (hs_real v = true ∧ (hs_long v = true → al[k + 1]? = some hs_u)) := by
  unfold hs_vdb
  rw [Bool.and_eq_true]
  refine and_congr_right fun _ => ?_
  cases hl : hs_long v with
  | false => simp
  | true =>
    simp only [Bool.not_true, Bool.false_or, forall_const]
    constructor
    · intro h
      split at h
      next x hx => rw [hx]
      next => cases h
    · intro h
      rw [h]
/-- the locals, listed -/
def hs_locs (ad : Nat → Nat → Nat) (al : List hs_V) : List (Nat × Value) := (List.range al.length).filterMap (fun k => match al[k]? with
  | some v => if hs_vdb al k v = true then some (k, hs_cv ad v) else none
  | none => none)
theorem hs_locs_mem (ad : Nat → Nat → Nat) (al : List hs_V) (q : Nat × Value) : q ∈ hs_locs ad al ↔ ∃ (k : Nat) (v : hs_V), hs_vd al k v ∧ q = (k, hs_cv ad v) := by
  unfold hs_locs
  rw [List.mem_filterMap]
  constructor
  · rintro ⟨k, hk, hq⟩
    cases hv : al[k]? with
    | none => rw [hv] at hq; cases hq
    | some v =>
      rw [hv] at hq
      have hq : (if hs_vdb al k v = true then some (k, hs_cv ad v) else none) = some q := hq
      by_cases hb : hs_vdb al k v = true
      · rw [if_pos hb] at hq
        exact ⟨k, v, ⟨hv, hs_vdb_iff.mp hb⟩, (Option.some.inj hq).symm⟩
      · rw [if_neg hb] at hq; cases hq
  · rintro ⟨k, v, ⟨hv, hb⟩, rfl⟩
    refine ⟨k, List.mem_range.mpr (List.getElem?_eq_some_iff.mp hv).1, ?_⟩
    rw [hv]
    show (if hs_vdb al k v = true then some (k, hs_cv ad v) else none) = _
    rw [if_pos (hs_vdb_iff.mpr hb)]
theorem hs_LH.has {ad : Nat → Nat → Nat} {ls : Array Slot} {al : List hs_V} (h : hs_LH ad ls al) : lv_has ls al.length (hs_locs ad al) := by
  refine ⟨h.1, h.2.1, fun q hq => ?_⟩
  obtain ⟨k, v, h1, rfl⟩ := (hs_locs_mem ad al q).mp hq
  exact h.2.2 k v h1
theorem hs_getD_some {al : List hs_V} {k : Nat} {v d : hs_V} (hv : al.getD k d = v) (hd : d ≠ v) : al[k]? = some v := by
  rw [List.getD_eq_getElem?_getD] at hv
  cases hk : al[k]? with
  | none => rw [hk] at hv; exact absurd hv hd
  | some w => rw [hk] at hv; exact congrArg some hv
theorem hs_LH.get {ad : Nat → Nat → Nat} {ls : Array Slot} {al : List hs_V} (h : hs_LH ad ls al) {k : Nat} {v : hs_V} (hv : al.getD k hs_u = v) (hr : hs_real v = true) (hl : hs_long v = false) : ls[k]? = some (.val (hs_cv ad v)) :=
  h.2.2 k v ⟨hs_getD_some hv (fun q => by rw [← q] at hr; cases hr), hr, fun q => by rw [hl] at q; cases q⟩
theorem hs_LH.getL {ad : Nat → Nat → Nat} {ls : Array Slot} {al : List hs_V} (h : hs_LH ad ls al) {k : Nat} {v : Int64} (hv : al.getD k hs_u = hs_l v) (hv2 : al.getD (k + 1) (hs_i 0) = hs_u) : ls[k]? = some (.val (.long v)) :=
  h.2.2 k (hs_l v) ⟨hs_getD_some hv (fun q => by cases q), rfl, fun _ => hs_getD_some hv2 (fun q => by cases q)⟩
theorem hs_set_len (al : List hs_V) (k : Nat) (v : hs_V) : (hs_set al k v).length = al.length := List.length_set
theorem hs_setL_len (al : List hs_V) (k : Nat) (v : Int64) : (hs_setL al k v).length = al.length := by
  unfold hs_setL
  rw [List.length_set, List.length_set]
theorem hs_LH.put {ad : Nat → Nat → Nat} {ls' : Array Slot} {al : List hs_V} {i : Nat} {x : hs_V} (hx : hs_real x = true) (hi : i < al.length)
    (h' : lv_has ls' al.length ((i, hs_cv ad x) :: (hs_locs ad al).filter (fun q => !(q.1 == i) && !(q.1 + 1 == i && q.2.category == 2)))) : hs_LH ad ls' (hs_set al i x) := by
  refine ⟨by rw [hs_set_len]; exact h'.1, h'.2.1, fun k v hk => ?_⟩
  obtain ⟨hk1, hk2, hk3⟩ := hk
  unfold hs_set at hk1 hk3
  by_cases hki : i = k
  · subst hki
    rw [List.getElem?_set_self hi] at hk1
    obtain rfl := Option.some.inj hk1
    exact h'.2.2 _ List.mem_cons_self
  · rw [List.getElem?_set_ne hki] at hk1
    have hki1 : hs_long v = true → ¬ i = k + 1 := by
      intro hl q
      have := hk3 hl
      rw [q, List.getElem?_set_self (by omega)] at this
      rw [Option.some.inj this] at hx
      cases hx
    have hvd : hs_vd al k v := ⟨hk1, hk2, fun hl => by
      have := hk3 hl
      rw [List.getElem?_set_ne (hki1 hl)] at this
      exact this⟩
    refine h'.2.2 (k, hs_cv ad v) (List.mem_cons_of_mem _ (List.mem_filter.mpr ⟨(hs_locs_mem ad al _).mpr ⟨k, v, hvd, rfl⟩, ?_⟩))
    simp only [Bool.and_eq_true, Bool.not_eq_true', beq_eq_false_iff_ne, ne_eq, Bool.and_eq_false_iff, beq_iff_eq]
    refine ⟨fun q => hki q.symm, ?_⟩
    by_cases hc : k + 1 = i
    · right
      intro hcat
      obtain ⟨y, rfl⟩ := hs_cv_cat2 hcat
      exact hki1 rfl hc.symm
    · exact Or.inl hc
theorem hs_LH.putL {ad : Nat → Nat → Nat} {ls' : Array Slot} {al : List hs_V} {i : Nat} {x : Int64} (hi : i + 1 < al.length)
    (h' : lv_has ls' al.length ((i, Value.long x) :: (hs_locs ad al).filter (fun q => !(q.1 == i) && (!(q.1 == i + 1) && !(q.1 + 1 == i && q.2.category == 2))))) : hs_LH ad ls' (hs_setL al i x) := by
  refine ⟨by rw [hs_setL_len]; exact h'.1, h'.2.1, fun k v hk => ?_⟩
  obtain ⟨hk1, hk2, hk3⟩ := hk
  unfold hs_setL at hk1 hk3
  by_cases hki2 : i + 1 = k
  · subst hki2
    rw [List.getElem?_set_self (by rw [List.length_set]; omega)] at hk1
    obtain rfl := Option.some.inj hk1
    cases hk2
  · rw [List.getElem?_set_ne hki2] at hk1
    by_cases hki : i = k
    · subst hki
      rw [List.getElem?_set_self (by omega)] at hk1
      obtain rfl := Option.some.inj hk1
      exact h'.2.2 _ List.mem_cons_self
    · rw [List.getElem?_set_ne hki] at hk1
      have hki1 : hs_long v = true → ¬ i = k + 1 := by
        intro hl q
        have := hk3 hl
        rw [List.getElem?_set_ne (by omega), ← q, List.getElem?_set_self (by omega)] at this
        cases (Option.some.inj this)
      have hvd : hs_vd al k v := ⟨hk1, hk2, fun hl => by
        have := hk3 hl
        rw [List.getElem?_set_ne (by omega), List.getElem?_set_ne (hki1 hl)] at this
        exact this⟩
      refine h'.2.2 (k, hs_cv ad v) (List.mem_cons_of_mem _ (List.mem_filter.mpr ⟨(hs_locs_mem ad al _).mpr ⟨k, v, hvd, rfl⟩, ?_⟩))
      simp only [Bool.and_eq_true, Bool.not_eq_true', beq_eq_false_iff_ne, ne_eq, Bool.and_eq_false_iff, beq_iff_eq]
      refine ⟨fun q => hki q.symm, fun q => hki2 q.symm, ?_⟩
      by_cases hc : k + 1 = i
      · right
        intro hcat
        obtain ⟨y, rfl⟩ := hs_cv_cat2 hcat
        exact hki1 rfl hc.symm
      · exact Or.inl hc
theorem hs_set_in {ok : Nat → Nat → Prop} {al : List hs_V} {i : Nat} {x : hs_V} (h : ∀ v ∈ al, hs_In ok v) (hx : hs_In ok x) : ∀ v ∈ hs_set al i x, hs_In ok v := by
  intro v hv
  rcases List.mem_or_eq_of_mem_set hv with hv | rfl
  · exact h v hv
  · exact hx
theorem hs_setL_in {ok : Nat → Nat → Prop} {al : List hs_V} {i : Nat} {x : Int64} (h : ∀ v ∈ al, hs_In ok v) : ∀ v ∈ hs_setL al i x, hs_In ok v := by
  intro v hv
  rcases List.mem_or_eq_of_mem_set hv with hv | rfl
  · rcases List.mem_or_eq_of_mem_set hv with hv | rfl
    · exact h v hv
    · exact trivial
  · exact trivial
theorem hs_getD_in {ok : Nat → Nat → Prop} {al : List hs_V} (h : ∀ v ∈ al, hs_In ok v) (k : Nat) : hs_In ok (al.getD k hs_u) := by
  rw [List.getD_eq_getElem?_getD]
  cases hk : al[k]? with
  | none => exact trivial
  | some w => exact h w (List.mem_of_getElem? hk)
