/-! The world built is a world of the small machine. -/
def rs_ad (E : List (Nat × Nat)) (adr : List Nat) (adT : Nat → Nat) (b : Nat) (c i : Nat) : Nat := if c = 64 then adT i else if c = 65 then b else adr.getD (E.idxOf (c, i)) 0
theorem rs_idx {E : List (Nat × Nat)} (hn : E.Nodup) {j : Nat} {x : Nat × Nat} (hj : E[j]? = some x) : E.idxOf x = j := by
  have key : ∀ (E : List (Nat × Nat)) (x : Nat × Nat), x ∈ E → E[E.idxOf x]? = some x := by
    intro E
    induction E with
    | nil => intro x hx; cases hx
    | cons a r ih =>
      intro x hx
      rw [List.idxOf_cons]
      by_cases hax : a = x
      · subst hax
        have h1 : (a == a) = true := beq_self_eq_true a
        rw [h1]
        rfl
      · have h1 : (a == x) = false := beq_eq_false_iff_ne.mpr hax
        rw [h1]
        show (a :: r)[r.idxOf x + 1]? = some x
        rw [List.getElem?_cons_succ]
        exact ih x ((List.mem_cons.mp hx).resolve_left (fun q => hax q.symm))
  have h1 := key E x (List.mem_of_getElem? hj)
  exact ((List.getElem?_inj (List.getElem?_eq_some_iff.mp hj).1 hn).mp (hj.trans h1.symm)).symm
theorem rs_ad_E {E : List (Nat × Nat)} {adr : List Nat} {adT : Nat → Nat} {b : Nat} (h64 : E.all (fun q => Nat.blt q.1 64) = true) (hn : E.Nodup) {j c i : Nat} (hj : E[j]? = some (c, i)) : rs_ad E adr adT b c i = adr.getD j 0 := by
  have hc : c < 64 := Nat.le_of_ble_eq_true (List.all_eq_true.mp h64 (c, i) (List.mem_of_getElem? hj))
  unfold rs_ad
  rw [if_neg (by omega), if_neg (by omega), rs_idx hn hj]
theorem rs_arr {cA : ClassId} {n : Nat} {f g : Nat → Value} (h : ∀ j, j < n → f j = g j) : arrV cA n f = arrV cA n g := by
  have h1 : (fun j : Fin n => f j.val) = (fun j : Fin n => g j.val) := funext fun j => h j.val j.isLt
  unfold arrV
  rw [h1]
theorem rs_flds {E : List (Nat × Nat)} {adr : List Nat} {adT : Nat → Nat} {b t c : Nat} {h : hs_H} (h64 : E.all (fun q => Nat.blt q.1 64) = true) (hn : E.Nodup) : ∀ (fs : List hs_V) (fk : List hs_F) (k0 : Nat), b2_okfs E t fs fk = true → (∀ (k : Nat) (x : Int32), fs[k]? = some (.inl x) → h.1 c t (k0 + k) = x) →
    fs.map (hs_cv (b2_ad adr)) = hs_flds (rs_ad E adr adT b) h c t k0 fk := by
  intro fs
  induction fs with
  | nil =>
    intro fk k0 hk _
    match fk, hk with
    | [], _ => rfl
  | cons v fs ih =>
    intro fk k0 hk hv
    match v, fk, hk with
    | .inl x, none :: r, hk =>
      have h1 := ih r (k0 + 1) hk (fun k x hx => by rw [show k0 + 1 + k = k0 + (k + 1) by omega]; exact hv (k + 1) x hx)
      have h2 := hv 0 x rfl
      show Value.int x :: _ = Value.int (h.1 c t k0) :: _
      rw [h1, ← h2]
      rfl
    | .inr (.inr (.inl (y, j))), some (c2, m, d) :: r, hk =>
      have hk2 : (decide (E[j]? = some (c2, hs_ins m d t)) && b2_okfs E t fs r) = true := hk
      rw [Bool.and_eq_true, decide_eq_true_eq] at hk2
      have h1 := ih r (k0 + 1) hk2.2 (fun k x hx => by rw [show k0 + 1 + k = k0 + (k + 1) by omega]; exact hv (k + 1) x hx)
      show Value.ref (adr.getD j 0) :: _ = Value.ref (rs_ad E adr adT b c2 (hs_ins m d t)) :: _
      rw [h1, rs_ad_E h64 hn hk2.1]
    | .inl _, some _ :: _, hk => cases hk
    | .inl _, [], hk => cases hk
    | .inr (.inl _), [], hk => cases hk
    | .inr (.inl _), none :: _, hk => cases hk
    | .inr (.inl _), some _ :: _, hk => cases hk
    | .inr (.inr (.inr _)), [], hk => cases hk
    | .inr (.inr (.inr _)), none :: _, hk => cases hk
    | .inr (.inr (.inr _)), some _ :: _, hk => cases hk
    | .inr (.inr (.inl _)), [], hk => cases hk
    | .inr (.inr (.inl _)), none :: _, hk => cases hk
section RS
variable {E : List (Nat × Nat)} {adr : List Nat} {adT : Nat → Nat} {b : Nat} {w : b2_W} {D : va_G} {cl : List vw_C} {tc : Nat → ClassId} {H : Heap} {A : Nat → Prop}
theorem rs_cell (hok : ∀ (j : Nat) (e : b2_E) (q : Nat × Nat), w[j]? = some e → E[j]? = some q → b2_okc E e q.1 q.2 = true) (h64 : E.all (fun q => Nat.blt q.1 64) = true) (hn : E.Nodup) {j c t : Nat} {e : b2_E} (hE : E[j]? = some (c, t)) (hw : w[j]? = some e) (hat : va_at D cl (adr.getD j 0, b2_ce tc adr e) H) :
    va_at D cl (rs_ad E adr adT b c t, hs_ent tc (rs_ad E adr adT b) (b2_hE E w) c t) H := by
  have hk := hok j e (c, t) hw hE
  rw [rs_ad_E h64 hn hE]
  have hix := rs_idx hn hE
  match e, hk, hw, hat with
  | .inl (d, fs), hk, hw, hat =>
    have hk : (Nat.beq d c && Nat.beq (hs_sort c) 0 && b2_okfs E t fs (hs_fk c)) = true := hk
    rw [Bool.and_eq_true, Bool.and_eq_true] at hk
    obtain ⟨⟨h1, h2⟩, h3⟩ := hk
    obtain rfl := Nat.eq_of_beq_eq_true h1
    have h2 := Nat.eq_of_beq_eq_true h2
    have hfl := rs_flds (adr := adr) (adT := adT) (b := b) (c := d) (h := b2_hE E w) h64 hn fs (hs_fk d) 0 h3 (fun k x hx => by
      show (match w[E.idxOf (d, t)]? with
        | some (.inl (_, fs)) => fun k => match fs.getD k hs_u with
          | .inl x => x
          | _ => 0
        | some (.inr (_, _, .inl f)) => f
        | _ => fun _ => 0) (0 + k) = x
      rw [hix, hw]
      show (match fs.getD (0 + k) hs_u with
          | .inl x => x
          | _ => (0 : Int32)) = x
      rw [Nat.zero_add, List.getD_eq_getElem?_getD, hx]
      rfl)
    have he : hs_ent tc (rs_ad E adr adT b) (b2_hE E w) d t = .inr (d, hs_flds (rs_ad E adr adT b) (b2_hE E w) d t 0 (hs_fk d)) := by
      unfold hs_ent
      rw [h2]
      rfl
    rw [he, ← hfl]
    exact hat
  | .inr (s, n, .inl f), hk, hw, hat =>
    have hk : (Nat.beq n (hs_len c) && (Nat.beq s 0 && Nat.beq (hs_sort c) 1 || Nat.beq s 1 && Nat.beq (hs_sort c) 2)) = true := hk
    rw [Bool.and_eq_true, Bool.or_eq_true, Bool.and_eq_true, Bool.and_eq_true] at hk
    obtain ⟨h1, h2⟩ := hk
    obtain rfl := Nat.eq_of_beq_eq_true h1
    have hf : (b2_hE E w).1 c t = f := by
      show (match w[E.idxOf (c, t)]? with
        | some (.inl (_, fs)) => fun k => match fs.getD k hs_u with
          | .inl x => x
          | _ => 0
        | some (.inr (_, _, .inl f)) => f
        | _ => fun _ => 0) = f
      rw [hix, hw]
    rcases h2 with ⟨h2, h3⟩ | ⟨h2, h3⟩
    · obtain rfl := Nat.eq_of_beq_eq_true h2
      have h3 := Nat.eq_of_beq_eq_true h3
      have he : hs_ent tc (rs_ad E adr adT b) (b2_hE E w) c t = .inl (tc 0, hs_len c, .inl ((b2_hE E w).1 c t)) := by
        unfold hs_ent
        rw [h3]
        rfl
      rw [he, hf]
      exact hat
    · obtain rfl := Nat.eq_of_beq_eq_true h2
      have h3 := Nat.eq_of_beq_eq_true h3
      have he : hs_ent tc (rs_ad E adr adT b) (b2_hE E w) c t = .inl (tc 1, hs_len c, .inl ((b2_hE E w).1 c t)) := by
        unfold hs_ent
        rw [h3]
        rfl
      rw [he, hf]
      exact hat
  | .inr (s, n, .inr (.inl f)), hk, hw, hat =>
    have hk : (Nat.beq n (hs_len c) && Nat.beq s 2 && Nat.beq (hs_sort c) 3) = true := hk
    rw [Bool.and_eq_true, Bool.and_eq_true] at hk
    obtain ⟨⟨h1, h2⟩, h3⟩ := hk
    obtain rfl := Nat.eq_of_beq_eq_true h1
    obtain rfl := Nat.eq_of_beq_eq_true h2
    have h3 := Nat.eq_of_beq_eq_true h3
    have hf : (b2_hE E w).2 c t = f := by
      show (match w[E.idxOf (c, t)]? with
        | some (.inr (_, _, .inr (.inl f))) => f
        | _ => fun _ => 0) = f
      rw [hix, hw]
    have he : hs_ent tc (rs_ad E adr adT b) (b2_hE E w) c t = .inl (tc 2, hs_len c, .inr (.inl ((b2_hE E w).2 c t))) := by
      unfold hs_ent
      rw [h3]
      rfl
    rw [he, hf]
    exact hat
  | .inr (s, n, .inr (.inr l)), hk, hw, hat =>
    have hk : (Nat.beq n (hs_len c) && Nat.beq s (hs_at6 c) && Nat.beq (hs_sort c) 4 && Nat.beq l.length n && ((List.range l.length).zip l).all (fun q => match q.2 with
      | some k => decide (E[k]? = some (hs_el c, q.1))
      | none => false)) = true := hk
    rw [Bool.and_eq_true, Bool.and_eq_true, Bool.and_eq_true, Bool.and_eq_true] at hk
    obtain ⟨⟨⟨⟨h1, h2⟩, h3⟩, h4⟩, h5⟩ := hk
    obtain rfl := Nat.eq_of_beq_eq_true h1
    obtain rfl := Nat.eq_of_beq_eq_true h2
    have h3 := Nat.eq_of_beq_eq_true h3
    have h4 := Nat.eq_of_beq_eq_true h4
    have he : hs_ent tc (rs_ad E adr adT b) (b2_hE E w) c t = .inl (tc (hs_at6 c), hs_len c, .inr (.inr (.inr (.inr (fun j => some (rs_ad E adr adT b (hs_el c) j)))))) := by
      unfold hs_ent
      rw [h3]
      rfl
    rw [he]
    have hat : H[adr.getD j 0]? = some (vp_cell (tc (hs_at6 c)) (hs_len c, .inr (.inr (.inr (.inr (fun j => (l.getD j none).map (fun k => adr.getD k 0))))))) := hat
    show H[adr.getD j 0]? = some (vp_cell (tc (hs_at6 c)) (hs_len c, .inr (.inr (.inr (.inr (fun j => some (rs_ad E adr adT b (hs_el c) j)))))))
    rw [hat, vp_cell_q, vp_cell_q]
    refine congrArg some (rs_arr fun j2 hj2 => ?_)
    have hl2 : j2 < l.length := by omega
    have hz : ((List.range l.length).zip l)[j2]? = some (j2, l[j2]) := by
      rw [List.getElem?_zip_eq_some]
      exact ⟨List.getElem?_range hl2, List.getElem?_eq_getElem hl2⟩
    have h6 := List.all_eq_true.mp h5 _ (List.mem_of_getElem? hz)
    rw [List.getD_eq_getElem?_getD, List.getElem?_eq_getElem hl2]
    show va_rf (Option.map (fun k => adr.getD k 0) l[j2]) = _
    have h6 : (match l[j2] with
      | some k => decide (E[k]? = some (hs_el c, j2))
      | none => false) = true := h6
    cases ho : l[j2] with
    | none => rw [ho] at h6; cases h6
    | some k =>
      rw [ho] at h6
      rw [rs_ad_E h64 hn (of_decide_eq_true h6)]
      rfl
theorem rs_ok (hs : b2_same E w = true) : E.length = w.length ∧ ∀ (j : Nat) (e : b2_E) (q : Nat × Nat), w[j]? = some e → E[j]? = some q → b2_okc E e q.1 q.2 = true := by
  unfold b2_same at hs
  rw [Bool.and_eq_true] at hs
  refine ⟨Nat.eq_of_beq_eq_true hs.1, fun j e q hw hE => ?_⟩
  have hz : (w.zip E)[j]? = some (e, q) := List.getElem?_zip_eq_some.mpr ⟨hw, hE⟩
  exact List.all_eq_true.mp hs.2 _ (List.mem_of_getElem? hz)
theorem rs_at (hs : b2_same E w = true) (h64 : E.all (fun q => Nat.blt q.1 64) = true) (hn : E.Nodup) (hl : adr.length = w.length) {h : hs_H} {k : Nat} {q : Nat × va_E} (hq : (hs_ws tc (rs_ad E adr adT b) E h)[k]? = some q) : ∃ c t e, E[k]? = some (c, t) ∧ w[k]? = some e ∧ q = (rs_ad E adr adT b c t, hs_ent tc (rs_ad E adr adT b) h c t) ∧ q.1 = adr.getD k 0 ∧ (b2_ws tc adr w)[k]? = some (adr.getD k 0, b2_ce tc adr e) := by
  unfold hs_ws at hq
  rw [List.getElem?_map] at hq
  cases hE : E[k]? with
  | none => rw [hE] at hq; cases hq
  | some x =>
    rw [hE] at hq
    obtain ⟨c, t⟩ := x
    have hlt : k < w.length := by
      rw [← (rs_ok hs).1]
      exact (List.getElem?_eq_some_iff.mp hE).1
    obtain rfl := Option.some.inj hq
    exact ⟨c, t, w[k], rfl, List.getElem?_eq_getElem hlt, rfl, rs_ad_E h64 hn hE, b2_ws_at hl (List.getElem?_eq_getElem hlt)⟩
theorem rs_P (hs : b2_same E w = true) (h64 : E.all (fun q => Nat.blt q.1 64) = true) (hn : E.Nodup) (hl : adr.length = w.length) (hP : va_P D cl (b2_ws tc adr w) H) : va_P D cl (hs_ws tc (rs_ad E adr adT b) E (b2_hE E w)) H := by
  intro k q hq
  obtain ⟨c, t, e, h1, h2, rfl, -, h3⟩ := rs_at hs h64 hn hl hq
  exact rs_cell (rs_ok hs).2 h64 hn h1 h2 (hP k _ h3)
theorem rs_D (hs : b2_same E w = true) (h64 : E.all (fun q => Nat.blt q.1 64) = true) (hn : E.Nodup) (hl : adr.length = w.length) {h : hs_H} (hD : va_D A (b2_ws tc adr w)) : va_D A (hs_ws tc (rs_ad E adr adT b) E h) := by
  refine ⟨fun i j p q hp hq hpq => ?_, fun k q hq => ?_⟩
  · obtain ⟨_, _, _, -, -, -, h1, h2⟩ := rs_at hs h64 hn hl hp
    obtain ⟨_, _, _, -, -, -, h3, h4⟩ := rs_at hs h64 hn hl hq
    exact hD.1 i j _ _ h2 h4 (by show adr.getD i 0 = adr.getD j 0; rw [← h1, ← h3, hpq])
  · obtain ⟨_, _, _, -, -, -, h1, h2⟩ := rs_at hs h64 hn hl hq
    rw [h1]
    exact hD.2 k _ h2
theorem rs_A (hs : b2_same E w = true) (h64 : E.all (fun q => Nat.blt q.1 64) = true) (hn : E.Nodup) (hl : adr.length = w.length) {h : hs_H} {sz q : Nat} (hq : va_A (hs_ws tc (rs_ad E adr adT b) E h) sz q) : va_A (b2_ws tc adr w) sz q := by
  rcases hq with ⟨k, e, hk⟩ | hq
  · obtain ⟨_, _, _, -, -, -, h1, h2⟩ := rs_at hs h64 hn hl hk
    exact Or.inl ⟨k, _, by rw [h2, ← h1]⟩
  · exact Or.inr hq
end RS
