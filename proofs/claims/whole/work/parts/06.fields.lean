/-! Words of the tables, by their places; steps that read and write the world. -/
def hs_seg (k : Nat) : List Cond := match k with
  | 1 => tables_1_1
  | 2 => tables_1_2
  | 3 => tables_1_3
  | 4 => tables_1_4
  | 5 => tables_1_5
  | 6 => tables_1_6
  | 7 => tables_1_7
  | 11 => k2_sels lw_privs_1
  | 12 => k2_sels lw_privs_2
  | 13 => k2_sels lw_privs_3
  | 14 => k2_sels lw_privs_4
  | 15 => k2_sels lw_privs_5
  | 16 => k2_sels lw_privs_6
  | 17 => k2_sels lw_privs_7
  | 18 => k2_sels lw_privs_8
  | 19 => k2_sels lw_privs_9
  | 20 => k2_sels lw_privs_10
  | _ => []
theorem hs_seg_in (k : Nat) : ∀ w ∈ hs_seg k, w ∈ lw_tbl := by
  intro w h
  unfold lw_tbl k2_sels lw_privs tables_1
  unfold hs_seg k2_sels at h
  simp only [List.map_append, List.mem_append]
  split at h
  all_goals first
    | (cases h; done)
    | simp only [h, true_or, or_true]
def hs_has (k i : Nat) (w : Cond) : Bool := decide ((hs_seg k)[i]? = some w) && goodWord w
theorem hs_has_in {k i : Nat} {w : Cond} (h : hs_has k i w = true) : w ∈ hs_T := by
  unfold hs_has at h
  rw [Bool.and_eq_true, decide_eq_true_eq] at h
  exact List.mem_filter.mpr ⟨hs_seg_in k w (List.mem_of_getElem? h.1), h.2⟩
/-- a nest mate's words -/
def hs_nest : Cond → Bool
  | .fieldLinkNest _ _ _ _ _ _ => true
  | .methodLinkNest _ _ _ _ => true
  | _ => false
def hs_N : List Cond := lw_tbl.filter hs_nest
def hs_hasN (k i : Nat) (w : Cond) : Bool := decide ((hs_seg k)[i]? = some w) && hs_nest w
theorem hs_hasN_in {k i : Nat} {w : Cond} (h : hs_hasN k i w = true) : w ∈ hs_N := by
  unfold hs_hasN at h
  rw [Bool.and_eq_true, decide_eq_true_eq] at h
  exact List.mem_filter.mpr ⟨hs_seg_in k w (List.mem_of_getElem? h.1), h.2⟩
theorem hs_N_use {w : Cond} (hw : w ∈ hs_N) {args : Array Value} {U : State} (h : va_Nw w U) : w.before args U = true := by
  have h2 := (List.mem_filter.mp hw).2
  cases w <;> first | (exact va_Nw.use rfl h) | (cases h2)
theorem hs_N_of {w : Cond} (hw : w ∈ hs_N) {args : Array Value} {U : State} (h : w.before args U = true) : va_Nw w U := by
  have h2 := (List.mem_filter.mp hw).2
  cases w <;> first | (exact va_Nw.of rfl h) | (cases h2)
theorem hs_N_warm {w : Cond} (hw : w ∈ hs_N) {s U : State} (hW : s.WarmedH U.vm) (h : va_Nw w s) : va_Nw w U := by
  have h2 := (List.mem_filter.mp hw).2
  cases w <;> first | (exact va_Nw.warmF hW h) | (exact va_Nw.warmM hW h) | (cases h2)
theorem hs_N_same {w : Cond} (hw : w ∈ hs_N) {s U : State} (hv : s.vm = U.vm) (h : va_Nw w s) : va_Nw w U := by
  have h2 := (List.mem_filter.mp hw).2
  cases w <;> first | (exact va_Nw.same rfl hv h) | (cases h2)
/-- a class's fields: their words stand in the tables, they have types, their names differ -/
def hs_Cls (q : vw_C) : Prop := (∀ w ∈ u_ws q.1 q.2.1 q.2.2, w ∈ hs_T) ∧ (∃ ty0 : Nat → FieldType, ∀ k, k < q.2.2 → parseFieldDescriptor (q.2.1 k).2.2.1 = some (ty0 k)) ∧ ∀ a, a < q.2.2 → ∀ b, b < q.2.2 → a ≠ b → (q.2.1 a).2.1 ≠ (q.2.1 b).2.1
theorem hs_cls_in {ws : List Cond} (ps : List (Nat × Nat)) (h : ((ws.zip ps).all (fun q => hs_has q.2.1 q.2.2 q.1) && decide (ws.length = ps.length)) = true) : ∀ w ∈ ws, w ∈ hs_T := by
  rw [Bool.and_eq_true, decide_eq_true_eq] at h
  intro w hw
  obtain ⟨i, hi⟩ := List.getElem?_of_mem hw
  have hlt : i < ws.length := (List.getElem?_eq_some_iff.mp hi).1
  have h2 : (ws.zip ps)[i]? = some (w, ps[i]'(by omega)) := by
    rw [List.getElem?_zip_eq_some]
    exact ⟨hi, List.getElem?_eq_getElem (by omega)⟩
  exact hs_has_in (List.all_eq_true.mp h.1 _ (List.mem_of_getElem? h2))
section HSF
variable {p : Program} {l : Launch} {e : Env} {R : Room} {s : State} {m : MethodId} {args : Array Value} {below : List Frame} {meth : Method} {c : Code} {cells slots : Nat} {Qe : State → Prop}
variable {ad : Nat → Nat → Nat} {ok : Nat → Nat → Prop} {D : va_G} {tc : Nat → ClassId} {E : List (Nat × Nat)} {A : Nat → Prop} {cc : ByteArray} {own : String}
/-- the world: its cells, apart, in A; what is written so far lies in A -/
def hs_Wd (D : va_G) (tc : Nat → ClassId) (ad : Nat → Nat → Nat) (E : List (Nat × Nat)) (A : Nat → Prop) (s : State) (h : hs_H) (H : Heap) (locs : List Loc) : Prop :=
  va_P D vwCl (hs_ws tc ad E h) H ∧ va_D A (hs_ws tc ad E h) ∧ va_S A s.heap H locs
variable {K : hs_K} {pc len k t nL : Nat} {al st : List hs_V} {h : hs_H} {ls : Array Slot} {H : Heap} {locs : List Loc}
/-- a reference of a kind below 64 stands in E -/
def hs_okE (E : List (Nat × Nat)) (ok : Nat → Nat → Prop) : Prop := (∀ c i, ok c i → c < 64 → (c, i) ∈ E) ∧ (∀ c i, (c, i) ∈ E → ok c i) ∧ (∀ i, i < 7 → ok 64 i) ∧ hs_closed E = true ∧ E.Nodup
theorem hs_closed_f {E : List (Nat × Nat)} (hc : hs_closed E = true) {c i k c2 m d : Nat} (h : (c, i) ∈ E) (hs : hs_sort c = 0) (hf : (hs_fk c)[k]? = some (some (c2, m, d))) : (c2, hs_ins m d i) ∈ E := by
  have h1 := List.all_eq_true.mp hc _ h
  simp only [hs] at h1
  have h2 := List.all_eq_true.mp h1 _ (List.mem_of_getElem? hf)
  simpa using h2
theorem hs_closed_e {E : List (Nat × Nat)} (hc : hs_closed E = true) {c i j : Nat} (h : (c, i) ∈ E) (hs : hs_sort c = 4) (hj : j < hs_len c) : (hs_el c, j) ∈ E := by
  have h1 := List.all_eq_true.mp hc _ h
  simp only [hs] at h1
  have h2 := List.all_eq_true.mp h1 j (List.mem_range.mpr hj)
  simpa using h2
/-- what a field's row must say: sg, ix the word's place; nest 1 a nest mate's; f what the field is -/
def hs_okF (own : String) (index : Nat) (sg ix nest c k : Nat) (f : hs_F) : Bool := match vwCl[c]? with
  | some q => decide (k < q.2.2) && decide (hs_sort c = 0) && decide ((hs_fk c)[k]? = some f) && decide ((q.2.1 k).1 = q.1) && (match nest with
    | 0 => hs_has sg ix (.fieldLink own index q.1 (q.2.1 k).2.1 (q.2.1 k).2.2.1)
    | _ => hs_hasN sg ix (.fieldLinkNest own index q.1 (q.2.1 k).2.1 (q.2.1 k).2.2.1 "HuntedScent"))
  | none => false
theorem hs_okF_spec {own : String} {index sg ix nest c k : Nat} {f : hs_F} (h : hs_okF own index sg ix nest c k f = true) : ∃ q : vw_C, vwCl[c]? = some q ∧ c < 13 ∧ k < q.2.2 ∧ hs_sort c = 0 ∧ (hs_fk c)[k]? = some f ∧ (q.2.1 k).1 = q.1 ∧
    (Cond.fieldLink own index q.1 (q.2.1 k).2.1 (q.2.1 k).2.2.1 ∈ hs_T ∨ Cond.fieldLinkNest own index q.1 (q.2.1 k).2.1 (q.2.1 k).2.2.1 "HuntedScent" ∈ hs_N) := by
  unfold hs_okF at h
  split at h
  next q hq =>
    simp only [Bool.and_eq_true, decide_eq_true_eq] at h
    obtain ⟨⟨⟨⟨h1, h2⟩, h3⟩, h4⟩, h5⟩ := h
    refine ⟨q, hq, (List.getElem?_eq_some_iff.mp hq).1, h1, h2, h3, h4, ?_⟩
    split at h5
    · exact Or.inl (hs_has_in h5)
    · exact Or.inr (hs_hasN_in h5)
  next => cases h
theorem hs_ent_obj {c i : Nat} (hs : hs_sort c = 0) : hs_ent tc ad h c i = .inr (c, hs_flds ad h c i 0 (hs_fk c)) := by
  unfold hs_ent
  rw [hs]
  rfl
theorem hs_ent_arr {c i : Nat} (hs : hs_sort c = 1) : hs_ent tc ad h c i = .inl (tc 0, hs_len c, .inl (h.1 c i)) := by
  unfold hs_ent
  rw [hs]
  rfl
theorem hs_ent_boo {c i : Nat} (hs : hs_sort c = 2) : hs_ent tc ad h c i = .inl (tc 1, hs_len c, .inl (h.1 c i)) := by
  unfold hs_ent
  rw [hs]
  rfl
theorem hs_ent_lon {c i : Nat} (hs : hs_sort c = 3) : hs_ent tc ad h c i = .inl (tc 2, hs_len c, .inr (.inl (h.2 c i))) := by
  unfold hs_ent
  rw [hs]
  rfl
theorem hs_ent_ref {c i : Nat} (hs : hs_sort c = 4) : hs_ent tc ad h c i = .inl (tc (hs_at6 c), hs_len c, .inr (.inr (.inr (.inr (fun j => some (ad (hs_el c) j)))))) := by
  unfold hs_ent
  rw [hs]
  rfl
theorem hs_sort_lt {c v : Nat} (hs : hs_sort c = v) (hv : v < 5) : c < 64 := by
  by_cases hc : c < 64
  · exact hc
  · exfalso
    have : c = 64 ∨ c = 65 ∨ 66 ≤ c := by omega
    rcases this with rfl | rfl | h
    · rw [show hs_sort 64 = 5 from rfl] at hs; omega
    · rw [show hs_sort 65 = 6 from rfl] at hs; omega
    · have : hs_sort c = 9 := by
        unfold hs_sort
        rw [List.getD_eq_getElem?_getD, List.getElem?_eq_none (by show 66 ≤ c; exact h)]
        rfl
      omega
theorem hs_o_get {index : Nat} {x : List Nat} {sg ix nest c0 k0 : Nat} {f : hs_F} (hO : hs_okE E ok) (kk : hs_KS p l e R s m args below meth c cells slots Qe nL ad ok (hs_Wd D tc ad E A s) K) (w : hs_get K x pc al st h) (h0 : hs_St nL ad ok (hs_Wd D tc ad E A s) al st h ls H locs)
    (hcl : ∀ (c : Nat) (q : vw_C), vwCl[c]? = some q → hs_Cls q) (hexec : p.tables.exec = Jvm.exec) (hb : c.code = cc) (hts : ∀ w ∈ hs_T, w.before args s = true) (hnw : ∀ w ∈ hs_N, w.before args s = true) (hown : s.vm.findClass own = some m.cls) (hK : va_K D vwCl (hs_tys tc) s) (hdg : decode cc pc = .ok (.getfield index, 3))
    (hf : hs_okF own index sg ix nest c0 k0 f = true) (hx : x = (match f with
      | none => [sg, ix, nest, c0, k0]
      | some (c2, m2, d2) => [sg, ix, nest, c0, k0, c2, m2, d2])) :
    W p l e R s m args below meth c H locs cells slots Qe (F0 m pc ls (st.map (hs_cv ad))) := by
  obtain ⟨q, hq, hc13, hk, hs0, hfk, hdecl, hlink⟩ := hs_okF_spec hf
  have go : ∀ {i : Nat} {r : List hs_V} {v : hs_V}, st = hs_r c0 i :: r → (hs_flds ad h c0 i 0 (hs_fk c0))[k0]? = some (hs_cv ad v) → K (pc + 3) al (v :: r) h → hs_In ok v → hs_real v = true → W p l e R s m args below meth c H locs cells slots Qe (F0 m pc ls (st.map (hs_cv ad))) := by
    intro i r v hst hv hw hin hr
    subst hst
    have hok : ok c0 i := h0.hd
    have hE := hO.1 _ _ hok (by omega)
    obtain ⟨q0, hq0⟩ := List.getElem?_of_mem hE
    have hat := hs_ws_at (tc := tc) (ad := ad) (h := h) hq0
    rw [hs_ent_obj hs0] at hat
    have hgo := kk _ _ _ _ _ _ _ hw (h0.pop.top hin hr)
    rcases hlink with hl | hl
    · exact va_get (D := D) (ci := c0) (C := q.1) (T := q.2.1) (N := q.2.2) hexec hb hts (hcl c0 q hq).1 hown hK h0.2.2.2.1 q0 hat hq k0 hk (hts _ hl) (fun x hx => by rw [hdecl] at hx; exact hx) hv hdg hgo
    · exact va_getN (D := D) (ci := c0) (C := q.1) (T := q.2.1) (N := q.2.2) hexec hb hts (hcl c0 q hq).1 hown hK h0.2.2.2.1 q0 hat hq k0 hk (hnw _ hl) (fun x hx => by rw [hdecl] at hx; exact hx) hv hdg hgo
  cases f with
  | none =>
    subst hx
    match st, w with
    | .inr (.inr (.inl (d, i))) :: r, w =>
      have w : (bif Nat.beq d c0 then K (pc + 3) al (hs_i (h.1 c0 i k0) :: r) h else False) := w
      cases hd : Nat.beq d c0 with
      | false => rw [hd] at w; exact w.elim
      | true =>
        rw [hd] at w
        obtain rfl := Nat.eq_of_beq_eq_true hd
        have e1 := hs_flds_at ad h d i (hs_fk d) 0 k0 none hfk
        rw [Nat.zero_add] at e1
        exact go (v := hs_i (h.1 d i k0)) rfl e1 w trivial rfl
  | some q2 =>
    obtain ⟨c2, m2, d2⟩ := q2
    subst hx
    match st, w with
    | .inr (.inr (.inl (d, i))) :: r, w =>
      have w2 : (bif Nat.beq d c0 then K (pc + 3) al (hs_r c2 (hs_ins m2 d2 i) :: r) h else False) := w
      clear w
      cases hd : Nat.beq d c0 with
      | false => rw [hd] at w2; exact w2.elim
      | true =>
        rw [hd] at w2
        obtain rfl := Nat.eq_of_beq_eq_true hd
        have hok : ok d i := h0.hd
        exact go (v := hs_r c2 (hs_ins m2 d2 i)) rfl (hs_flds_at ad h d i (hs_fk d) 0 k0 _ hfk) w2 (hO.2.1 _ _ (hs_closed_f hO.2.2.2.1 (hO.1 _ _ hok (by omega)) hs0 hfk)) rfl
/-- a write into an object's field -/
theorem hs_Wd_put {c i k q0 : Nat} {x : Int32} {H1 : Heap} {locs1 : List Loc} (hE : E.Nodup) (hq : E[q0]? = some (c, i)) (hs : hs_sort c = 0) (hk : (hs_fk c)[k]? = some none)
    (hP : va_P D vwCl ((hs_ws tc ad E h).set q0 (ad c i, .inr (c, (hs_flds ad h c i 0 (hs_fk c)).set k (.int x)))) H1) (hD : va_D A ((hs_ws tc ad E h).set q0 (ad c i, .inr (c, (hs_flds ad h c i 0 (hs_fk c)).set k (.int x))))) (hS : va_S A s.heap H1 locs1) :
    hs_Wd D tc ad E A s (hs_put h c i k x) H1 locs1 := by
  have e := hs_ws_set (tc := tc) (ad := ad) hE (h := h) (h' := hs_put h c i k x) hq (e := .inr (c, (hs_flds ad h c i 0 (hs_fk c)).set k (.int x)))
    (by rw [hs_ent_obj hs, hs_flds_set ad h c i k x (hs_fk c) 0 k (by omega) hk]) (fun c' i' hne => hs_ent_congr (hs_put_ne hne) rfl)
  rw [e] at hP hD
  exact ⟨hP, hD, hS⟩
theorem hs_Wd_puta {c i j q0 : Nat} {x : Int32} {H1 : Heap} {locs1 : List Loc} (hE : E.Nodup) (hq : E[q0]? = some (c, i)) {e0 : va_E} (he : hs_ent tc ad (hs_put h c i j x) c i = e0)
    (hP : va_P D vwCl ((hs_ws tc ad E h).set q0 (ad c i, e0)) H1) (hD : va_D A ((hs_ws tc ad E h).set q0 (ad c i, e0))) (hS : va_S A s.heap H1 locs1) :
    hs_Wd D tc ad E A s (hs_put h c i j x) H1 locs1 := by
  have e := hs_ws_set (tc := tc) (ad := ad) hE (h := h) (h' := hs_put h c i j x) hq (e := e0) he (fun c' i' hne => hs_ent_congr (hs_put_ne hne) rfl)
  rw [e] at hP hD
  exact ⟨hP, hD, hS⟩
theorem hs_Wd_putl {c i j q0 : Nat} {x : Int64} {H1 : Heap} {locs1 : List Loc} (hE : E.Nodup) (hq : E[q0]? = some (c, i)) {e0 : va_E} (he : hs_ent tc ad (hs_putL h c i j x) c i = e0)
    (hP : va_P D vwCl ((hs_ws tc ad E h).set q0 (ad c i, e0)) H1) (hD : va_D A ((hs_ws tc ad E h).set q0 (ad c i, e0))) (hS : va_S A s.heap H1 locs1) :
    hs_Wd D tc ad E A s (hs_putL h c i j x) H1 locs1 := by
  have e := hs_ws_set (tc := tc) (ad := ad) hE (h := h) (h' := hs_putL h c i j x) hq (e := e0) he (fun c' i' hne => hs_ent_congr rfl (hs_putL_ne hne))
  rw [e] at hP hD
  exact ⟨hP, hD, hS⟩
theorem hs_o_put {index : Nat} {x : List Nat} {sg ix nest c0 k0 : Nat} {bo : Bool} (hO : hs_okE E ok) (kk : hs_KS p l e R s m args below meth c cells slots Qe nL ad ok (hs_Wd D tc ad E A s) K) (w : hs_set1 K x pc al st h) (h0 : hs_St nL ad ok (hs_Wd D tc ad E A s) al st h ls H locs)
    (hcl : ∀ (c : Nat) (q : vw_C), vwCl[c]? = some q → hs_Cls q) (hexec : p.tables.exec = Jvm.exec) (hb : c.code = cc) (hts : ∀ w ∈ hs_T, w.before args s = true) (hnw : ∀ w ∈ hs_N, w.before args s = true) (hown : s.vm.findClass own = some m.cls) (hK : va_K D vwCl (hs_tys tc) s) (hdg : decode cc pc = .ok (.putfield index, 3))
    (hf : hs_okF own index sg ix nest c0 k0 none = true) (hfi : (match vwCl[c0]? with
      | some q => decide ((q.2.1 k0).2.2.2 = false ∧ (q.2.1 k0).2.2.1 = (if bo then "Z" else "I"))
      | none => false) = true) (hx : x = (if bo then [sg, ix, nest, c0, k0, 0] else [sg, ix, nest, c0, k0])) :
    W p l e R s m args below meth c H locs cells slots Qe (F0 m pc ls (st.map (hs_cv ad))) := by
  obtain ⟨q, hq, hc13, hk, hs0, hfk, hdecl, hlink⟩ := hs_okF_spec hf
  rw [hq] at hfi
  simp only [decide_eq_true_eq] at hfi
  obtain ⟨hfin, hds⟩ := hfi
  obtain ⟨hin0, ⟨ty0, hty0⟩, hnm⟩ := hcl c0 q hq
  have go : ∀ {i : Nat} {r : List hs_V} {v : Int32} {ty : FieldType}, st = hs_i v :: hs_r c0 i :: r → parseFieldDescriptor (q.2.1 k0).2.2.1 = some ty → narrow ty (.int v) = .int v → fits ty (.int v) = true → K (pc + 3) al r (hs_put h c0 i k0 v) → W p l e R s m args below meth c H locs cells slots Qe (F0 m pc ls (st.map (hs_cv ad))) := by
    intro i r v ty hst hd hn hfit hw
    subst hst
    have hok : ok c0 i := h0.pop.hd
    have hE := hO.1 _ _ hok (by omega)
    obtain ⟨q0, hq0⟩ := List.getElem?_of_mem hE
    have hat := hs_ws_at (tc := tc) (ad := ad) (h := h) hq0
    rw [hs_ent_obj hs0] at hat
    have hlen : k0 < (hs_flds ad h c0 i 0 (hs_fk c0)).length := by
      rw [hs_flds_len]
      exact (List.getElem?_eq_some_iff.mp hfk).1
    have hgo : ∀ (H1 : Heap) (locs1 : List Loc), va_P D vwCl ((hs_ws tc ad E h).set q0 (ad c0 i, .inr (c0, (hs_flds ad h c0 i 0 (hs_fk c0)).set k0 (.int v)))) H1 → va_D A ((hs_ws tc ad E h).set q0 (ad c0 i, .inr (c0, (hs_flds ad h c0 i 0 (hs_fk c0)).set k0 (.int v)))) → va_S A s.heap H1 locs1 → W p l e R s m args below meth c H1 locs1 cells slots Qe (F0 m (pc + 3) ls (r.map (hs_cv ad))) :=
      fun H1 locs1 hP hD hS => kk _ _ _ _ _ _ _ hw ⟨h0.1, h0.2.1, h0.pop.pop.2.2.1, hs_Wd_put hO.2.2.2.2 hq0 hs0 hfk hP hD hS⟩
    rcases hlink with hl | hl
    · exact va_put (D := D) (ci := c0) (C := q.1) (T := q.2.1) (N := q.2.2) hexec hb hts hin0 ty0 hty0 hnm hown hK h0.2.2.2.1 h0.2.2.2.2.1 h0.2.2.2.2.2 q0 hat hq k0 hk (hts _ hl) (fun x hx => by rw [hdecl] at hx; exact hx) hfin hd hn hfit hlen hdg hgo
    · exact va_putN (D := D) (ci := c0) (C := q.1) (T := q.2.1) (N := q.2.2) hexec hb hts hin0 ty0 hty0 hnm hown hK h0.2.2.2.1 h0.2.2.2.2.1 h0.2.2.2.2.2 q0 hat hq k0 hk (hnw _ hl) (fun x hx => by rw [hdecl] at hx; exact hx) hfin hd hn hfit hlen hdg hgo
  cases bo with
  | false =>
    rw [if_neg (by decide)] at hx hds
    subst hx
    match st, w with
    | .inl v :: .inr (.inr (.inl (d, i))) :: r, w =>
      have w : (bif Nat.beq d c0 then K (pc + 3) al r (hs_put h c0 i k0 v) else False) := w
      cases hd : Nat.beq d c0 with
      | false => rw [hd] at w; exact w.elim
      | true =>
        rw [hd] at w
        obtain rfl := Nat.eq_of_beq_eq_true hd
        exact go (ty := .int) rfl (by rw [hds]; rfl) rfl rfl w
  | true =>
    rw [if_pos rfl] at hx hds
    subst hx
    match st, w with
    | .inl v :: .inr (.inr (.inl (d, i))) :: r, w =>
      have w : (bif Nat.beq d c0 then ((v = 0 ∨ v = 1) ∧ K (pc + 3) al r (hs_put h c0 i k0 v)) else False) := w
      cases hd : Nat.beq d c0 with
      | false => rw [hd] at w; exact w.elim
      | true =>
        rw [hd] at w
        obtain rfl := Nat.eq_of_beq_eq_true hd
        refine go (ty := .boolean) rfl (by rw [hds]; rfl) ?_ ?_ w.2
        · rcases w.1 with rfl | rfl <;> decide +kernel
        · rcases w.1 with rfl | rfl <;> decide +kernel
end HSF
