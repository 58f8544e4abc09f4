/-! Steps on rows: the arrays, the rows of references, the script. -/
section HSA
variable {p : Program} {l : Launch} {e : Env} {R : Room} {s : State} {m : MethodId} {args : Array Value} {below : List Frame} {meth : Method} {c : Code} {cells slots : Nat} {Qe : State → Prop}
variable {ad : Nat → Nat → Nat} {ok : Nat → Nat → Prop} {D : va_G} {tc : Nat → ClassId} {E : List (Nat × Nat)} {A : Nat → Prop} {cc : ByteArray} {own : String} {S : hs_S}
variable {K : hs_K} {pc len k t nL : Nat} {al st : List hs_V} {h : hs_H} {ls : Array Slot} {H : Heap} {locs : List Loc}
/-- the script, where a frame holds it -/
def hs_Scr (S : hs_S) (ad : Nat → Nat → Nat) (ok : Nat → Nat → Prop) (A : Nat → Prop) (s : State) : Prop := ∀ i, ok 65 i → va_X (ad 65 i) S.1 S.2 s s.heap ∧ ad 65 i < s.heap.size ∧ ¬ A (ad 65 i)
theorem hs_sort65 {c : Nat} (h : hs_sort c = 6) : c = 65 := by
  by_cases hc : c < 66
  · have h1 : ∀ c, c < 66 → hs_sort c = 6 → c = 65 := by decide +kernel
    exact h1 c hc h
  · exfalso
    have : hs_sort c = 9 := by
      unfold hs_sort
      rw [List.getD_eq_getElem?_getD, List.getElem?_eq_none (by show 66 ≤ c; omega)]
      rfl
    omega
theorem hs_at (hO : hs_okE E ok) {c i v : Nat} (hok : ok c i) (hs : hs_sort c = v) (hv : v < 5) (h : hs_H) : ∃ q0 : Nat, E[q0]? = some (c, i) ∧ (hs_ws tc ad E h)[q0]? = some (ad c i, hs_ent tc ad h c i) := by
  obtain ⟨q0, hq0⟩ := List.getElem?_of_mem (hO.1 _ _ hok (hs_sort_lt hs hv))
  exact ⟨q0, hq0, hs_ws_at hq0⟩
theorem hs_o_ald (hO : hs_okE E ok) (kk : hs_KS p l e R s m args below meth c cells slots Qe nL ad ok (hs_Wd D tc ad E A s) K) (w : hs_ald S K pc al st h) (h0 : hs_St nL ad ok (hs_Wd D tc ad E A s) al st h ls H locs)
    (hexec : p.tables.exec = Jvm.exec) (hb : c.code = cc) (hK : va_K D vwCl (hs_tys tc) s) (hsc : hs_Scr S ad ok A s) (hdg : decode cc pc = .ok (.iaload, 1)) :
    W p l e R s m args below meth c H locs cells slots Qe (F0 m pc ls (st.map (hs_cv ad))) := by
  unfold hs_ald at w
  split at w
  next j d i r =>
    have hok : ok d i := h0.pop.hd
    split at w
    next hs =>
      obtain ⟨q0, hq0, hat⟩ := hs_at (tc := tc) (ad := ad) hO hok hs (by omega) h
      rw [hs_ent_arr hs] at hat
      exact va_iald hexec hb hK h0.2.2.2.1 q0 0 hat rfl w.1 hdg (kk _ _ _ _ _ _ _ w.2 (h0.pop.pop.top trivial rfl))
    next hs =>
      obtain rfl := hs_sort65 hs
      obtain ⟨hX, hlt, hA⟩ := hsc i hok
      exact va_sld hexec hb hX hlt hA h0.2.2.2.2.2 w.1 hdg (kk _ _ _ _ _ _ _ w.2 (h0.pop.pop.top trivial rfl))
    next => exact w.elim
  next => exact w.elim
theorem hs_o_zld (hO : hs_okE E ok) (kk : hs_KS p l e R s m args below meth c cells slots Qe nL ad ok (hs_Wd D tc ad E A s) K) (w : hs_zld K pc al st h) (h0 : hs_St nL ad ok (hs_Wd D tc ad E A s) al st h ls H locs)
    (hexec : p.tables.exec = Jvm.exec) (hb : c.code = cc) (hK : va_K D vwCl (hs_tys tc) s) (hdg : decode cc pc = .ok (.baload, 1)) :
    W p l e R s m args below meth c H locs cells slots Qe (F0 m pc ls (st.map (hs_cv ad))) := by
  unfold hs_zld at w
  split at w
  next j d i r =>
    have hok : ok d i := h0.pop.hd
    split at w
    next hs =>
      obtain ⟨q0, hq0, hat⟩ := hs_at (tc := tc) (ad := ad) hO hok hs (by omega) h
      rw [hs_ent_boo hs] at hat
      exact va_zald hexec hb hK h0.2.2.2.1 q0 1 hat rfl w.1 hdg (kk _ _ _ _ _ _ _ w.2 (h0.pop.pop.top trivial rfl))
    next => exact w.elim
  next => exact w.elim
theorem hs_o_lld (hO : hs_okE E ok) (kk : hs_KS p l e R s m args below meth c cells slots Qe nL ad ok (hs_Wd D tc ad E A s) K) (w : hs_lld K pc al st h) (h0 : hs_St nL ad ok (hs_Wd D tc ad E A s) al st h ls H locs)
    (hexec : p.tables.exec = Jvm.exec) (hb : c.code = cc) (hK : va_K D vwCl (hs_tys tc) s) (hdg : decode cc pc = .ok (.laload, 1)) :
    W p l e R s m args below meth c H locs cells slots Qe (F0 m pc ls (st.map (hs_cv ad))) := by
  unfold hs_lld at w
  split at w
  next j d i r =>
    have hok : ok d i := h0.pop.hd
    split at w
    next hs =>
      obtain ⟨q0, hq0, hat⟩ := hs_at (tc := tc) (ad := ad) hO hok hs (by omega) h
      rw [hs_ent_lon hs] at hat
      exact va_lald hexec hb hK h0.2.2.2.1 q0 2 hat rfl w.1 hdg (kk _ _ _ _ _ _ _ w.2 (h0.pop.pop.top trivial rfl))
    next => exact w.elim
  next => exact w.elim
theorem hs_o_ast (hO : hs_okE E ok) (kk : hs_KS p l e R s m args below meth c cells slots Qe nL ad ok (hs_Wd D tc ad E A s) K) (w : hs_ast K pc al st h) (h0 : hs_St nL ad ok (hs_Wd D tc ad E A s) al st h ls H locs)
    (hexec : p.tables.exec = Jvm.exec) (hb : c.code = cc) (hK : va_K D vwCl (hs_tys tc) s) (hdg : decode cc pc = .ok (.iastore, 1)) :
    W p l e R s m args below meth c H locs cells slots Qe (F0 m pc ls (st.map (hs_cv ad))) := by
  unfold hs_ast at w
  split at w
  next x j d i r =>
    have hok : ok d i := h0.pop.pop.hd
    split at w
    next hs =>
      obtain ⟨q0, hq0, hat⟩ := hs_at (tc := tc) (ad := ad) hO hok hs (by omega) h
      rw [hs_ent_arr hs] at hat
      exact va_iast hexec hb hK h0.2.2.2.1 h0.2.2.2.2.1 h0.2.2.2.2.2 q0 0 hat rfl w.1 hdg fun H1 locs1 hP hD hS => kk _ _ _ _ _ _ _ w.2 ⟨h0.1, h0.2.1, h0.pop.pop.pop.2.2.1, hs_Wd_puta hO.2.2.2.2 hq0 (by rw [hs_ent_arr hs, hs_put_eq]) hP hD hS⟩
    next => exact w.elim
  next => exact w.elim
theorem hs_o_zst (hO : hs_okE E ok) (kk : hs_KS p l e R s m args below meth c cells slots Qe nL ad ok (hs_Wd D tc ad E A s) K) (w : hs_zst K pc al st h) (h0 : hs_St nL ad ok (hs_Wd D tc ad E A s) al st h ls H locs)
    (hexec : p.tables.exec = Jvm.exec) (hb : c.code = cc) (hK : va_K D vwCl (hs_tys tc) s) (hdg : decode cc pc = .ok (.bastore, 1)) :
    W p l e R s m args below meth c H locs cells slots Qe (F0 m pc ls (st.map (hs_cv ad))) := by
  unfold hs_zst at w
  split at w
  next x j d i r =>
    have hok : ok d i := h0.pop.pop.hd
    split at w
    next hs =>
      obtain ⟨q0, hq0, hat⟩ := hs_at (tc := tc) (ad := ad) hO hok hs (by omega) h
      rw [hs_ent_boo hs] at hat
      have hn : vp_nar .boolean x = x := by rcases w.2.1 with rfl | rfl <;> decide +kernel
      refine va_zast hexec hb hK h0.2.2.2.1 h0.2.2.2.2.1 h0.2.2.2.2.2 q0 1 hat rfl w.1 hdg fun H1 locs1 hP hD hS => ?_
      rw [hn] at hP hD
      exact kk _ _ _ _ _ _ _ w.2.2 ⟨h0.1, h0.2.1, h0.pop.pop.pop.2.2.1, hs_Wd_puta hO.2.2.2.2 hq0 (by rw [hs_ent_boo hs, hs_put_eq]) hP hD hS⟩
    next => exact w.elim
  next => exact w.elim
theorem hs_o_lst (hO : hs_okE E ok) (kk : hs_KS p l e R s m args below meth c cells slots Qe nL ad ok (hs_Wd D tc ad E A s) K) (w : hs_lst K pc al st h) (h0 : hs_St nL ad ok (hs_Wd D tc ad E A s) al st h ls H locs)
    (hexec : p.tables.exec = Jvm.exec) (hb : c.code = cc) (hK : va_K D vwCl (hs_tys tc) s) (hdg : decode cc pc = .ok (.lastore, 1)) :
    W p l e R s m args below meth c H locs cells slots Qe (F0 m pc ls (st.map (hs_cv ad))) := by
  unfold hs_lst at w
  split at w
  next x j d i r =>
    have hok : ok d i := h0.pop.pop.hd
    split at w
    next hs =>
      obtain ⟨q0, hq0, hat⟩ := hs_at (tc := tc) (ad := ad) hO hok hs (by omega) h
      rw [hs_ent_lon hs] at hat
      exact va_last hexec hb hK h0.2.2.2.1 h0.2.2.2.2.1 h0.2.2.2.2.2 q0 2 hat rfl w.1 hdg fun H1 locs1 hP hD hS => kk _ _ _ _ _ _ _ w.2 ⟨h0.1, h0.2.1, h0.pop.pop.pop.2.2.1, hs_Wd_putl hO.2.2.2.2 hq0 (by rw [hs_ent_lon hs, hs_putL_eq]) hP hD hS⟩
    next => exact w.elim
  next => exact w.elim
/-- a load of a row of references, of any kind of reference -/
theorem hs_aald {ws : va_W} {a : Nat} {rest : List Value} {Q : State → Prop} (hexec : p.tables.exec = Jvm.exec) (hb : c.code = cc) (hK : va_K D vwCl (hs_tys tc) s) (hP : va_P D vwCl ws H) (q0 t0 : Nat) {cA : ClassId} {ty : FieldType} {n : Nat} {f : Nat → Option Nat} (ha : ws[q0]? = some (a, .inl (cA, n, .inr (.inr (.inr (.inr f)))))) (ht : (hs_tys tc)[t0]? = some (cA, ty)) (hr : ty.isReference = true) {i : Int32} (hin : vp_in i n) (hdg : decode cc pc = .ok (.aaload, 1))
    (kk : W p l e R s m args below meth c H locs cells slots Q (F0 m (pc + 1) ls (va_rf (f i.toNatClampNeg) :: rest))) : W p l e R s m args below meth c H locs cells slots Q (F0 m pc ls (.int i :: .ref a :: rest)) := by
  have hlt : i.toNatClampNeg < n := Nat.not_le.mp fun q => hin (Or.inr q)
  exact W.aald (v := va_rf (f i.toNatClampNeg)) (ty := ty) hexec hb (hP q0 _ ha) ((hK.2 t0 _ ht).1 n (fun j => va_rf (f j))) hr (fun q => by cases q) (by show ¬ (i < 0 ∨ (arrV _ _ _).slots.size ≤ _); rw [arrV_size]; exact hin) (by show (arrV _ _ _).slots[_]? = _; rw [arrV_read _ _ hlt]) rfl rfl hdg kk
theorem hs_o_rld {x : List Nat} {c1 c2 : Nat} (hO : hs_okE E ok) (kk : hs_KS p l e R s m args below meth c cells slots Qe nL ad ok (hs_Wd D tc ad E A s) K) (w : hs_rld K x pc al st h) (h0 : hs_St nL ad ok (hs_Wd D tc ad E A s) al st h ls H locs)
    (hexec : p.tables.exec = Jvm.exec) (hb : c.code = cc) (hK : va_K D vwCl (hs_tys tc) s) (hdg : decode cc pc = .ok (.aaload, 1)) (hx : x = [c1, c2]) (hc : hs_sort c1 = 4 ∧ hs_el c1 = c2) :
    W p l e R s m args below meth c H locs cells slots Qe (F0 m pc ls (st.map (hs_cv ad))) := by
  subst hx
  match st, w with
  | .inl j :: .inr (.inr (.inl (d, i))) :: r, w =>
    have w2 : (bif Nat.beq d c1 then (vp_in j (hs_len c1) ∧ K (pc + 1) al (hs_r c2 j.toNatClampNeg :: r) h) else False) := w
    clear w
    cases hd : Nat.beq d c1 with
    | false => rw [hd] at w2; exact w2.elim
    | true =>
      rw [hd] at w2
      obtain rfl := Nat.eq_of_beq_eq_true hd
      have hok : ok d i := h0.pop.hd
      obtain ⟨hs, he⟩ := hc
      obtain ⟨q0, hq0, hat⟩ := hs_at (tc := tc) (ad := ad) hO hok hs (by omega) h
      rw [hs_ent_ref hs, he] at hat
      have hlt : j.toNatClampNeg < hs_len d := Nat.not_le.mp fun q => w2.1 (Or.inr q)
      have hel : ok c2 j.toNatClampNeg := hO.2.1 _ _ (by rw [← he]; exact hs_closed_e hO.2.2.2.1 (hO.1 _ _ hok (hs_sort_lt hs (by omega))) hs hlt)
      have hgo := kk _ _ _ _ _ _ _ w2.2 (h0.pop.pop.top (v := hs_r c2 j.toNatClampNeg) hel rfl)
      have hty : ∃ ty, (hs_tys tc)[hs_at6 d]? = some (tc (hs_at6 d), ty) ∧ ty.isReference = true := by
        unfold hs_at6
        by_cases h1 : d = 42
        · rw [if_pos h1]; exact ⟨_, rfl, rfl⟩
        · rw [if_neg h1]
          by_cases h2 : d = 43
          · rw [if_pos h2]; exact ⟨_, rfl, rfl⟩
          · rw [if_neg h2]; exact ⟨_, rfl, rfl⟩
      obtain ⟨ty, ht, hr⟩ := hty
      exact hs_aald hexec hb hK h0.2.2.2.1 q0 _ hat ht hr w2.1 hdg hgo
theorem hs_o_alen (hO : hs_okE E ok) (kk : hs_KS p l e R s m args below meth c cells slots Qe nL ad ok (hs_Wd D tc ad E A s) K) (w : hs_alen S K pc al st h) (h0 : hs_St nL ad ok (hs_Wd D tc ad E A s) al st h ls H locs)
    (hexec : p.tables.exec = Jvm.exec) (hb : c.code = cc) (hK : va_K D vwCl (hs_tys tc) s) (hsc : hs_Scr S ad ok A s) (hdg : decode cc pc = .ok (.arraylength, 1)) :
    W p l e R s m args below meth c H locs cells slots Qe (F0 m pc ls (st.map (hs_cv ad))) := by
  unfold hs_alen at w
  split at w
  next d i r =>
    have hok : ok d i := h0.hd
    split at w
    next hs =>
      obtain ⟨q0, hq0, hat⟩ := hs_at (tc := tc) (ad := ad) hO hok hs (by omega) h
      rw [hs_ent_arr hs] at hat
      exact va_alen hexec hb hK h0.2.2.2.1 q0 0 hat rfl rfl hdg (kk _ _ _ _ _ _ _ w (h0.pop.top trivial rfl))
    next hs =>
      obtain rfl := hs_sort65 hs
      obtain ⟨hX, hlt, hA⟩ := hsc i hok
      exact va_slen hexec hb hX hlt hA h0.2.2.2.2.2 hdg (kk _ _ _ _ _ _ _ w (h0.pop.top trivial rfl))
    next => exact w.elim
  next => exact w.elim
end HSA
