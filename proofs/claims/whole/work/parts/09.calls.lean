/-! Contracts of the small machine's methods; calls. -/
def hs_rm (d : Nat) : Room := { frames := d + 8, cells := 0, slots := 0, locals := 60 * d + 400 }
def hs_kw (M : hs_M) : List Cond := Cond.code M.1 M.2.1 M.2.2.1 M.2.2.2.1 :: hs_T
def hs_ok0 (E : List (Nat × Nat)) (c i : Nat) : Prop := (c, i) ∈ E ∨ (c = 64 ∧ i < 7)
def hs_B (D : va_G) (tc : Nat → ClassId) (ad : Nat → Nat → Nat) (E : List (Nat × Nat)) (h : hs_H) (t : State) : Prop := va_P D vwCl (hs_ws tc ad E h) t.heap ∧ va_K D vwCl (hs_tys tc) t
def hs_Pre (D : va_G) (tc : Nat → ClassId) (ad : Nat → Nat → Nat) (adV : Nat → Nat) (E : List (Nat × Nat)) (sz : Nat) (a : List hs_V) (h : hs_H) : Array Value → State → Prop :=
  va_Pc (a.map (hs_cv ad)) (fun U => U.heap.size = sz ∧ va_P D vwCl (hs_ws tc ad E h) U.heap ∧ va_K D vwCl (hs_tys tc) U ∧ va_D (fun _ => True) (hs_ws tc ad E h) ∧ hs_X ad adV (va_A (hs_ws tc ad E h) sz) U U.heap)
def hs_Post (D : va_G) (tc : Nat → ClassId) (ad : Nat → Nat → Nat) (E : List (Nat × Nat)) (rk : Nat) (Q : hs_Q) (A : Nat → Prop) : Array Value → State → Outcome → State → Prop := match rk with
  | 0 => va_Qv (fun h' : hs_H => Q none h') (hs_B D tc ad E) A
  | 3 => va_Ql (fun (r : Int64) (h' : hs_H) => Q (some (hs_l r)) h') (hs_B D tc ad E) A
  | _ => va_Qi (fun (r : Int32) (h' : hs_H) => Q (some (hs_i r)) h') (hs_B D tc ad E) A
/-- the callees' contracts -/
def hs_Con (ms : Nat → hs_M) (l : Launch) (D : va_G) (tc : Nat → ClassId) (ad : Nat → Nat → Nat) (adV : Nat → Nat) (E : List (Nat × Nat)) (C : hs_C) (rm : Room) : Prop :=
  ∀ (y : Nat) (a : List hs_V) (h : hs_H) (Q : hs_Q), C y a h Q → (∀ v ∈ a, hs_In (hs_ok0 E) v ∧ hs_real v = true) → ∀ sz : Nat, Met l (ms y).1 (hs_kw (ms y)) rm (hs_Pre D tc ad adV E sz a h) (hs_Post D tc ad E (ms y).2.2.2.2.1 Q (va_A (hs_ws tc ad E h) sz)) 0 0 (va_A (hs_ws tc ad E h) sz)
theorem hs_blind {D : va_G} {tc : Nat → ClassId} {ad : Nat → Nat → Nat} {adV : Nat → Nat} {E : List (Nat × Nat)} {sz : Nat} {a : List hs_V} {h : hs_H} : FrameBlind (hs_Pre D tc ad adV E sz a h) := by
  intro b U g mk q
  obtain ⟨q0, q1, q2, q3, q4, q5⟩ := q
  exact ⟨q0, q1, q2, va_K.moved (u := U) (U := U.calling g mk b) (Vm.Alike.refl U.vm) q3, q4, hs_X.same (s := U) (U := U.calling g mk b) q5 rfl⟩
theorem hs_good {M : hs_M} (hc : Cond.code M.1 M.2.1 M.2.2.1 M.2.2.2.1 ∈ hs_T) : GoodIn hs_T (hs_kw M) := by
  intro w hw
  have hw' : w ∈ hs_T := by
    rcases List.mem_cons.mp hw with rfl | hw
    · exact hc
    · exact hw
  exact ⟨hw', hs_T_good hw'⟩
theorem hs_D_any {tc : Nat → ClassId} {ad : Nat → Nat → Nat} {E : List (Nat × Nat)} {A : Nat → Prop} {h h' : hs_H} (hD : va_D A (hs_ws tc ad E h)) : va_D A (hs_ws tc ad E h') := by
  have key : ∀ (k : Nat) (q : Nat × va_E), (hs_ws tc ad E h')[k]? = some q → ∃ q2 : Nat × va_E, (hs_ws tc ad E h)[k]? = some q2 ∧ q2.1 = q.1 := by
    intro k q hq
    unfold hs_ws at hq ⊢
    rw [List.getElem?_map] at hq ⊢
    cases hc : E[k]? with
    | none => rw [hc] at hq; cases hq
    | some x =>
      rw [hc] at hq
      obtain rfl := Option.some.inj hq
      exact ⟨_, rfl, rfl⟩
  refine ⟨fun i j p q hp hq hpq => ?_, fun k q hq => ?_⟩
  · obtain ⟨p2, h1, h2⟩ := key i p hp
    obtain ⟨q2, h3, h4⟩ := key j q hq
    exact hD.1 i j p2 q2 h1 h3 (by rw [h2, h4]; exact hpq)
  · obtain ⟨q2, h1, h2⟩ := key k q hq
    rw [← h2]
    exact hD.2 k q2 h1
theorem hs_fit {d L f lo : Nat} (hL : L ≤ 40) (h1 : d + 9 ≤ f) (h2 : 60 * d + 460 ≤ lo) : d + 8 + 1 ≤ f ∧ 8 + (L + 11) + (60 * d + 400) ≤ lo := by omega
section HSC
variable {p : Program} {l : Launch} {e : Env} {R : Room} {s : State} {m : MethodId} {args : Array Value} {below : List Frame} {meth : Method} {c : Code} {cells slots : Nat} {Qe : State → Prop}
variable {ad : Nat → Nat → Nat} {adV : Nat → Nat} {ok : Nat → Nat → Prop} {D : va_G} {tc : Nat → ClassId} {E : List (Nat × Nat)} {A : Nat → Prop} {cc : ByteArray} {own : String} {S : hs_S} {ms : Nat → hs_M}
variable {K : hs_K} {C : hs_C} {pc len k t nL : Nat} {al st : List hs_V} {h : hs_H} {ls : Array Slot} {H : Heap} {locs : List Loc}
theorem hs_A_in (hA : ∀ q, s.heap.size ≤ q → A q) (hW : hs_Wd D tc ad E A s h H locs) : ∀ q, va_A (hs_ws tc ad E h) H.size q → A q := by
  intro q hq
  rcases hq with ⟨k, e, hk⟩ | hq
  · exact hW.2.1.2 k (q, e) hk
  · exact hA q (Nat.le_trans hW.2.2.1 hq)
/-- behind a call -/
theorem hs_o_back {rk : Nat} {r : List hs_V} {st0 : List Value} {a : Array Value} (kk : hs_KS p l e R s m args below meth c cells slots Qe nL ad ok (hs_Wd D tc ad E A s) K) (h0 : hs_St nL ad ok (hs_Wd D tc ad E A s) al r h ls H locs) (hA : ∀ q, s.heap.size ≤ q → A q)
    (hrun : va_Run p l e R s m args below meth c H locs cells slots 0 0 (F0 m pc ls st0) (r.map (hs_cv ad)) (hs_Post D tc ad E rk (fun v h' => K (pc + 3) al (hs_opt v r) h') (va_A (hs_ws tc ad E h) H.size) a) (va_A (hs_ws tc ad E h) H.size)) :
    W p l e R s m args below meth c H locs cells slots Qe (F0 m pc ls st0) := by
  have hF := hs_A_in hA h0.2.2.2
  have hD := h0.2.2.2.2.1
  match rk, hrun with
  | 0, hrun =>
    exact va_callv (A0 := A) (a := a) hrun h0.2.2.2.2.2 (fun q _ hq => hF q hq) hF fun u t H1 locs1 ht _ hw hB _ _ hS => kk _ _ _ _ _ _ _ hw ⟨h0.1, h0.2.1, h0.2.2.1, by rw [← ht]; exact hB.1, hs_D_any hD, hS⟩
  | 3, hrun =>
    exact va_calll (A0 := A) (a := a) hrun h0.2.2.2.2.2 (fun q _ hq => hF q hq) hF fun v u t H1 locs1 ht _ hw hB _ _ hS => kk (pc + 3) al (hs_l v :: r) u _ _ _ hw ⟨h0.1, h0.2.1, (h0.top (v := hs_l v) trivial rfl).2.2.1, by rw [← ht]; exact hB.1, hs_D_any hD, hS⟩
  | 1, hrun =>
    exact va_calli (A0 := A) (a := a) hrun h0.2.2.2.2.2 (fun q _ hq => hF q hq) hF fun v u t H1 locs1 ht _ hw hB _ _ hS => kk (pc + 3) al (hs_i v :: r) u _ _ _ hw ⟨h0.1, h0.2.1, (h0.top (v := hs_i v) trivial rfl).2.2.1, by rw [← ht]; exact hB.1, hs_D_any hD, hS⟩
  | 2, hrun =>
    exact va_calli (A0 := A) (a := a) hrun h0.2.2.2.2.2 (fun q _ hq => hF q hq) hF fun v u t H1 locs1 ht _ hw hB _ _ hS => kk (pc + 3) al (hs_i v :: r) u _ _ _ hw ⟨h0.1, h0.2.1, (h0.top (v := hs_i v) trivial rfl).2.2.1, by rw [← ht]; exact hB.1, hs_D_any hD, hS⟩
  | rk + 4, hrun =>
    exact va_calli (A0 := A) (a := a) hrun h0.2.2.2.2.2 (fun q _ hq => hF q hq) hF fun v u t H1 locs1 ht _ hw hB _ _ hS => kk (pc + 3) al (hs_i v :: r) u _ _ _ hw ⟨h0.1, h0.2.1, (h0.top (v := hs_i v) trivial rfl).2.2.1, by rw [← ht]; exact hB.1, hs_D_any hD, hS⟩
theorem hs_nos_in (hok0 : ∀ c i, ok c i → c < 65 → hs_ok0 E c i) {v : hs_V} (hv : hs_In ok v) (hn : hs_nos v = true) : hs_In (hs_ok0 E) v := by
  match v, hv, hn with
  | .inl _, _, _ => exact trivial
  | .inr (.inl _), _, _ => exact trivial
  | .inr (.inr (.inr _)), _, _ => exact trivial
  | .inr (.inr (.inl (c, i))), hv, hn => exact hok0 c i hv (Nat.le_of_ble_eq_true hn)
/-- what a callee finds -/
theorem hs_pre_at (hX : hs_X ad adV A s s.heap) (hA : ∀ q, s.heap.size ≤ q → A q) (hK : va_K D vwCl (hs_tys tc) s) (hW : hs_Wd D tc ad E A s h H locs) (a : List hs_V) : ∀ U : State, U.heap = H → s.WarmedH U.vm → hs_Pre D tc ad adV E H.size a h (a.map (hs_cv ad)).toArray U := by
  intro U hU hwarm
  refine ⟨rfl, by rw [hU], by rw [hU]; exact hW.1, va_K.moved hwarm.alike hK, hW.2.1.weaken (fun _ _ _ _ => trivial), ?_⟩
  rw [hU]
  exact hX.to hwarm (fun q h1 h2 => hW.2.2.2.1 q h1 h2) (hs_A_in hA hW)
theorem hs_o_inv {index : Nat} {y n nest a1 b1 a2 b2 a3 b3 a4 b4 : Nat} {d : Nat} (hcon : hs_Con ms l D tc ad adV E C (hs_rm d)) (hok0 : ∀ c i, ok c i → c < 65 → hs_ok0 E c i) (hR : d + 9 ≤ R.frames ∧ 60 * d + 460 ≤ R.locals) (hcs : cells ≤ R.cells ∧ slots ≤ R.slots)
    (kk : hs_KS p l e R s m args below meth c cells slots Qe nL ad ok (hs_Wd D tc ad E A s) K) (w : hs_inv C K [y, n, nest, a1, b1, a2, b2, a3, b3, a4, b4] pc al st h) (h0 : hs_St nL ad ok (hs_Wd D tc ad E A s) al st h ls H locs) (hA : ∀ q, s.heap.size ≤ q → A q) (hX : hs_X ad adV A s s.heap)
    (hexec : p.tables.exec = Jvm.exec) (hb : c.code = cc) (hml : c.maxLocals = al.length) (hts : ∀ w ∈ hs_T, w.before args s = true) (hown : s.vm.findClass own = some m.cls) (hK : va_K D vwCl (hs_tys tc) s) (hdg : decode cc pc = .ok (.invokestatic index, 3))
    (hd : (ms y).1.cls ≠ "java/lang/invoke/MethodHandle" ∧ (ms y).1.cls ≠ "java/lang/invoke/VarHandle" ∧ (parseMethodDescriptor (ms y).1.desc).map (fun d => d.parameters.length) = some n) (hL : (ms y).2.2.1 ≤ 40)
    (hl : Cond.methodLink own index (ms y).1 ∈ hs_T ∨ Cond.methodLinkNest own index (ms y).1 "HuntedScent" ∈ hs_N) (hst : Cond.static (ms y).1 ∈ hs_T) (hini : Cond.initialized (ms y).1.cls ∈ hs_T) (hcode : Cond.code (ms y).1 (ms y).2.1 (ms y).2.2.1 (ms y).2.2.2.1 ∈ hs_T) :
    W p l e R s m args below meth c H locs cells slots Qe (F0 m pc ls (st.map (hs_cv ad))) := by
  have w : (bif Nat.ble n st.length && Nat.ble (hs_cat (st.drop n)) 8 && (st.take n).all hs_nos then C y (st.take n).reverse h (fun v h' => K (pc + 3) al (hs_opt v (st.drop n)) h') else False) := w
  cases hc : (Nat.ble n st.length && Nat.ble (hs_cat (st.drop n)) 8 && (st.take n).all hs_nos) with
  | false => rw [hc] at w; exact w.elim
  | true =>
    rw [hc] at w
    rw [Bool.and_eq_true, Bool.and_eq_true] at hc
    obtain ⟨⟨hc0, hc1⟩, hc2⟩ := hc
    have hn : n ≤ st.length := Nat.le_of_ble_eq_true hc0
    have w : C y (st.take n).reverse h (fun v h' => K (pc + 3) al (hs_opt v (st.drop n)) h') := w
    have hmem : ∀ v ∈ st.drop n, v ∈ st := fun v hv => List.mem_of_mem_drop hv
    have hr0 : hs_St nL ad ok (hs_Wd D tc ad E A s) al (st.drop n) h ls H locs := ⟨h0.1, h0.2.1, fun v hv => h0.2.2.1 v (hmem v hv), h0.2.2.2⟩
    have harg : ∀ v ∈ (st.take n).reverse, hs_In (hs_ok0 E) v ∧ hs_real v = true := by
      intro v hv
      have hv1 : v ∈ st.take n := List.mem_reverse.mp hv
      have hv2 := h0.2.2.1 v (List.mem_of_mem_take hv1)
      exact ⟨hs_nos_in hok0 hv2.1 (List.all_eq_true.mp hc2 v hv1), hv2.2⟩
    have hmet := hcon y _ h _ w harg H.size
    have hcat : ((((st.drop n).map (hs_cv ad))).map fun v => v.category).sum ≤ 8 := by
      rw [hs_cat_cv ad _ (fun v hv => (h0.2.2.1 v (hmem v hv)).2)]
      exact Nat.le_of_ble_eq_true hc1
    refine hs_o_back (rk := (ms y).2.2.2.2.1) kk hr0 hA ?_ (a := ((st.take n).reverse.map (hs_cv ad)).toArray)
    have hstack : (F0 m pc ls (st.map (hs_cv ad))).stack = ((st.take n).reverse.map (hs_cv ad)).reverse ++ (st.drop n).map (hs_cv ad) := by
      show st.map (hs_cv ad) = _
      rw [← List.map_reverse, List.reverse_reverse, ← List.map_append, List.take_append_drop]
    have hlen : ((st.take n).reverse.map (hs_cv ad)).length = n := by simp [hn]
    have hfit : (hs_rm d).frames + 1 ≤ R.frames ∧ 8 + ((ms y).2.2.1 + 11) + (hs_rm d).locals ≤ R.locals := by
      exact hs_fit hL hR.1 hR.2
    have hps : PreS s H (hs_Pre D tc ad adV E H.size (st.take n).reverse h) ((st.take n).reverse.map (hs_cv ad)) := ⟨hs_blind, hs_pre_at hX hA hK h0.2.2.2 _⟩
    rcases hl with hl | hl
    · exact va_runS (Ts := hs_T) ⟨hexec, hb, hml, hown, hts⟩ hmet ⟨callB_of n hts (hs_good hcode) rfl rfl rfl (hts _ hini) (hts _ hl) hd hfit, hts _ hst⟩ hps rfl hlen h0.1.1 hstack (lv_room hcat) hdg hcs
    · exact va_runSN (Ts := hs_T) ⟨hexec, hb, hml, hown, hts⟩ hmet ⟨va_cnB n hts (hs_good hcode) rfl rfl rfl (hX.2.2.2.2 _ hl) (hts _ hini) hd hfit, hts _ hst, trivial⟩ hps rfl hlen h0.1.1 hstack (lv_room hcat) hdg hcs
theorem hs_o_invV {index : Nat} {y n rc nest a1 b1 a2 b2 a3 b3 a4 b4 a5 b5 : Nat} {d : Nat} (hO : hs_okE E ok) (hcon : hs_Con ms l D tc ad adV E C (hs_rm d)) (hok0 : ∀ c i, ok c i → c < 65 → hs_ok0 E c i) (hR : d + 9 ≤ R.frames ∧ 60 * d + 460 ≤ R.locals) (hcs : cells ≤ R.cells ∧ slots ≤ R.slots)
    (kk : hs_KS p l e R s m args below meth c cells slots Qe nL ad ok (hs_Wd D tc ad E A s) K) (w : hs_invV C K [y, n, rc, nest, a1, b1, a2, b2, a3, b3, a4, b4, a5, b5] pc al st h) (h0 : hs_St nL ad ok (hs_Wd D tc ad E A s) al st h ls H locs) (hA : ∀ q, s.heap.size ≤ q → A q) (hX : hs_X ad adV A s s.heap)
    (hexec : p.tables.exec = Jvm.exec) (hb : c.code = cc) (hml : c.maxLocals = al.length) (hts : ∀ w ∈ hs_T, w.before args s = true) (hown : s.vm.findClass own = some m.cls) (hK : va_K D vwCl (hs_tys tc) s) (hdg : decode cc pc = .ok (.invokevirtual index, 3))
    (hd : (ms y).1.cls ≠ "java/lang/invoke/MethodHandle" ∧ (ms y).1.cls ≠ "java/lang/invoke/VarHandle" ∧ (parseMethodDescriptor (ms y).1.desc).map (fun d => d.parameters.length) = some n) (hL : (ms y).2.2.1 ≤ 40)
    (hl : Cond.methodLink own index (ms y).1 ∈ hs_T ∨ Cond.methodLinkNest own index (ms y).1 "HuntedScent" ∈ hs_N) (hst : Cond.instanceMethod (ms y).1 ∈ hs_T) (hini : Cond.initialized (ms y).1.cls ∈ hs_T) (hcode : Cond.code (ms y).1 (ms y).2.1 (ms y).2.2.1 (ms y).2.2.2.1 ∈ hs_T) (hsel : Cond.selects (ms y).1.cls (ms y).1 (ms y).1 ∈ hs_T)
    (hrc : (rc = 64 ∧ (ms y).1.cls = "java/lang/String") ∨ ∃ q, vwCl[rc]? = some q ∧ q.1 = (ms y).1.cls ∧ hs_sort rc = 0) :
    W p l e R s m args below meth c H locs cells slots Qe (F0 m pc ls (st.map (hs_cv ad))) := by
  match hdr : st.drop n, w with
  | .inr (.inr (.inl (c0, i))) :: r, w =>
    have w1 : (bif Nat.beq c0 rc && Nat.ble (hs_cat r) 8 && (st.take n).all hs_nos then C y (hs_r c0 i :: (st.take n).reverse) h (fun v h' => K (pc + 3) al (hs_opt v r) h') else False) := by
      have w2 : (match st.drop n with
        | .inr (.inr (.inl (c, i))) :: r => bif Nat.beq c rc && Nat.ble (hs_cat r) 8 && (st.take n).all hs_nos then C y (hs_r c i :: (st.take n).reverse) h (fun v h' => K (pc + 3) al (hs_opt v r) h') else False
        | _ => False) := w
      rw [hdr] at w2
      exact w2
    clear w
    cases hc : (Nat.beq c0 rc && Nat.ble (hs_cat r) 8 && (st.take n).all hs_nos) with
    | false => rw [hc] at w1; exact w1.elim
    | true =>
      rw [hc] at w1
      rw [Bool.and_eq_true, Bool.and_eq_true] at hc
      obtain ⟨⟨hc0, hc1⟩, hc2⟩ := hc
      obtain rfl := Nat.eq_of_beq_eq_true hc0
      have w : C y (hs_r c0 i :: (st.take n).reverse) h (fun v h' => K (pc + 3) al (hs_opt v r) h') := w1
      have hst2 : st = st.take n ++ hs_r c0 i :: r := by rw [← hdr, List.take_append_drop]
      have hn : (st.take n).length = n := by
        have h1 : 0 < (st.drop n).length := by rw [hdr]; exact Nat.succ_pos _
        rw [List.length_drop] at h1
        rw [List.length_take]
        omega
      have hmem : ∀ v ∈ hs_r c0 i :: r, v ∈ st := fun v hv => by rw [hst2]; exact List.mem_append_right _ hv
      have hb0 : ok c0 i := (h0.2.2.1 _ (hmem _ List.mem_cons_self)).1
      have hr0 : hs_St nL ad ok (hs_Wd D tc ad E A s) al r h ls H locs := ⟨h0.1, h0.2.1, fun v hv => h0.2.2.1 v (hmem v (List.mem_cons_of_mem _ hv)), h0.2.2.2⟩
      have hc65 : c0 < 65 := by
        rcases hrc with ⟨h1, -⟩ | ⟨q, -, -, hs⟩
        · omega
        · have := hs_sort_lt hs (by omega); omega
      have harg : ∀ v ∈ hs_r c0 i :: (st.take n).reverse, hs_In (hs_ok0 E) v ∧ hs_real v = true := by
        intro v hv
        rcases List.mem_cons.mp hv with rfl | hv
        · exact ⟨hok0 c0 i hb0 hc65, rfl⟩
        · have hv1 : v ∈ st.take n := List.mem_reverse.mp hv
          have hv2 := h0.2.2.1 v (List.mem_of_mem_take hv1)
          exact ⟨hs_nos_in hok0 hv2.1 (List.all_eq_true.mp hc2 v hv1), hv2.2⟩
      have hmet := hcon y _ h _ w harg H.size
      have hcat : ((r.map (hs_cv ad)).map fun v => v.category).sum ≤ 8 := by
        rw [hs_cat_cv ad _ (fun v hv => (h0.2.2.1 v (hmem v (List.mem_cons_of_mem _ hv))).2)]
        exact Nat.le_of_ble_eq_true hc1
      refine hs_o_back (rk := (ms y).2.2.2.2.1) kk hr0 hA ?_ (a := (Value.ref (ad c0 i) :: (st.take n).reverse.map (hs_cv ad)).toArray)
      have hstack : (F0 m pc ls (st.map (hs_cv ad))).stack = ((st.take n).reverse.map (hs_cv ad)).reverse ++ Value.ref (ad c0 i) :: r.map (hs_cv ad) := by
        show st.map (hs_cv ad) = _
        rw [← List.map_reverse, List.reverse_reverse]
        conv => lhs; rw [hst2]
        rw [List.map_append]
        rfl
      have hlen : ((st.take n).reverse.map (hs_cv ad)).length = n := by rw [List.length_map, List.length_reverse]; exact hn
      have hfit : (hs_rm d).frames + 1 ≤ R.frames ∧ 8 + ((ms y).2.2.1 + 11) + (hs_rm d).locals ≤ R.locals := by
        exact hs_fit hL hR.1 hR.2
      have hrecv : ∃ cellB : Cell, H[ad c0 i]? = some cellB ∧ cellB.vm.isStatics = false ∧ s.vm.findClass (ms y).1.cls = some cellB.cls := by
        rcases hrc with ⟨rfl, hcl⟩ | ⟨q, hq, hcl, hs⟩
        · rw [hcl]
          have hi7 : i < 7 := by
            rcases hok0 64 i hb0 (by omega) with h1 | h1
            · have h3 := List.all_eq_true.mp hO.2.2.2.1 _ h1
              exact absurd h3 (by show ¬ (false = true); exact Bool.false_ne_true)
            · exact h1.2
          exact vk_recv hX.1 hi7 h0.2.2.2.2.2
        · rw [← hcl]
          obtain ⟨q0, hq0, hat⟩ := hs_at (tc := tc) (ad := ad) hO hb0 hs (by omega) h
          rw [hs_ent_obj hs] at hat
          exact va_recv hK h0.2.2.2.1 hq hat
      have hps : PreV s H (ms y).1.cls (ad c0 i) (hs_Pre D tc ad adV E H.size (hs_r c0 i :: (st.take n).reverse) h) ((st.take n).reverse.map (hs_cv ad)) := ⟨hs_blind, hrecv, hs_pre_at hX hA hK h0.2.2.2 (hs_r c0 i :: (st.take n).reverse)⟩
      rcases hl with hl | hl
      · exact va_runV (Ts := hs_T) (C := (ms y).1.cls) ⟨hexec, hb, hml, hown, hts⟩ hmet ⟨callB_of n hts (hs_good hcode) rfl rfl rfl (hts _ hini) (hts _ hl) hd hfit, hts _ hst, hts _ hsel⟩ hps rfl hlen h0.1.1 hstack (lv_room hcat) hdg hcs
      · exact va_runVN (Ts := hs_T) (C := (ms y).1.cls) ⟨hexec, hb, hml, hown, hts⟩ hmet ⟨va_cnB n hts (hs_good hcode) rfl rfl rfl (hX.2.2.2.2 _ hl) (hts _ hini) hd hfit, hts _ hst, hts _ hsel⟩ hps rfl hlen h0.1.1 hstack (lv_room hcat) hdg hcs
  | [], w =>
    have w2 : (match st.drop n with
        | .inr (.inr (.inl (c, i))) :: r => bif Nat.beq c rc && Nat.ble (hs_cat r) 8 && (st.take n).all hs_nos then C y (hs_r c i :: (st.take n).reverse) h (fun v h' => K (pc + 3) al (hs_opt v r) h') else False
        | _ => False) := w
    rw [hdr] at w2
    exact w2.elim
  | .inl _ :: _, w =>
    have w2 : (match st.drop n with
        | .inr (.inr (.inl (c, i))) :: r => bif Nat.beq c rc && Nat.ble (hs_cat r) 8 && (st.take n).all hs_nos then C y (hs_r c i :: (st.take n).reverse) h (fun v h' => K (pc + 3) al (hs_opt v r) h') else False
        | _ => False) := w
    rw [hdr] at w2
    exact w2.elim
  | .inr (.inl _) :: _, w =>
    have w2 : (match st.drop n with
        | .inr (.inr (.inl (c, i))) :: r => bif Nat.beq c rc && Nat.ble (hs_cat r) 8 && (st.take n).all hs_nos then C y (hs_r c i :: (st.take n).reverse) h (fun v h' => K (pc + 3) al (hs_opt v r) h') else False
        | _ => False) := w
    rw [hdr] at w2
    exact w2.elim
  | .inr (.inr (.inr _)) :: _, w =>
    have w2 : (match st.drop n with
        | .inr (.inr (.inl (c, i))) :: r => bif Nat.beq c rc && Nat.ble (hs_cat r) 8 && (st.take n).all hs_nos then C y (hs_r c i :: (st.take n).reverse) h (fun v h' => K (pc + 3) al (hs_opt v r) h') else False
        | _ => False) := w
    rw [hdr] at w2
    exact w2.elim
end HSC
