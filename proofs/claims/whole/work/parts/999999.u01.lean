/-! The law comes to its end; the claim. (What follows whole_start is the kit's starting text.) -/
/-! new int[n][k]: the outer array and the inner ones behind it. -/
theorem mn_outer (c : ClassId) (N h0 : Nat) : ∀ i : Nat, Jvm.Free.Multi.outerC c N h0 i = arrV c N (fun j => va_rf (if j < i then some (h0 + 1 + j) else none))
  | 0 => by
    show ({ cls := c, slots := Array.replicate N .null, vm := .none } : Cell) = _
    rw [arrV_new]
    refine congrArg (arrV c N) (funext fun j => ?_)
    simp [va_rf]
  | i + 1 => by
    show (Jvm.Free.Multi.outerC c N h0 i).setSlot i (.ref (h0 + 1 + i)) = _
    rw [mn_outer c N h0 i, arrV_store]
    refine congrArg (arrV c N) (funext fun j => ?_)
    by_cases e : j = i
    · subst e
      simp [updV, va_rf]
    · by_cases h : j < i
      · simp [updV, e, h, Nat.lt_succ_of_lt h]
      · simp [updV, e, h, show ¬ j < i + 1 by omega]
/-- the inner cells -/
def mn_in (N h0 : Nat) (e : va_E) : va_W := (List.range N).map (fun i => (h0 + 1 + i, e))
theorem mn_in_get {N h0 k : Nat} {e : va_E} {x : Nat × va_E} (h : (mn_in N h0 e)[k]? = some x) : k < N ∧ x = (h0 + 1 + k, e) := by
  unfold mn_in at h
  rw [List.getElem?_map] at h
  by_cases h9 : k < N
  · rw [List.getElem?_range h9] at h
    exact ⟨h9, (Option.some.inj h).symm⟩
  · rw [List.getElem?_eq_none (by rw [List.length_range]; omega)] at h
    cases h
theorem mn_D {A : Nat → Prop} {W : va_W} {N h0 : Nat} {e : va_E} (hD : va_D A W) (hle : ∀ (k : Nat) (x : Nat × va_E), W[k]? = some x → x.1 ≤ h0) (hA : ∀ q, h0 ≤ q → A q) : va_D A (W ++ mn_in N h0 e) := by
  refine ⟨fun i j x y hi hj hxy => ?_, fun k x hx => ?_⟩
  · by_cases h1 : i < W.length <;> by_cases h2 : j < W.length
    · rw [List.getElem?_append_left h1] at hi
      rw [List.getElem?_append_left h2] at hj
      exact hD.1 i j x y hi hj hxy
    · rw [List.getElem?_append_left h1] at hi
      rw [List.getElem?_append_right (by omega)] at hj
      have h3 := hle _ _ hi
      obtain ⟨-, rfl⟩ := mn_in_get hj
      have h4 : x.1 = h0 + 1 + (j - W.length) := hxy
      omega
    · rw [List.getElem?_append_right (by omega)] at hi
      rw [List.getElem?_append_left h2] at hj
      have h3 := hle _ _ hj
      obtain ⟨-, rfl⟩ := mn_in_get hi
      have h4 : h0 + 1 + (i - W.length) = y.1 := hxy
      omega
    · rw [List.getElem?_append_right (by omega)] at hi hj
      obtain ⟨-, rfl⟩ := mn_in_get hi
      obtain ⟨-, rfl⟩ := mn_in_get hj
      have h4 : h0 + 1 + (i - W.length) = h0 + 1 + (j - W.length) := hxy
      omega
  · by_cases h1 : k < W.length
    · rw [List.getElem?_append_left h1] at hx
      exact hD.2 k x hx
    · rw [List.getElem?_append_right (by omega)] at hx
      obtain ⟨-, rfl⟩ := mn_in_get hx
      exact hA _ (by show h0 ≤ h0 + 1 + _; omega)
section MN
variable {p : Program} {l : Launch} {e : Env} {R : Room} {s : State} {m : MethodId} {args : Array Value} {below : List Frame} {meth : Method} {c : Code} {H : Heap} {locs : List Loc} {cells slots : Nat} {Q : State → Prop}
variable {cc : ByteArray} {pc : Nat} {ls : Array Slot} {rest : List Value} {D : va_G} {cl : List vw_C} {A : Nat → Prop} {tys : List (ClassId × FieldType)} {ws : va_W} {H0 : Heap}
theorem mn_W (hexec : p.tables.exec = Jvm.exec) (hb : c.code = cc) {own : String} {index : Nat} {ty : FieldType} {cy : ClassId} (hown : s.vm.findClass own = some m.cls) (hclink : (Cond.classLink own index ("[" ++ (FieldType.array ty).toString)).before args s = true) (hover : va_AOA ty s) (harr : (Cond.arrayClass ty).before args s = true) (hcy : s.vm.findClass (FieldType.array ty).toString = some cy)
    (hK : va_K D cl tys s) (hP : va_P D cl ws H) (hD : va_D A ws) (hS : va_S A H0 H locs) (hA : ∀ q, H0.size ≤ q → A q) {n k : Int32} {z : vp_A} (hn : ¬ n < 0) (hk : ¬ k < 0)
    (hb1 : n.toNatClampNeg * 4 ≤ 536870912) (hb2 : k.toNatClampNeg * componentBytes ty ≤ 536870912) (hb3 : k.toNatClampNeg ≤ 536870912) (hdf : fits ty (defaultValue ty) = true) (hdd : (defaultValue ty).isDefault = true) (hcells : cells + (1 + n.toNatClampNeg) ≤ R.cells) (hslots : slots + (n.toNatClampNeg + n.toNatClampNeg * k.toNatClampNeg) ≤ R.slots) (hz : ∀ c : ClassId, Jvm.Free.Multi.innerC c k.toNatClampNeg (defaultValue ty) = vp_cell c z) (hdg : decode cc pc = .ok (.multianewarray index 2, 4))
    (kk : ∀ (cA : ClassId) (H1 : Heap), va_K D cl (tys ++ [(cA, .array ty)]) s →
      va_P D cl ((ws ++ [(H.size, .inl (cA, n.toNatClampNeg, .inr (.inr (.inr (.inr (fun i => if i < n.toNatClampNeg then some (H.size + 1 + i) else none))))))]) ++ mn_in n.toNatClampNeg H.size (.inl (cy, z))) H1 → va_D A ((ws ++ [(H.size, .inl (cA, n.toNatClampNeg, .inr (.inr (.inr (.inr (fun i => if i < n.toNatClampNeg then some (H.size + 1 + i) else none))))))]) ++ mn_in n.toNatClampNeg H.size (.inl (cy, z))) → va_S A H0 H1 locs →
      W p l e R s m args below meth c H1 locs (cells + (1 + n.toNatClampNeg)) (slots + (n.toNatClampNeg + n.toNatClampNeg * k.toNatClampNeg)) Q (F0 m (pc + 4) ls (.ref H.size :: rest))) : W p l e R s m args below meth c H locs cells slots Q (F0 m pc ls (.int k :: .int n :: rest)) := by
  rw [← Nat.add_assoc, ← Nat.add_assoc] at kk
  intro T hT Xs
  obtain ⟨vm₁, cA, comp, -, fA, fC, hO, -, X', step⟩ := Xs.multianewarray2F hexec hown hclink (va_AOA.use hover) harr (g := F0 m pc ls (.int k :: .int n :: rest)) rfl (by rw [hb]; exact hdg) rfl hn hk hb1 hb2 hb3 hdf hdd hcells hslots
  have ec : some cy = some comp := hcy.symm.trans fC
  cases ec
  generalize hF : Jvm.Free.Multi.fill (T.setVm vm₁) cA cy n.toNatClampNeg k.toNatClampNeg (defaultValue ty) n.toNatClampNeg = F at X' step
  have hTh : (T.setVm vm₁).heap = H := hT
  obtain ⟨f1, f2, -, -⟩ := Jvm.Free.Multi.fill_facts (T.setVm vm₁) cA cy n.toNatClampNeg k.toNatClampNeg (defaultValue ty) n.toNatClampNeg
  rw [hF, hTh] at f1 f2
  have hold : ∀ x : Nat, x < H.size → F.heap[x]? = H[x]? := fun x hx => by
    have := Jvm.Free.Multi.fill_old (T.setVm vm₁) cA cy n.toNatClampNeg k.toNatClampNeg (defaultValue ty) (a := x) (by rw [hTh]; exact hx) n.toNatClampNeg
    rw [hF, hTh] at this
    exact this
  have hrow : ∀ j : Nat, j < n.toNatClampNeg → F.heap[H.size + 1 + j]? = some (vp_cell cy z) := fun j hj => by
    have := Jvm.Free.Multi.fill_inner (T.setVm vm₁) cA cy n.toNatClampNeg k.toNatClampNeg (defaultValue ty) n.toNatClampNeg j hj
    rw [hF, hTh, hz] at this
    exact this
  have hout : Jvm.Free.Multi.outerC cA n.toNatClampNeg H.size n.toNatClampNeg = vp_cell cA (n.toNatClampNeg, .inr (.inr (.inr (.inr (fun i => if i < n.toNatClampNeg then some (H.size + 1 + i) else none))))) := by
    rw [vp_cell_q]
    exact mn_outer cA n.toNatClampNeg H.size n.toNatClampNeg
  rw [hout] at f2
  have hP0 : va_P D cl ws F.heap := hP.kept (fun k9 x hx => hold x.1 ((hP k9 x hx).lt))
  have hP1 : va_P D cl (ws ++ [(H.size, .inl (cA, n.toNatClampNeg, .inr (.inr (.inr (.inr (fun i => if i < n.toNatClampNeg then some (H.size + 1 + i) else none))))))]) F.heap := hP0.app (fun k9 x hx => by
    have h0 : k9 < 1 := (List.getElem?_eq_some_iff.mp hx).1
    rw [show k9 = 0 by omega] at hx
    cases hx
    exact f2)
  have hP2 := hP1.app (w2 := mn_in n.toNatClampNeg H.size (.inl (cy, z))) (fun k9 x hx => by
    obtain ⟨hi, rfl⟩ := mn_in_get hx
    exact hrow k9 hi)
  have hD1 := hD.push (e := .inl (cA, n.toNatClampNeg, .inr (.inr (.inr (.inr (fun i => if i < n.toNatClampNeg then some (H.size + 1 + i) else none)))))) hP rfl (hA _ hS.1)
  have hD2 := mn_D (N := n.toNatClampNeg) (h0 := H.size) (e := .inl (cy, z)) hD1 (fun k9 x hx => by
    by_cases hl : k9 < ws.length
    · rw [List.getElem?_append_left hl] at hx
      exact Nat.le_of_lt ((hP k9 x hx).lt)
    · rw [List.getElem?_append_right (by omega)] at hx
      have h0 : k9 - ws.length < 1 := (List.getElem?_eq_some_iff.mp hx).1
      rw [show k9 - ws.length = 0 by omega] at hx
      cases hx
      exact Nat.le_refl _) (fun q hq => hA q (Nat.le_trans hS.1 hq))
  have hAr : ArrOfT s cA (.array ty) := fun N9 z9 => by
    obtain ⟨-, k9, hk9, cm9, hkk9⟩ := (hO 0 0 0).1
    exact ⟨(fun q hq => by cases hq), k9, hk9, cm9, hkk9⟩
  have hK2 : va_K D cl (tys ++ [(cA, .array ty)]) s := ⟨hK.1, fun k9 x hx => by
    by_cases hl : k9 < tys.length
    · rw [List.getElem?_append_left hl] at hx
      exact hK.2 k9 x hx
    · rw [List.getElem?_append_right (by omega)] at hx
      have h0 : k9 - tys.length < 1 := (List.getElem?_eq_some_iff.mp hx).1
      rw [show k9 - tys.length = 0 by omega] at hx
      cases hx
      exact ⟨hAr, fA⟩⟩
  obtain ⟨t, a1, b1⟩ := kk cA F.heap hK2 hP2 hD2 ⟨by rw [f1]; have := hS.1; omega, fun x h1 h2 => (hold x (Nat.lt_of_lt_of_le h1 hS.1)).trans (hS.2.1 x h1 h2), hS.2.2⟩ F rfl X'
  refine ⟨t, step t ?_, b1⟩
  have e : T.heap.size = H.size := by rw [hT]
  rw [e]
  exact a1
end MN
theorem mn_zip {α : Type} {tc : Nat → ClassId} {ad : List Nat} {r : Nat → Nat} {e : b2_E} (l : List α) (g : α → Nat) : List.zipWith (fun a e => (a, b2_ce tc ad e)) (l.map g) (l.map (fun _ => e)) = l.map (fun i => (g i, b2_ce tc ad e)) := by
  induction l with
  | nil => rfl
  | cons a l ih => show _ :: _ = _ :: _; rw [ih]
theorem b2_mna : b2_Mna := by
  intro p l e R s m args below meth c Qe D tc A cc own nm ms C nL d adr al w ls H locs pc cells slots index n k r F h0 hn hk hl1 hl2 hwf hb1 hb2 hcells hslots hdg kk
  obtain ⟨⟨hcon, hR, hA, hY⟩, hx, hb, hml, hts, hown, hK, hin, hcl⟩ := F
  have h3 := h0.2.2
  have h1 := h0.1
  have hcy : s.vm.findClass (FieldType.array .int).toString = some (tc 0) := (hK.2 0 (tc 0, .int) rfl).2
  refine mn_W (ty := .int) (cy := tc 0) (z := (k.toNatClampNeg, .inl (fun _ => 0))) hx hb hown (hts _ hl1) hY.2.2.2 (hts _ hl2) hcy hK h3.2.2.2.1 h3.2.2.2.2.1 h3.2.2.2.2.2 hA hn hk hb1 hb2 (by omega) rfl rfl hcells hslots (fun c => ?_) hdg (fun cA H1 hK2 hP hD hS => ?_)
  · rw [vp_cell_i]
    show ({ cls := c, slots := Array.replicate k.toNatClampNeg (.int 0), vm := .none } : Cell) = _
    rw [arrV_new]
  · obtain rfl := b2_tc_eq hK (t := 5) rfl hK2 rfl
    generalize hN : n.toNatClampNeg = N at *
    generalize hM : k.toNatClampNeg = M at *
    rw [List.append_assoc, List.singleton_append] at hP hD hwf kk
    generalize ho : (.inr (5, N, .inr (.inr ((List.range N).map (fun j => some (w.length + 1 + j))))) : b2_E) = o at hwf kk
    generalize hi : (.inr (0, M, .inl (fun _ => 0)) : b2_E) = inn at hwf kk
    have hws := b2_ws_app (tc := tc) (ad2 := H.size :: (List.range N).map (fun i => H.size + 1 + i)) (w2 := o :: (List.range N).map (fun _ => inn)) h1 h0.2.1
    have hf : (fun j => (((List.range N).map (fun j => some (w.length + 1 + j))).getD j none).map (fun k => (adr ++ H.size :: (List.range N).map (fun i => H.size + 1 + i)).getD k 0)) = (fun i => if i < N then some (H.size + 1 + i) else none) := by
      funext j
      by_cases hj : j < N
      · rw [if_pos hj, List.getD_eq_getElem?_getD, List.getElem?_map, List.getElem?_range hj]
        show some ((adr ++ H.size :: (List.range N).map (fun i => H.size + 1 + i)).getD (w.length + 1 + j) 0) = _
        rw [List.getD_eq_getElem?_getD, List.getElem?_append_right (by omega), show w.length + 1 + j - adr.length = j + 1 by omega, List.getElem?_cons_succ, List.getElem?_map, List.getElem?_range hj]
        rfl
      · rw [if_neg hj, List.getD_eq_getElem?_getD, List.getElem?_map, List.getElem?_eq_none (by rw [List.length_range]; omega)]
        rfl
    have hz : List.zipWith (fun a e => (a, b2_ce tc (adr ++ H.size :: (List.range N).map (fun i => H.size + 1 + i)) e)) (H.size :: (List.range N).map (fun i => H.size + 1 + i)) (o :: (List.range N).map (fun _ => inn)) = (H.size, .inl (tc 5, N, .inr (.inr (.inr (.inr (fun i => if i < N then some (H.size + 1 + i) else none)))))) :: mn_in N H.size (.inl (tc 0, M, .inl (fun _ => 0))) := by
      rw [List.zipWith_cons_cons, mn_zip (r := id)]
      rw [← hf, ← ho, ← hi]
      rfl
    rw [hz] at hws
    rw [← hws] at hP hD
    have hst := b2_grow (r := hs_r 0 w.length :: r) (w2 := o :: (List.range N).map (fun _ => inn)) (ad2 := H.size :: (List.range N).map (fun i => H.size + 1 + i)) h0 (fun v hv => (List.mem_cons.mp hv).elim (fun q => Or.inr q) (fun hv => Or.inl (List.mem_cons_of_mem _ (List.mem_cons_of_mem _ hv)))) (Nat.succ_pos _) (by rw [List.length_cons, List.length_cons, List.length_map, List.length_map]) hwf hP hD hS
    have hgo := kk _ ls H1 locs (fun i hi => b2_getD_app hi) hst
    have e1 : (hs_r 0 w.length :: r).map (hs_cv (b2_ad (adr ++ H.size :: (List.range N).map (fun i => H.size + 1 + i)))) = .ref H.size :: r.map (hs_cv (b2_ad adr)) := by
      show Value.ref ((adr ++ H.size :: (List.range N).map (fun i => H.size + 1 + i)).getD w.length 0) :: _ = _
      rw [b2_st_more (adr := adr) (n := w.length) h1.symm (fun i hi => b2_getD_app hi) (fun v hv => (h0.2.2.2.2.1 v (List.mem_cons_of_mem _ (List.mem_cons_of_mem _ hv))).1), List.getD_eq_getElem?_getD, List.getElem?_append_right (by omega), h1, Nat.sub_self]
      rfl
    rw [e1] at hgo
    exact hgo
theorem whole_start {p : Program} {e : Env} {s : State} {m : MethodId} {below : List Frame} {meth : Method} {c : Code} (l : Launch) (_ : l.flags = flags0) {b L : Nat} {xs : Nat → Int32} (hL : L ≤ 320) (C0 : lw_At p s m meth c b L xs) : W p l e room_1 s m #[Value.ref b] below meth c s.heap [] 0 0 (lw_Z below #[Value.ref b] s) (entryFrame m ([Value.ref b] : List Value).toArray 4) := by
  obtain ⟨al, mc1, ms1, mcq, msq, h0, h1, h2, hyp, p2, pE⟩ := s0_hyp
  exact lf_start hyp (lw_owed p2 pE) b2_mna l hL C0
set_option maxHeartbeats 4000000 in
theorem lw_walk (l : Launch) (hflags : l.flags = flags0) (b : Addr) (xs : List Int32) : MetFree l x (headSpec (Jvm.Cond.code x code maxLocals ret :: tables_1) room_1) (lw_P b xs) (fun _ _ _ _ _ => True) lw_Q := by
  refine MetFree.of_bodyS (code := code) (maxLocals := maxLocals) (ret := ret) (by decide) ?_ ?_
  · intro args s m h hn
    obtain ⟨meth, c, h1, h2, h3, h4, h5, h6, -, -⟩ := Cond.code_spec hn (atoms_spec (ws := Jvm.Cond.code x code maxLocals ret :: tables_1) h _ List.mem_cons_self)
    exact ⟨meth, c, h1, h2, h3, h4, h5, h6⟩
  · intro p e s m args below meth c s₁ B hml0 hP _
    obtain ⟨rfl, hx, hbd, hgv⟩ := hP
    obtain ⟨scr, harrAt, hlist, hof, hsmall⟩ := hx
    obtain ⟨hcb, hkn, -, -⟩ := State.arrayAt?_spec harrAt
    have hown : s.vm.findClass R_law = some m.cls := findClass_of_methodNamed B.named
    have hts0 : ∀ c ∈ (Jvm.Cond.code x code maxLocals ret :: tables_1), c.before #[Value.ref b] s = true := atoms_spec (ws := Jvm.Cond.code x code maxLocals ret :: tables_1) B.pre
    have hts : ∀ w ∈ lw_tbl, w.before #[Value.ref b] s = true := k2_hts_sels lw_privs (fun w hw => hts0 w (List.mem_cons_of_mem _ hw)) lw_privs_ok
    have hml : c.maxLocals = 4 := B.maxLocals_eq (hts0 _ List.mem_cons_self)
    have X₀ : Stand p l e room_1 s m #[Value.ref b] below meth c s₁ [] 0 0 := Stand.of_body B
    have hh0 : s₁.heap = s.heap := by rw [B.state]; rfl
    have hsz : scr.slots.size = xs.length := by rw [← Array.length_toList, hlist, List.length_map]
    have hval : ∀ j : Nat, j < xs.length → scr.slots[j]? = some (.int (xs.getD j 0)) := fun j hj => by
      rw [← Array.getElem?_toList, hlist]
      simp [hj]
    have hbl : b < s.heap.size := (Array.getElem?_eq_some_iff.mp hcb).1
    have hX : va_X b xs.length (fun j => xs.getD j 0) s s.heap := ⟨scr, hcb, hof, hkn, hsz, hval⟩
    have K : W p l e room_1 s m #[Value.ref b] below meth c s₁.heap [] 0 0 (lw_Z below #[Value.ref b] s) (entryFrame m ([Value.ref b] : List Value).toArray 4) := by
      rw [hh0]
      exact whole_start l hflags hbd ⟨B.exec, B.bytes, B.returns, hml, hown, hts, hX, hbl, B.notSynchronized, hgv⟩
    obtain ⟨t, a1, o, b1, b2, b3⟩ := K s₁ rfl X₀
    exact ⟨t, o, a1, b1, b2, b3⟩
theorem lw_pre_spec {args : Array Value} {s : State} (h : (Jvm.Cond.and given_1 narrow_1).before args s = true) (hr : rest_1_c.before args s = true) : ∃ (b : Addr) (xs : List Int32), lw_P b xs args s := by
  have hs := flat_of_before _ h
  have hq := flat_of_before _ hr
  have hc : (Cond.count 1).before args s = true := hs _ (by decide +kernel)
  have harr : (Cond.arrayOf (.arg 0) .int).before args s = true := hs _ (by decide +kernel)
  have hle : (Cond.le (.length (.arg 0)) (.int 320)).before args s = true := hs _ (by decide +kernel)
  have hlen : (Cond.isInt (.length (.arg 0))).before args s = true := hq _ (by decide +kernel)
  have hall : (Cond.all (.arg 0) (.isInt (.elem (.arg 0) (.index 0)))).before args s = true := hq _ (by decide +kernel)
  obtain ⟨b, xs, hb, hx⟩ := State.ints_of_pre rfl harr hlen hall
  have hsm : xs.length < 2 ^ 31 := hx.choose_spec.2.2.2
  have hev : (Term.length (.arg 0)).eval args s none [] s = some (.int xs.length.toInt32) := hx.length_eval hb
  have hv := Cond.le_ints hev (show (Term.int 320).eval args s none [] s = some (.int 320) from rfl)
  have hd : xs.length.toInt32 ≤ 320 := by
    simpa [Cond.before, Cond.holds, hv] using hle
  have hN : xs.length ≤ 320 := (Int32.ofNat_le_ofNat hsm (by decide)).mp (show Int32.ofNat xs.length ≤ Int32.ofNat 320 from hd)
  exact ⟨b, xs, Cond.one_arg hc (show args[0]? = some (.ref b) from hb), hx, hN, h⟩
theorem lw_comes (l : Launch) (hflags : l.flags = flags0) : Comes l x (Jvm.Cond.code x code maxLocals ret :: tables_1) room_1 (fun tb e args s => Calls_1 tb e args s ∧ rest_1 tb e args s ∧ Pre_1 tb e args s)
    (fun _ _ args s o t => lw_Q args s o t) := by
  intro p e ha hc hk s m args below hf hfit hheap happ hpre
  obtain ⟨b, xs, hP⟩ := lw_pre_spec hpre.2.2 hpre.2.1
  obtain ⟨k, o, h1, h2, h3, hQ⟩ := lw_walk l hflags b xs p e ha hc hk s m args below hf ((Spec.applies_iff_loose hf).mp happ).1 hP trivial
  exact ⟨k, o, h1, h2, h3, hQ⟩
theorem lw_frame {s t : State} {o : Outcome} {args : Array Value} (h : Framed s o t [] 600000 7302250) :
    Framed s o t (fieldLocs frame_1_writes args s ++ arrayLocs frame_1_arrays args s ++ staticLocs frame_1_statics s) 600000 7302250 := h
theorem lw_limb (L : Cond) (hL : ∀ (args : Array Value) (s t : State), L.after args s (.returned (some (.int 1))) t = true) :
    ArmFor flags0 classFile x code maxLocals ret World_1 tables_1 room_1 Calls_1 rest_1 Pre_1
      (fun tb e a s o t => postC L tb e a s o t ∧ Framed s o t (fieldLocs frame_1_writes a s ++ arrayLocs frame_1_arrays a s ++ staticLocs frame_1_statics s) 600000 7302250) := by
  intro l hflags _ _ p e ha hc hk s m args below hf hfit hheap happ hpre
  obtain ⟨k, o, h1, h2, h3, rfl, hF⟩ := lw_comes l hflags p e ha hc hk s m args below hf hfit hheap happ hpre
  exact ⟨k, _, h1, h2, h3, hL args s _, lw_frame hF⟩
theorem i_vc : Claimed_1_1 ∧ Claimed_1_2 := ⟨lw_limb limb_1_1 (fun args s t => by simp [limb_1_1, Cond.after, Cond.holds, Cond.value]), lw_limb limb_1_2 (fun args s t => Cond.after_iff.mpr (by
  first | (rw [show limb_1_2 = Cond.eq .result (.int 1) from rfl, Cond.eq_ints (x := 1) (y := 1) rfl rfl]; simp; done) | (simp [limb_1_2, Cond.value, Term.eval]; done)))⟩
