/-! The runs of the small machine are runs of the machine. -/
/-- how a method ends -/
def hs_end (rk : Nat) (v : Option hs_V) (ins : Instr) : Prop := match rk with
  | 0 => v = none ∧ ins = .return_
  | 1 => ∃ x, v = some (hs_i x) ∧ ins = .ireturn
  | 2 => ∃ x, (x = 0 ∨ x = 1) ∧ v = some (hs_i x) ∧ ins = .ireturn
  | 3 => ∃ x, v = some (hs_l x) ∧ ins = .lreturn
  | _ => False
section HSM
variable {p : Program} {l : Launch} {e : Env} {R : Room} {s : State} {m : MethodId} {args : Array Value} {below : List Frame} {meth : Method} {c : Code} {cells slots : Nat} {Qe : State → Prop}
variable {ad : Nat → Nat → Nat} {adV : Nat → Nat} {ok : Nat → Nat → Prop} {D : va_G} {tc : Nat → ClassId} {E : List (Nat × Nat)} {A : Nat → Prop} {cc : ByteArray} {own : String} {S : hs_S} {ms : Nat → hs_M}
variable {K : hs_K} {C : hs_C} {Q : hs_Q} {pc len k t d rk nL : Nat} {al st : List hs_V} {h : hs_H} {ls : Array Slot} {H : Heap} {locs : List Loc}
/-- all that stays the same while a frame runs -/
def hs_Fx (ms : Nat → hs_M) (p : Program) (l : Launch) (R : Room) (s : State) (m : MethodId) (args : Array Value) (c : Code) (cells slots : Nat) (ad : Nat → Nat → Nat) (adV : Nat → Nat) (ok : Nat → Nat → Prop) (D : va_G) (tc : Nat → ClassId) (E : List (Nat × Nat)) (A : Nat → Prop) (cc : ByteArray) (own : String) (S : hs_S) (C : hs_C) (d nL : Nat) : Prop :=
  (hs_okE E ok ∧ hs_Con ms l D tc ad adV E C (hs_rm d) ∧ (∀ c i, ok c i → c < 65 → hs_ok0 E c i) ∧ (d + 9 ≤ R.frames ∧ 60 * d + 460 ≤ R.locals) ∧ (cells ≤ R.cells ∧ slots ≤ R.slots) ∧ (∀ q, s.heap.size ≤ q → A q) ∧ hs_X ad adV A s s.heap) ∧
  (p.tables.exec = Jvm.exec ∧ c.code = cc ∧ c.maxLocals = nL ∧ (∀ w ∈ hs_T, w.before args s = true) ∧ s.vm.findClass own = some m.cls ∧ va_K D vwCl (hs_tys tc) s ∧ hs_Scr S ad ok A s ∧ ∀ (c : Nat) (q : vw_C), vwCl[c]? = some q → hs_Cls q)
set_option maxHeartbeats 4000000 in
theorem hs_o_step (F : hs_Fx ms p l R s m args c cells slots ad adV ok D tc E A cc own S C d nL) {ins : Instr} {x : List Nat}
    (kk : hs_KS p l e R s m args below meth c cells slots Qe nL ad ok (hs_Wd D tc ad E A s) K) (w : hs_step S C K Q rk pc al st h ins len x) (h0 : hs_St nL ad ok (hs_Wd D tc ad E A s) al st h ls H locs) (hdg : decode cc pc = .ok (ins, len)) (hr : hs_okR own ms nL pc ins len x = true)
    (hend : ∀ (v : Option hs_V), Q v h → hs_end rk v ins → st = v.toList → len = 1 → W p l e R s m args below meth c H locs cells slots Qe (F0 m pc ls (st.map (hs_cv ad)))) :
    W p l e R s m args below meth c H locs cells slots Qe (F0 m pc ls (st.map (hs_cv ad))) := by
  obtain ⟨⟨hO, hcon, hok0, hR, hcs, hA, hX⟩, hx, hb, hml, hts, hown, hK, hsc, hcl⟩ := F
  have hnl := h0.2.1.1
  subst hnl
  have hnw : ∀ w ∈ hs_N, w.before args s = true := fun w hw => hs_N_use hw (hX.2.2.2.2 w hw)
  cases ins
  case iconst n =>
    simp only [hs_okR, Bool.and_eq_true, decide_eq_true_eq] at hr
    obtain ⟨rfl, hv⟩ := hr
    exact hs_o_const (v := hs_i (nI (hs_fst x))) kk trivial rfl w h0 (lv_iconst hx hb hdg hv)
  case bipush n =>
    simp only [hs_okR, Bool.and_eq_true, decide_eq_true_eq] at hr
    obtain ⟨rfl, hv⟩ := hr
    exact hs_o_const (v := hs_i (nI (hs_fst x))) kk trivial rfl w h0 (lv_bipush hx hb hdg hv)
  case sipush n =>
    simp only [hs_okR, Bool.and_eq_true, decide_eq_true_eq] at hr
    obtain ⟨rfl, hv⟩ := hr
    exact hs_o_const (v := hs_i (nI (hs_fst x))) kk trivial rfl w h0 (lv_sipush hx hb hdg hv)
  case lconst n =>
    simp only [hs_okR, Bool.and_eq_true, decide_eq_true_eq] at hr
    obtain ⟨rfl, hv⟩ := hr
    exact hs_o_const (v := hs_l (lN (hs_fst x))) kk trivial rfl w h0 (lv_lconst hx hb hdg hv)
  case iload n =>
    simp only [hs_okR, decide_eq_true_eq] at hr
    subst hr
    exact hs_o_ldI kk w h0 (fun hl => lv_iload hx hb hdg hl)
  case iload_n n =>
    simp only [hs_okR, decide_eq_true_eq] at hr
    subst hr
    exact hs_o_ldI kk w h0 (fun hl => lv_iload_n hx hb hdg rfl hl)
  case lload n =>
    simp only [hs_okR, decide_eq_true_eq] at hr
    subst hr
    exact hs_o_ldL kk w h0 (fun hl => lv_lload hx hb hdg hl)
  case lload_n n =>
    simp only [hs_okR, decide_eq_true_eq] at hr
    subst hr
    exact hs_o_ldL kk w h0 (fun hl => lv_lload_n hx hb hdg rfl hl)
  case aload n =>
    simp only [hs_okR, decide_eq_true_eq] at hr
    subst hr
    exact hs_o_ldR kk w h0 (fun hl => lv_aload hx hb hdg hl)
  case aload_n n =>
    simp only [hs_okR, decide_eq_true_eq] at hr
    subst hr
    exact hs_o_ldR kk w h0 (fun hl => lv_aload_n hx hb hdg rfl hl)
  case istore n =>
    simp only [hs_okR, Bool.and_eq_true, decide_eq_true_eq] at hr
    obtain ⟨rfl, hk⟩ := hr
    match st, w with
    | .inl v :: r, w => exact hs_o_st (v := hs_i v) (len := 2) rfl kk w trivial hk h0.pop (fun hl kk' => lv_istore hx hb hdg hl hk rfl kk')
  case istore_n n =>
    simp only [hs_okR, Bool.and_eq_true, decide_eq_true_eq] at hr
    obtain ⟨rfl, hk⟩ := hr
    match st, w with
    | .inl v :: r, w => exact hs_o_st (v := hs_i v) (len := 1) rfl kk w trivial hk h0.pop (fun hl kk' => lv_istore_n hx hb hdg rfl hl hk rfl kk')
  case astore n =>
    simp only [hs_okR, Bool.and_eq_true, decide_eq_true_eq] at hr
    obtain ⟨rfl, hk⟩ := hr
    match st, w with
    | .inr (.inr (.inl (a, i))) :: r, w => exact hs_o_st (v := hs_r a i) (len := 2) rfl kk w h0.hd hk h0.pop (fun hl kk' => lv_astore hx hb hdg hl hk rfl kk')
  case astore_n n =>
    simp only [hs_okR, Bool.and_eq_true, decide_eq_true_eq] at hr
    obtain ⟨rfl, hk⟩ := hr
    match st, w with
    | .inr (.inr (.inl (a, i))) :: r, w => exact hs_o_st (v := hs_r a i) (len := 1) rfl kk w h0.hd hk h0.pop (fun hl kk' => lv_astore_n hx hb hdg rfl hl hk rfl kk')
  case lstore n =>
    simp only [hs_okR, Bool.and_eq_true, decide_eq_true_eq] at hr
    obtain ⟨rfl, hk⟩ := hr
    match st, w with
    | .inr (.inl v) :: r, w => exact hs_o_stL (v := v) (len := 2) kk w hk h0.pop (fun hl kk' => lv_lstore hx hb hdg hl hk rfl kk')
  case lstore_n n =>
    simp only [hs_okR, Bool.and_eq_true, decide_eq_true_eq] at hr
    obtain ⟨rfl, hk⟩ := hr
    match st, w with
    | .inr (.inl v) :: r, w => exact hs_o_stL (v := v) (len := 1) kk w hk h0.pop (fun hl kk' => lv_lstore_n hx hb hdg rfl hl hk rfl kk')
  case iinc n v =>
    simp only [hs_okR, Bool.and_eq_true, decide_eq_true_eq] at hr
    obtain ⟨⟨rfl, hk⟩, hv⟩ := hr
    exact hs_o_iinc kk w h0 hk (fun hl hj hs kk' => lv_iinc hx hb hdg hl hj (by rw [hv]; exact hs) hk rfl kk')
  case iadd => simp only [hs_okR, decide_eq_true_eq] at hr; subst hr; exact hs_o_bin kk w h0 (lv_iadd hx hb hdg)
  case isub => simp only [hs_okR, decide_eq_true_eq] at hr; subst hr; exact hs_o_bin kk w h0 (lv_isub hx hb hdg)
  case imul => simp only [hs_okR, decide_eq_true_eq] at hr; subst hr; exact hs_o_bin kk w h0 (lv_imul hx hb hdg)
  case iand => simp only [hs_okR, decide_eq_true_eq] at hr; subst hr; exact hs_o_bin kk w h0 (lv_iand hx hb hdg)
  case ior => simp only [hs_okR, decide_eq_true_eq] at hr; subst hr; exact hs_o_bin kk w h0 (lv_ior hx hb hdg)
  case ixor => simp only [hs_okR, decide_eq_true_eq] at hr; subst hr; exact hs_o_bin kk w h0 (lv_ixor hx hb hdg)
  case ishl => simp only [hs_okR, decide_eq_true_eq] at hr; subst hr; exact hs_o_bin kk w h0 (lv_ishl hx hb hdg)
  case ishr => simp only [hs_okR, decide_eq_true_eq] at hr; subst hr; exact hs_o_bin kk w h0 (lv_ishr hx hb hdg)
  case iushr => simp only [hs_okR, decide_eq_true_eq] at hr; subst hr; exact hs_o_bin kk w h0 (lv_iushr hx hb hdg rfl)
  case idiv => simp only [hs_okR, decide_eq_true_eq] at hr; subst hr; exact hs_o_dvd kk w h0 (lv_idiv hx hb hdg)
  case irem => simp only [hs_okR, decide_eq_true_eq] at hr; subst hr; exact hs_o_dvd kk w h0 (lv_irem hx hb hdg)
  case ladd => simp only [hs_okR, decide_eq_true_eq] at hr; subst hr; exact hs_o_binL kk w h0 (lv_ladd hx hb hdg)
  case lsub => simp only [hs_okR, decide_eq_true_eq] at hr; subst hr; exact hs_o_binL kk w h0 (lv_lsub hx hb hdg)
  case lmul => simp only [hs_okR, decide_eq_true_eq] at hr; subst hr; exact hs_o_binL kk w h0 (lv_lmul hx hb hdg)
  case land => simp only [hs_okR, decide_eq_true_eq] at hr; subst hr; exact hs_o_binL kk w h0 (lv_land hx hb hdg)
  case lor => simp only [hs_okR, decide_eq_true_eq] at hr; subst hr; exact hs_o_binL kk w h0 (lv_lor hx hb hdg)
  case lxor => simp only [hs_okR, decide_eq_true_eq] at hr; subst hr; exact hs_o_binL kk w h0 (lv_lxor hx hb hdg)
  case lshl => simp only [hs_okR, decide_eq_true_eq] at hr; subst hr; exact hs_o_shL kk w h0 (lv_lshl hx hb hdg rfl)
  case lshr => simp only [hs_okR, decide_eq_true_eq] at hr; subst hr; exact hs_o_shL kk w h0 (lv_lshr hx hb hdg rfl)
  case lcmp => simp only [hs_okR, decide_eq_true_eq] at hr; subst hr; exact hs_o_lcmp kk w h0 (W.lcmp hx hb hdg)
  case i2b => simp only [hs_okR, decide_eq_true_eq] at hr; subst hr; exact hs_o_un kk w h0 (lv_i2b hx hb hdg rfl)
  case i2s => simp only [hs_okR, decide_eq_true_eq] at hr; subst hr; exact hs_o_un kk w h0 (lv_i2s hx hb hdg rfl)
  case i2l => simp only [hs_okR, decide_eq_true_eq] at hr; subst hr; exact hs_o_i2l kk w h0 (lv_i2l hx hb hdg rfl)
  case l2i => simp only [hs_okR, decide_eq_true_eq] at hr; subst hr; exact hs_o_l2i kk w h0 (lv_l2i hx hb hdg rfl)
  case pop => simp only [hs_okR, decide_eq_true_eq] at hr; subst hr; exact hs_o_pop kk w h0 (lv_pop hx hb hdg rfl)
  case dup => simp only [hs_okR, decide_eq_true_eq] at hr; subst hr; exact hs_o_dup kk w h0 (fun hc => lv_dup hx hb hdg hc)
  case dup2 => simp only [hs_okR, decide_eq_true_eq] at hr; subst hr; exact hs_o_dup2 kk w h0 (fun hc hc2 => lv_dup2_11 hx hb hdg hc hc2)
  case goto o =>
    simp only [hs_okR, Bool.and_eq_true, decide_eq_true_eq] at hr
    obtain ⟨rfl, ht⟩ := hr
    exact lv_goto hx hb hdg ht (kk _ _ _ _ _ _ _ w h0)
  case ifCond q o =>
    simp only [hs_okR, Bool.and_eq_true, decide_eq_true_eq] at hr
    obtain ⟨rfl, ht⟩ := hr
    cases q
    case eq => exact hs_o_if1 kk w h0 (lv_if_eq hx hb hdg ht)
    case ne => exact hs_o_if1 kk w h0 (fun kt kf => lv_if_ne hx hb hdg ht kt (fun q => kf (fun n => n q)))
    case lt => exact hs_o_if1 kk w h0 (lv_if_lt hx hb hdg ht)
    case ge => exact hs_o_if1 kk w h0 (lv_if_ge hx hb hdg ht)
    case gt => exact hs_o_if1 kk w h0 (lv_if_gt hx hb hdg ht)
    case le => exact hs_o_if1 kk w h0 (lv_if_le hx hb hdg ht)
  case if_icmp q o =>
    simp only [hs_okR, Bool.and_eq_true, decide_eq_true_eq] at hr
    obtain ⟨rfl, ht⟩ := hr
    cases q
    case eq => exact hs_o_if2 kk w h0 (lv_icmp_eq hx hb hdg ht)
    case ne => exact hs_o_if2 kk w h0 (fun kt kf => lv_icmp_ne hx hb hdg ht kt (fun q => kf (fun n => n q)))
    case lt => exact hs_o_if2 kk w h0 (lv_icmp_lt hx hb hdg ht)
    case ge => exact hs_o_if2 kk w h0 (lv_icmp_ge hx hb hdg ht)
    case gt => exact hs_o_if2 kk w h0 (lv_icmp_gt hx hb hdg ht)
    case le => exact hs_o_if2 kk w h0 (lv_icmp_le hx hb hdg ht)
  case tableswitch dd lo hi os =>
    match x, st, w, hr with
    | t :: ps, .inl v :: r, w, hr =>
      simp only [hs_okR, Bool.and_eq_true, decide_eq_true_eq] at hr
      obtain ⟨⟨⟨⟨ht, rfl⟩, hhi⟩, hlt⟩, hps⟩ := hr
      by_cases h1 : v.toInt < 0 ∨ hi < v.toInt
      · refine lv_tableOut hx hb hdg h1 ht (kk _ _ _ _ _ _ _ (hs_sw_out os.toList ps 0 hps w ?_) h0.pop)
        intro j hj hv
        rw [hv, nI_toInt (by omega)] at h1
        omega
      · have h2 : ¬ v.toInt < 0 := fun q => h1 (Or.inl q)
        have h3 : ¬ hi < v.toInt := fun q => h1 (Or.inr q)
        have hj : (v.toInt - 0).toNat < os.toList.length := by omega
        have ho : os.toList[(v.toInt - 0).toNat]? = some (os.toList[(v.toInt - 0).toNat]'hj) := List.getElem?_eq_getElem hj
        obtain ⟨t2, ht2, w2⟩ := hs_sw_in os.toList ps 0 hps (by omega) w _ _ ho (Int32.toInt_inj.mp (by rw [nI_toInt (by omega)]; omega))
        exact lv_tableIn hx hb hdg h2 h3 (by rw [← Array.getElem?_toList]; exact ho) ht2 (kk _ _ _ _ _ _ _ w2 h0.pop)
  case lookupswitch dd qs =>
    match x, st, w, hr with
    | t :: ps, .inl v :: r, w, hr =>
      simp only [hs_okR, Bool.and_eq_true, decide_eq_true_eq] at hr
      obtain ⟨⟨ht, hsort⟩, hps⟩ := hr
      obtain ⟨off, t2, ho, ht2, w2⟩ := hs_sw_look ht qs.toList ps hps w
      exact lv_lookup hx hb hdg hsort ho ht2 (kk _ _ _ _ _ _ _ w2 h0.pop)
  case iaload => simp only [hs_okR, decide_eq_true_eq] at hr; subst hr; exact hs_o_ald hO kk w h0 hx hb hK hsc hdg
  case baload => simp only [hs_okR, decide_eq_true_eq] at hr; subst hr; exact hs_o_zld hO kk w h0 hx hb hK hdg
  case laload => simp only [hs_okR, decide_eq_true_eq] at hr; subst hr; exact hs_o_lld hO kk w h0 hx hb hK hdg
  case iastore => simp only [hs_okR, decide_eq_true_eq] at hr; subst hr; exact hs_o_ast hO kk w h0 hx hb hK hdg
  case bastore => simp only [hs_okR, decide_eq_true_eq] at hr; subst hr; exact hs_o_zst hO kk w h0 hx hb hK hdg
  case lastore => simp only [hs_okR, decide_eq_true_eq] at hr; subst hr; exact hs_o_lst hO kk w h0 hx hb hK hdg
  case arraylength => simp only [hs_okR, decide_eq_true_eq] at hr; subst hr; exact hs_o_alen hO kk w h0 hx hb hK hsc hdg
  case aaload =>
    simp only [hs_okR, Bool.and_eq_true, decide_eq_true_eq] at hr
    obtain ⟨rfl, hr⟩ := hr
    split at hr
    next c1 c2 =>
      simp only [decide_eq_true_eq] at hr
      exact hs_o_rld hO kk w h0 hx hb hK hdg rfl hr
    next => cases hr
  case getfield i =>
    simp only [hs_okR, Bool.and_eq_true, decide_eq_true_eq] at hr
    obtain ⟨rfl, hr⟩ := hr
    split at hr
    next sg ix nest c0 k0 => exact hs_o_get (f := none) hO kk w h0 hcl hx hb hts hnw hown hK hdg hr rfl
    next sg ix nest c0 k0 c2 m2 d2 => exact hs_o_get (f := some (c2, m2, d2)) hO kk w h0 hcl hx hb hts hnw hown hK hdg hr rfl
    next => cases hr
  case putfield i =>
    simp only [hs_okR, Bool.and_eq_true, decide_eq_true_eq] at hr
    obtain ⟨rfl, hr⟩ := hr
    split at hr
    next sg ix nest c0 k0 =>
      rw [Bool.and_eq_true] at hr
      exact hs_o_put (bo := false) hO kk w h0 hcl hx hb hts hnw hown hK hdg hr.1 hr.2 rfl
    next sg ix nest c0 k0 =>
      rw [Bool.and_eq_true] at hr
      exact hs_o_put (bo := true) hO kk w h0 hcl hx hb hts hnw hown hK hdg hr.1 hr.2 rfl
    next => cases hr
  case ldc i =>
    simp only [hs_okR, Bool.and_eq_true, decide_eq_true_eq] at hr
    obtain ⟨rfl, hr⟩ := hr
    split at hr
    next sg ix v => exact lv_ldc hx hb hown (hts _ (hs_has_in hr)) hdg (kk _ _ _ _ _ _ _ w (h0.top trivial rfl))
    next a b z kx =>
      simp only [Bool.and_eq_true, decide_eq_true_eq] at hr
      obtain ⟨⟨rfl, hk7⟩, rfl⟩ := hr
      exact va_ldcS hx hb hown (hX.2.1 kx hk7) hdg (kk _ _ _ _ _ _ _ w (h0.top (v := hs_r 64 kx) (hO.2.2.1 kx hk7) rfl))
    next => cases hr
  case ldc_w i =>
    simp only [hs_okR, Bool.and_eq_true, decide_eq_true_eq] at hr
    obtain ⟨rfl, hr⟩ := hr
    split at hr
    next sg ix v => exact lv_ldcw hx hb hown (hts _ (hs_has_in hr)) hdg (kk _ _ _ _ _ _ _ w (h0.top trivial rfl))
    next => cases hr
  case ldc2_w i =>
    simp only [hs_okR, Bool.and_eq_true, decide_eq_true_eq] at hr
    obtain ⟨rfl, hr⟩ := hr
    split at hr
    next sg ix v => exact lv_ldc2 hx hb hown (hts _ (hs_has_in hr)) hdg (kk _ _ _ _ _ _ _ w (h0.top trivial rfl))
    next => cases hr
  case invokestatic i =>
    simp only [hs_okR, Bool.and_eq_true, decide_eq_true_eq] at hr
    obtain ⟨rfl, hr⟩ := hr
    split at hr
    next y n nest a1 b1 a2 b2 a3 b3 a4 b4 =>
      simp only [Bool.and_eq_true, decide_eq_true_eq] at hr
      obtain ⟨⟨⟨⟨⟨⟨⟨q1, q2⟩, q3⟩, q4⟩, q5⟩, q6⟩, q7⟩, q8⟩ := hr
      refine hs_o_inv (nest := nest) (a1 := a1) (b1 := b1) (a2 := a2) (b2 := b2) (a3 := a3) (b3 := b3) (a4 := a4) (b4 := b4) hcon hok0 hR hcs kk w h0 hA hX hx hb hml hts hown hK hdg ⟨q1, q2, q3⟩ q4 ?_ (hs_has_in q6) (hs_has_in q7) (hs_has_in q8)
      split at q5
      · exact Or.inl (hs_has_in q5)
      · exact Or.inr (hs_hasN_in q5)
    next => cases hr
  case invokevirtual i =>
    simp only [hs_okR, Bool.and_eq_true, decide_eq_true_eq] at hr
    obtain ⟨rfl, hr⟩ := hr
    split at hr
    next y n rc nest a1 b1 a2 b2 a3 b3 a4 b4 a5 b5 =>
      simp only [Bool.and_eq_true, decide_eq_true_eq] at hr
      obtain ⟨⟨⟨⟨⟨⟨⟨⟨⟨q1, q2⟩, q3⟩, q4⟩, q5⟩, q6⟩, q7⟩, q8⟩, q9⟩, q10⟩ := hr
      refine hs_o_invV (nest := nest) (a1 := a1) (b1 := b1) (a2 := a2) (b2 := b2) (a3 := a3) (b3 := b3) (a4 := a4) (b4 := b4) (a5 := a5) (b5 := b5) hO hcon hok0 hR hcs kk w h0 hA hX hx hb hml hts hown hK hdg ⟨q1, q2, q3⟩ q4 ?_ (hs_has_in q6) (hs_has_in q7) (hs_has_in q8) (hs_has_in q9) ?_
      · split at q5
        · exact Or.inl (hs_has_in q5)
        · exact Or.inr (hs_hasN_in q5)
      · by_cases h64 : rc = 64
        · rw [if_pos h64, decide_eq_true_eq] at q10
          exact Or.inl ⟨h64, q10⟩
        · rw [if_neg h64] at q10
          cases hv : vwCl[rc]? with
          | none => rw [hv] at q10; cases q10
          | some q =>
            rw [hv] at q10
            simp only [Bool.and_eq_true, decide_eq_true_eq] at q10
            exact Or.inr ⟨q, rfl, q10.1, q10.2⟩
    next => cases hr
  case ireturn =>
    simp only [hs_okR, decide_eq_true_eq] at hr
    subst hr
    match rk, st, w, hend with
    | 1, [.inl v], w, hend => exact hend _ w ⟨v, rfl, rfl⟩ rfl rfl
    | 2, [.inl v], w, hend => exact hend _ w.2 ⟨v, w.1, rfl, rfl⟩ rfl rfl
  case lreturn =>
    simp only [hs_okR, decide_eq_true_eq] at hr
    subst hr
    match rk, st, w, hend with
    | 3, [.inr (.inl v)], w, hend => exact hend _ w ⟨v, rfl, rfl⟩ rfl rfl
  case return_ =>
    simp only [hs_okR, decide_eq_true_eq] at hr
    subst hr
    match rk, st, w, hend with
    | 0, [], w, hend => exact hend none w ⟨rfl, rfl⟩ rfl rfl
  all_goals exact (show False from w).elim
end HSM
