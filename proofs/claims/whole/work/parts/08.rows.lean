/-! What a row of a method's table must say; switches; texts. -/
def hs_okT (pc : Nat) : Nat → List Int → List Nat → Bool
  | l0, o :: os, v :: t :: r => decide (v = l0) && decide ((pc : Int) + o = (t : Int)) && hs_okT pc (l0 + 1) os r
  | _, [], [] => true
  | _, _, _ => false
def hs_okL (pc : Nat) : List (Int × Int) → List Nat → Bool
  | (a, o) :: os, v :: t :: r => decide (a = (v : Int)) && decide (v < 2147483648) && decide ((pc : Int) + o = (t : Int)) && hs_okL pc os r
  | [], [] => true
  | _, _ => false
theorem hs_sw_out {K : hs_K} {d pc : Nat} {x : Int32} {ls st : List hs_V} {h : hs_H} : ∀ (os : List Int) (ps : List Nat) (l0 : Nat), hs_okT pc l0 os ps = true → hs_sw K d x ls st h ps → (∀ j, j < os.length → ¬ x = nI (l0 + j)) → K d ls st h := by
  intro os
  induction os with
  | nil =>
    intro ps l0 hk w _
    match ps, hk, w with
    | [], _, w => exact w
  | cons o os ih =>
    intro ps l0 hk w hn
    match ps, hk, w with
    | v :: t :: r, hk, w =>
      simp only [hs_okT, Bool.and_eq_true, decide_eq_true_eq] at hk
      obtain ⟨⟨rfl, -⟩, h3⟩ := hk
      have h0 := hn 0 (by simp)
      rw [Nat.add_zero] at h0
      exact ih r (v + 1) h3 (w.2 h0) (fun j hj => by have := hn (j + 1) (by simp; omega); rwa [show v + (j + 1) = v + 1 + j by omega] at this)
theorem hs_sw_in {K : hs_K} {d pc : Nat} {x : Int32} {ls st : List hs_V} {h : hs_H} : ∀ (os : List Int) (ps : List Nat) (l0 : Nat), hs_okT pc l0 os ps = true → l0 + os.length < 2147483648 → hs_sw K d x ls st h ps → ∀ j o, os[j]? = some o → x = nI (l0 + j) → ∃ t : Nat, (pc : Int) + o = (t : Int) ∧ K t ls st h := by
  intro os
  induction os with
  | nil => intro ps l0 _ _ _ j o hj; cases hj
  | cons o1 os ih =>
    intro ps l0 hk hb w j o hj hx
    match ps, hk, w with
    | v :: t :: r, hk, w =>
      simp only [hs_okT, Bool.and_eq_true, decide_eq_true_eq] at hk
      obtain ⟨⟨rfl, h2⟩, h3⟩ := hk
      simp only [List.length_cons] at hb
      cases j with
      | zero =>
        obtain rfl : o1 = o := Option.some.inj hj
        exact ⟨t, h2, w.1 hx⟩
      | succ j =>
        have hlt : j < os.length := (List.getElem?_eq_some_iff.mp (show os[j]? = some o from hj)).1
        refine ih r (v + 1) h3 (by omega) (w.2 fun q => ?_) j o hj (by rw [hx, show v + (j + 1) = v + 1 + j by omega])
        rw [hx] at q
        have := (nI_eq (a := v + (j + 1)) (b := v) (by omega) (by omega)).mp q
        omega
theorem hs_sw_look {K : hs_K} {d pc : Nat} {dflt : Int} {x : Int32} {ls st : List hs_V} {h : hs_H} (hd : (pc : Int) + dflt = (d : Int)) : ∀ (os : List (Int × Int)) (ps : List Nat), hs_okL pc os ps = true → hs_sw K d x ls st h ps → ∃ (off : Int) (t : Nat), Op.lookupswitch.offset os dflt x.toInt = off ∧ (pc : Int) + off = (t : Int) ∧ K t ls st h := by
  intro os
  induction os with
  | nil =>
    intro ps hk w
    match ps, hk, w with
    | [], _, w => exact ⟨dflt, d, by rw [Op.lookupswitch.offset_nil], hd, w⟩
  | cons a os ih =>
    intro ps hk w
    obtain ⟨a, o⟩ := a
    match ps, hk, w with
    | v :: t :: r, hk, w =>
      simp only [hs_okL, Bool.and_eq_true, decide_eq_true_eq] at hk
      obtain ⟨⟨⟨rfl, h1⟩, h2⟩, h3⟩ := hk
      rw [Op.lookupswitch.offset_cons]
      by_cases hx : x.toInt = (v : Int)
      · rw [if_pos hx.symm]
        exact ⟨o, t, rfl, h2, w.1 (Int32.toInt_inj.mp (by rw [hx, nI_toInt (by omega)]))⟩
      · rw [if_neg (fun q => hx q.symm)]
        exact ih r h3 (w.2 fun q => hx (by rw [q, nI_toInt (by omega)]))
def hs_slen : List Nat := [5, 4, 5, 4, 5, 4, 5]
def hs_sbyt : List (List Int32) := [[110, 111, 100, 101, 115], [114, 101, 115, 116], [115, 116, 97, 114, 116], [108, 97, 110, 101], [119, 97, 116, 101, 114], [104, 111, 108, 101], [115, 109, 101, 108, 116]]
def hs_spix (k : Nat) : Nat := [79, 88, 93, 98, 103, 108, 113].getD k 0
def hs_stx (k : Nat) : String := ["nodes", "rest", "start", "lane", "water", "hole", "smelt"].getD k ""
/-- the texts and statics that the class's code asks for -/
def hs_X (ad : Nat → Nat → Nat) (adV : Nat → Nat) (A : Nat → Prop) (U : State) (H : Heap) : Prop := vk_S 7 hs_slen hs_sbyt (ad 64) adV A U H ∧ (∀ k, k < 7 → vk_R "HuntedScent$Reader" (hs_spix k) (hs_stx k) (ad 64 k) U) ∧ va_Z "java/lang/String" "COMPACT_STRINGS" "Z" (.int 1) A U H ∧ va_Zq "jdk/internal/util/Preconditions" "SIOOBE_FORMATTER" "Ljava/util/function/BiFunction;" A U H ∧ ∀ w ∈ hs_N, va_Nw w U
theorem hs_X.to {ad : Nat → Nat → Nat} {adV : Nat → Nat} {A B : Nat → Prop} {s U : State} {H H1 : Heap} (h : hs_X ad adV A s H) (hW : s.WarmedH U.vm) (hq : ∀ a : Nat, a < H.size → ¬ A a → H1[a]? = H[a]?) (hAB : ∀ q, B q → A q) : hs_X ad adV B U H1 :=
  ⟨((h.1.moved hW.alike).kept hq).narrow hAB, fun k hk => (h.2.1 k hk).warm hW, ((h.2.2.1.moved hW.alike).kept hq).narrow hAB, ((h.2.2.2.1.moved hW.alike).kept hq).narrow hAB, fun w hw => hs_N_warm hw hW (h.2.2.2.2 w hw)⟩
theorem hs_X.same {ad : Nat → Nat → Nat} {adV : Nat → Nat} {A : Nat → Prop} {s U : State} {H : Heap} (h : hs_X ad adV A s H) (hv : U.vm = s.vm) : hs_X ad adV A U H :=
  ⟨h.1.moved (by rw [hv]; exact Vm.Alike.refl _), fun k hk => (h.2.1 k hk).same hv, h.2.2.1.moved (by rw [hv]; exact Vm.Alike.refl _), h.2.2.2.1.moved (by rw [hv]; exact Vm.Alike.refl _), fun w hw => hs_N_same hw hv.symm (h.2.2.2.2 w hw)⟩
/-- what a row of a method must say -/
def hs_okR (own : String) (ms : Nat → hs_M) (nL pc : Nat) (ins : Instr) (len : Nat) (x : List Nat) : Bool := match ins with
  | .iconst n => decide (len = 1) && decide (Int32.ofInt n = nI (hs_fst x))
  | .bipush n => decide (len = 2) && decide ((Int8.ofInt n).toInt32 = nI (hs_fst x))
  | .sipush n => decide (len = 3) && decide ((Int16.ofInt n).toInt32 = nI (hs_fst x))
  | .lconst n => decide (len = 1) && decide (Int64.ofNat n.val = lN (hs_fst x))
  | .iload _ => decide (len = 2)
  | .lload _ => decide (len = 2)
  | .aload _ => decide (len = 2)
  | .istore k => decide (len = 2) && decide (k < nL)
  | .istore_n k => decide (len = 1) && decide (k.val < nL)
  | .astore k => decide (len = 2) && decide (k < nL)
  | .astore_n k => decide (len = 1) && decide (k.val < nL)
  | .lstore k => decide (len = 2) && decide (k + 1 < nL)
  | .lstore_n k => decide (len = 1) && decide (k.val + 1 < nL)
  | .iinc k n => decide (len = 3) && decide (k < nL) && decide (Int32.ofInt n = nI (hs_fst x))
  | .goto o => decide (len = 3) && decide ((pc : Int) + o = (hs_fst x : Int))
  | .ifCond _ o => decide (len = 3) && decide ((pc : Int) + o = (hs_fst x : Int))
  | .if_icmp _ o => decide (len = 3) && decide ((pc : Int) + o = (hs_fst x : Int))
  | .tableswitch d lo hi os => (match x with
    | t :: ps => decide ((pc : Int) + d = (t : Int)) && decide (lo = 0) && decide (hi + 1 = (os.toList.length : Int)) && decide (os.toList.length < 2147483648) && hs_okT pc 0 os.toList ps
    | [] => false)
  | .lookupswitch d qs => (match x with
    | t :: ps => decide ((pc : Int) + d = (t : Int)) && (qs.toList.zip (qs.toList.drop 1)).all (fun (a, next) => a.1 < next.1) && hs_okL pc qs.toList ps
    | [] => false)
  | .getfield i => decide (len = 3) && (match x with
    | [sg, ix, nest, c, k] => hs_okF own i sg ix nest c k none
    | [sg, ix, nest, c, k, c2, m, d] => hs_okF own i sg ix nest c k (some (c2, m, d))
    | _ => false)
  | .putfield i => decide (len = 3) && (match x with
    | [sg, ix, nest, c, k] => hs_okF own i sg ix nest c k none && (match vwCl[c]? with
      | some q => decide ((q.2.1 k).2.2.2 = false ∧ (q.2.1 k).2.2.1 = (if false then "Z" else "I"))
      | none => false)
    | [sg, ix, nest, c, k, 0] => hs_okF own i sg ix nest c k none && (match vwCl[c]? with
      | some q => decide ((q.2.1 k).2.2.2 = false ∧ (q.2.1 k).2.2.1 = (if true then "Z" else "I"))
      | none => false)
    | _ => false)
  | .aaload => decide (len = 1) && (match x with
    | [c1, c2] => decide (hs_sort c1 = 4 ∧ hs_el c1 = c2)
    | _ => false)
  | .ldc i => decide (len = 2) && (match x with
    | [sg, ix, v] => hs_has sg ix (.constant own i (nI v))
    | [_, _, _, k] => decide (own = "HuntedScent$Reader") && decide (k < 7) && decide (hs_spix k = i)
    | _ => false)
  | .ldc_w i => decide (len = 3) && (match x with
    | [sg, ix, v] => hs_has sg ix (.constant own i (nI v))
    | _ => false)
  | .ldc2_w i => decide (len = 3) && (match x with
    | [sg, ix, v] => hs_has sg ix (.constantLong own i (lN v))
    | _ => false)
  | .invokevirtual i => decide (len = 3) && (match x with
    | [y, n, rc, nest, a1, b1, a2, b2, a3, b3, a4, b4, a5, b5] => decide ((ms y).1.cls ≠ "java/lang/invoke/MethodHandle") && decide ((ms y).1.cls ≠ "java/lang/invoke/VarHandle") && decide ((parseMethodDescriptor (ms y).1.desc).map (fun d => d.parameters.length) = some n) && decide ((ms y).2.2.1 ≤ 40)
        && (match nest with
          | 0 => hs_has a1 b1 (.methodLink own i (ms y).1)
          | _ => hs_hasN a1 b1 (.methodLinkNest own i (ms y).1 "HuntedScent"))
        && hs_has a2 b2 (.instanceMethod (ms y).1) && hs_has a3 b3 (.initialized (ms y).1.cls) && hs_has a4 b4 (.code (ms y).1 (ms y).2.1 (ms y).2.2.1 (ms y).2.2.2.1) && hs_has a5 b5 (.selects (ms y).1.cls (ms y).1 (ms y).1)
        && (if rc = 64 then decide ((ms y).1.cls = "java/lang/String") else match vwCl[rc]? with
          | some q => decide (q.1 = (ms y).1.cls) && decide (hs_sort rc = 0)
          | none => false)
    | _ => false)
  | .invokestatic i => decide (len = 3) && (match x with
    | [y, n, nest, a1, b1, a2, b2, a3, b3, a4, b4] => decide ((ms y).1.cls ≠ "java/lang/invoke/MethodHandle") && decide ((ms y).1.cls ≠ "java/lang/invoke/VarHandle") && decide ((parseMethodDescriptor (ms y).1.desc).map (fun d => d.parameters.length) = some n) && decide ((ms y).2.2.1 ≤ 40)
        && (match nest with
          | 0 => hs_has a1 b1 (.methodLink own i (ms y).1)
          | _ => hs_hasN a1 b1 (.methodLinkNest own i (ms y).1 "HuntedScent"))
        && hs_has a2 b2 (.static (ms y).1) && hs_has a3 b3 (.initialized (ms y).1.cls) && hs_has a4 b4 (.code (ms y).1 (ms y).2.1 (ms y).2.2.1 (ms y).2.2.2.1)
    | _ => false)
  | _ => decide (len = 1)
/-- what a method's table must say -/
def hs_okM (ms : Nat → hs_M) (M : hs_M) : Bool := plainFor M.1 && (M.2.2.2.2.2).all (fun r => decide (decode M.2.1 r.1 = .ok (r.2.1, r.2.2.1)) && hs_okR M.1.cls ms M.2.2.1 r.1 r.2.1 r.2.2.1 r.2.2.2) && (match M.2.2.2.2.1 with
  | 0 => decide (M.2.2.2.1 = none)
  | 1 => decide (M.2.2.2.1 = some .int)
  | 2 => decide (M.2.2.2.1 = some .boolean)
  | 3 => decide (M.2.2.2.1 = some .long)
  | _ => false)
theorem hs_find_mem : ∀ {P : List (Nat × hs_Row)} {pc : Nat} {r : hs_Row}, hs_find P pc = some r → (pc, r) ∈ P := by
  intro P
  induction P with
  | nil => intro pc r h; cases h
  | cons a t ih =>
    intro pc r h
    obtain ⟨p, r0⟩ := a
    have h : (bif Nat.beq p pc then some r0 else hs_find t pc) = some r := h
    cases hp : Nat.beq p pc with
    | true =>
      rw [hp] at h
      obtain rfl := Nat.eq_of_beq_eq_true hp
      obtain rfl : r0 = r := Option.some.inj h
      exact List.mem_cons_self
    | false =>
      rw [hp] at h
      exact List.mem_cons_of_mem _ (ih h)
