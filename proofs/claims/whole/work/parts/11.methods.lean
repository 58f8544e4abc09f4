/-! A method whose table holds is run by its table: by the depth of its calls. -/
section HSN
variable {p : Program} {l : Launch} {e : Env} {R : Room} {s : State} {m : MethodId} {args : Array Value} {below : List Frame} {meth : Method} {c : Code} {cells slots : Nat} {Qe : State → Prop}
variable {ad : Nat → Nat → Nat} {adV : Nat → Nat} {ok : Nat → Nat → Prop} {D : va_G} {tc : Nat → ClassId} {E : List (Nat × Nat)} {A : Nat → Prop} {cc : ByteArray} {own : String} {S : hs_S} {ms : Nat → hs_M}
variable {C : hs_C} {Q : hs_Q} {d rk nL : Nat}
theorem hs_run (F : hs_Fx ms p l R s m args c cells slots ad adV ok D tc E A cc own S C d nL) {P : List (Nat × hs_Row)} (hP : ∀ r ∈ P, decode cc r.1 = .ok (r.2.1, r.2.2.1) ∧ hs_okR own ms nL r.1 r.2.1 r.2.2.1 r.2.2.2 = true)
    (hend : ∀ (v : Option hs_V) (h' : hs_H) (pc : Nat) (al : List hs_V) (ls : Array Slot) (H : Heap) (locs : List Loc) (ins : Instr), Q v h' → hs_end rk v ins → decode cc pc = .ok (ins, 1) → hs_Wd D tc ad E A s h' H locs → W p l e R s m args below meth c H locs cells slots Qe (F0 m pc ls (v.toList.map (hs_cv ad)))) :
    ∀ n, hs_KS p l e R s m args below meth c cells slots Qe nL ad ok (hs_Wd D tc ad E A s) (hs_wp S C rk P Q n) := by
  intro n
  induction n with
  | zero => intro pc al st h ls H locs w; exact w.elim
  | succ n ih =>
    intro pc al st h ls H locs w h0
    have w : (match hs_find P pc with
      | some r => hs_step S C (hs_wp S C rk P Q n) Q rk pc al st h r.1 r.2.1 r.2.2
      | none => False) := w
    cases hf : hs_find P pc with
    | none => rw [hf] at w; exact w.elim
    | some r =>
      rw [hf] at w
      obtain ⟨hdg, hr⟩ := hP _ (hs_find_mem hf)
      exact hs_o_step F ih w h0 hdg hr (fun v hq he hst hl => by
        rw [hst]
        exact hend v h pc al ls H locs _ hq he (by rw [hdg]; exact congrArg (fun k => Except.ok (r.1, k)) hl) h0.2.2.2)
end HSN
