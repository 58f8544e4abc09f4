/-! The invariant between two calls; what a call owes. -/
def st_cas (VC : Nat → (Nat → Nat) → Nat → Int32 → Int32 → hs_H → Prop) (c N : Nat) (J : Nat → Nat) (re : Nat) (h : hs_H) : Prop := h.1 0 0 9 = nI 0 ∨ ∃ kn, kn ≤ c ∧ h.1 0 0 11 = nI kn ∧ (kn = c → VC N J re (h.1 0 0 9) (h.1 0 0 10) h)
def st_cha (VH : Nat → (Nat → Nat) → Nat → hs_H → Prop) (c N : Nat) (J : Nat → Nat) (re : Nat) (h : hs_H) : Prop := h.1 1 0 4 = nI 0 ∨ (h.1 1 0 4 = nI 1 ∧ ∃ kn, kn ≤ c ∧ h.1 1 0 5 = nI kn ∧ (kn = c → VH N J re h))
abbrev st_VW : Type := Nat → (Nat → Nat) → Nat → Int32 → Nat → Nat → (Nat → Nat) → (Nat → Nat) → (Nat → Nat) → Nat → hs_H → Prop
def st_way (VW : st_VW) (c d N : Nat) (J : Nat → Nat) (re : Nat) (st : Int32) (W z : Nat) (t n g : Nat → Nat) (h : hs_H) : Prop := h.1 10 0 14 = nI 4294967292 ∨ ∃ k, k ≤ 5 ∧ h.1 10 0 14 = nI k ∧ ∃ kn kd, kn ≤ c ∧ kd ≤ d ∧ h.1 10 0 15 = nI kn ∧ h.1 10 0 16 = nI kd ∧ (kn = c → kd = d → VW N J re st W z t n g k h)
def st_rest (h : hs_H) : Prop := (∀ k, k < 4 → st_sheet k h) ∧ st_tape h ∧ st_misc h
section ST
variable (VC : Nat → (Nat → Nat) → Nat → Int32 → Int32 → hs_H → Prop) (VH : Nat → (Nat → Nat) → Nat → hs_H → Prop) (VW : st_VW)
/-- the caches' pictures depend on their own rows -/
def st_V : Prop := (∀ N J re k so, st_dep [(0, 0), (20, 0), (21, 0), (22, 0), (23, 0)] (VC N J re k so)) ∧ (∀ N J re, st_dep [(1, 0), (24, 0)] (VH N J re)) ∧ ∀ N J re st W z t n g k, st_dep [(10, 0), (40, 0), (41, 0)] (VW N J re st W z t n g k)
def st_cache (c d N : Nat) (J : Nat → Nat) (re : Nat) (st : Int32) (W z : Nat) (t n g : Nat → Nat) (h : hs_H) : Prop := (h.1 4 0 6 = nI c ∧ h.1 5 0 4 = nI d) ∧ st_cas VC c N J re h ∧ st_cha VH c N J re h ∧ st_way VW c d N J re st W z t n g h
def st_imgs (N re W Ho : Nat) (h : hs_H) : Prop := st_img 0 N re W Ho h ∧ st_img 1 N re W Ho h
def st_all (b : Nat) (h : hs_H) : Prop := ∃ N re W Ho J st pl mv s z t n g c d, (c ≤ b ∧ d ≤ b) ∧ st_core 0 0 N re W Ho J st pl mv s z t n g h ∧ st_mN N re W Ho h ∧ st_imgs N re W Ho h ∧ st_cache VC VH VW c d N J re st W z t n g h ∧ st_rest h
theorem st_all.up {b b' : Nat} {h : hs_H} (hb : b ≤ b') (p : st_all VC VH VW b h) : st_all VC VH VW b' h := by
  obtain ⟨N, re, W, Ho, J, st, pl, mv, s, z, t, n, g, c, d, ⟨h1, h2⟩, p⟩ := p
  exact ⟨N, re, W, Ho, J, st, pl, mv, s, z, t, n, g, c, d, ⟨by omega, by omega⟩, p⟩
/-- a call's two functions go alike -/
def st_call (f g : hs_H → Option (Int32 × hs_H)) : Prop := ∀ (b : Nat) (h : hs_H), b ≤ 1000000 → st_all VC VH VW b h → ∃ r h1 h2, f h = some (r, h1) ∧ g h1 = some (r, h2) ∧ st_all VC VH VW (b + 100) h2
end ST
section ST2
variable {VC : Nat → (Nat → Nat) → Nat → Int32 → Int32 → hs_H → Prop} {VH : Nat → (Nat → Nat) → Nat → hs_H → Prop} {VW : st_VW} {c d N : Nat} {J : Nat → Nat} {re : Nat} {st : Int32} {W z : Nat} {t n g : Nat → Nat} {h h' : hs_H}
theorem st_cas_dep (V : st_V VC VH VW) : st_dep [(0, 0), (20, 0), (21, 0), (22, 0), (23, 0)] (st_cas VC c N J re) := by
  intro h h' e p
  have e1 : h'.1 0 0 = h.1 0 0 := e (0, 0) (by simp)
  unfold st_cas at p ⊢
  rw [e1]
  exact p.imp id (fun ⟨kn, p1, p2, p3⟩ => ⟨kn, p1, p2, fun q => V.1 _ _ _ _ _ h h' e (p3 q)⟩)
theorem st_cha_dep (V : st_V VC VH VW) : st_dep [(1, 0), (24, 0)] (st_cha VH c N J re) := by
  intro h h' e p
  have e1 : h'.1 1 0 = h.1 1 0 := e (1, 0) (by simp)
  unfold st_cha at p ⊢
  rw [e1]
  exact p.imp id (fun ⟨p0, kn, p1, p2, p3⟩ => ⟨p0, kn, p1, p2, fun q => V.2.1 _ _ _ h h' e (p3 q)⟩)
theorem st_way_dep (V : st_V VC VH VW) : st_dep [(10, 0), (40, 0), (41, 0)] (st_way VW c d N J re st W z t n g) := by
  intro h h' e p
  have e1 : h'.1 10 0 = h.1 10 0 := e (10, 0) (by simp)
  unfold st_way at p ⊢
  rw [e1]
  exact p.imp id (fun ⟨k, p0, p1, kn, kd, p2, p3, p4, p5, p6⟩ => ⟨k, p0, p1, kn, kd, p2, p3, p4, p5, fun q q2 => V.2.2 _ _ _ _ _ _ _ _ _ _ h h' e (p6 q q2)⟩)
/-- the net has changed: no cache is of it -/
theorem st_cas_new {c' N' : Nat} {J' : Nat → Nat} {re' : Nat} (hc : c < c') (p : st_cas VC c N J re h) : st_cas VC c' N' J' re' h := p.imp id (fun ⟨kn, p1, p2, _⟩ => ⟨kn, by omega, p2, fun q => by omega⟩)
theorem st_cha_new {c' N' : Nat} {J' : Nat → Nat} {re' : Nat} (hc : c < c') (p : st_cha VH c N J re h) : st_cha VH c' N' J' re' h := p.imp id (fun ⟨p0, kn, p1, p2, _⟩ => ⟨p0, kn, by omega, p2, fun q => by omega⟩)
theorem st_way_new {c' d' N' : Nat} {J' : Nat → Nat} {re' : Nat} {st' : Int32} {W' z' : Nat} {t' n' g' : Nat → Nat} (hc : c ≤ c') (hd : d ≤ d') (hcd : c < c' ∨ d < d') (p : st_way VW c d N J re st W z t n g h) : st_way VW c' d' N' J' re' st' W' z' t' n' g' h :=
  p.imp id (fun ⟨k, p0, p1, kn, kd, p2, p3, p4, p5, _⟩ => ⟨k, p0, p1, kn, kd, by omega, by omega, p4, p5, fun q q2 => by omega⟩)
/-- a call that only reads -/
theorem st_read {f g : hs_H → Option (Int32 × hs_H)} (H : ∀ (b : Nat) (h : hs_H), st_all VC VH VW b h → ∃ r, f h = some (r, h) ∧ g h = some (r, h)) : st_call VC VH VW f g := by
  intro b h _ p
  obtain ⟨r, h1, h2⟩ := H b h p
  exact ⟨r, h, h, h1, h2, p.up VC VH VW (by omega)⟩
end ST2
