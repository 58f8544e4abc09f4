/-! Frames. -/
def hs_out (K : List (Nat × Option Nat)) (c i : Nat) : Prop := ∀ q ∈ K, ¬ (q = (c, some i) ∨ q = (c, none))
def hs_fr (K : List (Nat × Option Nat)) (h h' : hs_H) : Prop := ∀ c i, hs_out K c i → h'.1 c i = h.1 c i ∧ h'.2 c i = h.2 c i
section FR
variable {K K1 : List (Nat × Option Nat)} {h h1 h2 : hs_H} {c i k : Nat}
theorem hs_fr.rf : hs_fr K h h := fun _ _ _ => ⟨rfl, rfl⟩
theorem hs_fr.tr (f : hs_fr K h h1) (g : hs_fr K h1 h2) : hs_fr K h h2 := fun c i o => ⟨(g c i o).1.trans (f c i o).1, (g c i o).2.trans (f c i o).2⟩
theorem hs_fr_ne (m : (c, some i) ∈ K ∨ (c, none) ∈ K) {c' i' : Nat} (o : hs_out K c' i') : (c', i') ≠ (c, i) := by
  intro q
  cases q
  rcases m with m | m
  · exact o _ m (Or.inl rfl)
  · exact o _ m (Or.inr rfl)
theorem hs_fr.put {x : Int32} (f : hs_fr K h h1) (m : (c, some i) ∈ K ∨ (c, none) ∈ K) : hs_fr K h (hs_put h1 c i k x) := fun c' i' o => ⟨(hs_put_ne (hs_fr_ne m o)).trans (f c' i' o).1, (f c' i' o).2⟩
theorem hs_fr.putL {x : Int64} (f : hs_fr K h h1) (m : (c, some i) ∈ K ∨ (c, none) ∈ K) : hs_fr K h (hs_putL h1 c i k x) := fun c' i' o => ⟨(f c' i' o).1, (hs_putL_ne (hs_fr_ne m o)).trans (f c' i' o).2⟩
def hs_sub (K1 K : List (Nat × Option Nat)) : Prop := ∀ q ∈ K1, q ∈ K ∨ (q.1, none) ∈ K
theorem hs_sub_nil : hs_sub [] K := fun q h => by cases h
theorem hs_sub_cons {q : Nat × Option Nat} (m : q ∈ K ∨ (q.1, none) ∈ K) (s : hs_sub K1 K) : hs_sub (q :: K1) K := fun q2 h => by
  rcases List.mem_cons.mp h with rfl | h
  · exact m
  · exact s q2 h
theorem hs_fr.sub (f : hs_fr K1 h h1) (s : hs_sub K1 K) : hs_fr K h h1 := by
  intro c i o
  refine f c i (fun q hq hh => ?_)
  rcases s q hq with m | m
  · exact o q m hh
  · rcases hh with rfl | rfl
    · exact o _ m (Or.inr rfl)
    · exact o _ m (Or.inr rfl)
theorem hs_fr_nil (f : hs_fr [] h h1) : h1 = h := by
  have h1' : h1.1 = h.1 := funext fun c => funext fun i => (f c i (fun q hq => by cases hq)).1
  have h2' : h1.2 = h.2 := funext fun c => funext fun i => (f c i (fun q hq => by cases hq)).2
  exact Prod.ext h1' h2'
theorem hz_if {α : Type} {c : Prop} [Decidable c] {x y : Option α} {r : α} (e : (if c then x else y) = some r) : x = some r ∨ y = some r := by
  by_cases hc : c
  · rw [if_pos hc] at e; exact Or.inl e
  · rw [if_neg hc] at e; exact Or.inr e
theorem hz_lp {α β : Type} {f : (α → Option β) → α → Option β} {H : α → hs_H} {G : β → hs_H} (hf : ∀ k : α → Option β, (∀ s r, k s = some r → hs_fr K (H s) (G r)) → ∀ s r, f k s = some r → hs_fr K (H s) (G r)) {n : Nat} {s : α} {r : β} (e : hs_lp f n s = some r) : hs_fr K (H s) (G r) :=
  hs_lp_ind (P := fun s r => hs_fr K (H s) (G r)) hf n s r e
theorem hz_lp1 {β : Type} {f : (hs_H → Option β) → hs_H → Option β} {G : β → hs_H} (hf : ∀ k : hs_H → Option β, (∀  (h : hs_H) (r : β), k h = some r → hs_fr K h (G r)) → ∀  (h : hs_H) (r : β), f k h = some r → hs_fr K h (G r)) {n : Nat}  {h : hs_H} {r : β} (e : hs_lp f n h = some r) : hs_fr K h (G r) :=
  hz_lp (H := fun s => s) (G := G) (fun k hk s r e => hf k (fun  h r e => hk h r e)  _ r e) e
theorem hz_lp2 {α1 β : Type} {f : (α1 × hs_H → Option β) → (α1 × hs_H) → Option β} {G : β → hs_H} (hf : ∀ k : α1 × hs_H → Option β, (∀ (y1 : α1) (h : hs_H) (r : β), k (y1, h) = some r → hs_fr K h (G r)) → ∀ (y1 : α1) (h : hs_H) (r : β), f k (y1, h) = some r → hs_fr K h (G r)) {n : Nat} {y1 : α1} {h : hs_H} {r : β} (e : hs_lp f n (y1, h) = some r) : hs_fr K h (G r) :=
  hz_lp (H := fun s => s.2) (G := G) (fun k hk s r e => hf k (fun y1 h r e => hk (y1, h) r e) _ _ r e) e
theorem hz_lp3 {α1 α2 β : Type} {f : (α1 × α2 × hs_H → Option β) → (α1 × α2 × hs_H) → Option β} {G : β → hs_H} (hf : ∀ k : α1 × α2 × hs_H → Option β, (∀ (y1 : α1) (y2 : α2) (h : hs_H) (r : β), k (y1, y2, h) = some r → hs_fr K h (G r)) → ∀ (y1 : α1) (y2 : α2) (h : hs_H) (r : β), f k (y1, y2, h) = some r → hs_fr K h (G r)) {n : Nat} {y1 : α1} {y2 : α2} {h : hs_H} {r : β} (e : hs_lp f n (y1, y2, h) = some r) : hs_fr K h (G r) :=
  hz_lp (H := fun s => s.2.2) (G := G) (fun k hk s r e => hf k (fun y1 y2 h r e => hk (y1, y2, h) r e) _ _ _ r e) e
theorem hz_lp4 {α1 α2 α3 β : Type} {f : (α1 × α2 × α3 × hs_H → Option β) → (α1 × α2 × α3 × hs_H) → Option β} {G : β → hs_H} (hf : ∀ k : α1 × α2 × α3 × hs_H → Option β, (∀ (y1 : α1) (y2 : α2) (y3 : α3) (h : hs_H) (r : β), k (y1, y2, y3, h) = some r → hs_fr K h (G r)) → ∀ (y1 : α1) (y2 : α2) (y3 : α3) (h : hs_H) (r : β), f k (y1, y2, y3, h) = some r → hs_fr K h (G r)) {n : Nat} {y1 : α1} {y2 : α2} {y3 : α3} {h : hs_H} {r : β} (e : hs_lp f n (y1, y2, y3, h) = some r) : hs_fr K h (G r) :=
  hz_lp (H := fun s => s.2.2.2) (G := G) (fun k hk s r e => hf k (fun y1 y2 y3 h r e => hk (y1, y2, y3, h) r e) _ _ _ _ r e) e
theorem hz_lp5 {α1 α2 α3 α4 β : Type} {f : (α1 × α2 × α3 × α4 × hs_H → Option β) → (α1 × α2 × α3 × α4 × hs_H) → Option β} {G : β → hs_H} (hf : ∀ k : α1 × α2 × α3 × α4 × hs_H → Option β, (∀ (y1 : α1) (y2 : α2) (y3 : α3) (y4 : α4) (h : hs_H) (r : β), k (y1, y2, y3, y4, h) = some r → hs_fr K h (G r)) → ∀ (y1 : α1) (y2 : α2) (y3 : α3) (y4 : α4) (h : hs_H) (r : β), f k (y1, y2, y3, y4, h) = some r → hs_fr K h (G r)) {n : Nat} {y1 : α1} {y2 : α2} {y3 : α3} {y4 : α4} {h : hs_H} {r : β} (e : hs_lp f n (y1, y2, y3, y4, h) = some r) : hs_fr K h (G r) :=
  hz_lp (H := fun s => s.2.2.2.2) (G := G) (fun k hk s r e => hf k (fun y1 y2 y3 y4 h r e => hk (y1, y2, y3, y4, h) r e) _ _ _ _ _ r e) e
theorem hz_lp6 {α1 α2 α3 α4 α5 β : Type} {f : (α1 × α2 × α3 × α4 × α5 × hs_H → Option β) → (α1 × α2 × α3 × α4 × α5 × hs_H) → Option β} {G : β → hs_H} (hf : ∀ k : α1 × α2 × α3 × α4 × α5 × hs_H → Option β, (∀ (y1 : α1) (y2 : α2) (y3 : α3) (y4 : α4) (y5 : α5) (h : hs_H) (r : β), k (y1, y2, y3, y4, y5, h) = some r → hs_fr K h (G r)) → ∀ (y1 : α1) (y2 : α2) (y3 : α3) (y4 : α4) (y5 : α5) (h : hs_H) (r : β), f k (y1, y2, y3, y4, y5, h) = some r → hs_fr K h (G r)) {n : Nat} {y1 : α1} {y2 : α2} {y3 : α3} {y4 : α4} {y5 : α5} {h : hs_H} {r : β} (e : hs_lp f n (y1, y2, y3, y4, y5, h) = some r) : hs_fr K h (G r) :=
  hz_lp (H := fun s => s.2.2.2.2.2) (G := G) (fun k hk s r e => hf k (fun y1 y2 y3 y4 y5 h r e => hk (y1, y2, y3, y4, y5, h) r e) _ _ _ _ _ _ r e) e
theorem hz_lp7 {α1 α2 α3 α4 α5 α6 β : Type} {f : (α1 × α2 × α3 × α4 × α5 × α6 × hs_H → Option β) → (α1 × α2 × α3 × α4 × α5 × α6 × hs_H) → Option β} {G : β → hs_H} (hf : ∀ k : α1 × α2 × α3 × α4 × α5 × α6 × hs_H → Option β, (∀ (y1 : α1) (y2 : α2) (y3 : α3) (y4 : α4) (y5 : α5) (y6 : α6) (h : hs_H) (r : β), k (y1, y2, y3, y4, y5, y6, h) = some r → hs_fr K h (G r)) → ∀ (y1 : α1) (y2 : α2) (y3 : α3) (y4 : α4) (y5 : α5) (y6 : α6) (h : hs_H) (r : β), f k (y1, y2, y3, y4, y5, y6, h) = some r → hs_fr K h (G r)) {n : Nat} {y1 : α1} {y2 : α2} {y3 : α3} {y4 : α4} {y5 : α5} {y6 : α6} {h : hs_H} {r : β} (e : hs_lp f n (y1, y2, y3, y4, y5, y6, h) = some r) : hs_fr K h (G r) :=
  hz_lp (H := fun s => s.2.2.2.2.2.2) (G := G) (fun k hk s r e => hf k (fun y1 y2 y3 y4 y5 y6 h r e => hk (y1, y2, y3, y4, y5, y6, h) r e) _ _ _ _ _ _ _ r e) e
theorem hz_lp8 {α1 α2 α3 α4 α5 α6 α7 β : Type} {f : (α1 × α2 × α3 × α4 × α5 × α6 × α7 × hs_H → Option β) → (α1 × α2 × α3 × α4 × α5 × α6 × α7 × hs_H) → Option β} {G : β → hs_H} (hf : ∀ k : α1 × α2 × α3 × α4 × α5 × α6 × α7 × hs_H → Option β, (∀ (y1 : α1) (y2 : α2) (y3 : α3) (y4 : α4) (y5 : α5) (y6 : α6) (y7 : α7) (h : hs_H) (r : β), k (y1, y2, y3, y4, y5, y6, y7, h) = some r → hs_fr K h (G r)) → ∀ (y1 : α1) (y2 : α2) (y3 : α3) (y4 : α4) (y5 : α5) (y6 : α6) (y7 : α7) (h : hs_H) (r : β), f k (y1, y2, y3, y4, y5, y6, y7, h) = some r → hs_fr K h (G r)) {n : Nat} {y1 : α1} {y2 : α2} {y3 : α3} {y4 : α4} {y5 : α5} {y6 : α6} {y7 : α7} {h : hs_H} {r : β} (e : hs_lp f n (y1, y2, y3, y4, y5, y6, y7, h) = some r) : hs_fr K h (G r) :=
  hz_lp (H := fun s => s.2.2.2.2.2.2.2) (G := G) (fun k hk s r e => hf k (fun y1 y2 y3 y4 y5 y6 y7 h r e => hk (y1, y2, y3, y4, y5, y6, y7, h) r e) _ _ _ _ _ _ _ _ r e) e
theorem hz_lp9 {α1 α2 α3 α4 α5 α6 α7 α8 β : Type} {f : (α1 × α2 × α3 × α4 × α5 × α6 × α7 × α8 × hs_H → Option β) → (α1 × α2 × α3 × α4 × α5 × α6 × α7 × α8 × hs_H) → Option β} {G : β → hs_H} (hf : ∀ k : α1 × α2 × α3 × α4 × α5 × α6 × α7 × α8 × hs_H → Option β, (∀ (y1 : α1) (y2 : α2) (y3 : α3) (y4 : α4) (y5 : α5) (y6 : α6) (y7 : α7) (y8 : α8) (h : hs_H) (r : β), k (y1, y2, y3, y4, y5, y6, y7, y8, h) = some r → hs_fr K h (G r)) → ∀ (y1 : α1) (y2 : α2) (y3 : α3) (y4 : α4) (y5 : α5) (y6 : α6) (y7 : α7) (y8 : α8) (h : hs_H) (r : β), f k (y1, y2, y3, y4, y5, y6, y7, y8, h) = some r → hs_fr K h (G r)) {n : Nat} {y1 : α1} {y2 : α2} {y3 : α3} {y4 : α4} {y5 : α5} {y6 : α6} {y7 : α7} {y8 : α8} {h : hs_H} {r : β} (e : hs_lp f n (y1, y2, y3, y4, y5, y6, y7, y8, h) = some r) : hs_fr K h (G r) :=
  hz_lp (H := fun s => s.2.2.2.2.2.2.2.2) (G := G) (fun k hk s r e => hf k (fun y1 y2 y3 y4 y5 y6 y7 y8 h r e => hk (y1, y2, y3, y4, y5, y6, y7, y8, h) r e) _ _ _ _ _ _ _ _ _ r e) e
theorem hz_lp10 {α1 α2 α3 α4 α5 α6 α7 α8 α9 β : Type} {f : (α1 × α2 × α3 × α4 × α5 × α6 × α7 × α8 × α9 × hs_H → Option β) → (α1 × α2 × α3 × α4 × α5 × α6 × α7 × α8 × α9 × hs_H) → Option β} {G : β → hs_H} (hf : ∀ k : α1 × α2 × α3 × α4 × α5 × α6 × α7 × α8 × α9 × hs_H → Option β, (∀ (y1 : α1) (y2 : α2) (y3 : α3) (y4 : α4) (y5 : α5) (y6 : α6) (y7 : α7) (y8 : α8) (y9 : α9) (h : hs_H) (r : β), k (y1, y2, y3, y4, y5, y6, y7, y8, y9, h) = some r → hs_fr K h (G r)) → ∀ (y1 : α1) (y2 : α2) (y3 : α3) (y4 : α4) (y5 : α5) (y6 : α6) (y7 : α7) (y8 : α8) (y9 : α9) (h : hs_H) (r : β), f k (y1, y2, y3, y4, y5, y6, y7, y8, y9, h) = some r → hs_fr K h (G r)) {n : Nat} {y1 : α1} {y2 : α2} {y3 : α3} {y4 : α4} {y5 : α5} {y6 : α6} {y7 : α7} {y8 : α8} {y9 : α9} {h : hs_H} {r : β} (e : hs_lp f n (y1, y2, y3, y4, y5, y6, y7, y8, y9, h) = some r) : hs_fr K h (G r) :=
  hz_lp (H := fun s => s.2.2.2.2.2.2.2.2.2) (G := G) (fun k hk s r e => hf k (fun y1 y2 y3 y4 y5 y6 y7 y8 y9 h r e => hk (y1, y2, y3, y4, y5, y6, y7, y8, y9, h) r e) _ _ _ _ _ _ _ _ _ _ r e) e
theorem hz_lp11 {α1 α2 α3 α4 α5 α6 α7 α8 α9 α10 β : Type} {f : (α1 × α2 × α3 × α4 × α5 × α6 × α7 × α8 × α9 × α10 × hs_H → Option β) → (α1 × α2 × α3 × α4 × α5 × α6 × α7 × α8 × α9 × α10 × hs_H) → Option β} {G : β → hs_H} (hf : ∀ k : α1 × α2 × α3 × α4 × α5 × α6 × α7 × α8 × α9 × α10 × hs_H → Option β, (∀ (y1 : α1) (y2 : α2) (y3 : α3) (y4 : α4) (y5 : α5) (y6 : α6) (y7 : α7) (y8 : α8) (y9 : α9) (y10 : α10) (h : hs_H) (r : β), k (y1, y2, y3, y4, y5, y6, y7, y8, y9, y10, h) = some r → hs_fr K h (G r)) → ∀ (y1 : α1) (y2 : α2) (y3 : α3) (y4 : α4) (y5 : α5) (y6 : α6) (y7 : α7) (y8 : α8) (y9 : α9) (y10 : α10) (h : hs_H) (r : β), f k (y1, y2, y3, y4, y5, y6, y7, y8, y9, y10, h) = some r → hs_fr K h (G r)) {n : Nat} {y1 : α1} {y2 : α2} {y3 : α3} {y4 : α4} {y5 : α5} {y6 : α6} {y7 : α7} {y8 : α8} {y9 : α9} {y10 : α10} {h : hs_H} {r : β} (e : hs_lp f n (y1, y2, y3, y4, y5, y6, y7, y8, y9, y10, h) = some r) : hs_fr K h (G r) :=
  hz_lp (H := fun s => s.2.2.2.2.2.2.2.2.2.2) (G := G) (fun k hk s r e => hf k (fun y1 y2 y3 y4 y5 y6 y7 y8 y9 y10 h r e => hk (y1, y2, y3, y4, y5, y6, y7, y8, y9, y10, h) r e) _ _ _ _ _ _ _ _ _ _ _ r e) e
theorem hz_lp12 {α1 α2 α3 α4 α5 α6 α7 α8 α9 α10 α11 β : Type} {f : (α1 × α2 × α3 × α4 × α5 × α6 × α7 × α8 × α9 × α10 × α11 × hs_H → Option β) → (α1 × α2 × α3 × α4 × α5 × α6 × α7 × α8 × α9 × α10 × α11 × hs_H) → Option β} {G : β → hs_H} (hf : ∀ k : α1 × α2 × α3 × α4 × α5 × α6 × α7 × α8 × α9 × α10 × α11 × hs_H → Option β, (∀ (y1 : α1) (y2 : α2) (y3 : α3) (y4 : α4) (y5 : α5) (y6 : α6) (y7 : α7) (y8 : α8) (y9 : α9) (y10 : α10) (y11 : α11) (h : hs_H) (r : β), k (y1, y2, y3, y4, y5, y6, y7, y8, y9, y10, y11, h) = some r → hs_fr K h (G r)) → ∀ (y1 : α1) (y2 : α2) (y3 : α3) (y4 : α4) (y5 : α5) (y6 : α6) (y7 : α7) (y8 : α8) (y9 : α9) (y10 : α10) (y11 : α11) (h : hs_H) (r : β), f k (y1, y2, y3, y4, y5, y6, y7, y8, y9, y10, y11, h) = some r → hs_fr K h (G r)) {n : Nat} {y1 : α1} {y2 : α2} {y3 : α3} {y4 : α4} {y5 : α5} {y6 : α6} {y7 : α7} {y8 : α8} {y9 : α9} {y10 : α10} {y11 : α11} {h : hs_H} {r : β} (e : hs_lp f n (y1, y2, y3, y4, y5, y6, y7, y8, y9, y10, y11, h) = some r) : hs_fr K h (G r) :=
  hz_lp (H := fun s => s.2.2.2.2.2.2.2.2.2.2.2) (G := G) (fun k hk s r e => hf k (fun y1 y2 y3 y4 y5 y6 y7 y8 y9 y10 y11 h r e => hk (y1, y2, y3, y4, y5, y6, y7, y8, y9, y10, y11, h) r e) _ _ _ _ _ _ _ _ _ _ _ _ r e) e
end FR
