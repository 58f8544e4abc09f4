/-! Rules for the small machine's runs. -/
/-- k steps, then K -/
def hs_wk (S : hs_S) (C : hs_C) (rk : Nat) (P : List (Nat × hs_Row)) (Q : hs_Q) : Nat → hs_K → hs_K
  | 0, K => K
  | k + 1, K => fun pc ls st h => match hs_find P pc with
    | some r => hs_step S C (hs_wk S C rk P Q k K) Q rk pc ls st h r.1 r.2.1 r.2.2
    | none => False
theorem hs_wp_add {S : hs_S} {C : hs_C} {rk : Nat} {P : List (Nat × hs_Row)} {Q : hs_Q} (n : Nat) : ∀ k, hs_wp S C rk P Q (n + k) = hs_wk S C rk P Q k (hs_wp S C rk P Q n) := by
  intro k
  induction k with
  | zero => rfl
  | succ k ih =>
    have h1 : hs_wp S C rk P Q (n + k + 1) = fun pc ls st h => match hs_find P pc with
      | some r => hs_step S C (hs_wp S C rk P Q (n + k)) Q rk pc ls st h r.1 r.2.1 r.2.2
      | none => False := rfl
    rw [show n + (k + 1) = n + k + 1 from rfl, h1, ih]
    rfl
/-- a text's answer is right -/
def hs_W (S : hs_S) (d rk : Nat) (P : List (Nat × hs_Row)) (Q : hs_Q) (pc : Nat) (ls st : List hs_V) (h : hs_H) : Prop := ∃ n, hs_wp S (hs_call hs_ms S d) rk P Q n pc ls st h
section HSL
variable {S : hs_S} {d rk : Nat} {P : List (Nat × hs_Row)} {Q : hs_Q} {pc : Nat} {ls st : List hs_V} {h : hs_H}
theorem hs_w (k : Nat) {pc' : Nat} {ls' st' : List hs_V} {h' : hs_H} (f : ∀ K : hs_K, K pc' ls' st' h' → hs_wk S (hs_call hs_ms S d) rk P Q k K pc ls st h) (w : hs_W S d rk P Q pc' ls' st' h') : hs_W S d rk P Q pc ls st h := by
  obtain ⟨n, w⟩ := w
  exact ⟨n + k, by rw [hs_wp_add]; exact f _ w⟩
/-- a step that asks for c -/
theorem hs_wa (k : Nat) {c : Prop} {pc' : Nat} {ls' st' : List hs_V} {h' : hs_H} (f : ∀ K : hs_K, (c ∧ K pc' ls' st' h') → hs_wk S (hs_call hs_ms S d) rk P Q k K pc ls st h) (hc : c) (w : hs_W S d rk P Q pc' ls' st' h') : hs_W S d rk P Q pc ls st h := by
  obtain ⟨n, w⟩ := w
  exact ⟨n + k, by rw [hs_wp_add]; exact f _ ⟨hc, w⟩⟩
theorem hs_wb (k : Nat) {c : Prop} {t f : Nat} {ls' st' : List hs_V} {h' : hs_H} (g : ∀ K : hs_K, ((c → K t ls' st' h') ∧ (¬ c → K f ls' st' h')) → hs_wk S (hs_call hs_ms S d) rk P Q k K pc ls st h) (wt : c → hs_W S d rk P Q t ls' st' h') (wf : ¬ c → hs_W S d rk P Q f ls' st' h') : hs_W S d rk P Q pc ls st h := by
  by_cases hc : c
  · obtain ⟨n, w⟩ := wt hc
    exact ⟨n + k, by rw [hs_wp_add]; exact g _ ⟨fun _ => w, fun q => absurd hc q⟩⟩
  · obtain ⟨n, w⟩ := wf hc
    exact ⟨n + k, by rw [hs_wp_add]; exact g _ ⟨fun q => absurd q hc, fun _ => w⟩⟩
/-- a call whose answer is v -/
theorem hs_wc (k : Nat) {y : Nat} {a : List hs_V} {v : Option hs_V} {pc' : Nat} {ls' st' : List hs_V} {h' h2 : hs_H} (f : ∀ K : hs_K, hs_call hs_ms S d y a h' (fun v h2 => K pc' ls' (hs_opt v st') h2) → hs_wk S (hs_call hs_ms S d) rk P Q k K pc ls st h)
    (hc : ∀ {Q2 : hs_Q}, Q2 v h2 → hs_call hs_ms S d y a h' Q2) (w : hs_W S d rk P Q pc' ls' (hs_opt v st') h2) : hs_W S d rk P Q pc ls st h := by
  obtain ⟨n, w⟩ := w
  exact ⟨n + k, by rw [hs_wp_add]; exact f _ (hc (Q2 := fun v h2 => hs_wp S (hs_call hs_ms S d) rk P Q n pc' ls' (hs_opt v st') h2) w)⟩
theorem hs_wr (k : Nat) {v : Option hs_V} {h' : hs_H} (f : ∀ K : hs_K, Q v h' → hs_wk S (hs_call hs_ms S d) rk P Q k K pc ls st h) (q : Q v h') : hs_W S d rk P Q pc ls st h := ⟨0 + k, by rw [hs_wp_add]; exact f _ q⟩
/-- switches -/
def hs_WS (S : hs_S) (d rk : Nat) (P : List (Nat × hs_Row)) (Q : hs_Q) (df : Nat) (x : Int32) (ls st : List hs_V) (h : hs_H) (ps : List Nat) : Prop := ∃ n, hs_sw (hs_wp S (hs_call hs_ms S d) rk P Q n) df x ls st h ps
theorem hs_ws1 (k : Nat) {df : Nat} {x : Int32} {ps : List Nat} {ls' st' : List hs_V} {h' : hs_H} (f : ∀ K : hs_K, hs_sw K df x ls' st' h' ps → hs_wk S (hs_call hs_ms S d) rk P Q k K pc ls st h) (w : hs_WS S d rk P Q df x ls' st' h' ps) : hs_W S d rk P Q pc ls st h := by
  obtain ⟨n, w⟩ := w
  exact ⟨n + k, by rw [hs_wp_add]; exact f _ w⟩
theorem hs_ws2 {df v t : Nat} {x : Int32} {ps : List Nat} (wt : x = nI v → hs_W S d rk P Q t ls st h) (wf : ¬ x = nI v → hs_WS S d rk P Q df x ls st h ps) : hs_WS S d rk P Q df x ls st h (v :: t :: ps) := by
  by_cases hc : x = nI v
  · obtain ⟨n, w⟩ := wt hc
    exact ⟨n, fun _ => w, fun q => absurd hc q⟩
  · obtain ⟨n, w⟩ := wf hc
    exact ⟨n, fun q => absurd q hc, fun _ => w⟩
theorem hs_ws3 {df : Nat} {x : Int32} (w : hs_W S d rk P Q df ls st h) : hs_WS S d rk P Q df x ls st h [] := by
  obtain ⟨n, w⟩ := w
  exact ⟨n, w⟩
end HSL
/-- a method's run out of its rows' -/
theorem hs_go {S : hs_S} {D y R : Nat} {a : List hs_V} {h : hs_H} {Q : hs_Q} (hD : R + 1 ≤ D) (hy : Nat.ble 900 y = false) (hl : (hs_args a).length ≤ (hs_ms y).2.2.1) (w : ∀ d, R ≤ d → hs_W S d (hs_ms y).2.2.2.2.1 (hs_ms y).2.2.2.2.2 Q 0 (hs_fill (hs_ms y).2.2.1 (hs_args a)) [] h) : hs_call hs_ms S D y a h Q := by
  match D, hD with
  | d + 1, hD =>
    have w1 := w d (Nat.le_of_succ_le_succ hD)
    show (bif Nat.ble 900 y then hs_prim y a h Q else
      (hs_args a).length ≤ (hs_ms y).2.2.1 ∧ ∃ n, hs_wp S (hs_call hs_ms S d) (hs_ms y).2.2.2.2.1 (hs_ms y).2.2.2.2.2 Q n 0 (hs_fill (hs_ms y).2.2.1 (hs_args a)) [] h)
    rw [hy]
    exact ⟨hl, w1⟩
/-- checks in the functions -/
def hs_inb (j : Int32) (n : Nat) : Bool := decide (¬ (j < 0 ∨ n ≤ j.toNatClampNeg))
theorem hs_inb_iff {j : Int32} {n : Nat} : hs_inb j n = true ↔ vp_in j n := by
  unfold hs_inb vp_in
  rw [decide_eq_true_eq]
def hs_ck {α : Type} (b : Bool) (x : Option α) : Option α := bif b then x else none
theorem hs_ck_some {α : Type} {b : Bool} {x : Option α} {r : α} (e : hs_ck b x = some r) : b = true ∧ x = some r := by
  cases b with
  | true => exact ⟨rfl, e⟩
  | false => cases e
theorem hs_bind_some {α β : Type} {x : Option α} {f : α → Option β} {r : β} (e : x.bind f = some r) : ∃ a, x = some a ∧ f a = some r := by
  cases x with
  | none => cases e
  | some a => exact ⟨a, rfl, e⟩
def hs_big : Nat := 1000000000
def hs_nz (y : Int32) : Bool := decide (¬ y = 0)
theorem hs_nz_iff {y : Int32} : hs_nz y = true ↔ ¬ y = 0 := by
  unfold hs_nz
  rw [decide_eq_true_eq]
def hs_b01 (y : Int32) : Bool := decide (y = 0 ∨ y = 1)
theorem hs_b01_iff {y : Int32} : hs_b01 y = true ↔ (y = 0 ∨ y = 1) := by
  unfold hs_b01
  rw [decide_eq_true_eq]
/-- a loop: its body is told what comes of its next round -/
def hs_lp {α β : Type} (f : (α → Option β) → α → Option β) : Nat → α → Option β
  | 0, _ => none
  | n + 1, s => f (hs_lp f n) s
theorem hs_lp_ind {α β : Type} {f : (α → Option β) → α → Option β} {P : α → β → Prop} (hf : ∀ k : α → Option β, (∀ s r, k s = some r → P s r) → ∀ s r, f k s = some r → P s r) : ∀ n s r, hs_lp f n s = some r → P s r := by
  intro n
  induction n with
  | zero => intro s r e; cases e
  | succ n ih => intro s r e; exact hf (hs_lp f n) ih s r e
section HSL2
variable {S : hs_S} {d rk : Nat} {P : List (Nat × hs_Row)} {Q : hs_Q} {pc : Nat} {ls st : List hs_V} {h : hs_H}
theorem hs_waa (k : Nat) {c c2 : Prop} {pc' : Nat} {ls' st' : List hs_V} {h' : hs_H} (f : ∀ K : hs_K, (c ∧ c2 ∧ K pc' ls' st' h') → hs_wk S (hs_call hs_ms S d) rk P Q k K pc ls st h) (hc : c) (hc2 : c2) (w : hs_W S d rk P Q pc' ls' st' h') : hs_W S d rk P Q pc ls st h := by
  obtain ⟨n, w⟩ := w
  exact ⟨n + k, by rw [hs_wp_add]; exact f _ ⟨hc, hc2, w⟩⟩
theorem hs_wra (k : Nat) {c : Prop} {v : Option hs_V} {h' : hs_H} (f : ∀ K : hs_K, (c ∧ Q v h') → hs_wk S (hs_call hs_ms S d) rk P Q k K pc ls st h) (hc : c) (q : Q v h') : hs_W S d rk P Q pc ls st h := ⟨0 + k, by rw [hs_wp_add]; exact f _ ⟨hc, q⟩⟩
theorem hs_len_call {k : Nat} (hd : 1 ≤ d) (hk : k < 7) (q : Q (some (hs_i (nI (hs_txt k).length))) h) : hs_call hs_ms S d 900 [hs_r 64 k] h Q := by
  match d, hd with
  | d + 1, _ => exact ⟨hk, q⟩
theorem hs_chr_call {k : Nat} {j : Int32} (hd : 1 ≤ d) (hk : k < 7) (hj : vp_in j (hs_txt k).length) (q : Q (some (hs_i (nI ((hs_txt k).getD j.toNatClampNeg 0)))) h) : hs_call hs_ms S d 901 [hs_r 64 k, hs_i j] h Q := by
  match d, hd with
  | d + 1, _ => exact ⟨hk, hj, q⟩
end HSL2
