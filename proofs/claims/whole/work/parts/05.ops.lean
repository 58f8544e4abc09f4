/-! One step of the small machine is one step of the machine. -/
section HSW
variable {p : Program} {l : Launch} {e : Env} {R : Room} {s : State} {m : MethodId} {args : Array Value} {below : List Frame} {meth : Method} {c : Code} {cells slots : Nat} {Qe : State → Prop}
variable {ad : Nat → Nat → Nat} {ok : Nat → Nat → Prop} {Wd : hs_H → Heap → List Loc → Prop}
/-- the small machine's state, in the machine -/
def hs_St (nL : Nat) (ad : Nat → Nat → Nat) (ok : Nat → Nat → Prop) (Wd : hs_H → Heap → List Loc → Prop) (al st : List hs_V) (h : hs_H) (ls : Array Slot) (H : Heap) (locs : List Loc) : Prop :=
  hs_LH ad ls al ∧ (al.length = nL ∧ ∀ v ∈ al, hs_In ok v) ∧ (∀ v ∈ st, hs_In ok v ∧ hs_real v = true) ∧ Wd h H locs
/-- K's states go on -/
def hs_KS (p : Program) (l : Launch) (e : Env) (R : Room) (s : State) (m : MethodId) (args : Array Value) (below : List Frame) (meth : Method) (c : Code) (cells slots : Nat) (Qe : State → Prop) (nL : Nat) (ad : Nat → Nat → Nat) (ok : Nat → Nat → Prop) (Wd : hs_H → Heap → List Loc → Prop) (K : hs_K) : Prop :=
  ∀ (pc : Nat) (al st : List hs_V) (h : hs_H) (ls : Array Slot) (H : Heap) (locs : List Loc), K pc al st h → hs_St nL ad ok Wd al st h ls H locs → W p l e R s m args below meth c H locs cells slots Qe (F0 m pc ls (st.map (hs_cv ad)))
variable {K : hs_K} {pc len k t nL : Nat} {al st : List hs_V} {h : hs_H} {ls : Array Slot} {H : Heap} {locs : List Loc}
theorem hs_St.top {v : hs_V} (h0 : hs_St nL ad ok Wd al st h ls H locs) (hv : hs_In ok v) (hr : hs_real v = true) : hs_St nL ad ok Wd al (v :: st) h ls H locs :=
  ⟨h0.1, h0.2.1, fun w hw => (List.mem_cons.mp hw).elim (fun q => by rw [q]; exact ⟨hv, hr⟩) (fun hw => h0.2.2.1 w hw), h0.2.2.2⟩
theorem hs_St.pop {v : hs_V} (h0 : hs_St nL ad ok Wd al (v :: st) h ls H locs) : hs_St nL ad ok Wd al st h ls H locs :=
  ⟨h0.1, h0.2.1, fun w hw => h0.2.2.1 w (List.mem_cons_of_mem _ hw), h0.2.2.2⟩
theorem hs_St.hd {v : hs_V} (h0 : hs_St nL ad ok Wd al (v :: st) h ls H locs) : hs_In ok v := (h0.2.2.1 v List.mem_cons_self).1
theorem hs_o_const (kk : hs_KS p l e R s m args below meth c cells slots Qe nL ad ok Wd K) {v : hs_V} (hv : hs_In ok v) (hr : hs_real v = true) (w : hs_const K v pc len al st h) (h0 : hs_St nL ad ok Wd al st h ls H locs)
    (row : ∀ {rest : List Value}, W p l e R s m args below meth c H locs cells slots Qe (F0 m (pc + len) ls (hs_cv ad v :: rest)) → W p l e R s m args below meth c H locs cells slots Qe (F0 m pc ls rest)) :
    W p l e R s m args below meth c H locs cells slots Qe (F0 m pc ls (st.map (hs_cv ad))) := row (kk _ _ _ _ _ _ _ w (h0.top hv hr))
theorem hs_o_ldI (kk : hs_KS p l e R s m args below meth c cells slots Qe nL ad ok Wd K) (w : hs_ldI K k pc len al st h) (h0 : hs_St nL ad ok Wd al st h ls H locs)
    (row : ∀ {x : Int32} {rest : List Value}, ls[k]? = some (.val (.int x)) → W p l e R s m args below meth c H locs cells slots Qe (F0 m (pc + len) ls (.int x :: rest)) → W p l e R s m args below meth c H locs cells slots Qe (F0 m pc ls rest)) :
    W p l e R s m args below meth c H locs cells slots Qe (F0 m pc ls (st.map (hs_cv ad))) := by
  unfold hs_ldI at w
  split at w
  next v hv => exact row (h0.1.get hv rfl rfl) (kk _ _ _ _ _ _ _ w (h0.top trivial rfl))
  next => exact w.elim
theorem hs_o_ldL (kk : hs_KS p l e R s m args below meth c cells slots Qe nL ad ok Wd K) (w : hs_ldL K k pc len al st h) (h0 : hs_St nL ad ok Wd al st h ls H locs)
    (row : ∀ {x : Int64} {rest : List Value}, ls[k]? = some (.val (.long x)) → W p l e R s m args below meth c H locs cells slots Qe (F0 m (pc + len) ls (.long x :: rest)) → W p l e R s m args below meth c H locs cells slots Qe (F0 m pc ls rest)) :
    W p l e R s m args below meth c H locs cells slots Qe (F0 m pc ls (st.map (hs_cv ad))) := by
  unfold hs_ldL at w
  split at w
  next v _ hv hv2 => exact row (h0.1.getL hv hv2) (kk _ _ _ _ _ _ _ w (h0.top trivial rfl))
  next => exact w.elim
theorem hs_o_ldR (kk : hs_KS p l e R s m args below meth c cells slots Qe nL ad ok Wd K) (w : hs_ldR K k pc len al st h) (h0 : hs_St nL ad ok Wd al st h ls H locs)
    (row : ∀ {x : Nat} {rest : List Value}, ls[k]? = some (.val (.ref x)) → W p l e R s m args below meth c H locs cells slots Qe (F0 m (pc + len) ls (.ref x :: rest)) → W p l e R s m args below meth c H locs cells slots Qe (F0 m pc ls rest)) :
    W p l e R s m args below meth c H locs cells slots Qe (F0 m pc ls (st.map (hs_cv ad))) := by
  unfold hs_ldR at w
  split at w
  next a b hv => exact row (h0.1.get hv rfl rfl) (kk _ _ _ _ _ _ _ w (h0.top (by have := hs_getD_in h0.2.1.2 k; rw [hv] at this; exact this) rfl))
  next => exact w.elim
theorem hs_o_st {v : hs_V} (hvr : hs_real v = true) (kk : hs_KS p l e R s m args below meth c cells slots Qe nL ad ok Wd K) (w : K (pc + len) (hs_set al k v) st h) (hv : hs_In ok v) (hk : k < al.length) (h0 : hs_St nL ad ok Wd al st h ls H locs) {g : JFrame}
    (row : ∀ {lv : List (Nat × Value)}, lv_has ls al.length lv → (∀ ls' : Array Slot, lv_has ls' al.length ((k, hs_cv ad v) :: lv.filter (fun q => !(q.1 == k) && !(q.1 + 1 == k && q.2.category == 2))) → W p l e R s m args below meth c H locs cells slots Qe (F0 m (pc + len) ls' (st.map (hs_cv ad)))) → W p l e R s m args below meth c H locs cells slots Qe g) :
    W p l e R s m args below meth c H locs cells slots Qe g :=
  row h0.1.has fun _ h' => kk _ _ _ _ _ _ _ w ⟨hs_LH.put hvr hk h', ⟨(hs_set_len _ _ _).trans h0.2.1.1, hs_set_in h0.2.1.2 hv⟩, h0.2.2⟩
theorem hs_o_stL {v : Int64} (kk : hs_KS p l e R s m args below meth c cells slots Qe nL ad ok Wd K) (w : K (pc + len) (hs_setL al k v) st h) (hk : k + 1 < al.length) (h0 : hs_St nL ad ok Wd al st h ls H locs) {g : JFrame}
    (row : ∀ {lv : List (Nat × Value)}, lv_has ls al.length lv → (∀ ls' : Array Slot, lv_has ls' al.length ((k, Value.long v) :: lv.filter (fun q => !(q.1 == k) && (!(q.1 == k + 1) && !(q.1 + 1 == k && q.2.category == 2)))) → W p l e R s m args below meth c H locs cells slots Qe (F0 m (pc + len) ls' (st.map (hs_cv ad)))) → W p l e R s m args below meth c H locs cells slots Qe g) :
    W p l e R s m args below meth c H locs cells slots Qe g :=
  row h0.1.has fun _ h' => kk _ _ _ _ _ _ _ w ⟨hs_LH.putL hk h', ⟨(hs_setL_len _ _ _).trans h0.2.1.1, hs_setL_in h0.2.1.2⟩, h0.2.2⟩
theorem hs_o_bin {f : Int32 → Int32 → Int32} (kk : hs_KS p l e R s m args below meth c cells slots Qe nL ad ok Wd K) (w : hs_bin K f pc al st h) (h0 : hs_St nL ad ok Wd al st h ls H locs)
    (row : ∀ {x y : Int32} {rest : List Value}, W p l e R s m args below meth c H locs cells slots Qe (F0 m (pc + 1) ls (.int (f x y) :: rest)) → W p l e R s m args below meth c H locs cells slots Qe (F0 m pc ls (.int y :: .int x :: rest))) :
    W p l e R s m args below meth c H locs cells slots Qe (F0 m pc ls (st.map (hs_cv ad))) := by
  unfold hs_bin at w
  split at w
  next y x r => exact row (kk _ _ _ _ _ _ _ w (h0.pop.pop.top trivial rfl))
  next => exact w.elim
theorem hs_o_dvd {f : Int32 → Int32 → Int32} (kk : hs_KS p l e R s m args below meth c cells slots Qe nL ad ok Wd K) (w : hs_dvd K f pc al st h) (h0 : hs_St nL ad ok Wd al st h ls H locs)
    (row : ∀ {x y : Int32} {rest : List Value}, ¬ y = 0 → W p l e R s m args below meth c H locs cells slots Qe (F0 m (pc + 1) ls (.int (f x y) :: rest)) → W p l e R s m args below meth c H locs cells slots Qe (F0 m pc ls (.int y :: .int x :: rest))) :
    W p l e R s m args below meth c H locs cells slots Qe (F0 m pc ls (st.map (hs_cv ad))) := by
  unfold hs_dvd at w
  split at w
  next y x r => exact row w.1 (kk _ _ _ _ _ _ _ w.2 (h0.pop.pop.top trivial rfl))
  next => exact w.elim
theorem hs_o_binL {f : Int64 → Int64 → Int64} (kk : hs_KS p l e R s m args below meth c cells slots Qe nL ad ok Wd K) (w : hs_binL K f pc al st h) (h0 : hs_St nL ad ok Wd al st h ls H locs)
    (row : ∀ {x y : Int64} {rest : List Value}, W p l e R s m args below meth c H locs cells slots Qe (F0 m (pc + 1) ls (.long (f x y) :: rest)) → W p l e R s m args below meth c H locs cells slots Qe (F0 m pc ls (.long y :: .long x :: rest))) :
    W p l e R s m args below meth c H locs cells slots Qe (F0 m pc ls (st.map (hs_cv ad))) := by
  unfold hs_binL at w
  split at w
  next y x r => exact row (kk _ _ _ _ _ _ _ w (h0.pop.pop.top trivial rfl))
  next => exact w.elim
theorem hs_o_shL {f : Int64 → Int32 → Int64} (kk : hs_KS p l e R s m args below meth c cells slots Qe nL ad ok Wd K) (w : hs_shL K f pc al st h) (h0 : hs_St nL ad ok Wd al st h ls H locs)
    (row : ∀ {x : Int64} {y : Int32} {rest : List Value}, W p l e R s m args below meth c H locs cells slots Qe (F0 m (pc + 1) ls (.long (f x y) :: rest)) → W p l e R s m args below meth c H locs cells slots Qe (F0 m pc ls (.int y :: .long x :: rest))) :
    W p l e R s m args below meth c H locs cells slots Qe (F0 m pc ls (st.map (hs_cv ad))) := by
  unfold hs_shL at w
  split at w
  next y x r => exact row (kk _ _ _ _ _ _ _ w (h0.pop.pop.top trivial rfl))
  next => exact w.elim
theorem hs_o_lcmp (kk : hs_KS p l e R s m args below meth c cells slots Qe nL ad ok Wd K) (w : hs_lcmp K pc al st h) (h0 : hs_St nL ad ok Wd al st h ls H locs)
    (row : ∀ {x y : Int64} {rest : List Value}, W p l e R s m args below meth c H locs cells slots Qe (F0 m (pc + 1) ls (.int (lg_cmp x y) :: rest)) → W p l e R s m args below meth c H locs cells slots Qe (F0 m pc ls (.long y :: .long x :: rest))) :
    W p l e R s m args below meth c H locs cells slots Qe (F0 m pc ls (st.map (hs_cv ad))) := by
  unfold hs_lcmp at w
  split at w
  next y x r => exact row (kk _ _ _ _ _ _ _ w (h0.pop.pop.top trivial rfl))
  next => exact w.elim
theorem hs_o_un {f : Int32 → Int32} (kk : hs_KS p l e R s m args below meth c cells slots Qe nL ad ok Wd K) (w : hs_un K f pc al st h) (h0 : hs_St nL ad ok Wd al st h ls H locs)
    (row : ∀ {x : Int32} {rest : List Value}, W p l e R s m args below meth c H locs cells slots Qe (F0 m (pc + 1) ls (.int (f x) :: rest)) → W p l e R s m args below meth c H locs cells slots Qe (F0 m pc ls (.int x :: rest))) :
    W p l e R s m args below meth c H locs cells slots Qe (F0 m pc ls (st.map (hs_cv ad))) := by
  unfold hs_un at w
  split at w
  next x r => exact row (kk _ _ _ _ _ _ _ w (h0.pop.top trivial rfl))
  next => exact w.elim
theorem hs_o_i2l (kk : hs_KS p l e R s m args below meth c cells slots Qe nL ad ok Wd K) (w : hs_i2l K pc al st h) (h0 : hs_St nL ad ok Wd al st h ls H locs)
    (row : ∀ {x : Int32} {rest : List Value}, W p l e R s m args below meth c H locs cells slots Qe (F0 m (pc + 1) ls (.long x.toInt64 :: rest)) → W p l e R s m args below meth c H locs cells slots Qe (F0 m pc ls (.int x :: rest))) :
    W p l e R s m args below meth c H locs cells slots Qe (F0 m pc ls (st.map (hs_cv ad))) := by
  unfold hs_i2l at w
  split at w
  next x r => exact row (kk _ _ _ _ _ _ _ w (h0.pop.top trivial rfl))
  next => exact w.elim
theorem hs_o_l2i (kk : hs_KS p l e R s m args below meth c cells slots Qe nL ad ok Wd K) (w : hs_l2i K pc al st h) (h0 : hs_St nL ad ok Wd al st h ls H locs)
    (row : ∀ {x : Int64} {rest : List Value}, W p l e R s m args below meth c H locs cells slots Qe (F0 m (pc + 1) ls (.int x.toInt32 :: rest)) → W p l e R s m args below meth c H locs cells slots Qe (F0 m pc ls (.long x :: rest))) :
    W p l e R s m args below meth c H locs cells slots Qe (F0 m pc ls (st.map (hs_cv ad))) := by
  unfold hs_l2i at w
  split at w
  next x r => exact row (kk _ _ _ _ _ _ _ w (h0.pop.top trivial rfl))
  next => exact w.elim
theorem hs_o_pop (kk : hs_KS p l e R s m args below meth c cells slots Qe nL ad ok Wd K) (w : hs_pop K pc al st h) (h0 : hs_St nL ad ok Wd al st h ls H locs)
    (row : ∀ {x : Int32} {rest : List Value}, W p l e R s m args below meth c H locs cells slots Qe (F0 m (pc + 1) ls rest) → W p l e R s m args below meth c H locs cells slots Qe (F0 m pc ls (.int x :: rest))) :
    W p l e R s m args below meth c H locs cells slots Qe (F0 m pc ls (st.map (hs_cv ad))) := by
  unfold hs_pop at w
  split at w
  next x r => exact row (kk _ _ _ _ _ _ _ w h0.pop)
  next => exact w.elim
theorem hs_o_dup (kk : hs_KS p l e R s m args below meth c cells slots Qe nL ad ok Wd K) (w : hs_dup K pc al st h) (h0 : hs_St nL ad ok Wd al st h ls H locs)
    (row : ∀ {v : Value} {rest : List Value}, v.category = 1 → W p l e R s m args below meth c H locs cells slots Qe (F0 m (pc + 1) ls (v :: v :: rest)) → W p l e R s m args below meth c H locs cells slots Qe (F0 m pc ls (v :: rest))) :
    W p l e R s m args below meth c H locs cells slots Qe (F0 m pc ls (st.map (hs_cv ad))) := by
  unfold hs_dup at w
  split at w
  next x r => exact row rfl (kk _ _ _ _ _ _ _ w (h0.top h0.hd rfl))
  next x r => exact row rfl (kk _ _ _ _ _ _ _ w (h0.top h0.hd rfl))
  next => exact w.elim
theorem hs_o_dup2 (kk : hs_KS p l e R s m args below meth c cells slots Qe nL ad ok Wd K) (w : hs_dup2 K pc al st h) (h0 : hs_St nL ad ok Wd al st h ls H locs)
    (row : ∀ {v u : Value} {rest : List Value}, v.category = 1 → u.category = 1 → W p l e R s m args below meth c H locs cells slots Qe (F0 m (pc + 1) ls (v :: u :: v :: u :: rest)) → W p l e R s m args below meth c H locs cells slots Qe (F0 m pc ls (v :: u :: rest))) :
    W p l e R s m args below meth c H locs cells slots Qe (F0 m pc ls (st.map (hs_cv ad))) := by
  unfold hs_dup2 at w
  split at w
  next x y r => exact row rfl rfl (kk _ _ _ _ _ _ _ w ((h0.top h0.pop.hd rfl).top h0.hd rfl))
  next => exact w.elim
theorem hs_o_br {q : Prop} (kk : hs_KS p l e R s m args below meth c cells slots Qe nL ad ok Wd K) (w : hs_br K q t pc al st h) (h0 : hs_St nL ad ok Wd al st h ls H locs) {g : JFrame}
    (row : (q → W p l e R s m args below meth c H locs cells slots Qe (F0 m t ls (st.map (hs_cv ad)))) → (¬ q → W p l e R s m args below meth c H locs cells slots Qe (F0 m (pc + 3) ls (st.map (hs_cv ad)))) → W p l e R s m args below meth c H locs cells slots Qe g) :
    W p l e R s m args below meth c H locs cells slots Qe g := row (fun q => kk _ _ _ _ _ _ _ (w.1 q) h0) (fun q => kk _ _ _ _ _ _ _ (w.2 q) h0)
theorem hs_o_if1 {f : Int32 → Prop} (kk : hs_KS p l e R s m args below meth c cells slots Qe nL ad ok Wd K) (w : hs_if1 K f t pc al st h) (h0 : hs_St nL ad ok Wd al st h ls H locs)
    (row : ∀ {x : Int32} {rest : List Value}, (f x → W p l e R s m args below meth c H locs cells slots Qe (F0 m t ls rest)) → (¬ f x → W p l e R s m args below meth c H locs cells slots Qe (F0 m (pc + 3) ls rest)) → W p l e R s m args below meth c H locs cells slots Qe (F0 m pc ls (.int x :: rest))) :
    W p l e R s m args below meth c H locs cells slots Qe (F0 m pc ls (st.map (hs_cv ad))) := by
  unfold hs_if1 at w
  split at w
  next x r => exact hs_o_br kk w h0.pop row
  next => exact w.elim
theorem hs_o_if2 {f : Int32 → Int32 → Prop} (kk : hs_KS p l e R s m args below meth c cells slots Qe nL ad ok Wd K) (w : hs_if2 K f t pc al st h) (h0 : hs_St nL ad ok Wd al st h ls H locs)
    (row : ∀ {x y : Int32} {rest : List Value}, (f x y → W p l e R s m args below meth c H locs cells slots Qe (F0 m t ls rest)) → (¬ f x y → W p l e R s m args below meth c H locs cells slots Qe (F0 m (pc + 3) ls rest)) → W p l e R s m args below meth c H locs cells slots Qe (F0 m pc ls (.int y :: .int x :: rest))) :
    W p l e R s m args below meth c H locs cells slots Qe (F0 m pc ls (st.map (hs_cv ad))) := by
  unfold hs_if2 at w
  split at w
  next y x r => exact hs_o_br kk w h0.pop.pop row
  next => exact w.elim
theorem hs_o_iinc {n : Int32} (kk : hs_KS p l e R s m args below meth c cells slots Qe nL ad ok Wd K) (w : hs_iinc K k n pc al st h) (h0 : hs_St nL ad ok Wd al st h ls H locs) (hk : k < al.length)
    (row : ∀ {x v : Int32} {j : Nat} {lv : List (Nat × Value)}, lv_has ls al.length lv → lv[j]? = some (k, .int x) → x + n = v → (∀ ls' : Array Slot, lv_has ls' al.length ((k, Value.int v) :: lv.filter (fun q => !(q.1 == k) && !(q.1 + 1 == k && q.2.category == 2))) → W p l e R s m args below meth c H locs cells slots Qe (F0 m (pc + 3) ls' (st.map (hs_cv ad)))) → W p l e R s m args below meth c H locs cells slots Qe (F0 m pc ls (st.map (hs_cv ad)))) :
    W p l e R s m args below meth c H locs cells slots Qe (F0 m pc ls (st.map (hs_cv ad))) := by
  unfold hs_iinc at w
  split at w
  next v hv =>
    have h1 : al[k]? = some (hs_i v) := by
      rw [List.getD_eq_getElem?_getD, List.getElem?_eq_getElem hk] at hv
      rw [List.getElem?_eq_getElem hk]
      exact congrArg some hv
    obtain ⟨j, hj⟩ := List.getElem?_of_mem ((hs_locs_mem ad al (k, .int v)).mpr ⟨k, hs_i v, ⟨h1, rfl, fun q => by cases q⟩, rfl⟩)
    exact (row (x := v) (v := v + n) (j := j) (h0.1.has) hj rfl fun ls' h' => kk _ _ _ _ _ _ _ w ⟨hs_LH.put (x := hs_i (v + n)) rfl hk h', ⟨(hs_set_len _ _ _).trans h0.2.1.1, hs_set_in h0.2.1.2 trivial⟩, h0.2.2⟩)
  next => exact w.elim
end HSW
