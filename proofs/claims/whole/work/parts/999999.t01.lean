/-! The law: every call, both extra marks kept; a round. -/
def stE_call (f g : hs_H → Option (Int32 × hs_H)) : Prop := ∀ (b : Nat) (h : hs_H), b ≤ 1000000 → st_all caV chV wyV b h → stE h → ∃ r h1 h2, f h = some (r, h1) ∧ g h1 = some (r, h2) ∧ st_all caV chV wyV (b + 100) h2 ∧ stE h2
def stE_k (h h' : hs_H) : Prop := h'.1 35 0 = h.1 35 0 ∧ h'.1 5 1 = h.1 5 1
theorem stE_fr {K : List (Nat × Option Nat)} {h h' : hs_H} (f : hs_fr K h h') (o : st_outb K [(35, 0), (5, 1)] = true) : stE_k h h' := st_dep.fr (L := [(35, 0), (5, 1)]) (P := fun H => stE_k h H) (fun A B e p => ⟨(e (35, 0) (by simp)).trans p.1, (e (5, 1) (by simp)).trans p.2⟩) f o ⟨rfl, rfl⟩
theorem st5_k {K : List (Nat × Option Nat)} {h h' : hs_H} (f : hs_fr K h h') (o : st_outb K [(5, 1)] = true) : h'.1 5 1 = h.1 5 1 := st_dep.fr (L := [(5, 1)]) (P := fun H => H.1 5 1 = h.1 5 1) (fun A B e p => (e (5, 1) (by simp)).trans p) f o rfl
theorem stE_k.E {h h' : hs_H} (k : stE_k h h') (p : stE h) : stE h' := by
  unfold stE stZ st5 at p ⊢
  rw [k.1, k.2]
  exact p
theorem st_call.E {f g : hs_H → Option (Int32 × hs_H)} (p : st_call caV chV wyV f g) (hf : ∀ h r, f h = some r → stE_k h r.2) (hg : ∀ h r, g h = some r → stE_k h r.2) : stE_call f g := fun b h hb q qE => by
  obtain ⟨r, h1, h2, e1, e2, e3⟩ := p b h hb q
  exact ⟨r, h1, h2, e1, e2, e3, (hg _ _ e2).E ((hf _ _ e1).E qE)⟩
theorem st_callZ.E {f g : hs_H → Option (Int32 × hs_H)} (p : st_callZ f g) (hf : ∀ h r, f h = some r → r.2.1 5 1 = h.1 5 1) (hg : ∀ h r, g h = some r → r.2.1 5 1 = h.1 5 1) : stE_call f g := fun b h hb q qE => by
  obtain ⟨r, h1, h2, e1, e2, e3, e4⟩ := p b h hb q qE.1
  refine ⟨r, h1, h2, e1, e2, e3, e4, ?_⟩
  have k1 : h1.1 5 1 = h.1 5 1 := hf _ _ e1
  have k2 : h2.1 5 1 = h1.1 5 1 := hg _ _ e2
  have := qE.2
  unfold st5 at this ⊢
  rw [k2, k1]
  exact this
theorem keep_k {a : Int32} {h : hs_H} {r : Int32 × hs_H} (e : hf_137 a h = some r) : stE_k h r.2 := by
  have k30 : ∀ x s, hb_137_30 x s h = some r → stE_k h r.2 := fun x s e => by
    unfold hb_137_30 at e
    obtain ⟨q5, e5, e⟩ := hs_bind_some e
    obtain ⟨q6, e6, e⟩ := hs_bind_some e
    obtain ⟨q7, e7, e⟩ := hs_bind_some e
    obtain rfl := Option.some.inj e
    rw [sp_28 (by omega)] at e5
    obtain rfl := Option.some.inj e5
    rw [sp_88 (by omega)] at e6
    obtain rfl := Option.some.inj e6
    rw [sp_48 (by omega)] at e7
    obtain rfl := Option.some.inj e7
    have w : ∀ c i, (c = 35 ∧ i = 0) ∨ (c = 5 ∧ i = 1) → (cpS (cpF (cpN (hs_put h 3 x 3 (nI 1)) (x + 2) 0) (x + 2) 0) (x + 2) 0).1 c i = h.1 c i := fun c i hc => by
      rw [(cpS_fr c i (by intro q hq hh; rcases hh with rfl | rfl <;> simp at hq <;> omega)).1, (cpF_fr c i (by intro q hq hh; rcases hh with rfl | rfl <;> simp at hq <;> omega)).1, (cpN_fr c i (by intro q hq hh; rcases hh with rfl | rfl <;> simp at hq <;> omega)).1]
      funext k
      rw [nx_get, if_neg (by omega)]
    exact ⟨w 35 0 (Or.inl ⟨rfl, rfl⟩), w 5 1 (Or.inr ⟨rfl, rfl⟩)⟩
  unfold hf_137 hb_137_9 at e
  rcases hz_if e with e | e
  · obtain rfl := Option.some.inj e
    exact ⟨rfl, rfl⟩
  · rcases hz_if e with e | e
    · obtain ⟨-, e⟩ := hs_ck_some e
      rcases hz_if e with e | e
      · exact k30 _ _ e
      · exact k30 _ _ e
    · obtain rfl := Option.some.inj e
      exact ⟨rfl, rfl⟩
theorem ec_feed {x : Int64} : stE_call (hf_105 x) (hf_155 x) := st_call.E (cl_feed wy_V) (fun h r e => stE_fr (hz_105 e) rfl) (fun h r e => stE_fr (hz_155 e) rfl)
theorem ec_end {a : Int32} : stE_call (hf_106 a) (hf_156 a) := st_call.E (cl_end wy_V) (fun h r e => stE_fr (hz_106 e) rfl) (fun h r e => stE_fr (hz_156 e) rfl)
theorem ec_text : stE_call hf_107 hf_169 := fun b h hb p pE => cl_text b h hb p pE
theorem ec_fault : stE_call hf_108 hf_170 := st_call.E (cl_fault) (fun h r e => stE_fr (hz_108 e) rfl) (fun h r e => stE_fr (hz_170 e) rfl)
theorem ec_rule {a : Int32} : stE_call (hf_109 a) (hf_173 a) := st_call.E (cl_rule) (fun h r e => stE_fr (hz_109 e) rfl) (fun h r e => stE_fr (hz_173 e) rfl)
theorem ec_lanes {a : Int32} : stE_call (hf_110 a) (hf_174 a) := st_call.E (cl_lanes) (fun h r e => stE_fr (hz_110 e) rfl) (fun h r e => stE_fr (hz_174 e) rfl)
theorem ec_join {a e : Int32} {is : Bool} : stE_call (hf_111 a e (bI is)) (hf_176 a e (bI is)) := st_call.E (cl_join wy_V) (fun h r e => stE_fr (hz_111 e) rfl) (fun h r e => stE_fr (hz_176 e) rfl)
theorem ec_start {a : Int32} : stE_call (hf_112 a) (hf_177 a) := st_call.E (cl_start wy_V) (fun h r e => stE_fr (hz_112 e) rfl) (fun h r e => stE_fr (hz_177 e) rfl)
theorem ec_far {a e : Int32} : stE_call (hf_113 a e) (hf_179 a e) := st_call.E (cl_far wy_V) (fun h r e => stE_fr (hz_113 e) rfl) (fun h r e => stE_fr (hz_179 e) rfl)
theorem ec_fox {a : Int32} : stE_call (hf_114 a) (hf_182 a) := st_call.E (cl_fox wy_V) (fun h r e => stE_fr (hz_114 e) rfl) (fun h r e => stE_fr (hz_182 e) rfl)
theorem ec_go {a : Int32} : stE_call (hf_115 a) (hf_184 a) := st_call.E (cl_go wy_V) (fun h r e => stE_fr (hz_115 e) rfl) (fun h r e => stE_fr (hz_184 e) rfl)
theorem ec_smell {a : Int32} : stE_call (hf_116 a) (hf_185 a) := st_call.E (cl_smell) (fun h r e => stE_fr (hz_116 e) rfl) (fun h r e => stE_fr (hz_185 e) rfl)
theorem ec_now {a : Int32} : stE_call (hf_117 a) (hf_186 a) := st_call.E (cl_now) (fun h r e => stE_fr (hz_117 e) rfl) (fun h r e => stE_fr (hz_186 e) rfl)
theorem ec_smelt {a e1 e2 : Int32} : stE_call (hf_118 a e1 e2) (hf_187 a e1 e2) := st_call.E (cl_smelt wy_V) (fun h r e => stE_fr (hz_118 e) rfl) (fun h r e => stE_fr (hz_187 e) rfl)
theorem ec_forget {a : Int32} : stE_call (hf_119 a) (hf_188 a) := st_call.E (cl_forget wy_V) (fun h r e => stE_fr (hz_119 e) rfl) (fun h r e => stE_fr (hz_188 e) rfl)
theorem ec_ways {a : Int32} : stE_call (hf_120 a) (hf_195 a) := st_callZ.E cl_ways (fun h r e => st5_k (hz_120 e) rfl) (fun h r e => st5_k (hz_195 e) rfl)
theorem ec_can {a e : Int32} : stE_call (hf_121 a e) (hf_196 a e) := st_callZ.E cl_can (fun h r e => st5_k (hz_121 e) rfl) (fun h r e => st5_k (hz_196 e) rfl)
theorem ec_sure {a e : Int32} : stE_call (hf_122 a e) (hf_197 a e) := st_callZ.E cl_sure (fun h r e => st5_k (hz_122 e) rfl) (fun h r e => st5_k (hz_197 e) rfl)
theorem ec_way {a e : Int32} : stE_call (hf_123 a e) (hf_198 a e) := st_callZ.E cl_way (fun h r e => st5_k (hz_123 e) rfl) (fun h r e => st5_k (hz_198 e) rfl)
theorem ec_cannot : stE_call hf_124 hf_199 := st_callZ.E cl_cannot (fun h r e => st5_k (hz_124 e) rfl) (fun h r e => st5_k (hz_199 e) rfl)
theorem ec_doubt {a e f w : Int32} : stE_call (hf_125 a e f w) (hf_205 a e f w) := st_call.E (cl_doubt wy_V) (fun h r e => stE_fr (hz_125 e) rfl) (fun h r e => stE_fr (hz_205 e) rfl)
theorem ec_post {a e f w : Int32} : stE_call (hf_126 a e f w) (hf_206 a e f w) := st_call.E (cl_post wy_V) (fun h r e => stE_fr (hz_126 e) rfl) (fun h r e => stE_fr (hz_206 e) rfl)
theorem ec_casts {a e w : Int32} : stE_call (hf_128 a e w) (hf_210 a e w) := st_call.E (cl_casts wy_V) (fun h r e => stE_fr (hz_128 e) rfl) (fun h r e => stE_fr (hz_210 e) rfl)
theorem ec_need : stE_call hf_129 hf_211 := st_call.E (cl_need wy_V) (fun h r e => stE_fr (hz_129 e) rfl) (fun h r e => stE_fr (hz_211 e) rfl)
theorem ec_left {a e : Int32} : stE_call (hf_130 a e) (hf_212 a e) := st_call.E (cl_left wy_V) (fun h r e => stE_fr (hz_130 e) rfl) (fun h r e => stE_fr (hz_212 e) rfl)
theorem ec_caught {a e w : Int32} : stE_call (hf_131 a e w) (hf_220 a e w) := st_call.E (cl_caught wy_V) (fun h r e => stE_fr (hz_131 e) rfl) (fun h r e => stE_fr (hz_220 e) rfl)
theorem ec_flees {a e w : Int32} : stE_call (hf_132 a e w) (hf_221 a e w) := st_call.E (cl_flees wy_V) (fun h r e => stE_fr (hz_132 e) rfl) (fun h r e => stE_fr (hz_221 e) rfl)
theorem ec_best {a : Int32} : stE_call (hf_133 a) (hf_222 a) := st_call.E (cl_best wy_V) (fun h r e => stE_fr (hz_133 e) rfl) (fun h r e => stE_fr (hz_222 e) rfl)
theorem ec_open {a e : Int32} : stE_call (hf_134 a e) (hf_224 a e) := st_call.E (cl_open wy_V) (fun h r e => stE_fr (hz_134 e) rfl) (fun h r e => stE_fr (hz_224 e) rfl)
theorem ec_stop {a e w : Int32} : stE_call (hf_135 a e w) (hf_225 a e w) := st_call.E (cl_stop wy_V) (fun h r e => stE_fr (hz_135 e) rfl) (fun h r e => stE_fr (hz_225 e) rfl)
theorem ec_season {a e w : Int32} : stE_call (hf_136 a e w) (hf_230 a e w) := st_call.E (cl_season wy_V) (fun h r e => stE_fr (hz_136 e) rfl) (fun h r e => stE_fr (hz_230 e) rfl)
theorem ec_keep {a : Int32} : stE_call (hf_137 a) (hf_232 a) := st_call.E (cl_keep wy_V) (fun h r e => keep_k e) (fun h r e => stE_fr (hz_232 e) rfl)
theorem ec_back {a : Int32} : stE_call (hf_138 a) (hf_233 a) := st_call.E (cl_back wy_V) (fun h r e => stE_fr (hz_138 e) rfl) (fun h r e => stE_fr (hz_233 e) rfl)
theorem ec_sheet {a e n : Int32} : stE_call (hf_139 a e n) (hf_235 a e n) := st_call.E (cl_sheet wy_V) (fun h r e => stE_fr (hz_139 e) rfl) (fun h r e => stE_fr (hz_235 e) rfl)
theorem ec_lay {a e v : Int32} : stE_call (hf_140 a e v) (hf_236 a e v) := st_call.E (cl_lay wy_V) (fun h r e => stE_fr (hz_140 e) rfl) (fun h r e => stE_fr (hz_236 e) rfl)
theorem ec_read {a l x e : Int32} : stE_call (hf_141 a l x e) (hf_237 a l x e) := st_call.E (cl_read wy_V) (fun h r e => stE_fr (hz_141 e) rfl) (fun h r e => stE_fr (hz_237 e) rfl)
theorem ec_torn : stE_call hf_142 hf_238 := st_call.E (cl_torn) (fun h r e => stE_fr (hz_142 e) rfl) (fun h r e => stE_fr (hz_238 e) rfl)
theorem ec_count {a : Int32} : stE_call (hf_143 a) (hf_239 a) := st_call.E (cl_count) (fun h r e => stE_fr (hz_143 e) rfl) (fun h r e => stE_fr (hz_239 e) rfl)
