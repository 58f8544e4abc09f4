theorem hs_cls0 : hs_Cls (RX0, TX0, 12) := ⟨hs_cls_in [(2, 39), (2, 41), (2, 43), (2, 45), (2, 47), (2, 49), (2, 51), (2, 53), (2, 55), (2, 57), (2, 59), (2, 61)] (by decide +kernel), ⟨tyX0, tyX0_ok⟩, nmX0⟩
theorem hs_cls1 : hs_Cls (RX1, TX1, 6) := ⟨hs_cls_in [(2, 76), (2, 78), (2, 80), (2, 82), (2, 84), (2, 86)] (by decide +kernel), ⟨tyX1, tyX1_ok⟩, nmX1⟩
theorem hs_cls2 : hs_Cls (RX2, TX2, 5) := ⟨hs_cls_in [(2, 9), (2, 11), (2, 13), (2, 15), (2, 17)] (by decide +kernel), ⟨tyX2, tyX2_ok⟩, nmX2⟩
theorem hs_cls3 : hs_Cls (RX3, TX3, 4) := ⟨hs_cls_in [(2, 138), (2, 140), (2, 142), (2, 144)] (by decide +kernel), ⟨tyX3, tyX3_ok⟩, nmX3⟩
theorem hs_cls4 : hs_Cls (RX4, TX4, 7) := ⟨hs_cls_in [(1, 62), (1, 64), (1, 66), (1, 68), (1, 70), (1, 72), (1, 74)] (by decide +kernel), ⟨tyX4, tyX4_ok⟩, nmX4⟩
theorem hs_cls5 : hs_Cls (RX5, TX5, 5) := ⟨hs_cls_in [(1, 112), (1, 114), (1, 116), (1, 118), (1, 120)] (by decide +kernel), ⟨tyX5, tyX5_ok⟩, nmX5⟩
theorem hs_cls6 : hs_Cls (RX6, TX6, 12) := ⟨hs_cls_in [(1, 149), (1, 151), (1, 153), (1, 155), (1, 157), (1, 159), (1, 161), (1, 163), (1, 165), (1, 167), (1, 169), (1, 171)] (by decide +kernel), ⟨tyX6, tyX6_ok⟩, nmX6⟩
theorem hs_cls7 : hs_Cls (RX7, TX7, 5) := ⟨hs_cls_in [(2, 104), (2, 106), (2, 108), (2, 110), (2, 112)] (by decide +kernel), ⟨tyX7, tyX7_ok⟩, nmX7⟩
theorem hs_cls8 : hs_Cls (RX8, TX8, 3) := ⟨hs_cls_in [(2, 156), (2, 158), (2, 160)] (by decide +kernel), ⟨tyX8, tyX8_ok⟩, nmX8⟩
theorem hs_cls9 : hs_Cls (RX9, TX9, 3) := ⟨hs_cls_in [(1, 90), (1, 92), (1, 94)] (by decide +kernel), ⟨tyX9, tyX9_ok⟩, nmX9⟩
theorem hs_cls10 : hs_Cls (RX10, TX10, 17) := ⟨hs_cls_in [(1, 202), (1, 204), (1, 206), (1, 208), (1, 210), (1, 212), (1, 214), (1, 216), (1, 218), (1, 220), (1, 222), (1, 224), (1, 226), (1, 228), (1, 230), (1, 232), (1, 234)] (by decide +kernel), ⟨tyX10, tyX10_ok⟩, nmX10⟩
theorem hs_cls11 : hs_Cls (RX11, TX11, 12) := ⟨hs_cls_in [(2, 175), (2, 177), (2, 179), (2, 181), (2, 183), (2, 185), (2, 187), (2, 189), (2, 191), (2, 193), (2, 195), (2, 197)] (by decide +kernel), ⟨tyX11, tyX11_ok⟩, nmX11⟩
theorem hs_cls12 : hs_Cls (RX12, TX12, 42) := ⟨hs_cls_in [(6, 6), (6, 8), (6, 10), (6, 12), (6, 14), (6, 16), (6, 18), (6, 20), (6, 22), (6, 24), (6, 26), (6, 28), (6, 30), (6, 32), (6, 34), (6, 36), (6, 38), (6, 40), (6, 42), (6, 44), (6, 46), (6, 48), (6, 50), (6, 52), (6, 54), (6, 56), (6, 58), (6, 60), (6, 62), (6, 64), (6, 66), (6, 68), (6, 70), (6, 72), (6, 74), (6, 76), (6, 78), (6, 80), (6, 82), (6, 84), (6, 86), (6, 88)] (by decide +kernel), ⟨tyX12, tyX12_ok⟩, nmX12⟩
theorem hs_cls_all : ∀ (c : Nat) (q : vw_C), vwCl[c]? = some q → hs_Cls q := by
  intro c q h
  match c, h with
  | 0, h => exact Option.some.inj h ▸ hs_cls0
  | 1, h => exact Option.some.inj h ▸ hs_cls1
  | 2, h => exact Option.some.inj h ▸ hs_cls2
  | 3, h => exact Option.some.inj h ▸ hs_cls3
  | 4, h => exact Option.some.inj h ▸ hs_cls4
  | 5, h => exact Option.some.inj h ▸ hs_cls5
  | 6, h => exact Option.some.inj h ▸ hs_cls6
  | 7, h => exact Option.some.inj h ▸ hs_cls7
  | 8, h => exact Option.some.inj h ▸ hs_cls8
  | 9, h => exact Option.some.inj h ▸ hs_cls9
  | 10, h => exact Option.some.inj h ▸ hs_cls10
  | 11, h => exact Option.some.inj h ▸ hs_cls11
  | 12, h => exact Option.some.inj h ▸ hs_cls12
  | c + 13, h => cases h
theorem hs_k0 : hs_okM hs_ms hs_m0 = true := by decide +kernel
theorem hs_k1 : hs_okM hs_ms hs_m1 = true := by decide +kernel
theorem hs_k2 : hs_okM hs_ms hs_m2 = true := by decide +kernel
theorem hs_k3 : hs_okM hs_ms hs_m3 = true := by decide +kernel
theorem hs_k4 : hs_okM hs_ms hs_m4 = true := by decide +kernel
theorem hs_k5 : hs_okM hs_ms hs_m5 = true := by decide +kernel
theorem hs_k6 : hs_okM hs_ms hs_m6 = true := by decide +kernel
theorem hs_k7 : hs_okM hs_ms hs_m7 = true := by decide +kernel
theorem hs_k8 : hs_okM hs_ms hs_m8 = true := by decide +kernel
theorem hs_k9 : hs_okM hs_ms hs_m9 = true := by decide +kernel
theorem hs_k10 : hs_okM hs_ms hs_m10 = true := by decide +kernel
theorem hs_k11 : hs_okM hs_ms hs_m11 = true := by decide +kernel
theorem hs_k12 : hs_okM hs_ms hs_m12 = true := by decide +kernel
theorem hs_k13 : hs_okM hs_ms hs_m13 = true := by decide +kernel
theorem hs_k14 : hs_okM hs_ms hs_m14 = true := by decide +kernel
theorem hs_k15 : hs_okM hs_ms hs_m15 = true := by decide +kernel
theorem hs_k16 : hs_okM hs_ms hs_m16 = true := by decide +kernel
theorem hs_k17 : hs_okM hs_ms hs_m17 = true := by decide +kernel
theorem hs_k18 : hs_okM hs_ms hs_m18 = true := by decide +kernel
theorem hs_k19 : hs_okM hs_ms hs_m19 = true := by decide +kernel
theorem hs_k20 : hs_okM hs_ms hs_m20 = true := by decide +kernel
theorem hs_k21 : hs_okM hs_ms hs_m21 = true := by decide +kernel
theorem hs_k22 : hs_okM hs_ms hs_m22 = true := by decide +kernel
theorem hs_k23 : hs_okM hs_ms hs_m23 = true := by decide +kernel
theorem hs_k24 : hs_okM hs_ms hs_m24 = true := by decide +kernel
theorem hs_k25 : hs_okM hs_ms hs_m25 = true := by decide +kernel
theorem hs_k26 : hs_okM hs_ms hs_m26 = true := by decide +kernel
theorem hs_k27 : hs_okM hs_ms hs_m27 = true := by decide +kernel
theorem hs_k28 : hs_okM hs_ms hs_m28 = true := by decide +kernel
theorem hs_k29 : hs_okM hs_ms hs_m29 = true := by decide +kernel
theorem hs_k30 : hs_okM hs_ms hs_m30 = true := by decide +kernel
theorem hs_k31 : hs_okM hs_ms hs_m31 = true := by decide +kernel
theorem hs_k32 : hs_okM hs_ms hs_m32 = true := by decide +kernel
theorem hs_k33 : hs_okM hs_ms hs_m33 = true := by decide +kernel
theorem hs_k34 : hs_okM hs_ms hs_m34 = true := by decide +kernel
theorem hs_k35 : hs_okM hs_ms hs_m35 = true := by decide +kernel
theorem hs_k36 : hs_okM hs_ms hs_m36 = true := by decide +kernel
theorem hs_k37 : hs_okM hs_ms hs_m37 = true := by decide +kernel
theorem hs_k38 : hs_okM hs_ms hs_m38 = true := by decide +kernel
theorem hs_k39 : hs_okM hs_ms hs_m39 = true := by decide +kernel
theorem hs_k40 : hs_okM hs_ms hs_m40 = true := by decide +kernel
theorem hs_k41 : hs_okM hs_ms hs_m41 = true := by decide +kernel
theorem hs_k42 : hs_okM hs_ms hs_m42 = true := by decide +kernel
theorem hs_k43 : hs_okM hs_ms hs_m43 = true := by decide +kernel
theorem hs_k44 : hs_okM hs_ms hs_m44 = true := by decide +kernel
theorem hs_k45 : hs_okM hs_ms hs_m45 = true := by decide +kernel
theorem hs_k46 : hs_okM hs_ms hs_m46 = true := by decide +kernel
theorem hs_k47 : hs_okM hs_ms hs_m47 = true := by decide +kernel
theorem hs_k48 : hs_okM hs_ms hs_m48 = true := by decide +kernel
theorem hs_k49 : hs_okM hs_ms hs_m49 = true := by decide +kernel
theorem hs_k50 : hs_okM hs_ms hs_m50 = true := by decide +kernel
theorem hs_k51 : hs_okM hs_ms hs_m51 = true := by decide +kernel
theorem hs_k52 : hs_okM hs_ms hs_m52 = true := by decide +kernel
theorem hs_k53 : hs_okM hs_ms hs_m53 = true := by decide +kernel
theorem hs_k54 : hs_okM hs_ms hs_m54 = true := by decide +kernel
theorem hs_k55 : hs_okM hs_ms hs_m55 = true := by decide +kernel
theorem hs_k56 : hs_okM hs_ms hs_m56 = true := by decide +kernel
theorem hs_k57 : hs_okM hs_ms hs_m57 = true := by decide +kernel
theorem hs_k58 : hs_okM hs_ms hs_m58 = true := by decide +kernel
theorem hs_k59 : hs_okM hs_ms hs_m59 = true := by decide +kernel
theorem hs_k60 : hs_okM hs_ms hs_m60 = true := by decide +kernel
theorem hs_k61 : hs_okM hs_ms hs_m61 = true := by decide +kernel
theorem hs_k62 : hs_okM hs_ms hs_m62 = true := by decide +kernel
theorem hs_k63 : hs_okM hs_ms hs_m63 = true := by decide +kernel
theorem hs_k64 : hs_okM hs_ms hs_m64 = true := by decide +kernel
theorem hs_k65 : hs_okM hs_ms hs_m65 = true := by decide +kernel
theorem hs_k66 : hs_okM hs_ms hs_m66 = true := by decide +kernel
theorem hs_k67 : hs_okM hs_ms hs_m67 = true := by decide +kernel
theorem hs_k68 : hs_okM hs_ms hs_m68 = true := by decide +kernel
theorem hs_k69 : hs_okM hs_ms hs_m69 = true := by decide +kernel
theorem hs_k70 : hs_okM hs_ms hs_m70 = true := by decide +kernel
theorem hs_k71 : hs_okM hs_ms hs_m71 = true := by decide +kernel
theorem hs_k72 : hs_okM hs_ms hs_m72 = true := by decide +kernel
theorem hs_k73 : hs_okM hs_ms hs_m73 = true := by decide +kernel
theorem hs_k74 : hs_okM hs_ms hs_m74 = true := by decide +kernel
theorem hs_k75 : hs_okM hs_ms hs_m75 = true := by decide +kernel
theorem hs_k76 : hs_okM hs_ms hs_m76 = true := by decide +kernel
theorem hs_k77 : hs_okM hs_ms hs_m77 = true := by decide +kernel
theorem hs_k78 : hs_okM hs_ms hs_m78 = true := by decide +kernel
theorem hs_k79 : hs_okM hs_ms hs_m79 = true := by decide +kernel
theorem hs_k80 : hs_okM hs_ms hs_m80 = true := by decide +kernel
theorem hs_k81 : hs_okM hs_ms hs_m81 = true := by decide +kernel
theorem hs_k82 : hs_okM hs_ms hs_m82 = true := by decide +kernel
theorem hs_k83 : hs_okM hs_ms hs_m83 = true := by decide +kernel
theorem hs_k84 : hs_okM hs_ms hs_m84 = true := by decide +kernel
theorem hs_k85 : hs_okM hs_ms hs_m85 = true := by decide +kernel
theorem hs_k86 : hs_okM hs_ms hs_m86 = true := by decide +kernel
theorem hs_k87 : hs_okM hs_ms hs_m87 = true := by decide +kernel
theorem hs_k88 : hs_okM hs_ms hs_m88 = true := by decide +kernel
theorem hs_k89 : hs_okM hs_ms hs_m89 = true := by decide +kernel
theorem hs_k90 : hs_okM hs_ms hs_m90 = true := by decide +kernel
theorem hs_k91 : hs_okM hs_ms hs_m91 = true := by decide +kernel
theorem hs_k92 : hs_okM hs_ms hs_m92 = true := by decide +kernel
theorem hs_k93 : hs_okM hs_ms hs_m93 = true := by decide +kernel
theorem hs_k94 : hs_okM hs_ms hs_m94 = true := by decide +kernel
theorem hs_k95 : hs_okM hs_ms hs_m95 = true := by decide +kernel
theorem hs_k96 : hs_okM hs_ms hs_m96 = true := by decide +kernel
theorem hs_k97 : hs_okM hs_ms hs_m97 = true := by decide +kernel
theorem hs_k98 : hs_okM hs_ms hs_m98 = true := by decide +kernel
theorem hs_k99 : hs_okM hs_ms hs_m99 = true := by decide +kernel
theorem hs_k100 : hs_okM hs_ms hs_m100 = true := by decide +kernel
theorem hs_k101 : hs_okM hs_ms hs_m101 = true := by decide +kernel
theorem hs_k102 : hs_okM hs_ms hs_m102 = true := by decide +kernel
theorem hs_k103 : hs_okM hs_ms hs_m103 = true := by decide +kernel
theorem hs_k104 : hs_okM hs_ms hs_m104 = true := by decide +kernel
theorem hs_k105 : hs_okM hs_ms hs_m105 = true := by decide +kernel
theorem hs_k106 : hs_okM hs_ms hs_m106 = true := by decide +kernel
theorem hs_k107 : hs_okM hs_ms hs_m107 = true := by decide +kernel
theorem hs_k108 : hs_okM hs_ms hs_m108 = true := by decide +kernel
theorem hs_k109 : hs_okM hs_ms hs_m109 = true := by decide +kernel
theorem hs_k110 : hs_okM hs_ms hs_m110 = true := by decide +kernel
theorem hs_k111 : hs_okM hs_ms hs_m111 = true := by decide +kernel
theorem hs_k112 : hs_okM hs_ms hs_m112 = true := by decide +kernel
theorem hs_k113 : hs_okM hs_ms hs_m113 = true := by decide +kernel
theorem hs_k114 : hs_okM hs_ms hs_m114 = true := by decide +kernel
theorem hs_k115 : hs_okM hs_ms hs_m115 = true := by decide +kernel
theorem hs_k116 : hs_okM hs_ms hs_m116 = true := by decide +kernel
theorem hs_k117 : hs_okM hs_ms hs_m117 = true := by decide +kernel
theorem hs_k118 : hs_okM hs_ms hs_m118 = true := by decide +kernel
theorem hs_k119 : hs_okM hs_ms hs_m119 = true := by decide +kernel
theorem hs_k120 : hs_okM hs_ms hs_m120 = true := by decide +kernel
theorem hs_k121 : hs_okM hs_ms hs_m121 = true := by decide +kernel
theorem hs_k122 : hs_okM hs_ms hs_m122 = true := by decide +kernel
theorem hs_k123 : hs_okM hs_ms hs_m123 = true := by decide +kernel
theorem hs_k124 : hs_okM hs_ms hs_m124 = true := by decide +kernel
theorem hs_k125 : hs_okM hs_ms hs_m125 = true := by decide +kernel
theorem hs_k126 : hs_okM hs_ms hs_m126 = true := by decide +kernel
theorem hs_k127 : hs_okM hs_ms hs_m127 = true := by decide +kernel
theorem hs_k128 : hs_okM hs_ms hs_m128 = true := by decide +kernel
theorem hs_k129 : hs_okM hs_ms hs_m129 = true := by decide +kernel
theorem hs_k130 : hs_okM hs_ms hs_m130 = true := by decide +kernel
theorem hs_k131 : hs_okM hs_ms hs_m131 = true := by decide +kernel
theorem hs_k132 : hs_okM hs_ms hs_m132 = true := by decide +kernel
theorem hs_k133 : hs_okM hs_ms hs_m133 = true := by decide +kernel
theorem hs_k134 : hs_okM hs_ms hs_m134 = true := by decide +kernel
theorem hs_k135 : hs_okM hs_ms hs_m135 = true := by decide +kernel
theorem hs_k136 : hs_okM hs_ms hs_m136 = true := by decide +kernel
theorem hs_k137 : hs_okM hs_ms hs_m137 = true := by decide +kernel
theorem hs_k138 : hs_okM hs_ms hs_m138 = true := by decide +kernel
theorem hs_k139 : hs_okM hs_ms hs_m139 = true := by decide +kernel
theorem hs_k140 : hs_okM hs_ms hs_m140 = true := by decide +kernel
theorem hs_k141 : hs_okM hs_ms hs_m141 = true := by decide +kernel
theorem hs_k142 : hs_okM hs_ms hs_m142 = true := by decide +kernel
theorem hs_k143 : hs_okM hs_ms hs_m143 = true := by decide +kernel
theorem hs_k144 : hs_okM hs_ms hs_m144 = true := by decide +kernel
theorem hs_k145 : hs_okM hs_ms hs_m145 = true := by decide +kernel
theorem hs_k146 : hs_okM hs_ms hs_m146 = true := by decide +kernel
theorem hs_k147 : hs_okM hs_ms hs_m147 = true := by decide +kernel
theorem hs_k148 : hs_okM hs_ms hs_m148 = true := by decide +kernel
theorem hs_k149 : hs_okM hs_ms hs_m149 = true := by decide +kernel
theorem hs_k150 : hs_okM hs_ms hs_m150 = true := by decide +kernel
theorem hs_k151 : hs_okM hs_ms hs_m151 = true := by decide +kernel
theorem hs_k152 : hs_okM hs_ms hs_m152 = true := by decide +kernel
theorem hs_k153 : hs_okM hs_ms hs_m153 = true := by decide +kernel
theorem hs_k154 : hs_okM hs_ms hs_m154 = true := by decide +kernel
theorem hs_k155 : hs_okM hs_ms hs_m155 = true := by decide +kernel
theorem hs_k156 : hs_okM hs_ms hs_m156 = true := by decide +kernel
theorem hs_k157 : hs_okM hs_ms hs_m157 = true := by decide +kernel
theorem hs_k158 : hs_okM hs_ms hs_m158 = true := by decide +kernel
theorem hs_k159 : hs_okM hs_ms hs_m159 = true := by decide +kernel
theorem hs_k160 : hs_okM hs_ms hs_m160 = true := by decide +kernel
theorem hs_k161 : hs_okM hs_ms hs_m161 = true := by decide +kernel
theorem hs_k162 : hs_okM hs_ms hs_m162 = true := by decide +kernel
theorem hs_k163 : hs_okM hs_ms hs_m163 = true := by decide +kernel
theorem hs_k164 : hs_okM hs_ms hs_m164 = true := by decide +kernel
theorem hs_k165 : hs_okM hs_ms hs_m165 = true := by decide +kernel
theorem hs_k166 : hs_okM hs_ms hs_m166 = true := by decide +kernel
theorem hs_k167 : hs_okM hs_ms hs_m167 = true := by decide +kernel
theorem hs_k168 : hs_okM hs_ms hs_m168 = true := by decide +kernel
theorem hs_k169 : hs_okM hs_ms hs_m169 = true := by decide +kernel
theorem hs_k170 : hs_okM hs_ms hs_m170 = true := by decide +kernel
theorem hs_k171 : hs_okM hs_ms hs_m171 = true := by decide +kernel
theorem hs_k172 : hs_okM hs_ms hs_m172 = true := by decide +kernel
theorem hs_k173 : hs_okM hs_ms hs_m173 = true := by decide +kernel
theorem hs_k174 : hs_okM hs_ms hs_m174 = true := by decide +kernel
theorem hs_k175 : hs_okM hs_ms hs_m175 = true := by decide +kernel
theorem hs_k176 : hs_okM hs_ms hs_m176 = true := by decide +kernel
theorem hs_k177 : hs_okM hs_ms hs_m177 = true := by decide +kernel
theorem hs_k178 : hs_okM hs_ms hs_m178 = true := by decide +kernel
theorem hs_k179 : hs_okM hs_ms hs_m179 = true := by decide +kernel
theorem hs_k180 : hs_okM hs_ms hs_m180 = true := by decide +kernel
theorem hs_k181 : hs_okM hs_ms hs_m181 = true := by decide +kernel
theorem hs_k182 : hs_okM hs_ms hs_m182 = true := by decide +kernel
theorem hs_k183 : hs_okM hs_ms hs_m183 = true := by decide +kernel
theorem hs_k184 : hs_okM hs_ms hs_m184 = true := by decide +kernel
theorem hs_k185 : hs_okM hs_ms hs_m185 = true := by decide +kernel
theorem hs_k186 : hs_okM hs_ms hs_m186 = true := by decide +kernel
theorem hs_k187 : hs_okM hs_ms hs_m187 = true := by decide +kernel
theorem hs_k188 : hs_okM hs_ms hs_m188 = true := by decide +kernel
theorem hs_k189 : hs_okM hs_ms hs_m189 = true := by decide +kernel
theorem hs_k190 : hs_okM hs_ms hs_m190 = true := by decide +kernel
theorem hs_k191 : hs_okM hs_ms hs_m191 = true := by decide +kernel
theorem hs_k192 : hs_okM hs_ms hs_m192 = true := by decide +kernel
theorem hs_k193 : hs_okM hs_ms hs_m193 = true := by decide +kernel
theorem hs_k194 : hs_okM hs_ms hs_m194 = true := by decide +kernel
theorem hs_k195 : hs_okM hs_ms hs_m195 = true := by decide +kernel
theorem hs_k196 : hs_okM hs_ms hs_m196 = true := by decide +kernel
theorem hs_k197 : hs_okM hs_ms hs_m197 = true := by decide +kernel
theorem hs_k198 : hs_okM hs_ms hs_m198 = true := by decide +kernel
theorem hs_k199 : hs_okM hs_ms hs_m199 = true := by decide +kernel
theorem hs_k200 : hs_okM hs_ms hs_m200 = true := by decide +kernel
theorem hs_k201 : hs_okM hs_ms hs_m201 = true := by decide +kernel
theorem hs_k202 : hs_okM hs_ms hs_m202 = true := by decide +kernel
theorem hs_k203 : hs_okM hs_ms hs_m203 = true := by decide +kernel
theorem hs_k204 : hs_okM hs_ms hs_m204 = true := by decide +kernel
theorem hs_k205 : hs_okM hs_ms hs_m205 = true := by decide +kernel
theorem hs_k206 : hs_okM hs_ms hs_m206 = true := by decide +kernel
theorem hs_k207 : hs_okM hs_ms hs_m207 = true := by decide +kernel
theorem hs_k208 : hs_okM hs_ms hs_m208 = true := by decide +kernel
theorem hs_k209 : hs_okM hs_ms hs_m209 = true := by decide +kernel
theorem hs_k210 : hs_okM hs_ms hs_m210 = true := by decide +kernel
theorem hs_k211 : hs_okM hs_ms hs_m211 = true := by decide +kernel
theorem hs_k212 : hs_okM hs_ms hs_m212 = true := by decide +kernel
theorem hs_k213 : hs_okM hs_ms hs_m213 = true := by decide +kernel
theorem hs_k214 : hs_okM hs_ms hs_m214 = true := by decide +kernel
theorem hs_k215 : hs_okM hs_ms hs_m215 = true := by decide +kernel
theorem hs_k216 : hs_okM hs_ms hs_m216 = true := by decide +kernel
theorem hs_k217 : hs_okM hs_ms hs_m217 = true := by decide +kernel
theorem hs_k218 : hs_okM hs_ms hs_m218 = true := by decide +kernel
theorem hs_k219 : hs_okM hs_ms hs_m219 = true := by decide +kernel
theorem hs_k220 : hs_okM hs_ms hs_m220 = true := by decide +kernel
theorem hs_k221 : hs_okM hs_ms hs_m221 = true := by decide +kernel
theorem hs_k222 : hs_okM hs_ms hs_m222 = true := by decide +kernel
theorem hs_k223 : hs_okM hs_ms hs_m223 = true := by decide +kernel
theorem hs_k224 : hs_okM hs_ms hs_m224 = true := by decide +kernel
theorem hs_k225 : hs_okM hs_ms hs_m225 = true := by decide +kernel
theorem hs_k226 : hs_okM hs_ms hs_m226 = true := by decide +kernel
theorem hs_k227 : hs_okM hs_ms hs_m227 = true := by decide +kernel
theorem hs_k228 : hs_okM hs_ms hs_m228 = true := by decide +kernel
theorem hs_k229 : hs_okM hs_ms hs_m229 = true := by decide +kernel
theorem hs_k230 : hs_okM hs_ms hs_m230 = true := by decide +kernel
theorem hs_k231 : hs_okM hs_ms hs_m231 = true := by decide +kernel
theorem hs_k232 : hs_okM hs_ms hs_m232 = true := by decide +kernel
theorem hs_k233 : hs_okM hs_ms hs_m233 = true := by decide +kernel
theorem hs_k234 : hs_okM hs_ms hs_m234 = true := by decide +kernel
theorem hs_k235 : hs_okM hs_ms hs_m235 = true := by decide +kernel
theorem hs_k236 : hs_okM hs_ms hs_m236 = true := by decide +kernel
theorem hs_k237 : hs_okM hs_ms hs_m237 = true := by decide +kernel
theorem hs_k238 : hs_okM hs_ms hs_m238 = true := by decide +kernel
theorem hs_k239 : hs_okM hs_ms hs_m239 = true := by decide +kernel
theorem hs_k240 : hs_okM hs_ms hs_m240 = true := by decide +kernel
theorem hs_k241 : hs_okM hs_ms hs_m241 = true := by decide +kernel
theorem hs_k242 : hs_okM hs_ms hs_m242 = true := by decide +kernel
theorem hs_k243 : hs_okM hs_ms hs_m243 = true := by decide +kernel
theorem hs_k900 : hs_okM hs_ms hs_m900 = true := by decide +kernel
theorem hs_bif {P : hs_M → Prop} {b : Bool} {x y : hs_M} (hx : P x) (hy : P y) : P (bif b then x else y) := by cases b; exact hy; exact hx
theorem hs_mt_ok (y : Nat) : hs_okM hs_ms (hs_mt y) = true := (hs_bif (P := fun M => hs_okM hs_ms M = true) (hs_bif (P := fun M => hs_okM hs_ms M = true) (hs_bif (P := fun M => hs_okM hs_ms M = true) (hs_bif (P := fun M => hs_okM hs_ms M = true) (hs_bif (P := fun M => hs_okM hs_ms M = true) (hs_bif (P := fun M => hs_okM hs_ms M = true) (hs_bif (P := fun M => hs_okM hs_ms M = true) hs_k0 (hs_bif (P := fun M => hs_okM hs_ms M = true) hs_k1 hs_k2)) (hs_bif (P := fun M => hs_okM hs_ms M = true) (hs_bif (P := fun M => hs_okM hs_ms M = true) hs_k3 hs_k4) (hs_bif (P := fun M => hs_okM hs_ms M = true) hs_k5 hs_k6))) (hs_bif (P := fun M => hs_okM hs_ms M = true) (hs_bif (P := fun M => hs_okM hs_ms M = true) (hs_bif (P := fun M => hs_okM hs_ms M = true) hs_k7 hs_k8) (hs_bif (P := fun M => hs_okM hs_ms M = true) hs_k9 hs_k10)) (hs_bif (P := fun M => hs_okM hs_ms M = true) (hs_bif (P := fun M => hs_okM hs_ms M = true) hs_k11 hs_k12) (hs_bif (P := fun M => hs_okM hs_ms M = true) hs_k13 hs_k14)))) (hs_bif (P := fun M => hs_okM hs_ms M = true) (hs_bif (P := fun M => hs_okM hs_ms M = true) (hs_bif (P := fun M => hs_okM hs_ms M = true) hs_k15 (hs_bif (P := fun M => hs_okM hs_ms M = true) hs_k16 hs_k17)) (hs_bif (P := fun M => hs_okM hs_ms M = true) (hs_bif (P := fun M => hs_okM hs_ms M = true) hs_k18 hs_k19) (hs_bif (P := fun M => hs_okM hs_ms M = true) hs_k20 hs_k21))) (hs_bif (P := fun M => hs_okM hs_ms M = true) (hs_bif (P := fun M => hs_okM hs_ms M = true) (hs_bif (P := fun M => hs_okM hs_ms M = true) hs_k22 hs_k23) (hs_bif (P := fun M => hs_okM hs_ms M = true) hs_k24 hs_k25)) (hs_bif (P := fun M => hs_okM hs_ms M = true) (hs_bif (P := fun M => hs_okM hs_ms M = true) hs_k26 hs_k27) (hs_bif (P := fun M => hs_okM hs_ms M = true) hs_k28 hs_k29))))) (hs_bif (P := fun M => hs_okM hs_ms M = true) (hs_bif (P := fun M => hs_okM hs_ms M = true) (hs_bif (P := fun M => hs_okM hs_ms M = true) (hs_bif (P := fun M => hs_okM hs_ms M = true) hs_k30 (hs_bif (P := fun M => hs_okM hs_ms M = true) hs_k31 hs_k32)) (hs_bif (P := fun M => hs_okM hs_ms M = true) (hs_bif (P := fun M => hs_okM hs_ms M = true) hs_k33 hs_k34) (hs_bif (P := fun M => hs_okM hs_ms M = true) hs_k35 hs_k36))) (hs_bif (P := fun M => hs_okM hs_ms M = true) (hs_bif (P := fun M => hs_okM hs_ms M = true) (hs_bif (P := fun M => hs_okM hs_ms M = true) hs_k37 hs_k38) (hs_bif (P := fun M => hs_okM hs_ms M = true) hs_k39 hs_k40)) (hs_bif (P := fun M => hs_okM hs_ms M = true) (hs_bif (P := fun M => hs_okM hs_ms M = true) hs_k41 hs_k42) (hs_bif (P := fun M => hs_okM hs_ms M = true) hs_k43 hs_k44)))) (hs_bif (P := fun M => hs_okM hs_ms M = true) (hs_bif (P := fun M => hs_okM hs_ms M = true) (hs_bif (P := fun M => hs_okM hs_ms M = true) (hs_bif (P := fun M => hs_okM hs_ms M = true) hs_k45 hs_k46) (hs_bif (P := fun M => hs_okM hs_ms M = true) hs_k47 hs_k48)) (hs_bif (P := fun M => hs_okM hs_ms M = true) (hs_bif (P := fun M => hs_okM hs_ms M = true) hs_k49 hs_k50) (hs_bif (P := fun M => hs_okM hs_ms M = true) hs_k51 hs_k52))) (hs_bif (P := fun M => hs_okM hs_ms M = true) (hs_bif (P := fun M => hs_okM hs_ms M = true) (hs_bif (P := fun M => hs_okM hs_ms M = true) hs_k53 hs_k54) (hs_bif (P := fun M => hs_okM hs_ms M = true) hs_k55 hs_k56)) (hs_bif (P := fun M => hs_okM hs_ms M = true) (hs_bif (P := fun M => hs_okM hs_ms M = true) hs_k57 hs_k58) (hs_bif (P := fun M => hs_okM hs_ms M = true) hs_k59 hs_k60)))))) (hs_bif (P := fun M => hs_okM hs_ms M = true) (hs_bif (P := fun M => hs_okM hs_ms M = true) (hs_bif (P := fun M => hs_okM hs_ms M = true) (hs_bif (P := fun M => hs_okM hs_ms M = true) (hs_bif (P := fun M => hs_okM hs_ms M = true) hs_k61 (hs_bif (P := fun M => hs_okM hs_ms M = true) hs_k62 hs_k63)) (hs_bif (P := fun M => hs_okM hs_ms M = true) (hs_bif (P := fun M => hs_okM hs_ms M = true) hs_k64 hs_k65) (hs_bif (P := fun M => hs_okM hs_ms M = true) hs_k66 hs_k67))) (hs_bif (P := fun M => hs_okM hs_ms M = true) (hs_bif (P := fun M => hs_okM hs_ms M = true) (hs_bif (P := fun M => hs_okM hs_ms M = true) hs_k68 hs_k69) (hs_bif (P := fun M => hs_okM hs_ms M = true) hs_k70 hs_k71)) (hs_bif (P := fun M => hs_okM hs_ms M = true) (hs_bif (P := fun M => hs_okM hs_ms M = true) hs_k72 hs_k73) (hs_bif (P := fun M => hs_okM hs_ms M = true) hs_k74 hs_k75)))) (hs_bif (P := fun M => hs_okM hs_ms M = true) (hs_bif (P := fun M => hs_okM hs_ms M = true) (hs_bif (P := fun M => hs_okM hs_ms M = true) hs_k76 (hs_bif (P := fun M => hs_okM hs_ms M = true) hs_k77 hs_k78)) (hs_bif (P := fun M => hs_okM hs_ms M = true) (hs_bif (P := fun M => hs_okM hs_ms M = true) hs_k79 hs_k80) (hs_bif (P := fun M => hs_okM hs_ms M = true) hs_k81 hs_k82))) (hs_bif (P := fun M => hs_okM hs_ms M = true) (hs_bif (P := fun M => hs_okM hs_ms M = true) (hs_bif (P := fun M => hs_okM hs_ms M = true) hs_k83 hs_k84) (hs_bif (P := fun M => hs_okM hs_ms M = true) hs_k85 hs_k86)) (hs_bif (P := fun M => hs_okM hs_ms M = true) (hs_bif (P := fun M => hs_okM hs_ms M = true) hs_k87 hs_k88) (hs_bif (P := fun M => hs_okM hs_ms M = true) hs_k89 hs_k90))))) (hs_bif (P := fun M => hs_okM hs_ms M = true) (hs_bif (P := fun M => hs_okM hs_ms M = true) (hs_bif (P := fun M => hs_okM hs_ms M = true) (hs_bif (P := fun M => hs_okM hs_ms M = true) hs_k91 (hs_bif (P := fun M => hs_okM hs_ms M = true) hs_k92 hs_k93)) (hs_bif (P := fun M => hs_okM hs_ms M = true) (hs_bif (P := fun M => hs_okM hs_ms M = true) hs_k94 hs_k95) (hs_bif (P := fun M => hs_okM hs_ms M = true) hs_k96 hs_k97))) (hs_bif (P := fun M => hs_okM hs_ms M = true) (hs_bif (P := fun M => hs_okM hs_ms M = true) (hs_bif (P := fun M => hs_okM hs_ms M = true) hs_k98 hs_k99) (hs_bif (P := fun M => hs_okM hs_ms M = true) hs_k100 hs_k101)) (hs_bif (P := fun M => hs_okM hs_ms M = true) (hs_bif (P := fun M => hs_okM hs_ms M = true) hs_k102 hs_k103) (hs_bif (P := fun M => hs_okM hs_ms M = true) hs_k104 hs_k105)))) (hs_bif (P := fun M => hs_okM hs_ms M = true) (hs_bif (P := fun M => hs_okM hs_ms M = true) (hs_bif (P := fun M => hs_okM hs_ms M = true) (hs_bif (P := fun M => hs_okM hs_ms M = true) hs_k106 hs_k107) (hs_bif (P := fun M => hs_okM hs_ms M = true) hs_k108 hs_k109)) (hs_bif (P := fun M => hs_okM hs_ms M = true) (hs_bif (P := fun M => hs_okM hs_ms M = true) hs_k110 hs_k111) (hs_bif (P := fun M => hs_okM hs_ms M = true) hs_k112 hs_k113))) (hs_bif (P := fun M => hs_okM hs_ms M = true) (hs_bif (P := fun M => hs_okM hs_ms M = true) (hs_bif (P := fun M => hs_okM hs_ms M = true) hs_k114 hs_k115) (hs_bif (P := fun M => hs_okM hs_ms M = true) hs_k116 hs_k117)) (hs_bif (P := fun M => hs_okM hs_ms M = true) (hs_bif (P := fun M => hs_okM hs_ms M = true) hs_k118 hs_k119) (hs_bif (P := fun M => hs_okM hs_ms M = true) hs_k120 hs_k121))))))) (hs_bif (P := fun M => hs_okM hs_ms M = true) (hs_bif (P := fun M => hs_okM hs_ms M = true) (hs_bif (P := fun M => hs_okM hs_ms M = true) (hs_bif (P := fun M => hs_okM hs_ms M = true) (hs_bif (P := fun M => hs_okM hs_ms M = true) (hs_bif (P := fun M => hs_okM hs_ms M = true) hs_k122 (hs_bif (P := fun M => hs_okM hs_ms M = true) hs_k123 hs_k124)) (hs_bif (P := fun M => hs_okM hs_ms M = true) (hs_bif (P := fun M => hs_okM hs_ms M = true) hs_k125 hs_k126) (hs_bif (P := fun M => hs_okM hs_ms M = true) hs_k127 hs_k128))) (hs_bif (P := fun M => hs_okM hs_ms M = true) (hs_bif (P := fun M => hs_okM hs_ms M = true) (hs_bif (P := fun M => hs_okM hs_ms M = true) hs_k129 hs_k130) (hs_bif (P := fun M => hs_okM hs_ms M = true) hs_k131 hs_k132)) (hs_bif (P := fun M => hs_okM hs_ms M = true) (hs_bif (P := fun M => hs_okM hs_ms M = true) hs_k133 hs_k134) (hs_bif (P := fun M => hs_okM hs_ms M = true) hs_k135 hs_k136)))) (hs_bif (P := fun M => hs_okM hs_ms M = true) (hs_bif (P := fun M => hs_okM hs_ms M = true) (hs_bif (P := fun M => hs_okM hs_ms M = true) hs_k137 (hs_bif (P := fun M => hs_okM hs_ms M = true) hs_k138 hs_k139)) (hs_bif (P := fun M => hs_okM hs_ms M = true) (hs_bif (P := fun M => hs_okM hs_ms M = true) hs_k140 hs_k141) (hs_bif (P := fun M => hs_okM hs_ms M = true) hs_k142 hs_k143))) (hs_bif (P := fun M => hs_okM hs_ms M = true) (hs_bif (P := fun M => hs_okM hs_ms M = true) (hs_bif (P := fun M => hs_okM hs_ms M = true) hs_k144 hs_k145) (hs_bif (P := fun M => hs_okM hs_ms M = true) hs_k146 hs_k147)) (hs_bif (P := fun M => hs_okM hs_ms M = true) (hs_bif (P := fun M => hs_okM hs_ms M = true) hs_k148 hs_k149) (hs_bif (P := fun M => hs_okM hs_ms M = true) hs_k150 hs_k151))))) (hs_bif (P := fun M => hs_okM hs_ms M = true) (hs_bif (P := fun M => hs_okM hs_ms M = true) (hs_bif (P := fun M => hs_okM hs_ms M = true) (hs_bif (P := fun M => hs_okM hs_ms M = true) hs_k152 (hs_bif (P := fun M => hs_okM hs_ms M = true) hs_k153 hs_k154)) (hs_bif (P := fun M => hs_okM hs_ms M = true) (hs_bif (P := fun M => hs_okM hs_ms M = true) hs_k155 hs_k156) (hs_bif (P := fun M => hs_okM hs_ms M = true) hs_k157 hs_k158))) (hs_bif (P := fun M => hs_okM hs_ms M = true) (hs_bif (P := fun M => hs_okM hs_ms M = true) (hs_bif (P := fun M => hs_okM hs_ms M = true) hs_k159 hs_k160) (hs_bif (P := fun M => hs_okM hs_ms M = true) hs_k161 hs_k162)) (hs_bif (P := fun M => hs_okM hs_ms M = true) (hs_bif (P := fun M => hs_okM hs_ms M = true) hs_k163 hs_k164) (hs_bif (P := fun M => hs_okM hs_ms M = true) hs_k165 hs_k166)))) (hs_bif (P := fun M => hs_okM hs_ms M = true) (hs_bif (P := fun M => hs_okM hs_ms M = true) (hs_bif (P := fun M => hs_okM hs_ms M = true) (hs_bif (P := fun M => hs_okM hs_ms M = true) hs_k167 hs_k168) (hs_bif (P := fun M => hs_okM hs_ms M = true) hs_k169 hs_k170)) (hs_bif (P := fun M => hs_okM hs_ms M = true) (hs_bif (P := fun M => hs_okM hs_ms M = true) hs_k171 hs_k172) (hs_bif (P := fun M => hs_okM hs_ms M = true) hs_k173 hs_k174))) (hs_bif (P := fun M => hs_okM hs_ms M = true) (hs_bif (P := fun M => hs_okM hs_ms M = true) (hs_bif (P := fun M => hs_okM hs_ms M = true) hs_k175 hs_k176) (hs_bif (P := fun M => hs_okM hs_ms M = true) hs_k177 hs_k178)) (hs_bif (P := fun M => hs_okM hs_ms M = true) (hs_bif (P := fun M => hs_okM hs_ms M = true) hs_k179 hs_k180) (hs_bif (P := fun M => hs_okM hs_ms M = true) hs_k181 hs_k182)))))) (hs_bif (P := fun M => hs_okM hs_ms M = true) (hs_bif (P := fun M => hs_okM hs_ms M = true) (hs_bif (P := fun M => hs_okM hs_ms M = true) (hs_bif (P := fun M => hs_okM hs_ms M = true) (hs_bif (P := fun M => hs_okM hs_ms M = true) hs_k183 (hs_bif (P := fun M => hs_okM hs_ms M = true) hs_k184 hs_k185)) (hs_bif (P := fun M => hs_okM hs_ms M = true) (hs_bif (P := fun M => hs_okM hs_ms M = true) hs_k186 hs_k187) (hs_bif (P := fun M => hs_okM hs_ms M = true) hs_k188 hs_k189))) (hs_bif (P := fun M => hs_okM hs_ms M = true) (hs_bif (P := fun M => hs_okM hs_ms M = true) (hs_bif (P := fun M => hs_okM hs_ms M = true) hs_k190 hs_k191) (hs_bif (P := fun M => hs_okM hs_ms M = true) hs_k192 hs_k193)) (hs_bif (P := fun M => hs_okM hs_ms M = true) (hs_bif (P := fun M => hs_okM hs_ms M = true) hs_k194 hs_k195) (hs_bif (P := fun M => hs_okM hs_ms M = true) hs_k196 hs_k197)))) (hs_bif (P := fun M => hs_okM hs_ms M = true) (hs_bif (P := fun M => hs_okM hs_ms M = true) (hs_bif (P := fun M => hs_okM hs_ms M = true) hs_k198 (hs_bif (P := fun M => hs_okM hs_ms M = true) hs_k199 hs_k200)) (hs_bif (P := fun M => hs_okM hs_ms M = true) (hs_bif (P := fun M => hs_okM hs_ms M = true) hs_k201 hs_k202) (hs_bif (P := fun M => hs_okM hs_ms M = true) hs_k203 hs_k204))) (hs_bif (P := fun M => hs_okM hs_ms M = true) (hs_bif (P := fun M => hs_okM hs_ms M = true) (hs_bif (P := fun M => hs_okM hs_ms M = true) hs_k205 hs_k206) (hs_bif (P := fun M => hs_okM hs_ms M = true) hs_k207 hs_k208)) (hs_bif (P := fun M => hs_okM hs_ms M = true) (hs_bif (P := fun M => hs_okM hs_ms M = true) hs_k209 hs_k210) (hs_bif (P := fun M => hs_okM hs_ms M = true) hs_k211 hs_k212))))) (hs_bif (P := fun M => hs_okM hs_ms M = true) (hs_bif (P := fun M => hs_okM hs_ms M = true) (hs_bif (P := fun M => hs_okM hs_ms M = true) (hs_bif (P := fun M => hs_okM hs_ms M = true) hs_k213 (hs_bif (P := fun M => hs_okM hs_ms M = true) hs_k214 hs_k215)) (hs_bif (P := fun M => hs_okM hs_ms M = true) (hs_bif (P := fun M => hs_okM hs_ms M = true) hs_k216 hs_k217) (hs_bif (P := fun M => hs_okM hs_ms M = true) hs_k218 hs_k219))) (hs_bif (P := fun M => hs_okM hs_ms M = true) (hs_bif (P := fun M => hs_okM hs_ms M = true) (hs_bif (P := fun M => hs_okM hs_ms M = true) hs_k220 hs_k221) (hs_bif (P := fun M => hs_okM hs_ms M = true) hs_k222 hs_k223)) (hs_bif (P := fun M => hs_okM hs_ms M = true) (hs_bif (P := fun M => hs_okM hs_ms M = true) hs_k224 hs_k225) (hs_bif (P := fun M => hs_okM hs_ms M = true) hs_k226 hs_k227)))) (hs_bif (P := fun M => hs_okM hs_ms M = true) (hs_bif (P := fun M => hs_okM hs_ms M = true) (hs_bif (P := fun M => hs_okM hs_ms M = true) (hs_bif (P := fun M => hs_okM hs_ms M = true) hs_k228 hs_k229) (hs_bif (P := fun M => hs_okM hs_ms M = true) hs_k230 hs_k231)) (hs_bif (P := fun M => hs_okM hs_ms M = true) (hs_bif (P := fun M => hs_okM hs_ms M = true) hs_k232 hs_k233) (hs_bif (P := fun M => hs_okM hs_ms M = true) hs_k234 hs_k235))) (hs_bif (P := fun M => hs_okM hs_ms M = true) (hs_bif (P := fun M => hs_okM hs_ms M = true) (hs_bif (P := fun M => hs_okM hs_ms M = true) hs_k236 hs_k237) (hs_bif (P := fun M => hs_okM hs_ms M = true) hs_k238 hs_k239)) (hs_bif (P := fun M => hs_okM hs_ms M = true) (hs_bif (P := fun M => hs_okM hs_ms M = true) hs_k240 hs_k241) (hs_bif (P := fun M => hs_okM hs_ms M = true) hs_k242 hs_k243))))))))
theorem hs_ms_ok (y : Nat) (hy : y < 900) : hs_okM hs_ms (hs_ms y) = true := by
  have e : Nat.beq y 901 = false := by
    cases h : Nat.beq y 901 with
    | false => rfl
    | true =>
      have := Nat.eq_of_beq_eq_true h
      omega
  have h2 : hs_ms y = bif Nat.blt y 244 then hs_mt y else hs_m900 := by
    show (bif Nat.blt y 244 then hs_mt y else bif Nat.beq y 901 then hs_m901 else hs_m900) = _
    rw [e]
    rfl
  rw [h2]
  exact hs_bif (P := fun M => hs_okM hs_ms M = true) (hs_mt_ok y) hs_k900
