/-! RoomMapperModel.<init>()V -/
theorem mX9_init_ol1 : Cond.methodLink RX9 1 objectInit ∈ wsX9_init := by decide +kernel
theorem mX9_init_oi : Cond.instanceMethod objectInit ∈ wsX9_init := by decide +kernel
theorem mX9_init_oc : Cond.code objectInit ⟨#[0xb1]⟩ 1 none ∈ wsX9_init := by decide +kernel
theorem mX9_init_fl7 : Cond.fieldLink RX9 7 "RoomMapperModel" "sign" "[I" ∈ wsX9_init := by decide +kernel
theorem wiX9_init_9 : ∀ w ∈ u_ws RX9 TX9 52, w ∈ wsX9_init := by decide +kernel
theorem mX9_init_fl13 : Cond.fieldLink RX9 13 "RoomMapperModel" "plate" "[Z" ∈ wsX9_init := by decide +kernel
theorem mX9_init_fl17 : Cond.fieldLink RX9 17 "RoomMapperModel" "kind" "[I" ∈ wsX9_init := by decide +kernel
theorem mX9_init_fl20 : Cond.fieldLink RX9 20 "RoomMapperModel" "to" "[I" ∈ wsX9_init := by decide +kernel
theorem mX9_init_fl23 : Cond.fieldLink RX9 23 "RoomMapperModel" "walked" "[I" ∈ wsX9_init := by decide +kernel
theorem mX9_init_fl26 : Cond.fieldLink RX9 26 "RoomMapperModel" "wBump" "[I" ∈ wsX9_init := by decide +kernel
theorem mX9_init_fl29 : Cond.fieldLink RX9 29 "RoomMapperModel" "wSign" "[I" ∈ wsX9_init := by decide +kernel
theorem mX9_init_fl32 : Cond.fieldLink RX9 32 "RoomMapperModel" "wPebble" "[I" ∈ wsX9_init := by decide +kernel
theorem mX9_init_fl35 : Cond.fieldLink RX9 35 "RoomMapperModel" "places" "[I" ∈ wsX9_init := by decide +kernel
theorem mX9_init_fl38 : Cond.fieldLink RX9 38 "RoomMapperModel" "sSign" "[I" ∈ wsX9_init := by decide +kernel
theorem mX9_init_fl41 : Cond.fieldLink RX9 41 "RoomMapperModel" "sLead" "[I" ∈ wsX9_init := by decide +kernel
theorem mX9_init_fl44 : Cond.fieldLink RX9 44 "RoomMapperModel" "sAt" "[I" ∈ wsX9_init := by decide +kernel
theorem mX9_init_fl47 : Cond.fieldLink RX9 47 "RoomMapperModel" "sPebble" "[I" ∈ wsX9_init := by decide +kernel
theorem mX9_init_fl50 : Cond.fieldLink RX9 50 "RoomMapperModel" "sWas" "[B" ∈ wsX9_init := by decide +kernel
theorem mX9_init_fl54 : Cond.fieldLink RX9 54 "RoomMapperModel" "nPlaces" "[I" ∈ wsX9_init := by decide +kernel
theorem mX9_init_fl57 : Cond.fieldLink RX9 57 "RoomMapperModel" "nSign" "[I" ∈ wsX9_init := by decide +kernel
theorem mX9_init_fl60 : Cond.fieldLink RX9 60 "RoomMapperModel" "nLead" "[I" ∈ wsX9_init := by decide +kernel
theorem mX9_init_fl63 : Cond.fieldLink RX9 63 "RoomMapperModel" "nAt" "[I" ∈ wsX9_init := by decide +kernel
theorem mX9_init_fl66 : Cond.fieldLink RX9 66 "RoomMapperModel" "nPebble" "[I" ∈ wsX9_init := by decide +kernel
theorem mX9_init_fl69 : Cond.fieldLink RX9 69 "RoomMapperModel" "nWas" "[B" ∈ wsX9_init := by decide +kernel
theorem mX9_init_fl72 : Cond.fieldLink RX9 72 "RoomMapperModel" "far" "[I" ∈ wsX9_init := by decide +kernel
theorem mX9_init_fl75 : Cond.fieldLink RX9 75 "RoomMapperModel" "shown" "[I" ∈ wsX9_init := by decide +kernel
theorem mX9_init_fl78 : Cond.fieldLink RX9 78 "RoomMapperModel" "way" "[I" ∈ wsX9_init := by decide +kernel
theorem mX9_init_fl81 : Cond.fieldLink RX9 81 "RoomMapperModel" "hSign" "[I" ∈ wsX9_init := by decide +kernel
theorem mX9_init_fl84 : Cond.fieldLink RX9 84 "RoomMapperModel" "hLead" "[I" ∈ wsX9_init := by decide +kernel
theorem mX9_init_fl87 : Cond.fieldLink RX9 87 "RoomMapperModel" "met" "[Z" ∈ wsX9_init := by decide +kernel
theorem mX9_init_fl90 : Cond.fieldLink RX9 90 "RoomMapperModel" "stood" "[Z" ∈ wsX9_init := by decide +kernel
theorem mX9_init_fl93 : Cond.fieldLink RX9 93 "RoomMapperModel" "shelf" "[I" ∈ wsX9_init := by decide +kernel
theorem mX9_init_fl96 : Cond.fieldLink RX9 96 "RoomMapperModel" "shelfSize" "[I" ∈ wsX9_init := by decide +kernel
theorem mX9_init_fl99 : Cond.fieldLink RX9 99 "RoomMapperModel" "shelfWeight" "[I" ∈ wsX9_init := by decide +kernel
theorem mX9_init_fl102 : Cond.fieldLink RX9 102 "RoomMapperModel" "shelfFailure" "[I" ∈ wsX9_init := by decide +kernel
theorem mX9_init_fl105 : Cond.fieldLink RX9 105 "RoomMapperModel" "shelfRow" "[J" ∈ wsX9_init := by decide +kernel
theorem mX9_init_fl109 : Cond.fieldLink RX9 109 "RoomMapperModel" "between" "[J" ∈ wsX9_init := by decide +kernel
theorem mX9_init_acJ : Cond.arrayClass .long ∈ wsX9_init := by decide +kernel
theorem mX9_init_acI : Cond.arrayClass .int ∈ wsX9_init := by decide +kernel
theorem mX9_init_acZ : Cond.arrayClass .boolean ∈ wsX9_init := by decide +kernel
theorem mX9_init_acB : Cond.arrayClass .byte ∈ wsX9_init := by decide +kernel
def bX9_init (this : Nat) (u : mSt) (K : mSt → Prop) : Prop := ((mN u + 1 ≤ mCapC ∧ mT u + 10 ≤ mCapS) ∧ ∀ p_4 u_2, p_4 = mN u → u_2 = mnw u 12 10 → (∀ u_5, u_5 = mpR u_2 this 2 (some p_4) → ((mN u_5 + 1 ≤ mCapC ∧ mT u_5 + 10 ≤ mCapS) ∧ ∀ p_9 u_7, p_9 = mN u_5 → u_7 = mnw u_5 13 10 → (∀ u_10, u_10 = mpR u_7 this 3 (some p_9) → ((mN u_10 + 1 ≤ mCapC ∧ mT u_10 + 40 ≤ mCapS) ∧ ∀ p_14 u_12, p_14 = mN u_10 → u_12 = mnw u_10 14 40 → (∀ u_15, u_15 = mpR u_12 this 4 (some p_14) → ((mN u_15 + 1 ≤ mCapC ∧ mT u_15 + 40 ≤ mCapS) ∧ ∀ p_19 u_17, p_19 = mN u_15 → u_17 = mnw u_15 14 40 → (∀ u_20, u_20 = mpR u_17 this 5 (some p_19) → ((mN u_20 + 1 ≤ mCapC ∧ mT u_20 + 200 ≤ mCapS) ∧ ∀ p_24 u_22, p_24 = mN u_20 → u_22 = mnw u_20 22 200 → (∀ u_25, u_25 = mpR u_22 this 13 (some p_24) → ((mN u_25 + 1 ≤ mCapC ∧ mT u_25 + 200 ≤ mCapS) ∧ ∀ p_29 u_27, p_29 = mN u_25 → u_27 = mnw u_25 22 200 → (∀ u_30, u_30 = mpR u_27 this 14 (some p_29) → ((mN u_30 + 1 ≤ mCapC ∧ mT u_30 + 200 ≤ mCapS) ∧ ∀ p_34 u_32, p_34 = mN u_30 → u_32 = mnw u_30 22 200 → (∀ u_35, u_35 = mpR u_32 this 15 (some p_34) → ((mN u_35 + 1 ≤ mCapC ∧ mT u_35 + 200 ≤ mCapS) ∧ ∀ p_39 u_37, p_39 = mN u_35 → u_37 = mnw u_35 22 200 → (∀ u_40, u_40 = mpR u_37 this 16 (some p_39) → ((mN u_40 + 1 ≤ mCapC ∧ mT u_40 + 150 ≤ mCapS) ∧ ∀ p_44 u_42, p_44 = mN u_40 → u_42 = mnw u_40 15 150 → (∀ u_45, u_45 = mpR u_42 this 21 (some p_44) → ((mN u_45 + 1 ≤ mCapC ∧ mT u_45 + 900 ≤ mCapS) ∧ ∀ p_49 u_47, p_49 = mN u_45 → u_47 = mnw u_45 24 900 → (∀ u_50, u_50 = mpR u_47 this 22 (some p_49) → ((mN u_50 + 1 ≤ mCapC ∧ mT u_50 + 4500 ≤ mCapS) ∧ ∀ p_54 u_52, p_54 = mN u_50 → u_52 = mnw u_50 25 4500 → (∀ u_55, u_55 = mpR u_52 this 23 (some p_54) → ((mN u_55 + 1 ≤ mCapC ∧ mT u_55 + 150 ≤ mCapS) ∧ ∀ p_59 u_57, p_59 = mN u_55 → u_57 = mnw u_55 15 150 → (∀ u_60, u_60 = mpR u_57 this 24 (some p_59) → ((mN u_60 + 1 ≤ mCapC ∧ mT u_60 + 150 ≤ mCapS) ∧ ∀ p_64 u_62, p_64 = mN u_60 → u_62 = mnw u_60 15 150 → (∀ u_65, u_65 = mpR u_62 this 25 (some p_64) → ((mN u_65 + 1 ≤ mCapC ∧ mT u_65 + 30150 ≤ mCapS) ∧ ∀ p_69 u_67, p_69 = mN u_65 → u_67 = mnw u_65 26 30150 → (∀ u_70, u_70 = mpR u_67 this 26 (some p_69) → ((mN u_70 + 1 ≤ mCapC ∧ mT u_70 + 150 ≤ mCapS) ∧ ∀ p_74 u_72, p_74 = mN u_70 → u_72 = mnw u_70 15 150 → (∀ u_75, u_75 = mpR u_72 this 28 (some p_74) → ((mN u_75 + 1 ≤ mCapC ∧ mT u_75 + 900 ≤ mCapS) ∧ ∀ p_79 u_77, p_79 = mN u_75 → u_77 = mnw u_75 24 900 → (∀ u_80, u_80 = mpR u_77 this 29 (some p_79) → ((mN u_80 + 1 ≤ mCapC ∧ mT u_80 + 4500 ≤ mCapS) ∧ ∀ p_84 u_82, p_84 = mN u_80 → u_82 = mnw u_80 25 4500 → (∀ u_85, u_85 = mpR u_82 this 30 (some p_84) → ((mN u_85 + 1 ≤ mCapC ∧ mT u_85 + 150 ≤ mCapS) ∧ ∀ p_89 u_87, p_89 = mN u_85 → u_87 = mnw u_85 15 150 → (∀ u_90, u_90 = mpR u_87 this 31 (some p_89) → ((mN u_90 + 1 ≤ mCapC ∧ mT u_90 + 150 ≤ mCapS) ∧ ∀ p_94 u_92, p_94 = mN u_90 → u_92 = mnw u_90 15 150 → (∀ u_95, u_95 = mpR u_92 this 32 (some p_94) → ((mN u_95 + 1 ≤ mCapC ∧ mT u_95 + 30150 ≤ mCapS) ∧ ∀ p_99 u_97, p_99 = mN u_95 → u_97 = mnw u_95 26 30150 → (∀ u_100, u_100 = mpR u_97 this 33 (some p_99) → ((mN u_100 + 1 ≤ mCapC ∧ mT u_100 + 6 ≤ mCapS) ∧ ∀ p_104 u_102, p_104 = mN u_100 → u_102 = mnw u_100 17 6 → (∀ u_105, u_105 = mpR u_102 this 38 (some p_104) → ((mN u_105 + 1 ≤ mCapC ∧ mT u_105 + 900 ≤ mCapS) ∧ ∀ p_109 u_107, p_109 = mN u_105 → u_107 = mnw u_105 24 900 → (∀ u_110, u_110 = mpR u_107 this 39 (some p_109) → ((mN u_110 + 1 ≤ mCapC ∧ mT u_110 + 6 ≤ mCapS) ∧ ∀ p_114 u_112, p_114 = mN u_110 → u_112 = mnw u_110 17 6 → (∀ u_115, u_115 = mpR u_112 this 41 (some p_114) → ((mN u_115 + 1 ≤ mCapC ∧ mT u_115 + 6 ≤ mCapS) ∧ ∀ p_119 u_117, p_119 = mN u_115 → u_117 = mnw u_115 17 6 → (∀ u_120, u_120 = mpR u_117 this 42 (some p_119) → ((mN u_120 + 1 ≤ mCapC ∧ mT u_120 + 30 ≤ mCapS) ∧ ∀ p_124 u_122, p_124 = mN u_120 → u_122 = mnw u_120 18 30 → (vp_in (0 : Int32) 30 ∧ ∀ u_126, u_126 = mpI u_122 p_124 (0 : Int32).toNatClampNeg (7 : Int32) → (vp_in (1 : Int32) 30 ∧ ∀ u_128, u_128 = mpI u_126 p_124 (1 : Int32).toNatClampNeg (7 : Int32) → (vp_in (2 : Int32) 30 ∧ ∀ u_130, u_130 = mpI u_128 p_124 (2 : Int32).toNatClampNeg (7 : Int32) → (vp_in (3 : Int32) 30 ∧ ∀ u_132, u_132 = mpI u_130 p_124 (3 : Int32).toNatClampNeg (7 : Int32) → (vp_in (4 : Int32) 30 ∧ ∀ u_134, u_134 = mpI u_132 p_124 (4 : Int32).toNatClampNeg (7 : Int32) → (vp_in (5 : Int32) 30 ∧ ∀ u_136, u_136 = mpI u_134 p_124 (5 : Int32).toNatClampNeg (7 : Int32) → (vp_in (6 : Int32) 30 ∧ ∀ u_138, u_138 = mpI u_136 p_124 (6 : Int32).toNatClampNeg (7 : Int32) → (vp_in (7 : Int32) 30 ∧ ∀ u_140, u_140 = mpI u_138 p_124 (7 : Int32).toNatClampNeg (7 : Int32) → (vp_in (8 : Int32) 30 ∧ ∀ u_142, u_142 = mpI u_140 p_124 (8 : Int32).toNatClampNeg (7 : Int32) → (vp_in (9 : Int32) 30 ∧ ∀ u_144, u_144 = mpI u_142 p_124 (9 : Int32).toNatClampNeg (7 : Int32) → (vp_in (10 : Int32) 30 ∧ ∀ u_146, u_146 = mpI u_144 p_124 (10 : Int32).toNatClampNeg (7 : Int32) → (vp_in (11 : Int32) 30 ∧ ∀ u_148, u_148 = mpI u_146 p_124 (11 : Int32).toNatClampNeg (7 : Int32) → (vp_in (12 : Int32) 30 ∧ ∀ u_150, u_150 = mpI u_148 p_124 (12 : Int32).toNatClampNeg (7 : Int32) → (vp_in (13 : Int32) 30 ∧ ∀ u_152, u_152 = mpI u_150 p_124 (13 : Int32).toNatClampNeg (7 : Int32) → (vp_in (14 : Int32) 30 ∧ ∀ u_154, u_154 = mpI u_152 p_124 (14 : Int32).toNatClampNeg (7 : Int32) → (vp_in (15 : Int32) 30 ∧ ∀ u_156, u_156 = mpI u_154 p_124 (15 : Int32).toNatClampNeg (7 : Int32) → (vp_in (16 : Int32) 30 ∧ ∀ u_158, u_158 = mpI u_156 p_124 (16 : Int32).toNatClampNeg (7 : Int32) → (vp_in (17 : Int32) 30 ∧ ∀ u_160, u_160 = mpI u_158 p_124 (17 : Int32).toNatClampNeg (7 : Int32) → (vp_in (18 : Int32) 30 ∧ ∀ u_162, u_162 = mpI u_160 p_124 (18 : Int32).toNatClampNeg (7 : Int32) → (vp_in (19 : Int32) 30 ∧ ∀ u_164, u_164 = mpI u_162 p_124 (19 : Int32).toNatClampNeg (7 : Int32) → (vp_in (20 : Int32) 30 ∧ ∀ u_166, u_166 = mpI u_164 p_124 (20 : Int32).toNatClampNeg (7 : Int32) → (vp_in (21 : Int32) 30 ∧ ∀ u_168, u_168 = mpI u_166 p_124 (21 : Int32).toNatClampNeg (7 : Int32) → (vp_in (22 : Int32) 30 ∧ ∀ u_170, u_170 = mpI u_168 p_124 (22 : Int32).toNatClampNeg (7 : Int32) → (vp_in (23 : Int32) 30 ∧ ∀ u_172, u_172 = mpI u_170 p_124 (23 : Int32).toNatClampNeg (7 : Int32) → (vp_in (24 : Int32) 30 ∧ ∀ u_174, u_174 = mpI u_172 p_124 (24 : Int32).toNatClampNeg (7 : Int32) → (vp_in (25 : Int32) 30 ∧ ∀ u_176, u_176 = mpI u_174 p_124 (25 : Int32).toNatClampNeg (7 : Int32) → (vp_in (26 : Int32) 30 ∧ ∀ u_178, u_178 = mpI u_176 p_124 (26 : Int32).toNatClampNeg (7 : Int32) → (vp_in (27 : Int32) 30 ∧ ∀ u_180, u_180 = mpI u_178 p_124 (27 : Int32).toNatClampNeg (7 : Int32) → (vp_in (28 : Int32) 30 ∧ ∀ u_182, u_182 = mpI u_180 p_124 (28 : Int32).toNatClampNeg (7 : Int32) → (vp_in (29 : Int32) 30 ∧ ∀ u_184, u_184 = mpI u_182 p_124 (29 : Int32).toNatClampNeg (7 : Int32) → (∀ u_185, u_185 = mpR u_184 this 43 (some p_124) → ((mN u_185 + 1 ≤ mCapC ∧ mT u_185 + 480 ≤ mCapS) ∧ ∀ p_189 u_187, p_189 = mN u_185 → u_187 = mnw u_185 21 480 → (∀ u_190, u_190 = mpR u_187 this 44 (some p_189) → ((mN u_190 + 1 ≤ mCapC ∧ mT u_190 + 80 ≤ mCapS) ∧ ∀ p_194 u_192, p_194 = mN u_190 → u_192 = mnw u_190 27 80 → (∀ u_195, u_195 = mpR u_192 this 45 (some p_194) → ((mN u_195 + 1 ≤ mCapC ∧ mT u_195 + 8 ≤ mCapS) ∧ ∀ p_199 u_197, p_199 = mN u_195 → u_197 = mnw u_195 28 8 → (∀ u_200, u_200 = mpR u_197 this 46 (some p_199) → ((mN u_200 + 1 ≤ mCapC ∧ mT u_200 + 8 ≤ mCapS) ∧ ∀ p_204 u_202, p_204 = mN u_200 → u_202 = mnw u_200 28 8 → (∀ u_205, u_205 = mpR u_202 this 47 (some p_204) → ((mN u_205 + 1 ≤ mCapC ∧ mT u_205 + 8 ≤ mCapS) ∧ ∀ p_209 u_207, p_209 = mN u_205 → u_207 = mnw u_205 28 8 → (∀ u_210, u_210 = mpR u_207 this 48 (some p_209) → ((mN u_210 + 1 ≤ mCapC ∧ mT u_210 + 8 ≤ mCapS) ∧ ∀ p_214 u_212, p_214 = mN u_210 → u_212 = mnw u_210 28 8 → (∀ u_215, u_215 = mpR u_212 this 49 (some p_214) → ((mN u_215 + 1 ≤ mCapC ∧ mT u_215 + 480 ≤ mCapS) ∧ ∀ p_219 u_217, p_219 = mN u_215 → u_217 = mnw u_215 29 480 → (∀ u_220, u_220 = mpR u_217 this 50 (some p_219) → ((mN u_220 + 1 ≤ mCapC ∧ mT u_220 + 60 ≤ mCapS) ∧ ∀ p_224 u_222, p_224 = mN u_220 → u_222 = mnw u_220 19 60 → (∀ u_225, u_225 = mpR u_222 this 51 (some p_224) → K u_225))))))))))))))))))))))))))))))))))))))))))))))))))))))))))))))))))))))))))))))))))))))))))))))))
set_option maxRecDepth 100000 in
set_option maxHeartbeats 4000000 in
theorem tX9_init {X : mCx} {G : mG} {u0 : mSt} {K : mSt → Prop} (F : mFx X G cX9_init wsX9_init RX9 "<init>" 1 20 none u0 (mPv K)) (hN : X.2.2.2.2.2.2.2.2.2.2.2.2.1 = 1) {this : Nat} {u : mSt} (kthis : mK u this = 10) (h : bX9_init this u K) : mZ X u 0 [(0, .ref (G.1 + this))] [] := by
  refine mz_aload_n F dX9_init_0 rfl 0 rfl ?_
  refine mz_objInit F dX9_init_1 mX9_init_ol1 mX9_init_oi mX9_init_oc (by decide) (Nat.le_of_ble_eq_true rfl) ?_
  refine mz_aload_n F dX9_init_4 rfl 0 rfl ?_
  refine mz_bipush (v := 10) F dX9_init_5 (by decide) ?_
  obtain ⟨b_1, h⟩ := h
  refine mz_newaI (c := 12) F dX9_init_7 mX9_init_acI rfl (by decide) b_1 (fun p_4 u_2 ep_4 eu_2 hx_3 kp_4 => ?_)
  replace h := h p_4 u_2 ep_4 eu_2
  replace kthis := hx_3.2.2 _ _ (by decide) kthis
  refine mz_putRF (k := 2) (tys := tyX9) F dX9_init_9 rfl rfl rfl rfl (by decide) wiX9_init_9 tyX9_ok nmX9 rfl rfl rfl mX9_init_fl7 (by decide) kthis kp_4 (fun u_5 eu_5 hxu_5 => ?_)
  replace h := h u_5 eu_5
  replace kthis := hxu_5.2.2 _ _ (by decide) kthis
  refine mz_aload_n F dX9_init_12 rfl 0 rfl ?_
  refine mz_bipush (v := 10) F dX9_init_13 (by decide) ?_
  obtain ⟨b_6, h⟩ := h
  refine mz_newaZ (c := 13) F dX9_init_15 mX9_init_acZ rfl (by decide) b_6 (fun p_9 u_7 ep_9 eu_7 hx_8 kp_9 => ?_)
  replace h := h p_9 u_7 ep_9 eu_7
  replace kthis := hx_8.2.2 _ _ (by decide) kthis
  refine mz_putRF (k := 3) (tys := tyX9) F dX9_init_17 rfl rfl rfl rfl (by decide) wiX9_init_9 tyX9_ok nmX9 rfl rfl rfl mX9_init_fl13 (by decide) kthis kp_9 (fun u_10 eu_10 hxu_10 => ?_)
  replace h := h u_10 eu_10
  replace kthis := hxu_10.2.2 _ _ (by decide) kthis
  refine mz_aload_n F dX9_init_20 rfl 0 rfl ?_
  refine mz_bipush (v := 40) F dX9_init_21 (by decide) ?_
  obtain ⟨b_11, h⟩ := h
  refine mz_newaI (c := 14) F dX9_init_23 mX9_init_acI rfl (by decide) b_11 (fun p_14 u_12 ep_14 eu_12 hx_13 kp_14 => ?_)
  replace h := h p_14 u_12 ep_14 eu_12
  replace kthis := hx_13.2.2 _ _ (by decide) kthis
  refine mz_putRF (k := 4) (tys := tyX9) F dX9_init_25 rfl rfl rfl rfl (by decide) wiX9_init_9 tyX9_ok nmX9 rfl rfl rfl mX9_init_fl17 (by decide) kthis kp_14 (fun u_15 eu_15 hxu_15 => ?_)
  replace h := h u_15 eu_15
  replace kthis := hxu_15.2.2 _ _ (by decide) kthis
  refine mz_aload_n F dX9_init_28 rfl 0 rfl ?_
  refine mz_bipush (v := 40) F dX9_init_29 (by decide) ?_
  obtain ⟨b_16, h⟩ := h
  refine mz_newaI (c := 14) F dX9_init_31 mX9_init_acI rfl (by decide) b_16 (fun p_19 u_17 ep_19 eu_17 hx_18 kp_19 => ?_)
  replace h := h p_19 u_17 ep_19 eu_17
  replace kthis := hx_18.2.2 _ _ (by decide) kthis
  refine mz_putRF (k := 5) (tys := tyX9) F dX9_init_33 rfl rfl rfl rfl (by decide) wiX9_init_9 tyX9_ok nmX9 rfl rfl rfl mX9_init_fl20 (by decide) kthis kp_19 (fun u_20 eu_20 hxu_20 => ?_)
  replace h := h u_20 eu_20
  replace kthis := hxu_20.2.2 _ _ (by decide) kthis
  refine mz_aload_n F dX9_init_36 rfl 0 rfl ?_
  refine mz_sipush (v := 200) F dX9_init_37 (by decide) ?_
  obtain ⟨b_21, h⟩ := h
  refine mz_newaI (c := 22) F dX9_init_40 mX9_init_acI rfl (by decide) b_21 (fun p_24 u_22 ep_24 eu_22 hx_23 kp_24 => ?_)
  replace h := h p_24 u_22 ep_24 eu_22
  replace kthis := hx_23.2.2 _ _ (by decide) kthis
  refine mz_putRF (k := 13) (tys := tyX9) F dX9_init_42 rfl rfl rfl rfl (by decide) wiX9_init_9 tyX9_ok nmX9 rfl rfl rfl mX9_init_fl23 (by decide) kthis kp_24 (fun u_25 eu_25 hxu_25 => ?_)
  replace h := h u_25 eu_25
  replace kthis := hxu_25.2.2 _ _ (by decide) kthis
  refine mz_aload_n F dX9_init_45 rfl 0 rfl ?_
  refine mz_sipush (v := 200) F dX9_init_46 (by decide) ?_
  obtain ⟨b_26, h⟩ := h
  refine mz_newaI (c := 22) F dX9_init_49 mX9_init_acI rfl (by decide) b_26 (fun p_29 u_27 ep_29 eu_27 hx_28 kp_29 => ?_)
  replace h := h p_29 u_27 ep_29 eu_27
  replace kthis := hx_28.2.2 _ _ (by decide) kthis
  refine mz_putRF (k := 14) (tys := tyX9) F dX9_init_51 rfl rfl rfl rfl (by decide) wiX9_init_9 tyX9_ok nmX9 rfl rfl rfl mX9_init_fl26 (by decide) kthis kp_29 (fun u_30 eu_30 hxu_30 => ?_)
  replace h := h u_30 eu_30
  replace kthis := hxu_30.2.2 _ _ (by decide) kthis
  refine mz_aload_n F dX9_init_54 rfl 0 rfl ?_
  refine mz_sipush (v := 200) F dX9_init_55 (by decide) ?_
  obtain ⟨b_31, h⟩ := h
  refine mz_newaI (c := 22) F dX9_init_58 mX9_init_acI rfl (by decide) b_31 (fun p_34 u_32 ep_34 eu_32 hx_33 kp_34 => ?_)
  replace h := h p_34 u_32 ep_34 eu_32
  replace kthis := hx_33.2.2 _ _ (by decide) kthis
  refine mz_putRF (k := 15) (tys := tyX9) F dX9_init_60 rfl rfl rfl rfl (by decide) wiX9_init_9 tyX9_ok nmX9 rfl rfl rfl mX9_init_fl29 (by decide) kthis kp_34 (fun u_35 eu_35 hxu_35 => ?_)
  replace h := h u_35 eu_35
  replace kthis := hxu_35.2.2 _ _ (by decide) kthis
  refine mz_aload_n F dX9_init_63 rfl 0 rfl ?_
  refine mz_sipush (v := 200) F dX9_init_64 (by decide) ?_
  obtain ⟨b_36, h⟩ := h
  refine mz_newaI (c := 22) F dX9_init_67 mX9_init_acI rfl (by decide) b_36 (fun p_39 u_37 ep_39 eu_37 hx_38 kp_39 => ?_)
  replace h := h p_39 u_37 ep_39 eu_37
  replace kthis := hx_38.2.2 _ _ (by decide) kthis
  refine mz_putRF (k := 16) (tys := tyX9) F dX9_init_69 rfl rfl rfl rfl (by decide) wiX9_init_9 tyX9_ok nmX9 rfl rfl rfl mX9_init_fl32 (by decide) kthis kp_39 (fun u_40 eu_40 hxu_40 => ?_)
  replace h := h u_40 eu_40
  replace kthis := hxu_40.2.2 _ _ (by decide) kthis
  refine mz_aload_n F dX9_init_72 rfl 0 rfl ?_
  refine mz_sipush (v := 150) F dX9_init_73 (by decide) ?_
  obtain ⟨b_41, h⟩ := h
  refine mz_newaI (c := 15) F dX9_init_76 mX9_init_acI rfl (by decide) b_41 (fun p_44 u_42 ep_44 eu_42 hx_43 kp_44 => ?_)
  replace h := h p_44 u_42 ep_44 eu_42
  replace kthis := hx_43.2.2 _ _ (by decide) kthis
  refine mz_putRF (k := 21) (tys := tyX9) F dX9_init_78 rfl rfl rfl rfl (by decide) wiX9_init_9 tyX9_ok nmX9 rfl rfl rfl mX9_init_fl35 (by decide) kthis kp_44 (fun u_45 eu_45 hxu_45 => ?_)
  replace h := h u_45 eu_45
  replace kthis := hxu_45.2.2 _ _ (by decide) kthis
  refine mz_aload_n F dX9_init_81 rfl 0 rfl ?_
  refine mz_sipush (v := 900) F dX9_init_82 (by decide) ?_
  obtain ⟨b_46, h⟩ := h
  refine mz_newaI (c := 24) F dX9_init_85 mX9_init_acI rfl (by decide) b_46 (fun p_49 u_47 ep_49 eu_47 hx_48 kp_49 => ?_)
  replace h := h p_49 u_47 ep_49 eu_47
  replace kthis := hx_48.2.2 _ _ (by decide) kthis
  refine mz_putRF (k := 22) (tys := tyX9) F dX9_init_87 rfl rfl rfl rfl (by decide) wiX9_init_9 tyX9_ok nmX9 rfl rfl rfl mX9_init_fl38 (by decide) kthis kp_49 (fun u_50 eu_50 hxu_50 => ?_)
  replace h := h u_50 eu_50
  replace kthis := hxu_50.2.2 _ _ (by decide) kthis
  refine mz_aload_n F dX9_init_90 rfl 0 rfl ?_
  refine mz_sipush (v := 4500) F dX9_init_91 (by decide) ?_
  obtain ⟨b_51, h⟩ := h
  refine mz_newaI (c := 25) F dX9_init_94 mX9_init_acI rfl (by decide) b_51 (fun p_54 u_52 ep_54 eu_52 hx_53 kp_54 => ?_)
  replace h := h p_54 u_52 ep_54 eu_52
  replace kthis := hx_53.2.2 _ _ (by decide) kthis
  refine mz_putRF (k := 23) (tys := tyX9) F dX9_init_96 rfl rfl rfl rfl (by decide) wiX9_init_9 tyX9_ok nmX9 rfl rfl rfl mX9_init_fl41 (by decide) kthis kp_54 (fun u_55 eu_55 hxu_55 => ?_)
  replace h := h u_55 eu_55
  replace kthis := hxu_55.2.2 _ _ (by decide) kthis
  refine mz_aload_n F dX9_init_99 rfl 0 rfl ?_
  refine mz_sipush (v := 150) F dX9_init_100 (by decide) ?_
  obtain ⟨b_56, h⟩ := h
  refine mz_newaI (c := 15) F dX9_init_103 mX9_init_acI rfl (by decide) b_56 (fun p_59 u_57 ep_59 eu_57 hx_58 kp_59 => ?_)
  replace h := h p_59 u_57 ep_59 eu_57
  replace kthis := hx_58.2.2 _ _ (by decide) kthis
  refine mz_putRF (k := 24) (tys := tyX9) F dX9_init_105 rfl rfl rfl rfl (by decide) wiX9_init_9 tyX9_ok nmX9 rfl rfl rfl mX9_init_fl44 (by decide) kthis kp_59 (fun u_60 eu_60 hxu_60 => ?_)
  replace h := h u_60 eu_60
  replace kthis := hxu_60.2.2 _ _ (by decide) kthis
  refine mz_aload_n F dX9_init_108 rfl 0 rfl ?_
  refine mz_sipush (v := 150) F dX9_init_109 (by decide) ?_
  obtain ⟨b_61, h⟩ := h
  refine mz_newaI (c := 15) F dX9_init_112 mX9_init_acI rfl (by decide) b_61 (fun p_64 u_62 ep_64 eu_62 hx_63 kp_64 => ?_)
  replace h := h p_64 u_62 ep_64 eu_62
  replace kthis := hx_63.2.2 _ _ (by decide) kthis
  refine mz_putRF (k := 25) (tys := tyX9) F dX9_init_114 rfl rfl rfl rfl (by decide) wiX9_init_9 tyX9_ok nmX9 rfl rfl rfl mX9_init_fl47 (by decide) kthis kp_64 (fun u_65 eu_65 hxu_65 => ?_)
  replace h := h u_65 eu_65
  replace kthis := hxu_65.2.2 _ _ (by decide) kthis
  refine mz_aload_n F dX9_init_117 rfl 0 rfl ?_
  refine mz_sipush (v := 30150) F dX9_init_118 (by decide) ?_
  obtain ⟨b_66, h⟩ := h
  refine mz_newaB (c := 26) F dX9_init_121 mX9_init_acB rfl (by decide) b_66 (fun p_69 u_67 ep_69 eu_67 hx_68 kp_69 => ?_)
  replace h := h p_69 u_67 ep_69 eu_67
  replace kthis := hx_68.2.2 _ _ (by decide) kthis
  refine mz_putRF (k := 26) (tys := tyX9) F dX9_init_123 rfl rfl rfl rfl (by decide) wiX9_init_9 tyX9_ok nmX9 rfl rfl rfl mX9_init_fl50 (by decide) kthis kp_69 (fun u_70 eu_70 hxu_70 => ?_)
  replace h := h u_70 eu_70
  replace kthis := hxu_70.2.2 _ _ (by decide) kthis
  refine mz_aload_n F dX9_init_126 rfl 0 rfl ?_
  refine mz_sipush (v := 150) F dX9_init_127 (by decide) ?_
  obtain ⟨b_71, h⟩ := h
  refine mz_newaI (c := 15) F dX9_init_130 mX9_init_acI rfl (by decide) b_71 (fun p_74 u_72 ep_74 eu_72 hx_73 kp_74 => ?_)
  replace h := h p_74 u_72 ep_74 eu_72
  replace kthis := hx_73.2.2 _ _ (by decide) kthis
  refine mz_putRF (k := 28) (tys := tyX9) F dX9_init_132 rfl rfl rfl rfl (by decide) wiX9_init_9 tyX9_ok nmX9 rfl rfl rfl mX9_init_fl54 (by decide) kthis kp_74 (fun u_75 eu_75 hxu_75 => ?_)
  replace h := h u_75 eu_75
  replace kthis := hxu_75.2.2 _ _ (by decide) kthis
  refine mz_aload_n F dX9_init_135 rfl 0 rfl ?_
  refine mz_sipush (v := 900) F dX9_init_136 (by decide) ?_
  obtain ⟨b_76, h⟩ := h
  refine mz_newaI (c := 24) F dX9_init_139 mX9_init_acI rfl (by decide) b_76 (fun p_79 u_77 ep_79 eu_77 hx_78 kp_79 => ?_)
  replace h := h p_79 u_77 ep_79 eu_77
  replace kthis := hx_78.2.2 _ _ (by decide) kthis
  refine mz_putRF (k := 29) (tys := tyX9) F dX9_init_141 rfl rfl rfl rfl (by decide) wiX9_init_9 tyX9_ok nmX9 rfl rfl rfl mX9_init_fl57 (by decide) kthis kp_79 (fun u_80 eu_80 hxu_80 => ?_)
  replace h := h u_80 eu_80
  replace kthis := hxu_80.2.2 _ _ (by decide) kthis
  refine mz_aload_n F dX9_init_144 rfl 0 rfl ?_
  refine mz_sipush (v := 4500) F dX9_init_145 (by decide) ?_
  obtain ⟨b_81, h⟩ := h
  refine mz_newaI (c := 25) F dX9_init_148 mX9_init_acI rfl (by decide) b_81 (fun p_84 u_82 ep_84 eu_82 hx_83 kp_84 => ?_)
  replace h := h p_84 u_82 ep_84 eu_82
  replace kthis := hx_83.2.2 _ _ (by decide) kthis
  refine mz_putRF (k := 30) (tys := tyX9) F dX9_init_150 rfl rfl rfl rfl (by decide) wiX9_init_9 tyX9_ok nmX9 rfl rfl rfl mX9_init_fl60 (by decide) kthis kp_84 (fun u_85 eu_85 hxu_85 => ?_)
  replace h := h u_85 eu_85
  replace kthis := hxu_85.2.2 _ _ (by decide) kthis
  refine mz_aload_n F dX9_init_153 rfl 0 rfl ?_
  refine mz_sipush (v := 150) F dX9_init_154 (by decide) ?_
  obtain ⟨b_86, h⟩ := h
  refine mz_newaI (c := 15) F dX9_init_157 mX9_init_acI rfl (by decide) b_86 (fun p_89 u_87 ep_89 eu_87 hx_88 kp_89 => ?_)
  replace h := h p_89 u_87 ep_89 eu_87
  replace kthis := hx_88.2.2 _ _ (by decide) kthis
  refine mz_putRF (k := 31) (tys := tyX9) F dX9_init_159 rfl rfl rfl rfl (by decide) wiX9_init_9 tyX9_ok nmX9 rfl rfl rfl mX9_init_fl63 (by decide) kthis kp_89 (fun u_90 eu_90 hxu_90 => ?_)
  replace h := h u_90 eu_90
  replace kthis := hxu_90.2.2 _ _ (by decide) kthis
  refine mz_aload_n F dX9_init_162 rfl 0 rfl ?_
  refine mz_sipush (v := 150) F dX9_init_163 (by decide) ?_
  obtain ⟨b_91, h⟩ := h
  refine mz_newaI (c := 15) F dX9_init_166 mX9_init_acI rfl (by decide) b_91 (fun p_94 u_92 ep_94 eu_92 hx_93 kp_94 => ?_)
  replace h := h p_94 u_92 ep_94 eu_92
  replace kthis := hx_93.2.2 _ _ (by decide) kthis
  refine mz_putRF (k := 32) (tys := tyX9) F dX9_init_168 rfl rfl rfl rfl (by decide) wiX9_init_9 tyX9_ok nmX9 rfl rfl rfl mX9_init_fl66 (by decide) kthis kp_94 (fun u_95 eu_95 hxu_95 => ?_)
  replace h := h u_95 eu_95
  replace kthis := hxu_95.2.2 _ _ (by decide) kthis
  refine mz_aload_n F dX9_init_171 rfl 0 rfl ?_
  refine mz_sipush (v := 30150) F dX9_init_172 (by decide) ?_
  obtain ⟨b_96, h⟩ := h
  refine mz_newaB (c := 26) F dX9_init_175 mX9_init_acB rfl (by decide) b_96 (fun p_99 u_97 ep_99 eu_97 hx_98 kp_99 => ?_)
  replace h := h p_99 u_97 ep_99 eu_97
  replace kthis := hx_98.2.2 _ _ (by decide) kthis
  refine mz_putRF (k := 33) (tys := tyX9) F dX9_init_177 rfl rfl rfl rfl (by decide) wiX9_init_9 tyX9_ok nmX9 rfl rfl rfl mX9_init_fl69 (by decide) kthis kp_99 (fun u_100 eu_100 hxu_100 => ?_)
  replace h := h u_100 eu_100
  replace kthis := hxu_100.2.2 _ _ (by decide) kthis
  refine mz_aload_n F dX9_init_180 rfl 0 rfl ?_
  refine mz_bipush (v := 6) F dX9_init_181 (by decide) ?_
  obtain ⟨b_101, h⟩ := h
  refine mz_newaI (c := 17) F dX9_init_183 mX9_init_acI rfl (by decide) b_101 (fun p_104 u_102 ep_104 eu_102 hx_103 kp_104 => ?_)
  replace h := h p_104 u_102 ep_104 eu_102
  replace kthis := hx_103.2.2 _ _ (by decide) kthis
  refine mz_putRF (k := 38) (tys := tyX9) F dX9_init_185 rfl rfl rfl rfl (by decide) wiX9_init_9 tyX9_ok nmX9 rfl rfl rfl mX9_init_fl72 (by decide) kthis kp_104 (fun u_105 eu_105 hxu_105 => ?_)
  replace h := h u_105 eu_105
  replace kthis := hxu_105.2.2 _ _ (by decide) kthis
  refine mz_aload_n F dX9_init_188 rfl 0 rfl ?_
  refine mz_sipush (v := 900) F dX9_init_189 (by decide) ?_
  obtain ⟨b_106, h⟩ := h
  refine mz_newaI (c := 24) F dX9_init_192 mX9_init_acI rfl (by decide) b_106 (fun p_109 u_107 ep_109 eu_107 hx_108 kp_109 => ?_)
  replace h := h p_109 u_107 ep_109 eu_107
  replace kthis := hx_108.2.2 _ _ (by decide) kthis
  refine mz_putRF (k := 39) (tys := tyX9) F dX9_init_194 rfl rfl rfl rfl (by decide) wiX9_init_9 tyX9_ok nmX9 rfl rfl rfl mX9_init_fl75 (by decide) kthis kp_109 (fun u_110 eu_110 hxu_110 => ?_)
  replace h := h u_110 eu_110
  replace kthis := hxu_110.2.2 _ _ (by decide) kthis
  refine mz_aload_n F dX9_init_197 rfl 0 rfl ?_
  refine mz_bipush (v := 6) F dX9_init_198 (by decide) ?_
  obtain ⟨b_111, h⟩ := h
  refine mz_newaI (c := 17) F dX9_init_200 mX9_init_acI rfl (by decide) b_111 (fun p_114 u_112 ep_114 eu_112 hx_113 kp_114 => ?_)
  replace h := h p_114 u_112 ep_114 eu_112
  replace kthis := hx_113.2.2 _ _ (by decide) kthis
  refine mz_putRF (k := 41) (tys := tyX9) F dX9_init_202 rfl rfl rfl rfl (by decide) wiX9_init_9 tyX9_ok nmX9 rfl rfl rfl mX9_init_fl78 (by decide) kthis kp_114 (fun u_115 eu_115 hxu_115 => ?_)
  replace h := h u_115 eu_115
  replace kthis := hxu_115.2.2 _ _ (by decide) kthis
  refine mz_aload_n F dX9_init_205 rfl 0 rfl ?_
  refine mz_bipush (v := 6) F dX9_init_206 (by decide) ?_
  obtain ⟨b_116, h⟩ := h
  refine mz_newaI (c := 17) F dX9_init_208 mX9_init_acI rfl (by decide) b_116 (fun p_119 u_117 ep_119 eu_117 hx_118 kp_119 => ?_)
  replace h := h p_119 u_117 ep_119 eu_117
  replace kthis := hx_118.2.2 _ _ (by decide) kthis
  refine mz_putRF (k := 42) (tys := tyX9) F dX9_init_210 rfl rfl rfl rfl (by decide) wiX9_init_9 tyX9_ok nmX9 rfl rfl rfl mX9_init_fl81 (by decide) kthis kp_119 (fun u_120 eu_120 hxu_120 => ?_)
  replace h := h u_120 eu_120
  replace kthis := hxu_120.2.2 _ _ (by decide) kthis
  refine mz_aload_n F dX9_init_213 rfl 0 rfl ?_
  refine mz_bipush (v := 30) F dX9_init_214 (by decide) ?_
  obtain ⟨b_121, h⟩ := h
  refine mz_newaI (c := 18) F dX9_init_216 mX9_init_acI rfl (by decide) b_121 (fun p_124 u_122 ep_124 eu_122 hx_123 kp_124 => ?_)
  replace h := h p_124 u_122 ep_124 eu_122
  replace kthis := hx_123.2.2 _ _ (by decide) kthis
  refine mz_dup F dX9_init_218 rfl ?_
  refine mz_iconst (v := 0) F dX9_init_219 (by decide) ?_
  refine mz_bipush (v := 7) F dX9_init_220 (by decide) ?_
  obtain ⟨b_125, h⟩ := h
  refine mz_iast F dX9_init_222 kp_124 rfl b_125 (fun u_126 eu_126 hxu_126 => ?_)
  replace h := h u_126 eu_126
  replace kthis := hxu_126.2.2 _ _ (by decide) kthis
  replace kp_124 := hxu_126.2.2 _ _ (by decide) kp_124
  refine mz_dup F dX9_init_223 rfl ?_
  refine mz_iconst (v := 1) F dX9_init_224 (by decide) ?_
  refine mz_bipush (v := 7) F dX9_init_225 (by decide) ?_
  obtain ⟨b_127, h⟩ := h
  refine mz_iast F dX9_init_227 kp_124 rfl b_127 (fun u_128 eu_128 hxu_128 => ?_)
  replace h := h u_128 eu_128
  replace kthis := hxu_128.2.2 _ _ (by decide) kthis
  replace kp_124 := hxu_128.2.2 _ _ (by decide) kp_124
  refine mz_dup F dX9_init_228 rfl ?_
  refine mz_iconst (v := 2) F dX9_init_229 (by decide) ?_
  refine mz_bipush (v := 7) F dX9_init_230 (by decide) ?_
  obtain ⟨b_129, h⟩ := h
  refine mz_iast F dX9_init_232 kp_124 rfl b_129 (fun u_130 eu_130 hxu_130 => ?_)
  replace h := h u_130 eu_130
  replace kthis := hxu_130.2.2 _ _ (by decide) kthis
  replace kp_124 := hxu_130.2.2 _ _ (by decide) kp_124
  refine mz_dup F dX9_init_233 rfl ?_
  refine mz_iconst (v := 3) F dX9_init_234 (by decide) ?_
  refine mz_bipush (v := 7) F dX9_init_235 (by decide) ?_
  obtain ⟨b_131, h⟩ := h
  refine mz_iast F dX9_init_237 kp_124 rfl b_131 (fun u_132 eu_132 hxu_132 => ?_)
  replace h := h u_132 eu_132
  replace kthis := hxu_132.2.2 _ _ (by decide) kthis
  replace kp_124 := hxu_132.2.2 _ _ (by decide) kp_124
  refine mz_dup F dX9_init_238 rfl ?_
  refine mz_iconst (v := 4) F dX9_init_239 (by decide) ?_
  refine mz_bipush (v := 7) F dX9_init_240 (by decide) ?_
  obtain ⟨b_133, h⟩ := h
  refine mz_iast F dX9_init_242 kp_124 rfl b_133 (fun u_134 eu_134 hxu_134 => ?_)
  replace h := h u_134 eu_134
  replace kthis := hxu_134.2.2 _ _ (by decide) kthis
  replace kp_124 := hxu_134.2.2 _ _ (by decide) kp_124
  refine mz_dup F dX9_init_243 rfl ?_
  refine mz_iconst (v := 5) F dX9_init_244 (by decide) ?_
  refine mz_bipush (v := 7) F dX9_init_245 (by decide) ?_
  obtain ⟨b_135, h⟩ := h
  refine mz_iast F dX9_init_247 kp_124 rfl b_135 (fun u_136 eu_136 hxu_136 => ?_)
  replace h := h u_136 eu_136
  replace kthis := hxu_136.2.2 _ _ (by decide) kthis
  replace kp_124 := hxu_136.2.2 _ _ (by decide) kp_124
  refine mz_dup F dX9_init_248 rfl ?_
  refine mz_bipush (v := 6) F dX9_init_249 (by decide) ?_
  refine mz_bipush (v := 7) F dX9_init_251 (by decide) ?_
  obtain ⟨b_137, h⟩ := h
  refine mz_iast F dX9_init_253 kp_124 rfl b_137 (fun u_138 eu_138 hxu_138 => ?_)
  replace h := h u_138 eu_138
  replace kthis := hxu_138.2.2 _ _ (by decide) kthis
  replace kp_124 := hxu_138.2.2 _ _ (by decide) kp_124
  refine mz_dup F dX9_init_254 rfl ?_
  refine mz_bipush (v := 7) F dX9_init_255 (by decide) ?_
  refine mz_bipush (v := 7) F dX9_init_257 (by decide) ?_
  obtain ⟨b_139, h⟩ := h
  refine mz_iast F dX9_init_259 kp_124 rfl b_139 (fun u_140 eu_140 hxu_140 => ?_)
  replace h := h u_140 eu_140
  replace kthis := hxu_140.2.2 _ _ (by decide) kthis
  replace kp_124 := hxu_140.2.2 _ _ (by decide) kp_124
  refine mz_dup F dX9_init_260 rfl ?_
  refine mz_bipush (v := 8) F dX9_init_261 (by decide) ?_
  refine mz_bipush (v := 7) F dX9_init_263 (by decide) ?_
  obtain ⟨b_141, h⟩ := h
  refine mz_iast F dX9_init_265 kp_124 rfl b_141 (fun u_142 eu_142 hxu_142 => ?_)
  replace h := h u_142 eu_142
  replace kthis := hxu_142.2.2 _ _ (by decide) kthis
  replace kp_124 := hxu_142.2.2 _ _ (by decide) kp_124
  refine mz_dup F dX9_init_266 rfl ?_
  refine mz_bipush (v := 9) F dX9_init_267 (by decide) ?_
  refine mz_bipush (v := 7) F dX9_init_269 (by decide) ?_
  obtain ⟨b_143, h⟩ := h
  refine mz_iast F dX9_init_271 kp_124 rfl b_143 (fun u_144 eu_144 hxu_144 => ?_)
  replace h := h u_144 eu_144
  replace kthis := hxu_144.2.2 _ _ (by decide) kthis
  replace kp_124 := hxu_144.2.2 _ _ (by decide) kp_124
  refine mz_dup F dX9_init_272 rfl ?_
  refine mz_bipush (v := 10) F dX9_init_273 (by decide) ?_
  refine mz_bipush (v := 7) F dX9_init_275 (by decide) ?_
  obtain ⟨b_145, h⟩ := h
  refine mz_iast F dX9_init_277 kp_124 rfl b_145 (fun u_146 eu_146 hxu_146 => ?_)
  replace h := h u_146 eu_146
  replace kthis := hxu_146.2.2 _ _ (by decide) kthis
  replace kp_124 := hxu_146.2.2 _ _ (by decide) kp_124
  refine mz_dup F dX9_init_278 rfl ?_
  refine mz_bipush (v := 11) F dX9_init_279 (by decide) ?_
  refine mz_bipush (v := 7) F dX9_init_281 (by decide) ?_
  obtain ⟨b_147, h⟩ := h
  refine mz_iast F dX9_init_283 kp_124 rfl b_147 (fun u_148 eu_148 hxu_148 => ?_)
  replace h := h u_148 eu_148
  replace kthis := hxu_148.2.2 _ _ (by decide) kthis
  replace kp_124 := hxu_148.2.2 _ _ (by decide) kp_124
  refine mz_dup F dX9_init_284 rfl ?_
  refine mz_bipush (v := 12) F dX9_init_285 (by decide) ?_
  refine mz_bipush (v := 7) F dX9_init_287 (by decide) ?_
  obtain ⟨b_149, h⟩ := h
  refine mz_iast F dX9_init_289 kp_124 rfl b_149 (fun u_150 eu_150 hxu_150 => ?_)
  replace h := h u_150 eu_150
  replace kthis := hxu_150.2.2 _ _ (by decide) kthis
  replace kp_124 := hxu_150.2.2 _ _ (by decide) kp_124
  refine mz_dup F dX9_init_290 rfl ?_
  refine mz_bipush (v := 13) F dX9_init_291 (by decide) ?_
  refine mz_bipush (v := 7) F dX9_init_293 (by decide) ?_
  obtain ⟨b_151, h⟩ := h
  refine mz_iast F dX9_init_295 kp_124 rfl b_151 (fun u_152 eu_152 hxu_152 => ?_)
  replace h := h u_152 eu_152
  replace kthis := hxu_152.2.2 _ _ (by decide) kthis
  replace kp_124 := hxu_152.2.2 _ _ (by decide) kp_124
  refine mz_dup F dX9_init_296 rfl ?_
  refine mz_bipush (v := 14) F dX9_init_297 (by decide) ?_
  refine mz_bipush (v := 7) F dX9_init_299 (by decide) ?_
  obtain ⟨b_153, h⟩ := h
  refine mz_iast F dX9_init_301 kp_124 rfl b_153 (fun u_154 eu_154 hxu_154 => ?_)
  replace h := h u_154 eu_154
  replace kthis := hxu_154.2.2 _ _ (by decide) kthis
  replace kp_124 := hxu_154.2.2 _ _ (by decide) kp_124
  refine mz_dup F dX9_init_302 rfl ?_
  refine mz_bipush (v := 15) F dX9_init_303 (by decide) ?_
  refine mz_bipush (v := 7) F dX9_init_305 (by decide) ?_
  obtain ⟨b_155, h⟩ := h
  refine mz_iast F dX9_init_307 kp_124 rfl b_155 (fun u_156 eu_156 hxu_156 => ?_)
  replace h := h u_156 eu_156
  replace kthis := hxu_156.2.2 _ _ (by decide) kthis
  replace kp_124 := hxu_156.2.2 _ _ (by decide) kp_124
  refine mz_dup F dX9_init_308 rfl ?_
  refine mz_bipush (v := 16) F dX9_init_309 (by decide) ?_
  refine mz_bipush (v := 7) F dX9_init_311 (by decide) ?_
  obtain ⟨b_157, h⟩ := h
  refine mz_iast F dX9_init_313 kp_124 rfl b_157 (fun u_158 eu_158 hxu_158 => ?_)
  replace h := h u_158 eu_158
  replace kthis := hxu_158.2.2 _ _ (by decide) kthis
  replace kp_124 := hxu_158.2.2 _ _ (by decide) kp_124
  refine mz_dup F dX9_init_314 rfl ?_
  refine mz_bipush (v := 17) F dX9_init_315 (by decide) ?_
  refine mz_bipush (v := 7) F dX9_init_317 (by decide) ?_
  obtain ⟨b_159, h⟩ := h
  refine mz_iast F dX9_init_319 kp_124 rfl b_159 (fun u_160 eu_160 hxu_160 => ?_)
  replace h := h u_160 eu_160
  replace kthis := hxu_160.2.2 _ _ (by decide) kthis
  replace kp_124 := hxu_160.2.2 _ _ (by decide) kp_124
  refine mz_dup F dX9_init_320 rfl ?_
  refine mz_bipush (v := 18) F dX9_init_321 (by decide) ?_
  refine mz_bipush (v := 7) F dX9_init_323 (by decide) ?_
  obtain ⟨b_161, h⟩ := h
  refine mz_iast F dX9_init_325 kp_124 rfl b_161 (fun u_162 eu_162 hxu_162 => ?_)
  replace h := h u_162 eu_162
  replace kthis := hxu_162.2.2 _ _ (by decide) kthis
  replace kp_124 := hxu_162.2.2 _ _ (by decide) kp_124
  refine mz_dup F dX9_init_326 rfl ?_
  refine mz_bipush (v := 19) F dX9_init_327 (by decide) ?_
  refine mz_bipush (v := 7) F dX9_init_329 (by decide) ?_
  obtain ⟨b_163, h⟩ := h
  refine mz_iast F dX9_init_331 kp_124 rfl b_163 (fun u_164 eu_164 hxu_164 => ?_)
  replace h := h u_164 eu_164
  replace kthis := hxu_164.2.2 _ _ (by decide) kthis
  replace kp_124 := hxu_164.2.2 _ _ (by decide) kp_124
  refine mz_dup F dX9_init_332 rfl ?_
  refine mz_bipush (v := 20) F dX9_init_333 (by decide) ?_
  refine mz_bipush (v := 7) F dX9_init_335 (by decide) ?_
  obtain ⟨b_165, h⟩ := h
  refine mz_iast F dX9_init_337 kp_124 rfl b_165 (fun u_166 eu_166 hxu_166 => ?_)
  replace h := h u_166 eu_166
  replace kthis := hxu_166.2.2 _ _ (by decide) kthis
  replace kp_124 := hxu_166.2.2 _ _ (by decide) kp_124
  refine mz_dup F dX9_init_338 rfl ?_
  refine mz_bipush (v := 21) F dX9_init_339 (by decide) ?_
  refine mz_bipush (v := 7) F dX9_init_341 (by decide) ?_
  obtain ⟨b_167, h⟩ := h
  refine mz_iast F dX9_init_343 kp_124 rfl b_167 (fun u_168 eu_168 hxu_168 => ?_)
  replace h := h u_168 eu_168
  replace kthis := hxu_168.2.2 _ _ (by decide) kthis
  replace kp_124 := hxu_168.2.2 _ _ (by decide) kp_124
  refine mz_dup F dX9_init_344 rfl ?_
  refine mz_bipush (v := 22) F dX9_init_345 (by decide) ?_
  refine mz_bipush (v := 7) F dX9_init_347 (by decide) ?_
  obtain ⟨b_169, h⟩ := h
  refine mz_iast F dX9_init_349 kp_124 rfl b_169 (fun u_170 eu_170 hxu_170 => ?_)
  replace h := h u_170 eu_170
  replace kthis := hxu_170.2.2 _ _ (by decide) kthis
  replace kp_124 := hxu_170.2.2 _ _ (by decide) kp_124
  refine mz_dup F dX9_init_350 rfl ?_
  refine mz_bipush (v := 23) F dX9_init_351 (by decide) ?_
  refine mz_bipush (v := 7) F dX9_init_353 (by decide) ?_
  obtain ⟨b_171, h⟩ := h
  refine mz_iast F dX9_init_355 kp_124 rfl b_171 (fun u_172 eu_172 hxu_172 => ?_)
  replace h := h u_172 eu_172
  replace kthis := hxu_172.2.2 _ _ (by decide) kthis
  replace kp_124 := hxu_172.2.2 _ _ (by decide) kp_124
  refine mz_dup F dX9_init_356 rfl ?_
  refine mz_bipush (v := 24) F dX9_init_357 (by decide) ?_
  refine mz_bipush (v := 7) F dX9_init_359 (by decide) ?_
  obtain ⟨b_173, h⟩ := h
  refine mz_iast F dX9_init_361 kp_124 rfl b_173 (fun u_174 eu_174 hxu_174 => ?_)
  replace h := h u_174 eu_174
  replace kthis := hxu_174.2.2 _ _ (by decide) kthis
  replace kp_124 := hxu_174.2.2 _ _ (by decide) kp_124
  refine mz_dup F dX9_init_362 rfl ?_
  refine mz_bipush (v := 25) F dX9_init_363 (by decide) ?_
  refine mz_bipush (v := 7) F dX9_init_365 (by decide) ?_
  obtain ⟨b_175, h⟩ := h
  refine mz_iast F dX9_init_367 kp_124 rfl b_175 (fun u_176 eu_176 hxu_176 => ?_)
  replace h := h u_176 eu_176
  replace kthis := hxu_176.2.2 _ _ (by decide) kthis
  replace kp_124 := hxu_176.2.2 _ _ (by decide) kp_124
  refine mz_dup F dX9_init_368 rfl ?_
  refine mz_bipush (v := 26) F dX9_init_369 (by decide) ?_
  refine mz_bipush (v := 7) F dX9_init_371 (by decide) ?_
  obtain ⟨b_177, h⟩ := h
  refine mz_iast F dX9_init_373 kp_124 rfl b_177 (fun u_178 eu_178 hxu_178 => ?_)
  replace h := h u_178 eu_178
  replace kthis := hxu_178.2.2 _ _ (by decide) kthis
  replace kp_124 := hxu_178.2.2 _ _ (by decide) kp_124
  refine mz_dup F dX9_init_374 rfl ?_
  refine mz_bipush (v := 27) F dX9_init_375 (by decide) ?_
  refine mz_bipush (v := 7) F dX9_init_377 (by decide) ?_
  obtain ⟨b_179, h⟩ := h
  refine mz_iast F dX9_init_379 kp_124 rfl b_179 (fun u_180 eu_180 hxu_180 => ?_)
  replace h := h u_180 eu_180
  replace kthis := hxu_180.2.2 _ _ (by decide) kthis
  replace kp_124 := hxu_180.2.2 _ _ (by decide) kp_124
  refine mz_dup F dX9_init_380 rfl ?_
  refine mz_bipush (v := 28) F dX9_init_381 (by decide) ?_
  refine mz_bipush (v := 7) F dX9_init_383 (by decide) ?_
  obtain ⟨b_181, h⟩ := h
  refine mz_iast F dX9_init_385 kp_124 rfl b_181 (fun u_182 eu_182 hxu_182 => ?_)
  replace h := h u_182 eu_182
  replace kthis := hxu_182.2.2 _ _ (by decide) kthis
  replace kp_124 := hxu_182.2.2 _ _ (by decide) kp_124
  refine mz_dup F dX9_init_386 rfl ?_
  refine mz_bipush (v := 29) F dX9_init_387 (by decide) ?_
  refine mz_bipush (v := 7) F dX9_init_389 (by decide) ?_
  obtain ⟨b_183, h⟩ := h
  refine mz_iast F dX9_init_391 kp_124 rfl b_183 (fun u_184 eu_184 hxu_184 => ?_)
  replace h := h u_184 eu_184
  replace kthis := hxu_184.2.2 _ _ (by decide) kthis
  replace kp_124 := hxu_184.2.2 _ _ (by decide) kp_124
  refine mz_putRF (k := 43) (tys := tyX9) F dX9_init_392 rfl rfl rfl rfl (by decide) wiX9_init_9 tyX9_ok nmX9 rfl rfl rfl mX9_init_fl84 (by decide) kthis kp_124 (fun u_185 eu_185 hxu_185 => ?_)
  replace h := h u_185 eu_185
  replace kthis := hxu_185.2.2 _ _ (by decide) kthis
  refine mz_aload_n F dX9_init_395 rfl 0 rfl ?_
  refine mz_sipush (v := 480) F dX9_init_396 (by decide) ?_
  obtain ⟨b_186, h⟩ := h
  refine mz_newaZ (c := 21) F dX9_init_399 mX9_init_acZ rfl (by decide) b_186 (fun p_189 u_187 ep_189 eu_187 hx_188 kp_189 => ?_)
  replace h := h p_189 u_187 ep_189 eu_187
  replace kthis := hx_188.2.2 _ _ (by decide) kthis
  refine mz_putRF (k := 44) (tys := tyX9) F dX9_init_401 rfl rfl rfl rfl (by decide) wiX9_init_9 tyX9_ok nmX9 rfl rfl rfl mX9_init_fl87 (by decide) kthis kp_189 (fun u_190 eu_190 hxu_190 => ?_)
  replace h := h u_190 eu_190
  replace kthis := hxu_190.2.2 _ _ (by decide) kthis
  refine mz_aload_n F dX9_init_404 rfl 0 rfl ?_
  refine mz_bipush (v := 80) F dX9_init_405 (by decide) ?_
  obtain ⟨b_191, h⟩ := h
  refine mz_newaZ (c := 27) F dX9_init_407 mX9_init_acZ rfl (by decide) b_191 (fun p_194 u_192 ep_194 eu_192 hx_193 kp_194 => ?_)
  replace h := h p_194 u_192 ep_194 eu_192
  replace kthis := hx_193.2.2 _ _ (by decide) kthis
  refine mz_putRF (k := 45) (tys := tyX9) F dX9_init_409 rfl rfl rfl rfl (by decide) wiX9_init_9 tyX9_ok nmX9 rfl rfl rfl mX9_init_fl90 (by decide) kthis kp_194 (fun u_195 eu_195 hxu_195 => ?_)
  replace h := h u_195 eu_195
  replace kthis := hxu_195.2.2 _ _ (by decide) kthis
  refine mz_aload_n F dX9_init_412 rfl 0 rfl ?_
  refine mz_bipush (v := 8) F dX9_init_413 (by decide) ?_
  obtain ⟨b_196, h⟩ := h
  refine mz_newaI (c := 28) F dX9_init_415 mX9_init_acI rfl (by decide) b_196 (fun p_199 u_197 ep_199 eu_197 hx_198 kp_199 => ?_)
  replace h := h p_199 u_197 ep_199 eu_197
  replace kthis := hx_198.2.2 _ _ (by decide) kthis
  refine mz_putRF (k := 46) (tys := tyX9) F dX9_init_417 rfl rfl rfl rfl (by decide) wiX9_init_9 tyX9_ok nmX9 rfl rfl rfl mX9_init_fl93 (by decide) kthis kp_199 (fun u_200 eu_200 hxu_200 => ?_)
  replace h := h u_200 eu_200
  replace kthis := hxu_200.2.2 _ _ (by decide) kthis
  refine mz_aload_n F dX9_init_420 rfl 0 rfl ?_
  refine mz_bipush (v := 8) F dX9_init_421 (by decide) ?_
  obtain ⟨b_201, h⟩ := h
  refine mz_newaI (c := 28) F dX9_init_423 mX9_init_acI rfl (by decide) b_201 (fun p_204 u_202 ep_204 eu_202 hx_203 kp_204 => ?_)
  replace h := h p_204 u_202 ep_204 eu_202
  replace kthis := hx_203.2.2 _ _ (by decide) kthis
  refine mz_putRF (k := 47) (tys := tyX9) F dX9_init_425 rfl rfl rfl rfl (by decide) wiX9_init_9 tyX9_ok nmX9 rfl rfl rfl mX9_init_fl96 (by decide) kthis kp_204 (fun u_205 eu_205 hxu_205 => ?_)
  replace h := h u_205 eu_205
  replace kthis := hxu_205.2.2 _ _ (by decide) kthis
  refine mz_aload_n F dX9_init_428 rfl 0 rfl ?_
  refine mz_bipush (v := 8) F dX9_init_429 (by decide) ?_
  obtain ⟨b_206, h⟩ := h
  refine mz_newaI (c := 28) F dX9_init_431 mX9_init_acI rfl (by decide) b_206 (fun p_209 u_207 ep_209 eu_207 hx_208 kp_209 => ?_)
  replace h := h p_209 u_207 ep_209 eu_207
  replace kthis := hx_208.2.2 _ _ (by decide) kthis
  refine mz_putRF (k := 48) (tys := tyX9) F dX9_init_433 rfl rfl rfl rfl (by decide) wiX9_init_9 tyX9_ok nmX9 rfl rfl rfl mX9_init_fl99 (by decide) kthis kp_209 (fun u_210 eu_210 hxu_210 => ?_)
  replace h := h u_210 eu_210
  replace kthis := hxu_210.2.2 _ _ (by decide) kthis
  refine mz_aload_n F dX9_init_436 rfl 0 rfl ?_
  refine mz_bipush (v := 8) F dX9_init_437 (by decide) ?_
  obtain ⟨b_211, h⟩ := h
  refine mz_newaI (c := 28) F dX9_init_439 mX9_init_acI rfl (by decide) b_211 (fun p_214 u_212 ep_214 eu_212 hx_213 kp_214 => ?_)
  replace h := h p_214 u_212 ep_214 eu_212
  replace kthis := hx_213.2.2 _ _ (by decide) kthis
  refine mz_putRF (k := 49) (tys := tyX9) F dX9_init_441 rfl rfl rfl rfl (by decide) wiX9_init_9 tyX9_ok nmX9 rfl rfl rfl mX9_init_fl102 (by decide) kthis kp_214 (fun u_215 eu_215 hxu_215 => ?_)
  replace h := h u_215 eu_215
  replace kthis := hxu_215.2.2 _ _ (by decide) kthis
  refine mz_aload_n F dX9_init_444 rfl 0 rfl ?_
  refine mz_sipush (v := 480) F dX9_init_445 (by decide) ?_
  obtain ⟨b_216, h⟩ := h
  refine mz_newaJ (c := 29) F dX9_init_448 mX9_init_acJ rfl (by decide) b_216 (fun p_219 u_217 ep_219 eu_217 hx_218 kp_219 => ?_)
  replace h := h p_219 u_217 ep_219 eu_217
  replace kthis := hx_218.2.2 _ _ (by decide) kthis
  refine mz_putRF (k := 50) (tys := tyX9) F dX9_init_450 rfl rfl rfl rfl (by decide) wiX9_init_9 tyX9_ok nmX9 rfl rfl rfl mX9_init_fl105 (by decide) kthis kp_219 (fun u_220 eu_220 hxu_220 => ?_)
  replace h := h u_220 eu_220
  replace kthis := hxu_220.2.2 _ _ (by decide) kthis
  refine mz_aload_n F dX9_init_453 rfl 0 rfl ?_
  refine mz_bipush (v := 60) F dX9_init_454 (by decide) ?_
  obtain ⟨b_221, h⟩ := h
  refine mz_newaJ (c := 19) F dX9_init_456 mX9_init_acJ rfl (by decide) b_221 (fun p_224 u_222 ep_224 eu_222 hx_223 kp_224 => ?_)
  replace h := h p_224 u_222 ep_224 eu_222
  replace kthis := hx_223.2.2 _ _ (by decide) kthis
  refine mz_putRF (k := 51) (tys := tyX9) F dX9_init_458 rfl rfl rfl rfl (by decide) wiX9_init_9 tyX9_ok nmX9 rfl rfl rfl mX9_init_fl109 (by decide) kthis kp_224 (fun u_225 eu_225 hxu_225 => ?_)
  replace h := h u_225 eu_225
  exact mz_vret F dX9_init_461 ⟨rfl, h⟩
set_option maxRecDepth 100000 in
theorem kX9_init (l : Launch) (G : mG) {u : mSt} {K : mSt → Prop} {this : Nat} (kthis : mK u this = 10) (h : bX9_init this u K) : mCt l G yX9_init wsX9_init 1 20 [.ref (G.1 + this)] u (mPv K) := by
  refine mCt.of (cc := cX9_init) (maxL := 1) (ret := none) (by decide) rfl (Nat.le_of_ble_eq_true rfl) ?_
  intro X hl hN F
  exact tX9_init F hN kthis h
/-! RoomMapperModel.thrown()I -/
theorem wiX9_thrown_9 : ∀ w ∈ u_ws RX9 TX9 52, w ∈ wsX9_thrown := by decide +kernel
theorem fX9_thrown_112 : mFld wsX9_thrown RX9 112 10 0 0 .int false := ⟨9, _, RX9, TX9, 52, tyX9, rfl, rfl, rfl, by decide, wiX9_thrown_9, tyX9_ok, nmX9, rfl, rfl, Or.inl ⟨by decide +kernel, fun _ => rfl⟩⟩
def bX9_thrown (this : Nat) (u : mSt) (K : Int32 → mSt → Prop) : Prop := K (mI u this 0) u
set_option maxRecDepth 100000 in
set_option maxHeartbeats 4000000 in
theorem tX9_thrown {X : mCx} {G : mG} {u0 : mSt} {K : Int32 → mSt → Prop} (F : mFx X G cX9_thrown wsX9_thrown RX9 "thrown" 0 0 (some .int) u0 (mPi K)) (hN : X.2.2.2.2.2.2.2.2.2.2.2.2.1 = 1) {this : Nat} {u : mSt} (kthis : mK u this = 10) (h : bX9_thrown this u K) : mZ X u 0 [(0, .ref (G.1 + this))] [] := by
  refine mz_aload_n F dX9_thrown_0 rfl 0 rfl ?_
  refine mz_getI F dX9_thrown_1 fX9_thrown_112 kthis ?_
  exact mz_iret F dX9_thrown_4 ⟨_, rfl, h⟩
set_option maxRecDepth 100000 in
theorem kX9_thrown (l : Launch) (G : mG) {u : mSt} {K : Int32 → mSt → Prop} {this : Nat} (kthis : mK u this = 10) (h : bX9_thrown this u K) : mCt l G yX9_thrown wsX9_thrown 0 0 [.ref (G.1 + this)] u (mPi K) := by
  refine mCt.of (cc := cX9_thrown) (maxL := 1) (ret := (some .int)) (by decide) rfl (Nat.le_of_ble_eq_true rfl) ?_
  intro X hl hN F
  exact tX9_thrown F hN kthis h
/-! RoomMapperModel.isIn(JJJ)Z -/
def bX9_isIn (a0 : Int64) (a2 : Int64) (a4 : Int64) (u : mSt) (K : Int32 → mSt → Prop) : Prop := (((lg_cmp a0 a2) < 0 → K (0 : Int32) u) ∧ (¬ ((lg_cmp a0 a2) < 0) → ((0 < (lg_cmp a0 a4) → K (0 : Int32) u) ∧ (¬ (0 < (lg_cmp a0 a4)) → K (1 : Int32) u))))
set_option maxRecDepth 100000 in
set_option maxHeartbeats 4000000 in
theorem tX9_isIn {X : mCx} {G : mG} {u0 : mSt} {K : Int32 → mSt → Prop} (F : mFx X G cX9_isIn wsX9_isIn RX9 "isIn" 0 0 (some .boolean) u0 (mPz K)) (hN : X.2.2.2.2.2.2.2.2.2.2.2.2.1 = 6) {a0 : Int64} {a2 : Int64} {a4 : Int64} {u : mSt} (h : bX9_isIn a0 a2 a4 u K) : mZ X u 0 [(0, .long a0), (2, .long a2), (4, .long a4)] [] := by
  refine mz_lload_n F dX9_isIn_0 rfl 0 rfl ?_
  refine mz_lload_n F dX9_isIn_1 rfl 1 rfl ?_
  refine mz_lcmp F dX9_isIn_2 ?_
  refine mz_if_lt (tgt := 17) F dX9_isIn_3 (by decide) (fun c_2 => ?_) (fun c_2 => ?_)
  · replace h := h.1 c_2
    refine mz_iconst (v := 0) F dX9_isIn_17 (by decide) ?_
    exact mz_zret F dX9_isIn_18 rfl ⟨_, rfl, by decide, h⟩
  · replace h := h.2 c_2
    refine mz_lload_n F dX9_isIn_6 rfl 0 rfl ?_
    refine mz_lload F dX9_isIn_7 2 rfl ?_
    refine mz_lcmp F dX9_isIn_9 ?_
    refine mz_if_gt (tgt := 17) F dX9_isIn_10 (by decide) (fun c_1 => ?_) (fun c_1 => ?_)
    · replace h := h.1 c_1
      refine mz_iconst (v := 0) F dX9_isIn_17 (by decide) ?_
      exact mz_zret F dX9_isIn_18 rfl ⟨_, rfl, by decide, h⟩
    · replace h := h.2 c_1
      refine mz_iconst (v := 1) F dX9_isIn_13 (by decide) ?_
      refine mz_goto (tgt := 18) F dX9_isIn_14 (by decide) ?_
      exact mz_zret F dX9_isIn_18 rfl ⟨_, rfl, by decide, h⟩
set_option maxRecDepth 100000 in
theorem kX9_isIn (l : Launch) (G : mG) {u : mSt} {K : Int32 → mSt → Prop} {a0 : Int64} {a2 : Int64} {a4 : Int64} (h : bX9_isIn a0 a2 a4 u K) : mCt l G yX9_isIn wsX9_isIn 0 0 [.long a0, .long a2, .long a4] u (mPz K) := by
  refine mCt.of (cc := cX9_isIn) (maxL := 6) (ret := (some .boolean)) (by decide) rfl (Nat.le_of_ble_eq_true rfl) ?_
  intro X hl hN F
  exact tX9_isIn F hN  h
/-! RoomMapperModel.isCell(I)Z -/
theorem wiX9_isCell_9 : ∀ w ∈ u_ws RX9 TX9 52, w ∈ wsX9_isCell := by decide +kernel
theorem fX9_isCell_116 : mFld wsX9_isCell RX9 116 10 1 0 .int false := ⟨9, _, RX9, TX9, 52, tyX9, rfl, rfl, rfl, by decide, wiX9_isCell_9, tyX9_ok, nmX9, rfl, rfl, Or.inl ⟨by decide +kernel, fun _ => rfl⟩⟩
def bX9_isCell (this : Nat) (a1 : Int32) (u : mSt) (K : Int32 → mSt → Prop) : Prop := ((a1 < 0 → K (0 : Int32) u) ∧ (¬ (a1 < 0) → (((mI u this 1) ≤ a1 → K (0 : Int32) u) ∧ (¬ ((mI u this 1) ≤ a1) → K (1 : Int32) u))))
set_option maxRecDepth 100000 in
set_option maxHeartbeats 4000000 in
theorem tX9_isCell {X : mCx} {G : mG} {u0 : mSt} {K : Int32 → mSt → Prop} (F : mFx X G cX9_isCell wsX9_isCell RX9 "isCell" 0 0 (some .boolean) u0 (mPz K)) (hN : X.2.2.2.2.2.2.2.2.2.2.2.2.1 = 2) {this : Nat} {a1 : Int32} {u : mSt} (kthis : mK u this = 10) (h : bX9_isCell this a1 u K) : mZ X u 0 [(0, .ref (G.1 + this)), (1, .int a1)] [] := by
  refine mz_iload_n F dX9_isCell_0 rfl 1 rfl ?_
  refine mz_if_lt (tgt := 16) F dX9_isCell_1 (by decide) (fun c_2 => ?_) (fun c_2 => ?_)
  · replace h := h.1 c_2
    refine mz_iconst (v := 0) F dX9_isCell_16 (by decide) ?_
    exact mz_zret F dX9_isCell_17 rfl ⟨_, rfl, by decide, h⟩
  · replace h := h.2 c_2
    refine mz_iload_n F dX9_isCell_4 rfl 1 rfl ?_
    refine mz_aload_n F dX9_isCell_5 rfl 0 rfl ?_
    refine mz_getI F dX9_isCell_6 fX9_isCell_116 kthis ?_
    refine mz_icmp_ge (tgt := 16) F dX9_isCell_9 (by decide) (fun c_1 => ?_) (fun c_1 => ?_)
    · replace h := h.1 c_1
      refine mz_iconst (v := 0) F dX9_isCell_16 (by decide) ?_
      exact mz_zret F dX9_isCell_17 rfl ⟨_, rfl, by decide, h⟩
    · replace h := h.2 c_1
      refine mz_iconst (v := 1) F dX9_isCell_12 (by decide) ?_
      refine mz_goto (tgt := 17) F dX9_isCell_13 (by decide) ?_
      exact mz_zret F dX9_isCell_17 rfl ⟨_, rfl, by decide, h⟩
set_option maxRecDepth 100000 in
theorem kX9_isCell (l : Launch) (G : mG) {u : mSt} {K : Int32 → mSt → Prop} {this : Nat} {a1 : Int32} (kthis : mK u this = 10) (h : bX9_isCell this a1 u K) : mCt l G yX9_isCell wsX9_isCell 0 0 [.ref (G.1 + this), .int a1] u (mPz K) := by
  refine mCt.of (cc := cX9_isCell) (maxL := 2) (ret := (some .boolean)) (by decide) rfl (Nat.le_of_ble_eq_true rfl) ?_
  intro X hl hN F
  exact tX9_isCell F hN kthis h
/-! RoomMapperModel.cell(IZ)I -/
theorem wiX9_cell_9 : ∀ w ∈ u_ws RX9 TX9 52, w ∈ wsX9_cell := by decide +kernel
theorem fX9_cell_112 : mFld wsX9_cell RX9 112 10 0 0 .int false := ⟨9, _, RX9, TX9, 52, tyX9, rfl, rfl, rfl, by decide, wiX9_cell_9, tyX9_ok, nmX9, rfl, rfl, Or.inl ⟨by decide +kernel, fun _ => rfl⟩⟩
theorem mX9_cell_ldcl119 : Cond.constantLong RX9 119 (3) ∈ wsX9_cell := by decide +kernel
theorem fX9_cell_116 : mFld wsX9_cell RX9 116 10 1 0 .int false := ⟨9, _, RX9, TX9, 52, tyX9, rfl, rfl, rfl, by decide, wiX9_cell_9, tyX9_ok, nmX9, rfl, rfl, Or.inl ⟨by decide +kernel, fun _ => rfl⟩⟩
theorem fX9_cell_7 : mFld wsX9_cell RX9 7 10 2 12 (.array .int) true := ⟨9, _, RX9, TX9, 52, tyX9, rfl, rfl, rfl, by decide, wiX9_cell_9, tyX9_ok, nmX9, rfl, rfl, Or.inl ⟨by decide +kernel, fun _ => rfl⟩⟩
theorem fX9_cell_13 : mFld wsX9_cell RX9 13 10 3 13 (.array .boolean) true := ⟨9, _, RX9, TX9, 52, tyX9, rfl, rfl, rfl, by decide, wiX9_cell_9, tyX9_ok, nmX9, rfl, rfl, Or.inl ⟨by decide +kernel, fun _ => rfl⟩⟩
def bX9_cell (this : Nat) (a1 : Int32) (a2 : Int32) (u : mSt) (K : Int32 → mSt → Prop) : Prop := (∀ u_1, u_1 = mpI u this 0 (0 : Int32) → bX9_isIn a1.toInt64 (0 : Int64) (3 : Int64) u_1 (fun r_4 u_3 => ((r_4 = 0 → K (-1 : Int32) u_3) ∧ (¬ (r_4 = 0) → (((mI u_3 this 1) = (10 : Int32) → K (-2 : Int32) u_3) ∧ (¬ ((mI u_3 this 1) = (10 : Int32)) → (∃ q_5, mR u_3 this 2 = some q_5 ∧ (vp_in (mI u_3 this 1) 10 ∧ ∀ u_7, u_7 = mpI u_3 q_5 (mI u_3 this 1).toNatClampNeg a1 → (∃ q_8, mR u_7 this 3 = some q_8 ∧ (vp_in (mI u_7 this 1) 10 ∧ ∀ u_10, u_10 = mpI u_7 q_8 (mI u_7 this 1).toNatClampNeg (vp_nar .boolean a2) → (∀ u_11, u_11 = mpI u_10 this 1 ((mI u_10 this 1) + (1 : Int32)) → K ((mI u_11 this 1) - (1 : Int32)) u_11)))))))))))
set_option maxRecDepth 100000 in
set_option maxHeartbeats 4000000 in
theorem tX9_cell {X : mCx} {G : mG} {u0 : mSt} {K : Int32 → mSt → Prop} (F : mFx X G cX9_cell wsX9_cell RX9 "cell" 1 25 (some .int) u0 (mPi K)) (hN : X.2.2.2.2.2.2.2.2.2.2.2.2.1 = 3) {this : Nat} {a1 : Int32} {a2 : Int32} {u : mSt} (kthis : mK u this = 10) (h : bX9_cell this a1 a2 u K) : mZ X u 0 [(0, .ref (G.1 + this)), (1, .int a1), (2, .int a2)] [] := by
  refine mz_aload_n F dX9_cell_0 rfl 0 rfl ?_
  refine mz_iconst (v := 0) F dX9_cell_1 (by decide) ?_
  refine mz_putI F dX9_cell_2 fX9_cell_112 kthis rfl rfl (fun u_1 eu_1 hxu_1 => ?_)
  replace h := h u_1 eu_1
  replace kthis := hxu_1.2.2 _ _ (by decide) kthis
  refine mz_iload_n F dX9_cell_5 rfl 1 rfl ?_
  refine mz_i2l F dX9_cell_6 ?_
  refine mz_lconst (v := 0) F dX9_cell_7 (by decide) ?_
  refine mz_ldc2 (v := 3) F dX9_cell_8 mX9_cell_ldcl119 ?_
  refine mz_callS (As := [_, _, _]) (n := 3) F dX9_cell_11 rfl gX9_cell_X9_isIn (by decide +kernel) (by decide) rfl (Nat.le_of_ble_eq_true rfl) (kX9_isIn _ G h) (mz_kZ fun r_4 u_3 br_4 h hx_2 => ?_)
  replace kthis := hx_2.2.2 _ _ (by decide) kthis
  refine mz_if_ne (tgt := 19) F dX9_cell_14 (by decide) (fun c_13 => ?_) (fun c_13 => ?_)
  · replace h := h.2 c_13
    refine mz_aload_n F dX9_cell_19 rfl 0 rfl ?_
    refine mz_getI F dX9_cell_20 fX9_cell_116 kthis ?_
    refine mz_bipush (v := 10) F dX9_cell_23 (by decide) ?_
    refine mz_icmp_ne (tgt := 31) F dX9_cell_25 (by decide) (fun c_12 => ?_) (fun c_12 => ?_)
    · replace h := h.2 c_12
      refine mz_aload_n F dX9_cell_31 rfl 0 rfl ?_
      obtain ⟨q_5, eq_5, h⟩ := h
      refine mz_getR F dX9_cell_32 fX9_cell_7 (by decide) kthis eq_5 (fun kq_5 => ?_)
      refine mz_aload_n F dX9_cell_35 rfl 0 rfl ?_
      refine mz_getI F dX9_cell_36 fX9_cell_116 kthis ?_
      refine mz_iload_n F dX9_cell_39 rfl 1 rfl ?_
      obtain ⟨b_6, h⟩ := h
      refine mz_iast F dX9_cell_40 kq_5 rfl b_6 (fun u_7 eu_7 hxu_7 => ?_)
      replace h := h u_7 eu_7
      replace kthis := hxu_7.2.2 _ _ (by decide) kthis
      refine mz_aload_n F dX9_cell_41 rfl 0 rfl ?_
      obtain ⟨q_8, eq_8, h⟩ := h
      refine mz_getR F dX9_cell_42 fX9_cell_13 (by decide) kthis eq_8 (fun kq_8 => ?_)
      refine mz_aload_n F dX9_cell_45 rfl 0 rfl ?_
      refine mz_getI F dX9_cell_46 fX9_cell_116 kthis ?_
      refine mz_iload_n F dX9_cell_49 rfl 2 rfl ?_
      obtain ⟨b_9, h⟩ := h
      refine mz_zast F dX9_cell_50 kq_8 rfl b_9 (fun u_10 eu_10 hxu_10 => ?_)
      replace h := h u_10 eu_10
      replace kthis := hxu_10.2.2 _ _ (by decide) kthis
      refine mz_aload_n F dX9_cell_51 rfl 0 rfl ?_
      refine mz_dup F dX9_cell_52 rfl ?_
      refine mz_getI F dX9_cell_53 fX9_cell_116 kthis ?_
      refine mz_iconst (v := 1) F dX9_cell_56 (by decide) ?_
      refine mz_iadd F dX9_cell_57 ?_
      refine mz_putI F dX9_cell_58 fX9_cell_116 kthis rfl rfl (fun u_11 eu_11 hxu_11 => ?_)
      replace h := h u_11 eu_11
      replace kthis := hxu_11.2.2 _ _ (by decide) kthis
      refine mz_aload_n F dX9_cell_61 rfl 0 rfl ?_
      refine mz_getI F dX9_cell_62 fX9_cell_116 kthis ?_
      refine mz_iconst (v := 1) F dX9_cell_65 (by decide) ?_
      refine mz_isub F dX9_cell_66 ?_
      exact mz_iret F dX9_cell_67 ⟨_, rfl, h⟩
    · replace h := h.1 c_12
      refine mz_bipush (v := (-2)) F dX9_cell_28 (by decide) ?_
      exact mz_iret F dX9_cell_30 ⟨_, rfl, h⟩
  · replace h := h.1 c_13
    refine mz_iconst (v := (-1)) F dX9_cell_17 (by decide) ?_
    exact mz_iret F dX9_cell_18 ⟨_, rfl, h⟩
set_option maxRecDepth 100000 in
theorem kX9_cell (l : Launch) (G : mG) {u : mSt} {K : Int32 → mSt → Prop} {this : Nat} {a1 : Int32} {a2 : Int32} (kthis : mK u this = 10) (h : bX9_cell this a1 a2 u K) : mCt l G yX9_cell wsX9_cell 1 25 [.ref (G.1 + this), .int a1, .int a2] u (mPi K) := by
  refine mCt.of (cc := cX9_cell) (maxL := 3) (ret := (some .int)) (by decide) rfl (Nat.le_of_ble_eq_true rfl) ?_
  intro X hl hN F
  exact tX9_cell F hN kthis h
/-! RoomMapperModel.lead(IIII)I -/
theorem wiX9_lead_9 : ∀ w ∈ u_ws RX9 TX9 52, w ∈ wsX9_lead := by decide +kernel
theorem fX9_lead_17 : mFld wsX9_lead RX9 17 10 4 14 (.array .int) true := ⟨9, _, RX9, TX9, 52, tyX9, rfl, rfl, rfl, by decide, wiX9_lead_9, tyX9_ok, nmX9, rfl, rfl, Or.inl ⟨by decide +kernel, fun _ => rfl⟩⟩
theorem fX9_lead_20 : mFld wsX9_lead RX9 20 10 5 14 (.array .int) true := ⟨9, _, RX9, TX9, 52, tyX9, rfl, rfl, rfl, by decide, wiX9_lead_9, tyX9_ok, nmX9, rfl, rfl, Or.inl ⟨by decide +kernel, fun _ => rfl⟩⟩
theorem fX9_lead_112 : mFld wsX9_lead RX9 112 10 0 0 .int false := ⟨9, _, RX9, TX9, 52, tyX9, rfl, rfl, rfl, by decide, wiX9_lead_9, tyX9_ok, nmX9, rfl, rfl, Or.inl ⟨by decide +kernel, fun _ => rfl⟩⟩
theorem mX9_lead_ldcl119 : Cond.constantLong RX9 119 (3) ∈ wsX9_lead := by decide +kernel
theorem mX9_lead_ldcl129 : Cond.constantLong RX9 129 (5) ∈ wsX9_lead := by decide +kernel
def bX9_lead_52 (v0 : Nat) (v1 : Int32) (v2 : Int32) (v3 : Int32) (v4 : Int32) (u : mSt) (K : Int32 → mSt → Prop) : Prop := (∃ q_1, mR u v0 4 = some q_1 ∧ (vp_in (((4 : Int32) * v1) + v2) 40 ∧ (∀ x_3, x_3 = (mI u q_1 (((4 : Int32) * v1) + v2).toNatClampNeg) → (∃ q_4, mR u v0 4 = some q_4 ∧ (vp_in (((4 : Int32) * v1) + v2) 40 ∧ ∀ u_6, u_6 = mpI u q_4 (((4 : Int32) * v1) + v2).toNatClampNeg v3 → (∃ q_7, mR u_6 v0 5 = some q_7 ∧ ((v3 ≤ 0 → (vp_in (((4 : Int32) * v1) + v2) 40 ∧ ∀ u_9, u_9 = mpI u_6 q_7 (((4 : Int32) * v1) + v2).toNatClampNeg (0 : Int32) → K x_3 u_9)) ∧ (¬ (v3 ≤ 0) → (vp_in (((4 : Int32) * v1) + v2) 40 ∧ ∀ u_11, u_11 = mpI u_6 q_7 (((4 : Int32) * v1) + v2).toNatClampNeg v4 → K x_3 u_11)))))))))
set_option maxRecDepth 100000 in
set_option maxHeartbeats 4000000 in
theorem tX9_lead_52 {X : mCx} {G : mG} {u0 : mSt} {K : Int32 → mSt → Prop} (F : mFx X G cX9_lead wsX9_lead RX9 "lead" 1 25 (some .int) u0 (mPi K)) (hN : X.2.2.2.2.2.2.2.2.2.2.2.2.1 = 6) {v0 : Nat} {v1 : Int32} {v2 : Int32} {v3 : Int32} {v4 : Int32} {u : mSt} (kv0 : mK u v0 = 10) (h : bX9_lead_52 v0 v1 v2 v3 v4 u K) : mZ X u 52 [(0, .ref (G.1 + v0)), (1, .int v1), (2, .int v2), (3, .int v3), (4, .int v4)] [] := by
  refine mz_aload_n F dX9_lead_52 rfl 0 rfl ?_
  obtain ⟨q_1, eq_1, h⟩ := h
  refine mz_getR F dX9_lead_53 fX9_lead_17 (by decide) kv0 eq_1 (fun kq_1 => ?_)
  refine mz_iconst (v := 4) F dX9_lead_56 (by decide) ?_
  refine mz_iload_n F dX9_lead_57 rfl 1 rfl ?_
  refine mz_imul F dX9_lead_58 ?_
  refine mz_iload_n F dX9_lead_59 rfl 2 rfl ?_
  refine mz_iadd F dX9_lead_60 ?_
  obtain ⟨b_2, h⟩ := h
  refine mz_iald F dX9_lead_61 kq_1 rfl b_2 ?_
  refine mz_topi (fun x_3 ex_3 => ?_)
  replace h := h x_3 ex_3
  refine mz_istore (lv2 := [(5, .int x_3), (0, .ref (G.1 + v0)), (1, .int v1), (2, .int v2), (3, .int v3), (4, .int v4)]) F dX9_lead_62 hN (by decide) rfl ?_
  refine mz_aload_n F dX9_lead_64 rfl 1 rfl ?_
  obtain ⟨q_4, eq_4, h⟩ := h
  refine mz_getR F dX9_lead_65 fX9_lead_17 (by decide) kv0 eq_4 (fun kq_4 => ?_)
  refine mz_iconst (v := 4) F dX9_lead_68 (by decide) ?_
  refine mz_iload_n F dX9_lead_69 rfl 2 rfl ?_
  refine mz_imul F dX9_lead_70 ?_
  refine mz_iload_n F dX9_lead_71 rfl 3 rfl ?_
  refine mz_iadd F dX9_lead_72 ?_
  refine mz_iload_n F dX9_lead_73 rfl 4 rfl ?_
  obtain ⟨b_5, h⟩ := h
  refine mz_iast F dX9_lead_74 kq_4 rfl b_5 (fun u_6 eu_6 hxu_6 => ?_)
  replace h := h u_6 eu_6
  replace kv0 := hxu_6.2.2 _ _ (by decide) kv0
  refine mz_aload_n F dX9_lead_75 rfl 1 rfl ?_
  obtain ⟨q_7, eq_7, h⟩ := h
  refine mz_getR F dX9_lead_76 fX9_lead_20 (by decide) kv0 eq_7 (fun kq_7 => ?_)
  refine mz_iconst (v := 4) F dX9_lead_79 (by decide) ?_
  refine mz_iload_n F dX9_lead_80 rfl 2 rfl ?_
  refine mz_imul F dX9_lead_81 ?_
  refine mz_iload_n F dX9_lead_82 rfl 3 rfl ?_
  refine mz_iadd F dX9_lead_83 ?_
  refine mz_iload_n F dX9_lead_84 rfl 4 rfl ?_
  refine mz_if_le (tgt := 93) F dX9_lead_85 (by decide) (fun c_12 => ?_) (fun c_12 => ?_)
  · replace h := h.1 c_12
    refine mz_iconst (v := 0) F dX9_lead_93 (by decide) ?_
    obtain ⟨b_8, h⟩ := h
    refine mz_iast F dX9_lead_94 kq_7 rfl b_8 (fun u_9 eu_9 hxu_9 => ?_)
    replace h := h u_9 eu_9
    refine mz_iload F dX9_lead_95 0 rfl ?_
    exact mz_iret F dX9_lead_97 ⟨_, rfl, h⟩
  · replace h := h.2 c_12
    refine mz_iload F dX9_lead_88 5 rfl ?_
    refine mz_goto (tgt := 94) F dX9_lead_90 (by decide) ?_
    obtain ⟨b_10, h⟩ := h
    refine mz_iast F dX9_lead_94 kq_7 rfl b_10 (fun u_11 eu_11 hxu_11 => ?_)
    replace h := h u_11 eu_11
    refine mz_iload F dX9_lead_95 0 rfl ?_
    exact mz_iret F dX9_lead_97 ⟨_, rfl, h⟩
def bX9_lead (this : Nat) (a1 : Int32) (a2 : Int32) (a3 : Int32) (a4 : Int32) (u : mSt) (K : Int32 → mSt → Prop) : Prop := (∀ u_1, u_1 = mpI u this 0 (0 : Int32) → bX9_isCell this a1 u_1 (fun r_4 u_3 => ((r_4 = 0 → K (-1 : Int32) u_3) ∧ (¬ (r_4 = 0) → bX9_isIn a2.toInt64 (0 : Int64) (3 : Int64) u_3 (fun r_7 u_6 => ((r_7 = 0 → K (-1 : Int32) u_6) ∧ (¬ (r_7 = 0) → bX9_isIn a3.toInt64 (0 : Int64) (5 : Int64) u_6 (fun r_10 u_9 => ((r_10 = 0 → K (-1 : Int32) u_9) ∧ (¬ (r_10 = 0) → ((a3 ≤ 0 → bX9_lead_52 this a1 a2 a3 a4 u_9 K) ∧ (¬ (a3 ≤ 0) → bX9_isCell this a4 u_9 (fun r_13 u_12 => ((r_13 = 0 → K (-1 : Int32) u_12) ∧ (¬ (r_13 = 0) → bX9_lead_52 this a1 a2 a3 a4 u_12 K)))))))))))))))
set_option maxRecDepth 100000 in
set_option maxHeartbeats 4000000 in
theorem tX9_lead {X : mCx} {G : mG} {u0 : mSt} {K : Int32 → mSt → Prop} (F : mFx X G cX9_lead wsX9_lead RX9 "lead" 1 25 (some .int) u0 (mPi K)) (hN : X.2.2.2.2.2.2.2.2.2.2.2.2.1 = 6) {this : Nat} {a1 : Int32} {a2 : Int32} {a3 : Int32} {a4 : Int32} {u : mSt} (kthis : mK u this = 10) (h : bX9_lead this a1 a2 a3 a4 u K) : mZ X u 0 [(0, .ref (G.1 + this)), (1, .int a1), (2, .int a2), (3, .int a3), (4, .int a4)] [] := by
  refine mz_aload_n F dX9_lead_0 rfl 0 rfl ?_
  refine mz_iconst (v := 0) F dX9_lead_1 (by decide) ?_
  refine mz_putI F dX9_lead_2 fX9_lead_112 kthis rfl rfl (fun u_1 eu_1 hxu_1 => ?_)
  replace h := h u_1 eu_1
  replace kthis := hxu_1.2.2 _ _ (by decide) kthis
  refine mz_aload_n F dX9_lead_5 rfl 0 rfl ?_
  refine mz_iload_n F dX9_lead_6 rfl 1 rfl ?_
  refine mz_callV (As := [_]) (n := 1) F dX9_lead_7 rfl kthis rfl rfl gX9_lead_X9_isCell (by decide +kernel) (by decide) rfl (Nat.le_of_ble_eq_true rfl) (kX9_isCell _ G kthis h) (mz_kZ fun r_4 u_3 br_4 h hx_2 => ?_)
  replace kthis := hx_2.2.2 _ _ (by decide) kthis
  refine mz_if_eq (tgt := 50) F dX9_lead_10 (by decide) (fun c_18 => ?_) (fun c_18 => ?_)
  · replace h := h.1 c_18
    refine mz_iconst (v := (-1)) F dX9_lead_50 (by decide) ?_
    exact mz_iret F dX9_lead_51 ⟨_, rfl, h⟩
  · replace h := h.2 c_18
    refine mz_iload_n F dX9_lead_13 rfl 2 rfl ?_
    refine mz_i2l F dX9_lead_14 ?_
    refine mz_lconst (v := 0) F dX9_lead_15 (by decide) ?_
    refine mz_ldc2 (v := 3) F dX9_lead_16 mX9_lead_ldcl119 ?_
    refine mz_callS (As := [_, _, _]) (n := 3) F dX9_lead_19 rfl gX9_lead_X9_isIn (by decide +kernel) (by decide) rfl (Nat.le_of_ble_eq_true rfl) (kX9_isIn _ G h) (mz_kZ fun r_7 u_6 br_7 h hx_5 => ?_)
    replace kthis := hx_5.2.2 _ _ (by decide) kthis
    refine mz_if_eq (tgt := 50) F dX9_lead_22 (by decide) (fun c_17 => ?_) (fun c_17 => ?_)
    · replace h := h.1 c_17
      refine mz_iconst (v := (-1)) F dX9_lead_50 (by decide) ?_
      exact mz_iret F dX9_lead_51 ⟨_, rfl, h⟩
    · replace h := h.2 c_17
      refine mz_iload_n F dX9_lead_25 rfl 3 rfl ?_
      refine mz_i2l F dX9_lead_26 ?_
      refine mz_lconst (v := 0) F dX9_lead_27 (by decide) ?_
      refine mz_ldc2 (v := 5) F dX9_lead_28 mX9_lead_ldcl129 ?_
      refine mz_callS (As := [_, _, _]) (n := 3) F dX9_lead_31 rfl gX9_lead_X9_isIn (by decide +kernel) (by decide) rfl (Nat.le_of_ble_eq_true rfl) (kX9_isIn _ G h) (mz_kZ fun r_10 u_9 br_10 h hx_8 => ?_)
      replace kthis := hx_8.2.2 _ _ (by decide) kthis
      refine mz_if_eq (tgt := 50) F dX9_lead_34 (by decide) (fun c_16 => ?_) (fun c_16 => ?_)
      · replace h := h.1 c_16
        refine mz_iconst (v := (-1)) F dX9_lead_50 (by decide) ?_
        exact mz_iret F dX9_lead_51 ⟨_, rfl, h⟩
      · replace h := h.2 c_16
        refine mz_iload_n F dX9_lead_37 rfl 3 rfl ?_
        refine mz_if_le (tgt := 52) F dX9_lead_38 (by decide) (fun c_15 => ?_) (fun c_15 => ?_)
        · replace h := h.1 c_15
          refine mz_sub [0, 1, 2, 3, 4] rfl ?_
          exact tX9_lead_52 F hN kthis h
        · replace h := h.2 c_15
          refine mz_aload_n F dX9_lead_41 rfl 0 rfl ?_
          refine mz_iload F dX9_lead_42 4 rfl ?_
          refine mz_callV (As := [_]) (n := 1) F dX9_lead_44 rfl kthis rfl rfl gX9_lead_X9_isCell (by decide +kernel) (by decide) rfl (Nat.le_of_ble_eq_true rfl) (kX9_isCell _ G kthis h) (mz_kZ fun r_13 u_12 br_13 h hx_11 => ?_)
          replace kthis := hx_11.2.2 _ _ (by decide) kthis
          refine mz_if_ne (tgt := 52) F dX9_lead_47 (by decide) (fun c_14 => ?_) (fun c_14 => ?_)
          · replace h := h.2 c_14
            refine mz_sub [0, 1, 2, 3, 4] rfl ?_
            exact tX9_lead_52 F hN kthis h
          · replace h := h.1 c_14
            refine mz_iconst (v := (-1)) F dX9_lead_50 (by decide) ?_
            exact mz_iret F dX9_lead_51 ⟨_, rfl, h⟩
set_option maxRecDepth 100000 in
theorem kX9_lead (l : Launch) (G : mG) {u : mSt} {K : Int32 → mSt → Prop} {this : Nat} {a1 : Int32} {a2 : Int32} {a3 : Int32} {a4 : Int32} (kthis : mK u this = 10) (h : bX9_lead this a1 a2 a3 a4 u K) : mCt l G yX9_lead wsX9_lead 1 25 [.ref (G.1 + this), .int a1, .int a2, .int a3, .int a4] u (mPi K) := by
  refine mCt.of (cc := cX9_lead) (maxL := 6) (ret := (some .int)) (by decide) rfl (Nat.le_of_ble_eq_true rfl) ?_
  intro X hl hN F
  exact tX9_lead F hN kthis h
/-! RoomMapperModel.slide(I)V -/
theorem wiX9_slide_9 : ∀ w ∈ u_ws RX9 TX9 52, w ∈ wsX9_slide := by decide +kernel
theorem fX9_slide_17 : mFld wsX9_slide RX9 17 10 4 14 (.array .int) true := ⟨9, _, RX9, TX9, 52, tyX9, rfl, rfl, rfl, by decide, wiX9_slide_9, tyX9_ok, nmX9, rfl, rfl, Or.inl ⟨by decide +kernel, fun _ => rfl⟩⟩
theorem fX9_slide_131 : mFld wsX9_slide RX9 131 10 34 0 .int false := ⟨9, _, RX9, TX9, 52, tyX9, rfl, rfl, rfl, by decide, wiX9_slide_9, tyX9_ok, nmX9, rfl, rfl, Or.inl ⟨by decide +kernel, fun _ => rfl⟩⟩
theorem fX9_slide_20 : mFld wsX9_slide RX9 20 10 5 14 (.array .int) true := ⟨9, _, RX9, TX9, 52, tyX9, rfl, rfl, rfl, by decide, wiX9_slide_9, tyX9_ok, nmX9, rfl, rfl, Or.inl ⟨by decide +kernel, fun _ => rfl⟩⟩
def bX9_slide_2 : Nat → Nat → Int32 → Int32 → mSt → (mSt → Prop) → Prop
  | 0, _, _, _, _, _ => False
  | n + 1, v0, v1, v2, u, K => (((10 : Int32) ≤ v2 → K u) ∧ (¬ ((10 : Int32) ≤ v2) → (∃ q_1, mR u v0 4 = some q_1 ∧ (vp_in (((4 : Int32) * (mI u v0 34)) + v1) 40 ∧ (((mI u q_1 (((4 : Int32) * (mI u v0 34)) + v1).toNatClampNeg) = (3 : Int32) → (∃ q_3, mR u v0 5 = some q_3 ∧ (vp_in (((4 : Int32) * (mI u v0 34)) + v1) 40 ∧ (∀ u_5, u_5 = mpI u v0 34 (mI u q_3 (((4 : Int32) * (mI u v0 34)) + v1).toNatClampNeg) → (∀ x_6, x_6 = v2 + (1 : Int32) → bX9_slide_2 n v0 v1 x_6 u_5 K))))) ∧ (¬ ((mI u q_1 (((4 : Int32) * (mI u v0 34)) + v1).toNatClampNeg) = (3 : Int32)) → K u))))))
set_option maxRecDepth 100000 in
set_option maxHeartbeats 4000000 in
theorem tX9_slide_2 {X : mCx} {G : mG} {u0 : mSt} {K : mSt → Prop} (F : mFx X G cX9_slide wsX9_slide RX9 "slide" 0 0 none u0 (mPv K)) (hN : X.2.2.2.2.2.2.2.2.2.2.2.2.1 = 3) : ∀ (n : Nat) {v0 : Nat} {v1 : Int32} {v2 : Int32} {u : mSt}, mK u v0 = 10 → bX9_slide_2 n v0 v1 v2 u K → mZ X u 2 [(0, .ref (G.1 + v0)), (1, .int v1), (2, .int v2)] [] := by
  intro n
  induction n with
  | zero => intro v0 v1 v2 u kv0 h; exact False.elim h
  | succ n ih =>
    intro v0 v1 v2 u kv0 h
    refine mz_iload_n F dX9_slide_2 rfl 2 rfl ?_
    refine mz_bipush (v := 10) F dX9_slide_3 (by decide) ?_
    refine mz_icmp_ge (tgt := 48) F dX9_slide_5 (by decide) (fun c_8 => ?_) (fun c_8 => ?_)
    · replace h := h.1 c_8
      exact mz_vret F dX9_slide_48 ⟨rfl, h⟩
    · replace h := h.2 c_8
      refine mz_aload_n F dX9_slide_8 rfl 0 rfl ?_
      obtain ⟨q_1, eq_1, h⟩ := h
      refine mz_getR F dX9_slide_9 fX9_slide_17 (by decide) kv0 eq_1 (fun kq_1 => ?_)
      refine mz_iconst (v := 4) F dX9_slide_12 (by decide) ?_
      refine mz_aload_n F dX9_slide_13 rfl 0 rfl ?_
      refine mz_getI F dX9_slide_14 fX9_slide_131 kv0 ?_
      refine mz_imul F dX9_slide_17 ?_
      refine mz_iload_n F dX9_slide_18 rfl 1 rfl ?_
      refine mz_iadd F dX9_slide_19 ?_
      obtain ⟨b_2, h⟩ := h
      refine mz_iald F dX9_slide_20 kq_1 rfl b_2 ?_
      refine mz_iconst (v := 3) F dX9_slide_21 (by decide) ?_
      refine mz_icmp_ne (tgt := 48) F dX9_slide_22 (by decide) (fun c_7 => ?_) (fun c_7 => ?_)
      · replace h := h.2 c_7
        exact mz_vret F dX9_slide_48 ⟨rfl, h⟩
      · replace h := h.1 c_7
        refine mz_aload_n F dX9_slide_25 rfl 0 rfl ?_
        refine mz_aload_n F dX9_slide_26 rfl 0 rfl ?_
        obtain ⟨q_3, eq_3, h⟩ := h
        refine mz_getR F dX9_slide_27 fX9_slide_20 (by decide) kv0 eq_3 (fun kq_3 => ?_)
        refine mz_iconst (v := 4) F dX9_slide_30 (by decide) ?_
        refine mz_aload_n F dX9_slide_31 rfl 0 rfl ?_
        refine mz_getI F dX9_slide_32 fX9_slide_131 kv0 ?_
        refine mz_imul F dX9_slide_35 ?_
        refine mz_iload_n F dX9_slide_36 rfl 1 rfl ?_
        refine mz_iadd F dX9_slide_37 ?_
        obtain ⟨b_4, h⟩ := h
        refine mz_iald F dX9_slide_38 kq_3 rfl b_4 ?_
        refine mz_putI F dX9_slide_39 fX9_slide_131 kv0 rfl rfl (fun u_5 eu_5 hxu_5 => ?_)
        replace h := h u_5 eu_5
        replace kv0 := hxu_5.2.2 _ _ (by decide) kv0
        obtain ⟨x_6, ex_6⟩ : ∃ y : Int32, y = v2 + (1 : Int32) := ⟨_, rfl⟩
        replace h := h x_6 ex_6
        refine mz_iinc (v := x_6) (lv2 := [(2, .int x_6), (0, .ref (G.1 + v0)), (1, .int v1)]) F dX9_slide_42 2 rfl (by rw [ex_6]; rfl) hN (by decide) rfl ?_
        refine mz_goto (tgt := 2) F dX9_slide_45 (by decide) ?_
        refine mz_sub [1, 2, 0] rfl ?_
        exact ih kv0 h
def bX9_slide (this : Nat) (a1 : Int32) (u : mSt) (K : mSt → Prop) : Prop := (∃ n9, bX9_slide_2 n9 this a1 (0 : Int32) u K)
set_option maxRecDepth 100000 in
set_option maxHeartbeats 4000000 in
theorem tX9_slide {X : mCx} {G : mG} {u0 : mSt} {K : mSt → Prop} (F : mFx X G cX9_slide wsX9_slide RX9 "slide" 0 0 none u0 (mPv K)) (hN : X.2.2.2.2.2.2.2.2.2.2.2.2.1 = 3) {this : Nat} {a1 : Int32} {u : mSt} (kthis : mK u this = 10) (h : bX9_slide this a1 u K) : mZ X u 0 [(0, .ref (G.1 + this)), (1, .int a1)] [] := by
  refine mz_iconst (v := 0) F dX9_slide_0 (by decide) ?_
  refine mz_istore_n (lv2 := [(2, .int (0 : Int32)), (0, .ref (G.1 + this)), (1, .int a1)]) F dX9_slide_1 rfl hN (by decide) rfl ?_
  refine mz_sub [1, 2, 0] rfl ?_
  obtain ⟨n9, h⟩ := h
  exact tX9_slide_2 F hN n9 kthis h
set_option maxRecDepth 100000 in
theorem kX9_slide (l : Launch) (G : mG) {u : mSt} {K : mSt → Prop} {this : Nat} {a1 : Int32} (kthis : mK u this = 10) (h : bX9_slide this a1 u K) : mCt l G yX9_slide wsX9_slide 0 0 [.ref (G.1 + this), .int a1] u (mPv K) := by
  refine mCt.of (cc := cX9_slide) (maxL := 3) (ret := none) (by decide) rfl (Nat.le_of_ble_eq_true rfl) ?_
  intro X hl hN F
  exact tX9_slide F hN kthis h
