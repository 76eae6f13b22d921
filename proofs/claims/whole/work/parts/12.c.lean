theorem nwM2_58 : Cond.methodLinkNest RX2 58 yX4_placeAfter "RoomMapper" ∈ tables_1 := by decide +kernel
theorem nwF2_24 : Cond.fieldLinkNest RX2 24 RX0 "count" "I" "RoomMapper" ∈ tables_1 := by decide +kernel
theorem nwF2_35 : Cond.fieldLinkNest RX2 35 RX0 "now" "[LRoomMapper$Sheet;" "RoomMapper" ∈ tables_1 := by decide +kernel
theorem nwM2_54 : Cond.methodLinkNest RX2 54 yX4_sightAfter "RoomMapper" ∈ tables_1 := by decide +kernel
theorem nwF2_21 : Cond.fieldLinkNest RX2 21 RX8 "ROWS_OF_ACTS" "[I" "RoomMapper" ∈ tables_1 := by decide +kernel
theorem nwF2_39 : Cond.fieldLinkNest RX2 39 RX4 "walker" "I" "RoomMapper" ∈ tables_1 := by decide +kernel
theorem nwM3_35 : Cond.methodLinkNest RX3 35 yX4_placeAfter "RoomMapper" ∈ tables_1 := by decide +kernel
theorem nwF3_45 : Cond.fieldLinkNest RX3 45 RX4 "places" "I" "RoomMapper" ∈ tables_1 := by decide +kernel
theorem nwF3_22 : Cond.fieldLinkNest RX3 22 RX4 "walker" "I" "RoomMapper" ∈ tables_1 := by decide +kernel
/-! RoomMapper$Parting.refine(LRoomMapper$Atlas;I)V -/
theorem wiX2_refine_2 : ∀ w ∈ u_ws RX2 TX2 4, w ∈ wsX2_refine := by decide +kernel
theorem fX2_refine_15 : mFld wsX2_refine RX2 15 3 1 15 (.array .int) true := ⟨2, _, RX2, TX2, 4, tyX2, rfl, rfl, rfl, by decide, wiX2_refine_2, tyX2_ok, nmX2, rfl, rfl, Or.inl ⟨by decide +kernel, fun _ => rfl⟩⟩
theorem fX2_refine_18 : mFld wsX2_refine RX2 18 3 2 16 (.array .int) true := ⟨2, _, RX2, TX2, 4, tyX2, rfl, rfl, rfl, by decide, wiX2_refine_2, tyX2_ok, nmX2, rfl, rfl, Or.inl ⟨by decide +kernel, fun _ => rfl⟩⟩
theorem fX2_refine_34 : mFld wsX2_refine RX2 34 3 3 0 .int false := ⟨2, _, RX2, TX2, 4, tyX2, rfl, rfl, rfl, by decide, wiX2_refine_2, tyX2_ok, nmX2, rfl, rfl, Or.inl ⟨by decide +kernel, fun _ => rfl⟩⟩
theorem fX2_refine_9 : mFld wsX2_refine RX2 9 3 0 15 (.array .int) true := ⟨2, _, RX2, TX2, 4, tyX2, rfl, rfl, rfl, by decide, wiX2_refine_2, tyX2_ok, nmX2, rfl, rfl, Or.inl ⟨by decide +kernel, fun _ => rfl⟩⟩
theorem mX2_refine_iniX4_placeAfter : Cond.initialized yX4_placeAfter.cls ∈ wsX2_refine := by decide +kernel
theorem mX2_refine_imX4_placeAfter : Cond.instanceMethod yX4_placeAfter ∈ wsX2_refine := by decide +kernel
theorem mX2_refine_seX4_placeAfter : Cond.selects RX4 yX4_placeAfter yX4_placeAfter ∈ wsX2_refine := by decide +kernel
theorem wiX2_refine_0 : ∀ w ∈ u_ws RX0 TX0 6, w ∈ wsX2_refine := by decide +kernel
theorem fX2_refine_24 : mFld wsX2_refine RX2 24 1 2 0 .int false := ⟨0, _, RX0, TX0, 6, tyX0, rfl, rfl, rfl, by decide, wiX2_refine_0, tyX0_ok, nmX0, rfl, rfl, Or.inr ⟨"RoomMapper", nwF2_24⟩⟩
theorem fX2_refine_35 : mFld wsX2_refine RX2 35 1 0 11 (.array (.object "RoomMapper$Sheet")) false := ⟨0, _, RX0, TX0, 6, tyX0, rfl, rfl, rfl, by decide, wiX2_refine_0, tyX0_ok, nmX0, rfl, rfl, Or.inr ⟨"RoomMapper", nwF2_35⟩⟩
theorem mX2_refine_iniX4_sightAfter : Cond.initialized yX4_sightAfter.cls ∈ wsX2_refine := by decide +kernel
theorem mX2_refine_imX4_sightAfter : Cond.instanceMethod yX4_sightAfter ∈ wsX2_refine := by decide +kernel
theorem mX2_refine_seX4_sightAfter : Cond.selects RX4 yX4_sightAfter yX4_sightAfter ∈ wsX2_refine := by decide +kernel
def bX2_refine_156 (v0 : Nat) (v1 : Nat) (v2 : Int32) (v3 : Int32) (v6 : Int32) (u : mSt) (K : mSt → Prop) (KL23 : Nat → Nat → Int32 → Int32 → mSt → Prop) : Prop := (∃ q_1, mR u v0 1 = some q_1 ∧ (∃ q_2, mR u v0 2 = some q_2 ∧ (vp_in v6 2550 ∧ (vp_in v3 150 ∧ ∀ u_5, u_5 = mpI u q_1 v3.toNatClampNeg ((mI u q_2 v6.toNatClampNeg) - (1 : Int32)) → (∀ x_6, x_6 = v3 + (1 : Int32) → KL23 v0 v1 v2 x_6 u_5)))))
set_option maxRecDepth 100000 in
set_option maxHeartbeats 4000000 in
theorem tX2_refine_156 {X : mCx} {G : mG} {u0 : mSt} {K : mSt → Prop} {KL23 : Nat → Nat → Int32 → Int32 → mSt → Prop} (F : mFx X G cX2_refine wsX2_refine RX2 "refine" 3 67 none u0 (mPv K)) (hN : X.2.2.2.2.2.2.2.2.2.2.2.2.1 = 7) (hL23 : ∀ {v0 : Nat} {v1 : Nat} {v2 : Int32} {v3 : Int32} {u : mSt}, mK u v0 = 3 → mK u v1 = 1 → KL23 v0 v1 v2 v3 u → mZ X u 23 [(0, .ref (G.1 + v0)), (1, .ref (G.1 + v1)), (2, .int v2), (3, .int v3)] []) {v0 : Nat} {v1 : Nat} {v2 : Int32} {v3 : Int32} {v6 : Int32} {u : mSt} (kv0 : mK u v0 = 3) (kv1 : mK u v1 = 1) (h : bX2_refine_156 v0 v1 v2 v3 v6 u K KL23) : mZ X u 156 [(0, .ref (G.1 + v0)), (1, .ref (G.1 + v1)), (2, .int v2), (3, .int v3), (6, .int v6)] [] := by
  refine mz_aload_n F dX2_refine_156 rfl 0 rfl ?_
  obtain ⟨q_1, eq_1, h⟩ := h
  refine mz_getR F dX2_refine_157 fX2_refine_15 (by decide) kv0 eq_1 (fun kq_1 => ?_)
  refine mz_iload_n F dX2_refine_160 rfl 3 rfl ?_
  refine mz_aload_n F dX2_refine_161 rfl 0 rfl ?_
  obtain ⟨q_2, eq_2, h⟩ := h
  refine mz_getR F dX2_refine_162 fX2_refine_18 (by decide) kv0 eq_2 (fun kq_2 => ?_)
  refine mz_iload F dX2_refine_165 4 rfl ?_
  obtain ⟨b_3, h⟩ := h
  refine mz_iald F dX2_refine_167 kq_2 rfl b_3 ?_
  refine mz_iconst (v := 1) F dX2_refine_168 (by decide) ?_
  refine mz_isub F dX2_refine_169 ?_
  obtain ⟨b_4, h⟩ := h
  refine mz_iast F dX2_refine_170 kq_1 rfl b_4 (fun u_5 eu_5 hxu_5 => ?_)
  replace h := h u_5 eu_5
  replace kv0 := hxu_5.2.2 _ _ (by decide) kv0
  replace kv1 := hxu_5.2.2 _ _ (by decide) kv1
  obtain ⟨x_6, ex_6⟩ : ∃ y : Int32, y = v3 + (1 : Int32) := ⟨_, rfl⟩
  replace h := h x_6 ex_6
  refine mz_iinc (v := x_6) (lv2 := [(3, .int x_6), (0, .ref (G.1 + v0)), (1, .ref (G.1 + v1)), (2, .int v2), (6, .int v6)]) F dX2_refine_171 3 rfl (by rw [ex_6]; rfl) hN (by decide) rfl ?_
  refine mz_goto (tgt := 23) F dX2_refine_174 (by decide) ?_
  refine mz_sub [1, 2, 3, 0] rfl ?_
  exact hL23 kv0 kv1 h
def bX2_refine_122 (v0 : Nat) (v1 : Nat) (v2 : Int32) (v3 : Int32) (w0 : Int32) (w1 : Int32) (u : mSt) (K : mSt → Prop) (KL23 : Nat → Nat → Int32 → Int32 → mSt → Prop) : Prop := (∀ x_1, x_1 = (w0 + w1) → (∃ q_2, mR u v0 2 = some q_2 ∧ (vp_in x_1 2550 ∧ (((mI u q_2 x_1.toNatClampNeg) = 0 → (∀ u_4, u_4 = mpI u v0 3 ((mI u v0 3) + (1 : Int32)) → (∃ q_5, mR u_4 v0 2 = some q_5 ∧ (vp_in x_1 2550 ∧ ∀ u_7, u_7 = mpI u_4 q_5 x_1.toNatClampNeg (mI u_4 v0 3) → bX2_refine_156 v0 v1 v2 v3 x_1 u_7 K KL23)))) ∧ (¬ ((mI u q_2 x_1.toNatClampNeg) = 0) → bX2_refine_156 v0 v1 v2 v3 x_1 u K KL23)))))
set_option maxRecDepth 100000 in
set_option maxHeartbeats 4000000 in
theorem tX2_refine_122 {X : mCx} {G : mG} {u0 : mSt} {K : mSt → Prop} {KL23 : Nat → Nat → Int32 → Int32 → mSt → Prop} (F : mFx X G cX2_refine wsX2_refine RX2 "refine" 3 67 none u0 (mPv K)) (hN : X.2.2.2.2.2.2.2.2.2.2.2.2.1 = 7) (hL23 : ∀ {v0 : Nat} {v1 : Nat} {v2 : Int32} {v3 : Int32} {u : mSt}, mK u v0 = 3 → mK u v1 = 1 → KL23 v0 v1 v2 v3 u → mZ X u 23 [(0, .ref (G.1 + v0)), (1, .ref (G.1 + v1)), (2, .int v2), (3, .int v3)] []) {v0 : Nat} {v1 : Nat} {v2 : Int32} {v3 : Int32} {w0 : Int32} {w1 : Int32} {u : mSt} (kv0 : mK u v0 = 3) (kv1 : mK u v1 = 1) (h : bX2_refine_122 v0 v1 v2 v3 w0 w1 u K KL23) : mZ X u 122 [(0, .ref (G.1 + v0)), (1, .ref (G.1 + v1)), (2, .int v2), (3, .int v3)] [.int w1, .int w0] := by
  refine mz_iadd F dX2_refine_122 ?_
  refine mz_topi (fun x_1 ex_1 => ?_)
  replace h := h x_1 ex_1
  refine mz_istore (lv2 := [(6, .int x_1), (0, .ref (G.1 + v0)), (1, .ref (G.1 + v1)), (2, .int v2), (3, .int v3)]) F dX2_refine_123 hN (by decide) rfl ?_
  refine mz_aload_n F dX2_refine_125 rfl 1 rfl ?_
  obtain ⟨q_2, eq_2, h⟩ := h
  refine mz_getR F dX2_refine_126 fX2_refine_18 (by decide) kv0 eq_2 (fun kq_2 => ?_)
  refine mz_iload F dX2_refine_129 0 rfl ?_
  obtain ⟨b_3, h⟩ := h
  refine mz_iald F dX2_refine_131 kq_2 rfl b_3 ?_
  refine mz_if_ne (tgt := 156) F dX2_refine_132 (by decide) (fun c_8 => ?_) (fun c_8 => ?_)
  · replace h := h.2 c_8
    refine mz_sub [1, 2, 3, 4, 0] rfl ?_
    exact tX2_refine_156 F hN hL23 kv0 kv1 h
  · replace h := h.1 c_8
    refine mz_aload_n F dX2_refine_135 rfl 1 rfl ?_
    refine mz_dup F dX2_refine_136 rfl ?_
    refine mz_getI F dX2_refine_137 fX2_refine_34 kv0 ?_
    refine mz_iconst (v := 1) F dX2_refine_140 (by decide) ?_
    refine mz_iadd F dX2_refine_141 ?_
    refine mz_putI F dX2_refine_142 fX2_refine_34 kv0 rfl rfl (fun u_4 eu_4 hxu_4 => ?_)
    replace h := h u_4 eu_4
    replace kv0 := hxu_4.2.2 _ _ (by decide) kv0
    replace kv1 := hxu_4.2.2 _ _ (by decide) kv1
    refine mz_aload_n F dX2_refine_145 rfl 1 rfl ?_
    obtain ⟨q_5, eq_5, h⟩ := h
    refine mz_getR F dX2_refine_146 fX2_refine_18 (by decide) kv0 eq_5 (fun kq_5 => ?_)
    refine mz_iload F dX2_refine_149 0 rfl ?_
    refine mz_aload_n F dX2_refine_151 rfl 1 rfl ?_
    refine mz_getI F dX2_refine_152 fX2_refine_34 kv0 ?_
    obtain ⟨b_6, h⟩ := h
    refine mz_iast F dX2_refine_155 kq_5 rfl b_6 (fun u_7 eu_7 hxu_7 => ?_)
    replace h := h u_7 eu_7
    replace kv0 := hxu_7.2.2 _ _ (by decide) kv0
    replace kv1 := hxu_7.2.2 _ _ (by decide) kv1
    refine mz_sub [1, 2, 3, 4, 0] rfl ?_
    exact tX2_refine_156 F hN hL23 kv0 kv1 h
def bX2_refine_98 (v0 : Nat) (v1 : Nat) (v2 : Int32) (v3 : Int32) (v5 : Int32) (w0 : Nat) (w1 : Int32) (w2 : Int32) (u : mSt) (K : mSt → Prop) (KL23 : Nat → Nat → Int32 → Int32 → mSt → Prop) : Prop := (vp_in w1 150 ∧ ∀ u_2, u_2 = mpI u w0 w1.toNatClampNeg w2 → (∃ q_3, mR u_2 v0 1 = some q_3 ∧ (vp_in v3 150 ∧ ((v5 = (-3 : Int32) → bX2_refine_122 v0 v1 v2 v3 ((mI u_2 q_3 v3.toNatClampNeg) * (17 : Int32)) (16 : Int32) u_2 K KL23) ∧ (¬ (v5 = (-3 : Int32)) → bX2_refine_122 v0 v1 v2 v3 ((mI u_2 q_3 v3.toNatClampNeg) * (17 : Int32)) v5 u_2 K KL23)))))
set_option maxRecDepth 100000 in
set_option maxHeartbeats 4000000 in
theorem tX2_refine_98 {X : mCx} {G : mG} {u0 : mSt} {K : mSt → Prop} {KL23 : Nat → Nat → Int32 → Int32 → mSt → Prop} (F : mFx X G cX2_refine wsX2_refine RX2 "refine" 3 67 none u0 (mPv K)) (hN : X.2.2.2.2.2.2.2.2.2.2.2.2.1 = 7) (hL23 : ∀ {v0 : Nat} {v1 : Nat} {v2 : Int32} {v3 : Int32} {u : mSt}, mK u v0 = 3 → mK u v1 = 1 → KL23 v0 v1 v2 v3 u → mZ X u 23 [(0, .ref (G.1 + v0)), (1, .ref (G.1 + v1)), (2, .int v2), (3, .int v3)] []) {v0 : Nat} {v1 : Nat} {v2 : Int32} {v3 : Int32} {v5 : Int32} {w0 : Nat} {w1 : Int32} {w2 : Int32} {u : mSt} (kv0 : mK u v0 = 3) (kv1 : mK u v1 = 1) (kw0 : mK u w0 = 15) (h : bX2_refine_98 v0 v1 v2 v3 v5 w0 w1 w2 u K KL23) : mZ X u 98 [(0, .ref (G.1 + v0)), (1, .ref (G.1 + v1)), (2, .int v2), (3, .int v3), (5, .int v5)] [.int w2, .int w1, .ref (G.1 + w0)] := by
  obtain ⟨b_1, h⟩ := h
  refine mz_iast F dX2_refine_98 kw0 rfl b_1 (fun u_2 eu_2 hxu_2 => ?_)
  replace h := h u_2 eu_2
  replace kv0 := hxu_2.2.2 _ _ (by decide) kv0
  replace kv1 := hxu_2.2.2 _ _ (by decide) kv1
  refine mz_aload_n F dX2_refine_99 rfl 0 rfl ?_
  obtain ⟨q_3, eq_3, h⟩ := h
  refine mz_getR F dX2_refine_100 fX2_refine_15 (by decide) kv0 eq_3 (fun kq_3 => ?_)
  refine mz_iload_n F dX2_refine_103 rfl 3 rfl ?_
  obtain ⟨b_4, h⟩ := h
  refine mz_iald F dX2_refine_104 kq_3 rfl b_4 ?_
  refine mz_bipush (v := 17) F dX2_refine_105 (by decide) ?_
  refine mz_imul F dX2_refine_107 ?_
  refine mz_iload F dX2_refine_108 4 rfl ?_
  refine mz_bipush (v := (-3)) F dX2_refine_110 (by decide) ?_
  refine mz_icmp_ne (tgt := 120) F dX2_refine_112 (by decide) (fun c_5 => ?_) (fun c_5 => ?_)
  · replace h := h.2 c_5
    refine mz_iload F dX2_refine_120 4 rfl ?_
    refine mz_sub [0, 1, 2, 3] rfl ?_
    exact tX2_refine_122 F hN hL23 kv0 kv1 h
  · replace h := h.1 c_5
    refine mz_bipush (v := 16) F dX2_refine_115 (by decide) ?_
    refine mz_goto (tgt := 122) F dX2_refine_117 (by decide) ?_
    refine mz_sub [0, 1, 2, 3] rfl ?_
    exact tX2_refine_122 F hN hL23 kv0 kv1 h
def bX2_refine_67 (v0 : Nat) (v1 : Nat) (v2 : Int32) (v3 : Int32) (v4 : Nat) (w0 : Int32) (u : mSt) (K : mSt → Prop) (KL23 : Nat → Nat → Int32 → Int32 → mSt → Prop) : Prop := (∃ q_1, mR u v0 0 = some q_1 ∧ ((w0 = (-3 : Int32) → bX2_refine_98 v0 v1 v2 v3 w0 q_1 v3 (-3 : Int32) u K KL23) ∧ (¬ (w0 = (-3 : Int32)) → (∃ q_2, mR u v0 0 = some q_2 ∧ (vp_in v3 150 ∧ bX4_placeAfter v4 (mI u q_2 v3.toNatClampNeg) v2 u (fun r_6 u_5 => bX2_refine_98 v0 v1 v2 v3 w0 q_1 v3 r_6 u_5 K KL23))))))
set_option maxRecDepth 100000 in
set_option maxHeartbeats 4000000 in
theorem tX2_refine_67 {X : mCx} {G : mG} {u0 : mSt} {K : mSt → Prop} {KL23 : Nat → Nat → Int32 → Int32 → mSt → Prop} (F : mFx X G cX2_refine wsX2_refine RX2 "refine" 3 67 none u0 (mPv K)) (hN : X.2.2.2.2.2.2.2.2.2.2.2.2.1 = 7) (hL23 : ∀ {v0 : Nat} {v1 : Nat} {v2 : Int32} {v3 : Int32} {u : mSt}, mK u v0 = 3 → mK u v1 = 1 → KL23 v0 v1 v2 v3 u → mZ X u 23 [(0, .ref (G.1 + v0)), (1, .ref (G.1 + v1)), (2, .int v2), (3, .int v3)] []) {v0 : Nat} {v1 : Nat} {v2 : Int32} {v3 : Int32} {v4 : Nat} {w0 : Int32} {u : mSt} (kv0 : mK u v0 = 3) (kv1 : mK u v1 = 1) (kv4 : mK u v4 = 5) (h : bX2_refine_67 v0 v1 v2 v3 v4 w0 u K KL23) : mZ X u 67 [(0, .ref (G.1 + v0)), (1, .ref (G.1 + v1)), (2, .int v2), (3, .int v3), (4, .ref (G.1 + v4))] [.int w0] := by
  refine mz_istore (lv2 := [(5, .int w0), (0, .ref (G.1 + v0)), (1, .ref (G.1 + v1)), (2, .int v2), (3, .int v3), (4, .ref (G.1 + v4))]) F dX2_refine_67 hN (by decide) rfl ?_
  refine mz_aload_n F dX2_refine_69 rfl 1 rfl ?_
  obtain ⟨q_1, eq_1, h⟩ := h
  refine mz_getR F dX2_refine_70 fX2_refine_9 (by decide) kv0 eq_1 (fun kq_1 => ?_)
  refine mz_iload_n F dX2_refine_73 rfl 4 rfl ?_
  refine mz_iload F dX2_refine_74 0 rfl ?_
  refine mz_bipush (v := (-3)) F dX2_refine_76 (by decide) ?_
  refine mz_icmp_ne (tgt := 86) F dX2_refine_78 (by decide) (fun c_7 => ?_) (fun c_7 => ?_)
  · replace h := h.2 c_7
    refine mz_aload F dX2_refine_86 5 rfl ?_
    refine mz_aload_n F dX2_refine_88 rfl 1 rfl ?_
    obtain ⟨q_2, eq_2, h⟩ := h
    refine mz_getR F dX2_refine_89 fX2_refine_9 (by decide) kv0 eq_2 (fun kq_2 => ?_)
    refine mz_iload_n F dX2_refine_92 rfl 4 rfl ?_
    obtain ⟨b_3, h⟩ := h
    refine mz_iald F dX2_refine_93 kq_2 rfl b_3 ?_
    refine mz_iload_n F dX2_refine_94 rfl 3 rfl ?_
    refine mz_callVN (As := [_, _]) (n := 2) F dX2_refine_95 rfl kv4 rfl rfl gX2_refine_X4_placeAfter_n58 nwM2_58 mX2_refine_iniX4_placeAfter mX2_refine_imX4_placeAfter mX2_refine_seX4_placeAfter (by decide +kernel) (by decide) rfl (Nat.le_of_ble_eq_true rfl) (kX4_placeAfter _ G kv4 h) (mz_kI fun r_6 u_5 h hx_4 => ?_)
    replace kv0 := hx_4.2.2 _ _ (by decide) kv0
    replace kv1 := hx_4.2.2 _ _ (by decide) kv1
    replace kq_1 := hx_4.2.2 _ _ (by decide) kq_1
    refine mz_sub [1, 2, 3, 4, 0] rfl ?_
    exact tX2_refine_98 F hN hL23 kv0 kv1 kq_1 h
  · replace h := h.1 c_7
    refine mz_bipush (v := (-3)) F dX2_refine_81 (by decide) ?_
    refine mz_goto (tgt := 98) F dX2_refine_83 (by decide) ?_
    refine mz_sub [1, 2, 3, 4, 0] rfl ?_
    exact tX2_refine_98 F hN hL23 kv0 kv1 kq_1 h
def bX2_refine_23 : Nat → Nat → Nat → Int32 → Int32 → mSt → (mSt → Prop) → Prop
  | 0, _, _, _, _, _, _ => False
  | n + 1, v0, v1, v2, v3, u, K => (((mI u v1 2) ≤ v3 → K u) ∧ (¬ ((mI u v1 2) ≤ v3) → (∃ q_1, mR u v1 0 = some q_1 ∧ (vp_in v3 151 ∧ ∃ q_3, mR u q_1 v3.toNatClampNeg = some q_3 ∧ (∃ q_4, mR u v0 0 = some q_4 ∧ (vp_in v3 150 ∧ (((mI u q_4 v3.toNatClampNeg) = (-3 : Int32) → bX2_refine_67 v0 v1 v2 v3 q_3 (-3 : Int32) u K (fun z0 z1 z2 z3 z4 => bX2_refine_23 n z0 z1 z2 z3 z4 K)) ∧ (¬ ((mI u q_4 v3.toNatClampNeg) = (-3 : Int32)) → (∃ q_6, mR u v0 0 = some q_6 ∧ (vp_in v3 150 ∧ bX4_sightAfter q_3 (mI u q_6 v3.toNatClampNeg) v2 u (fun r_10 u_9 => bX2_refine_67 v0 v1 v2 v3 q_3 r_10 u_9 K (fun z0 z1 z2 z3 z4 => bX2_refine_23 n z0 z1 z2 z3 z4 K))))))))))))
set_option maxRecDepth 100000 in
set_option maxHeartbeats 4000000 in
theorem tX2_refine_23 {X : mCx} {G : mG} {u0 : mSt} {K : mSt → Prop} (F : mFx X G cX2_refine wsX2_refine RX2 "refine" 3 67 none u0 (mPv K)) (hN : X.2.2.2.2.2.2.2.2.2.2.2.2.1 = 7) : ∀ (n : Nat) {v0 : Nat} {v1 : Nat} {v2 : Int32} {v3 : Int32} {u : mSt}, mK u v0 = 3 → mK u v1 = 1 → bX2_refine_23 n v0 v1 v2 v3 u K → mZ X u 23 [(0, .ref (G.1 + v0)), (1, .ref (G.1 + v1)), (2, .int v2), (3, .int v3)] [] := by
  intro n
  induction n with
  | zero => intro v0 v1 v2 v3 u kv0 kv1 h; exact False.elim h
  | succ n ih =>
    intro v0 v1 v2 v3 u kv0 kv1 h
    refine mz_iload_n F dX2_refine_23 rfl 3 rfl ?_
    refine mz_aload_n F dX2_refine_24 rfl 1 rfl ?_
    refine mz_getI F dX2_refine_25 fX2_refine_24 kv1 ?_
    refine mz_icmp_ge (tgt := 177) F dX2_refine_28 (by decide) (fun c_12 => ?_) (fun c_12 => ?_)
    · replace h := h.1 c_12
      exact mz_vret F dX2_refine_177 ⟨rfl, h⟩
    · replace h := h.2 c_12
      refine mz_aload_n F dX2_refine_31 rfl 1 rfl ?_
      obtain ⟨q_1, eq_1, h⟩ := h
      refine mz_getR F dX2_refine_32 fX2_refine_35 (by decide) kv1 eq_1 (fun kq_1 => ?_)
      refine mz_iload_n F dX2_refine_35 rfl 3 rfl ?_
      obtain ⟨b_2, q_3, eq_3, h⟩ := h
      refine mz_aald4 F dX2_refine_36 kq_1 rfl (by decide) b_2 eq_3 (fun kq_3 => ?_)
      refine mz_astore (lv2 := [(4, .ref (G.1 + q_3)), (0, .ref (G.1 + v0)), (1, .ref (G.1 + v1)), (2, .int v2), (3, .int v3)]) F dX2_refine_37 hN (by decide) rfl ?_
      refine mz_aload_n F dX2_refine_39 rfl 1 rfl ?_
      obtain ⟨q_4, eq_4, h⟩ := h
      refine mz_getR F dX2_refine_40 fX2_refine_9 (by decide) kv0 eq_4 (fun kq_4 => ?_)
      refine mz_iload_n F dX2_refine_43 rfl 4 rfl ?_
      obtain ⟨b_5, h⟩ := h
      refine mz_iald F dX2_refine_44 kq_4 rfl b_5 ?_
      refine mz_bipush (v := (-3)) F dX2_refine_45 (by decide) ?_
      refine mz_icmp_ne (tgt := 55) F dX2_refine_47 (by decide) (fun c_11 => ?_) (fun c_11 => ?_)
      · replace h := h.2 c_11
        refine mz_aload F dX2_refine_55 0 rfl ?_
        refine mz_aload_n F dX2_refine_57 rfl 1 rfl ?_
        obtain ⟨q_6, eq_6, h⟩ := h
        refine mz_getR F dX2_refine_58 fX2_refine_9 (by decide) kv0 eq_6 (fun kq_6 => ?_)
        refine mz_iload_n F dX2_refine_61 rfl 4 rfl ?_
        obtain ⟨b_7, h⟩ := h
        refine mz_iald F dX2_refine_62 kq_6 rfl b_7 ?_
        refine mz_iload_n F dX2_refine_63 rfl 3 rfl ?_
        refine mz_callVN (As := [_, _]) (n := 2) F dX2_refine_64 rfl kq_3 rfl rfl gX2_refine_X4_sightAfter_n54 nwM2_54 mX2_refine_iniX4_sightAfter mX2_refine_imX4_sightAfter mX2_refine_seX4_sightAfter (by decide +kernel) (by decide) rfl (Nat.le_of_ble_eq_true rfl) (kX4_sightAfter _ G kq_3 h) (mz_kI fun r_10 u_9 h hx_8 => ?_)
        replace kq_3 := hx_8.2.2 _ _ (by decide) kq_3
        replace kv0 := hx_8.2.2 _ _ (by decide) kv0
        replace kv1 := hx_8.2.2 _ _ (by decide) kv1
        refine mz_sub [1, 2, 3, 4, 0] rfl ?_
        exact tX2_refine_67 F hN (fun k0 k1 h => ih k0 k1 h) kv0 kv1 kq_3 h
      · replace h := h.1 c_11
        refine mz_bipush (v := (-3)) F dX2_refine_50 (by decide) ?_
        refine mz_goto (tgt := 67) F dX2_refine_52 (by decide) ?_
        refine mz_sub [1, 2, 3, 4, 0] rfl ?_
        exact tX2_refine_67 F hN (fun k0 k1 h => ih k0 k1 h) kv0 kv1 kq_3 h
def bX2_refine (this : Nat) (a1 : Nat) (a2 : Int32) (u : mSt) (K : mSt → Prop) : Prop := (∃ q_1, mR u this 2 = some q_1 ∧ bJ7_fill_fda19 q_1 2550 (0 : Int32) ((mI u this 3) * (17 : Int32)) (0 : Int32) u (fun u_3 => (∀ u_4, u_4 = mpI u_3 this 3 (0 : Int32) → (∃ n9, bX2_refine_23 n9 this a1 a2 (0 : Int32) u_4 K))))
set_option maxRecDepth 100000 in
set_option maxHeartbeats 4000000 in
theorem tX2_refine {X : mCx} {G : mG} {u0 : mSt} {K : mSt → Prop} (F : mFx X G cX2_refine wsX2_refine RX2 "refine" 3 67 none u0 (mPv K)) (hN : X.2.2.2.2.2.2.2.2.2.2.2.2.1 = 7) {this : Nat} {a1 : Nat} {a2 : Int32} {u : mSt} (kthis : mK u this = 3) (ka1 : mK u a1 = 1) (h : bX2_refine this a1 a2 u K) : mZ X u 0 [(0, .ref (G.1 + this)), (1, .ref (G.1 + a1)), (2, .int a2)] [] := by
  refine mz_aload_n F dX2_refine_0 rfl 0 rfl ?_
  obtain ⟨q_1, eq_1, h⟩ := h
  refine mz_getR F dX2_refine_1 fX2_refine_18 (by decide) kthis eq_1 (fun kq_1 => ?_)
  refine mz_iconst (v := 0) F dX2_refine_4 (by decide) ?_
  refine mz_aload_n F dX2_refine_5 rfl 0 rfl ?_
  refine mz_getI F dX2_refine_6 fX2_refine_34 kthis ?_
  refine mz_bipush (v := 17) F dX2_refine_9 (by decide) ?_
  refine mz_imul F dX2_refine_11 ?_
  refine mz_iconst (v := 0) F dX2_refine_12 (by decide) ?_
  refine mz_callS (As := [_, _, _, _]) (n := 4) F dX2_refine_13 rfl gX2_refine_J7_fill_fda19 (by decide +kernel) (by decide) rfl (Nat.le_of_ble_eq_true rfl) (kJ7_fill_fda19 _ G kq_1 rfl h) (mz_kV fun u_3 h hx_2 => ?_)
  replace kthis := hx_2.2.2 _ _ (by decide) kthis
  replace ka1 := hx_2.2.2 _ _ (by decide) ka1
  refine mz_aload_n F dX2_refine_16 rfl 0 rfl ?_
  refine mz_iconst (v := 0) F dX2_refine_17 (by decide) ?_
  refine mz_putI F dX2_refine_18 fX2_refine_34 kthis rfl rfl (fun u_4 eu_4 hxu_4 => ?_)
  replace h := h u_4 eu_4
  replace kthis := hxu_4.2.2 _ _ (by decide) kthis
  replace ka1 := hxu_4.2.2 _ _ (by decide) ka1
  refine mz_iconst (v := 0) F dX2_refine_21 (by decide) ?_
  refine mz_istore_n (lv2 := [(3, .int (0 : Int32)), (0, .ref (G.1 + this)), (1, .ref (G.1 + a1)), (2, .int a2)]) F dX2_refine_22 rfl hN (by decide) rfl ?_
  refine mz_sub [1, 2, 3, 0] rfl ?_
  obtain ⟨n9, h⟩ := h
  exact tX2_refine_23 F hN n9 kthis ka1 h
set_option maxRecDepth 100000 in
theorem kX2_refine (l : Launch) (G : mG) {u : mSt} {K : mSt → Prop} {this : Nat} {a1 : Nat} {a2 : Int32} (kthis : mK u this = 3) (ka1 : mK u a1 = 1) (h : bX2_refine this a1 a2 u K) : mCt l G yX2_refine wsX2_refine 3 67 [.ref (G.1 + this), .ref (G.1 + a1), .int a2] u (mPv K) := by
  refine mCt.of (cc := cX2_refine) (maxL := 7) (ret := none) (by decide) rfl (Nat.le_of_ble_eq_true rfl) ?_
  intro X hl hN F
  exact tX2_refine F hN kthis ka1 h
/-! RoomMapper$Parting.countSets(LRoomMapper$Atlas;II)I -/
theorem wiX2_countSets_2 : ∀ w ∈ u_ws RX2 TX2 4, w ∈ wsX2_countSets := by decide +kernel
theorem fX2_countSets_34 : mFld wsX2_countSets RX2 34 3 3 0 .int false := ⟨2, _, RX2, TX2, 4, tyX2, rfl, rfl, rfl, by decide, wiX2_countSets_2, tyX2_ok, nmX2, rfl, rfl, Or.inl ⟨by decide +kernel, fun _ => rfl⟩⟩
theorem wiX2_countSets_0 : ∀ w ∈ u_ws RX0 TX0 6, w ∈ wsX2_countSets := by decide +kernel
theorem fX2_countSets_24 : mFld wsX2_countSets RX2 24 1 2 0 .int false := ⟨0, _, RX0, TX0, 6, tyX0, rfl, rfl, rfl, by decide, wiX2_countSets_0, tyX0_ok, nmX0, rfl, rfl, Or.inr ⟨"RoomMapper", nwF2_24⟩⟩
theorem fX2_countSets_9 : mFld wsX2_countSets RX2 9 3 0 15 (.array .int) true := ⟨2, _, RX2, TX2, 4, tyX2, rfl, rfl, rfl, by decide, wiX2_countSets_2, tyX2_ok, nmX2, rfl, rfl, Or.inl ⟨by decide +kernel, fun _ => rfl⟩⟩
theorem fX2_countSets_35 : mFld wsX2_countSets RX2 35 1 0 11 (.array (.object "RoomMapper$Sheet")) false := ⟨0, _, RX0, TX0, 6, tyX0, rfl, rfl, rfl, by decide, wiX2_countSets_0, tyX0_ok, nmX0, rfl, rfl, Or.inr ⟨"RoomMapper", nwF2_35⟩⟩
theorem wiX2_countSets_4 : ∀ w ∈ u_ws RX4 TX4 5, w ∈ wsX2_countSets := by decide +kernel
theorem fX2_countSets_39 : mFld wsX2_countSets RX2 39 5 3 0 .int false := ⟨4, _, RX4, TX4, 5, tyX4, rfl, rfl, rfl, by decide, wiX2_countSets_4, tyX4_ok, nmX4, rfl, rfl, Or.inr ⟨"RoomMapper", nwF2_39⟩⟩
theorem fX2_countSets_15 : mFld wsX2_countSets RX2 15 3 1 15 (.array .int) true := ⟨2, _, RX2, TX2, 4, tyX2, rfl, rfl, rfl, by decide, wiX2_countSets_2, tyX2_ok, nmX2, rfl, rfl, Or.inl ⟨by decide +kernel, fun _ => rfl⟩⟩
def bX2_countSets_51 : Nat → Nat → Nat → Int32 → Int32 → Int32 → mSt → (Int32 → mSt → Prop) → Prop
  | 0, _, _, _, _, _, _, _ => False
  | n + 1, v0, v1, v2, v3, v4, u, K => ((v2 < v4 → K (mI u v0 3) u) ∧ (¬ (v2 < v4) → (vp_in (v2 - v4) 7 ∧ (¬ (mRows (v2 - v4).toNatClampNeg) = 0 ∧ bX2_refine v0 v1 ((v3 / (mRows (v2 - v4).toNatClampNeg)) - (v3 / (mRows (v2 - v4).toNatClampNeg)) / (5 : Int32) * (5 : Int32)) u (fun u_4 => (∀ x_5, x_5 = v4 + (1 : Int32) → bX2_countSets_51 n v0 v1 v2 v3 x_5 u_4 K))))))
set_option maxRecDepth 100000 in
set_option maxHeartbeats 4000000 in
theorem tX2_countSets_51 {X : mCx} {G : mG} {u0 : mSt} {K : Int32 → mSt → Prop} (F : mFx X G cX2_countSets wsX2_countSets RX2 "countSets" 4 93 (some .int) u0 (mPi K)) (hN : X.2.2.2.2.2.2.2.2.2.2.2.2.1 = 5) : ∀ (n : Nat) {v0 : Nat} {v1 : Nat} {v2 : Int32} {v3 : Int32} {v4 : Int32} {u : mSt}, mK u v0 = 3 → mK u v1 = 1 → bX2_countSets_51 n v0 v1 v2 v3 v4 u K → mZ X u 51 [(0, .ref (G.1 + v0)), (1, .ref (G.1 + v1)), (2, .int v2), (3, .int v3), (4, .int v4)] [] := by
  intro n
  induction n with
  | zero => intro v0 v1 v2 v3 v4 u kv0 kv1 h; exact False.elim h
  | succ n ih =>
    intro v0 v1 v2 v3 v4 u kv0 kv1 h
    refine mz_iload F dX2_countSets_51 4 rfl ?_
    refine mz_iload_n F dX2_countSets_53 rfl 2 rfl ?_
    refine mz_icmp_gt (tgt := 80) F dX2_countSets_54 (by decide) (fun c_6 => ?_) (fun c_6 => ?_)
    · replace h := h.1 c_6
      refine mz_aload_n F dX2_countSets_80 rfl 0 rfl ?_
      refine mz_getI F dX2_countSets_81 fX2_countSets_34 kv0 ?_
      exact mz_iret F dX2_countSets_84 ⟨_, rfl, h⟩
    · replace h := h.2 c_6
      refine mz_aload_n F dX2_countSets_57 rfl 0 rfl ?_
      refine mz_aload_n F dX2_countSets_58 rfl 1 rfl ?_
      refine mz_iload_n F dX2_countSets_59 rfl 3 rfl ?_
      refine mz_getRows F dX2_countSets_60 (Or.inr ⟨_, nwF2_21⟩) ?_
      refine mz_iload_n F dX2_countSets_63 rfl 2 rfl ?_
      refine mz_iload F dX2_countSets_64 4 rfl ?_
      refine mz_isub F dX2_countSets_66 ?_
      obtain ⟨b_1, h⟩ := h
      refine mz_rows F dX2_countSets_67 b_1 ?_
      obtain ⟨b_2, h⟩ := h
      refine mz_idiv F dX2_countSets_68 b_2 ?_
      refine mz_iconst (v := 5) F dX2_countSets_69 (by decide) ?_
      refine mz_irem F dX2_countSets_70 (by decide) ?_
      refine mz_callV (As := [_, _]) (n := 2) F dX2_countSets_71 rfl kv0 rfl rfl gX2_countSets_X2_refine (by decide +kernel) (by decide) rfl (Nat.le_of_ble_eq_true rfl) (kX2_refine _ G kv0 kv1 h) (mz_kV fun u_4 h hx_3 => ?_)
      replace kv0 := hx_3.2.2 _ _ (by decide) kv0
      replace kv1 := hx_3.2.2 _ _ (by decide) kv1
      obtain ⟨x_5, ex_5⟩ : ∃ y : Int32, y = v4 + (1 : Int32) := ⟨_, rfl⟩
      replace h := h x_5 ex_5
      refine mz_iinc (v := x_5) (lv2 := [(4, .int x_5), (0, .ref (G.1 + v0)), (1, .ref (G.1 + v1)), (2, .int v2), (3, .int v3)]) F dX2_countSets_74 4 rfl (by rw [ex_5]; rfl) hN (by decide) rfl ?_
      refine mz_goto (tgt := 51) F dX2_countSets_77 (by decide) ?_
      refine mz_sub [1, 2, 3, 4, 0] rfl ?_
      exact ih kv0 kv1 h
def bX2_countSets_8 : Nat → Nat → Nat → Int32 → Int32 → Int32 → mSt → (Int32 → mSt → Prop) → Prop
  | 0, _, _, _, _, _, _, _ => False
  | n + 1, v0, v1, v2, v3, v4, u, K => (((mI u v1 2) ≤ v4 → (∃ n9, bX2_countSets_51 n9 v0 v1 v2 v3 (1 : Int32) u K)) ∧ (¬ ((mI u v1 2) ≤ v4) → (∃ q_1, mR u v0 0 = some q_1 ∧ (∃ q_2, mR u v1 0 = some q_2 ∧ (vp_in v4 151 ∧ ∃ q_4, mR u q_2 v4.toNatClampNeg = some q_4 ∧ (vp_in v4 150 ∧ ∀ u_6, u_6 = mpI u q_1 v4.toNatClampNeg (mI u q_4 3) → (∃ q_7, mR u_6 v0 1 = some q_7 ∧ (vp_in v4 150 ∧ ∀ u_9, u_9 = mpI u_6 q_7 v4.toNatClampNeg (0 : Int32) → (∀ x_10, x_10 = v4 + (1 : Int32) → bX2_countSets_8 n v0 v1 v2 v3 x_10 u_9 K)))))))))
set_option maxRecDepth 100000 in
set_option maxHeartbeats 4000000 in
theorem tX2_countSets_8 {X : mCx} {G : mG} {u0 : mSt} {K : Int32 → mSt → Prop} (F : mFx X G cX2_countSets wsX2_countSets RX2 "countSets" 4 93 (some .int) u0 (mPi K)) (hN : X.2.2.2.2.2.2.2.2.2.2.2.2.1 = 5) : ∀ (n : Nat) {v0 : Nat} {v1 : Nat} {v2 : Int32} {v3 : Int32} {v4 : Int32} {u : mSt}, mK u v0 = 3 → mK u v1 = 1 → bX2_countSets_8 n v0 v1 v2 v3 v4 u K → mZ X u 8 [(0, .ref (G.1 + v0)), (1, .ref (G.1 + v1)), (2, .int v2), (3, .int v3), (4, .int v4)] [] := by
  intro n
  induction n with
  | zero => intro v0 v1 v2 v3 v4 u kv0 kv1 h; exact False.elim h
  | succ n ih =>
    intro v0 v1 v2 v3 v4 u kv0 kv1 h
    refine mz_iload F dX2_countSets_8 4 rfl ?_
    refine mz_aload_n F dX2_countSets_10 rfl 1 rfl ?_
    refine mz_getI F dX2_countSets_11 fX2_countSets_24 kv1 ?_
    refine mz_icmp_ge (tgt := 48) F dX2_countSets_14 (by decide) (fun c_11 => ?_) (fun c_11 => ?_)
    · replace h := h.1 c_11
      refine mz_iconst (v := 1) F dX2_countSets_48 (by decide) ?_
      refine mz_istore (lv2 := [(4, .int (1 : Int32)), (0, .ref (G.1 + v0)), (1, .ref (G.1 + v1)), (2, .int v2), (3, .int v3)]) F dX2_countSets_49 hN (by decide) rfl ?_
      refine mz_sub [1, 2, 3, 4, 0] rfl ?_
      obtain ⟨n9, h⟩ := h
      exact tX2_countSets_51 F hN n9 kv0 kv1 h
    · replace h := h.2 c_11
      refine mz_aload_n F dX2_countSets_17 rfl 0 rfl ?_
      obtain ⟨q_1, eq_1, h⟩ := h
      refine mz_getR F dX2_countSets_18 fX2_countSets_9 (by decide) kv0 eq_1 (fun kq_1 => ?_)
      refine mz_iload F dX2_countSets_21 4 rfl ?_
      refine mz_aload_n F dX2_countSets_23 rfl 1 rfl ?_
      obtain ⟨q_2, eq_2, h⟩ := h
      refine mz_getR F dX2_countSets_24 fX2_countSets_35 (by decide) kv1 eq_2 (fun kq_2 => ?_)
      refine mz_iload F dX2_countSets_27 4 rfl ?_
      obtain ⟨b_3, q_4, eq_4, h⟩ := h
      refine mz_aald4 F dX2_countSets_29 kq_2 rfl (by decide) b_3 eq_4 (fun kq_4 => ?_)
      refine mz_getI F dX2_countSets_30 fX2_countSets_39 kq_4 ?_
      obtain ⟨b_5, h⟩ := h
      refine mz_iast F dX2_countSets_33 kq_1 rfl b_5 (fun u_6 eu_6 hxu_6 => ?_)
      replace h := h u_6 eu_6
      replace kv0 := hxu_6.2.2 _ _ (by decide) kv0
      replace kv1 := hxu_6.2.2 _ _ (by decide) kv1
      refine mz_aload_n F dX2_countSets_34 rfl 0 rfl ?_
      obtain ⟨q_7, eq_7, h⟩ := h
      refine mz_getR F dX2_countSets_35 fX2_countSets_15 (by decide) kv0 eq_7 (fun kq_7 => ?_)
      refine mz_iload F dX2_countSets_38 4 rfl ?_
      refine mz_iconst (v := 0) F dX2_countSets_40 (by decide) ?_
      obtain ⟨b_8, h⟩ := h
      refine mz_iast F dX2_countSets_41 kq_7 rfl b_8 (fun u_9 eu_9 hxu_9 => ?_)
      replace h := h u_9 eu_9
      replace kv0 := hxu_9.2.2 _ _ (by decide) kv0
      replace kv1 := hxu_9.2.2 _ _ (by decide) kv1
      obtain ⟨x_10, ex_10⟩ : ∃ y : Int32, y = v4 + (1 : Int32) := ⟨_, rfl⟩
      replace h := h x_10 ex_10
      refine mz_iinc (v := x_10) (lv2 := [(4, .int x_10), (0, .ref (G.1 + v0)), (1, .ref (G.1 + v1)), (2, .int v2), (3, .int v3)]) F dX2_countSets_42 4 rfl (by rw [ex_10]; rfl) hN (by decide) rfl ?_
      refine mz_goto (tgt := 8) F dX2_countSets_45 (by decide) ?_
      refine mz_sub [1, 2, 3, 4, 0] rfl ?_
      exact ih kv0 kv1 h
def bX2_countSets (this : Nat) (a1 : Nat) (a2 : Int32) (a3 : Int32) (u : mSt) (K : Int32 → mSt → Prop) : Prop := (∀ u_1, u_1 = mpI u this 3 (1 : Int32) → (∃ n9, bX2_countSets_8 n9 this a1 a2 a3 (0 : Int32) u_1 K))
set_option maxRecDepth 100000 in
set_option maxHeartbeats 4000000 in
theorem tX2_countSets {X : mCx} {G : mG} {u0 : mSt} {K : Int32 → mSt → Prop} (F : mFx X G cX2_countSets wsX2_countSets RX2 "countSets" 4 93 (some .int) u0 (mPi K)) (hN : X.2.2.2.2.2.2.2.2.2.2.2.2.1 = 5) {this : Nat} {a1 : Nat} {a2 : Int32} {a3 : Int32} {u : mSt} (kthis : mK u this = 3) (ka1 : mK u a1 = 1) (h : bX2_countSets this a1 a2 a3 u K) : mZ X u 0 [(0, .ref (G.1 + this)), (1, .ref (G.1 + a1)), (2, .int a2), (3, .int a3)] [] := by
  refine mz_aload_n F dX2_countSets_0 rfl 0 rfl ?_
  refine mz_iconst (v := 1) F dX2_countSets_1 (by decide) ?_
  refine mz_putI F dX2_countSets_2 fX2_countSets_34 kthis rfl rfl (fun u_1 eu_1 hxu_1 => ?_)
  replace h := h u_1 eu_1
  replace kthis := hxu_1.2.2 _ _ (by decide) kthis
  replace ka1 := hxu_1.2.2 _ _ (by decide) ka1
  refine mz_iconst (v := 0) F dX2_countSets_5 (by decide) ?_
  refine mz_istore (lv2 := [(4, .int (0 : Int32)), (0, .ref (G.1 + this)), (1, .ref (G.1 + a1)), (2, .int a2), (3, .int a3)]) F dX2_countSets_6 hN (by decide) rfl ?_
  refine mz_sub [1, 2, 3, 4, 0] rfl ?_
  obtain ⟨n9, h⟩ := h
  exact tX2_countSets_8 F hN n9 kthis ka1 h
set_option maxRecDepth 100000 in
theorem kX2_countSets (l : Launch) (G : mG) {u : mSt} {K : Int32 → mSt → Prop} {this : Nat} {a1 : Nat} {a2 : Int32} {a3 : Int32} (kthis : mK u this = 3) (ka1 : mK u a1 = 1) (h : bX2_countSets this a1 a2 a3 u K) : mCt l G yX2_countSets wsX2_countSets 4 93 [.ref (G.1 + this), .ref (G.1 + a1), .int a2, .int a3] u (mPi K) := by
  refine mCt.of (cc := cX2_countSets) (maxL := 5) (ret := (some .int)) (by decide) rfl (Nat.le_of_ble_eq_true rfl) ?_
  intro X hl hN F
  exact tX2_countSets F hN kthis ka1 h
/-! RoomMapper$Parting.bestRow(LRoomMapper$Atlas;I)I -/
theorem wiX2_bestRow_0 : ∀ w ∈ u_ws RX0 TX0 6, w ∈ wsX2_bestRow := by decide +kernel
theorem fX2_bestRow_24 : mFld wsX2_bestRow RX2 24 1 2 0 .int false := ⟨0, _, RX0, TX0, 6, tyX0, rfl, rfl, rfl, by decide, wiX2_bestRow_0, tyX0_ok, nmX0, rfl, rfl, Or.inr ⟨"RoomMapper", nwF2_24⟩⟩
def bX2_bestRow_67 (v0 : Nat) (v1 : Nat) (v2 : Int32) (v3 : Int32) (v4 : Int32) (v5 : Int32) (v6 : Int32) (u : mSt) (K : Int32 → mSt → Prop) (KL8 : Nat → Nat → Int32 → Int32 → Int32 → Int32 → mSt → Prop) (KL17 : Nat → Nat → Int32 → Int32 → Int32 → Int32 → Int32 → mSt → Prop) : Prop := (∀ x_1, x_1 = v6 + (1 : Int32) → KL17 v0 v1 v2 v3 v4 v5 x_1 u)
set_option maxRecDepth 100000 in
set_option maxHeartbeats 4000000 in
theorem tX2_bestRow_67 {X : mCx} {G : mG} {u0 : mSt} {K : Int32 → mSt → Prop} {KL8 : Nat → Nat → Int32 → Int32 → Int32 → Int32 → mSt → Prop} {KL17 : Nat → Nat → Int32 → Int32 → Int32 → Int32 → Int32 → mSt → Prop} (F : mFx X G cX2_bestRow wsX2_bestRow RX2 "bestRow" 5 117 (some .int) u0 (mPi K)) (hN : X.2.2.2.2.2.2.2.2.2.2.2.2.1 = 8) (hL8 : ∀ {v0 : Nat} {v1 : Nat} {v2 : Int32} {v3 : Int32} {v4 : Int32} {v5 : Int32} {u : mSt}, mK u v0 = 3 → mK u v1 = 1 → KL8 v0 v1 v2 v3 v4 v5 u → mZ X u 8 [(0, .ref (G.1 + v0)), (1, .ref (G.1 + v1)), (2, .int v2), (3, .int v3), (4, .int v4), (5, .int v5)] []) (hL17 : ∀ {v0 : Nat} {v1 : Nat} {v2 : Int32} {v3 : Int32} {v4 : Int32} {v5 : Int32} {v6 : Int32} {u : mSt}, mK u v0 = 3 → mK u v1 = 1 → KL17 v0 v1 v2 v3 v4 v5 v6 u → mZ X u 17 [(0, .ref (G.1 + v0)), (1, .ref (G.1 + v1)), (2, .int v2), (3, .int v3), (4, .int v4), (5, .int v5), (6, .int v6)] []) {v0 : Nat} {v1 : Nat} {v2 : Int32} {v3 : Int32} {v4 : Int32} {v5 : Int32} {v6 : Int32} {u : mSt} (kv0 : mK u v0 = 3) (kv1 : mK u v1 = 1) (h : bX2_bestRow_67 v0 v1 v2 v3 v4 v5 v6 u K KL8 KL17) : mZ X u 67 [(0, .ref (G.1 + v0)), (1, .ref (G.1 + v1)), (2, .int v2), (3, .int v3), (4, .int v4), (5, .int v5), (6, .int v6)] [] := by
  obtain ⟨x_1, ex_1⟩ : ∃ y : Int32, y = v6 + (1 : Int32) := ⟨_, rfl⟩
  replace h := h x_1 ex_1
  refine mz_iinc (v := x_1) (lv2 := [(6, .int x_1), (0, .ref (G.1 + v0)), (1, .ref (G.1 + v1)), (2, .int v2), (3, .int v3), (4, .int v4), (5, .int v5)]) F dX2_bestRow_67 6 rfl (by rw [ex_1]; rfl) hN (by decide) rfl ?_
  refine mz_goto (tgt := 17) F dX2_bestRow_70 (by decide) ?_
  refine mz_sub [1, 2, 3, 4, 5, 6, 0] rfl ?_
  exact hL17 kv0 kv1 h
def bX2_bestRow_73 (v0 : Nat) (v1 : Nat) (v2 : Int32) (v3 : Int32) (v4 : Int32) (v5 : Int32) (u : mSt) (K : Int32 → mSt → Prop) (KL8 : Nat → Nat → Int32 → Int32 → Int32 → Int32 → mSt → Prop) : Prop := (∀ x_1, x_1 = v5 + (1 : Int32) → KL8 v0 v1 v2 v3 v4 x_1 u)
set_option maxRecDepth 100000 in
set_option maxHeartbeats 4000000 in
theorem tX2_bestRow_73 {X : mCx} {G : mG} {u0 : mSt} {K : Int32 → mSt → Prop} {KL8 : Nat → Nat → Int32 → Int32 → Int32 → Int32 → mSt → Prop} (F : mFx X G cX2_bestRow wsX2_bestRow RX2 "bestRow" 5 117 (some .int) u0 (mPi K)) (hN : X.2.2.2.2.2.2.2.2.2.2.2.2.1 = 8) (hL8 : ∀ {v0 : Nat} {v1 : Nat} {v2 : Int32} {v3 : Int32} {v4 : Int32} {v5 : Int32} {u : mSt}, mK u v0 = 3 → mK u v1 = 1 → KL8 v0 v1 v2 v3 v4 v5 u → mZ X u 8 [(0, .ref (G.1 + v0)), (1, .ref (G.1 + v1)), (2, .int v2), (3, .int v3), (4, .int v4), (5, .int v5)] []) {v0 : Nat} {v1 : Nat} {v2 : Int32} {v3 : Int32} {v4 : Int32} {v5 : Int32} {u : mSt} (kv0 : mK u v0 = 3) (kv1 : mK u v1 = 1) (h : bX2_bestRow_73 v0 v1 v2 v3 v4 v5 u K KL8) : mZ X u 73 [(0, .ref (G.1 + v0)), (1, .ref (G.1 + v1)), (2, .int v2), (3, .int v3), (4, .int v4), (5, .int v5)] [] := by
  obtain ⟨x_1, ex_1⟩ : ∃ y : Int32, y = v5 + (1 : Int32) := ⟨_, rfl⟩
  replace h := h x_1 ex_1
  refine mz_iinc (v := x_1) (lv2 := [(5, .int x_1), (0, .ref (G.1 + v0)), (1, .ref (G.1 + v1)), (2, .int v2), (3, .int v3), (4, .int v4)]) F dX2_bestRow_73 5 rfl (by rw [ex_1]; rfl) hN (by decide) rfl ?_
  refine mz_goto (tgt := 8) F dX2_bestRow_76 (by decide) ?_
  refine mz_sub [1, 2, 3, 4, 5, 0] rfl ?_
  exact hL8 kv0 kv1 h
def bX2_bestRow_17 : Nat → Nat → Nat → Int32 → Int32 → Int32 → Int32 → Int32 → mSt → (Int32 → mSt → Prop) → (Nat → Nat → Int32 → Int32 → Int32 → Int32 → mSt → Prop) → Prop
  | 0, _, _, _, _, _, _, _, _, _, _ => False
  | n + 1, v0, v1, v2, v3, v4, v5, v6, u, K, KL8 => (vp_in v5 7 ∧ (((mRows v5.toNatClampNeg) ≤ v6 → bX2_bestRow_73 v0 v1 v2 v3 v4 v5 u K KL8) ∧ (¬ ((mRows v5.toNatClampNeg) ≤ v6) → (((mI u v1 2) ≤ v3 → bX2_bestRow_73 v0 v1 v2 v3 v4 v5 u K KL8) ∧ (¬ ((mI u v1 2) ≤ v3) → bX2_countSets v0 v1 v5 v6 u (fun r_4 u_3 => ((r_4 ≤ v3 → bX2_bestRow_67 v0 v1 v2 v3 v4 v5 v6 u_3 K KL8 (fun z0 z1 z2 z3 z4 z5 z6 z7 => bX2_bestRow_17 n z0 z1 z2 z3 z4 z5 z6 z7 K KL8)) ∧ (¬ (r_4 ≤ v3) → (∀ x_5, x_5 = (((200 : Int32) * v5) + v6) → bX2_bestRow_67 v0 v1 v2 r_4 x_5 v5 v6 u_3 K KL8 (fun z0 z1 z2 z3 z4 z5 z6 z7 => bX2_bestRow_17 n z0 z1 z2 z3 z4 z5 z6 z7 K KL8))))))))))
set_option maxRecDepth 100000 in
set_option maxHeartbeats 4000000 in
theorem tX2_bestRow_17 {X : mCx} {G : mG} {u0 : mSt} {K : Int32 → mSt → Prop} {KL8 : Nat → Nat → Int32 → Int32 → Int32 → Int32 → mSt → Prop} (F : mFx X G cX2_bestRow wsX2_bestRow RX2 "bestRow" 5 117 (some .int) u0 (mPi K)) (hN : X.2.2.2.2.2.2.2.2.2.2.2.2.1 = 8) (hL8 : ∀ {v0 : Nat} {v1 : Nat} {v2 : Int32} {v3 : Int32} {v4 : Int32} {v5 : Int32} {u : mSt}, mK u v0 = 3 → mK u v1 = 1 → KL8 v0 v1 v2 v3 v4 v5 u → mZ X u 8 [(0, .ref (G.1 + v0)), (1, .ref (G.1 + v1)), (2, .int v2), (3, .int v3), (4, .int v4), (5, .int v5)] []) : ∀ (n : Nat) {v0 : Nat} {v1 : Nat} {v2 : Int32} {v3 : Int32} {v4 : Int32} {v5 : Int32} {v6 : Int32} {u : mSt}, mK u v0 = 3 → mK u v1 = 1 → bX2_bestRow_17 n v0 v1 v2 v3 v4 v5 v6 u K KL8 → mZ X u 17 [(0, .ref (G.1 + v0)), (1, .ref (G.1 + v1)), (2, .int v2), (3, .int v3), (4, .int v4), (5, .int v5), (6, .int v6)] [] := by
  intro n
  induction n with
  | zero => intro v0 v1 v2 v3 v4 v5 v6 u kv0 kv1 h; exact False.elim h
  | succ n ih =>
    intro v0 v1 v2 v3 v4 v5 v6 u kv0 kv1 h
    refine mz_iload F dX2_bestRow_17 6 rfl ?_
    refine mz_getRows F dX2_bestRow_19 (Or.inr ⟨_, nwF2_21⟩) ?_
    refine mz_iload F dX2_bestRow_22 5 rfl ?_
    obtain ⟨b_1, h⟩ := h
    refine mz_rows F dX2_bestRow_24 b_1 ?_
    refine mz_icmp_ge (tgt := 73) F dX2_bestRow_25 (by decide) (fun c_8 => ?_) (fun c_8 => ?_)
    · replace h := h.1 c_8
      refine mz_sub [0, 1, 2, 3, 4, 5] rfl ?_
      exact tX2_bestRow_73 F hN hL8 kv0 kv1 h
    · replace h := h.2 c_8
      refine mz_iload_n F dX2_bestRow_28 rfl 3 rfl ?_
      refine mz_aload_n F dX2_bestRow_29 rfl 1 rfl ?_
      refine mz_getI F dX2_bestRow_30 fX2_bestRow_24 kv1 ?_
      refine mz_icmp_ge (tgt := 73) F dX2_bestRow_33 (by decide) (fun c_7 => ?_) (fun c_7 => ?_)
      · replace h := h.1 c_7
        refine mz_sub [0, 1, 2, 3, 4, 5] rfl ?_
        exact tX2_bestRow_73 F hN hL8 kv0 kv1 h
      · replace h := h.2 c_7
        refine mz_aload_n F dX2_bestRow_36 rfl 0 rfl ?_
        refine mz_aload_n F dX2_bestRow_37 rfl 1 rfl ?_
        refine mz_iload F dX2_bestRow_38 5 rfl ?_
        refine mz_iload F dX2_bestRow_40 6 rfl ?_
        refine mz_callV (As := [_, _, _]) (n := 3) F dX2_bestRow_42 rfl kv0 rfl rfl gX2_bestRow_X2_countSets (by decide +kernel) (by decide) rfl (Nat.le_of_ble_eq_true rfl) (kX2_countSets _ G kv0 kv1 h) (mz_kI fun r_4 u_3 h hx_2 => ?_)
        replace kv0 := hx_2.2.2 _ _ (by decide) kv0
        replace kv1 := hx_2.2.2 _ _ (by decide) kv1
        refine mz_istore (lv2 := [(7, .int r_4), (0, .ref (G.1 + v0)), (1, .ref (G.1 + v1)), (2, .int v2), (3, .int v3), (4, .int v4), (5, .int v5), (6, .int v6)]) F dX2_bestRow_45 hN (by decide) rfl ?_
        refine mz_iload F dX2_bestRow_47 0 rfl ?_
        refine mz_iload_n F dX2_bestRow_49 rfl 4 rfl ?_
        refine mz_icmp_le (tgt := 67) F dX2_bestRow_50 (by decide) (fun c_6 => ?_) (fun c_6 => ?_)
        · replace h := h.1 c_6
          refine mz_sub [1, 2, 3, 4, 5, 6, 7] rfl ?_
          exact tX2_bestRow_67 F hN hL8 (fun k0 k1 h => ih k0 k1 h) kv0 kv1 h
        · replace h := h.2 c_6
          refine mz_iload F dX2_bestRow_53 0 rfl ?_
          refine mz_istore_n (lv2 := [(3, .int r_4), (7, .int r_4), (0, .ref (G.1 + v0)), (1, .ref (G.1 + v1)), (2, .int v2), (4, .int v4), (5, .int v5), (6, .int v6)]) F dX2_bestRow_55 rfl hN (by decide) rfl ?_
          refine mz_sipush (v := 200) F dX2_bestRow_56 (by decide) ?_
          refine mz_iload F dX2_bestRow_59 6 rfl ?_
          refine mz_imul F dX2_bestRow_61 ?_
          refine mz_iload F dX2_bestRow_62 7 rfl ?_
          refine mz_iadd F dX2_bestRow_64 ?_
          refine mz_topi (fun x_5 ex_5 => ?_)
          replace h := h x_5 ex_5
          refine mz_istore (lv2 := [(4, .int x_5), (3, .int r_4), (7, .int r_4), (0, .ref (G.1 + v0)), (1, .ref (G.1 + v1)), (2, .int v2), (5, .int v5), (6, .int v6)]) F dX2_bestRow_65 hN (by decide) rfl ?_
          refine mz_sub [3, 4, 5, 1, 0, 6, 7] rfl ?_
          exact tX2_bestRow_67 F hN hL8 (fun k0 k1 h => ih k0 k1 h) kv0 kv1 h
def bX2_bestRow_8 : Nat → Nat → Nat → Int32 → Int32 → Int32 → Int32 → mSt → (Int32 → mSt → Prop) → Prop
  | 0, _, _, _, _, _, _, _, _ => False
  | n + 1, v0, v1, v2, v3, v4, v5, u, K => ((v2 < v5 → K v4 u) ∧ (¬ (v2 < v5) → (∃ n9, bX2_bestRow_17 n9 v0 v1 v2 v3 v4 v5 (0 : Int32) u K (fun z0 z1 z2 z3 z4 z5 z6 => bX2_bestRow_8 n z0 z1 z2 z3 z4 z5 z6 K))))
set_option maxRecDepth 100000 in
set_option maxHeartbeats 4000000 in
theorem tX2_bestRow_8 {X : mCx} {G : mG} {u0 : mSt} {K : Int32 → mSt → Prop} (F : mFx X G cX2_bestRow wsX2_bestRow RX2 "bestRow" 5 117 (some .int) u0 (mPi K)) (hN : X.2.2.2.2.2.2.2.2.2.2.2.2.1 = 8) : ∀ (n : Nat) {v0 : Nat} {v1 : Nat} {v2 : Int32} {v3 : Int32} {v4 : Int32} {v5 : Int32} {u : mSt}, mK u v0 = 3 → mK u v1 = 1 → bX2_bestRow_8 n v0 v1 v2 v3 v4 v5 u K → mZ X u 8 [(0, .ref (G.1 + v0)), (1, .ref (G.1 + v1)), (2, .int v2), (3, .int v3), (4, .int v4), (5, .int v5)] [] := by
  intro n
  induction n with
  | zero => intro v0 v1 v2 v3 v4 v5 u kv0 kv1 h; exact False.elim h
  | succ n ih =>
    intro v0 v1 v2 v3 v4 v5 u kv0 kv1 h
    refine mz_iload F dX2_bestRow_8 5 rfl ?_
    refine mz_iload_n F dX2_bestRow_10 rfl 2 rfl ?_
    refine mz_icmp_gt (tgt := 79) F dX2_bestRow_11 (by decide) (fun c_1 => ?_) (fun c_1 => ?_)
    · replace h := h.1 c_1
      refine mz_iload F dX2_bestRow_79 4 rfl ?_
      exact mz_iret F dX2_bestRow_81 ⟨_, rfl, h⟩
    · replace h := h.2 c_1
      refine mz_iconst (v := 0) F dX2_bestRow_14 (by decide) ?_
      refine mz_istore (lv2 := [(6, .int (0 : Int32)), (0, .ref (G.1 + v0)), (1, .ref (G.1 + v1)), (2, .int v2), (3, .int v3), (4, .int v4), (5, .int v5)]) F dX2_bestRow_15 hN (by decide) rfl ?_
      refine mz_sub [1, 2, 3, 4, 5, 6, 0] rfl ?_
      obtain ⟨n9, h⟩ := h
      exact tX2_bestRow_17 F hN (fun k0 k1 h => ih k0 k1 h) n9 kv0 kv1 h
def bX2_bestRow (this : Nat) (a1 : Nat) (a2 : Int32) (u : mSt) (K : Int32 → mSt → Prop) : Prop := (∃ n9, bX2_bestRow_8 n9 this a1 a2 (0 : Int32) (0 : Int32) (1 : Int32) u K)
set_option maxRecDepth 100000 in
set_option maxHeartbeats 4000000 in
theorem tX2_bestRow {X : mCx} {G : mG} {u0 : mSt} {K : Int32 → mSt → Prop} (F : mFx X G cX2_bestRow wsX2_bestRow RX2 "bestRow" 5 117 (some .int) u0 (mPi K)) (hN : X.2.2.2.2.2.2.2.2.2.2.2.2.1 = 8) {this : Nat} {a1 : Nat} {a2 : Int32} {u : mSt} (kthis : mK u this = 3) (ka1 : mK u a1 = 1) (h : bX2_bestRow this a1 a2 u K) : mZ X u 0 [(0, .ref (G.1 + this)), (1, .ref (G.1 + a1)), (2, .int a2)] [] := by
  refine mz_iconst (v := 0) F dX2_bestRow_0 (by decide) ?_
  refine mz_istore_n (lv2 := [(3, .int (0 : Int32)), (0, .ref (G.1 + this)), (1, .ref (G.1 + a1)), (2, .int a2)]) F dX2_bestRow_1 rfl hN (by decide) rfl ?_
  refine mz_iconst (v := 0) F dX2_bestRow_2 (by decide) ?_
  refine mz_istore (lv2 := [(4, .int (0 : Int32)), (3, .int (0 : Int32)), (0, .ref (G.1 + this)), (1, .ref (G.1 + a1)), (2, .int a2)]) F dX2_bestRow_3 hN (by decide) rfl ?_
  refine mz_iconst (v := 1) F dX2_bestRow_5 (by decide) ?_
  refine mz_istore (lv2 := [(5, .int (1 : Int32)), (4, .int (0 : Int32)), (3, .int (0 : Int32)), (0, .ref (G.1 + this)), (1, .ref (G.1 + a1)), (2, .int a2)]) F dX2_bestRow_6 hN (by decide) rfl ?_
  refine mz_sub [3, 4, 5, 2, 1, 0] rfl ?_
  obtain ⟨n9, h⟩ := h
  exact tX2_bestRow_8 F hN n9 kthis ka1 h
set_option maxRecDepth 100000 in
theorem kX2_bestRow (l : Launch) (G : mG) {u : mSt} {K : Int32 → mSt → Prop} {this : Nat} {a1 : Nat} {a2 : Int32} (kthis : mK u this = 3) (ka1 : mK u a1 = 1) (h : bX2_bestRow this a1 a2 u K) : mCt l G yX2_bestRow wsX2_bestRow 5 117 [.ref (G.1 + this), .ref (G.1 + a1), .int a2] u (mPi K) := by
  refine mCt.of (cc := cX2_bestRow) (maxL := 8) (ret := (some .int)) (by decide) rfl (Nat.le_of_ble_eq_true rfl) ?_
  intro X hl hN F
  exact tX2_bestRow F hN kthis ka1 h
/-! RoomMapper$Route.<init>()V -/
theorem mX3_init_ol3 : Cond.methodLink RX3 3 objectInit ∈ wsX3_init := by decide +kernel
theorem mX3_init_oi : Cond.instanceMethod objectInit ∈ wsX3_init := by decide +kernel
theorem mX3_init_oc : Cond.code objectInit ⟨#[0xb1]⟩ 1 none ∈ wsX3_init := by decide +kernel
theorem mX3_init_fl9 : Cond.fieldLink RX3 9 "RoomMapper$Route" "away" "[I" ∈ wsX3_init := by decide +kernel
theorem wiX3_init_3 : ∀ w ∈ u_ws RX3 TX3 3, w ∈ wsX3_init := by decide +kernel
theorem mX3_init_fl15 : Cond.fieldLink RX3 15 "RoomMapper$Route" "acts" "[I" ∈ wsX3_init := by decide +kernel
theorem mX3_init_acI : Cond.arrayClass .int ∈ wsX3_init := by decide +kernel
def bX3_init (this : Nat) (u : mSt) (K : mSt → Prop) : Prop := ((mN u + 1 ≤ mCapC ∧ mT u + 6 ≤ mCapS) ∧ ∀ p_4 u_2, p_4 = mN u → u_2 = mnw u 17 6 → (∀ u_5, u_5 = mpR u_2 this 0 (some p_4) → ((mN u_5 + 1 ≤ mCapC ∧ mT u_5 + 6 ≤ mCapS) ∧ ∀ p_9 u_7, p_9 = mN u_5 → u_7 = mnw u_5 17 6 → (∀ u_10, u_10 = mpR u_7 this 1 (some p_9) → K u_10))))
set_option maxRecDepth 100000 in
set_option maxHeartbeats 4000000 in
theorem tX3_init {X : mCx} {G : mG} {u0 : mSt} {K : mSt → Prop} (F : mFx X G cX3_init wsX3_init RX3 "<init>" 1 20 none u0 (mPv K)) (hN : X.2.2.2.2.2.2.2.2.2.2.2.2.1 = 1) {this : Nat} {u : mSt} (kthis : mK u this = 4) (h : bX3_init this u K) : mZ X u 0 [(0, .ref (G.1 + this))] [] := by
  refine mz_aload_n F dX3_init_0 rfl 0 rfl ?_
  refine mz_objInit F dX3_init_1 mX3_init_ol3 mX3_init_oi mX3_init_oc (by decide) (Nat.le_of_ble_eq_true rfl) ?_
  refine mz_aload_n F dX3_init_4 rfl 0 rfl ?_
  refine mz_bipush (v := 6) F dX3_init_5 (by decide) ?_
  obtain ⟨b_1, h⟩ := h
  refine mz_newaI (c := 17) F dX3_init_7 mX3_init_acI rfl (by decide) b_1 (fun p_4 u_2 ep_4 eu_2 hx_3 kp_4 => ?_)
  replace h := h p_4 u_2 ep_4 eu_2
  replace kthis := hx_3.2.2 _ _ (by decide) kthis
  refine mz_putRF (k := 0) (tys := tyX3) F dX3_init_9 rfl rfl rfl rfl (by decide) wiX3_init_3 tyX3_ok nmX3 rfl rfl rfl mX3_init_fl9 (by decide) kthis kp_4 (fun u_5 eu_5 hxu_5 => ?_)
  replace h := h u_5 eu_5
  replace kthis := hxu_5.2.2 _ _ (by decide) kthis
  refine mz_aload_n F dX3_init_12 rfl 0 rfl ?_
  refine mz_bipush (v := 6) F dX3_init_13 (by decide) ?_
  obtain ⟨b_6, h⟩ := h
  refine mz_newaI (c := 17) F dX3_init_15 mX3_init_acI rfl (by decide) b_6 (fun p_9 u_7 ep_9 eu_7 hx_8 kp_9 => ?_)
  replace h := h p_9 u_7 ep_9 eu_7
  replace kthis := hx_8.2.2 _ _ (by decide) kthis
  refine mz_putRF (k := 1) (tys := tyX3) F dX3_init_17 rfl rfl rfl rfl (by decide) wiX3_init_3 tyX3_ok nmX3 rfl rfl rfl mX3_init_fl15 (by decide) kthis kp_9 (fun u_10 eu_10 hxu_10 => ?_)
  replace h := h u_10 eu_10
  exact mz_vret F dX3_init_20 ⟨rfl, h⟩
set_option maxRecDepth 100000 in
theorem kX3_init (l : Launch) (G : mG) {u : mSt} {K : mSt → Prop} {this : Nat} (kthis : mK u this = 4) (h : bX3_init this u K) : mCt l G yX3_init wsX3_init 1 20 [.ref (G.1 + this)] u (mPv K) := by
  refine mCt.of (cc := cX3_init) (maxL := 1) (ret := none) (by decide) rfl (Nat.le_of_ble_eq_true rfl) ?_
  intro X hl hN F
  exact tX3_init F hN kthis h
/-! RoomMapper$Route.measure(LRoomMapper$Sheet;I)V -/
theorem mX3_measure_iniX4_placeAfter : Cond.initialized yX4_placeAfter.cls ∈ wsX3_measure := by decide +kernel
theorem mX3_measure_imX4_placeAfter : Cond.instanceMethod yX4_placeAfter ∈ wsX3_measure := by decide +kernel
theorem mX3_measure_seX4_placeAfter : Cond.selects RX4 yX4_placeAfter yX4_placeAfter ∈ wsX3_measure := by decide +kernel
theorem wiX3_measure_3 : ∀ w ∈ u_ws RX3 TX3 3, w ∈ wsX3_measure := by decide +kernel
theorem fX3_measure_9 : mFld wsX3_measure RX3 9 4 0 17 (.array .int) true := ⟨3, _, RX3, TX3, 3, tyX3, rfl, rfl, rfl, by decide, wiX3_measure_3, tyX3_ok, nmX3, rfl, rfl, Or.inl ⟨by decide +kernel, fun _ => rfl⟩⟩
theorem mX3_measure_ml48 : Cond.methodLink RX3 48 Lib.Math.min.name ∈ wsX3_measure := by decide +kernel
theorem mX3_measure_ms : Cond.static Lib.Math.min.name ∈ wsX3_measure := by decide +kernel
theorem mX3_measure_mi : Cond.initialized "java/lang/Math" ∈ wsX3_measure := by decide +kernel
theorem mX3_measure_mc : Cond.code Lib.Math.min.name Lib.Math.min.code 2 (some .int) ∈ wsX3_measure := by decide +kernel
theorem wiX3_measure_4 : ∀ w ∈ u_ws RX4 TX4 5, w ∈ wsX3_measure := by decide +kernel
theorem fX3_measure_45 : mFld wsX3_measure RX3 45 5 2 0 .int false := ⟨4, _, RX4, TX4, 5, tyX4, rfl, rfl, rfl, by decide, wiX3_measure_4, tyX4_ok, nmX4, rfl, rfl, Or.inr ⟨"RoomMapper", nwF3_45⟩⟩
def bX3_measure_41 : Nat → Nat → Nat → Int32 → Int32 → Int32 → mSt → (mSt → Prop) → (Nat → Nat → Int32 → mSt → Prop) → (Nat → Nat → Int32 → Int32 → mSt → Prop) → Prop
  | 0, _, _, _, _, _, _, _, _, _ => False
  | n + 1, v0, v1, v3, v4, v5, u, K, KL18, KL29 => (((5 : Int32) ≤ v5 → (∀ x_1, x_1 = v4 + (1 : Int32) → KL29 v0 v1 v3 x_1 u)) ∧ (¬ ((5 : Int32) ≤ v5) → bX4_placeAfter v1 v4 v5 u (fun r_4 u_3 => (∃ q_5, mR u_3 v0 0 = some q_5 ∧ (∃ q_6, mR u_3 v0 0 = some q_6 ∧ (vp_in v4 6 ∧ (∃ q_8, mR u_3 v0 0 = some q_8 ∧ (vp_in r_4 6 ∧ (vp_in v4 6 ∧ ∀ u_11, u_11 = mpI u_3 q_5 v4.toNatClampNeg (if ((mI u_3 q_8 r_4.toNatClampNeg) + (1 : Int32)) < (mI u_3 q_6 v4.toNatClampNeg) then ((mI u_3 q_8 r_4.toNatClampNeg) + (1 : Int32)) else (mI u_3 q_6 v4.toNatClampNeg)) → (∀ x_12, x_12 = v5 + (1 : Int32) → bX3_measure_41 n v0 v1 v3 v4 x_12 u_11 K KL18 KL29))))))))))
set_option maxRecDepth 100000 in
set_option maxHeartbeats 4000000 in
theorem tX3_measure_41 {X : mCx} {G : mG} {u0 : mSt} {K : mSt → Prop} {KL18 : Nat → Nat → Int32 → mSt → Prop} {KL29 : Nat → Nat → Int32 → Int32 → mSt → Prop} (F : mFx X G cX3_measure wsX3_measure RX3 "measure" 2 45 none u0 (mPv K)) (hN : X.2.2.2.2.2.2.2.2.2.2.2.2.1 = 7) (hL18 : ∀ {v0 : Nat} {v1 : Nat} {v3 : Int32} {u : mSt}, mK u v0 = 4 → mK u v1 = 5 → KL18 v0 v1 v3 u → mZ X u 18 [(0, .ref (G.1 + v0)), (1, .ref (G.1 + v1)), (3, .int v3)] []) (hL29 : ∀ {v0 : Nat} {v1 : Nat} {v3 : Int32} {v4 : Int32} {u : mSt}, mK u v0 = 4 → mK u v1 = 5 → KL29 v0 v1 v3 v4 u → mZ X u 29 [(0, .ref (G.1 + v0)), (1, .ref (G.1 + v1)), (3, .int v3), (4, .int v4)] []) : ∀ (n : Nat) {v0 : Nat} {v1 : Nat} {v3 : Int32} {v4 : Int32} {v5 : Int32} {u : mSt}, mK u v0 = 4 → mK u v1 = 5 → bX3_measure_41 n v0 v1 v3 v4 v5 u K KL18 KL29 → mZ X u 41 [(0, .ref (G.1 + v0)), (1, .ref (G.1 + v1)), (3, .int v3), (4, .int v4), (5, .int v5)] [] := by
  intro n
  induction n with
  | zero => intro v0 v1 v3 v4 v5 u kv0 kv1 h; exact False.elim h
  | succ n ih =>
    intro v0 v1 v3 v4 v5 u kv0 kv1 h
    refine mz_iload F dX3_measure_41 4 rfl ?_
    refine mz_iconst (v := 5) F dX3_measure_43 (by decide) ?_
    refine mz_icmp_ge (tgt := 89) F dX3_measure_44 (by decide) (fun c_13 => ?_) (fun c_13 => ?_)
    · replace h := h.1 c_13
      obtain ⟨x_1, ex_1⟩ : ∃ y : Int32, y = v4 + (1 : Int32) := ⟨_, rfl⟩
      replace h := h x_1 ex_1
      refine mz_iinc (v := x_1) (lv2 := [(4, .int x_1), (0, .ref (G.1 + v0)), (1, .ref (G.1 + v1)), (3, .int v3), (5, .int v5)]) F dX3_measure_89 3 rfl (by rw [ex_1]; rfl) hN (by decide) rfl ?_
      refine mz_goto (tgt := 29) F dX3_measure_92 (by decide) ?_
      refine mz_sub [1, 2, 3, 0] rfl ?_
      exact hL29 kv0 kv1 h
    · replace h := h.2 c_13
      refine mz_aload_n F dX3_measure_47 rfl 1 rfl ?_
      refine mz_iload F dX3_measure_48 3 rfl ?_
      refine mz_iload F dX3_measure_50 4 rfl ?_
      refine mz_callVN (As := [_, _]) (n := 2) F dX3_measure_52 rfl kv1 rfl rfl gX3_measure_X4_placeAfter_n35 nwM3_35 mX3_measure_iniX4_placeAfter mX3_measure_imX4_placeAfter mX3_measure_seX4_placeAfter (by decide +kernel) (by decide) rfl (Nat.le_of_ble_eq_true rfl) (kX4_placeAfter _ G kv1 h) (mz_kI fun r_4 u_3 h hx_2 => ?_)
      replace kv0 := hx_2.2.2 _ _ (by decide) kv0
      replace kv1 := hx_2.2.2 _ _ (by decide) kv1
      refine mz_istore (lv2 := [(6, .int r_4), (0, .ref (G.1 + v0)), (1, .ref (G.1 + v1)), (3, .int v3), (4, .int v4), (5, .int v5)]) F dX3_measure_55 hN (by decide) rfl ?_
      refine mz_aload_n F dX3_measure_57 rfl 1 rfl ?_
      obtain ⟨q_5, eq_5, h⟩ := h
      refine mz_getR F dX3_measure_58 fX3_measure_9 (by decide) kv0 eq_5 (fun kq_5 => ?_)
      refine mz_iload F dX3_measure_61 4 rfl ?_
      refine mz_aload_n F dX3_measure_63 rfl 1 rfl ?_
      obtain ⟨q_6, eq_6, h⟩ := h
      refine mz_getR F dX3_measure_64 fX3_measure_9 (by decide) kv0 eq_6 (fun kq_6 => ?_)
      refine mz_iload F dX3_measure_67 4 rfl ?_
      obtain ⟨b_7, h⟩ := h
      refine mz_iald F dX3_measure_69 kq_6 rfl b_7 ?_
      refine mz_aload_n F dX3_measure_70 rfl 1 rfl ?_
      obtain ⟨q_8, eq_8, h⟩ := h
      refine mz_getR F dX3_measure_71 fX3_measure_9 (by decide) kv0 eq_8 (fun kq_8 => ?_)
      refine mz_iload F dX3_measure_74 0 rfl ?_
      obtain ⟨b_9, h⟩ := h
      refine mz_iald F dX3_measure_76 kq_8 rfl b_9 ?_
      refine mz_iconst (v := 1) F dX3_measure_77 (by decide) ?_
      refine mz_iadd F dX3_measure_78 ?_
      refine mz_min F dX3_measure_79 mX3_measure_ml48 mX3_measure_ms mX3_measure_mi mX3_measure_mc (by decide) (Nat.le_of_ble_eq_true rfl) ?_
      obtain ⟨b_10, h⟩ := h
      refine mz_iast F dX3_measure_82 kq_5 rfl b_10 (fun u_11 eu_11 hxu_11 => ?_)
      replace h := h u_11 eu_11
      replace kv0 := hxu_11.2.2 _ _ (by decide) kv0
      replace kv1 := hxu_11.2.2 _ _ (by decide) kv1
      obtain ⟨x_12, ex_12⟩ : ∃ y : Int32, y = v5 + (1 : Int32) := ⟨_, rfl⟩
      replace h := h x_12 ex_12
      refine mz_iinc (v := x_12) (lv2 := [(5, .int x_12), (6, .int r_4), (0, .ref (G.1 + v0)), (1, .ref (G.1 + v1)), (3, .int v3), (4, .int v4)]) F dX3_measure_83 5 rfl (by rw [ex_12]; rfl) hN (by decide) rfl ?_
      refine mz_goto (tgt := 41) F dX3_measure_86 (by decide) ?_
      refine mz_sub [2, 3, 4, 5, 0] rfl ?_
      exact ih kv0 kv1 h
def bX3_measure_29 : Nat → Nat → Nat → Int32 → Int32 → mSt → (mSt → Prop) → (Nat → Nat → Int32 → mSt → Prop) → Prop
  | 0, _, _, _, _, _, _, _ => False
  | n + 1, v0, v1, v3, v4, u, K, KL18 => (((mI u v1 2) ≤ v4 → (∀ x_1, x_1 = v3 + (1 : Int32) → KL18 v0 v1 x_1 u)) ∧ (¬ ((mI u v1 2) ≤ v4) → (∃ n9, bX3_measure_41 n9 v0 v1 v3 v4 (0 : Int32) u K KL18 (fun z0 z1 z2 z3 z4 => bX3_measure_29 n z0 z1 z2 z3 z4 K KL18))))
set_option maxRecDepth 100000 in
set_option maxHeartbeats 4000000 in
theorem tX3_measure_29 {X : mCx} {G : mG} {u0 : mSt} {K : mSt → Prop} {KL18 : Nat → Nat → Int32 → mSt → Prop} (F : mFx X G cX3_measure wsX3_measure RX3 "measure" 2 45 none u0 (mPv K)) (hN : X.2.2.2.2.2.2.2.2.2.2.2.2.1 = 7) (hL18 : ∀ {v0 : Nat} {v1 : Nat} {v3 : Int32} {u : mSt}, mK u v0 = 4 → mK u v1 = 5 → KL18 v0 v1 v3 u → mZ X u 18 [(0, .ref (G.1 + v0)), (1, .ref (G.1 + v1)), (3, .int v3)] []) : ∀ (n : Nat) {v0 : Nat} {v1 : Nat} {v3 : Int32} {v4 : Int32} {u : mSt}, mK u v0 = 4 → mK u v1 = 5 → bX3_measure_29 n v0 v1 v3 v4 u K KL18 → mZ X u 29 [(0, .ref (G.1 + v0)), (1, .ref (G.1 + v1)), (3, .int v3), (4, .int v4)] [] := by
  intro n
  induction n with
  | zero => intro v0 v1 v3 v4 u kv0 kv1 h; exact False.elim h
  | succ n ih =>
    intro v0 v1 v3 v4 u kv0 kv1 h
    refine mz_iload F dX3_measure_29 3 rfl ?_
    refine mz_aload_n F dX3_measure_31 rfl 1 rfl ?_
    refine mz_getI F dX3_measure_32 fX3_measure_45 kv1 ?_
    refine mz_icmp_ge (tgt := 95) F dX3_measure_35 (by decide) (fun c_2 => ?_) (fun c_2 => ?_)
    · replace h := h.1 c_2
      obtain ⟨x_1, ex_1⟩ : ∃ y : Int32, y = v3 + (1 : Int32) := ⟨_, rfl⟩
      replace h := h x_1 ex_1
      refine mz_iinc (v := x_1) (lv2 := [(3, .int x_1), (0, .ref (G.1 + v0)), (1, .ref (G.1 + v1)), (4, .int v4)]) F dX3_measure_95 2 rfl (by rw [ex_1]; rfl) hN (by decide) rfl ?_
      refine mz_goto (tgt := 18) F dX3_measure_98 (by decide) ?_
      refine mz_sub [1, 2, 0] rfl ?_
      exact hL18 kv0 kv1 h
    · replace h := h.2 c_2
      refine mz_iconst (v := 0) F dX3_measure_38 (by decide) ?_
      refine mz_istore (lv2 := [(5, .int (0 : Int32)), (0, .ref (G.1 + v0)), (1, .ref (G.1 + v1)), (3, .int v3), (4, .int v4)]) F dX3_measure_39 hN (by decide) rfl ?_
      refine mz_sub [1, 2, 3, 4, 0] rfl ?_
      obtain ⟨n9, h⟩ := h
      exact tX3_measure_41 F hN hL18 (fun k0 k1 h => ih k0 k1 h) n9 kv0 kv1 h
def bX3_measure_18 : Nat → Nat → Nat → Int32 → mSt → (mSt → Prop) → Prop
  | 0, _, _, _, _, _ => False
  | n + 1, v0, v1, v3, u, K => (((mI u v1 2) ≤ v3 → K u) ∧ (¬ ((mI u v1 2) ≤ v3) → (∃ n9, bX3_measure_29 n9 v0 v1 v3 (0 : Int32) u K (fun z0 z1 z2 z3 => bX3_measure_18 n z0 z1 z2 z3 K))))
set_option maxRecDepth 100000 in
set_option maxHeartbeats 4000000 in
theorem tX3_measure_18 {X : mCx} {G : mG} {u0 : mSt} {K : mSt → Prop} (F : mFx X G cX3_measure wsX3_measure RX3 "measure" 2 45 none u0 (mPv K)) (hN : X.2.2.2.2.2.2.2.2.2.2.2.2.1 = 7) : ∀ (n : Nat) {v0 : Nat} {v1 : Nat} {v3 : Int32} {u : mSt}, mK u v0 = 4 → mK u v1 = 5 → bX3_measure_18 n v0 v1 v3 u K → mZ X u 18 [(0, .ref (G.1 + v0)), (1, .ref (G.1 + v1)), (3, .int v3)] [] := by
  intro n
  induction n with
  | zero => intro v0 v1 v3 u kv0 kv1 h; exact False.elim h
  | succ n ih =>
    intro v0 v1 v3 u kv0 kv1 h
    refine mz_iload_n F dX3_measure_18 rfl 2 rfl ?_
    refine mz_aload_n F dX3_measure_19 rfl 1 rfl ?_
    refine mz_getI F dX3_measure_20 fX3_measure_45 kv1 ?_
    refine mz_icmp_ge (tgt := 101) F dX3_measure_23 (by decide) (fun c_1 => ?_) (fun c_1 => ?_)
    · replace h := h.1 c_1
      exact mz_vret F dX3_measure_101 ⟨rfl, h⟩
    · replace h := h.2 c_1
      refine mz_iconst (v := 0) F dX3_measure_26 (by decide) ?_
      refine mz_istore (lv2 := [(4, .int (0 : Int32)), (0, .ref (G.1 + v0)), (1, .ref (G.1 + v1)), (3, .int v3)]) F dX3_measure_27 hN (by decide) rfl ?_
      refine mz_sub [1, 2, 3, 0] rfl ?_
      obtain ⟨n9, h⟩ := h
      exact tX3_measure_29 F hN (fun k0 k1 h => ih k0 k1 h) n9 kv0 kv1 h
def bX3_measure (this : Nat) (a1 : Nat) (a2 : Int32) (u : mSt) (K : mSt → Prop) : Prop := (∃ q_1, mR u this 0 = some q_1 ∧ bJ7_fill_53178 q_1 6 (6 : Int32) u (fun u_3 => (∃ q_4, mR u_3 this 0 = some q_4 ∧ (vp_in a2 6 ∧ ∀ u_6, u_6 = mpI u_3 q_4 a2.toNatClampNeg (0 : Int32) → (∃ n9, bX3_measure_18 n9 this a1 (0 : Int32) u_6 K)))))
set_option maxRecDepth 100000 in
set_option maxHeartbeats 4000000 in
theorem tX3_measure {X : mCx} {G : mG} {u0 : mSt} {K : mSt → Prop} (F : mFx X G cX3_measure wsX3_measure RX3 "measure" 2 45 none u0 (mPv K)) (hN : X.2.2.2.2.2.2.2.2.2.2.2.2.1 = 7) {this : Nat} {a1 : Nat} {a2 : Int32} {u : mSt} (kthis : mK u this = 4) (ka1 : mK u a1 = 5) (h : bX3_measure this a1 a2 u K) : mZ X u 0 [(0, .ref (G.1 + this)), (1, .ref (G.1 + a1)), (2, .int a2)] [] := by
  refine mz_aload_n F dX3_measure_0 rfl 0 rfl ?_
  obtain ⟨q_1, eq_1, h⟩ := h
  refine mz_getR F dX3_measure_1 fX3_measure_9 (by decide) kthis eq_1 (fun kq_1 => ?_)
  refine mz_bipush (v := 6) F dX3_measure_4 (by decide) ?_
  refine mz_callS (As := [_, _]) (n := 2) F dX3_measure_6 rfl gX3_measure_J7_fill_53178 (by decide +kernel) (by decide) rfl (Nat.le_of_ble_eq_true rfl) (kJ7_fill_53178 _ G kq_1 rfl h) (mz_kV fun u_3 h hx_2 => ?_)
  replace kthis := hx_2.2.2 _ _ (by decide) kthis
  replace ka1 := hx_2.2.2 _ _ (by decide) ka1
  refine mz_aload_n F dX3_measure_9 rfl 0 rfl ?_
  obtain ⟨q_4, eq_4, h⟩ := h
  refine mz_getR F dX3_measure_10 fX3_measure_9 (by decide) kthis eq_4 (fun kq_4 => ?_)
  refine mz_iload_n F dX3_measure_13 rfl 2 rfl ?_
  refine mz_iconst (v := 0) F dX3_measure_14 (by decide) ?_
  obtain ⟨b_5, h⟩ := h
  refine mz_iast F dX3_measure_15 kq_4 rfl b_5 (fun u_6 eu_6 hxu_6 => ?_)
  replace h := h u_6 eu_6
  replace kthis := hxu_6.2.2 _ _ (by decide) kthis
  replace ka1 := hxu_6.2.2 _ _ (by decide) ka1
  refine mz_iconst (v := 0) F dX3_measure_16 (by decide) ?_
  refine mz_istore_n (lv2 := [(3, .int (0 : Int32)), (0, .ref (G.1 + this)), (1, .ref (G.1 + a1)), (2, .int a2)]) F dX3_measure_17 rfl hN (by decide) rfl ?_
  refine mz_sub [1, 2, 0] rfl ?_
  obtain ⟨n9, h⟩ := h
  exact tX3_measure_18 F hN n9 kthis ka1 h
set_option maxRecDepth 100000 in
theorem kX3_measure (l : Launch) (G : mG) {u : mSt} {K : mSt → Prop} {this : Nat} {a1 : Nat} {a2 : Int32} (kthis : mK u this = 4) (ka1 : mK u a1 = 5) (h : bX3_measure this a1 a2 u K) : mCt l G yX3_measure wsX3_measure 2 45 [.ref (G.1 + this), .ref (G.1 + a1), .int a2] u (mPv K) := by
  refine mCt.of (cc := cX3_measure) (maxL := 7) (ret := none) (by decide) rfl (Nat.le_of_ble_eq_true rfl) ?_
  intro X hl hN F
  exact tX3_measure F hN kthis ka1 h
/-! RoomMapper$Route.nearerBy(LRoomMapper$Sheet;I)I -/
theorem wiX3_nearerBy_3 : ∀ w ∈ u_ws RX3 TX3 3, w ∈ wsX3_nearerBy := by decide +kernel
theorem fX3_nearerBy_9 : mFld wsX3_nearerBy RX3 9 4 0 17 (.array .int) true := ⟨3, _, RX3, TX3, 3, tyX3, rfl, rfl, rfl, by decide, wiX3_nearerBy_3, tyX3_ok, nmX3, rfl, rfl, Or.inl ⟨by decide +kernel, fun _ => rfl⟩⟩
theorem mX3_nearerBy_iniX4_placeAfter : Cond.initialized yX4_placeAfter.cls ∈ wsX3_nearerBy := by decide +kernel
theorem mX3_nearerBy_imX4_placeAfter : Cond.instanceMethod yX4_placeAfter ∈ wsX3_nearerBy := by decide +kernel
theorem mX3_nearerBy_seX4_placeAfter : Cond.selects RX4 yX4_placeAfter yX4_placeAfter ∈ wsX3_nearerBy := by decide +kernel
def bX3_nearerBy_2 : Nat → Nat → Nat → Int32 → Int32 → mSt → (Int32 → mSt → Prop) → Prop
  | 0, _, _, _, _, _, _ => False
  | n + 1, v0, v1, v2, v3, u, K => (((4 : Int32) ≤ v3 → K v3 u) ∧ (¬ ((4 : Int32) ≤ v3) → (∃ q_1, mR u v0 0 = some q_1 ∧ bX4_placeAfter v1 v2 v3 u (fun r_4 u_3 => (vp_in r_4 6 ∧ (∃ q_6, mR u_3 v0 0 = some q_6 ∧ (vp_in v2 6 ∧ (((mI u_3 q_1 r_4.toNatClampNeg) < (mI u_3 q_6 v2.toNatClampNeg) → K v3 u_3) ∧ (¬ ((mI u_3 q_1 r_4.toNatClampNeg) < (mI u_3 q_6 v2.toNatClampNeg)) → (∀ x_8, x_8 = v3 + (1 : Int32) → bX3_nearerBy_2 n v0 v1 v2 x_8 u_3 K))))))))))
set_option maxRecDepth 100000 in
set_option maxHeartbeats 4000000 in
theorem tX3_nearerBy_2 {X : mCx} {G : mG} {u0 : mSt} {K : Int32 → mSt → Prop} (F : mFx X G cX3_nearerBy wsX3_nearerBy RX3 "nearerBy" 2 45 (some .int) u0 (mPi K)) (hN : X.2.2.2.2.2.2.2.2.2.2.2.2.1 = 4) : ∀ (n : Nat) {v0 : Nat} {v1 : Nat} {v2 : Int32} {v3 : Int32} {u : mSt}, mK u v0 = 4 → mK u v1 = 5 → bX3_nearerBy_2 n v0 v1 v2 v3 u K → mZ X u 2 [(0, .ref (G.1 + v0)), (1, .ref (G.1 + v1)), (2, .int v2), (3, .int v3)] [] := by
  intro n
  induction n with
  | zero => intro v0 v1 v2 v3 u kv0 kv1 h; exact False.elim h
  | succ n ih =>
    intro v0 v1 v2 v3 u kv0 kv1 h
    refine mz_iload_n F dX3_nearerBy_2 rfl 3 rfl ?_
    refine mz_iconst (v := 4) F dX3_nearerBy_3 (by decide) ?_
    refine mz_icmp_ge (tgt := 33) F dX3_nearerBy_4 (by decide) (fun c_10 => ?_) (fun c_10 => ?_)
    · replace h := h.1 c_10
      refine mz_iload_n F dX3_nearerBy_33 rfl 3 rfl ?_
      exact mz_iret F dX3_nearerBy_34 ⟨_, rfl, h⟩
    · replace h := h.2 c_10
      refine mz_aload_n F dX3_nearerBy_7 rfl 0 rfl ?_
      obtain ⟨q_1, eq_1, h⟩ := h
      refine mz_getR F dX3_nearerBy_8 fX3_nearerBy_9 (by decide) kv0 eq_1 (fun kq_1 => ?_)
      refine mz_aload_n F dX3_nearerBy_11 rfl 1 rfl ?_
      refine mz_iload_n F dX3_nearerBy_12 rfl 2 rfl ?_
      refine mz_iload_n F dX3_nearerBy_13 rfl 3 rfl ?_
      refine mz_callVN (As := [_, _]) (n := 2) F dX3_nearerBy_14 rfl kv1 rfl rfl gX3_nearerBy_X4_placeAfter_n35 nwM3_35 mX3_nearerBy_iniX4_placeAfter mX3_nearerBy_imX4_placeAfter mX3_nearerBy_seX4_placeAfter (by decide +kernel) (by decide) rfl (Nat.le_of_ble_eq_true rfl) (kX4_placeAfter _ G kv1 h) (mz_kI fun r_4 u_3 h hx_2 => ?_)
      replace kv0 := hx_2.2.2 _ _ (by decide) kv0
      replace kv1 := hx_2.2.2 _ _ (by decide) kv1
      replace kq_1 := hx_2.2.2 _ _ (by decide) kq_1
      obtain ⟨b_5, h⟩ := h
      refine mz_iald F dX3_nearerBy_17 kq_1 rfl b_5 ?_
      refine mz_aload_n F dX3_nearerBy_18 rfl 0 rfl ?_
      obtain ⟨q_6, eq_6, h⟩ := h
      refine mz_getR F dX3_nearerBy_19 fX3_nearerBy_9 (by decide) kv0 eq_6 (fun kq_6 => ?_)
      refine mz_iload_n F dX3_nearerBy_22 rfl 2 rfl ?_
      obtain ⟨b_7, h⟩ := h
      refine mz_iald F dX3_nearerBy_23 kq_6 rfl b_7 ?_
      refine mz_icmp_lt (tgt := 33) F dX3_nearerBy_24 (by decide) (fun c_9 => ?_) (fun c_9 => ?_)
      · replace h := h.1 c_9
        refine mz_iload_n F dX3_nearerBy_33 rfl 3 rfl ?_
        exact mz_iret F dX3_nearerBy_34 ⟨_, rfl, h⟩
      · replace h := h.2 c_9
        obtain ⟨x_8, ex_8⟩ : ∃ y : Int32, y = v3 + (1 : Int32) := ⟨_, rfl⟩
        replace h := h x_8 ex_8
        refine mz_iinc (v := x_8) (lv2 := [(3, .int x_8), (0, .ref (G.1 + v0)), (1, .ref (G.1 + v1)), (2, .int v2)]) F dX3_nearerBy_27 3 rfl (by rw [ex_8]; rfl) hN (by decide) rfl ?_
        refine mz_goto (tgt := 2) F dX3_nearerBy_30 (by decide) ?_
        refine mz_sub [1, 2, 3, 0] rfl ?_
        exact ih kv0 kv1 h
def bX3_nearerBy (this : Nat) (a1 : Nat) (a2 : Int32) (u : mSt) (K : Int32 → mSt → Prop) : Prop := (∃ n9, bX3_nearerBy_2 n9 this a1 a2 (0 : Int32) u K)
set_option maxRecDepth 100000 in
set_option maxHeartbeats 4000000 in
theorem tX3_nearerBy {X : mCx} {G : mG} {u0 : mSt} {K : Int32 → mSt → Prop} (F : mFx X G cX3_nearerBy wsX3_nearerBy RX3 "nearerBy" 2 45 (some .int) u0 (mPi K)) (hN : X.2.2.2.2.2.2.2.2.2.2.2.2.1 = 4) {this : Nat} {a1 : Nat} {a2 : Int32} {u : mSt} (kthis : mK u this = 4) (ka1 : mK u a1 = 5) (h : bX3_nearerBy this a1 a2 u K) : mZ X u 0 [(0, .ref (G.1 + this)), (1, .ref (G.1 + a1)), (2, .int a2)] [] := by
  refine mz_iconst (v := 0) F dX3_nearerBy_0 (by decide) ?_
  refine mz_istore_n (lv2 := [(3, .int (0 : Int32)), (0, .ref (G.1 + this)), (1, .ref (G.1 + a1)), (2, .int a2)]) F dX3_nearerBy_1 rfl hN (by decide) rfl ?_
  refine mz_sub [1, 2, 3, 0] rfl ?_
  obtain ⟨n9, h⟩ := h
  exact tX3_nearerBy_2 F hN n9 kthis ka1 h
set_option maxRecDepth 100000 in
theorem kX3_nearerBy (l : Launch) (G : mG) {u : mSt} {K : Int32 → mSt → Prop} {this : Nat} {a1 : Nat} {a2 : Int32} (kthis : mK u this = 4) (ka1 : mK u a1 = 5) (h : bX3_nearerBy this a1 a2 u K) : mCt l G yX3_nearerBy wsX3_nearerBy 2 45 [.ref (G.1 + this), .ref (G.1 + a1), .int a2] u (mPi K) := by
  refine mCt.of (cc := cX3_nearerBy) (maxL := 4) (ret := (some .int)) (by decide) rfl (Nat.le_of_ble_eq_true rfl) ?_
  intro X hl hN F
  exact tX3_nearerBy F hN kthis ka1 h
/-! RoomMapper$Route.find(LRoomMapper$Sheet;I)Z -/
theorem wiX3_find_3 : ∀ w ∈ u_ws RX3 TX3 3, w ∈ wsX3_find := by decide +kernel
theorem fX3_find_28 : mFld wsX3_find RX3 28 4 2 0 .int false := ⟨3, _, RX3, TX3, 3, tyX3, rfl, rfl, rfl, by decide, wiX3_find_3, tyX3_ok, nmX3, rfl, rfl, Or.inl ⟨by decide +kernel, fun _ => rfl⟩⟩
theorem fX3_find_15 : mFld wsX3_find RX3 15 4 1 17 (.array .int) true := ⟨3, _, RX3, TX3, 3, tyX3, rfl, rfl, rfl, by decide, wiX3_find_3, tyX3_ok, nmX3, rfl, rfl, Or.inl ⟨by decide +kernel, fun _ => rfl⟩⟩
theorem mX3_find_iniX4_placeAfter : Cond.initialized yX4_placeAfter.cls ∈ wsX3_find := by decide +kernel
theorem mX3_find_imX4_placeAfter : Cond.instanceMethod yX4_placeAfter ∈ wsX3_find := by decide +kernel
theorem mX3_find_seX4_placeAfter : Cond.selects RX4 yX4_placeAfter yX4_placeAfter ∈ wsX3_find := by decide +kernel
theorem fX3_find_9 : mFld wsX3_find RX3 9 4 0 17 (.array .int) true := ⟨3, _, RX3, TX3, 3, tyX3, rfl, rfl, rfl, by decide, wiX3_find_3, tyX3_ok, nmX3, rfl, rfl, Or.inl ⟨by decide +kernel, fun _ => rfl⟩⟩
theorem wiX3_find_4 : ∀ w ∈ u_ws RX4 TX4 5, w ∈ wsX3_find := by decide +kernel
theorem fX3_find_22 : mFld wsX3_find RX3 22 5 3 0 .int false := ⟨4, _, RX4, TX4, 5, tyX4, rfl, rfl, rfl, by decide, wiX3_find_4, tyX4_ok, nmX4, rfl, rfl, Or.inr ⟨"RoomMapper", nwF3_22⟩⟩
def bX3_find_43 : Nat → Nat → Nat → Int32 → Int32 → mSt → (Int32 → mSt → Prop) → Prop
  | 0, _, _, _, _, _, _ => False
  | n + 1, v0, v1, v3, v4, u, K => (((mI u v0 2) ≤ v4 → K (1 : Int32) u) ∧ (¬ ((mI u v0 2) ≤ v4) → (∃ q_1, mR u v0 1 = some q_1 ∧ bX3_nearerBy v0 v1 v3 u (fun r_4 u_3 => (vp_in v4 6 ∧ ∀ u_6, u_6 = mpI u_3 q_1 v4.toNatClampNeg r_4 → (∃ q_7, mR u_6 v0 1 = some q_7 ∧ (vp_in v4 6 ∧ bX4_placeAfter v1 v3 (mI u_6 q_7 v4.toNatClampNeg) u_6 (fun r_11 u_10 => (∀ x_12, x_12 = v4 + (1 : Int32) → bX3_find_43 n v0 v1 r_11 x_12 u_10 K)))))))))
set_option maxRecDepth 100000 in
set_option maxHeartbeats 4000000 in
theorem tX3_find_43 {X : mCx} {G : mG} {u0 : mSt} {K : Int32 → mSt → Prop} (F : mFx X G cX3_find wsX3_find RX3 "find" 3 71 (some .boolean) u0 (mPz K)) (hN : X.2.2.2.2.2.2.2.2.2.2.2.2.1 = 5) : ∀ (n : Nat) {v0 : Nat} {v1 : Nat} {v3 : Int32} {v4 : Int32} {u : mSt}, mK u v0 = 4 → mK u v1 = 5 → bX3_find_43 n v0 v1 v3 v4 u K → mZ X u 43 [(0, .ref (G.1 + v0)), (1, .ref (G.1 + v1)), (3, .int v3), (4, .int v4)] [] := by
  intro n
  induction n with
  | zero => intro v0 v1 v3 v4 u kv0 kv1 h; exact False.elim h
  | succ n ih =>
    intro v0 v1 v3 v4 u kv0 kv1 h
    refine mz_iload F dX3_find_43 3 rfl ?_
    refine mz_aload_n F dX3_find_45 rfl 0 rfl ?_
    refine mz_getI F dX3_find_46 fX3_find_28 kv0 ?_
    refine mz_icmp_ge (tgt := 84) F dX3_find_49 (by decide) (fun c_13 => ?_) (fun c_13 => ?_)
    · replace h := h.1 c_13
      refine mz_iconst (v := 1) F dX3_find_84 (by decide) ?_
      exact mz_zret F dX3_find_85 rfl ⟨_, rfl, by decide, h⟩
    · replace h := h.2 c_13
      refine mz_aload_n F dX3_find_52 rfl 0 rfl ?_
      obtain ⟨q_1, eq_1, h⟩ := h
      refine mz_getR F dX3_find_53 fX3_find_15 (by decide) kv0 eq_1 (fun kq_1 => ?_)
      refine mz_iload F dX3_find_56 3 rfl ?_
      refine mz_aload_n F dX3_find_58 rfl 0 rfl ?_
      refine mz_aload_n F dX3_find_59 rfl 1 rfl ?_
      refine mz_iload_n F dX3_find_60 rfl 2 rfl ?_
      refine mz_callV (As := [_, _]) (n := 2) F dX3_find_61 rfl kv0 rfl rfl gX3_find_X3_nearerBy (by decide +kernel) (by decide) rfl (Nat.le_of_ble_eq_true rfl) (kX3_nearerBy _ G kv0 kv1 h) (mz_kI fun r_4 u_3 h hx_2 => ?_)
      replace kv0 := hx_2.2.2 _ _ (by decide) kv0
      replace kv1 := hx_2.2.2 _ _ (by decide) kv1
      replace kq_1 := hx_2.2.2 _ _ (by decide) kq_1
      obtain ⟨b_5, h⟩ := h
      refine mz_iast F dX3_find_64 kq_1 rfl b_5 (fun u_6 eu_6 hxu_6 => ?_)
      replace h := h u_6 eu_6
      replace kv0 := hxu_6.2.2 _ _ (by decide) kv0
      replace kv1 := hxu_6.2.2 _ _ (by decide) kv1
      refine mz_aload_n F dX3_find_65 rfl 1 rfl ?_
      refine mz_iload_n F dX3_find_66 rfl 2 rfl ?_
      refine mz_aload_n F dX3_find_67 rfl 0 rfl ?_
      obtain ⟨q_7, eq_7, h⟩ := h
      refine mz_getR F dX3_find_68 fX3_find_15 (by decide) kv0 eq_7 (fun kq_7 => ?_)
      refine mz_iload F dX3_find_71 3 rfl ?_
      obtain ⟨b_8, h⟩ := h
      refine mz_iald F dX3_find_73 kq_7 rfl b_8 ?_
      refine mz_callVN (As := [_, _]) (n := 2) F dX3_find_74 rfl kv1 rfl rfl gX3_find_X4_placeAfter_n35 nwM3_35 mX3_find_iniX4_placeAfter mX3_find_imX4_placeAfter mX3_find_seX4_placeAfter (by decide +kernel) (by decide) rfl (Nat.le_of_ble_eq_true rfl) (kX4_placeAfter _ G kv1 h) (mz_kI fun r_11 u_10 h hx_9 => ?_)
      replace kv0 := hx_9.2.2 _ _ (by decide) kv0
      replace kv1 := hx_9.2.2 _ _ (by decide) kv1
      refine mz_istore_n (lv2 := [(3, .int r_11), (0, .ref (G.1 + v0)), (1, .ref (G.1 + v1)), (4, .int v4)]) F dX3_find_77 rfl hN (by decide) rfl ?_
      obtain ⟨x_12, ex_12⟩ : ∃ y : Int32, y = v4 + (1 : Int32) := ⟨_, rfl⟩
      replace h := h x_12 ex_12
      refine mz_iinc (v := x_12) (lv2 := [(4, .int x_12), (3, .int r_11), (0, .ref (G.1 + v0)), (1, .ref (G.1 + v1))]) F dX3_find_78 3 rfl (by rw [ex_12]; rfl) hN (by decide) rfl ?_
      refine mz_goto (tgt := 43) F dX3_find_81 (by decide) ?_
      refine mz_sub [2, 3, 1, 0] rfl ?_
      exact ih kv0 kv1 h
def bX3_find (this : Nat) (a1 : Nat) (a2 : Int32) (u : mSt) (K : Int32 → mSt → Prop) : Prop := bX3_measure this a1 a2 u (fun u_2 => (∃ q_3, mR u_2 this 0 = some q_3 ∧ (vp_in (mI u_2 a1 3) 6 ∧ (((mI u_2 q_3 (mI u_2 a1 3).toNatClampNeg) < (6 : Int32) → (∃ q_5, mR u_2 this 0 = some q_5 ∧ (vp_in (mI u_2 a1 3) 6 ∧ (∀ u_7, u_7 = mpI u_2 this 2 (mI u_2 q_5 (mI u_2 a1 3).toNatClampNeg) → (∀ x_8, x_8 = (mI u_7 a1 3) → (∃ n9, bX3_find_43 n9 this a1 x_8 (0 : Int32) u_7 K)))))) ∧ (¬ ((mI u_2 q_3 (mI u_2 a1 3).toNatClampNeg) < (6 : Int32)) → K (0 : Int32) u_2)))))
set_option maxRecDepth 100000 in
set_option maxHeartbeats 4000000 in
theorem tX3_find {X : mCx} {G : mG} {u0 : mSt} {K : Int32 → mSt → Prop} (F : mFx X G cX3_find wsX3_find RX3 "find" 3 71 (some .boolean) u0 (mPz K)) (hN : X.2.2.2.2.2.2.2.2.2.2.2.2.1 = 5) {this : Nat} {a1 : Nat} {a2 : Int32} {u : mSt} (kthis : mK u this = 4) (ka1 : mK u a1 = 5) (h : bX3_find this a1 a2 u K) : mZ X u 0 [(0, .ref (G.1 + this)), (1, .ref (G.1 + a1)), (2, .int a2)] [] := by
  refine mz_aload_n F dX3_find_0 rfl 0 rfl ?_
  refine mz_aload_n F dX3_find_1 rfl 1 rfl ?_
  refine mz_iload_n F dX3_find_2 rfl 2 rfl ?_
  refine mz_callV (As := [_, _]) (n := 2) F dX3_find_3 rfl kthis rfl rfl gX3_find_X3_measure (by decide +kernel) (by decide) rfl (Nat.le_of_ble_eq_true rfl) (kX3_measure _ G kthis ka1 h) (mz_kV fun u_2 h hx_1 => ?_)
  replace kthis := hx_1.2.2 _ _ (by decide) kthis
  replace ka1 := hx_1.2.2 _ _ (by decide) ka1
  refine mz_aload_n F dX3_find_6 rfl 0 rfl ?_
  obtain ⟨q_3, eq_3, h⟩ := h
  refine mz_getR F dX3_find_7 fX3_find_9 (by decide) kthis eq_3 (fun kq_3 => ?_)
  refine mz_aload_n F dX3_find_10 rfl 1 rfl ?_
  refine mz_getI F dX3_find_11 fX3_find_22 ka1 ?_
  obtain ⟨b_4, h⟩ := h
  refine mz_iald F dX3_find_14 kq_3 rfl b_4 ?_
  refine mz_bipush (v := 6) F dX3_find_15 (by decide) ?_
  refine mz_icmp_lt (tgt := 22) F dX3_find_17 (by decide) (fun c_9 => ?_) (fun c_9 => ?_)
  · replace h := h.1 c_9
    refine mz_aload_n F dX3_find_22 rfl 0 rfl ?_
    refine mz_aload_n F dX3_find_23 rfl 0 rfl ?_
    obtain ⟨q_5, eq_5, h⟩ := h
    refine mz_getR F dX3_find_24 fX3_find_9 (by decide) kthis eq_5 (fun kq_5 => ?_)
    refine mz_aload_n F dX3_find_27 rfl 1 rfl ?_
    refine mz_getI F dX3_find_28 fX3_find_22 ka1 ?_
    obtain ⟨b_6, h⟩ := h
    refine mz_iald F dX3_find_31 kq_5 rfl b_6 ?_
    refine mz_putI F dX3_find_32 fX3_find_28 kthis rfl rfl (fun u_7 eu_7 hxu_7 => ?_)
    replace h := h u_7 eu_7
    replace kthis := hxu_7.2.2 _ _ (by decide) kthis
    replace ka1 := hxu_7.2.2 _ _ (by decide) ka1
    refine mz_aload_n F dX3_find_35 rfl 1 rfl ?_
    refine mz_getI F dX3_find_36 fX3_find_22 ka1 ?_
    refine mz_topi (fun x_8 ex_8 => ?_)
    replace h := h x_8 ex_8
    refine mz_istore_n (lv2 := [(3, .int x_8), (0, .ref (G.1 + this)), (1, .ref (G.1 + a1)), (2, .int a2)]) F dX3_find_39 rfl hN (by decide) rfl ?_
    refine mz_iconst (v := 0) F dX3_find_40 (by decide) ?_
    refine mz_istore (lv2 := [(4, .int (0 : Int32)), (3, .int x_8), (0, .ref (G.1 + this)), (1, .ref (G.1 + a1)), (2, .int a2)]) F dX3_find_41 hN (by decide) rfl ?_
    refine mz_sub [2, 3, 1, 0] rfl ?_
    obtain ⟨n9, h⟩ := h
    exact tX3_find_43 F hN n9 kthis ka1 h
  · replace h := h.2 c_9
    refine mz_iconst (v := 0) F dX3_find_20 (by decide) ?_
    exact mz_zret F dX3_find_21 rfl ⟨_, rfl, by decide, h⟩
set_option maxRecDepth 100000 in
theorem kX3_find (l : Launch) (G : mG) {u : mSt} {K : Int32 → mSt → Prop} {this : Nat} {a1 : Nat} {a2 : Int32} (kthis : mK u this = 4) (ka1 : mK u a1 = 5) (h : bX3_find this a1 a2 u K) : mCt l G yX3_find wsX3_find 3 71 [.ref (G.1 + this), .ref (G.1 + a1), .int a2] u (mPz K) := by
  refine mCt.of (cc := cX3_find) (maxL := 5) (ret := (some .boolean)) (by decide) rfl (Nat.le_of_ble_eq_true rfl) ?_
  intro X hl hN F
  exact tX3_find F hN kthis ka1 h
/-! RoomMapper$Sheet.follow(II)Z -/
theorem wiX4_follow_4 : ∀ w ∈ u_ws RX4 TX4 5, w ∈ wsX4_follow := by decide +kernel
theorem fX4_follow_38 : mFld wsX4_follow RX4 38 5 3 0 .int false := ⟨4, _, RX4, TX4, 5, tyX4, rfl, rfl, rfl, by decide, wiX4_follow_4, tyX4_ok, nmX4, rfl, rfl, Or.inl ⟨by decide +kernel, fun _ => rfl⟩⟩
def bX4_follow (this : Nat) (a1 : Int32) (a2 : Int32) (u : mSt) (K : Int32 → mSt → Prop) : Prop := ((a1 = (5 : Int32) → bX4_movePebble this u (fun u_10 => bX4_sightAt this (mI u_10 this 3) (0 : Int32) u_10 (fun r_13 u_12 => ((r_13 = a2 → K (1 : Int32) u_12) ∧ (¬ (r_13 = a2) → K (0 : Int32) u_12))))) ∧ (¬ (a1 = (5 : Int32)) → bX4_sightAfter this (mI u this 3) a1 u (fun r_3 u_2 => ((r_3 = a2 → bX4_placeAfter this (mI u_2 this 3) a1 u_2 (fun r_6 u_5 => (∀ u_7, u_7 = mpI u_5 this 3 r_6 → K (1 : Int32) u_7))) ∧ (¬ (r_3 = a2) → K (0 : Int32) u_2)))))
set_option maxRecDepth 100000 in
set_option maxHeartbeats 4000000 in
theorem tX4_follow {X : mCx} {G : mG} {u0 : mSt} {K : Int32 → mSt → Prop} (F : mFx X G cX4_follow wsX4_follow RX4 "follow" 3 67 (some .boolean) u0 (mPz K)) (hN : X.2.2.2.2.2.2.2.2.2.2.2.2.1 = 3) {this : Nat} {a1 : Int32} {a2 : Int32} {u : mSt} (kthis : mK u this = 5) (h : bX4_follow this a1 a2 u K) : mZ X u 0 [(0, .ref (G.1 + this)), (1, .int a1), (2, .int a2)] [] := by
  refine mz_iload_n F dX4_follow_0 rfl 1 rfl ?_
  refine mz_iconst (v := 5) F dX4_follow_1 (by decide) ?_
  refine mz_icmp_ne (tgt := 28) F dX4_follow_2 (by decide) (fun c_15 => ?_) (fun c_15 => ?_)
  · replace h := h.2 c_15
    refine mz_aload_n F dX4_follow_28 rfl 0 rfl ?_
    refine mz_aload_n F dX4_follow_29 rfl 0 rfl ?_
    refine mz_getI F dX4_follow_30 fX4_follow_38 kthis ?_
    refine mz_iload_n F dX4_follow_33 rfl 1 rfl ?_
    refine mz_callV (As := [_, _]) (n := 2) F dX4_follow_34 rfl kthis rfl rfl gX4_follow_X4_sightAfter (by decide +kernel) (by decide) rfl (Nat.le_of_ble_eq_true rfl) (kX4_sightAfter _ G kthis h) (mz_kI fun r_3 u_2 h hx_1 => ?_)
    replace kthis := hx_1.2.2 _ _ (by decide) kthis
    refine mz_iload_n F dX4_follow_37 rfl 2 rfl ?_
    refine mz_icmp_eq (tgt := 43) F dX4_follow_38 (by decide) (fun c_8 => ?_) (fun c_8 => ?_)
    · replace h := h.1 c_8
      refine mz_aload_n F dX4_follow_43 rfl 0 rfl ?_
      refine mz_aload_n F dX4_follow_44 rfl 0 rfl ?_
      refine mz_aload_n F dX4_follow_45 rfl 0 rfl ?_
      refine mz_getI F dX4_follow_46 fX4_follow_38 kthis ?_
      refine mz_iload_n F dX4_follow_49 rfl 1 rfl ?_
      refine mz_callV (As := [_, _]) (n := 2) F dX4_follow_50 rfl kthis rfl rfl gX4_follow_X4_placeAfter (by decide +kernel) (by decide) rfl (Nat.le_of_ble_eq_true rfl) (kX4_placeAfter _ G kthis h) (mz_kI fun r_6 u_5 h hx_4 => ?_)
      replace kthis := hx_4.2.2 _ _ (by decide) kthis
      refine mz_putI F dX4_follow_53 fX4_follow_38 kthis rfl rfl (fun u_7 eu_7 hxu_7 => ?_)
      replace h := h u_7 eu_7
      refine mz_iconst (v := 1) F dX4_follow_56 (by decide) ?_
      exact mz_zret F dX4_follow_57 rfl ⟨_, rfl, by decide, h⟩
    · replace h := h.2 c_8
      refine mz_iconst (v := 0) F dX4_follow_41 (by decide) ?_
      exact mz_zret F dX4_follow_42 rfl ⟨_, rfl, by decide, h⟩
  · replace h := h.1 c_15
    refine mz_aload_n F dX4_follow_5 rfl 0 rfl ?_
    refine mz_callV (As := []) (n := 0) F dX4_follow_6 rfl kthis rfl rfl gX4_follow_X4_movePebble (by decide +kernel) (by decide) rfl (Nat.le_of_ble_eq_true rfl) (kX4_movePebble _ G kthis h) (mz_kV fun u_10 h hx_9 => ?_)
    replace kthis := hx_9.2.2 _ _ (by decide) kthis
    refine mz_aload_n F dX4_follow_9 rfl 0 rfl ?_
    refine mz_aload_n F dX4_follow_10 rfl 0 rfl ?_
    refine mz_getI F dX4_follow_11 fX4_follow_38 kthis ?_
    refine mz_iconst (v := 0) F dX4_follow_14 (by decide) ?_
    refine mz_callV (As := [_, _]) (n := 2) F dX4_follow_15 rfl kthis rfl rfl gX4_follow_X4_sightAt (by decide +kernel) (by decide) rfl (Nat.le_of_ble_eq_true rfl) (kX4_sightAt _ G kthis h) (mz_kI fun r_13 u_12 h hx_11 => ?_)
    refine mz_iload_n F dX4_follow_18 rfl 2 rfl ?_
    refine mz_icmp_ne (tgt := 26) F dX4_follow_19 (by decide) (fun c_14 => ?_) (fun c_14 => ?_)
    · replace h := h.2 c_14
      refine mz_iconst (v := 0) F dX4_follow_26 (by decide) ?_
      exact mz_zret F dX4_follow_27 rfl ⟨_, rfl, by decide, h⟩
    · replace h := h.1 c_14
      refine mz_iconst (v := 1) F dX4_follow_22 (by decide) ?_
      refine mz_goto (tgt := 27) F dX4_follow_23 (by decide) ?_
      exact mz_zret F dX4_follow_27 rfl ⟨_, rfl, by decide, h⟩
set_option maxRecDepth 100000 in
theorem kX4_follow (l : Launch) (G : mG) {u : mSt} {K : Int32 → mSt → Prop} {this : Nat} {a1 : Int32} {a2 : Int32} (kthis : mK u this = 5) (h : bX4_follow this a1 a2 u K) : mCt l G yX4_follow wsX4_follow 3 67 [.ref (G.1 + this), .int a1, .int a2] u (mPz K) := by
  refine mCt.of (cc := cX4_follow) (maxL := 3) (ret := (some .boolean)) (by decide) rfl (Nat.le_of_ble_eq_true rfl) ?_
  intro X hl hN F
  exact tX4_follow F hN kthis h
/-! RoomMapper$Sheet.countKnown()I -/
theorem wiX4_countKnown_4 : ∀ w ∈ u_ws RX4 TX4 5, w ∈ wsX4_countKnown := by decide +kernel
theorem fX4_countKnown_28 : mFld wsX4_countKnown RX4 28 5 2 0 .int false := ⟨4, _, RX4, TX4, 5, tyX4, rfl, rfl, rfl, by decide, wiX4_countKnown_4, tyX4_ok, nmX4, rfl, rfl, Or.inl ⟨by decide +kernel, fun _ => rfl⟩⟩
theorem fX4_countKnown_15 : mFld wsX4_countKnown RX4 15 5 1 18 (.array .int) true := ⟨4, _, RX4, TX4, 5, tyX4, rfl, rfl, rfl, by decide, wiX4_countKnown_4, tyX4_ok, nmX4, rfl, rfl, Or.inl ⟨by decide +kernel, fun _ => rfl⟩⟩
def bX4_countKnown_28 (v0 : Nat) (v1 : Int32) (v2 : Int32) (u : mSt) (K : Int32 → mSt → Prop) (KL4 : Nat → Int32 → Int32 → mSt → Prop) : Prop := (∀ x_1, x_1 = v2 + (1 : Int32) → KL4 v0 v1 x_1 u)
set_option maxRecDepth 100000 in
set_option maxHeartbeats 4000000 in
theorem tX4_countKnown_28 {X : mCx} {G : mG} {u0 : mSt} {K : Int32 → mSt → Prop} {KL4 : Nat → Int32 → Int32 → mSt → Prop} (F : mFx X G cX4_countKnown wsX4_countKnown RX4 "countKnown" 0 0 (some .int) u0 (mPi K)) (hN : X.2.2.2.2.2.2.2.2.2.2.2.2.1 = 3) (hL4 : ∀ {v0 : Nat} {v1 : Int32} {v2 : Int32} {u : mSt}, mK u v0 = 5 → KL4 v0 v1 v2 u → mZ X u 4 [(0, .ref (G.1 + v0)), (1, .int v1), (2, .int v2)] []) {v0 : Nat} {v1 : Int32} {v2 : Int32} {u : mSt} (kv0 : mK u v0 = 5) (h : bX4_countKnown_28 v0 v1 v2 u K KL4) : mZ X u 28 [(0, .ref (G.1 + v0)), (1, .int v1), (2, .int v2)] [] := by
  obtain ⟨x_1, ex_1⟩ : ∃ y : Int32, y = v2 + (1 : Int32) := ⟨_, rfl⟩
  replace h := h x_1 ex_1
  refine mz_iinc (v := x_1) (lv2 := [(2, .int x_1), (0, .ref (G.1 + v0)), (1, .int v1)]) F dX4_countKnown_28 2 rfl (by rw [ex_1]; rfl) hN (by decide) rfl ?_
  refine mz_goto (tgt := 4) F dX4_countKnown_31 (by decide) ?_
  refine mz_sub [1, 2, 0] rfl ?_
  exact hL4 kv0 h
def bX4_countKnown_4 : Nat → Nat → Int32 → Int32 → mSt → (Int32 → mSt → Prop) → Prop
  | 0, _, _, _, _, _ => False
  | n + 1, v0, v1, v2, u, K => ((((mI u v0 2) * (5 : Int32)) ≤ v2 → K v1 u) ∧ (¬ (((mI u v0 2) * (5 : Int32)) ≤ v2) → (∃ q_1, mR u v0 1 = some q_1 ∧ (vp_in v2 30 ∧ (((mI u q_1 v2.toNatClampNeg) = (-3 : Int32) → bX4_countKnown_28 v0 v1 v2 u K (fun z0 z1 z2 z3 => bX4_countKnown_4 n z0 z1 z2 z3 K)) ∧ (¬ ((mI u q_1 v2.toNatClampNeg) = (-3 : Int32)) → (∀ x_3, x_3 = v1 + (1 : Int32) → bX4_countKnown_28 v0 x_3 v2 u K (fun z0 z1 z2 z3 => bX4_countKnown_4 n z0 z1 z2 z3 K))))))))
set_option maxRecDepth 100000 in
set_option maxHeartbeats 4000000 in
theorem tX4_countKnown_4 {X : mCx} {G : mG} {u0 : mSt} {K : Int32 → mSt → Prop} (F : mFx X G cX4_countKnown wsX4_countKnown RX4 "countKnown" 0 0 (some .int) u0 (mPi K)) (hN : X.2.2.2.2.2.2.2.2.2.2.2.2.1 = 3) : ∀ (n : Nat) {v0 : Nat} {v1 : Int32} {v2 : Int32} {u : mSt}, mK u v0 = 5 → bX4_countKnown_4 n v0 v1 v2 u K → mZ X u 4 [(0, .ref (G.1 + v0)), (1, .int v1), (2, .int v2)] [] := by
  intro n
  induction n with
  | zero => intro v0 v1 v2 u kv0 h; exact False.elim h
  | succ n ih =>
    intro v0 v1 v2 u kv0 h
    refine mz_iload_n F dX4_countKnown_4 rfl 2 rfl ?_
    refine mz_aload_n F dX4_countKnown_5 rfl 0 rfl ?_
    refine mz_getI F dX4_countKnown_6 fX4_countKnown_28 kv0 ?_
    refine mz_iconst (v := 5) F dX4_countKnown_9 (by decide) ?_
    refine mz_imul F dX4_countKnown_10 ?_
    refine mz_icmp_ge (tgt := 34) F dX4_countKnown_11 (by decide) (fun c_5 => ?_) (fun c_5 => ?_)
    · replace h := h.1 c_5
      refine mz_iload_n F dX4_countKnown_34 rfl 1 rfl ?_
      exact mz_iret F dX4_countKnown_35 ⟨_, rfl, h⟩
    · replace h := h.2 c_5
      refine mz_aload_n F dX4_countKnown_14 rfl 0 rfl ?_
      obtain ⟨q_1, eq_1, h⟩ := h
      refine mz_getR F dX4_countKnown_15 fX4_countKnown_15 (by decide) kv0 eq_1 (fun kq_1 => ?_)
      refine mz_iload_n F dX4_countKnown_18 rfl 2 rfl ?_
      obtain ⟨b_2, h⟩ := h
      refine mz_iald F dX4_countKnown_19 kq_1 rfl b_2 ?_
      refine mz_bipush (v := (-3)) F dX4_countKnown_20 (by decide) ?_
      refine mz_icmp_eq (tgt := 28) F dX4_countKnown_22 (by decide) (fun c_4 => ?_) (fun c_4 => ?_)
      · replace h := h.1 c_4
        refine mz_sub [0, 1, 2] rfl ?_
        exact tX4_countKnown_28 F hN (fun k0 h => ih k0 h) kv0 h
      · replace h := h.2 c_4
        obtain ⟨x_3, ex_3⟩ : ∃ y : Int32, y = v1 + (1 : Int32) := ⟨_, rfl⟩
        replace h := h x_3 ex_3
        refine mz_iinc (v := x_3) (lv2 := [(1, .int x_3), (0, .ref (G.1 + v0)), (2, .int v2)]) F dX4_countKnown_25 1 rfl (by rw [ex_3]; rfl) hN (by decide) rfl ?_
        refine mz_sub [1, 0, 2] rfl ?_
        exact tX4_countKnown_28 F hN (fun k0 h => ih k0 h) kv0 h
def bX4_countKnown (this : Nat) (u : mSt) (K : Int32 → mSt → Prop) : Prop := (∃ n9, bX4_countKnown_4 n9 this (0 : Int32) (0 : Int32) u K)
set_option maxRecDepth 100000 in
set_option maxHeartbeats 4000000 in
theorem tX4_countKnown {X : mCx} {G : mG} {u0 : mSt} {K : Int32 → mSt → Prop} (F : mFx X G cX4_countKnown wsX4_countKnown RX4 "countKnown" 0 0 (some .int) u0 (mPi K)) (hN : X.2.2.2.2.2.2.2.2.2.2.2.2.1 = 3) {this : Nat} {u : mSt} (kthis : mK u this = 5) (h : bX4_countKnown this u K) : mZ X u 0 [(0, .ref (G.1 + this))] [] := by
  refine mz_iconst (v := 0) F dX4_countKnown_0 (by decide) ?_
  refine mz_istore_n (lv2 := [(1, .int (0 : Int32)), (0, .ref (G.1 + this))]) F dX4_countKnown_1 rfl hN (by decide) rfl ?_
  refine mz_iconst (v := 0) F dX4_countKnown_2 (by decide) ?_
  refine mz_istore_n (lv2 := [(2, .int (0 : Int32)), (1, .int (0 : Int32)), (0, .ref (G.1 + this))]) F dX4_countKnown_3 rfl hN (by decide) rfl ?_
  refine mz_sub [2, 1, 0] rfl ?_
  obtain ⟨n9, h⟩ := h
  exact tX4_countKnown_4 F hN n9 kthis h
set_option maxRecDepth 100000 in
theorem kX4_countKnown (l : Launch) (G : mG) {u : mSt} {K : Int32 → mSt → Prop} {this : Nat} (kthis : mK u this = 5) (h : bX4_countKnown this u K) : mCt l G yX4_countKnown wsX4_countKnown 0 0 [.ref (G.1 + this)] u (mPi K) := by
  refine mCt.of (cc := cX4_countKnown) (maxL := 3) (ret := (some .int)) (by decide) rfl (Nat.le_of_ble_eq_true rfl) ?_
  intro X hl hN F
  exact tX4_countKnown F hN kthis h
/-! RoomMapper$Shelf.<init>()V -/
theorem mX5_init_ol3 : Cond.methodLink RX5 3 objectInit ∈ wsX5_init := by decide +kernel
theorem mX5_init_oi : Cond.instanceMethod objectInit ∈ wsX5_init := by decide +kernel
theorem mX5_init_oc : Cond.code objectInit ⟨#[0xb1]⟩ 1 none ∈ wsX5_init := by decide +kernel
theorem mX5_init_fl9 : Cond.fieldLink RX5 9 "RoomMapper$Shelf" "row" "[J" ∈ wsX5_init := by decide +kernel
theorem wiX5_init_5 : ∀ w ∈ u_ws RX5 TX5 5, w ∈ wsX5_init := by decide +kernel
theorem fX5_init_15 : mFld wsX5_init RX5 15 6 1 0 .int false := ⟨5, _, RX5, TX5, 5, tyX5, rfl, rfl, rfl, by decide, wiX5_init_5, tyX5_ok, nmX5, rfl, rfl, Or.inl ⟨by decide +kernel, fun _ => rfl⟩⟩
theorem mX5_init_acJ : Cond.arrayClass .long ∈ wsX5_init := by decide +kernel
def bX5_init (this : Nat) (u : mSt) (K : mSt → Prop) : Prop := ((mN u + 1 ≤ mCapC ∧ mT u + 60 ≤ mCapS) ∧ ∀ p_4 u_2, p_4 = mN u → u_2 = mnw u 19 60 → (∀ u_5, u_5 = mpR u_2 this 0 (some p_4) → (∀ u_6, u_6 = mpI u_5 this 1 (0 : Int32) → K u_6)))
set_option maxRecDepth 100000 in
set_option maxHeartbeats 4000000 in
theorem tX5_init {X : mCx} {G : mG} {u0 : mSt} {K : mSt → Prop} (F : mFx X G cX5_init wsX5_init RX5 "<init>" 1 20 none u0 (mPv K)) (hN : X.2.2.2.2.2.2.2.2.2.2.2.2.1 = 1) {this : Nat} {u : mSt} (kthis : mK u this = 6) (h : bX5_init this u K) : mZ X u 0 [(0, .ref (G.1 + this))] [] := by
  refine mz_aload_n F dX5_init_0 rfl 0 rfl ?_
  refine mz_objInit F dX5_init_1 mX5_init_ol3 mX5_init_oi mX5_init_oc (by decide) (Nat.le_of_ble_eq_true rfl) ?_
  refine mz_aload_n F dX5_init_4 rfl 0 rfl ?_
  refine mz_bipush (v := 60) F dX5_init_5 (by decide) ?_
  obtain ⟨b_1, h⟩ := h
  refine mz_newaJ (c := 19) F dX5_init_7 mX5_init_acJ rfl (by decide) b_1 (fun p_4 u_2 ep_4 eu_2 hx_3 kp_4 => ?_)
  replace h := h p_4 u_2 ep_4 eu_2
  replace kthis := hx_3.2.2 _ _ (by decide) kthis
  refine mz_putRF (k := 0) (tys := tyX5) F dX5_init_9 rfl rfl rfl rfl (by decide) wiX5_init_5 tyX5_ok nmX5 rfl rfl rfl mX5_init_fl9 (by decide) kthis kp_4 (fun u_5 eu_5 hxu_5 => ?_)
  replace h := h u_5 eu_5
  replace kthis := hxu_5.2.2 _ _ (by decide) kthis
  refine mz_aload_n F dX5_init_12 rfl 0 rfl ?_
  refine mz_iconst (v := 0) F dX5_init_13 (by decide) ?_
  refine mz_putI F dX5_init_14 fX5_init_15 kthis rfl rfl (fun u_6 eu_6 hxu_6 => ?_)
  replace h := h u_6 eu_6
  exact mz_vret F dX5_init_17 ⟨rfl, h⟩
set_option maxRecDepth 100000 in
theorem kX5_init (l : Launch) (G : mG) {u : mSt} {K : mSt → Prop} {this : Nat} (kthis : mK u this = 6) (h : bX5_init this u K) : mCt l G yX5_init wsX5_init 1 20 [.ref (G.1 + this)] u (mPv K) := by
  refine mCt.of (cc := cX5_init) (maxL := 1) (ret := none) (by decide) rfl (Nat.le_of_ble_eq_true rfl) ?_
  intro X hl hN F
  exact tX5_init F hN kthis h
/-! RoomMapper$Shelf.holdLead(II)V -/
theorem wiX5_holdLead_5 : ∀ w ∈ u_ws RX5 TX5 5, w ∈ wsX5_holdLead := by decide +kernel
theorem fX5_holdLead_15 : mFld wsX5_holdLead RX5 15 6 1 0 .int false := ⟨5, _, RX5, TX5, 5, tyX5, rfl, rfl, rfl, by decide, wiX5_holdLead_5, tyX5_ok, nmX5, rfl, rfl, Or.inl ⟨by decide +kernel, fun _ => rfl⟩⟩
theorem fX5_holdLead_19 : mFld wsX5_holdLead RX5 19 6 2 0 .int false := ⟨5, _, RX5, TX5, 5, tyX5, rfl, rfl, rfl, by decide, wiX5_holdLead_5, tyX5_ok, nmX5, rfl, rfl, Or.inl ⟨by decide +kernel, fun _ => rfl⟩⟩
theorem fX5_holdLead_22 : mFld wsX5_holdLead RX5 22 6 3 0 .int false := ⟨5, _, RX5, TX5, 5, tyX5, rfl, rfl, rfl, by decide, wiX5_holdLead_5, tyX5_ok, nmX5, rfl, rfl, Or.inl ⟨by decide +kernel, fun _ => rfl⟩⟩
def bX5_holdLead (this : Nat) (a1 : Int32) (a2 : Int32) (u : mSt) (K : mSt → Prop) : Prop := (∀ u_1, u_1 = mpI u this 1 (1 : Int32) → (∀ u_2, u_2 = mpI u_1 this 2 a1 → (∀ u_3, u_3 = mpI u_2 this 3 a2 → K u_3)))
set_option maxRecDepth 100000 in
set_option maxHeartbeats 4000000 in
theorem tX5_holdLead {X : mCx} {G : mG} {u0 : mSt} {K : mSt → Prop} (F : mFx X G cX5_holdLead wsX5_holdLead RX5 "holdLead" 0 0 none u0 (mPv K)) (hN : X.2.2.2.2.2.2.2.2.2.2.2.2.1 = 3) {this : Nat} {a1 : Int32} {a2 : Int32} {u : mSt} (kthis : mK u this = 6) (h : bX5_holdLead this a1 a2 u K) : mZ X u 0 [(0, .ref (G.1 + this)), (1, .int a1), (2, .int a2)] [] := by
  refine mz_aload_n F dX5_holdLead_0 rfl 0 rfl ?_
  refine mz_iconst (v := 1) F dX5_holdLead_1 (by decide) ?_
  refine mz_putI F dX5_holdLead_2 fX5_holdLead_15 kthis rfl rfl (fun u_1 eu_1 hxu_1 => ?_)
  replace h := h u_1 eu_1
  replace kthis := hxu_1.2.2 _ _ (by decide) kthis
  refine mz_aload_n F dX5_holdLead_5 rfl 0 rfl ?_
  refine mz_iload_n F dX5_holdLead_6 rfl 1 rfl ?_
  refine mz_putI F dX5_holdLead_7 fX5_holdLead_19 kthis rfl rfl (fun u_2 eu_2 hxu_2 => ?_)
  replace h := h u_2 eu_2
  replace kthis := hxu_2.2.2 _ _ (by decide) kthis
  refine mz_aload_n F dX5_holdLead_10 rfl 0 rfl ?_
  refine mz_iload_n F dX5_holdLead_11 rfl 2 rfl ?_
  refine mz_putI F dX5_holdLead_12 fX5_holdLead_22 kthis rfl rfl (fun u_3 eu_3 hxu_3 => ?_)
  replace h := h u_3 eu_3
  exact mz_vret F dX5_holdLead_15 ⟨rfl, h⟩
set_option maxRecDepth 100000 in
theorem kX5_holdLead (l : Launch) (G : mG) {u : mSt} {K : mSt → Prop} {this : Nat} {a1 : Int32} {a2 : Int32} (kthis : mK u this = 6) (h : bX5_holdLead this a1 a2 u K) : mCt l G yX5_holdLead wsX5_holdLead 0 0 [.ref (G.1 + this), .int a1, .int a2] u (mPv K) := by
  refine mCt.of (cc := cX5_holdLead) (maxL := 3) (ret := none) (by decide) rfl (Nat.le_of_ble_eq_true rfl) ?_
  intro X hl hN F
  exact tX5_holdLead F hN kthis h
/-! RoomMapper$Shelf.holdRow(II)V -/
theorem wiX5_holdRow_5 : ∀ w ∈ u_ws RX5 TX5 5, w ∈ wsX5_holdRow := by decide +kernel
theorem fX5_holdRow_15 : mFld wsX5_holdRow RX5 15 6 1 0 .int false := ⟨5, _, RX5, TX5, 5, tyX5, rfl, rfl, rfl, by decide, wiX5_holdRow_5, tyX5_ok, nmX5, rfl, rfl, Or.inl ⟨by decide +kernel, fun _ => rfl⟩⟩
theorem fX5_holdRow_25 : mFld wsX5_holdRow RX5 25 6 4 0 .int false := ⟨5, _, RX5, TX5, 5, tyX5, rfl, rfl, rfl, by decide, wiX5_holdRow_5, tyX5_ok, nmX5, rfl, rfl, Or.inl ⟨by decide +kernel, fun _ => rfl⟩⟩
theorem fX5_holdRow_9 : mFld wsX5_holdRow RX5 9 6 0 19 (.array .long) true := ⟨5, _, RX5, TX5, 5, tyX5, rfl, rfl, rfl, by decide, wiX5_holdRow_5, tyX5_ok, nmX5, rfl, rfl, Or.inl ⟨by decide +kernel, fun _ => rfl⟩⟩
def bX5_holdRow (this : Nat) (a1 : Int32) (a2 : Int32) (u : mSt) (K : mSt → Prop) : Prop := (∀ u_1, u_1 = mpI u this 1 a1 → (∀ u_2, u_2 = mpI u_1 this 4 a2 → (∃ q_3, mR u_2 this 0 = some q_3 ∧ bJ7_fill_d0a16 q_3 60 (0 : Int64) u_2 (fun u_5 => K u_5))))
set_option maxRecDepth 100000 in
set_option maxHeartbeats 4000000 in
theorem tX5_holdRow {X : mCx} {G : mG} {u0 : mSt} {K : mSt → Prop} (F : mFx X G cX5_holdRow wsX5_holdRow RX5 "holdRow" 1 24 none u0 (mPv K)) (hN : X.2.2.2.2.2.2.2.2.2.2.2.2.1 = 3) {this : Nat} {a1 : Int32} {a2 : Int32} {u : mSt} (kthis : mK u this = 6) (h : bX5_holdRow this a1 a2 u K) : mZ X u 0 [(0, .ref (G.1 + this)), (1, .int a1), (2, .int a2)] [] := by
  refine mz_aload_n F dX5_holdRow_0 rfl 0 rfl ?_
  refine mz_iload_n F dX5_holdRow_1 rfl 1 rfl ?_
  refine mz_putI F dX5_holdRow_2 fX5_holdRow_15 kthis rfl rfl (fun u_1 eu_1 hxu_1 => ?_)
  replace h := h u_1 eu_1
  replace kthis := hxu_1.2.2 _ _ (by decide) kthis
  refine mz_aload_n F dX5_holdRow_5 rfl 0 rfl ?_
  refine mz_iload_n F dX5_holdRow_6 rfl 2 rfl ?_
  refine mz_putI F dX5_holdRow_7 fX5_holdRow_25 kthis rfl rfl (fun u_2 eu_2 hxu_2 => ?_)
  replace h := h u_2 eu_2
  replace kthis := hxu_2.2.2 _ _ (by decide) kthis
  refine mz_aload_n F dX5_holdRow_10 rfl 0 rfl ?_
  obtain ⟨q_3, eq_3, h⟩ := h
  refine mz_getR F dX5_holdRow_11 fX5_holdRow_9 (by decide) kthis eq_3 (fun kq_3 => ?_)
  refine mz_lconst (v := 0) F dX5_holdRow_14 (by decide) ?_
  refine mz_callS (As := [_, _]) (n := 2) F dX5_holdRow_15 rfl gX5_holdRow_J7_fill_d0a16 (by decide +kernel) (by decide) rfl (Nat.le_of_ble_eq_true rfl) (kJ7_fill_d0a16 _ G kq_3 rfl h) (mz_kV fun u_5 h hx_4 => ?_)
  exact mz_vret F dX5_holdRow_18 ⟨rfl, h⟩
set_option maxRecDepth 100000 in
theorem kX5_holdRow (l : Launch) (G : mG) {u : mSt} {K : mSt → Prop} {this : Nat} {a1 : Int32} {a2 : Int32} (kthis : mK u this = 6) (h : bX5_holdRow this a1 a2 u K) : mCt l G yX5_holdRow wsX5_holdRow 1 24 [.ref (G.1 + this), .int a1, .int a2] u (mPv K) := by
  refine mCt.of (cc := cX5_holdRow) (maxL := 3) (ret := none) (by decide) rfl (Nat.le_of_ble_eq_true rfl) ?_
  intro X hl hN F
  exact tX5_holdRow F hN kthis h
