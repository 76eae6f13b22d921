/-! RoomMapperModel.step(I)V -/
theorem wiX9_step_9 : ∀ w ∈ u_ws RX9 TX9 52, w ∈ wsX9_step := by decide +kernel
theorem fX9_step_138 : mFld wsX9_step RX9 138 10 36 0 .boolean false := ⟨9, _, RX9, TX9, 52, tyX9, rfl, rfl, rfl, by decide, wiX9_step_9, tyX9_ok, nmX9, rfl, rfl, Or.inl ⟨by decide +kernel, fun _ => rfl⟩⟩
theorem fX9_step_134 : mFld wsX9_step RX9 134 10 37 0 .boolean false := ⟨9, _, RX9, TX9, 52, tyX9, rfl, rfl, rfl, by decide, wiX9_step_9, tyX9_ok, nmX9, rfl, rfl, Or.inl ⟨by decide +kernel, fun _ => rfl⟩⟩
theorem fX9_step_141 : mFld wsX9_step RX9 141 10 35 0 .int false := ⟨9, _, RX9, TX9, 52, tyX9, rfl, rfl, rfl, by decide, wiX9_step_9, tyX9_ok, nmX9, rfl, rfl, Or.inl ⟨by decide +kernel, fun _ => rfl⟩⟩
theorem fX9_step_20 : mFld wsX9_step RX9 20 10 5 14 (.array .int) true := ⟨9, _, RX9, TX9, 52, tyX9, rfl, rfl, rfl, by decide, wiX9_step_9, tyX9_ok, nmX9, rfl, rfl, Or.inl ⟨by decide +kernel, fun _ => rfl⟩⟩
theorem fX9_step_131 : mFld wsX9_step RX9 131 10 34 0 .int false := ⟨9, _, RX9, TX9, 52, tyX9, rfl, rfl, rfl, by decide, wiX9_step_9, tyX9_ok, nmX9, rfl, rfl, Or.inl ⟨by decide +kernel, fun _ => rfl⟩⟩
theorem fX9_step_17 : mFld wsX9_step RX9 17 10 4 14 (.array .int) true := ⟨9, _, RX9, TX9, 52, tyX9, rfl, rfl, rfl, by decide, wiX9_step_9, tyX9_ok, nmX9, rfl, rfl, Or.inl ⟨by decide +kernel, fun _ => rfl⟩⟩
theorem fX9_step_13 : mFld wsX9_step RX9 13 10 3 13 (.array .boolean) true := ⟨9, _, RX9, TX9, 52, tyX9, rfl, rfl, rfl, by decide, wiX9_step_9, tyX9_ok, nmX9, rfl, rfl, Or.inl ⟨by decide +kernel, fun _ => rfl⟩⟩
def bX9_step_32 (w0 : Nat) (w1 : Int32) (u : mSt) (K : mSt → Prop) : Prop := ((w1 = 0 ∨ w1 = 1) ∧ (∀ u_1, u_1 = mpI u w0 36 w1 → K u_1))
set_option maxRecDepth 100000 in
set_option maxHeartbeats 4000000 in
theorem tX9_step_32 {X : mCx} {G : mG} {u0 : mSt} {K : mSt → Prop} (F : mFx X G cX9_step wsX9_step RX9 "step" 1 22 none u0 (mPv K)) (hN : X.2.2.2.2.2.2.2.2.2.2.2.2.1 = 4) {w0 : Nat} {w1 : Int32} {u : mSt} (kw0 : mK u w0 = 10) (h : bX9_step_32 w0 w1 u K) : mZ X u 32 [] [.int w1, .ref (G.1 + w0)] := by
  obtain ⟨b_2, h⟩ := h
  refine mz_putI F dX9_step_32 fX9_step_138 kw0 (mbn b_2) (mbf b_2) (fun u_1 eu_1 hxu_1 => ?_)
  replace h := h u_1 eu_1
  exact mz_vret F dX9_step_35 ⟨rfl, h⟩
def bX9_step_80 (v0 : Nat) (u : mSt) (K : mSt → Prop) : Prop := (∀ u_1, u_1 = mpI u v0 37 (1 : Int32) → K u_1)
set_option maxRecDepth 100000 in
set_option maxHeartbeats 4000000 in
theorem tX9_step_80 {X : mCx} {G : mG} {u0 : mSt} {K : mSt → Prop} (F : mFx X G cX9_step wsX9_step RX9 "step" 1 22 none u0 (mPv K)) (hN : X.2.2.2.2.2.2.2.2.2.2.2.2.1 = 4) {v0 : Nat} {u : mSt} (kv0 : mK u v0 = 10) (h : bX9_step_80 v0 u K) : mZ X u 80 [(0, .ref (G.1 + v0))] [] := by
  refine mz_aload_n F dX9_step_80 rfl 0 rfl ?_
  refine mz_iconst (v := 1) F dX9_step_81 (by decide) ?_
  refine mz_putI F dX9_step_82 fX9_step_134 kv0 rfl rfl (fun u_1 eu_1 hxu_1 => ?_)
  replace h := h u_1 eu_1
  exact mz_vret F dX9_step_85 ⟨rfl, h⟩
def bX9_step_155 (w0 : Nat) (w1 : Int32) (u : mSt) (K : mSt → Prop) : Prop := ((w1 = 0 ∨ w1 = 1) ∧ (∀ u_1, u_1 = mpI u w0 36 w1 → K u_1))
set_option maxRecDepth 100000 in
set_option maxHeartbeats 4000000 in
theorem tX9_step_155 {X : mCx} {G : mG} {u0 : mSt} {K : mSt → Prop} (F : mFx X G cX9_step wsX9_step RX9 "step" 1 22 none u0 (mPv K)) (hN : X.2.2.2.2.2.2.2.2.2.2.2.2.1 = 4) {w0 : Nat} {w1 : Int32} {u : mSt} (kw0 : mK u w0 = 10) (h : bX9_step_155 w0 w1 u K) : mZ X u 155 [] [.int w1, .ref (G.1 + w0)] := by
  obtain ⟨b_2, h⟩ := h
  refine mz_putI F dX9_step_155 fX9_step_138 kw0 (mbn b_2) (mbf b_2) (fun u_1 eu_1 hxu_1 => ?_)
  replace h := h u_1 eu_1
  exact mz_vret F dX9_step_158 ⟨rfl, h⟩
def bX9_step_154 (w0 : Nat) (u : mSt) (K : mSt → Prop) : Prop := bX9_step_155 w0 (0 : Int32) u K
set_option maxRecDepth 100000 in
set_option maxHeartbeats 4000000 in
theorem tX9_step_154 {X : mCx} {G : mG} {u0 : mSt} {K : mSt → Prop} (F : mFx X G cX9_step wsX9_step RX9 "step" 1 22 none u0 (mPv K)) (hN : X.2.2.2.2.2.2.2.2.2.2.2.2.1 = 4) {w0 : Nat} {u : mSt} (kw0 : mK u w0 = 10) (h : bX9_step_154 w0 u K) : mZ X u 154 [] [.ref (G.1 + w0)] := by
  refine mz_iconst (v := 0) F dX9_step_154 (by decide) ?_
  refine mz_sub [] rfl ?_
  exact tX9_step_155 F hN kw0 h
def bX9_step_134 (v0 : Nat) (v3 : Int32) (w0 : Nat) (w1 : Int32) (u : mSt) (K : mSt → Prop) : Prop := (∀ u_1, u_1 = mpI u w0 35 w1 → (((mI u_1 v0 36) = 0 → bX9_step_154 v0 u_1 K) ∧ (¬ ((mI u_1 v0 36) = 0) → ((v3 = (5 : Int32) → bX9_step_154 v0 u_1 K) ∧ (¬ (v3 = (5 : Int32)) → bX9_step_155 v0 (1 : Int32) u_1 K)))))
set_option maxRecDepth 100000 in
set_option maxHeartbeats 4000000 in
theorem tX9_step_134 {X : mCx} {G : mG} {u0 : mSt} {K : mSt → Prop} (F : mFx X G cX9_step wsX9_step RX9 "step" 1 22 none u0 (mPv K)) (hN : X.2.2.2.2.2.2.2.2.2.2.2.2.1 = 4) {v0 : Nat} {v3 : Int32} {w0 : Nat} {w1 : Int32} {u : mSt} (kv0 : mK u v0 = 10) (kw0 : mK u w0 = 10) (h : bX9_step_134 v0 v3 w0 w1 u K) : mZ X u 134 [(0, .ref (G.1 + v0)), (3, .int v3)] [.int w1, .ref (G.1 + w0)] := by
  refine mz_putI F dX9_step_134 fX9_step_141 kw0 rfl rfl (fun u_1 eu_1 hxu_1 => ?_)
  replace h := h u_1 eu_1
  replace kv0 := hxu_1.2.2 _ _ (by decide) kv0
  refine mz_aload_n F dX9_step_137 rfl 0 rfl ?_
  refine mz_aload_n F dX9_step_138 rfl 0 rfl ?_
  refine mz_getI F dX9_step_139 fX9_step_138 kv0 ?_
  refine mz_if_eq (tgt := 154) F dX9_step_142 (by decide) (fun c_3 => ?_) (fun c_3 => ?_)
  · replace h := h.1 c_3
    refine mz_sub [] rfl ?_
    exact tX9_step_154 F hN kv0 h
  · replace h := h.2 c_3
    refine mz_iload_n F dX9_step_145 rfl 1 rfl ?_
    refine mz_iconst (v := 5) F dX9_step_146 (by decide) ?_
    refine mz_icmp_eq (tgt := 154) F dX9_step_147 (by decide) (fun c_2 => ?_) (fun c_2 => ?_)
    · replace h := h.1 c_2
      refine mz_sub [] rfl ?_
      exact tX9_step_154 F hN kv0 h
    · replace h := h.2 c_2
      refine mz_iconst (v := 1) F dX9_step_150 (by decide) ?_
      refine mz_goto (tgt := 155) F dX9_step_151 (by decide) ?_
      refine mz_sub [] rfl ?_
      exact tX9_step_155 F hN kv0 h
def bX9_step_113 (v0 : Nat) (v3 : Int32) (u : mSt) (K : mSt → Prop) : Prop := ((v3 = (4 : Int32) → bX9_step_134 v0 v3 v0 (((mI u v0 35) + (1 : Int32)) - ((mI u v0 35) + (1 : Int32)) / (4 : Int32) * (4 : Int32)) u K) ∧ (¬ (v3 = (4 : Int32)) → bX9_step_134 v0 v3 v0 (mI u v0 35) u K))
set_option maxRecDepth 100000 in
set_option maxHeartbeats 4000000 in
theorem tX9_step_113 {X : mCx} {G : mG} {u0 : mSt} {K : mSt → Prop} (F : mFx X G cX9_step wsX9_step RX9 "step" 1 22 none u0 (mPv K)) (hN : X.2.2.2.2.2.2.2.2.2.2.2.2.1 = 4) {v0 : Nat} {v3 : Int32} {u : mSt} (kv0 : mK u v0 = 10) (h : bX9_step_113 v0 v3 u K) : mZ X u 113 [(0, .ref (G.1 + v0)), (3, .int v3)] [] := by
  refine mz_aload_n F dX9_step_113 rfl 0 rfl ?_
  refine mz_iload_n F dX9_step_114 rfl 1 rfl ?_
  refine mz_iconst (v := 4) F dX9_step_115 (by decide) ?_
  refine mz_icmp_ne (tgt := 130) F dX9_step_116 (by decide) (fun c_1 => ?_) (fun c_1 => ?_)
  · replace h := h.2 c_1
    refine mz_aload_n F dX9_step_130 rfl 0 rfl ?_
    refine mz_getI F dX9_step_131 fX9_step_141 kv0 ?_
    refine mz_sub [0, 1] rfl ?_
    exact tX9_step_134 F hN kv0 kv0 h
  · replace h := h.1 c_1
    refine mz_aload_n F dX9_step_119 rfl 0 rfl ?_
    refine mz_getI F dX9_step_120 fX9_step_141 kv0 ?_
    refine mz_iconst (v := 1) F dX9_step_123 (by decide) ?_
    refine mz_iadd F dX9_step_124 ?_
    refine mz_iconst (v := 4) F dX9_step_125 (by decide) ?_
    refine mz_irem F dX9_step_126 (by decide) ?_
    refine mz_goto (tgt := 134) F dX9_step_127 (by decide) ?_
    refine mz_sub [0, 1] rfl ?_
    exact tX9_step_134 F hN kv0 kv0 h
def bX9_step_86 (v0 : Nat) (v2 : Int32) (v3 : Int32) (u : mSt) (K : mSt → Prop) : Prop := (∃ q_1, mR u v0 5 = some q_1 ∧ (vp_in (((4 : Int32) * (mI u v0 34)) + v2) 40 ∧ (∀ u_3, u_3 = mpI u v0 34 (mI u q_1 (((4 : Int32) * (mI u v0 34)) + v2).toNatClampNeg) → ((v3 = (3 : Int32) → bX9_slide v0 v2 u_3 (fun u_5 => bX9_step_113 v0 v3 u_5 K)) ∧ (¬ (v3 = (3 : Int32)) → bX9_step_113 v0 v3 u_3 K)))))
set_option maxRecDepth 100000 in
set_option maxHeartbeats 4000000 in
theorem tX9_step_86 {X : mCx} {G : mG} {u0 : mSt} {K : mSt → Prop} (F : mFx X G cX9_step wsX9_step RX9 "step" 1 22 none u0 (mPv K)) (hN : X.2.2.2.2.2.2.2.2.2.2.2.2.1 = 4) {v0 : Nat} {v2 : Int32} {v3 : Int32} {u : mSt} (kv0 : mK u v0 = 10) (h : bX9_step_86 v0 v2 v3 u K) : mZ X u 86 [(0, .ref (G.1 + v0)), (2, .int v2), (3, .int v3)] [] := by
  refine mz_aload_n F dX9_step_86 rfl 0 rfl ?_
  refine mz_aload_n F dX9_step_87 rfl 0 rfl ?_
  obtain ⟨q_1, eq_1, h⟩ := h
  refine mz_getR F dX9_step_88 fX9_step_20 (by decide) kv0 eq_1 (fun kq_1 => ?_)
  refine mz_iconst (v := 4) F dX9_step_91 (by decide) ?_
  refine mz_aload_n F dX9_step_92 rfl 0 rfl ?_
  refine mz_getI F dX9_step_93 fX9_step_131 kv0 ?_
  refine mz_imul F dX9_step_96 ?_
  refine mz_iload_n F dX9_step_97 rfl 1 rfl ?_
  refine mz_iadd F dX9_step_98 ?_
  obtain ⟨b_2, h⟩ := h
  refine mz_iald F dX9_step_99 kq_1 rfl b_2 ?_
  refine mz_putI F dX9_step_100 fX9_step_131 kv0 rfl rfl (fun u_3 eu_3 hxu_3 => ?_)
  replace h := h u_3 eu_3
  replace kv0 := hxu_3.2.2 _ _ (by decide) kv0
  refine mz_iload_n F dX9_step_103 rfl 2 rfl ?_
  refine mz_iconst (v := 3) F dX9_step_104 (by decide) ?_
  refine mz_icmp_ne (tgt := 113) F dX9_step_105 (by decide) (fun c_6 => ?_) (fun c_6 => ?_)
  · replace h := h.2 c_6
    refine mz_sub [0, 2] rfl ?_
    exact tX9_step_113 F hN kv0 h
  · replace h := h.1 c_6
    refine mz_aload_n F dX9_step_108 rfl 0 rfl ?_
    refine mz_iload_n F dX9_step_109 rfl 1 rfl ?_
    refine mz_callV (As := [_]) (n := 1) F dX9_step_110 rfl kv0 rfl rfl gX9_step_X9_slide (by decide +kernel) (by decide) rfl (Nat.le_of_ble_eq_true rfl) (kX9_slide _ G kv0 h) (mz_kV fun u_5 h hx_4 => ?_)
    replace kv0 := hx_4.2.2 _ _ (by decide) kv0
    refine mz_sub [0, 2] rfl ?_
    exact tX9_step_113 F hN kv0 h
def bX9_step_73 (v0 : Nat) (v2 : Int32) (v3 : Int32) (u : mSt) (K : mSt → Prop) : Prop := (((mI u v0 36) = 0 → bX9_step_80 v0 u K) ∧ (¬ ((mI u v0 36) = 0) → bX9_step_86 v0 v2 v3 u K))
set_option maxRecDepth 100000 in
set_option maxHeartbeats 4000000 in
theorem tX9_step_73 {X : mCx} {G : mG} {u0 : mSt} {K : mSt → Prop} (F : mFx X G cX9_step wsX9_step RX9 "step" 1 22 none u0 (mPv K)) (hN : X.2.2.2.2.2.2.2.2.2.2.2.2.1 = 4) {v0 : Nat} {v2 : Int32} {v3 : Int32} {u : mSt} (kv0 : mK u v0 = 10) (h : bX9_step_73 v0 v2 v3 u K) : mZ X u 73 [(0, .ref (G.1 + v0)), (2, .int v2), (3, .int v3)] [] := by
  refine mz_aload_n F dX9_step_73 rfl 0 rfl ?_
  refine mz_getI F dX9_step_74 fX9_step_138 kv0 ?_
  refine mz_if_ne (tgt := 86) F dX9_step_77 (by decide) (fun c_1 => ?_) (fun c_1 => ?_)
  · replace h := h.2 c_1
    refine mz_sub [0, 1, 2] rfl ?_
    exact tX9_step_86 F hN kv0 h
  · replace h := h.1 c_1
    refine mz_sub [0] rfl ?_
    exact tX9_step_80 F hN kv0 h
def bX9_step (this : Nat) (a1 : Int32) (u : mSt) (K : mSt → Prop) : Prop := (∀ u_1, u_1 = mpI u this 37 (0 : Int32) → ((a1 = (4 : Int32) → (∃ q_9, mR u_1 this 3 = some q_9 ∧ (vp_in (mI u_1 this 34) 10 ∧ (((mI u_1 this 36) = (mI u_1 q_9 (mI u_1 this 34).toNatClampNeg) → bX9_step_32 this (0 : Int32) u_1 K) ∧ (¬ ((mI u_1 this 36) = (mI u_1 q_9 (mI u_1 this 34).toNatClampNeg)) → bX9_step_32 this (1 : Int32) u_1 K))))) ∧ (¬ (a1 = (4 : Int32)) → (∀ x_2, x_2 = ((a1 + (mI u_1 this 35)) - (a1 + (mI u_1 this 35)) / (4 : Int32) * (4 : Int32)) → (∃ q_3, mR u_1 this 4 = some q_3 ∧ (vp_in (((4 : Int32) * (mI u_1 this 34)) + x_2) 40 ∧ (∀ x_5, x_5 = (mI u_1 q_3 (((4 : Int32) * (mI u_1 this 34)) + x_2).toNatClampNeg) → ((x_5 = 0 → bX9_step_80 this u_1 K) ∧ (¬ (x_5 = 0) → ((x_5 = (2 : Int32) → bX9_step_73 this x_2 x_5 u_1 K) ∧ (¬ (x_5 = (2 : Int32)) → ((x_5 = (5 : Int32) → bX9_step_73 this x_2 x_5 u_1 K) ∧ (¬ (x_5 = (5 : Int32)) → bX9_step_86 this x_2 x_5 u_1 K)))))))))))))
set_option maxRecDepth 100000 in
set_option maxHeartbeats 4000000 in
theorem tX9_step {X : mCx} {G : mG} {u0 : mSt} {K : mSt → Prop} (F : mFx X G cX9_step wsX9_step RX9 "step" 1 22 none u0 (mPv K)) (hN : X.2.2.2.2.2.2.2.2.2.2.2.2.1 = 4) {this : Nat} {a1 : Int32} {u : mSt} (kthis : mK u this = 10) (h : bX9_step this a1 u K) : mZ X u 0 [(0, .ref (G.1 + this)), (1, .int a1)] [] := by
  refine mz_aload_n F dX9_step_0 rfl 0 rfl ?_
  refine mz_iconst (v := 0) F dX9_step_1 (by decide) ?_
  refine mz_putI F dX9_step_2 fX9_step_134 kthis rfl rfl (fun u_1 eu_1 hxu_1 => ?_)
  replace h := h u_1 eu_1
  replace kthis := hxu_1.2.2 _ _ (by decide) kthis
  refine mz_iload_n F dX9_step_5 rfl 1 rfl ?_
  refine mz_iconst (v := 4) F dX9_step_6 (by decide) ?_
  refine mz_icmp_ne (tgt := 36) F dX9_step_7 (by decide) (fun c_12 => ?_) (fun c_12 => ?_)
  · replace h := h.2 c_12
    refine mz_iload_n F dX9_step_36 rfl 1 rfl ?_
    refine mz_aload_n F dX9_step_37 rfl 0 rfl ?_
    refine mz_getI F dX9_step_38 fX9_step_141 kthis ?_
    refine mz_iadd F dX9_step_41 ?_
    refine mz_iconst (v := 4) F dX9_step_42 (by decide) ?_
    refine mz_irem F dX9_step_43 (by decide) ?_
    refine mz_topi (fun x_2 ex_2 => ?_)
    replace h := h x_2 ex_2
    refine mz_istore_n (lv2 := [(2, .int x_2), (0, .ref (G.1 + this)), (1, .int a1)]) F dX9_step_44 rfl hN (by decide) rfl ?_
    refine mz_aload_n F dX9_step_45 rfl 1 rfl ?_
    obtain ⟨q_3, eq_3, h⟩ := h
    refine mz_getR F dX9_step_46 fX9_step_17 (by decide) kthis eq_3 (fun kq_3 => ?_)
    refine mz_iconst (v := 4) F dX9_step_49 (by decide) ?_
    refine mz_aload_n F dX9_step_50 rfl 1 rfl ?_
    refine mz_getI F dX9_step_51 fX9_step_131 kthis ?_
    refine mz_imul F dX9_step_54 ?_
    refine mz_iload_n F dX9_step_55 rfl 0 rfl ?_
    refine mz_iadd F dX9_step_56 ?_
    obtain ⟨b_4, h⟩ := h
    refine mz_iald F dX9_step_57 kq_3 rfl b_4 ?_
    refine mz_topi (fun x_5 ex_5 => ?_)
    replace h := h x_5 ex_5
    refine mz_istore_n (lv2 := [(3, .int x_5), (2, .int x_2), (0, .ref (G.1 + this)), (1, .int a1)]) F dX9_step_58 rfl hN (by decide) rfl ?_
    refine mz_iload_n F dX9_step_59 rfl 0 rfl ?_
    refine mz_if_eq (tgt := 80) F dX9_step_60 (by decide) (fun c_8 => ?_) (fun c_8 => ?_)
    · replace h := h.1 c_8
      refine mz_sub [2] rfl ?_
      exact tX9_step_80 F hN kthis h
    · replace h := h.2 c_8
      refine mz_iload_n F dX9_step_63 rfl 0 rfl ?_
      refine mz_iconst (v := 2) F dX9_step_64 (by decide) ?_
      refine mz_icmp_eq (tgt := 73) F dX9_step_65 (by decide) (fun c_7 => ?_) (fun c_7 => ?_)
      · replace h := h.1 c_7
        refine mz_sub [2, 1, 0] rfl ?_
        exact tX9_step_73 F hN kthis h
      · replace h := h.2 c_7
        refine mz_iload_n F dX9_step_68 rfl 0 rfl ?_
        refine mz_iconst (v := 5) F dX9_step_69 (by decide) ?_
        refine mz_icmp_ne (tgt := 86) F dX9_step_70 (by decide) (fun c_6 => ?_) (fun c_6 => ?_)
        · replace h := h.2 c_6
          refine mz_sub [2, 1, 0] rfl ?_
          exact tX9_step_86 F hN kthis h
        · replace h := h.1 c_6
          refine mz_sub [2, 1, 0] rfl ?_
          exact tX9_step_73 F hN kthis h
  · replace h := h.1 c_12
    refine mz_aload_n F dX9_step_10 rfl 0 rfl ?_
    refine mz_aload_n F dX9_step_11 rfl 0 rfl ?_
    refine mz_getI F dX9_step_12 fX9_step_138 kthis ?_
    refine mz_aload_n F dX9_step_15 rfl 0 rfl ?_
    obtain ⟨q_9, eq_9, h⟩ := h
    refine mz_getR F dX9_step_16 fX9_step_13 (by decide) kthis eq_9 (fun kq_9 => ?_)
    refine mz_aload_n F dX9_step_19 rfl 0 rfl ?_
    refine mz_getI F dX9_step_20 fX9_step_131 kthis ?_
    obtain ⟨b_10, h⟩ := h
    refine mz_zald F dX9_step_23 kq_9 rfl b_10 ?_
    refine mz_icmp_eq (tgt := 31) F dX9_step_24 (by decide) (fun c_11 => ?_) (fun c_11 => ?_)
    · replace h := h.1 c_11
      refine mz_iconst (v := 0) F dX9_step_31 (by decide) ?_
      refine mz_sub [] rfl ?_
      exact tX9_step_32 F hN kthis h
    · replace h := h.2 c_11
      refine mz_iconst (v := 1) F dX9_step_27 (by decide) ?_
      refine mz_goto (tgt := 32) F dX9_step_28 (by decide) ?_
      refine mz_sub [] rfl ?_
      exact tX9_step_32 F hN kthis h
set_option maxRecDepth 100000 in
theorem kX9_step (l : Launch) (G : mG) {u : mSt} {K : mSt → Prop} {this : Nat} {a1 : Int32} (kthis : mK u this = 10) (h : bX9_step this a1 u K) : mCt l G yX9_step wsX9_step 1 22 [.ref (G.1 + this), .int a1] u (mPv K) := by
  refine mCt.of (cc := cX9_step) (maxL := 4) (ret := none) (by decide) rfl (Nat.le_of_ble_eq_true rfl) ?_
  intro X hl hN F
  exact tX9_step F hN kthis h
/-! RoomMapperModel.stand()V -/
theorem wiX9_stand_9 : ∀ w ∈ u_ws RX9 TX9 52, w ∈ wsX9_stand := by decide +kernel
theorem fX9_stand_148 : mFld wsX9_stand RX9 148 10 7 0 .int false := ⟨9, _, RX9, TX9, 52, tyX9, rfl, rfl, rfl, by decide, wiX9_stand_9, tyX9_ok, nmX9, rfl, rfl, Or.inl ⟨by decide +kernel, fun _ => rfl⟩⟩
theorem fX9_stand_131 : mFld wsX9_stand RX9 131 10 34 0 .int false := ⟨9, _, RX9, TX9, 52, tyX9, rfl, rfl, rfl, by decide, wiX9_stand_9, tyX9_ok, nmX9, rfl, rfl, Or.inl ⟨by decide +kernel, fun _ => rfl⟩⟩
theorem fX9_stand_151 : mFld wsX9_stand RX9 151 10 8 0 .int false := ⟨9, _, RX9, TX9, 52, tyX9, rfl, rfl, rfl, by decide, wiX9_stand_9, tyX9_ok, nmX9, rfl, rfl, Or.inl ⟨by decide +kernel, fun _ => rfl⟩⟩
theorem fX9_stand_141 : mFld wsX9_stand RX9 141 10 35 0 .int false := ⟨9, _, RX9, TX9, 52, tyX9, rfl, rfl, rfl, by decide, wiX9_stand_9, tyX9_ok, nmX9, rfl, rfl, Or.inl ⟨by decide +kernel, fun _ => rfl⟩⟩
theorem fX9_stand_154 : mFld wsX9_stand RX9 154 10 9 0 .boolean false := ⟨9, _, RX9, TX9, 52, tyX9, rfl, rfl, rfl, by decide, wiX9_stand_9, tyX9_ok, nmX9, rfl, rfl, Or.inl ⟨by decide +kernel, fun _ => rfl⟩⟩
theorem fX9_stand_138 : mFld wsX9_stand RX9 138 10 36 0 .boolean false := ⟨9, _, RX9, TX9, 52, tyX9, rfl, rfl, rfl, by decide, wiX9_stand_9, tyX9_ok, nmX9, rfl, rfl, Or.inl ⟨by decide +kernel, fun _ => rfl⟩⟩
def bX9_stand (this : Nat) (u : mSt) (K : mSt → Prop) : Prop := (∀ u_1, u_1 = mpI u this 34 (mI u this 7) → (∀ u_2, u_2 = mpI u_1 this 35 (mI u_1 this 8) → ((mI u_2 this 9 = 0 ∨ mI u_2 this 9 = 1) ∧ (∀ u_3, u_3 = mpI u_2 this 36 (mI u_2 this 9) → K u_3))))
set_option maxRecDepth 100000 in
set_option maxHeartbeats 4000000 in
theorem tX9_stand {X : mCx} {G : mG} {u0 : mSt} {K : mSt → Prop} (F : mFx X G cX9_stand wsX9_stand RX9 "stand" 0 0 none u0 (mPv K)) (hN : X.2.2.2.2.2.2.2.2.2.2.2.2.1 = 1) {this : Nat} {u : mSt} (kthis : mK u this = 10) (h : bX9_stand this u K) : mZ X u 0 [(0, .ref (G.1 + this))] [] := by
  refine mz_aload_n F dX9_stand_0 rfl 0 rfl ?_
  refine mz_aload_n F dX9_stand_1 rfl 0 rfl ?_
  refine mz_getI F dX9_stand_2 fX9_stand_148 kthis ?_
  refine mz_putI F dX9_stand_5 fX9_stand_131 kthis rfl rfl (fun u_1 eu_1 hxu_1 => ?_)
  replace h := h u_1 eu_1
  replace kthis := hxu_1.2.2 _ _ (by decide) kthis
  refine mz_aload_n F dX9_stand_8 rfl 0 rfl ?_
  refine mz_aload_n F dX9_stand_9 rfl 0 rfl ?_
  refine mz_getI F dX9_stand_10 fX9_stand_151 kthis ?_
  refine mz_putI F dX9_stand_13 fX9_stand_141 kthis rfl rfl (fun u_2 eu_2 hxu_2 => ?_)
  replace h := h u_2 eu_2
  replace kthis := hxu_2.2.2 _ _ (by decide) kthis
  refine mz_aload_n F dX9_stand_16 rfl 0 rfl ?_
  refine mz_aload_n F dX9_stand_17 rfl 0 rfl ?_
  refine mz_getI F dX9_stand_18 fX9_stand_154 kthis ?_
  obtain ⟨b_4, h⟩ := h
  refine mz_putI F dX9_stand_21 fX9_stand_138 kthis (mbn b_4) (mbf b_4) (fun u_3 eu_3 hxu_3 => ?_)
  replace h := h u_3 eu_3
  exact mz_vret F dX9_stand_24 ⟨rfl, h⟩
set_option maxRecDepth 100000 in
theorem kX9_stand (l : Launch) (G : mG) {u : mSt} {K : mSt → Prop} {this : Nat} (kthis : mK u this = 10) (h : bX9_stand this u K) : mCt l G yX9_stand wsX9_stand 0 0 [.ref (G.1 + this)] u (mPv K) := by
  refine mCt.of (cc := cX9_stand) (maxL := 1) (ret := none) (by decide) rfl (Nat.le_of_ble_eq_true rfl) ?_
  intro X hl hN F
  exact tX9_stand F hN kthis h
/-! RoomMapperModel.start(I)I -/
theorem wiX9_start_9 : ∀ w ∈ u_ws RX9 TX9 52, w ∈ wsX9_start := by decide +kernel
theorem fX9_start_44 : mFld wsX9_start RX9 44 10 24 15 (.array .int) true := ⟨9, _, RX9, TX9, 52, tyX9, rfl, rfl, rfl, by decide, wiX9_start_9, tyX9_ok, nmX9, rfl, rfl, Or.inl ⟨by decide +kernel, fun _ => rfl⟩⟩
theorem fX9_start_47 : mFld wsX9_start RX9 47 10 25 15 (.array .int) true := ⟨9, _, RX9, TX9, 52, tyX9, rfl, rfl, rfl, by decide, wiX9_start_9, tyX9_ok, nmX9, rfl, rfl, Or.inl ⟨by decide +kernel, fun _ => rfl⟩⟩
theorem fX9_start_50 : mFld wsX9_start RX9 50 10 26 26 (.array .byte) true := ⟨9, _, RX9, TX9, 52, tyX9, rfl, rfl, rfl, by decide, wiX9_start_9, tyX9_ok, nmX9, rfl, rfl, Or.inl ⟨by decide +kernel, fun _ => rfl⟩⟩
theorem fX9_start_41 : mFld wsX9_start RX9 41 10 23 25 (.array .int) true := ⟨9, _, RX9, TX9, 52, tyX9, rfl, rfl, rfl, by decide, wiX9_start_9, tyX9_ok, nmX9, rfl, rfl, Or.inl ⟨by decide +kernel, fun _ => rfl⟩⟩
theorem fX9_start_112 : mFld wsX9_start RX9 112 10 0 0 .int false := ⟨9, _, RX9, TX9, 52, tyX9, rfl, rfl, rfl, by decide, wiX9_start_9, tyX9_ok, nmX9, rfl, rfl, Or.inl ⟨by decide +kernel, fun _ => rfl⟩⟩
theorem mX9_start_ldcl157 : Cond.constantLong RX9 157 (6) ∈ wsX9_start := by decide +kernel
theorem fX9_start_116 : mFld wsX9_start RX9 116 10 1 0 .int false := ⟨9, _, RX9, TX9, 52, tyX9, rfl, rfl, rfl, by decide, wiX9_start_9, tyX9_ok, nmX9, rfl, rfl, Or.inl ⟨by decide +kernel, fun _ => rfl⟩⟩
theorem fX9_start_159 : mFld wsX9_start RX9 159 10 6 0 .boolean false := ⟨9, _, RX9, TX9, 52, tyX9, rfl, rfl, rfl, by decide, wiX9_start_9, tyX9_ok, nmX9, rfl, rfl, Or.inl ⟨by decide +kernel, fun _ => rfl⟩⟩
theorem fX9_start_148 : mFld wsX9_start RX9 148 10 7 0 .int false := ⟨9, _, RX9, TX9, 52, tyX9, rfl, rfl, rfl, by decide, wiX9_start_9, tyX9_ok, nmX9, rfl, rfl, Or.inl ⟨by decide +kernel, fun _ => rfl⟩⟩
theorem fX9_start_151 : mFld wsX9_start RX9 151 10 8 0 .int false := ⟨9, _, RX9, TX9, 52, tyX9, rfl, rfl, rfl, by decide, wiX9_start_9, tyX9_ok, nmX9, rfl, rfl, Or.inl ⟨by decide +kernel, fun _ => rfl⟩⟩
theorem fX9_start_154 : mFld wsX9_start RX9 154 10 9 0 .boolean false := ⟨9, _, RX9, TX9, 52, tyX9, rfl, rfl, rfl, by decide, wiX9_start_9, tyX9_ok, nmX9, rfl, rfl, Or.inl ⟨by decide +kernel, fun _ => rfl⟩⟩
theorem fX9_start_162 : mFld wsX9_start RX9 162 10 10 0 .int false := ⟨9, _, RX9, TX9, 52, tyX9, rfl, rfl, rfl, by decide, wiX9_start_9, tyX9_ok, nmX9, rfl, rfl, Or.inl ⟨by decide +kernel, fun _ => rfl⟩⟩
theorem fX9_start_165 : mFld wsX9_start RX9 165 10 11 0 .boolean false := ⟨9, _, RX9, TX9, 52, tyX9, rfl, rfl, rfl, by decide, wiX9_start_9, tyX9_ok, nmX9, rfl, rfl, Or.inl ⟨by decide +kernel, fun _ => rfl⟩⟩
theorem fX9_start_168 : mFld wsX9_start RX9 168 10 12 0 .int false := ⟨9, _, RX9, TX9, 52, tyX9, rfl, rfl, rfl, by decide, wiX9_start_9, tyX9_ok, nmX9, rfl, rfl, Or.inl ⟨by decide +kernel, fun _ => rfl⟩⟩
theorem fX9_start_7 : mFld wsX9_start RX9 7 10 2 12 (.array .int) true := ⟨9, _, RX9, TX9, 52, tyX9, rfl, rfl, rfl, by decide, wiX9_start_9, tyX9_ok, nmX9, rfl, rfl, Or.inl ⟨by decide +kernel, fun _ => rfl⟩⟩
theorem fX9_start_171 : mFld wsX9_start RX9 171 10 17 0 .int false := ⟨9, _, RX9, TX9, 52, tyX9, rfl, rfl, rfl, by decide, wiX9_start_9, tyX9_ok, nmX9, rfl, rfl, Or.inl ⟨by decide +kernel, fun _ => rfl⟩⟩
theorem fX9_start_174 : mFld wsX9_start RX9 174 10 18 0 .int false := ⟨9, _, RX9, TX9, 52, tyX9, rfl, rfl, rfl, by decide, wiX9_start_9, tyX9_ok, nmX9, rfl, rfl, Or.inl ⟨by decide +kernel, fun _ => rfl⟩⟩
theorem fX9_start_177 : mFld wsX9_start RX9 177 10 19 0 .int false := ⟨9, _, RX9, TX9, 52, tyX9, rfl, rfl, rfl, by decide, wiX9_start_9, tyX9_ok, nmX9, rfl, rfl, Or.inl ⟨by decide +kernel, fun _ => rfl⟩⟩
theorem fX9_start_180 : mFld wsX9_start RX9 180 10 20 0 .boolean false := ⟨9, _, RX9, TX9, 52, tyX9, rfl, rfl, rfl, by decide, wiX9_start_9, tyX9_ok, nmX9, rfl, rfl, Or.inl ⟨by decide +kernel, fun _ => rfl⟩⟩
theorem fX9_start_35 : mFld wsX9_start RX9 35 10 21 15 (.array .int) true := ⟨9, _, RX9, TX9, 52, tyX9, rfl, rfl, rfl, by decide, wiX9_start_9, tyX9_ok, nmX9, rfl, rfl, Or.inl ⟨by decide +kernel, fun _ => rfl⟩⟩
theorem fX9_start_38 : mFld wsX9_start RX9 38 10 22 24 (.array .int) true := ⟨9, _, RX9, TX9, 52, tyX9, rfl, rfl, rfl, by decide, wiX9_start_9, tyX9_ok, nmX9, rfl, rfl, Or.inl ⟨by decide +kernel, fun _ => rfl⟩⟩
def bX9_start_111 : Nat → Nat → Int32 → mSt → (Int32 → mSt → Prop) → Prop
  | 0, _, _, _, _ => False
  | n + 1, v0, v2, u, K => (((5 : Int32) ≤ v2 → (∃ q_1, mR u v0 24 = some q_1 ∧ (vp_in (0 : Int32) 150 ∧ ∀ u_3, u_3 = mpI u q_1 (0 : Int32).toNatClampNeg (0 : Int32) → (∃ q_4, mR u_3 v0 25 = some q_4 ∧ (vp_in (0 : Int32) 150 ∧ ∀ u_6, u_6 = mpI u_3 q_4 (0 : Int32).toNatClampNeg (-2 : Int32) → (∃ q_7, mR u_6 v0 26 = some q_7 ∧ (vp_in (0 : Int32) 30150 ∧ ∀ u_9, u_9 = mpI u_6 q_7 (0 : Int32).toNatClampNeg (vp_nar .byte (0 : Int32)) → K (0 : Int32) u_9))))))) ∧ (¬ ((5 : Int32) ≤ v2) → (∃ q_10, mR u v0 23 = some q_10 ∧ (vp_in v2 4500 ∧ ∀ u_12, u_12 = mpI u q_10 v2.toNatClampNeg (-3 : Int32) → (∀ x_13, x_13 = v2 + (1 : Int32) → bX9_start_111 n v0 x_13 u_12 K)))))
set_option maxRecDepth 100000 in
set_option maxHeartbeats 4000000 in
theorem tX9_start_111 {X : mCx} {G : mG} {u0 : mSt} {K : Int32 → mSt → Prop} (F : mFx X G cX9_start wsX9_start RX9 "start" 1 25 (some .int) u0 (mPi K)) (hN : X.2.2.2.2.2.2.2.2.2.2.2.2.1 = 3) : ∀ (n : Nat) {v0 : Nat} {v2 : Int32} {u : mSt}, mK u v0 = 10 → bX9_start_111 n v0 v2 u K → mZ X u 111 [(0, .ref (G.1 + v0)), (2, .int v2)] [] := by
  intro n
  induction n with
  | zero => intro v0 v2 u kv0 h; exact False.elim h
  | succ n ih =>
    intro v0 v2 u kv0 h
    refine mz_iload_n F dX9_start_111 rfl 1 rfl ?_
    refine mz_iconst (v := 5) F dX9_start_112 (by decide) ?_
    refine mz_icmp_ge (tgt := 130) F dX9_start_113 (by decide) (fun c_14 => ?_) (fun c_14 => ?_)
    · replace h := h.1 c_14
      refine mz_aload_n F dX9_start_130 rfl 0 rfl ?_
      obtain ⟨q_1, eq_1, h⟩ := h
      refine mz_getR F dX9_start_131 fX9_start_44 (by decide) kv0 eq_1 (fun kq_1 => ?_)
      refine mz_iconst (v := 0) F dX9_start_134 (by decide) ?_
      refine mz_iconst (v := 0) F dX9_start_135 (by decide) ?_
      obtain ⟨b_2, h⟩ := h
      refine mz_iast F dX9_start_136 kq_1 rfl b_2 (fun u_3 eu_3 hxu_3 => ?_)
      replace h := h u_3 eu_3
      replace kv0 := hxu_3.2.2 _ _ (by decide) kv0
      refine mz_aload_n F dX9_start_137 rfl 0 rfl ?_
      obtain ⟨q_4, eq_4, h⟩ := h
      refine mz_getR F dX9_start_138 fX9_start_47 (by decide) kv0 eq_4 (fun kq_4 => ?_)
      refine mz_iconst (v := 0) F dX9_start_141 (by decide) ?_
      refine mz_bipush (v := (-2)) F dX9_start_142 (by decide) ?_
      obtain ⟨b_5, h⟩ := h
      refine mz_iast F dX9_start_144 kq_4 rfl b_5 (fun u_6 eu_6 hxu_6 => ?_)
      replace h := h u_6 eu_6
      replace kv0 := hxu_6.2.2 _ _ (by decide) kv0
      refine mz_aload_n F dX9_start_145 rfl 0 rfl ?_
      obtain ⟨q_7, eq_7, h⟩ := h
      refine mz_getR F dX9_start_146 fX9_start_50 (by decide) kv0 eq_7 (fun kq_7 => ?_)
      refine mz_iconst (v := 0) F dX9_start_149 (by decide) ?_
      refine mz_iconst (v := 0) F dX9_start_150 (by decide) ?_
      obtain ⟨b_8, h⟩ := h
      refine mz_bast F dX9_start_151 kq_7 rfl b_8 (fun u_9 eu_9 hxu_9 => ?_)
      replace h := h u_9 eu_9
      refine mz_iconst (v := 0) F dX9_start_152 (by decide) ?_
      exact mz_iret F dX9_start_153 ⟨_, rfl, h⟩
    · replace h := h.2 c_14
      refine mz_aload_n F dX9_start_116 rfl 0 rfl ?_
      obtain ⟨q_10, eq_10, h⟩ := h
      refine mz_getR F dX9_start_117 fX9_start_41 (by decide) kv0 eq_10 (fun kq_10 => ?_)
      refine mz_iload_n F dX9_start_120 rfl 1 rfl ?_
      refine mz_bipush (v := (-3)) F dX9_start_121 (by decide) ?_
      obtain ⟨b_11, h⟩ := h
      refine mz_iast F dX9_start_123 kq_10 rfl b_11 (fun u_12 eu_12 hxu_12 => ?_)
      replace h := h u_12 eu_12
      replace kv0 := hxu_12.2.2 _ _ (by decide) kv0
      obtain ⟨x_13, ex_13⟩ : ∃ y : Int32, y = v2 + (1 : Int32) := ⟨_, rfl⟩
      replace h := h x_13 ex_13
      refine mz_iinc (v := x_13) (lv2 := [(2, .int x_13), (0, .ref (G.1 + v0))]) F dX9_start_124 1 rfl (by rw [ex_13]; rfl) hN (by decide) rfl ?_
      refine mz_goto (tgt := 111) F dX9_start_127 (by decide) ?_
      refine mz_sub [1, 0] rfl ?_
      exact ih kv0 h
def bX9_start (this : Nat) (a1 : Int32) (u : mSt) (K : Int32 → mSt → Prop) : Prop := (∀ u_1, u_1 = mpI u this 0 (0 : Int32) → bX9_isIn a1.toInt64 (1 : Int64) (6 : Int64) u_1 (fun r_4 u_3 => ((r_4 = 0 → K (-1 : Int32) u_3) ∧ (¬ (r_4 = 0) → (((mI u_3 this 1) = 0 → K (-2 : Int32) u_3) ∧ (¬ ((mI u_3 this 1) = 0) → (∀ u_5, u_5 = mpI u_3 this 6 (1 : Int32) → (∀ u_6, u_6 = mpI u_5 this 7 (0 : Int32) → (∀ u_7, u_7 = mpI u_6 this 8 (0 : Int32) → (∀ u_8, u_8 = mpI u_7 this 9 (0 : Int32) → (∀ u_9, u_9 = mpI u_8 this 10 (-2 : Int32) → (∀ u_10, u_10 = mpI u_9 this 11 (0 : Int32) → (∀ u_11, u_11 = mpI u_10 this 12 (0 : Int32) → (∃ q_12, mR u_11 this 2 = some q_12 ∧ (vp_in (0 : Int32) 10 ∧ (∀ u_14, u_14 = mpI u_11 this 17 (mI u_11 q_12 (0 : Int32).toNatClampNeg) → (∀ u_15, u_15 = mpI u_14 this 18 a1 → (∀ u_16, u_16 = mpI u_15 this 19 (1 : Int32) → (∀ u_17, u_17 = mpI u_16 this 20 (0 : Int32) → (∃ q_18, mR u_17 this 21 = some q_18 ∧ (vp_in (0 : Int32) 150 ∧ ∀ u_20, u_20 = mpI u_17 q_18 (0 : Int32).toNatClampNeg (1 : Int32) → (∃ q_21, mR u_20 this 22 = some q_21 ∧ (∃ q_22, mR u_20 this 2 = some q_22 ∧ (vp_in (0 : Int32) 10 ∧ (vp_in (0 : Int32) 900 ∧ ∀ u_25, u_25 = mpI u_20 q_21 (0 : Int32).toNatClampNeg (mI u_20 q_22 (0 : Int32).toNatClampNeg) → (∃ n9, bX9_start_111 n9 this (0 : Int32) u_25 K))))))))))))))))))))))))))
set_option maxRecDepth 100000 in
set_option maxHeartbeats 4000000 in
theorem tX9_start {X : mCx} {G : mG} {u0 : mSt} {K : Int32 → mSt → Prop} (F : mFx X G cX9_start wsX9_start RX9 "start" 1 25 (some .int) u0 (mPi K)) (hN : X.2.2.2.2.2.2.2.2.2.2.2.2.1 = 3) {this : Nat} {a1 : Int32} {u : mSt} (kthis : mK u this = 10) (h : bX9_start this a1 u K) : mZ X u 0 [(0, .ref (G.1 + this)), (1, .int a1)] [] := by
  refine mz_aload_n F dX9_start_0 rfl 0 rfl ?_
  refine mz_iconst (v := 0) F dX9_start_1 (by decide) ?_
  refine mz_putI F dX9_start_2 fX9_start_112 kthis rfl rfl (fun u_1 eu_1 hxu_1 => ?_)
  replace h := h u_1 eu_1
  replace kthis := hxu_1.2.2 _ _ (by decide) kthis
  refine mz_iload_n F dX9_start_5 rfl 1 rfl ?_
  refine mz_i2l F dX9_start_6 ?_
  refine mz_lconst (v := 1) F dX9_start_7 (by decide) ?_
  refine mz_ldc2 (v := 6) F dX9_start_8 mX9_start_ldcl157 ?_
  refine mz_callS (As := [_, _, _]) (n := 3) F dX9_start_11 rfl gX9_start_X9_isIn (by decide +kernel) (by decide) rfl (Nat.le_of_ble_eq_true rfl) (kX9_isIn _ G h) (mz_kZ fun r_4 u_3 br_4 h hx_2 => ?_)
  replace kthis := hx_2.2.2 _ _ (by decide) kthis
  refine mz_if_ne (tgt := 19) F dX9_start_14 (by decide) (fun c_27 => ?_) (fun c_27 => ?_)
  · replace h := h.2 c_27
    refine mz_aload_n F dX9_start_19 rfl 0 rfl ?_
    refine mz_getI F dX9_start_20 fX9_start_116 kthis ?_
    refine mz_if_ne (tgt := 29) F dX9_start_23 (by decide) (fun c_26 => ?_) (fun c_26 => ?_)
    · replace h := h.2 c_26
      refine mz_aload_n F dX9_start_29 rfl 0 rfl ?_
      refine mz_iconst (v := 1) F dX9_start_30 (by decide) ?_
      refine mz_putI F dX9_start_31 fX9_start_159 kthis rfl rfl (fun u_5 eu_5 hxu_5 => ?_)
      replace h := h u_5 eu_5
      replace kthis := hxu_5.2.2 _ _ (by decide) kthis
      refine mz_aload_n F dX9_start_34 rfl 0 rfl ?_
      refine mz_iconst (v := 0) F dX9_start_35 (by decide) ?_
      refine mz_putI F dX9_start_36 fX9_start_148 kthis rfl rfl (fun u_6 eu_6 hxu_6 => ?_)
      replace h := h u_6 eu_6
      replace kthis := hxu_6.2.2 _ _ (by decide) kthis
      refine mz_aload_n F dX9_start_39 rfl 0 rfl ?_
      refine mz_iconst (v := 0) F dX9_start_40 (by decide) ?_
      refine mz_putI F dX9_start_41 fX9_start_151 kthis rfl rfl (fun u_7 eu_7 hxu_7 => ?_)
      replace h := h u_7 eu_7
      replace kthis := hxu_7.2.2 _ _ (by decide) kthis
      refine mz_aload_n F dX9_start_44 rfl 0 rfl ?_
      refine mz_iconst (v := 0) F dX9_start_45 (by decide) ?_
      refine mz_putI F dX9_start_46 fX9_start_154 kthis rfl rfl (fun u_8 eu_8 hxu_8 => ?_)
      replace h := h u_8 eu_8
      replace kthis := hxu_8.2.2 _ _ (by decide) kthis
      refine mz_aload_n F dX9_start_49 rfl 0 rfl ?_
      refine mz_bipush (v := (-2)) F dX9_start_50 (by decide) ?_
      refine mz_putI F dX9_start_52 fX9_start_162 kthis rfl rfl (fun u_9 eu_9 hxu_9 => ?_)
      replace h := h u_9 eu_9
      replace kthis := hxu_9.2.2 _ _ (by decide) kthis
      refine mz_aload_n F dX9_start_55 rfl 0 rfl ?_
      refine mz_iconst (v := 0) F dX9_start_56 (by decide) ?_
      refine mz_putI F dX9_start_57 fX9_start_165 kthis rfl rfl (fun u_10 eu_10 hxu_10 => ?_)
      replace h := h u_10 eu_10
      replace kthis := hxu_10.2.2 _ _ (by decide) kthis
      refine mz_aload_n F dX9_start_60 rfl 0 rfl ?_
      refine mz_iconst (v := 0) F dX9_start_61 (by decide) ?_
      refine mz_putI F dX9_start_62 fX9_start_168 kthis rfl rfl (fun u_11 eu_11 hxu_11 => ?_)
      replace h := h u_11 eu_11
      replace kthis := hxu_11.2.2 _ _ (by decide) kthis
      refine mz_aload_n F dX9_start_65 rfl 0 rfl ?_
      refine mz_aload_n F dX9_start_66 rfl 0 rfl ?_
      obtain ⟨q_12, eq_12, h⟩ := h
      refine mz_getR F dX9_start_67 fX9_start_7 (by decide) kthis eq_12 (fun kq_12 => ?_)
      refine mz_iconst (v := 0) F dX9_start_70 (by decide) ?_
      obtain ⟨b_13, h⟩ := h
      refine mz_iald F dX9_start_71 kq_12 rfl b_13 ?_
      refine mz_putI F dX9_start_72 fX9_start_171 kthis rfl rfl (fun u_14 eu_14 hxu_14 => ?_)
      replace h := h u_14 eu_14
      replace kthis := hxu_14.2.2 _ _ (by decide) kthis
      refine mz_aload_n F dX9_start_75 rfl 0 rfl ?_
      refine mz_iload_n F dX9_start_76 rfl 1 rfl ?_
      refine mz_putI F dX9_start_77 fX9_start_174 kthis rfl rfl (fun u_15 eu_15 hxu_15 => ?_)
      replace h := h u_15 eu_15
      replace kthis := hxu_15.2.2 _ _ (by decide) kthis
      refine mz_aload_n F dX9_start_80 rfl 0 rfl ?_
      refine mz_iconst (v := 1) F dX9_start_81 (by decide) ?_
      refine mz_putI F dX9_start_82 fX9_start_177 kthis rfl rfl (fun u_16 eu_16 hxu_16 => ?_)
      replace h := h u_16 eu_16
      replace kthis := hxu_16.2.2 _ _ (by decide) kthis
      refine mz_aload_n F dX9_start_85 rfl 0 rfl ?_
      refine mz_iconst (v := 0) F dX9_start_86 (by decide) ?_
      refine mz_putI F dX9_start_87 fX9_start_180 kthis rfl rfl (fun u_17 eu_17 hxu_17 => ?_)
      replace h := h u_17 eu_17
      replace kthis := hxu_17.2.2 _ _ (by decide) kthis
      refine mz_aload_n F dX9_start_90 rfl 0 rfl ?_
      obtain ⟨q_18, eq_18, h⟩ := h
      refine mz_getR F dX9_start_91 fX9_start_35 (by decide) kthis eq_18 (fun kq_18 => ?_)
      refine mz_iconst (v := 0) F dX9_start_94 (by decide) ?_
      refine mz_iconst (v := 1) F dX9_start_95 (by decide) ?_
      obtain ⟨b_19, h⟩ := h
      refine mz_iast F dX9_start_96 kq_18 rfl b_19 (fun u_20 eu_20 hxu_20 => ?_)
      replace h := h u_20 eu_20
      replace kthis := hxu_20.2.2 _ _ (by decide) kthis
      refine mz_aload_n F dX9_start_97 rfl 0 rfl ?_
      obtain ⟨q_21, eq_21, h⟩ := h
      refine mz_getR F dX9_start_98 fX9_start_38 (by decide) kthis eq_21 (fun kq_21 => ?_)
      refine mz_iconst (v := 0) F dX9_start_101 (by decide) ?_
      refine mz_aload_n F dX9_start_102 rfl 0 rfl ?_
      obtain ⟨q_22, eq_22, h⟩ := h
      refine mz_getR F dX9_start_103 fX9_start_7 (by decide) kthis eq_22 (fun kq_22 => ?_)
      refine mz_iconst (v := 0) F dX9_start_106 (by decide) ?_
      obtain ⟨b_23, h⟩ := h
      refine mz_iald F dX9_start_107 kq_22 rfl b_23 ?_
      obtain ⟨b_24, h⟩ := h
      refine mz_iast F dX9_start_108 kq_21 rfl b_24 (fun u_25 eu_25 hxu_25 => ?_)
      replace h := h u_25 eu_25
      replace kthis := hxu_25.2.2 _ _ (by decide) kthis
      refine mz_iconst (v := 0) F dX9_start_109 (by decide) ?_
      refine mz_istore_n (lv2 := [(2, .int (0 : Int32)), (0, .ref (G.1 + this)), (1, .int a1)]) F dX9_start_110 rfl hN (by decide) rfl ?_
      refine mz_sub [1, 0] rfl ?_
      obtain ⟨n9, h⟩ := h
      exact tX9_start_111 F hN n9 kthis h
    · replace h := h.1 c_26
      refine mz_bipush (v := (-2)) F dX9_start_26 (by decide) ?_
      exact mz_iret F dX9_start_28 ⟨_, rfl, h⟩
  · replace h := h.1 c_27
    refine mz_iconst (v := (-1)) F dX9_start_17 (by decide) ?_
    exact mz_iret F dX9_start_18 ⟨_, rfl, h⟩
set_option maxRecDepth 100000 in
theorem kX9_start (l : Launch) (G : mG) {u : mSt} {K : Int32 → mSt → Prop} {this : Nat} {a1 : Int32} (kthis : mK u this = 10) (h : bX9_start this a1 u K) : mCt l G yX9_start wsX9_start 1 25 [.ref (G.1 + this), .int a1] u (mPi K) := by
  refine mCt.of (cc := cX9_start) (maxL := 3) (ret := (some .int)) (by decide) rfl (Nat.le_of_ble_eq_true rfl) ?_
  intro X hl hN F
  exact tX9_start F hN kthis h
/-! RoomMapperModel.liesHere()Z -/
theorem wiX9_liesHere_9 : ∀ w ∈ u_ws RX9 TX9 52, w ∈ wsX9_liesHere := by decide +kernel
theorem fX9_liesHere_162 : mFld wsX9_liesHere RX9 162 10 10 0 .int false := ⟨9, _, RX9, TX9, 52, tyX9, rfl, rfl, rfl, by decide, wiX9_liesHere_9, tyX9_ok, nmX9, rfl, rfl, Or.inl ⟨by decide +kernel, fun _ => rfl⟩⟩
theorem fX9_liesHere_148 : mFld wsX9_liesHere RX9 148 10 7 0 .int false := ⟨9, _, RX9, TX9, 52, tyX9, rfl, rfl, rfl, by decide, wiX9_liesHere_9, tyX9_ok, nmX9, rfl, rfl, Or.inl ⟨by decide +kernel, fun _ => rfl⟩⟩
def bX9_liesHere (this : Nat) (u : mSt) (K : Int32 → mSt → Prop) : Prop := (((mI u this 10) = (mI u this 7) → K (1 : Int32) u) ∧ (¬ ((mI u this 10) = (mI u this 7)) → K (0 : Int32) u))
set_option maxRecDepth 100000 in
set_option maxHeartbeats 4000000 in
theorem tX9_liesHere {X : mCx} {G : mG} {u0 : mSt} {K : Int32 → mSt → Prop} (F : mFx X G cX9_liesHere wsX9_liesHere RX9 "liesHere" 0 0 (some .boolean) u0 (mPz K)) (hN : X.2.2.2.2.2.2.2.2.2.2.2.2.1 = 1) {this : Nat} {u : mSt} (kthis : mK u this = 10) (h : bX9_liesHere this u K) : mZ X u 0 [(0, .ref (G.1 + this))] [] := by
  refine mz_aload_n F dX9_liesHere_0 rfl 0 rfl ?_
  refine mz_getI F dX9_liesHere_1 fX9_liesHere_162 kthis ?_
  refine mz_aload_n F dX9_liesHere_4 rfl 0 rfl ?_
  refine mz_getI F dX9_liesHere_5 fX9_liesHere_148 kthis ?_
  refine mz_icmp_ne (tgt := 15) F dX9_liesHere_8 (by decide) (fun c_1 => ?_) (fun c_1 => ?_)
  · replace h := h.2 c_1
    refine mz_iconst (v := 0) F dX9_liesHere_15 (by decide) ?_
    exact mz_zret F dX9_liesHere_16 rfl ⟨_, rfl, by decide, h⟩
  · replace h := h.1 c_1
    refine mz_iconst (v := 1) F dX9_liesHere_11 (by decide) ?_
    refine mz_goto (tgt := 16) F dX9_liesHere_12 (by decide) ?_
    exact mz_zret F dX9_liesHere_16 rfl ⟨_, rfl, by decide, h⟩
set_option maxRecDepth 100000 in
theorem kX9_liesHere (l : Launch) (G : mG) {u : mSt} {K : Int32 → mSt → Prop} {this : Nat} (kthis : mK u this = 10) (h : bX9_liesHere this u K) : mCt l G yX9_liesHere wsX9_liesHere 0 0 [.ref (G.1 + this)] u (mPz K) := by
  refine mCt.of (cc := cX9_liesHere) (maxL := 1) (ret := (some .boolean)) (by decide) rfl (Nat.le_of_ble_eq_true rfl) ?_
  intro X hl hN F
  exact tX9_liesHere F hN kthis h
/-! RoomMapperModel.come(II)V -/
theorem wiX9_come_9 : ∀ w ∈ u_ws RX9 TX9 52, w ∈ wsX9_come := by decide +kernel
theorem fX9_come_60 : mFld wsX9_come RX9 60 10 30 25 (.array .int) true := ⟨9, _, RX9, TX9, 52, tyX9, rfl, rfl, rfl, by decide, wiX9_come_9, tyX9_ok, nmX9, rfl, rfl, Or.inl ⟨by decide +kernel, fun _ => rfl⟩⟩
theorem fX9_come_41 : mFld wsX9_come RX9 41 10 23 25 (.array .int) true := ⟨9, _, RX9, TX9, 52, tyX9, rfl, rfl, rfl, by decide, wiX9_come_9, tyX9_ok, nmX9, rfl, rfl, Or.inl ⟨by decide +kernel, fun _ => rfl⟩⟩
theorem fX9_come_168 : mFld wsX9_come RX9 168 10 12 0 .int false := ⟨9, _, RX9, TX9, 52, tyX9, rfl, rfl, rfl, by decide, wiX9_come_9, tyX9_ok, nmX9, rfl, rfl, Or.inl ⟨by decide +kernel, fun _ => rfl⟩⟩
theorem fX9_come_69 : mFld wsX9_come RX9 69 10 33 26 (.array .byte) true := ⟨9, _, RX9, TX9, 52, tyX9, rfl, rfl, rfl, by decide, wiX9_come_9, tyX9_ok, nmX9, rfl, rfl, Or.inl ⟨by decide +kernel, fun _ => rfl⟩⟩
theorem fX9_come_183 : mFld wsX9_come RX9 183 10 27 0 .int false := ⟨9, _, RX9, TX9, 52, tyX9, rfl, rfl, rfl, by decide, wiX9_come_9, tyX9_ok, nmX9, rfl, rfl, Or.inl ⟨by decide +kernel, fun _ => rfl⟩⟩
theorem fX9_come_50 : mFld wsX9_come RX9 50 10 26 26 (.array .byte) true := ⟨9, _, RX9, TX9, 52, tyX9, rfl, rfl, rfl, by decide, wiX9_come_9, tyX9_ok, nmX9, rfl, rfl, Or.inl ⟨by decide +kernel, fun _ => rfl⟩⟩
theorem fX9_come_57 : mFld wsX9_come RX9 57 10 29 24 (.array .int) true := ⟨9, _, RX9, TX9, 52, tyX9, rfl, rfl, rfl, by decide, wiX9_come_9, tyX9_ok, nmX9, rfl, rfl, Or.inl ⟨by decide +kernel, fun _ => rfl⟩⟩
theorem fX9_come_38 : mFld wsX9_come RX9 38 10 22 24 (.array .int) true := ⟨9, _, RX9, TX9, 52, tyX9, rfl, rfl, rfl, by decide, wiX9_come_9, tyX9_ok, nmX9, rfl, rfl, Or.inl ⟨by decide +kernel, fun _ => rfl⟩⟩
theorem fX9_come_54 : mFld wsX9_come RX9 54 10 28 15 (.array .int) true := ⟨9, _, RX9, TX9, 52, tyX9, rfl, rfl, rfl, by decide, wiX9_come_9, tyX9_ok, nmX9, rfl, rfl, Or.inl ⟨by decide +kernel, fun _ => rfl⟩⟩
theorem fX9_come_35 : mFld wsX9_come RX9 35 10 21 15 (.array .int) true := ⟨9, _, RX9, TX9, 52, tyX9, rfl, rfl, rfl, by decide, wiX9_come_9, tyX9_ok, nmX9, rfl, rfl, Or.inl ⟨by decide +kernel, fun _ => rfl⟩⟩
theorem fX9_come_63 : mFld wsX9_come RX9 63 10 31 15 (.array .int) true := ⟨9, _, RX9, TX9, 52, tyX9, rfl, rfl, rfl, by decide, wiX9_come_9, tyX9_ok, nmX9, rfl, rfl, Or.inl ⟨by decide +kernel, fun _ => rfl⟩⟩
theorem fX9_come_66 : mFld wsX9_come RX9 66 10 32 15 (.array .int) true := ⟨9, _, RX9, TX9, 52, tyX9, rfl, rfl, rfl, by decide, wiX9_come_9, tyX9_ok, nmX9, rfl, rfl, Or.inl ⟨by decide +kernel, fun _ => rfl⟩⟩
theorem fX9_come_47 : mFld wsX9_come RX9 47 10 25 15 (.array .int) true := ⟨9, _, RX9, TX9, 52, tyX9, rfl, rfl, rfl, by decide, wiX9_come_9, tyX9_ok, nmX9, rfl, rfl, Or.inl ⟨by decide +kernel, fun _ => rfl⟩⟩
theorem fX9_come_180 : mFld wsX9_come RX9 180 10 20 0 .boolean false := ⟨9, _, RX9, TX9, 52, tyX9, rfl, rfl, rfl, by decide, wiX9_come_9, tyX9_ok, nmX9, rfl, rfl, Or.inl ⟨by decide +kernel, fun _ => rfl⟩⟩
def bX9_come_89 : Nat → Nat → Int32 → Int32 → Int32 → Int32 → Int32 → mSt → (mSt → Prop) → (Nat → Int32 → Int32 → Int32 → Int32 → mSt → Prop) → Prop
  | 0, _, _, _, _, _, _, _, _, _ => False
  | n + 1, v0, v1, v2, v3, v4, v5, u, K, KL55 => (((5 : Int32) ≤ v5 → (∀ x_1, x_1 = v4 + (1 : Int32) → KL55 v0 v1 v2 v3 x_1 u)) ∧ (¬ ((5 : Int32) ≤ v5) → (∃ q_2, mR u v0 30 = some q_2 ∧ (∃ q_3, mR u v0 23 = some q_3 ∧ (vp_in ((((30 : Int32) * v1) + ((5 : Int32) * v4)) + v5) 4500 ∧ (vp_in ((((30 : Int32) * v3) + ((5 : Int32) * v4)) + v5) 4500 ∧ ∀ u_6, u_6 = mpI u q_2 ((((30 : Int32) * v3) + ((5 : Int32) * v4)) + v5).toNatClampNeg (mI u q_3 ((((30 : Int32) * v1) + ((5 : Int32) * v4)) + v5).toNatClampNeg) → (∀ x_7, x_7 = v5 + (1 : Int32) → bX9_come_89 n v0 v1 v2 v3 v4 x_7 u_6 K KL55)))))))
set_option maxRecDepth 100000 in
set_option maxHeartbeats 4000000 in
theorem tX9_come_89 {X : mCx} {G : mG} {u0 : mSt} {K : mSt → Prop} {KL55 : Nat → Int32 → Int32 → Int32 → Int32 → mSt → Prop} (F : mFx X G cX9_come wsX9_come RX9 "come" 0 0 none u0 (mPv K)) (hN : X.2.2.2.2.2.2.2.2.2.2.2.2.1 = 6) (hL55 : ∀ {v0 : Nat} {v1 : Int32} {v2 : Int32} {v3 : Int32} {v4 : Int32} {u : mSt}, mK u v0 = 10 → KL55 v0 v1 v2 v3 v4 u → mZ X u 55 [(0, .ref (G.1 + v0)), (1, .int v1), (2, .int v2), (3, .int v3), (4, .int v4)] []) : ∀ (n : Nat) {v0 : Nat} {v1 : Int32} {v2 : Int32} {v3 : Int32} {v4 : Int32} {v5 : Int32} {u : mSt}, mK u v0 = 10 → bX9_come_89 n v0 v1 v2 v3 v4 v5 u K KL55 → mZ X u 89 [(0, .ref (G.1 + v0)), (1, .int v1), (2, .int v2), (3, .int v3), (4, .int v4), (5, .int v5)] [] := by
  intro n
  induction n with
  | zero => intro v0 v1 v2 v3 v4 v5 u kv0 h; exact False.elim h
  | succ n ih =>
    intro v0 v1 v2 v3 v4 v5 u kv0 h
    refine mz_iload F dX9_come_89 5 rfl ?_
    refine mz_iconst (v := 5) F dX9_come_91 (by decide) ?_
    refine mz_icmp_ge (tgt := 135) F dX9_come_92 (by decide) (fun c_8 => ?_) (fun c_8 => ?_)
    · replace h := h.1 c_8
      obtain ⟨x_1, ex_1⟩ : ∃ y : Int32, y = v4 + (1 : Int32) := ⟨_, rfl⟩
      replace h := h x_1 ex_1
      refine mz_iinc (v := x_1) (lv2 := [(4, .int x_1), (0, .ref (G.1 + v0)), (1, .int v1), (2, .int v2), (3, .int v3), (5, .int v5)]) F dX9_come_135 4 rfl (by rw [ex_1]; rfl) hN (by decide) rfl ?_
      refine mz_goto (tgt := 55) F dX9_come_138 (by decide) ?_
      refine mz_sub [1, 2, 3, 4, 0] rfl ?_
      exact hL55 kv0 h
    · replace h := h.2 c_8
      refine mz_aload_n F dX9_come_95 rfl 0 rfl ?_
      obtain ⟨q_2, eq_2, h⟩ := h
      refine mz_getR F dX9_come_96 fX9_come_60 (by decide) kv0 eq_2 (fun kq_2 => ?_)
      refine mz_bipush (v := 30) F dX9_come_99 (by decide) ?_
      refine mz_iload_n F dX9_come_101 rfl 3 rfl ?_
      refine mz_imul F dX9_come_102 ?_
      refine mz_iconst (v := 5) F dX9_come_103 (by decide) ?_
      refine mz_iload F dX9_come_104 4 rfl ?_
      refine mz_imul F dX9_come_106 ?_
      refine mz_iadd F dX9_come_107 ?_
      refine mz_iload F dX9_come_108 5 rfl ?_
      refine mz_iadd F dX9_come_110 ?_
      refine mz_aload_n F dX9_come_111 rfl 0 rfl ?_
      obtain ⟨q_3, eq_3, h⟩ := h
      refine mz_getR F dX9_come_112 fX9_come_41 (by decide) kv0 eq_3 (fun kq_3 => ?_)
      refine mz_bipush (v := 30) F dX9_come_115 (by decide) ?_
      refine mz_iload_n F dX9_come_117 rfl 1 rfl ?_
      refine mz_imul F dX9_come_118 ?_
      refine mz_iconst (v := 5) F dX9_come_119 (by decide) ?_
      refine mz_iload F dX9_come_120 4 rfl ?_
      refine mz_imul F dX9_come_122 ?_
      refine mz_iadd F dX9_come_123 ?_
      refine mz_iload F dX9_come_124 5 rfl ?_
      refine mz_iadd F dX9_come_126 ?_
      obtain ⟨b_4, h⟩ := h
      refine mz_iald F dX9_come_127 kq_3 rfl b_4 ?_
      obtain ⟨b_5, h⟩ := h
      refine mz_iast F dX9_come_128 kq_2 rfl b_5 (fun u_6 eu_6 hxu_6 => ?_)
      replace h := h u_6 eu_6
      replace kv0 := hxu_6.2.2 _ _ (by decide) kv0
      obtain ⟨x_7, ex_7⟩ : ∃ y : Int32, y = v5 + (1 : Int32) := ⟨_, rfl⟩
      replace h := h x_7 ex_7
      refine mz_iinc (v := x_7) (lv2 := [(5, .int x_7), (0, .ref (G.1 + v0)), (1, .int v1), (2, .int v2), (3, .int v3), (4, .int v4)]) F dX9_come_129 5 rfl (by rw [ex_7]; rfl) hN (by decide) rfl ?_
      refine mz_goto (tgt := 89) F dX9_come_132 (by decide) ?_
      refine mz_sub [1, 2, 3, 4, 5, 0] rfl ?_
      exact ih kv0 h
def bX9_come_144 : Nat → Nat → Int32 → Int32 → Int32 → Int32 → mSt → (mSt → Prop) → Prop
  | 0, _, _, _, _, _, _, _ => False
  | n + 1, v0, v1, v2, v3, v4, u, K => (((mI u v0 12) ≤ v4 → (∃ q_1, mR u v0 33 = some q_1 ∧ (vp_in (((201 : Int32) * v3) + (mI u v0 12)) 30150 ∧ ∀ u_3, u_3 = mpI u q_1 (((201 : Int32) * v3) + (mI u v0 12)).toNatClampNeg (vp_nar .byte v2.toInt8.toInt32) → (∀ u_4, u_4 = mpI u_3 v0 27 ((mI u_3 v0 27) + (1 : Int32)) → K u_4)))) ∧ (¬ ((mI u v0 12) ≤ v4) → (∃ q_5, mR u v0 33 = some q_5 ∧ (∃ q_6, mR u v0 26 = some q_6 ∧ (vp_in (((201 : Int32) * v1) + v4) 30150 ∧ (vp_in (((201 : Int32) * v3) + v4) 30150 ∧ ∀ u_9, u_9 = mpI u q_5 (((201 : Int32) * v3) + v4).toNatClampNeg (vp_nar .byte (mI u q_6 (((201 : Int32) * v1) + v4).toNatClampNeg)) → (∀ x_10, x_10 = v4 + (1 : Int32) → bX9_come_144 n v0 v1 v2 v3 x_10 u_9 K)))))))
set_option maxRecDepth 100000 in
set_option maxHeartbeats 4000000 in
theorem tX9_come_144 {X : mCx} {G : mG} {u0 : mSt} {K : mSt → Prop} (F : mFx X G cX9_come wsX9_come RX9 "come" 0 0 none u0 (mPv K)) (hN : X.2.2.2.2.2.2.2.2.2.2.2.2.1 = 6) : ∀ (n : Nat) {v0 : Nat} {v1 : Int32} {v2 : Int32} {v3 : Int32} {v4 : Int32} {u : mSt}, mK u v0 = 10 → bX9_come_144 n v0 v1 v2 v3 v4 u K → mZ X u 144 [(0, .ref (G.1 + v0)), (1, .int v1), (2, .int v2), (3, .int v3), (4, .int v4)] [] := by
  intro n
  induction n with
  | zero => intro v0 v1 v2 v3 v4 u kv0 h; exact False.elim h
  | succ n ih =>
    intro v0 v1 v2 v3 v4 u kv0 h
    refine mz_iload F dX9_come_144 4 rfl ?_
    refine mz_aload_n F dX9_come_146 rfl 0 rfl ?_
    refine mz_getI F dX9_come_147 fX9_come_168 kv0 ?_
    refine mz_icmp_ge (tgt := 185) F dX9_come_150 (by decide) (fun c_11 => ?_) (fun c_11 => ?_)
    · replace h := h.1 c_11
      refine mz_aload_n F dX9_come_185 rfl 0 rfl ?_
      obtain ⟨q_1, eq_1, h⟩ := h
      refine mz_getR F dX9_come_186 fX9_come_69 (by decide) kv0 eq_1 (fun kq_1 => ?_)
      refine mz_sipush (v := 201) F dX9_come_189 (by decide) ?_
      refine mz_iload_n F dX9_come_192 rfl 3 rfl ?_
      refine mz_imul F dX9_come_193 ?_
      refine mz_aload_n F dX9_come_194 rfl 0 rfl ?_
      refine mz_getI F dX9_come_195 fX9_come_168 kv0 ?_
      refine mz_iadd F dX9_come_198 ?_
      refine mz_iload_n F dX9_come_199 rfl 2 rfl ?_
      refine mz_i2b F dX9_come_200 ?_
      obtain ⟨b_2, h⟩ := h
      refine mz_bast F dX9_come_201 kq_1 rfl b_2 (fun u_3 eu_3 hxu_3 => ?_)
      replace h := h u_3 eu_3
      replace kv0 := hxu_3.2.2 _ _ (by decide) kv0
      refine mz_aload_n F dX9_come_202 rfl 0 rfl ?_
      refine mz_dup F dX9_come_203 rfl ?_
      refine mz_getI F dX9_come_204 fX9_come_183 kv0 ?_
      refine mz_iconst (v := 1) F dX9_come_207 (by decide) ?_
      refine mz_iadd F dX9_come_208 ?_
      refine mz_putI F dX9_come_209 fX9_come_183 kv0 rfl rfl (fun u_4 eu_4 hxu_4 => ?_)
      replace h := h u_4 eu_4
      exact mz_vret F dX9_come_212 ⟨rfl, h⟩
    · replace h := h.2 c_11
      refine mz_aload_n F dX9_come_153 rfl 0 rfl ?_
      obtain ⟨q_5, eq_5, h⟩ := h
      refine mz_getR F dX9_come_154 fX9_come_69 (by decide) kv0 eq_5 (fun kq_5 => ?_)
      refine mz_sipush (v := 201) F dX9_come_157 (by decide) ?_
      refine mz_iload_n F dX9_come_160 rfl 3 rfl ?_
      refine mz_imul F dX9_come_161 ?_
      refine mz_iload F dX9_come_162 4 rfl ?_
      refine mz_iadd F dX9_come_164 ?_
      refine mz_aload_n F dX9_come_165 rfl 0 rfl ?_
      obtain ⟨q_6, eq_6, h⟩ := h
      refine mz_getR F dX9_come_166 fX9_come_50 (by decide) kv0 eq_6 (fun kq_6 => ?_)
      refine mz_sipush (v := 201) F dX9_come_169 (by decide) ?_
      refine mz_iload_n F dX9_come_172 rfl 1 rfl ?_
      refine mz_imul F dX9_come_173 ?_
      refine mz_iload F dX9_come_174 4 rfl ?_
      refine mz_iadd F dX9_come_176 ?_
      obtain ⟨b_7, h⟩ := h
      refine mz_bald F dX9_come_177 kq_6 rfl b_7 ?_
      obtain ⟨b_8, h⟩ := h
      refine mz_bast F dX9_come_178 kq_5 rfl b_8 (fun u_9 eu_9 hxu_9 => ?_)
      replace h := h u_9 eu_9
      replace kv0 := hxu_9.2.2 _ _ (by decide) kv0
      obtain ⟨x_10, ex_10⟩ : ∃ y : Int32, y = v4 + (1 : Int32) := ⟨_, rfl⟩
      replace h := h x_10 ex_10
      refine mz_iinc (v := x_10) (lv2 := [(4, .int x_10), (0, .ref (G.1 + v0)), (1, .int v1), (2, .int v2), (3, .int v3)]) F dX9_come_179 4 rfl (by rw [ex_10]; rfl) hN (by decide) rfl ?_
      refine mz_goto (tgt := 144) F dX9_come_182 (by decide) ?_
      refine mz_sub [1, 2, 3, 4, 0] rfl ?_
      exact ih kv0 h
def bX9_come_55 : Nat → Nat → Int32 → Int32 → Int32 → Int32 → mSt → (mSt → Prop) → Prop
  | 0, _, _, _, _, _, _, _ => False
  | n + 1, v0, v1, v2, v3, v4, u, K => (((6 : Int32) ≤ v4 → (∃ n9, bX9_come_144 n9 v0 v1 v2 v3 (0 : Int32) u K)) ∧ (¬ ((6 : Int32) ≤ v4) → (∃ q_1, mR u v0 29 = some q_1 ∧ (∃ q_2, mR u v0 22 = some q_2 ∧ (vp_in (((6 : Int32) * v1) + v4) 900 ∧ (vp_in (((6 : Int32) * v3) + v4) 900 ∧ ∀ u_5, u_5 = mpI u q_1 (((6 : Int32) * v3) + v4).toNatClampNeg (mI u q_2 (((6 : Int32) * v1) + v4).toNatClampNeg) → (∃ n9, bX9_come_89 n9 v0 v1 v2 v3 v4 (0 : Int32) u_5 K (fun z0 z1 z2 z3 z4 z5 => bX9_come_55 n z0 z1 z2 z3 z4 z5 K))))))))
set_option maxRecDepth 100000 in
set_option maxHeartbeats 4000000 in
theorem tX9_come_55 {X : mCx} {G : mG} {u0 : mSt} {K : mSt → Prop} (F : mFx X G cX9_come wsX9_come RX9 "come" 0 0 none u0 (mPv K)) (hN : X.2.2.2.2.2.2.2.2.2.2.2.2.1 = 6) : ∀ (n : Nat) {v0 : Nat} {v1 : Int32} {v2 : Int32} {v3 : Int32} {v4 : Int32} {u : mSt}, mK u v0 = 10 → bX9_come_55 n v0 v1 v2 v3 v4 u K → mZ X u 55 [(0, .ref (G.1 + v0)), (1, .int v1), (2, .int v2), (3, .int v3), (4, .int v4)] [] := by
  intro n
  induction n with
  | zero => intro v0 v1 v2 v3 v4 u kv0 h; exact False.elim h
  | succ n ih =>
    intro v0 v1 v2 v3 v4 u kv0 h
    refine mz_iload F dX9_come_55 4 rfl ?_
    refine mz_bipush (v := 6) F dX9_come_57 (by decide) ?_
    refine mz_icmp_ge (tgt := 141) F dX9_come_59 (by decide) (fun c_6 => ?_) (fun c_6 => ?_)
    · replace h := h.1 c_6
      refine mz_iconst (v := 0) F dX9_come_141 (by decide) ?_
      refine mz_istore (lv2 := [(4, .int (0 : Int32)), (0, .ref (G.1 + v0)), (1, .int v1), (2, .int v2), (3, .int v3)]) F dX9_come_142 hN (by decide) rfl ?_
      refine mz_sub [1, 2, 3, 4, 0] rfl ?_
      obtain ⟨n9, h⟩ := h
      exact tX9_come_144 F hN n9 kv0 h
    · replace h := h.2 c_6
      refine mz_aload_n F dX9_come_62 rfl 0 rfl ?_
      obtain ⟨q_1, eq_1, h⟩ := h
      refine mz_getR F dX9_come_63 fX9_come_57 (by decide) kv0 eq_1 (fun kq_1 => ?_)
      refine mz_bipush (v := 6) F dX9_come_66 (by decide) ?_
      refine mz_iload_n F dX9_come_68 rfl 3 rfl ?_
      refine mz_imul F dX9_come_69 ?_
      refine mz_iload F dX9_come_70 4 rfl ?_
      refine mz_iadd F dX9_come_72 ?_
      refine mz_aload_n F dX9_come_73 rfl 0 rfl ?_
      obtain ⟨q_2, eq_2, h⟩ := h
      refine mz_getR F dX9_come_74 fX9_come_38 (by decide) kv0 eq_2 (fun kq_2 => ?_)
      refine mz_bipush (v := 6) F dX9_come_77 (by decide) ?_
      refine mz_iload_n F dX9_come_79 rfl 1 rfl ?_
      refine mz_imul F dX9_come_80 ?_
      refine mz_iload F dX9_come_81 4 rfl ?_
      refine mz_iadd F dX9_come_83 ?_
      obtain ⟨b_3, h⟩ := h
      refine mz_iald F dX9_come_84 kq_2 rfl b_3 ?_
      obtain ⟨b_4, h⟩ := h
      refine mz_iast F dX9_come_85 kq_1 rfl b_4 (fun u_5 eu_5 hxu_5 => ?_)
      replace h := h u_5 eu_5
      replace kv0 := hxu_5.2.2 _ _ (by decide) kv0
      refine mz_iconst (v := 0) F dX9_come_86 (by decide) ?_
      refine mz_istore (lv2 := [(5, .int (0 : Int32)), (0, .ref (G.1 + v0)), (1, .int v1), (2, .int v2), (3, .int v3), (4, .int v4)]) F dX9_come_87 hN (by decide) rfl ?_
      refine mz_sub [1, 2, 3, 4, 5, 0] rfl ?_
      obtain ⟨n9, h⟩ := h
      exact tX9_come_89 F hN (fun k0 h => ih k0 h) n9 kv0 h
def bX9_come (this : Nat) (a1 : Int32) (a2 : Int32) (u : mSt) (K : mSt → Prop) : Prop := (((mI u this 27) = (150 : Int32) → (∀ u_15, u_15 = mpI u this 20 (1 : Int32) → K u_15)) ∧ (¬ ((mI u this 27) = (150 : Int32)) → (∀ x_1, x_1 = (mI u this 27) → (∃ q_2, mR u this 28 = some q_2 ∧ (∃ q_3, mR u this 21 = some q_3 ∧ (vp_in a1 150 ∧ (vp_in x_1 150 ∧ ∀ u_6, u_6 = mpI u q_2 x_1.toNatClampNeg (mI u q_3 a1.toNatClampNeg) → (∃ q_7, mR u_6 this 31 = some q_7 ∧ (vp_in x_1 150 ∧ ∀ u_9, u_9 = mpI u_6 q_7 x_1.toNatClampNeg a2 → (∃ q_10, mR u_9 this 32 = some q_10 ∧ (∃ q_11, mR u_9 this 25 = some q_11 ∧ (vp_in a1 150 ∧ (vp_in x_1 150 ∧ ∀ u_14, u_14 = mpI u_9 q_10 x_1.toNatClampNeg (mI u_9 q_11 a1.toNatClampNeg) → (∃ n9, bX9_come_55 n9 this a1 a2 x_1 (0 : Int32) u_14 K))))))))))))))
set_option maxRecDepth 100000 in
set_option maxHeartbeats 4000000 in
theorem tX9_come {X : mCx} {G : mG} {u0 : mSt} {K : mSt → Prop} (F : mFx X G cX9_come wsX9_come RX9 "come" 0 0 none u0 (mPv K)) (hN : X.2.2.2.2.2.2.2.2.2.2.2.2.1 = 6) {this : Nat} {a1 : Int32} {a2 : Int32} {u : mSt} (kthis : mK u this = 10) (h : bX9_come this a1 a2 u K) : mZ X u 0 [(0, .ref (G.1 + this)), (1, .int a1), (2, .int a2)] [] := by
  refine mz_aload_n F dX9_come_0 rfl 0 rfl ?_
  refine mz_getI F dX9_come_1 fX9_come_183 kthis ?_
  refine mz_sipush (v := 150) F dX9_come_4 (by decide) ?_
  refine mz_icmp_ne (tgt := 16) F dX9_come_7 (by decide) (fun c_16 => ?_) (fun c_16 => ?_)
  · replace h := h.2 c_16
    refine mz_aload_n F dX9_come_16 rfl 0 rfl ?_
    refine mz_getI F dX9_come_17 fX9_come_183 kthis ?_
    refine mz_topi (fun x_1 ex_1 => ?_)
    replace h := h x_1 ex_1
    refine mz_istore_n (lv2 := [(3, .int x_1), (0, .ref (G.1 + this)), (1, .int a1), (2, .int a2)]) F dX9_come_20 rfl hN (by decide) rfl ?_
    refine mz_aload_n F dX9_come_21 rfl 1 rfl ?_
    obtain ⟨q_2, eq_2, h⟩ := h
    refine mz_getR F dX9_come_22 fX9_come_54 (by decide) kthis eq_2 (fun kq_2 => ?_)
    refine mz_iload_n F dX9_come_25 rfl 0 rfl ?_
    refine mz_aload_n F dX9_come_26 rfl 1 rfl ?_
    obtain ⟨q_3, eq_3, h⟩ := h
    refine mz_getR F dX9_come_27 fX9_come_35 (by decide) kthis eq_3 (fun kq_3 => ?_)
    refine mz_iload_n F dX9_come_30 rfl 2 rfl ?_
    obtain ⟨b_4, h⟩ := h
    refine mz_iald F dX9_come_31 kq_3 rfl b_4 ?_
    obtain ⟨b_5, h⟩ := h
    refine mz_iast F dX9_come_32 kq_2 rfl b_5 (fun u_6 eu_6 hxu_6 => ?_)
    replace h := h u_6 eu_6
    replace kthis := hxu_6.2.2 _ _ (by decide) kthis
    refine mz_aload_n F dX9_come_33 rfl 1 rfl ?_
    obtain ⟨q_7, eq_7, h⟩ := h
    refine mz_getR F dX9_come_34 fX9_come_63 (by decide) kthis eq_7 (fun kq_7 => ?_)
    refine mz_iload_n F dX9_come_37 rfl 0 rfl ?_
    refine mz_iload_n F dX9_come_38 rfl 3 rfl ?_
    obtain ⟨b_8, h⟩ := h
    refine mz_iast F dX9_come_39 kq_7 rfl b_8 (fun u_9 eu_9 hxu_9 => ?_)
    replace h := h u_9 eu_9
    replace kthis := hxu_9.2.2 _ _ (by decide) kthis
    refine mz_aload_n F dX9_come_40 rfl 1 rfl ?_
    obtain ⟨q_10, eq_10, h⟩ := h
    refine mz_getR F dX9_come_41 fX9_come_66 (by decide) kthis eq_10 (fun kq_10 => ?_)
    refine mz_iload_n F dX9_come_44 rfl 0 rfl ?_
    refine mz_aload_n F dX9_come_45 rfl 1 rfl ?_
    obtain ⟨q_11, eq_11, h⟩ := h
    refine mz_getR F dX9_come_46 fX9_come_47 (by decide) kthis eq_11 (fun kq_11 => ?_)
    refine mz_iload_n F dX9_come_49 rfl 2 rfl ?_
    obtain ⟨b_12, h⟩ := h
    refine mz_iald F dX9_come_50 kq_11 rfl b_12 ?_
    obtain ⟨b_13, h⟩ := h
    refine mz_iast F dX9_come_51 kq_10 rfl b_13 (fun u_14 eu_14 hxu_14 => ?_)
    replace h := h u_14 eu_14
    replace kthis := hxu_14.2.2 _ _ (by decide) kthis
    refine mz_iconst (v := 0) F dX9_come_52 (by decide) ?_
    refine mz_istore (lv2 := [(4, .int (0 : Int32)), (3, .int x_1), (0, .ref (G.1 + this)), (1, .int a1), (2, .int a2)]) F dX9_come_53 hN (by decide) rfl ?_
    refine mz_sub [2, 3, 4, 1, 0] rfl ?_
    obtain ⟨n9, h⟩ := h
    exact tX9_come_55 F hN n9 kthis h
  · replace h := h.1 c_16
    refine mz_aload_n F dX9_come_10 rfl 0 rfl ?_
    refine mz_iconst (v := 1) F dX9_come_11 (by decide) ?_
    refine mz_putI F dX9_come_12 fX9_come_180 kthis rfl rfl (fun u_15 eu_15 hxu_15 => ?_)
    replace h := h u_15 eu_15
    exact mz_vret F dX9_come_15 ⟨rfl, h⟩
set_option maxRecDepth 100000 in
theorem kX9_come (l : Launch) (G : mG) {u : mSt} {K : mSt → Prop} {this : Nat} {a1 : Int32} {a2 : Int32} (kthis : mK u this = 10) (h : bX9_come this a1 a2 u K) : mCt l G yX9_come wsX9_come 0 0 [.ref (G.1 + this), .int a1, .int a2] u (mPv K) := by
  refine mCt.of (cc := cX9_come) (maxL := 6) (ret := none) (by decide) rfl (Nat.le_of_ble_eq_true rfl) ?_
  intro X hl hN F
  exact tX9_come F hN kthis h
/-! RoomMapperModel.learn(III)V -/
theorem wiX9_learn_9 : ∀ w ∈ u_ws RX9 TX9 52, w ∈ wsX9_learn := by decide +kernel
theorem fX9_learn_180 : mFld wsX9_learn RX9 180 10 20 0 .boolean false := ⟨9, _, RX9, TX9, 52, tyX9, rfl, rfl, rfl, by decide, wiX9_learn_9, tyX9_ok, nmX9, rfl, rfl, Or.inl ⟨by decide +kernel, fun _ => rfl⟩⟩
theorem fX9_learn_60 : mFld wsX9_learn RX9 60 10 30 25 (.array .int) true := ⟨9, _, RX9, TX9, 52, tyX9, rfl, rfl, rfl, by decide, wiX9_learn_9, tyX9_ok, nmX9, rfl, rfl, Or.inl ⟨by decide +kernel, fun _ => rfl⟩⟩
theorem fX9_learn_183 : mFld wsX9_learn RX9 183 10 27 0 .int false := ⟨9, _, RX9, TX9, 52, tyX9, rfl, rfl, rfl, by decide, wiX9_learn_9, tyX9_ok, nmX9, rfl, rfl, Or.inl ⟨by decide +kernel, fun _ => rfl⟩⟩
def bX9_learn (this : Nat) (a1 : Int32) (a2 : Int32) (a3 : Int32) (u : mSt) (K : mSt → Prop) : Prop := (((mI u this 20) = 0 → (∃ q_1, mR u this 30 = some q_1 ∧ (vp_in ((((30 : Int32) * ((mI u this 27) - (1 : Int32))) + ((5 : Int32) * a1)) + a2) 4500 ∧ ∀ u_3, u_3 = mpI u q_1 ((((30 : Int32) * ((mI u this 27) - (1 : Int32))) + ((5 : Int32) * a1)) + a2).toNatClampNeg a3 → K u_3))) ∧ (¬ ((mI u this 20) = 0) → K u))
set_option maxRecDepth 100000 in
set_option maxHeartbeats 4000000 in
theorem tX9_learn {X : mCx} {G : mG} {u0 : mSt} {K : mSt → Prop} (F : mFx X G cX9_learn wsX9_learn RX9 "learn" 0 0 none u0 (mPv K)) (hN : X.2.2.2.2.2.2.2.2.2.2.2.2.1 = 4) {this : Nat} {a1 : Int32} {a2 : Int32} {a3 : Int32} {u : mSt} (kthis : mK u this = 10) (h : bX9_learn this a1 a2 a3 u K) : mZ X u 0 [(0, .ref (G.1 + this)), (1, .int a1), (2, .int a2), (3, .int a3)] [] := by
  refine mz_aload_n F dX9_learn_0 rfl 0 rfl ?_
  refine mz_getI F dX9_learn_1 fX9_learn_180 kthis ?_
  refine mz_if_ne (tgt := 28) F dX9_learn_4 (by decide) (fun c_4 => ?_) (fun c_4 => ?_)
  · replace h := h.2 c_4
    exact mz_vret F dX9_learn_28 ⟨rfl, h⟩
  · replace h := h.1 c_4
    refine mz_aload_n F dX9_learn_7 rfl 0 rfl ?_
    obtain ⟨q_1, eq_1, h⟩ := h
    refine mz_getR F dX9_learn_8 fX9_learn_60 (by decide) kthis eq_1 (fun kq_1 => ?_)
    refine mz_bipush (v := 30) F dX9_learn_11 (by decide) ?_
    refine mz_aload_n F dX9_learn_13 rfl 0 rfl ?_
    refine mz_getI F dX9_learn_14 fX9_learn_183 kthis ?_
    refine mz_iconst (v := 1) F dX9_learn_17 (by decide) ?_
    refine mz_isub F dX9_learn_18 ?_
    refine mz_imul F dX9_learn_19 ?_
    refine mz_iconst (v := 5) F dX9_learn_20 (by decide) ?_
    refine mz_iload_n F dX9_learn_21 rfl 1 rfl ?_
    refine mz_imul F dX9_learn_22 ?_
    refine mz_iadd F dX9_learn_23 ?_
    refine mz_iload_n F dX9_learn_24 rfl 2 rfl ?_
    refine mz_iadd F dX9_learn_25 ?_
    refine mz_iload_n F dX9_learn_26 rfl 3 rfl ?_
    obtain ⟨b_2, h⟩ := h
    refine mz_iast F dX9_learn_27 kq_1 rfl b_2 (fun u_3 eu_3 hxu_3 => ?_)
    replace h := h u_3 eu_3
    exact mz_vret F dX9_learn_28 ⟨rfl, h⟩
set_option maxRecDepth 100000 in
theorem kX9_learn (l : Launch) (G : mG) {u : mSt} {K : mSt → Prop} {this : Nat} {a1 : Int32} {a2 : Int32} {a3 : Int32} (kthis : mK u this = 10) (h : bX9_learn this a1 a2 a3 u K) : mCt l G yX9_learn wsX9_learn 0 0 [.ref (G.1 + this), .int a1, .int a2, .int a3] u (mPv K) := by
  refine mCt.of (cc := cX9_learn) (maxL := 4) (ret := none) (by decide) rfl (Nat.le_of_ble_eq_true rfl) ?_
  intro X hl hN F
  exact tX9_learn F hN kthis h
/-! RoomMapperModel.fits(II)Z -/
theorem wiX9_fits_9 : ∀ w ∈ u_ws RX9 TX9 52, w ∈ wsX9_fits := by decide +kernel
theorem fX9_fits_38 : mFld wsX9_fits RX9 38 10 22 24 (.array .int) true := ⟨9, _, RX9, TX9, 52, tyX9, rfl, rfl, rfl, by decide, wiX9_fits_9, tyX9_ok, nmX9, rfl, rfl, Or.inl ⟨by decide +kernel, fun _ => rfl⟩⟩
theorem fX9_fits_7 : mFld wsX9_fits RX9 7 10 2 12 (.array .int) true := ⟨9, _, RX9, TX9, 52, tyX9, rfl, rfl, rfl, by decide, wiX9_fits_9, tyX9_ok, nmX9, rfl, rfl, Or.inl ⟨by decide +kernel, fun _ => rfl⟩⟩
theorem fX9_fits_148 : mFld wsX9_fits RX9 148 10 7 0 .int false := ⟨9, _, RX9, TX9, 52, tyX9, rfl, rfl, rfl, by decide, wiX9_fits_9, tyX9_ok, nmX9, rfl, rfl, Or.inl ⟨by decide +kernel, fun _ => rfl⟩⟩
theorem fX9_fits_47 : mFld wsX9_fits RX9 47 10 25 15 (.array .int) true := ⟨9, _, RX9, TX9, 52, tyX9, rfl, rfl, rfl, by decide, wiX9_fits_9, tyX9_ok, nmX9, rfl, rfl, Or.inl ⟨by decide +kernel, fun _ => rfl⟩⟩
def bX9_fits_38 (v0 : Nat) (w0 : Int32) (u : mSt) (K : Int32 → mSt → Prop) : Prop := bX9_liesHere v0 u (fun r_3 u_2 => ((w0 = r_3 → K (1 : Int32) u_2) ∧ (¬ (w0 = r_3) → K (0 : Int32) u_2)))
set_option maxRecDepth 100000 in
set_option maxHeartbeats 4000000 in
theorem tX9_fits_38 {X : mCx} {G : mG} {u0 : mSt} {K : Int32 → mSt → Prop} (F : mFx X G cX9_fits wsX9_fits RX9 "fits" 1 20 (some .boolean) u0 (mPz K)) (hN : X.2.2.2.2.2.2.2.2.2.2.2.2.1 = 3) {v0 : Nat} {w0 : Int32} {u : mSt} (kv0 : mK u v0 = 10) (h : bX9_fits_38 v0 w0 u K) : mZ X u 38 [(0, .ref (G.1 + v0))] [.int w0] := by
  refine mz_aload_n F dX9_fits_38 rfl 0 rfl ?_
  refine mz_callV (As := []) (n := 0) F dX9_fits_39 rfl kv0 rfl rfl gX9_fits_X9_liesHere (by decide +kernel) (by decide) rfl (Nat.le_of_ble_eq_true rfl) (kX9_liesHere _ G kv0 h) (mz_kZ fun r_3 u_2 br_3 h hx_1 => ?_)
  refine mz_icmp_ne (tgt := 49) F dX9_fits_42 (by decide) (fun c_4 => ?_) (fun c_4 => ?_)
  · replace h := h.2 c_4
    refine mz_iconst (v := 0) F dX9_fits_49 (by decide) ?_
    exact mz_zret F dX9_fits_50 rfl ⟨_, rfl, by decide, h⟩
  · replace h := h.1 c_4
    refine mz_iconst (v := 1) F dX9_fits_45 (by decide) ?_
    refine mz_goto (tgt := 50) F dX9_fits_46 (by decide) ?_
    exact mz_zret F dX9_fits_50 rfl ⟨_, rfl, by decide, h⟩
def bX9_fits (this : Nat) (a1 : Int32) (a2 : Int32) (u : mSt) (K : Int32 → mSt → Prop) : Prop := (∃ q_1, mR u this 22 = some q_1 ∧ (vp_in (((6 : Int32) * a1) + a2) 900 ∧ (∃ q_3, mR u this 2 = some q_3 ∧ (vp_in (mI u this 7) 10 ∧ (((mI u q_1 (((6 : Int32) * a1) + a2).toNatClampNeg) = (mI u q_3 (mI u this 7).toNatClampNeg) → (∃ q_5, mR u this 25 = some q_5 ∧ (vp_in a1 150 ∧ (((mI u q_5 a1.toNatClampNeg) = a2 → bX9_fits_38 this (1 : Int32) u K) ∧ (¬ ((mI u q_5 a1.toNatClampNeg) = a2) → bX9_fits_38 this (0 : Int32) u K))))) ∧ (¬ ((mI u q_1 (((6 : Int32) * a1) + a2).toNatClampNeg) = (mI u q_3 (mI u this 7).toNatClampNeg)) → K (0 : Int32) u))))))
set_option maxRecDepth 100000 in
set_option maxHeartbeats 4000000 in
theorem tX9_fits {X : mCx} {G : mG} {u0 : mSt} {K : Int32 → mSt → Prop} (F : mFx X G cX9_fits wsX9_fits RX9 "fits" 1 20 (some .boolean) u0 (mPz K)) (hN : X.2.2.2.2.2.2.2.2.2.2.2.2.1 = 3) {this : Nat} {a1 : Int32} {a2 : Int32} {u : mSt} (kthis : mK u this = 10) (h : bX9_fits this a1 a2 u K) : mZ X u 0 [(0, .ref (G.1 + this)), (1, .int a1), (2, .int a2)] [] := by
  refine mz_aload_n F dX9_fits_0 rfl 0 rfl ?_
  obtain ⟨q_1, eq_1, h⟩ := h
  refine mz_getR F dX9_fits_1 fX9_fits_38 (by decide) kthis eq_1 (fun kq_1 => ?_)
  refine mz_bipush (v := 6) F dX9_fits_4 (by decide) ?_
  refine mz_iload_n F dX9_fits_6 rfl 1 rfl ?_
  refine mz_imul F dX9_fits_7 ?_
  refine mz_iload_n F dX9_fits_8 rfl 2 rfl ?_
  refine mz_iadd F dX9_fits_9 ?_
  obtain ⟨b_2, h⟩ := h
  refine mz_iald F dX9_fits_10 kq_1 rfl b_2 ?_
  refine mz_aload_n F dX9_fits_11 rfl 0 rfl ?_
  obtain ⟨q_3, eq_3, h⟩ := h
  refine mz_getR F dX9_fits_12 fX9_fits_7 (by decide) kthis eq_3 (fun kq_3 => ?_)
  refine mz_aload_n F dX9_fits_15 rfl 0 rfl ?_
  refine mz_getI F dX9_fits_16 fX9_fits_148 kthis ?_
  obtain ⟨b_4, h⟩ := h
  refine mz_iald F dX9_fits_19 kq_3 rfl b_4 ?_
  refine mz_icmp_ne (tgt := 49) F dX9_fits_20 (by decide) (fun c_8 => ?_) (fun c_8 => ?_)
  · replace h := h.2 c_8
    refine mz_iconst (v := 0) F dX9_fits_49 (by decide) ?_
    exact mz_zret F dX9_fits_50 rfl ⟨_, rfl, by decide, h⟩
  · replace h := h.1 c_8
    refine mz_aload_n F dX9_fits_23 rfl 0 rfl ?_
    obtain ⟨q_5, eq_5, h⟩ := h
    refine mz_getR F dX9_fits_24 fX9_fits_47 (by decide) kthis eq_5 (fun kq_5 => ?_)
    refine mz_iload_n F dX9_fits_27 rfl 1 rfl ?_
    obtain ⟨b_6, h⟩ := h
    refine mz_iald F dX9_fits_28 kq_5 rfl b_6 ?_
    refine mz_iload_n F dX9_fits_29 rfl 2 rfl ?_
    refine mz_icmp_ne (tgt := 37) F dX9_fits_30 (by decide) (fun c_7 => ?_) (fun c_7 => ?_)
    · replace h := h.2 c_7
      refine mz_iconst (v := 0) F dX9_fits_37 (by decide) ?_
      refine mz_sub [0] rfl ?_
      exact tX9_fits_38 F hN kthis h
    · replace h := h.1 c_7
      refine mz_iconst (v := 1) F dX9_fits_33 (by decide) ?_
      refine mz_goto (tgt := 38) F dX9_fits_34 (by decide) ?_
      refine mz_sub [0] rfl ?_
      exact tX9_fits_38 F hN kthis h
set_option maxRecDepth 100000 in
theorem kX9_fits (l : Launch) (G : mG) {u : mSt} {K : Int32 → mSt → Prop} {this : Nat} {a1 : Int32} {a2 : Int32} (kthis : mK u this = 10) (h : bX9_fits this a1 a2 u K) : mCt l G yX9_fits wsX9_fits 1 20 [.ref (G.1 + this), .int a1, .int a2] u (mPz K) := by
  refine mCt.of (cc := cX9_fits) (maxL := 3) (ret := (some .boolean)) (by decide) rfl (Nat.le_of_ble_eq_true rfl) ?_
  intro X hl hN F
  exact tX9_fits F hN kthis h
