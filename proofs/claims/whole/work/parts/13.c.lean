theorem nwM6_23 : Cond.methodLinkNest RX6 23 yX8_within "RoomMapper" ∈ tables_1 := by decide +kernel
theorem nwM7_22 : Cond.methodLinkNest RX7 22 yX8_bumpOf "RoomMapper" ∈ tables_1 := by decide +kernel
theorem nwM8_64 : Cond.methodLinkNest RX8 64 yX5_init "RoomMapper" ∈ tables_1 := by decide +kernel
theorem nwM8_11 : Cond.methodLinkNest RX8 11 yX1_init "RoomMapper" ∈ tables_1 := by decide +kernel
theorem nwM8_18 : Cond.methodLinkNest RX8 18 yX7_init "RoomMapper" ∈ tables_1 := by decide +kernel
theorem nwM8_25 : Cond.methodLinkNest RX8 25 yX0_init "RoomMapper" ∈ tables_1 := by decide +kernel
theorem nwM8_32 : Cond.methodLinkNest RX8 32 yX2_init "RoomMapper" ∈ tables_1 := by decide +kernel
theorem nwM8_39 : Cond.methodLinkNest RX8 39 yX3_init "RoomMapper" ∈ tables_1 := by decide +kernel
theorem nwM8_46 : Cond.methodLinkNest RX8 46 yX4_init "RoomMapper" ∈ tables_1 := by decide +kernel
theorem nwM8_53 : Cond.methodLinkNest RX8 53 yX6_init "RoomMapper" ∈ tables_1 := by decide +kernel
theorem nwF8_69 : Cond.fieldLinkNest RX8 69 RX1 "cells" "I" "RoomMapper" ∈ tables_1 := by decide +kernel
theorem nwM8_73 : Cond.methodLinkNest RX8 73 yX1_addCell "RoomMapper" ∈ tables_1 := by decide +kernel
theorem nwM8_77 : Cond.methodLinkNest RX8 77 yX1_setLead "RoomMapper" ∈ tables_1 := by decide +kernel
theorem nwM8_85 : Cond.methodLinkNest RX8 85 yX1_begin "RoomMapper" ∈ tables_1 := by decide +kernel
theorem nwF8_88 : Cond.fieldLinkNest RX8 88 RX7 "length" "I" "RoomMapper" ∈ tables_1 := by decide +kernel
theorem nwF8_91 : Cond.fieldLinkNest RX8 91 RX1 "signs" "[I" "RoomMapper" ∈ tables_1 := by decide +kernel
theorem nwM8_95 : Cond.methodLinkNest RX8 95 yX0_begin "RoomMapper" ∈ tables_1 := by decide +kernel
theorem nwM8_98 : Cond.methodLinkNest RX8 98 yX1_perform "RoomMapper" ∈ tables_1 := by decide +kernel
theorem nwM8_102 : Cond.methodLinkNest RX8 102 yX1_sight "RoomMapper" ∈ tables_1 := by decide +kernel
theorem nwM8_106 : Cond.methodLinkNest RX8 106 yX7_add "RoomMapper" ∈ tables_1 := by decide +kernel
theorem nwM8_109 : Cond.methodLinkNest RX8 109 yX0_advance "RoomMapper" ∈ tables_1 := by decide +kernel
theorem nwM8_112 : Cond.methodLinkNest RX8 112 yX7_bumpedLast "RoomMapper" ∈ tables_1 := by decide +kernel
theorem nwF8_126 : Cond.fieldLinkNest RX8 126 RX1 "pebble" "I" "RoomMapper" ∈ tables_1 := by decide +kernel
theorem nwF8_129 : Cond.fieldLinkNest RX8 129 RX7 "sights" "[I" "RoomMapper" ∈ tables_1 := by decide +kernel
theorem nwF8_132 : Cond.fieldLinkNest RX8 132 RX7 "acts" "[I" "RoomMapper" ∈ tables_1 := by decide +kernel
/-! RoomMapper$Shelf.isRow()Z -/
theorem wiX5_isRow_5 : ∀ w ∈ u_ws RX5 TX5 5, w ∈ wsX5_isRow := by decide +kernel
theorem fX5_isRow_15 : mFld wsX5_isRow RX5 15 6 1 0 .int false := ⟨5, _, RX5, TX5, 5, tyX5, rfl, rfl, rfl, by decide, wiX5_isRow_5, tyX5_ok, nmX5, rfl, rfl, Or.inl ⟨by decide +kernel, fun _ => rfl⟩⟩
def bX5_isRow (this : Nat) (u : mSt) (K : Int32 → mSt → Prop) : Prop := (((mI u this 1) = (3 : Int32) → K (1 : Int32) u) ∧ (¬ ((mI u this 1) = (3 : Int32)) → (((mI u this 1) = (4 : Int32) → K (1 : Int32) u) ∧ (¬ ((mI u this 1) = (4 : Int32)) → K (0 : Int32) u))))
set_option maxRecDepth 100000 in
set_option maxHeartbeats 4000000 in
theorem tX5_isRow {X : mCx} {G : mG} {u0 : mSt} {K : Int32 → mSt → Prop} (F : mFx X G cX5_isRow wsX5_isRow RX5 "isRow" 0 0 (some .boolean) u0 (mPz K)) (hN : X.2.2.2.2.2.2.2.2.2.2.2.2.1 = 1) {this : Nat} {u : mSt} (kthis : mK u this = 6) (h : bX5_isRow this u K) : mZ X u 0 [(0, .ref (G.1 + this))] [] := by
  refine mz_aload_n F dX5_isRow_0 rfl 0 rfl ?_
  refine mz_getI F dX5_isRow_1 fX5_isRow_15 kthis ?_
  refine mz_iconst (v := 3) F dX5_isRow_4 (by decide) ?_
  refine mz_icmp_eq (tgt := 16) F dX5_isRow_5 (by decide) (fun c_2 => ?_) (fun c_2 => ?_)
  · replace h := h.1 c_2
    refine mz_iconst (v := 1) F dX5_isRow_16 (by decide) ?_
    refine mz_goto (tgt := 21) F dX5_isRow_17 (by decide) ?_
    exact mz_zret F dX5_isRow_21 rfl ⟨_, rfl, by decide, h⟩
  · replace h := h.2 c_2
    refine mz_aload_n F dX5_isRow_8 rfl 0 rfl ?_
    refine mz_getI F dX5_isRow_9 fX5_isRow_15 kthis ?_
    refine mz_iconst (v := 4) F dX5_isRow_12 (by decide) ?_
    refine mz_icmp_ne (tgt := 20) F dX5_isRow_13 (by decide) (fun c_1 => ?_) (fun c_1 => ?_)
    · replace h := h.2 c_1
      refine mz_iconst (v := 0) F dX5_isRow_20 (by decide) ?_
      exact mz_zret F dX5_isRow_21 rfl ⟨_, rfl, by decide, h⟩
    · replace h := h.1 c_1
      refine mz_iconst (v := 1) F dX5_isRow_16 (by decide) ?_
      refine mz_goto (tgt := 21) F dX5_isRow_17 (by decide) ?_
      exact mz_zret F dX5_isRow_21 rfl ⟨_, rfl, by decide, h⟩
set_option maxRecDepth 100000 in
theorem kX5_isRow (l : Launch) (G : mG) {u : mSt} {K : Int32 → mSt → Prop} {this : Nat} (kthis : mK u this = 6) (h : bX5_isRow this u K) : mCt l G yX5_isRow wsX5_isRow 0 0 [.ref (G.1 + this)] u (mPz K) := by
  refine mCt.of (cc := cX5_isRow) (maxL := 1) (ret := (some .boolean)) (by decide) rfl (Nat.le_of_ble_eq_true rfl) ?_
  intro X hl hN F
  exact tX5_isRow F hN kthis h
/-! RoomMapper$Shelf.hasStretch(II)Z -/
theorem wiX5_hasStretch_5 : ∀ w ∈ u_ws RX5 TX5 5, w ∈ wsX5_hasStretch := by decide +kernel
theorem fX5_hasStretch_25 : mFld wsX5_hasStretch RX5 25 6 4 0 .int false := ⟨5, _, RX5, TX5, 5, tyX5, rfl, rfl, rfl, by decide, wiX5_hasStretch_5, tyX5_ok, nmX5, rfl, rfl, Or.inl ⟨by decide +kernel, fun _ => rfl⟩⟩
def bX5_hasStretch (this : Nat) (a1 : Int32) (a2 : Int32) (u : mSt) (K : Int32 → mSt → Prop) : Prop := ((a1 < 0 → K (0 : Int32) u) ∧ (¬ (a1 < 0) → ((a2 < 0 → K (0 : Int32) u) ∧ (¬ (a2 < 0) → (((mI u this 4) < a1 → K (0 : Int32) u) ∧ (¬ ((mI u this 4) < a1) → ((((mI u this 4) - a1) < a2 → K (0 : Int32) u) ∧ (¬ (((mI u this 4) - a1) < a2) → K (1 : Int32) u))))))))
set_option maxRecDepth 100000 in
set_option maxHeartbeats 4000000 in
theorem tX5_hasStretch {X : mCx} {G : mG} {u0 : mSt} {K : Int32 → mSt → Prop} (F : mFx X G cX5_hasStretch wsX5_hasStretch RX5 "hasStretch" 0 0 (some .boolean) u0 (mPz K)) (hN : X.2.2.2.2.2.2.2.2.2.2.2.2.1 = 3) {this : Nat} {a1 : Int32} {a2 : Int32} {u : mSt} (kthis : mK u this = 6) (h : bX5_hasStretch this a1 a2 u K) : mZ X u 0 [(0, .ref (G.1 + this)), (1, .int a1), (2, .int a2)] [] := by
  refine mz_iload_n F dX5_hasStretch_0 rfl 1 rfl ?_
  refine mz_if_lt (tgt := 30) F dX5_hasStretch_1 (by decide) (fun c_4 => ?_) (fun c_4 => ?_)
  · replace h := h.1 c_4
    refine mz_iconst (v := 0) F dX5_hasStretch_30 (by decide) ?_
    exact mz_zret F dX5_hasStretch_31 rfl ⟨_, rfl, by decide, h⟩
  · replace h := h.2 c_4
    refine mz_iload_n F dX5_hasStretch_4 rfl 2 rfl ?_
    refine mz_if_lt (tgt := 30) F dX5_hasStretch_5 (by decide) (fun c_3 => ?_) (fun c_3 => ?_)
    · replace h := h.1 c_3
      refine mz_iconst (v := 0) F dX5_hasStretch_30 (by decide) ?_
      exact mz_zret F dX5_hasStretch_31 rfl ⟨_, rfl, by decide, h⟩
    · replace h := h.2 c_3
      refine mz_iload_n F dX5_hasStretch_8 rfl 1 rfl ?_
      refine mz_aload_n F dX5_hasStretch_9 rfl 0 rfl ?_
      refine mz_getI F dX5_hasStretch_10 fX5_hasStretch_25 kthis ?_
      refine mz_icmp_gt (tgt := 30) F dX5_hasStretch_13 (by decide) (fun c_2 => ?_) (fun c_2 => ?_)
      · replace h := h.1 c_2
        refine mz_iconst (v := 0) F dX5_hasStretch_30 (by decide) ?_
        exact mz_zret F dX5_hasStretch_31 rfl ⟨_, rfl, by decide, h⟩
      · replace h := h.2 c_2
        refine mz_iload_n F dX5_hasStretch_16 rfl 2 rfl ?_
        refine mz_aload_n F dX5_hasStretch_17 rfl 0 rfl ?_
        refine mz_getI F dX5_hasStretch_18 fX5_hasStretch_25 kthis ?_
        refine mz_iload_n F dX5_hasStretch_21 rfl 1 rfl ?_
        refine mz_isub F dX5_hasStretch_22 ?_
        refine mz_icmp_gt (tgt := 30) F dX5_hasStretch_23 (by decide) (fun c_1 => ?_) (fun c_1 => ?_)
        · replace h := h.1 c_1
          refine mz_iconst (v := 0) F dX5_hasStretch_30 (by decide) ?_
          exact mz_zret F dX5_hasStretch_31 rfl ⟨_, rfl, by decide, h⟩
        · replace h := h.2 c_1
          refine mz_iconst (v := 1) F dX5_hasStretch_26 (by decide) ?_
          refine mz_goto (tgt := 31) F dX5_hasStretch_27 (by decide) ?_
          exact mz_zret F dX5_hasStretch_31 rfl ⟨_, rfl, by decide, h⟩
set_option maxRecDepth 100000 in
theorem kX5_hasStretch (l : Launch) (G : mG) {u : mSt} {K : Int32 → mSt → Prop} {this : Nat} {a1 : Int32} {a2 : Int32} (kthis : mK u this = 6) (h : bX5_hasStretch this a1 a2 u K) : mCt l G yX5_hasStretch wsX5_hasStretch 0 0 [.ref (G.1 + this), .int a1, .int a2] u (mPz K) := by
  refine mCt.of (cc := cX5_hasStretch) (maxL := 3) (ret := (some .boolean)) (by decide) rfl (Nat.le_of_ble_eq_true rfl) ?_
  intro X hl hN F
  exact tX5_hasStretch F hN kthis h
/-! RoomMapper$Todo.<init>()V -/
theorem mX6_init_ol3 : Cond.methodLink RX6 3 objectInit ∈ wsX6_init := by decide +kernel
theorem mX6_init_oi : Cond.instanceMethod objectInit ∈ wsX6_init := by decide +kernel
theorem mX6_init_oc : Cond.code objectInit ⟨#[0xb1]⟩ 1 none ∈ wsX6_init := by decide +kernel
theorem mX6_init_fl9 : Cond.fieldLink RX6 9 "RoomMapper$Todo" "items" "[I" ∈ wsX6_init := by decide +kernel
theorem wiX6_init_6 : ∀ w ∈ u_ws RX6 TX6 3, w ∈ wsX6_init := by decide +kernel
theorem mX6_init_fl15 : Cond.fieldLink RX6 15 "RoomMapper$Todo" "had" "[Z" ∈ wsX6_init := by decide +kernel
theorem mX6_init_acZ : Cond.arrayClass .boolean ∈ wsX6_init := by decide +kernel
theorem mX6_init_acI : Cond.arrayClass .int ∈ wsX6_init := by decide +kernel
def bX6_init (this : Nat) (u : mSt) (K : mSt → Prop) : Prop := ((mN u + 1 ≤ mCapC ∧ mT u + 480 ≤ mCapS) ∧ ∀ p_4 u_2, p_4 = mN u → u_2 = mnw u 20 480 → (∀ u_5, u_5 = mpR u_2 this 0 (some p_4) → ((mN u_5 + 1 ≤ mCapC ∧ mT u_5 + 480 ≤ mCapS) ∧ ∀ p_9 u_7, p_9 = mN u_5 → u_7 = mnw u_5 21 480 → (∀ u_10, u_10 = mpR u_7 this 1 (some p_9) → K u_10))))
set_option maxRecDepth 100000 in
set_option maxHeartbeats 4000000 in
theorem tX6_init {X : mCx} {G : mG} {u0 : mSt} {K : mSt → Prop} (F : mFx X G cX6_init wsX6_init RX6 "<init>" 1 20 none u0 (mPv K)) (hN : X.2.2.2.2.2.2.2.2.2.2.2.2.1 = 1) {this : Nat} {u : mSt} (kthis : mK u this = 7) (h : bX6_init this u K) : mZ X u 0 [(0, .ref (G.1 + this))] [] := by
  refine mz_aload_n F dX6_init_0 rfl 0 rfl ?_
  refine mz_objInit F dX6_init_1 mX6_init_ol3 mX6_init_oi mX6_init_oc (by decide) (Nat.le_of_ble_eq_true rfl) ?_
  refine mz_aload_n F dX6_init_4 rfl 0 rfl ?_
  refine mz_sipush (v := 480) F dX6_init_5 (by decide) ?_
  obtain ⟨b_1, h⟩ := h
  refine mz_newaI (c := 20) F dX6_init_8 mX6_init_acI rfl (by decide) b_1 (fun p_4 u_2 ep_4 eu_2 hx_3 kp_4 => ?_)
  replace h := h p_4 u_2 ep_4 eu_2
  replace kthis := hx_3.2.2 _ _ (by decide) kthis
  refine mz_putRF (k := 0) (tys := tyX6) F dX6_init_10 rfl rfl rfl rfl (by decide) wiX6_init_6 tyX6_ok nmX6 rfl rfl rfl mX6_init_fl9 (by decide) kthis kp_4 (fun u_5 eu_5 hxu_5 => ?_)
  replace h := h u_5 eu_5
  replace kthis := hxu_5.2.2 _ _ (by decide) kthis
  refine mz_aload_n F dX6_init_13 rfl 0 rfl ?_
  refine mz_sipush (v := 480) F dX6_init_14 (by decide) ?_
  obtain ⟨b_6, h⟩ := h
  refine mz_newaZ (c := 21) F dX6_init_17 mX6_init_acZ rfl (by decide) b_6 (fun p_9 u_7 ep_9 eu_7 hx_8 kp_9 => ?_)
  replace h := h p_9 u_7 ep_9 eu_7
  replace kthis := hx_8.2.2 _ _ (by decide) kthis
  refine mz_putRF (k := 1) (tys := tyX6) F dX6_init_19 rfl rfl rfl rfl (by decide) wiX6_init_6 tyX6_ok nmX6 rfl rfl rfl mX6_init_fl15 (by decide) kthis kp_9 (fun u_10 eu_10 hxu_10 => ?_)
  replace h := h u_10 eu_10
  exact mz_vret F dX6_init_22 ⟨rfl, h⟩
set_option maxRecDepth 100000 in
theorem kX6_init (l : Launch) (G : mG) {u : mSt} {K : mSt → Prop} {this : Nat} (kthis : mK u this = 7) (h : bX6_init this u K) : mCt l G yX6_init wsX6_init 1 20 [.ref (G.1 + this)] u (mPv K) := by
  refine mCt.of (cc := cX6_init) (maxL := 1) (ret := none) (by decide) rfl (Nat.le_of_ble_eq_true rfl) ?_
  intro X hl hN F
  exact tX6_init F hN kthis h
/-! RoomMapper$Todo.clear()V -/
theorem wiX6_clear_6 : ∀ w ∈ u_ws RX6 TX6 3, w ∈ wsX6_clear := by decide +kernel
theorem fX6_clear_19 : mFld wsX6_clear RX6 19 7 2 0 .int false := ⟨6, _, RX6, TX6, 3, tyX6, rfl, rfl, rfl, by decide, wiX6_clear_6, tyX6_ok, nmX6, rfl, rfl, Or.inl ⟨by decide +kernel, fun _ => rfl⟩⟩
theorem fX6_clear_15 : mFld wsX6_clear RX6 15 7 1 21 (.array .boolean) true := ⟨6, _, RX6, TX6, 3, tyX6, rfl, rfl, rfl, by decide, wiX6_clear_6, tyX6_ok, nmX6, rfl, rfl, Or.inl ⟨by decide +kernel, fun _ => rfl⟩⟩
theorem fX6_clear_9 : mFld wsX6_clear RX6 9 7 0 20 (.array .int) true := ⟨6, _, RX6, TX6, 3, tyX6, rfl, rfl, rfl, by decide, wiX6_clear_6, tyX6_ok, nmX6, rfl, rfl, Or.inl ⟨by decide +kernel, fun _ => rfl⟩⟩
def bX6_clear_2 : Nat → Nat → Int32 → mSt → (mSt → Prop) → Prop
  | 0, _, _, _, _ => False
  | n + 1, v0, v1, u, K => (((mI u v0 2) ≤ v1 → (∀ u_1, u_1 = mpI u v0 2 (0 : Int32) → K u_1)) ∧ (¬ ((mI u v0 2) ≤ v1) → (∃ q_2, mR u v0 1 = some q_2 ∧ (∃ q_3, mR u v0 0 = some q_3 ∧ (vp_in v1 480 ∧ (vp_in (mI u q_3 v1.toNatClampNeg) 480 ∧ ∀ u_6, u_6 = mpI u q_2 (mI u q_3 v1.toNatClampNeg).toNatClampNeg (vp_nar .boolean (0 : Int32)) → (∀ x_7, x_7 = v1 + (1 : Int32) → bX6_clear_2 n v0 x_7 u_6 K)))))))
set_option maxRecDepth 100000 in
set_option maxHeartbeats 4000000 in
theorem tX6_clear_2 {X : mCx} {G : mG} {u0 : mSt} {K : mSt → Prop} (F : mFx X G cX6_clear wsX6_clear RX6 "clear" 0 0 none u0 (mPv K)) (hN : X.2.2.2.2.2.2.2.2.2.2.2.2.1 = 2) : ∀ (n : Nat) {v0 : Nat} {v1 : Int32} {u : mSt}, mK u v0 = 7 → bX6_clear_2 n v0 v1 u K → mZ X u 2 [(0, .ref (G.1 + v0)), (1, .int v1)] [] := by
  intro n
  induction n with
  | zero => intro v0 v1 u kv0 h; exact False.elim h
  | succ n ih =>
    intro v0 v1 u kv0 h
    refine mz_iload_n F dX6_clear_2 rfl 1 rfl ?_
    refine mz_aload_n F dX6_clear_3 rfl 0 rfl ?_
    refine mz_getI F dX6_clear_4 fX6_clear_19 kv0 ?_
    refine mz_icmp_ge (tgt := 28) F dX6_clear_7 (by decide) (fun c_8 => ?_) (fun c_8 => ?_)
    · replace h := h.1 c_8
      refine mz_aload_n F dX6_clear_28 rfl 0 rfl ?_
      refine mz_iconst (v := 0) F dX6_clear_29 (by decide) ?_
      refine mz_putI F dX6_clear_30 fX6_clear_19 kv0 rfl rfl (fun u_1 eu_1 hxu_1 => ?_)
      replace h := h u_1 eu_1
      exact mz_vret F dX6_clear_33 ⟨rfl, h⟩
    · replace h := h.2 c_8
      refine mz_aload_n F dX6_clear_10 rfl 0 rfl ?_
      obtain ⟨q_2, eq_2, h⟩ := h
      refine mz_getR F dX6_clear_11 fX6_clear_15 (by decide) kv0 eq_2 (fun kq_2 => ?_)
      refine mz_aload_n F dX6_clear_14 rfl 0 rfl ?_
      obtain ⟨q_3, eq_3, h⟩ := h
      refine mz_getR F dX6_clear_15 fX6_clear_9 (by decide) kv0 eq_3 (fun kq_3 => ?_)
      refine mz_iload_n F dX6_clear_18 rfl 1 rfl ?_
      obtain ⟨b_4, h⟩ := h
      refine mz_iald F dX6_clear_19 kq_3 rfl b_4 ?_
      refine mz_iconst (v := 0) F dX6_clear_20 (by decide) ?_
      obtain ⟨b_5, h⟩ := h
      refine mz_zast F dX6_clear_21 kq_2 rfl b_5 (fun u_6 eu_6 hxu_6 => ?_)
      replace h := h u_6 eu_6
      replace kv0 := hxu_6.2.2 _ _ (by decide) kv0
      obtain ⟨x_7, ex_7⟩ : ∃ y : Int32, y = v1 + (1 : Int32) := ⟨_, rfl⟩
      replace h := h x_7 ex_7
      refine mz_iinc (v := x_7) (lv2 := [(1, .int x_7), (0, .ref (G.1 + v0))]) F dX6_clear_22 1 rfl (by rw [ex_7]; rfl) hN (by decide) rfl ?_
      refine mz_goto (tgt := 2) F dX6_clear_25 (by decide) ?_
      refine mz_sub [1, 0] rfl ?_
      exact ih kv0 h
def bX6_clear (this : Nat) (u : mSt) (K : mSt → Prop) : Prop := (∃ n9, bX6_clear_2 n9 this (0 : Int32) u K)
set_option maxRecDepth 100000 in
set_option maxHeartbeats 4000000 in
theorem tX6_clear {X : mCx} {G : mG} {u0 : mSt} {K : mSt → Prop} (F : mFx X G cX6_clear wsX6_clear RX6 "clear" 0 0 none u0 (mPv K)) (hN : X.2.2.2.2.2.2.2.2.2.2.2.2.1 = 2) {this : Nat} {u : mSt} (kthis : mK u this = 7) (h : bX6_clear this u K) : mZ X u 0 [(0, .ref (G.1 + this))] [] := by
  refine mz_iconst (v := 0) F dX6_clear_0 (by decide) ?_
  refine mz_istore_n (lv2 := [(1, .int (0 : Int32)), (0, .ref (G.1 + this))]) F dX6_clear_1 rfl hN (by decide) rfl ?_
  refine mz_sub [1, 0] rfl ?_
  obtain ⟨n9, h⟩ := h
  exact tX6_clear_2 F hN n9 kthis h
set_option maxRecDepth 100000 in
theorem kX6_clear (l : Launch) (G : mG) {u : mSt} {K : mSt → Prop} {this : Nat} (kthis : mK u this = 7) (h : bX6_clear this u K) : mCt l G yX6_clear wsX6_clear 0 0 [.ref (G.1 + this)] u (mPv K) := by
  refine mCt.of (cc := cX6_clear) (maxL := 2) (ret := none) (by decide) rfl (Nat.le_of_ble_eq_true rfl) ?_
  intro X hl hN F
  exact tX6_clear F hN kthis h
/-! RoomMapper.within(II)Z -/
def bX8_within (a0 : Int32) (a1 : Int32) (u : mSt) (K : Int32 → mSt → Prop) : Prop := ((a0 < 0 → K (0 : Int32) u) ∧ (¬ (a0 < 0) → ((a1 ≤ a0 → K (0 : Int32) u) ∧ (¬ (a1 ≤ a0) → K (1 : Int32) u))))
set_option maxRecDepth 100000 in
set_option maxHeartbeats 4000000 in
theorem tX8_within {X : mCx} {G : mG} {u0 : mSt} {K : Int32 → mSt → Prop} (F : mFx X G cX8_within wsX8_within RX8 "within" 0 0 (some .boolean) u0 (mPz K)) (hN : X.2.2.2.2.2.2.2.2.2.2.2.2.1 = 2) {a0 : Int32} {a1 : Int32} {u : mSt} (h : bX8_within a0 a1 u K) : mZ X u 0 [(0, .int a0), (1, .int a1)] [] := by
  refine mz_iload_n F dX8_within_0 rfl 0 rfl ?_
  refine mz_if_lt (tgt := 13) F dX8_within_1 (by decide) (fun c_2 => ?_) (fun c_2 => ?_)
  · replace h := h.1 c_2
    refine mz_iconst (v := 0) F dX8_within_13 (by decide) ?_
    exact mz_zret F dX8_within_14 rfl ⟨_, rfl, by decide, h⟩
  · replace h := h.2 c_2
    refine mz_iload_n F dX8_within_4 rfl 0 rfl ?_
    refine mz_iload_n F dX8_within_5 rfl 1 rfl ?_
    refine mz_icmp_ge (tgt := 13) F dX8_within_6 (by decide) (fun c_1 => ?_) (fun c_1 => ?_)
    · replace h := h.1 c_1
      refine mz_iconst (v := 0) F dX8_within_13 (by decide) ?_
      exact mz_zret F dX8_within_14 rfl ⟨_, rfl, by decide, h⟩
    · replace h := h.2 c_1
      refine mz_iconst (v := 1) F dX8_within_9 (by decide) ?_
      refine mz_goto (tgt := 14) F dX8_within_10 (by decide) ?_
      exact mz_zret F dX8_within_14 rfl ⟨_, rfl, by decide, h⟩
set_option maxRecDepth 100000 in
theorem kX8_within (l : Launch) (G : mG) {u : mSt} {K : Int32 → mSt → Prop} {a0 : Int32} {a1 : Int32} (h : bX8_within a0 a1 u K) : mCt l G yX8_within wsX8_within 0 0 [.int a0, .int a1] u (mPz K) := by
  refine mCt.of (cc := cX8_within) (maxL := 2) (ret := (some .boolean)) (by decide) rfl (Nat.le_of_ble_eq_true rfl) ?_
  intro X hl hN F
  exact tX8_within F hN  h
/-! RoomMapper$Todo.addOnce(I)V -/
theorem mX6_addOnce_iniX8_within : Cond.initialized yX8_within.cls ∈ wsX6_addOnce := by decide +kernel
theorem mX6_addOnce_stX8_within : Cond.static yX8_within ∈ wsX6_addOnce := by decide +kernel
theorem wiX6_addOnce_6 : ∀ w ∈ u_ws RX6 TX6 3, w ∈ wsX6_addOnce := by decide +kernel
theorem fX6_addOnce_15 : mFld wsX6_addOnce RX6 15 7 1 21 (.array .boolean) true := ⟨6, _, RX6, TX6, 3, tyX6, rfl, rfl, rfl, by decide, wiX6_addOnce_6, tyX6_ok, nmX6, rfl, rfl, Or.inl ⟨by decide +kernel, fun _ => rfl⟩⟩
theorem fX6_addOnce_9 : mFld wsX6_addOnce RX6 9 7 0 20 (.array .int) true := ⟨6, _, RX6, TX6, 3, tyX6, rfl, rfl, rfl, by decide, wiX6_addOnce_6, tyX6_ok, nmX6, rfl, rfl, Or.inl ⟨by decide +kernel, fun _ => rfl⟩⟩
theorem fX6_addOnce_19 : mFld wsX6_addOnce RX6 19 7 2 0 .int false := ⟨6, _, RX6, TX6, 3, tyX6, rfl, rfl, rfl, by decide, wiX6_addOnce_6, tyX6_ok, nmX6, rfl, rfl, Or.inl ⟨by decide +kernel, fun _ => rfl⟩⟩
def bX6_addOnce (this : Nat) (a1 : Int32) (u : mSt) (K : mSt → Prop) : Prop := bX8_within a1 (480 : Int32) u (fun r_3 u_2 => ((r_3 = 0 → K u_2) ∧ (¬ (r_3 = 0) → (∃ q_4, mR u_2 this 1 = some q_4 ∧ (vp_in a1 480 ∧ (((mI u_2 q_4 a1.toNatClampNeg) = 0 → (∃ q_6, mR u_2 this 1 = some q_6 ∧ (vp_in a1 480 ∧ ∀ u_8, u_8 = mpI u_2 q_6 a1.toNatClampNeg (vp_nar .boolean (1 : Int32)) → (∃ q_9, mR u_8 this 0 = some q_9 ∧ (vp_in (mI u_8 this 2) 480 ∧ ∀ u_11, u_11 = mpI u_8 q_9 (mI u_8 this 2).toNatClampNeg a1 → (∀ u_12, u_12 = mpI u_11 this 2 ((mI u_11 this 2) + (1 : Int32)) → K u_12)))))) ∧ (¬ ((mI u_2 q_4 a1.toNatClampNeg) = 0) → K u_2)))))))
set_option maxRecDepth 100000 in
set_option maxHeartbeats 4000000 in
theorem tX6_addOnce {X : mCx} {G : mG} {u0 : mSt} {K : mSt → Prop} (F : mFx X G cX6_addOnce wsX6_addOnce RX6 "addOnce" 1 21 none u0 (mPv K)) (hN : X.2.2.2.2.2.2.2.2.2.2.2.2.1 = 2) {this : Nat} {a1 : Int32} {u : mSt} (kthis : mK u this = 7) (h : bX6_addOnce this a1 u K) : mZ X u 0 [(0, .ref (G.1 + this)), (1, .int a1)] [] := by
  refine mz_iload_n F dX6_addOnce_0 rfl 1 rfl ?_
  refine mz_sipush (v := 480) F dX6_addOnce_1 (by decide) ?_
  refine mz_callSN (As := [_, _]) (n := 2) F dX6_addOnce_4 rfl gX6_addOnce_X8_within_n23 nwM6_23 mX6_addOnce_iniX8_within mX6_addOnce_stX8_within (by decide +kernel) (by decide) rfl (Nat.le_of_ble_eq_true rfl) (kX8_within _ G h) (mz_kZ fun r_3 u_2 br_3 h hx_1 => ?_)
  replace kthis := hx_1.2.2 _ _ (by decide) kthis
  refine mz_if_eq (tgt := 46) F dX6_addOnce_7 (by decide) (fun c_14 => ?_) (fun c_14 => ?_)
  · replace h := h.1 c_14
    exact mz_vret F dX6_addOnce_46 ⟨rfl, h⟩
  · replace h := h.2 c_14
    refine mz_aload_n F dX6_addOnce_10 rfl 0 rfl ?_
    obtain ⟨q_4, eq_4, h⟩ := h
    refine mz_getR F dX6_addOnce_11 fX6_addOnce_15 (by decide) kthis eq_4 (fun kq_4 => ?_)
    refine mz_iload_n F dX6_addOnce_14 rfl 1 rfl ?_
    obtain ⟨b_5, h⟩ := h
    refine mz_zald F dX6_addOnce_15 kq_4 rfl b_5 ?_
    refine mz_if_ne (tgt := 46) F dX6_addOnce_16 (by decide) (fun c_13 => ?_) (fun c_13 => ?_)
    · replace h := h.2 c_13
      exact mz_vret F dX6_addOnce_46 ⟨rfl, h⟩
    · replace h := h.1 c_13
      refine mz_aload_n F dX6_addOnce_19 rfl 0 rfl ?_
      obtain ⟨q_6, eq_6, h⟩ := h
      refine mz_getR F dX6_addOnce_20 fX6_addOnce_15 (by decide) kthis eq_6 (fun kq_6 => ?_)
      refine mz_iload_n F dX6_addOnce_23 rfl 1 rfl ?_
      refine mz_iconst (v := 1) F dX6_addOnce_24 (by decide) ?_
      obtain ⟨b_7, h⟩ := h
      refine mz_zast F dX6_addOnce_25 kq_6 rfl b_7 (fun u_8 eu_8 hxu_8 => ?_)
      replace h := h u_8 eu_8
      replace kthis := hxu_8.2.2 _ _ (by decide) kthis
      refine mz_aload_n F dX6_addOnce_26 rfl 0 rfl ?_
      obtain ⟨q_9, eq_9, h⟩ := h
      refine mz_getR F dX6_addOnce_27 fX6_addOnce_9 (by decide) kthis eq_9 (fun kq_9 => ?_)
      refine mz_aload_n F dX6_addOnce_30 rfl 0 rfl ?_
      refine mz_getI F dX6_addOnce_31 fX6_addOnce_19 kthis ?_
      refine mz_iload_n F dX6_addOnce_34 rfl 1 rfl ?_
      obtain ⟨b_10, h⟩ := h
      refine mz_iast F dX6_addOnce_35 kq_9 rfl b_10 (fun u_11 eu_11 hxu_11 => ?_)
      replace h := h u_11 eu_11
      replace kthis := hxu_11.2.2 _ _ (by decide) kthis
      refine mz_aload_n F dX6_addOnce_36 rfl 0 rfl ?_
      refine mz_dup F dX6_addOnce_37 rfl ?_
      refine mz_getI F dX6_addOnce_38 fX6_addOnce_19 kthis ?_
      refine mz_iconst (v := 1) F dX6_addOnce_41 (by decide) ?_
      refine mz_iadd F dX6_addOnce_42 ?_
      refine mz_putI F dX6_addOnce_43 fX6_addOnce_19 kthis rfl rfl (fun u_12 eu_12 hxu_12 => ?_)
      replace h := h u_12 eu_12
      exact mz_vret F dX6_addOnce_46 ⟨rfl, h⟩
set_option maxRecDepth 100000 in
theorem kX6_addOnce (l : Launch) (G : mG) {u : mSt} {K : mSt → Prop} {this : Nat} {a1 : Int32} (kthis : mK u this = 7) (h : bX6_addOnce this a1 u K) : mCt l G yX6_addOnce wsX6_addOnce 1 21 [.ref (G.1 + this), .int a1] u (mPv K) := by
  refine mCt.of (cc := cX6_addOnce) (maxL := 2) (ret := none) (by decide) rfl (Nat.le_of_ble_eq_true rfl) ?_
  intro X hl hN F
  exact tX6_addOnce F hN kthis h
/-! RoomMapper$Walk.<init>()V -/
theorem mX7_init_ol3 : Cond.methodLink RX7 3 objectInit ∈ wsX7_init := by decide +kernel
theorem mX7_init_oi : Cond.instanceMethod objectInit ∈ wsX7_init := by decide +kernel
theorem mX7_init_oc : Cond.code objectInit ⟨#[0xb1]⟩ 1 none ∈ wsX7_init := by decide +kernel
theorem mX7_init_fl9 : Cond.fieldLink RX7 9 "RoomMapper$Walk" "acts" "[I" ∈ wsX7_init := by decide +kernel
theorem wiX7_init_7 : ∀ w ∈ u_ws RX7 TX7 3, w ∈ wsX7_init := by decide +kernel
theorem mX7_init_fl15 : Cond.fieldLink RX7 15 "RoomMapper$Walk" "sights" "[I" ∈ wsX7_init := by decide +kernel
theorem mX7_init_acI : Cond.arrayClass .int ∈ wsX7_init := by decide +kernel
def bX7_init (this : Nat) (u : mSt) (K : mSt → Prop) : Prop := ((mN u + 1 ≤ mCapC ∧ mT u + 200 ≤ mCapS) ∧ ∀ p_4 u_2, p_4 = mN u → u_2 = mnw u 22 200 → (∀ u_5, u_5 = mpR u_2 this 0 (some p_4) → ((mN u_5 + 1 ≤ mCapC ∧ mT u_5 + 200 ≤ mCapS) ∧ ∀ p_9 u_7, p_9 = mN u_5 → u_7 = mnw u_5 22 200 → (∀ u_10, u_10 = mpR u_7 this 1 (some p_9) → K u_10))))
set_option maxRecDepth 100000 in
set_option maxHeartbeats 4000000 in
theorem tX7_init {X : mCx} {G : mG} {u0 : mSt} {K : mSt → Prop} (F : mFx X G cX7_init wsX7_init RX7 "<init>" 1 20 none u0 (mPv K)) (hN : X.2.2.2.2.2.2.2.2.2.2.2.2.1 = 1) {this : Nat} {u : mSt} (kthis : mK u this = 8) (h : bX7_init this u K) : mZ X u 0 [(0, .ref (G.1 + this))] [] := by
  refine mz_aload_n F dX7_init_0 rfl 0 rfl ?_
  refine mz_objInit F dX7_init_1 mX7_init_ol3 mX7_init_oi mX7_init_oc (by decide) (Nat.le_of_ble_eq_true rfl) ?_
  refine mz_aload_n F dX7_init_4 rfl 0 rfl ?_
  refine mz_sipush (v := 200) F dX7_init_5 (by decide) ?_
  obtain ⟨b_1, h⟩ := h
  refine mz_newaI (c := 22) F dX7_init_8 mX7_init_acI rfl (by decide) b_1 (fun p_4 u_2 ep_4 eu_2 hx_3 kp_4 => ?_)
  replace h := h p_4 u_2 ep_4 eu_2
  replace kthis := hx_3.2.2 _ _ (by decide) kthis
  refine mz_putRF (k := 0) (tys := tyX7) F dX7_init_10 rfl rfl rfl rfl (by decide) wiX7_init_7 tyX7_ok nmX7 rfl rfl rfl mX7_init_fl9 (by decide) kthis kp_4 (fun u_5 eu_5 hxu_5 => ?_)
  replace h := h u_5 eu_5
  replace kthis := hxu_5.2.2 _ _ (by decide) kthis
  refine mz_aload_n F dX7_init_13 rfl 0 rfl ?_
  refine mz_sipush (v := 200) F dX7_init_14 (by decide) ?_
  obtain ⟨b_6, h⟩ := h
  refine mz_newaI (c := 22) F dX7_init_17 mX7_init_acI rfl (by decide) b_6 (fun p_9 u_7 ep_9 eu_7 hx_8 kp_9 => ?_)
  replace h := h p_9 u_7 ep_9 eu_7
  replace kthis := hx_8.2.2 _ _ (by decide) kthis
  refine mz_putRF (k := 1) (tys := tyX7) F dX7_init_19 rfl rfl rfl rfl (by decide) wiX7_init_7 tyX7_ok nmX7 rfl rfl rfl mX7_init_fl15 (by decide) kthis kp_9 (fun u_10 eu_10 hxu_10 => ?_)
  replace h := h u_10 eu_10
  exact mz_vret F dX7_init_22 ⟨rfl, h⟩
set_option maxRecDepth 100000 in
theorem kX7_init (l : Launch) (G : mG) {u : mSt} {K : mSt → Prop} {this : Nat} (kthis : mK u this = 8) (h : bX7_init this u K) : mCt l G yX7_init wsX7_init 1 20 [.ref (G.1 + this)] u (mPv K) := by
  refine mCt.of (cc := cX7_init) (maxL := 1) (ret := none) (by decide) rfl (Nat.le_of_ble_eq_true rfl) ?_
  intro X hl hN F
  exact tX7_init F hN kthis h
/-! RoomMapper$Walk.add(II)V -/
theorem wiX7_add_7 : ∀ w ∈ u_ws RX7 TX7 3, w ∈ wsX7_add := by decide +kernel
theorem fX7_add_9 : mFld wsX7_add RX7 9 8 0 22 (.array .int) true := ⟨7, _, RX7, TX7, 3, tyX7, rfl, rfl, rfl, by decide, wiX7_add_7, tyX7_ok, nmX7, rfl, rfl, Or.inl ⟨by decide +kernel, fun _ => rfl⟩⟩
theorem fX7_add_18 : mFld wsX7_add RX7 18 8 2 0 .int false := ⟨7, _, RX7, TX7, 3, tyX7, rfl, rfl, rfl, by decide, wiX7_add_7, tyX7_ok, nmX7, rfl, rfl, Or.inl ⟨by decide +kernel, fun _ => rfl⟩⟩
theorem fX7_add_15 : mFld wsX7_add RX7 15 8 1 22 (.array .int) true := ⟨7, _, RX7, TX7, 3, tyX7, rfl, rfl, rfl, by decide, wiX7_add_7, tyX7_ok, nmX7, rfl, rfl, Or.inl ⟨by decide +kernel, fun _ => rfl⟩⟩
def bX7_add (this : Nat) (a1 : Int32) (a2 : Int32) (u : mSt) (K : mSt → Prop) : Prop := (∃ q_1, mR u this 0 = some q_1 ∧ (vp_in (mI u this 2) 200 ∧ ∀ u_3, u_3 = mpI u q_1 (mI u this 2).toNatClampNeg a1 → (∃ q_4, mR u_3 this 1 = some q_4 ∧ (vp_in (mI u_3 this 2) 200 ∧ ∀ u_6, u_6 = mpI u_3 q_4 (mI u_3 this 2).toNatClampNeg a2 → (∀ u_7, u_7 = mpI u_6 this 2 ((mI u_6 this 2) + (1 : Int32)) → K u_7)))))
set_option maxRecDepth 100000 in
set_option maxHeartbeats 4000000 in
theorem tX7_add {X : mCx} {G : mG} {u0 : mSt} {K : mSt → Prop} (F : mFx X G cX7_add wsX7_add RX7 "add" 0 0 none u0 (mPv K)) (hN : X.2.2.2.2.2.2.2.2.2.2.2.2.1 = 3) {this : Nat} {a1 : Int32} {a2 : Int32} {u : mSt} (kthis : mK u this = 8) (h : bX7_add this a1 a2 u K) : mZ X u 0 [(0, .ref (G.1 + this)), (1, .int a1), (2, .int a2)] [] := by
  refine mz_aload_n F dX7_add_0 rfl 0 rfl ?_
  obtain ⟨q_1, eq_1, h⟩ := h
  refine mz_getR F dX7_add_1 fX7_add_9 (by decide) kthis eq_1 (fun kq_1 => ?_)
  refine mz_aload_n F dX7_add_4 rfl 0 rfl ?_
  refine mz_getI F dX7_add_5 fX7_add_18 kthis ?_
  refine mz_iload_n F dX7_add_8 rfl 1 rfl ?_
  obtain ⟨b_2, h⟩ := h
  refine mz_iast F dX7_add_9 kq_1 rfl b_2 (fun u_3 eu_3 hxu_3 => ?_)
  replace h := h u_3 eu_3
  replace kthis := hxu_3.2.2 _ _ (by decide) kthis
  refine mz_aload_n F dX7_add_10 rfl 0 rfl ?_
  obtain ⟨q_4, eq_4, h⟩ := h
  refine mz_getR F dX7_add_11 fX7_add_15 (by decide) kthis eq_4 (fun kq_4 => ?_)
  refine mz_aload_n F dX7_add_14 rfl 0 rfl ?_
  refine mz_getI F dX7_add_15 fX7_add_18 kthis ?_
  refine mz_iload_n F dX7_add_18 rfl 2 rfl ?_
  obtain ⟨b_5, h⟩ := h
  refine mz_iast F dX7_add_19 kq_4 rfl b_5 (fun u_6 eu_6 hxu_6 => ?_)
  replace h := h u_6 eu_6
  replace kthis := hxu_6.2.2 _ _ (by decide) kthis
  refine mz_aload_n F dX7_add_20 rfl 0 rfl ?_
  refine mz_dup F dX7_add_21 rfl ?_
  refine mz_getI F dX7_add_22 fX7_add_18 kthis ?_
  refine mz_iconst (v := 1) F dX7_add_25 (by decide) ?_
  refine mz_iadd F dX7_add_26 ?_
  refine mz_putI F dX7_add_27 fX7_add_18 kthis rfl rfl (fun u_7 eu_7 hxu_7 => ?_)
  replace h := h u_7 eu_7
  exact mz_vret F dX7_add_30 ⟨rfl, h⟩
set_option maxRecDepth 100000 in
theorem kX7_add (l : Launch) (G : mG) {u : mSt} {K : mSt → Prop} {this : Nat} {a1 : Int32} {a2 : Int32} (kthis : mK u this = 8) (h : bX7_add this a1 a2 u K) : mCt l G yX7_add wsX7_add 0 0 [.ref (G.1 + this), .int a1, .int a2] u (mPv K) := by
  refine mCt.of (cc := cX7_add) (maxL := 3) (ret := none) (by decide) rfl (Nat.le_of_ble_eq_true rfl) ?_
  intro X hl hN F
  exact tX7_add F hN kthis h
/-! RoomMapper$Walk.bumpedLast()Z -/
theorem wiX7_bumpedLast_7 : ∀ w ∈ u_ws RX7 TX7 3, w ∈ wsX7_bumpedLast := by decide +kernel
theorem fX7_bumpedLast_18 : mFld wsX7_bumpedLast RX7 18 8 2 0 .int false := ⟨7, _, RX7, TX7, 3, tyX7, rfl, rfl, rfl, by decide, wiX7_bumpedLast_7, tyX7_ok, nmX7, rfl, rfl, Or.inl ⟨by decide +kernel, fun _ => rfl⟩⟩
theorem fX7_bumpedLast_15 : mFld wsX7_bumpedLast RX7 15 8 1 22 (.array .int) true := ⟨7, _, RX7, TX7, 3, tyX7, rfl, rfl, rfl, by decide, wiX7_bumpedLast_7, tyX7_ok, nmX7, rfl, rfl, Or.inl ⟨by decide +kernel, fun _ => rfl⟩⟩
theorem mX7_bumpedLast_iniX8_bumpOf : Cond.initialized yX8_bumpOf.cls ∈ wsX7_bumpedLast := by decide +kernel
theorem mX7_bumpedLast_stX8_bumpOf : Cond.static yX8_bumpOf ∈ wsX7_bumpedLast := by decide +kernel
def bX7_bumpedLast (this : Nat) (u : mSt) (K : Int32 → mSt → Prop) : Prop := (((mI u this 2) ≤ 0 → K (0 : Int32) u) ∧ (¬ ((mI u this 2) ≤ 0) → (∃ q_1, mR u this 1 = some q_1 ∧ (vp_in ((mI u this 2) - (1 : Int32)) 200 ∧ bX8_bumpOf (mI u q_1 ((mI u this 2) - (1 : Int32)).toNatClampNeg) u (fun r_5 u_4 => ((r_5 = (1 : Int32) → K (1 : Int32) u_4) ∧ (¬ (r_5 = (1 : Int32)) → K (0 : Int32) u_4)))))))
set_option maxRecDepth 100000 in
set_option maxHeartbeats 4000000 in
theorem tX7_bumpedLast {X : mCx} {G : mG} {u0 : mSt} {K : Int32 → mSt → Prop} (F : mFx X G cX7_bumpedLast wsX7_bumpedLast RX7 "bumpedLast" 1 20 (some .boolean) u0 (mPz K)) (hN : X.2.2.2.2.2.2.2.2.2.2.2.2.1 = 1) {this : Nat} {u : mSt} (kthis : mK u this = 8) (h : bX7_bumpedLast this u K) : mZ X u 0 [(0, .ref (G.1 + this))] [] := by
  refine mz_aload_n F dX7_bumpedLast_0 rfl 0 rfl ?_
  refine mz_getI F dX7_bumpedLast_1 fX7_bumpedLast_18 kthis ?_
  refine mz_if_le (tgt := 29) F dX7_bumpedLast_4 (by decide) (fun c_7 => ?_) (fun c_7 => ?_)
  · replace h := h.1 c_7
    refine mz_iconst (v := 0) F dX7_bumpedLast_29 (by decide) ?_
    exact mz_zret F dX7_bumpedLast_30 rfl ⟨_, rfl, by decide, h⟩
  · replace h := h.2 c_7
    refine mz_aload_n F dX7_bumpedLast_7 rfl 0 rfl ?_
    obtain ⟨q_1, eq_1, h⟩ := h
    refine mz_getR F dX7_bumpedLast_8 fX7_bumpedLast_15 (by decide) kthis eq_1 (fun kq_1 => ?_)
    refine mz_aload_n F dX7_bumpedLast_11 rfl 0 rfl ?_
    refine mz_getI F dX7_bumpedLast_12 fX7_bumpedLast_18 kthis ?_
    refine mz_iconst (v := 1) F dX7_bumpedLast_15 (by decide) ?_
    refine mz_isub F dX7_bumpedLast_16 ?_
    obtain ⟨b_2, h⟩ := h
    refine mz_iald F dX7_bumpedLast_17 kq_1 rfl b_2 ?_
    refine mz_callSN (As := [_]) (n := 1) F dX7_bumpedLast_18 rfl gX7_bumpedLast_X8_bumpOf_n22 nwM7_22 mX7_bumpedLast_iniX8_bumpOf mX7_bumpedLast_stX8_bumpOf (by decide +kernel) (by decide) rfl (Nat.le_of_ble_eq_true rfl) (kX8_bumpOf _ G h) (mz_kI fun r_5 u_4 h hx_3 => ?_)
    refine mz_iconst (v := 1) F dX7_bumpedLast_21 (by decide) ?_
    refine mz_icmp_ne (tgt := 29) F dX7_bumpedLast_22 (by decide) (fun c_6 => ?_) (fun c_6 => ?_)
    · replace h := h.2 c_6
      refine mz_iconst (v := 0) F dX7_bumpedLast_29 (by decide) ?_
      exact mz_zret F dX7_bumpedLast_30 rfl ⟨_, rfl, by decide, h⟩
    · replace h := h.1 c_6
      refine mz_iconst (v := 1) F dX7_bumpedLast_25 (by decide) ?_
      refine mz_goto (tgt := 30) F dX7_bumpedLast_26 (by decide) ?_
      exact mz_zret F dX7_bumpedLast_30 rfl ⟨_, rfl, by decide, h⟩
set_option maxRecDepth 100000 in
theorem kX7_bumpedLast (l : Launch) (G : mG) {u : mSt} {K : Int32 → mSt → Prop} {this : Nat} (kthis : mK u this = 8) (h : bX7_bumpedLast this u K) : mCt l G yX7_bumpedLast wsX7_bumpedLast 1 20 [.ref (G.1 + this)] u (mPz K) := by
  refine mCt.of (cc := cX7_bumpedLast) (maxL := 1) (ret := (some .boolean)) (by decide) rfl (Nat.le_of_ble_eq_true rfl) ?_
  intro X hl hN F
  exact tX7_bumpedLast F hN kthis h
/-! RoomMapper.<init>()V -/
theorem wiX8_init_8 : ∀ w ∈ u_ws RX8 TX8 9, w ∈ wsX8_init := by decide +kernel
theorem fX8_init_60 : mFld wsX8_init RX8 60 9 7 23 (.array (.object "RoomMapper$Shelf")) true := ⟨8, _, RX8, TX8, 9, tyX8, rfl, rfl, rfl, by decide, wiX8_init_8, tyX8_ok, nmX8, rfl, rfl, Or.inl ⟨by decide +kernel, fun _ => rfl⟩⟩
theorem mX8_init_cl58 : Cond.classLink RX8 58 RX5 ∈ wsX8_init := by decide +kernel
theorem mX8_init_in5 : Cond.instantiable RX5 5 ∈ wsX8_init := by decide +kernel
theorem mX8_init_it5 : Cond.initialized RX5 ∈ wsX8_init := by decide +kernel
theorem mX8_init_iniX5_init : Cond.initialized yX5_init.cls ∈ wsX8_init := by decide +kernel
theorem mX8_init_imX5_init : Cond.instanceMethod yX5_init ∈ wsX8_init := by decide +kernel
theorem wiX8_init_5 : ∀ w ∈ u_ws RX5 TX5 5, w ∈ wsX8_init := by decide +kernel
theorem mX8_init_ol3 : Cond.methodLink RX8 3 objectInit ∈ wsX8_init := by decide +kernel
theorem mX8_init_oi : Cond.instanceMethod objectInit ∈ wsX8_init := by decide +kernel
theorem mX8_init_oc : Cond.code objectInit ⟨#[0xb1]⟩ 1 none ∈ wsX8_init := by decide +kernel
theorem mX8_init_cl9 : Cond.classLink RX8 9 RX1 ∈ wsX8_init := by decide +kernel
theorem mX8_init_in1 : Cond.instantiable RX1 7 ∈ wsX8_init := by decide +kernel
theorem mX8_init_it1 : Cond.initialized RX1 ∈ wsX8_init := by decide +kernel
theorem mX8_init_iniX1_init : Cond.initialized yX1_init.cls ∈ wsX8_init := by decide +kernel
theorem mX8_init_imX1_init : Cond.instanceMethod yX1_init ∈ wsX8_init := by decide +kernel
theorem mX8_init_fl12 : Cond.fieldLink RX8 12 "RoomMapper" "house" "LRoomMapper$House;" ∈ wsX8_init := by decide +kernel
theorem mX8_init_cl16 : Cond.classLink RX8 16 RX7 ∈ wsX8_init := by decide +kernel
theorem mX8_init_in7 : Cond.instantiable RX7 3 ∈ wsX8_init := by decide +kernel
theorem mX8_init_it7 : Cond.initialized RX7 ∈ wsX8_init := by decide +kernel
theorem mX8_init_iniX7_init : Cond.initialized yX7_init.cls ∈ wsX8_init := by decide +kernel
theorem mX8_init_imX7_init : Cond.instanceMethod yX7_init ∈ wsX8_init := by decide +kernel
theorem mX8_init_fl19 : Cond.fieldLink RX8 19 "RoomMapper" "walk" "LRoomMapper$Walk;" ∈ wsX8_init := by decide +kernel
theorem mX8_init_cl23 : Cond.classLink RX8 23 RX0 ∈ wsX8_init := by decide +kernel
theorem mX8_init_in0 : Cond.instantiable RX0 6 ∈ wsX8_init := by decide +kernel
theorem mX8_init_it0 : Cond.initialized RX0 ∈ wsX8_init := by decide +kernel
theorem mX8_init_iniX0_init : Cond.initialized yX0_init.cls ∈ wsX8_init := by decide +kernel
theorem mX8_init_imX0_init : Cond.instanceMethod yX0_init ∈ wsX8_init := by decide +kernel
theorem mX8_init_fl26 : Cond.fieldLink RX8 26 "RoomMapper" "atlas" "LRoomMapper$Atlas;" ∈ wsX8_init := by decide +kernel
theorem mX8_init_cl30 : Cond.classLink RX8 30 RX2 ∈ wsX8_init := by decide +kernel
theorem mX8_init_in2 : Cond.instantiable RX2 4 ∈ wsX8_init := by decide +kernel
theorem mX8_init_it2 : Cond.initialized RX2 ∈ wsX8_init := by decide +kernel
theorem mX8_init_iniX2_init : Cond.initialized yX2_init.cls ∈ wsX8_init := by decide +kernel
theorem mX8_init_imX2_init : Cond.instanceMethod yX2_init ∈ wsX8_init := by decide +kernel
theorem mX8_init_fl33 : Cond.fieldLink RX8 33 "RoomMapper" "parting" "LRoomMapper$Parting;" ∈ wsX8_init := by decide +kernel
theorem mX8_init_cl37 : Cond.classLink RX8 37 RX3 ∈ wsX8_init := by decide +kernel
theorem mX8_init_in3 : Cond.instantiable RX3 3 ∈ wsX8_init := by decide +kernel
theorem mX8_init_it3 : Cond.initialized RX3 ∈ wsX8_init := by decide +kernel
theorem mX8_init_iniX3_init : Cond.initialized yX3_init.cls ∈ wsX8_init := by decide +kernel
theorem mX8_init_imX3_init : Cond.instanceMethod yX3_init ∈ wsX8_init := by decide +kernel
theorem mX8_init_fl40 : Cond.fieldLink RX8 40 "RoomMapper" "route" "LRoomMapper$Route;" ∈ wsX8_init := by decide +kernel
theorem mX8_init_cl44 : Cond.classLink RX8 44 RX4 ∈ wsX8_init := by decide +kernel
theorem mX8_init_in4 : Cond.instantiable RX4 5 ∈ wsX8_init := by decide +kernel
theorem mX8_init_it4 : Cond.initialized RX4 ∈ wsX8_init := by decide +kernel
theorem mX8_init_iniX4_init : Cond.initialized yX4_init.cls ∈ wsX8_init := by decide +kernel
theorem mX8_init_imX4_init : Cond.instanceMethod yX4_init ∈ wsX8_init := by decide +kernel
theorem mX8_init_fl47 : Cond.fieldLink RX8 47 "RoomMapper" "hand" "LRoomMapper$Sheet;" ∈ wsX8_init := by decide +kernel
theorem mX8_init_cl51 : Cond.classLink RX8 51 RX6 ∈ wsX8_init := by decide +kernel
theorem mX8_init_in6 : Cond.instantiable RX6 3 ∈ wsX8_init := by decide +kernel
theorem mX8_init_it6 : Cond.initialized RX6 ∈ wsX8_init := by decide +kernel
theorem mX8_init_iniX6_init : Cond.initialized yX6_init.cls ∈ wsX8_init := by decide +kernel
theorem mX8_init_imX6_init : Cond.instanceMethod yX6_init ∈ wsX8_init := by decide +kernel
theorem mX8_init_fl54 : Cond.fieldLink RX8 54 "RoomMapper" "todo" "LRoomMapper$Todo;" ∈ wsX8_init := by decide +kernel
theorem mX8_init_fl60 : Cond.fieldLink RX8 60 "RoomMapper" "shelves" "[LRoomMapper$Shelf;" ∈ wsX8_init := by decide +kernel
theorem wiX8_init_6 : ∀ w ∈ u_ws RX6 TX6 3, w ∈ wsX8_init := by decide +kernel
theorem wiX8_init_4 : ∀ w ∈ u_ws RX4 TX4 5, w ∈ wsX8_init := by decide +kernel
theorem wiX8_init_3 : ∀ w ∈ u_ws RX3 TX3 3, w ∈ wsX8_init := by decide +kernel
theorem wiX8_init_2 : ∀ w ∈ u_ws RX2 TX2 4, w ∈ wsX8_init := by decide +kernel
theorem wiX8_init_0 : ∀ w ∈ u_ws RX0 TX0 6, w ∈ wsX8_init := by decide +kernel
theorem wiX8_init_7 : ∀ w ∈ u_ws RX7 TX7 3, w ∈ wsX8_init := by decide +kernel
theorem wiX8_init_1 : ∀ w ∈ u_ws RX1 TX1 7, w ∈ wsX8_init := by decide +kernel
def bX8_init_92 : Nat → Nat → Int32 → mSt → (mSt → Prop) → Prop
  | 0, _, _, _, _ => False
  | n + 1, v0, v1, u, K => (((8 : Int32) ≤ v1 → K u) ∧ (¬ ((8 : Int32) ≤ v1) → (∃ q_1, mR u v0 7 = some q_1 ∧ ((mN u + 1 ≤ mCapC ∧ mT u + 5 ≤ mCapS) ∧ ∀ p_5 u_3, p_5 = mN u → u_3 = mnw u 6 5 → bX5_init p_5 u_3 (fun u_7 => (vp_in v1 8 ∧ ∀ u_9, u_9 = mpR u_7 q_1 v1.toNatClampNeg (some p_5) → (∀ x_10, x_10 = v1 + (1 : Int32) → bX8_init_92 n v0 x_10 u_9 K)))))))
set_option maxRecDepth 100000 in
set_option maxHeartbeats 4000000 in
theorem tX8_init_92 {X : mCx} {G : mG} {u0 : mSt} {K : mSt → Prop} (F : mFx X G cX8_init wsX8_init RX8 "<init>" 2 43 none u0 (mPv K)) (hN : X.2.2.2.2.2.2.2.2.2.2.2.2.1 = 2) : ∀ (n : Nat) {v0 : Nat} {v1 : Int32} {u : mSt}, mK u v0 = 9 → bX8_init_92 n v0 v1 u K → mZ X u 92 [(0, .ref (G.1 + v0)), (1, .int v1)] [] := by
  intro n
  induction n with
  | zero => intro v0 v1 u kv0 h; exact False.elim h
  | succ n ih =>
    intro v0 v1 u kv0 h
    refine mz_iload_n F dX8_init_92 rfl 1 rfl ?_
    refine mz_bipush (v := 8) F dX8_init_93 (by decide) ?_
    refine mz_icmp_ge (tgt := 117) F dX8_init_95 (by decide) (fun c_11 => ?_) (fun c_11 => ?_)
    · replace h := h.1 c_11
      exact mz_vret F dX8_init_117 ⟨rfl, h⟩
    · replace h := h.2 c_11
      refine mz_aload_n F dX8_init_98 rfl 0 rfl ?_
      obtain ⟨q_1, eq_1, h⟩ := h
      refine mz_getR F dX8_init_99 fX8_init_60 (by decide) kv0 eq_1 (fun kq_1 => ?_)
      refine mz_iload_n F dX8_init_102 rfl 1 rfl ?_
      obtain ⟨b_2, h⟩ := h
      refine mz_new (c := 6) F dX8_init_103 rfl rfl tyX5 tyX5_ok wiX8_init_5 (by decide +kernel) mX8_init_cl58 mX8_init_in5 mX8_init_it5 b_2 (fun p_5 u_3 ep_5 eu_3 hx_4 kp_5 => ?_)
      replace h := h p_5 u_3 ep_5 eu_3
      replace kv0 := hx_4.2.2 _ _ (by decide) kv0
      replace kq_1 := hx_4.2.2 _ _ (by decide) kq_1
      refine mz_dup F dX8_init_106 rfl ?_
      refine mz_callIN (As := []) (n := 0) F dX8_init_107 rfl gX8_init_X5_init_n64 nwM8_64 mX8_init_iniX5_init mX8_init_imX5_init rfl (by decide +kernel) (by decide) rfl (Nat.le_of_ble_eq_true rfl) (kX5_init _ G kp_5 h) (mz_kV fun u_7 h hx_6 => ?_)
      replace kv0 := hx_6.2.2 _ _ (by decide) kv0
      replace kp_5 := hx_6.2.2 _ _ (by decide) kp_5
      replace kq_1 := hx_6.2.2 _ _ (by decide) kq_1
      obtain ⟨b_8, h⟩ := h
      refine mz_aast5 F dX8_init_110 kq_1 rfl (by decide) kp_5 rfl rfl b_8 (fun u_9 eu_9 hxu_9 => ?_)
      replace h := h u_9 eu_9
      replace kv0 := hxu_9.2.2 _ _ (by decide) kv0
      obtain ⟨x_10, ex_10⟩ : ∃ y : Int32, y = v1 + (1 : Int32) := ⟨_, rfl⟩
      replace h := h x_10 ex_10
      refine mz_iinc (v := x_10) (lv2 := [(1, .int x_10), (0, .ref (G.1 + v0))]) F dX8_init_111 1 rfl (by rw [ex_10]; rfl) hN (by decide) rfl ?_
      refine mz_goto (tgt := 92) F dX8_init_114 (by decide) ?_
      refine mz_sub [1, 0] rfl ?_
      exact ih kv0 h
def bX8_init (this : Nat) (u : mSt) (K : mSt → Prop) : Prop := ((mN u + 1 ≤ mCapC ∧ mT u + 7 ≤ mCapS) ∧ ∀ p_4 u_2, p_4 = mN u → u_2 = mnw u 2 7 → bX1_init p_4 u_2 (fun u_6 => (∀ u_7, u_7 = mpR u_6 this 0 (some p_4) → ((mN u_7 + 1 ≤ mCapC ∧ mT u_7 + 3 ≤ mCapS) ∧ ∀ p_11 u_9, p_11 = mN u_7 → u_9 = mnw u_7 8 3 → bX7_init p_11 u_9 (fun u_13 => (∀ u_14, u_14 = mpR u_13 this 1 (some p_11) → ((mN u_14 + 1 ≤ mCapC ∧ mT u_14 + 6 ≤ mCapS) ∧ ∀ p_18 u_16, p_18 = mN u_14 → u_16 = mnw u_14 1 6 → bX0_init p_18 u_16 (fun u_20 => (∀ u_21, u_21 = mpR u_20 this 2 (some p_18) → ((mN u_21 + 1 ≤ mCapC ∧ mT u_21 + 4 ≤ mCapS) ∧ ∀ p_25 u_23, p_25 = mN u_21 → u_23 = mnw u_21 3 4 → bX2_init p_25 u_23 (fun u_27 => (∀ u_28, u_28 = mpR u_27 this 3 (some p_25) → ((mN u_28 + 1 ≤ mCapC ∧ mT u_28 + 3 ≤ mCapS) ∧ ∀ p_32 u_30, p_32 = mN u_28 → u_30 = mnw u_28 4 3 → bX3_init p_32 u_30 (fun u_34 => (∀ u_35, u_35 = mpR u_34 this 4 (some p_32) → ((mN u_35 + 1 ≤ mCapC ∧ mT u_35 + 5 ≤ mCapS) ∧ ∀ p_39 u_37, p_39 = mN u_35 → u_37 = mnw u_35 5 5 → bX4_init p_39 u_37 (fun u_41 => (∀ u_42, u_42 = mpR u_41 this 5 (some p_39) → ((mN u_42 + 1 ≤ mCapC ∧ mT u_42 + 3 ≤ mCapS) ∧ ∀ p_46 u_44, p_46 = mN u_42 → u_44 = mnw u_42 7 3 → bX6_init p_46 u_44 (fun u_48 => (∀ u_49, u_49 = mpR u_48 this 6 (some p_46) → ((mN u_49 + 1 ≤ mCapC ∧ mT u_49 + 8 ≤ mCapS) ∧ ∀ p_53 u_51, p_53 = mN u_49 → u_51 = mnw u_49 23 8 → (∀ u_54, u_54 = mpR u_51 this 7 (some p_53) → (∃ n9, bX8_init_92 n9 this (0 : Int32) u_54 K))))))))))))))))))))))))
set_option maxRecDepth 100000 in
set_option maxHeartbeats 4000000 in
theorem tX8_init {X : mCx} {G : mG} {u0 : mSt} {K : mSt → Prop} (F : mFx X G cX8_init wsX8_init RX8 "<init>" 2 43 none u0 (mPv K)) (hN : X.2.2.2.2.2.2.2.2.2.2.2.2.1 = 2) (hAO5 : va_AO "RoomMapper$Shelf" X.2.2.2.2.1) {this : Nat} {u : mSt} (kthis : mK u this = 9) (h : bX8_init this u K) : mZ X u 0 [(0, .ref (G.1 + this))] [] := by
  refine mz_aload_n F dX8_init_0 rfl 0 rfl ?_
  refine mz_objInit F dX8_init_1 mX8_init_ol3 mX8_init_oi mX8_init_oc (by decide) (Nat.le_of_ble_eq_true rfl) ?_
  refine mz_aload_n F dX8_init_4 rfl 0 rfl ?_
  obtain ⟨b_1, h⟩ := h
  refine mz_new (c := 2) F dX8_init_5 rfl rfl tyX1 tyX1_ok wiX8_init_1 (by decide +kernel) mX8_init_cl9 mX8_init_in1 mX8_init_it1 b_1 (fun p_4 u_2 ep_4 eu_2 hx_3 kp_4 => ?_)
  replace h := h p_4 u_2 ep_4 eu_2
  replace kthis := hx_3.2.2 _ _ (by decide) kthis
  refine mz_dup F dX8_init_8 rfl ?_
  refine mz_callIN (As := []) (n := 0) F dX8_init_9 rfl gX8_init_X1_init_n11 nwM8_11 mX8_init_iniX1_init mX8_init_imX1_init rfl (by decide +kernel) (by decide) rfl (Nat.le_of_ble_eq_true rfl) (kX1_init _ G kp_4 h) (mz_kV fun u_6 h hx_5 => ?_)
  replace kthis := hx_5.2.2 _ _ (by decide) kthis
  replace kp_4 := hx_5.2.2 _ _ (by decide) kp_4
  refine mz_putRF (k := 0) (tys := tyX8) F dX8_init_12 rfl rfl rfl rfl (by decide) wiX8_init_8 tyX8_ok nmX8 rfl rfl rfl mX8_init_fl12 (by decide) kthis kp_4 (fun u_7 eu_7 hxu_7 => ?_)
  replace h := h u_7 eu_7
  replace kthis := hxu_7.2.2 _ _ (by decide) kthis
  refine mz_aload_n F dX8_init_15 rfl 0 rfl ?_
  obtain ⟨b_8, h⟩ := h
  refine mz_new (c := 8) F dX8_init_16 rfl rfl tyX7 tyX7_ok wiX8_init_7 (by decide +kernel) mX8_init_cl16 mX8_init_in7 mX8_init_it7 b_8 (fun p_11 u_9 ep_11 eu_9 hx_10 kp_11 => ?_)
  replace h := h p_11 u_9 ep_11 eu_9
  replace kthis := hx_10.2.2 _ _ (by decide) kthis
  refine mz_dup F dX8_init_19 rfl ?_
  refine mz_callIN (As := []) (n := 0) F dX8_init_20 rfl gX8_init_X7_init_n18 nwM8_18 mX8_init_iniX7_init mX8_init_imX7_init rfl (by decide +kernel) (by decide) rfl (Nat.le_of_ble_eq_true rfl) (kX7_init _ G kp_11 h) (mz_kV fun u_13 h hx_12 => ?_)
  replace kthis := hx_12.2.2 _ _ (by decide) kthis
  replace kp_11 := hx_12.2.2 _ _ (by decide) kp_11
  refine mz_putRF (k := 1) (tys := tyX8) F dX8_init_23 rfl rfl rfl rfl (by decide) wiX8_init_8 tyX8_ok nmX8 rfl rfl rfl mX8_init_fl19 (by decide) kthis kp_11 (fun u_14 eu_14 hxu_14 => ?_)
  replace h := h u_14 eu_14
  replace kthis := hxu_14.2.2 _ _ (by decide) kthis
  refine mz_aload_n F dX8_init_26 rfl 0 rfl ?_
  obtain ⟨b_15, h⟩ := h
  refine mz_new (c := 1) F dX8_init_27 rfl rfl tyX0 tyX0_ok wiX8_init_0 (by decide +kernel) mX8_init_cl23 mX8_init_in0 mX8_init_it0 b_15 (fun p_18 u_16 ep_18 eu_16 hx_17 kp_18 => ?_)
  replace h := h p_18 u_16 ep_18 eu_16
  replace kthis := hx_17.2.2 _ _ (by decide) kthis
  refine mz_dup F dX8_init_30 rfl ?_
  refine mz_callIN (As := []) (n := 0) F dX8_init_31 rfl gX8_init_X0_init_n25 nwM8_25 mX8_init_iniX0_init mX8_init_imX0_init rfl (by decide +kernel) (by decide) rfl (Nat.le_of_ble_eq_true rfl) (kX0_init _ G kp_18 h) (mz_kV fun u_20 h hx_19 => ?_)
  replace kthis := hx_19.2.2 _ _ (by decide) kthis
  replace kp_18 := hx_19.2.2 _ _ (by decide) kp_18
  refine mz_putRF (k := 2) (tys := tyX8) F dX8_init_34 rfl rfl rfl rfl (by decide) wiX8_init_8 tyX8_ok nmX8 rfl rfl rfl mX8_init_fl26 (by decide) kthis kp_18 (fun u_21 eu_21 hxu_21 => ?_)
  replace h := h u_21 eu_21
  replace kthis := hxu_21.2.2 _ _ (by decide) kthis
  refine mz_aload_n F dX8_init_37 rfl 0 rfl ?_
  obtain ⟨b_22, h⟩ := h
  refine mz_new (c := 3) F dX8_init_38 rfl rfl tyX2 tyX2_ok wiX8_init_2 (by decide +kernel) mX8_init_cl30 mX8_init_in2 mX8_init_it2 b_22 (fun p_25 u_23 ep_25 eu_23 hx_24 kp_25 => ?_)
  replace h := h p_25 u_23 ep_25 eu_23
  replace kthis := hx_24.2.2 _ _ (by decide) kthis
  refine mz_dup F dX8_init_41 rfl ?_
  refine mz_callIN (As := []) (n := 0) F dX8_init_42 rfl gX8_init_X2_init_n32 nwM8_32 mX8_init_iniX2_init mX8_init_imX2_init rfl (by decide +kernel) (by decide) rfl (Nat.le_of_ble_eq_true rfl) (kX2_init _ G kp_25 h) (mz_kV fun u_27 h hx_26 => ?_)
  replace kthis := hx_26.2.2 _ _ (by decide) kthis
  replace kp_25 := hx_26.2.2 _ _ (by decide) kp_25
  refine mz_putRF (k := 3) (tys := tyX8) F dX8_init_45 rfl rfl rfl rfl (by decide) wiX8_init_8 tyX8_ok nmX8 rfl rfl rfl mX8_init_fl33 (by decide) kthis kp_25 (fun u_28 eu_28 hxu_28 => ?_)
  replace h := h u_28 eu_28
  replace kthis := hxu_28.2.2 _ _ (by decide) kthis
  refine mz_aload_n F dX8_init_48 rfl 0 rfl ?_
  obtain ⟨b_29, h⟩ := h
  refine mz_new (c := 4) F dX8_init_49 rfl rfl tyX3 tyX3_ok wiX8_init_3 (by decide +kernel) mX8_init_cl37 mX8_init_in3 mX8_init_it3 b_29 (fun p_32 u_30 ep_32 eu_30 hx_31 kp_32 => ?_)
  replace h := h p_32 u_30 ep_32 eu_30
  replace kthis := hx_31.2.2 _ _ (by decide) kthis
  refine mz_dup F dX8_init_52 rfl ?_
  refine mz_callIN (As := []) (n := 0) F dX8_init_53 rfl gX8_init_X3_init_n39 nwM8_39 mX8_init_iniX3_init mX8_init_imX3_init rfl (by decide +kernel) (by decide) rfl (Nat.le_of_ble_eq_true rfl) (kX3_init _ G kp_32 h) (mz_kV fun u_34 h hx_33 => ?_)
  replace kthis := hx_33.2.2 _ _ (by decide) kthis
  replace kp_32 := hx_33.2.2 _ _ (by decide) kp_32
  refine mz_putRF (k := 4) (tys := tyX8) F dX8_init_56 rfl rfl rfl rfl (by decide) wiX8_init_8 tyX8_ok nmX8 rfl rfl rfl mX8_init_fl40 (by decide) kthis kp_32 (fun u_35 eu_35 hxu_35 => ?_)
  replace h := h u_35 eu_35
  replace kthis := hxu_35.2.2 _ _ (by decide) kthis
  refine mz_aload_n F dX8_init_59 rfl 0 rfl ?_
  obtain ⟨b_36, h⟩ := h
  refine mz_new (c := 5) F dX8_init_60 rfl rfl tyX4 tyX4_ok wiX8_init_4 (by decide +kernel) mX8_init_cl44 mX8_init_in4 mX8_init_it4 b_36 (fun p_39 u_37 ep_39 eu_37 hx_38 kp_39 => ?_)
  replace h := h p_39 u_37 ep_39 eu_37
  replace kthis := hx_38.2.2 _ _ (by decide) kthis
  refine mz_dup F dX8_init_63 rfl ?_
  refine mz_callIN (As := []) (n := 0) F dX8_init_64 rfl gX8_init_X4_init_n46 nwM8_46 mX8_init_iniX4_init mX8_init_imX4_init rfl (by decide +kernel) (by decide) rfl (Nat.le_of_ble_eq_true rfl) (kX4_init _ G kp_39 h) (mz_kV fun u_41 h hx_40 => ?_)
  replace kthis := hx_40.2.2 _ _ (by decide) kthis
  replace kp_39 := hx_40.2.2 _ _ (by decide) kp_39
  refine mz_putRF (k := 5) (tys := tyX8) F dX8_init_67 rfl rfl rfl rfl (by decide) wiX8_init_8 tyX8_ok nmX8 rfl rfl rfl mX8_init_fl47 (by decide) kthis kp_39 (fun u_42 eu_42 hxu_42 => ?_)
  replace h := h u_42 eu_42
  replace kthis := hxu_42.2.2 _ _ (by decide) kthis
  refine mz_aload_n F dX8_init_70 rfl 0 rfl ?_
  obtain ⟨b_43, h⟩ := h
  refine mz_new (c := 7) F dX8_init_71 rfl rfl tyX6 tyX6_ok wiX8_init_6 (by decide +kernel) mX8_init_cl51 mX8_init_in6 mX8_init_it6 b_43 (fun p_46 u_44 ep_46 eu_44 hx_45 kp_46 => ?_)
  replace h := h p_46 u_44 ep_46 eu_44
  replace kthis := hx_45.2.2 _ _ (by decide) kthis
  refine mz_dup F dX8_init_74 rfl ?_
  refine mz_callIN (As := []) (n := 0) F dX8_init_75 rfl gX8_init_X6_init_n53 nwM8_53 mX8_init_iniX6_init mX8_init_imX6_init rfl (by decide +kernel) (by decide) rfl (Nat.le_of_ble_eq_true rfl) (kX6_init _ G kp_46 h) (mz_kV fun u_48 h hx_47 => ?_)
  replace kthis := hx_47.2.2 _ _ (by decide) kthis
  replace kp_46 := hx_47.2.2 _ _ (by decide) kp_46
  refine mz_putRF (k := 6) (tys := tyX8) F dX8_init_78 rfl rfl rfl rfl (by decide) wiX8_init_8 tyX8_ok nmX8 rfl rfl rfl mX8_init_fl54 (by decide) kthis kp_46 (fun u_49 eu_49 hxu_49 => ?_)
  replace h := h u_49 eu_49
  replace kthis := hxu_49.2.2 _ _ (by decide) kthis
  refine mz_aload_n F dX8_init_81 rfl 0 rfl ?_
  refine mz_bipush (v := 8) F dX8_init_82 (by decide) ?_
  obtain ⟨b_50, h⟩ := h
  refine mz_anew5 (c := 23) F dX8_init_84 mX8_init_cl58 hAO5 rfl (by decide) (by decide) b_50 (fun p_53 u_51 ep_53 eu_51 hx_52 kp_53 => ?_)
  replace h := h p_53 u_51 ep_53 eu_51
  replace kthis := hx_52.2.2 _ _ (by decide) kthis
  refine mz_putRF (k := 7) (tys := tyX8) F dX8_init_87 rfl rfl rfl rfl (by decide) wiX8_init_8 tyX8_ok nmX8 rfl rfl rfl mX8_init_fl60 (by decide) kthis kp_53 (fun u_54 eu_54 hxu_54 => ?_)
  replace h := h u_54 eu_54
  replace kthis := hxu_54.2.2 _ _ (by decide) kthis
  refine mz_iconst (v := 0) F dX8_init_90 (by decide) ?_
  refine mz_istore_n (lv2 := [(1, .int (0 : Int32)), (0, .ref (G.1 + this))]) F dX8_init_91 rfl hN (by decide) rfl ?_
  refine mz_sub [1, 0] rfl ?_
  obtain ⟨n9, h⟩ := h
  exact tX8_init_92 F hN n9 kthis h
set_option maxRecDepth 100000 in
theorem kX8_init (l : Launch) (G : mG) {u : mSt} {K : mSt → Prop} {this : Nat} (kthis : mK u this = 9) (h : bX8_init this u K) : mCt l G yX8_init wsX8_init 2 43 [.ref (G.1 + this)] u (mPv K) := by
  refine mCt.of (cc := cX8_init) (maxL := 2) (ret := none) (by decide) rfl (Nat.le_of_ble_eq_true rfl) ?_
  intro X hl hN F
  exact tX8_init F hN (mAO5 F) kthis h
/-! RoomMapper.cell(IZ)I -/
theorem wiX8_cell_8 : ∀ w ∈ u_ws RX8 TX8 9, w ∈ wsX8_cell := by decide +kernel
theorem fX8_cell_12 : mFld wsX8_cell RX8 12 9 0 2 (.object "RoomMapper$House") true := ⟨8, _, RX8, TX8, 9, tyX8, rfl, rfl, rfl, by decide, wiX8_cell_8, tyX8_ok, nmX8, rfl, rfl, Or.inl ⟨by decide +kernel, fun _ => rfl⟩⟩
theorem wiX8_cell_1 : ∀ w ∈ u_ws RX1 TX1 7, w ∈ wsX8_cell := by decide +kernel
theorem fX8_cell_69 : mFld wsX8_cell RX8 69 2 4 0 .int false := ⟨1, _, RX1, TX1, 7, tyX1, rfl, rfl, rfl, by decide, wiX8_cell_1, tyX1_ok, nmX1, rfl, rfl, Or.inr ⟨"RoomMapper", nwF8_69⟩⟩
theorem mX8_cell_iniX1_addCell : Cond.initialized yX1_addCell.cls ∈ wsX8_cell := by decide +kernel
theorem mX8_cell_imX1_addCell : Cond.instanceMethod yX1_addCell ∈ wsX8_cell := by decide +kernel
theorem mX8_cell_seX1_addCell : Cond.selects RX1 yX1_addCell yX1_addCell ∈ wsX8_cell := by decide +kernel
def bX8_cell (this : Nat) (a1 : Int32) (a2 : Int32) (u : mSt) (K : Int32 → mSt → Prop) : Prop := bX8_within a1 (4 : Int32) u (fun r_3 u_2 => ((r_3 = 0 → K (-1 : Int32) u_2) ∧ (¬ (r_3 = 0) → (∃ q_4, mR u_2 this 0 = some q_4 ∧ (((mI u_2 q_4 4) < (10 : Int32) → (∃ q_5, mR u_2 this 0 = some q_5 ∧ bX1_addCell q_5 a1 a2 u_2 (fun r_8 u_7 => K r_8 u_7))) ∧ (¬ ((mI u_2 q_4 4) < (10 : Int32)) → K (-2 : Int32) u_2))))))
set_option maxRecDepth 100000 in
set_option maxHeartbeats 4000000 in
theorem tX8_cell {X : mCx} {G : mG} {u0 : mSt} {K : Int32 → mSt → Prop} (F : mFx X G cX8_cell wsX8_cell RX8 "cell" 1 23 (some .int) u0 (mPi K)) (hN : X.2.2.2.2.2.2.2.2.2.2.2.2.1 = 3) {this : Nat} {a1 : Int32} {a2 : Int32} {u : mSt} (kthis : mK u this = 9) (h : bX8_cell this a1 a2 u K) : mZ X u 0 [(0, .ref (G.1 + this)), (1, .int a1), (2, .int a2)] [] := by
  refine mz_iload_n F dX8_cell_0 rfl 1 rfl ?_
  refine mz_iconst (v := 4) F dX8_cell_1 (by decide) ?_
  refine mz_callS (As := [_, _]) (n := 2) F dX8_cell_2 rfl gX8_cell_X8_within (by decide +kernel) (by decide) rfl (Nat.le_of_ble_eq_true rfl) (kX8_within _ G h) (mz_kZ fun r_3 u_2 br_3 h hx_1 => ?_)
  replace kthis := hx_1.2.2 _ _ (by decide) kthis
  refine mz_if_ne (tgt := 10) F dX8_cell_5 (by decide) (fun c_10 => ?_) (fun c_10 => ?_)
  · replace h := h.2 c_10
    refine mz_aload_n F dX8_cell_10 rfl 0 rfl ?_
    obtain ⟨q_4, eq_4, h⟩ := h
    refine mz_getR F dX8_cell_11 fX8_cell_12 (by decide) kthis eq_4 (fun kq_4 => ?_)
    refine mz_getI F dX8_cell_14 fX8_cell_69 kq_4 ?_
    refine mz_bipush (v := 10) F dX8_cell_17 (by decide) ?_
    refine mz_icmp_lt (tgt := 25) F dX8_cell_19 (by decide) (fun c_9 => ?_) (fun c_9 => ?_)
    · replace h := h.1 c_9
      refine mz_aload_n F dX8_cell_25 rfl 0 rfl ?_
      obtain ⟨q_5, eq_5, h⟩ := h
      refine mz_getR F dX8_cell_26 fX8_cell_12 (by decide) kthis eq_5 (fun kq_5 => ?_)
      refine mz_iload_n F dX8_cell_29 rfl 1 rfl ?_
      refine mz_iload_n F dX8_cell_30 rfl 2 rfl ?_
      refine mz_callVN (As := [_, _]) (n := 2) F dX8_cell_31 rfl kq_5 rfl rfl gX8_cell_X1_addCell_n73 nwM8_73 mX8_cell_iniX1_addCell mX8_cell_imX1_addCell mX8_cell_seX1_addCell (by decide +kernel) (by decide) rfl (Nat.le_of_ble_eq_true rfl) (kX1_addCell _ G kq_5 h) (mz_kI fun r_8 u_7 h hx_6 => ?_)
      exact mz_iret F dX8_cell_34 ⟨_, rfl, h⟩
    · replace h := h.2 c_9
      refine mz_bipush (v := (-2)) F dX8_cell_22 (by decide) ?_
      exact mz_iret F dX8_cell_24 ⟨_, rfl, h⟩
  · replace h := h.1 c_10
    refine mz_iconst (v := (-1)) F dX8_cell_8 (by decide) ?_
    exact mz_iret F dX8_cell_9 ⟨_, rfl, h⟩
set_option maxRecDepth 100000 in
theorem kX8_cell (l : Launch) (G : mG) {u : mSt} {K : Int32 → mSt → Prop} {this : Nat} {a1 : Int32} {a2 : Int32} (kthis : mK u this = 9) (h : bX8_cell this a1 a2 u K) : mCt l G yX8_cell wsX8_cell 1 23 [.ref (G.1 + this), .int a1, .int a2] u (mPi K) := by
  refine mCt.of (cc := cX8_cell) (maxL := 3) (ret := (some .int)) (by decide) rfl (Nat.le_of_ble_eq_true rfl) ?_
  intro X hl hN F
  exact tX8_cell F hN kthis h
/-! RoomMapper.lead(IIII)I -/
theorem mX8_lead_iniX1_setLead : Cond.initialized yX1_setLead.cls ∈ wsX8_lead := by decide +kernel
theorem mX8_lead_imX1_setLead : Cond.instanceMethod yX1_setLead ∈ wsX8_lead := by decide +kernel
theorem mX8_lead_seX1_setLead : Cond.selects RX1 yX1_setLead yX1_setLead ∈ wsX8_lead := by decide +kernel
theorem wiX8_lead_8 : ∀ w ∈ u_ws RX8 TX8 9, w ∈ wsX8_lead := by decide +kernel
theorem fX8_lead_12 : mFld wsX8_lead RX8 12 9 0 2 (.object "RoomMapper$House") true := ⟨8, _, RX8, TX8, 9, tyX8, rfl, rfl, rfl, by decide, wiX8_lead_8, tyX8_ok, nmX8, rfl, rfl, Or.inl ⟨by decide +kernel, fun _ => rfl⟩⟩
theorem wiX8_lead_1 : ∀ w ∈ u_ws RX1 TX1 7, w ∈ wsX8_lead := by decide +kernel
theorem fX8_lead_69 : mFld wsX8_lead RX8 69 2 4 0 .int false := ⟨1, _, RX1, TX1, 7, tyX1, rfl, rfl, rfl, by decide, wiX8_lead_1, tyX1_ok, nmX1, rfl, rfl, Or.inr ⟨"RoomMapper", nwF8_69⟩⟩
def bX8_lead_74 (w0 : Nat) (w1 : Int32) (w2 : Int32) (w3 : Int32) (u : mSt) (K : Int32 → mSt → Prop) : Prop := bX1_setLead w0 w1 w2 w3 u (fun r_3 u_2 => K r_3 u_2)
set_option maxRecDepth 100000 in
set_option maxHeartbeats 4000000 in
theorem tX8_lead_74 {X : mCx} {G : mG} {u0 : mSt} {K : Int32 → mSt → Prop} (F : mFx X G cX8_lead wsX8_lead RX8 "lead" 1 24 (some .int) u0 (mPi K)) (hN : X.2.2.2.2.2.2.2.2.2.2.2.2.1 = 5) {w0 : Nat} {w1 : Int32} {w2 : Int32} {w3 : Int32} {u : mSt} (kw0 : mK u w0 = 2) (h : bX8_lead_74 w0 w1 w2 w3 u K) : mZ X u 74 [] [.int w3, .int w2, .int w1, .ref (G.1 + w0)] := by
  refine mz_callVN (As := [_, _, _]) (n := 3) F dX8_lead_74 rfl kw0 rfl rfl gX8_lead_X1_setLead_n77 nwM8_77 mX8_lead_iniX1_setLead mX8_lead_imX1_setLead mX8_lead_seX1_setLead (by decide +kernel) (by decide) rfl (Nat.le_of_ble_eq_true rfl) (kX1_setLead _ G kw0 h) (mz_kI fun r_3 u_2 h hx_1 => ?_)
  exact mz_iret F dX8_lead_77 ⟨_, rfl, h⟩
def bX8_lead_54 (v0 : Nat) (v1 : Int32) (v2 : Int32) (v3 : Int32) (v4 : Int32) (u : mSt) (K : Int32 → mSt → Prop) : Prop := (∃ q_1, mR u v0 0 = some q_1 ∧ ((v3 = 0 → bX8_lead_74 q_1 ((v1 * (4 : Int32)) + v2) v3 v1 u K) ∧ (¬ (v3 = 0) → bX8_lead_74 q_1 ((v1 * (4 : Int32)) + v2) v3 v4 u K)))
set_option maxRecDepth 100000 in
set_option maxHeartbeats 4000000 in
theorem tX8_lead_54 {X : mCx} {G : mG} {u0 : mSt} {K : Int32 → mSt → Prop} (F : mFx X G cX8_lead wsX8_lead RX8 "lead" 1 24 (some .int) u0 (mPi K)) (hN : X.2.2.2.2.2.2.2.2.2.2.2.2.1 = 5) {v0 : Nat} {v1 : Int32} {v2 : Int32} {v3 : Int32} {v4 : Int32} {u : mSt} (kv0 : mK u v0 = 9) (h : bX8_lead_54 v0 v1 v2 v3 v4 u K) : mZ X u 54 [(0, .ref (G.1 + v0)), (1, .int v1), (2, .int v2), (3, .int v3), (4, .int v4)] [] := by
  refine mz_aload_n F dX8_lead_54 rfl 0 rfl ?_
  obtain ⟨q_1, eq_1, h⟩ := h
  refine mz_getR F dX8_lead_55 fX8_lead_12 (by decide) kv0 eq_1 (fun kq_1 => ?_)
  refine mz_iload_n F dX8_lead_58 rfl 1 rfl ?_
  refine mz_iconst (v := 4) F dX8_lead_59 (by decide) ?_
  refine mz_imul F dX8_lead_60 ?_
  refine mz_iload_n F dX8_lead_61 rfl 2 rfl ?_
  refine mz_iadd F dX8_lead_62 ?_
  refine mz_iload_n F dX8_lead_63 rfl 3 rfl ?_
  refine mz_iload_n F dX8_lead_64 rfl 3 rfl ?_
  refine mz_if_ne (tgt := 72) F dX8_lead_65 (by decide) (fun c_2 => ?_) (fun c_2 => ?_)
  · replace h := h.2 c_2
    refine mz_iload F dX8_lead_72 4 rfl ?_
    refine mz_sub [] rfl ?_
    exact tX8_lead_74 F hN kq_1 h
  · replace h := h.1 c_2
    refine mz_iload_n F dX8_lead_68 rfl 1 rfl ?_
    refine mz_goto (tgt := 74) F dX8_lead_69 (by decide) ?_
    refine mz_sub [] rfl ?_
    exact tX8_lead_74 F hN kq_1 h
def bX8_lead (this : Nat) (a1 : Int32) (a2 : Int32) (a3 : Int32) (a4 : Int32) (u : mSt) (K : Int32 → mSt → Prop) : Prop := (∃ q_1, mR u this 0 = some q_1 ∧ bX8_within a1 (mI u q_1 4) u (fun r_4 u_3 => ((r_4 = 0 → K (-1 : Int32) u_3) ∧ (¬ (r_4 = 0) → bX8_within a2 (4 : Int32) u_3 (fun r_7 u_6 => ((r_7 = 0 → K (-1 : Int32) u_6) ∧ (¬ (r_7 = 0) → bX8_within a3 (6 : Int32) u_6 (fun r_10 u_9 => ((r_10 = 0 → K (-1 : Int32) u_9) ∧ (¬ (r_10 = 0) → ((a3 = 0 → bX8_lead_54 this a1 a2 a3 a4 u_9 K) ∧ (¬ (a3 = 0) → (∃ q_11, mR u_9 this 0 = some q_11 ∧ bX8_within a4 (mI u_9 q_11 4) u_9 (fun r_14 u_13 => ((r_14 = 0 → K (-1 : Int32) u_13) ∧ (¬ (r_14 = 0) → bX8_lead_54 this a1 a2 a3 a4 u_13 K))))))))))))))))
set_option maxRecDepth 100000 in
set_option maxHeartbeats 4000000 in
theorem tX8_lead {X : mCx} {G : mG} {u0 : mSt} {K : Int32 → mSt → Prop} (F : mFx X G cX8_lead wsX8_lead RX8 "lead" 1 24 (some .int) u0 (mPi K)) (hN : X.2.2.2.2.2.2.2.2.2.2.2.2.1 = 5) {this : Nat} {a1 : Int32} {a2 : Int32} {a3 : Int32} {a4 : Int32} {u : mSt} (kthis : mK u this = 9) (h : bX8_lead this a1 a2 a3 a4 u K) : mZ X u 0 [(0, .ref (G.1 + this)), (1, .int a1), (2, .int a2), (3, .int a3), (4, .int a4)] [] := by
  refine mz_iload_n F dX8_lead_0 rfl 1 rfl ?_
  refine mz_aload_n F dX8_lead_1 rfl 0 rfl ?_
  obtain ⟨q_1, eq_1, h⟩ := h
  refine mz_getR F dX8_lead_2 fX8_lead_12 (by decide) kthis eq_1 (fun kq_1 => ?_)
  refine mz_getI F dX8_lead_5 fX8_lead_69 kq_1 ?_
  refine mz_callS (As := [_, _]) (n := 2) F dX8_lead_8 rfl gX8_lead_X8_within (by decide +kernel) (by decide) rfl (Nat.le_of_ble_eq_true rfl) (kX8_within _ G h) (mz_kZ fun r_4 u_3 br_4 h hx_2 => ?_)
  replace kthis := hx_2.2.2 _ _ (by decide) kthis
  refine mz_if_eq (tgt := 31) F dX8_lead_11 (by decide) (fun c_19 => ?_) (fun c_19 => ?_)
  · replace h := h.1 c_19
    refine mz_iconst (v := (-1)) F dX8_lead_31 (by decide) ?_
    exact mz_iret F dX8_lead_32 ⟨_, rfl, h⟩
  · replace h := h.2 c_19
    refine mz_iload_n F dX8_lead_14 rfl 2 rfl ?_
    refine mz_iconst (v := 4) F dX8_lead_15 (by decide) ?_
    refine mz_callS (As := [_, _]) (n := 2) F dX8_lead_16 rfl gX8_lead_X8_within (by decide +kernel) (by decide) rfl (Nat.le_of_ble_eq_true rfl) (kX8_within _ G h) (mz_kZ fun r_7 u_6 br_7 h hx_5 => ?_)
    replace kthis := hx_5.2.2 _ _ (by decide) kthis
    refine mz_if_eq (tgt := 31) F dX8_lead_19 (by decide) (fun c_18 => ?_) (fun c_18 => ?_)
    · replace h := h.1 c_18
      refine mz_iconst (v := (-1)) F dX8_lead_31 (by decide) ?_
      exact mz_iret F dX8_lead_32 ⟨_, rfl, h⟩
    · replace h := h.2 c_18
      refine mz_iload_n F dX8_lead_22 rfl 3 rfl ?_
      refine mz_bipush (v := 6) F dX8_lead_23 (by decide) ?_
      refine mz_callS (As := [_, _]) (n := 2) F dX8_lead_25 rfl gX8_lead_X8_within (by decide +kernel) (by decide) rfl (Nat.le_of_ble_eq_true rfl) (kX8_within _ G h) (mz_kZ fun r_10 u_9 br_10 h hx_8 => ?_)
      replace kthis := hx_8.2.2 _ _ (by decide) kthis
      refine mz_if_ne (tgt := 33) F dX8_lead_28 (by decide) (fun c_17 => ?_) (fun c_17 => ?_)
      · replace h := h.2 c_17
        refine mz_iload_n F dX8_lead_33 rfl 3 rfl ?_
        refine mz_if_eq (tgt := 54) F dX8_lead_34 (by decide) (fun c_16 => ?_) (fun c_16 => ?_)
        · replace h := h.1 c_16
          refine mz_sub [0, 1, 2, 3, 4] rfl ?_
          exact tX8_lead_54 F hN kthis h
        · replace h := h.2 c_16
          refine mz_iload F dX8_lead_37 4 rfl ?_
          refine mz_aload_n F dX8_lead_39 rfl 0 rfl ?_
          obtain ⟨q_11, eq_11, h⟩ := h
          refine mz_getR F dX8_lead_40 fX8_lead_12 (by decide) kthis eq_11 (fun kq_11 => ?_)
          refine mz_getI F dX8_lead_43 fX8_lead_69 kq_11 ?_
          refine mz_callS (As := [_, _]) (n := 2) F dX8_lead_46 rfl gX8_lead_X8_within (by decide +kernel) (by decide) rfl (Nat.le_of_ble_eq_true rfl) (kX8_within _ G h) (mz_kZ fun r_14 u_13 br_14 h hx_12 => ?_)
          replace kthis := hx_12.2.2 _ _ (by decide) kthis
          refine mz_if_ne (tgt := 54) F dX8_lead_49 (by decide) (fun c_15 => ?_) (fun c_15 => ?_)
          · replace h := h.2 c_15
            refine mz_sub [0, 1, 2, 3, 4] rfl ?_
            exact tX8_lead_54 F hN kthis h
          · replace h := h.1 c_15
            refine mz_iconst (v := (-1)) F dX8_lead_52 (by decide) ?_
            exact mz_iret F dX8_lead_53 ⟨_, rfl, h⟩
      · replace h := h.1 c_17
        refine mz_iconst (v := (-1)) F dX8_lead_31 (by decide) ?_
        exact mz_iret F dX8_lead_32 ⟨_, rfl, h⟩
set_option maxRecDepth 100000 in
theorem kX8_lead (l : Launch) (G : mG) {u : mSt} {K : Int32 → mSt → Prop} {this : Nat} {a1 : Int32} {a2 : Int32} {a3 : Int32} {a4 : Int32} (kthis : mK u this = 9) (h : bX8_lead this a1 a2 a3 a4 u K) : mCt l G yX8_lead wsX8_lead 1 24 [.ref (G.1 + this), .int a1, .int a2, .int a3, .int a4] u (mPi K) := by
  refine mCt.of (cc := cX8_lead) (maxL := 5) (ret := (some .int)) (by decide) rfl (Nat.le_of_ble_eq_true rfl) ?_
  intro X hl hN F
  exact tX8_lead F hN kthis h
/-! RoomMapper.start(I)I -/
theorem wiX8_start_8 : ∀ w ∈ u_ws RX8 TX8 9, w ∈ wsX8_start := by decide +kernel
theorem fX8_start_12 : mFld wsX8_start RX8 12 9 0 2 (.object "RoomMapper$House") true := ⟨8, _, RX8, TX8, 9, tyX8, rfl, rfl, rfl, by decide, wiX8_start_8, tyX8_ok, nmX8, rfl, rfl, Or.inl ⟨by decide +kernel, fun _ => rfl⟩⟩
theorem wiX8_start_1 : ∀ w ∈ u_ws RX1 TX1 7, w ∈ wsX8_start := by decide +kernel
theorem fX8_start_69 : mFld wsX8_start RX8 69 2 4 0 .int false := ⟨1, _, RX1, TX1, 7, tyX1, rfl, rfl, rfl, by decide, wiX8_start_1, tyX1_ok, nmX1, rfl, rfl, Or.inr ⟨"RoomMapper", nwF8_69⟩⟩
theorem fX8_start_81 : mFld wsX8_start RX8 81 9 8 0 .boolean false := ⟨8, _, RX8, TX8, 9, tyX8, rfl, rfl, rfl, by decide, wiX8_start_8, tyX8_ok, nmX8, rfl, rfl, Or.inl ⟨by decide +kernel, fun _ => rfl⟩⟩
theorem mX8_start_iniX1_begin : Cond.initialized yX1_begin.cls ∈ wsX8_start := by decide +kernel
theorem mX8_start_imX1_begin : Cond.instanceMethod yX1_begin ∈ wsX8_start := by decide +kernel
theorem mX8_start_seX1_begin : Cond.selects RX1 yX1_begin yX1_begin ∈ wsX8_start := by decide +kernel
theorem fX8_start_19 : mFld wsX8_start RX8 19 9 1 8 (.object "RoomMapper$Walk") true := ⟨8, _, RX8, TX8, 9, tyX8, rfl, rfl, rfl, by decide, wiX8_start_8, tyX8_ok, nmX8, rfl, rfl, Or.inl ⟨by decide +kernel, fun _ => rfl⟩⟩
theorem wiX8_start_7 : ∀ w ∈ u_ws RX7 TX7 3, w ∈ wsX8_start := by decide +kernel
theorem fX8_start_88 : mFld wsX8_start RX8 88 8 2 0 .int false := ⟨7, _, RX7, TX7, 3, tyX7, rfl, rfl, rfl, by decide, wiX8_start_7, tyX7_ok, nmX7, rfl, rfl, Or.inr ⟨"RoomMapper", nwF8_88⟩⟩
theorem fX8_start_26 : mFld wsX8_start RX8 26 9 2 1 (.object "RoomMapper$Atlas") true := ⟨8, _, RX8, TX8, 9, tyX8, rfl, rfl, rfl, by decide, wiX8_start_8, tyX8_ok, nmX8, rfl, rfl, Or.inl ⟨by decide +kernel, fun _ => rfl⟩⟩
theorem fX8_start_91 : mFld wsX8_start RX8 91 2 0 12 (.array .int) true := ⟨1, _, RX1, TX1, 7, tyX1, rfl, rfl, rfl, by decide, wiX8_start_1, tyX1_ok, nmX1, rfl, rfl, Or.inr ⟨"RoomMapper", nwF8_91⟩⟩
theorem mX8_start_iniX0_begin : Cond.initialized yX0_begin.cls ∈ wsX8_start := by decide +kernel
theorem mX8_start_imX0_begin : Cond.instanceMethod yX0_begin ∈ wsX8_start := by decide +kernel
theorem mX8_start_seX0_begin : Cond.selects RX0 yX0_begin yX0_begin ∈ wsX8_start := by decide +kernel
def bX8_start (this : Nat) (a1 : Int32) (u : mSt) (K : Int32 → mSt → Prop) : Prop := ((a1 < (1 : Int32) → K (-1 : Int32) u) ∧ (¬ (a1 < (1 : Int32)) → ((a1 ≤ (6 : Int32) → (∃ q_1, mR u this 0 = some q_1 ∧ (((mI u q_1 4) = 0 → K (-2 : Int32) u) ∧ (¬ ((mI u q_1 4) = 0) → (∀ u_2, u_2 = mpI u this 8 (1 : Int32) → (∃ q_3, mR u_2 this 0 = some q_3 ∧ bX1_begin q_3 u_2 (fun u_5 => (∃ q_6, mR u_5 this 1 = some q_6 ∧ (∀ u_7, u_7 = mpI u_5 q_6 2 (0 : Int32) → (∃ q_8, mR u_7 this 2 = some q_8 ∧ (∃ q_9, mR u_7 this 0 = some q_9 ∧ (∃ q_10, mR u_7 q_9 0 = some q_10 ∧ (vp_in (0 : Int32) 10 ∧ bX0_begin q_8 a1 (mI u_7 q_10 (0 : Int32).toNatClampNeg) u_7 (fun u_13 => K (0 : Int32) u_13)))))))))))))) ∧ (¬ (a1 ≤ (6 : Int32)) → K (-1 : Int32) u))))
set_option maxRecDepth 100000 in
set_option maxHeartbeats 4000000 in
theorem tX8_start {X : mCx} {G : mG} {u0 : mSt} {K : Int32 → mSt → Prop} (F : mFx X G cX8_start wsX8_start RX8 "start" 4 86 (some .int) u0 (mPi K)) (hN : X.2.2.2.2.2.2.2.2.2.2.2.2.1 = 2) {this : Nat} {a1 : Int32} {u : mSt} (kthis : mK u this = 9) (h : bX8_start this a1 u K) : mZ X u 0 [(0, .ref (G.1 + this)), (1, .int a1)] [] := by
  refine mz_iload_n F dX8_start_0 rfl 1 rfl ?_
  refine mz_iconst (v := 1) F dX8_start_1 (by decide) ?_
  refine mz_icmp_lt (tgt := 11) F dX8_start_2 (by decide) (fun c_16 => ?_) (fun c_16 => ?_)
  · replace h := h.1 c_16
    refine mz_iconst (v := (-1)) F dX8_start_11 (by decide) ?_
    exact mz_iret F dX8_start_12 ⟨_, rfl, h⟩
  · replace h := h.2 c_16
    refine mz_iload_n F dX8_start_5 rfl 1 rfl ?_
    refine mz_bipush (v := 6) F dX8_start_6 (by decide) ?_
    refine mz_icmp_le (tgt := 13) F dX8_start_8 (by decide) (fun c_15 => ?_) (fun c_15 => ?_)
    · replace h := h.1 c_15
      refine mz_aload_n F dX8_start_13 rfl 0 rfl ?_
      obtain ⟨q_1, eq_1, h⟩ := h
      refine mz_getR F dX8_start_14 fX8_start_12 (by decide) kthis eq_1 (fun kq_1 => ?_)
      refine mz_getI F dX8_start_17 fX8_start_69 kq_1 ?_
      refine mz_if_ne (tgt := 26) F dX8_start_20 (by decide) (fun c_14 => ?_) (fun c_14 => ?_)
      · replace h := h.2 c_14
        refine mz_aload_n F dX8_start_26 rfl 0 rfl ?_
        refine mz_iconst (v := 1) F dX8_start_27 (by decide) ?_
        refine mz_putI F dX8_start_28 fX8_start_81 kthis rfl rfl (fun u_2 eu_2 hxu_2 => ?_)
        replace h := h u_2 eu_2
        replace kthis := hxu_2.2.2 _ _ (by decide) kthis
        refine mz_aload_n F dX8_start_31 rfl 0 rfl ?_
        obtain ⟨q_3, eq_3, h⟩ := h
        refine mz_getR F dX8_start_32 fX8_start_12 (by decide) kthis eq_3 (fun kq_3 => ?_)
        refine mz_callVN (As := []) (n := 0) F dX8_start_35 rfl kq_3 rfl rfl gX8_start_X1_begin_n85 nwM8_85 mX8_start_iniX1_begin mX8_start_imX1_begin mX8_start_seX1_begin (by decide +kernel) (by decide) rfl (Nat.le_of_ble_eq_true rfl) (kX1_begin _ G kq_3 h) (mz_kV fun u_5 h hx_4 => ?_)
        replace kthis := hx_4.2.2 _ _ (by decide) kthis
        refine mz_aload_n F dX8_start_38 rfl 0 rfl ?_
        obtain ⟨q_6, eq_6, h⟩ := h
        refine mz_getR F dX8_start_39 fX8_start_19 (by decide) kthis eq_6 (fun kq_6 => ?_)
        refine mz_iconst (v := 0) F dX8_start_42 (by decide) ?_
        refine mz_putI F dX8_start_43 fX8_start_88 kq_6 rfl rfl (fun u_7 eu_7 hxu_7 => ?_)
        replace h := h u_7 eu_7
        replace kthis := hxu_7.2.2 _ _ (by decide) kthis
        refine mz_aload_n F dX8_start_46 rfl 0 rfl ?_
        obtain ⟨q_8, eq_8, h⟩ := h
        refine mz_getR F dX8_start_47 fX8_start_26 (by decide) kthis eq_8 (fun kq_8 => ?_)
        refine mz_iload_n F dX8_start_50 rfl 1 rfl ?_
        refine mz_aload_n F dX8_start_51 rfl 0 rfl ?_
        obtain ⟨q_9, eq_9, h⟩ := h
        refine mz_getR F dX8_start_52 fX8_start_12 (by decide) kthis eq_9 (fun kq_9 => ?_)
        obtain ⟨q_10, eq_10, h⟩ := h
        refine mz_getR F dX8_start_55 fX8_start_91 (by decide) kq_9 eq_10 (fun kq_10 => ?_)
        refine mz_iconst (v := 0) F dX8_start_58 (by decide) ?_
        obtain ⟨b_11, h⟩ := h
        refine mz_iald F dX8_start_59 kq_10 rfl b_11 ?_
        refine mz_callVN (As := [_, _]) (n := 2) F dX8_start_60 rfl kq_8 rfl rfl gX8_start_X0_begin_n95 nwM8_95 mX8_start_iniX0_begin mX8_start_imX0_begin mX8_start_seX0_begin (by decide +kernel) (by decide) rfl (Nat.le_of_ble_eq_true rfl) (kX0_begin _ G kq_8 h) (mz_kV fun u_13 h hx_12 => ?_)
        refine mz_iconst (v := 0) F dX8_start_63 (by decide) ?_
        exact mz_iret F dX8_start_64 ⟨_, rfl, h⟩
      · replace h := h.1 c_14
        refine mz_bipush (v := (-2)) F dX8_start_23 (by decide) ?_
        exact mz_iret F dX8_start_25 ⟨_, rfl, h⟩
    · replace h := h.2 c_15
      refine mz_iconst (v := (-1)) F dX8_start_11 (by decide) ?_
      exact mz_iret F dX8_start_12 ⟨_, rfl, h⟩
set_option maxRecDepth 100000 in
theorem kX8_start (l : Launch) (G : mG) {u : mSt} {K : Int32 → mSt → Prop} {this : Nat} {a1 : Int32} (kthis : mK u this = 9) (h : bX8_start this a1 u K) : mCt l G yX8_start wsX8_start 4 86 [.ref (G.1 + this), .int a1] u (mPi K) := by
  refine mCt.of (cc := cX8_start) (maxL := 2) (ret := (some .int)) (by decide) rfl (Nat.le_of_ble_eq_true rfl) ?_
  intro X hl hN F
  exact tX8_start F hN kthis h
/-! RoomMapper.act(I)I -/
theorem wiX8_act_8 : ∀ w ∈ u_ws RX8 TX8 9, w ∈ wsX8_act := by decide +kernel
theorem fX8_act_81 : mFld wsX8_act RX8 81 9 8 0 .boolean false := ⟨8, _, RX8, TX8, 9, tyX8, rfl, rfl, rfl, by decide, wiX8_act_8, tyX8_ok, nmX8, rfl, rfl, Or.inl ⟨by decide +kernel, fun _ => rfl⟩⟩
theorem fX8_act_19 : mFld wsX8_act RX8 19 9 1 8 (.object "RoomMapper$Walk") true := ⟨8, _, RX8, TX8, 9, tyX8, rfl, rfl, rfl, by decide, wiX8_act_8, tyX8_ok, nmX8, rfl, rfl, Or.inl ⟨by decide +kernel, fun _ => rfl⟩⟩
theorem wiX8_act_7 : ∀ w ∈ u_ws RX7 TX7 3, w ∈ wsX8_act := by decide +kernel
theorem fX8_act_88 : mFld wsX8_act RX8 88 8 2 0 .int false := ⟨7, _, RX7, TX7, 3, tyX7, rfl, rfl, rfl, by decide, wiX8_act_7, tyX7_ok, nmX7, rfl, rfl, Or.inr ⟨"RoomMapper", nwF8_88⟩⟩
theorem fX8_act_12 : mFld wsX8_act RX8 12 9 0 2 (.object "RoomMapper$House") true := ⟨8, _, RX8, TX8, 9, tyX8, rfl, rfl, rfl, by decide, wiX8_act_8, tyX8_ok, nmX8, rfl, rfl, Or.inl ⟨by decide +kernel, fun _ => rfl⟩⟩
theorem mX8_act_iniX1_perform : Cond.initialized yX1_perform.cls ∈ wsX8_act := by decide +kernel
theorem mX8_act_imX1_perform : Cond.instanceMethod yX1_perform ∈ wsX8_act := by decide +kernel
theorem mX8_act_seX1_perform : Cond.selects RX1 yX1_perform yX1_perform ∈ wsX8_act := by decide +kernel
theorem mX8_act_iniX1_sight : Cond.initialized yX1_sight.cls ∈ wsX8_act := by decide +kernel
theorem mX8_act_imX1_sight : Cond.instanceMethod yX1_sight ∈ wsX8_act := by decide +kernel
theorem mX8_act_seX1_sight : Cond.selects RX1 yX1_sight yX1_sight ∈ wsX8_act := by decide +kernel
theorem mX8_act_iniX7_add : Cond.initialized yX7_add.cls ∈ wsX8_act := by decide +kernel
theorem mX8_act_imX7_add : Cond.instanceMethod yX7_add ∈ wsX8_act := by decide +kernel
theorem mX8_act_seX7_add : Cond.selects RX7 yX7_add yX7_add ∈ wsX8_act := by decide +kernel
theorem fX8_act_26 : mFld wsX8_act RX8 26 9 2 1 (.object "RoomMapper$Atlas") true := ⟨8, _, RX8, TX8, 9, tyX8, rfl, rfl, rfl, by decide, wiX8_act_8, tyX8_ok, nmX8, rfl, rfl, Or.inl ⟨by decide +kernel, fun _ => rfl⟩⟩
theorem mX8_act_iniX0_advance : Cond.initialized yX0_advance.cls ∈ wsX8_act := by decide +kernel
theorem mX8_act_imX0_advance : Cond.instanceMethod yX0_advance ∈ wsX8_act := by decide +kernel
theorem mX8_act_seX0_advance : Cond.selects RX0 yX0_advance yX0_advance ∈ wsX8_act := by decide +kernel
def bX8_act (this : Nat) (a1 : Int32) (u : mSt) (K : Int32 → mSt → Prop) : Prop := bX8_within a1 (6 : Int32) u (fun r_3 u_2 => ((r_3 = 0 → K (-1 : Int32) u_2) ∧ (¬ (r_3 = 0) → (((mI u_2 this 8) = 0 → K (-2 : Int32) u_2) ∧ (¬ ((mI u_2 this 8) = 0) → (∃ q_4, mR u_2 this 1 = some q_4 ∧ (((mI u_2 q_4 2) < (200 : Int32) → (∃ q_5, mR u_2 this 0 = some q_5 ∧ bX1_perform q_5 a1 u_2 (fun r_8 u_7 => (∃ q_9, mR u_7 this 0 = some q_9 ∧ bX1_sight q_9 r_8 u_7 (fun r_12 u_11 => (∃ q_13, mR u_11 this 1 = some q_13 ∧ bX7_add q_13 a1 r_12 u_11 (fun u_15 => (∃ q_16, mR u_15 this 2 = some q_16 ∧ bX0_advance q_16 a1 r_12 u_15 (fun u_18 => ((r_8 = 0 → K (0 : Int32) u_18) ∧ (¬ (r_8 = 0) → K (1 : Int32) u_18))))))))))) ∧ (¬ ((mI u_2 q_4 2) < (200 : Int32)) → K (-3 : Int32) u_2))))))))
set_option maxRecDepth 100000 in
set_option maxHeartbeats 4000000 in
theorem tX8_act {X : mCx} {G : mG} {u0 : mSt} {K : Int32 → mSt → Prop} (F : mFx X G cX8_act wsX8_act RX8 "act" 7 177 (some .int) u0 (mPi K)) (hN : X.2.2.2.2.2.2.2.2.2.2.2.2.1 = 4) {this : Nat} {a1 : Int32} {u : mSt} (kthis : mK u this = 9) (h : bX8_act this a1 u K) : mZ X u 0 [(0, .ref (G.1 + this)), (1, .int a1)] [] := by
  refine mz_iload_n F dX8_act_0 rfl 1 rfl ?_
  refine mz_bipush (v := 6) F dX8_act_1 (by decide) ?_
  refine mz_callS (As := [_, _]) (n := 2) F dX8_act_3 rfl gX8_act_X8_within (by decide +kernel) (by decide) rfl (Nat.le_of_ble_eq_true rfl) (kX8_within _ G h) (mz_kZ fun r_3 u_2 br_3 h hx_1 => ?_)
  replace kthis := hx_1.2.2 _ _ (by decide) kthis
  refine mz_if_ne (tgt := 11) F dX8_act_6 (by decide) (fun c_22 => ?_) (fun c_22 => ?_)
  · replace h := h.2 c_22
    refine mz_aload_n F dX8_act_11 rfl 0 rfl ?_
    refine mz_getI F dX8_act_12 fX8_act_81 kthis ?_
    refine mz_if_ne (tgt := 21) F dX8_act_15 (by decide) (fun c_21 => ?_) (fun c_21 => ?_)
    · replace h := h.2 c_21
      refine mz_aload_n F dX8_act_21 rfl 0 rfl ?_
      obtain ⟨q_4, eq_4, h⟩ := h
      refine mz_getR F dX8_act_22 fX8_act_19 (by decide) kthis eq_4 (fun kq_4 => ?_)
      refine mz_getI F dX8_act_25 fX8_act_88 kq_4 ?_
      refine mz_sipush (v := 200) F dX8_act_28 (by decide) ?_
      refine mz_icmp_lt (tgt := 37) F dX8_act_31 (by decide) (fun c_20 => ?_) (fun c_20 => ?_)
      · replace h := h.1 c_20
        refine mz_aload_n F dX8_act_37 rfl 0 rfl ?_
        obtain ⟨q_5, eq_5, h⟩ := h
        refine mz_getR F dX8_act_38 fX8_act_12 (by decide) kthis eq_5 (fun kq_5 => ?_)
        refine mz_iload_n F dX8_act_41 rfl 1 rfl ?_
        refine mz_callVN (As := [_]) (n := 1) F dX8_act_42 rfl kq_5 rfl rfl gX8_act_X1_perform_n98 nwM8_98 mX8_act_iniX1_perform mX8_act_imX1_perform mX8_act_seX1_perform (by decide +kernel) (by decide) rfl (Nat.le_of_ble_eq_true rfl) (kX1_perform _ G kq_5 h) (mz_kZ fun r_8 u_7 br_8 h hx_6 => ?_)
        replace kthis := hx_6.2.2 _ _ (by decide) kthis
        refine mz_istore_n (lv2 := [(2, .int r_8), (0, .ref (G.1 + this)), (1, .int a1)]) F dX8_act_45 rfl hN (by decide) rfl ?_
        refine mz_aload_n F dX8_act_46 rfl 1 rfl ?_
        obtain ⟨q_9, eq_9, h⟩ := h
        refine mz_getR F dX8_act_47 fX8_act_12 (by decide) kthis eq_9 (fun kq_9 => ?_)
        refine mz_iload_n F dX8_act_50 rfl 0 rfl ?_
        refine mz_callVN (As := [_]) (n := 1) F dX8_act_51 rfl kq_9 rfl rfl gX8_act_X1_sight_n102 nwM8_102 mX8_act_iniX1_sight mX8_act_imX1_sight mX8_act_seX1_sight (by decide +kernel) (by decide) rfl (Nat.le_of_ble_eq_true rfl) (kX1_sight _ G kq_9 h) (mz_kI fun r_12 u_11 h hx_10 => ?_)
        replace kthis := hx_10.2.2 _ _ (by decide) kthis
        refine mz_istore_n (lv2 := [(3, .int r_12), (2, .int r_8), (0, .ref (G.1 + this)), (1, .int a1)]) F dX8_act_54 rfl hN (by decide) rfl ?_
        refine mz_aload_n F dX8_act_55 rfl 2 rfl ?_
        obtain ⟨q_13, eq_13, h⟩ := h
        refine mz_getR F dX8_act_56 fX8_act_19 (by decide) kthis eq_13 (fun kq_13 => ?_)
        refine mz_iload_n F dX8_act_59 rfl 3 rfl ?_
        refine mz_iload_n F dX8_act_60 rfl 0 rfl ?_
        refine mz_callVN (As := [_, _]) (n := 2) F dX8_act_61 rfl kq_13 rfl rfl gX8_act_X7_add_n106 nwM8_106 mX8_act_iniX7_add mX8_act_imX7_add mX8_act_seX7_add (by decide +kernel) (by decide) rfl (Nat.le_of_ble_eq_true rfl) (kX7_add _ G kq_13 h) (mz_kV fun u_15 h hx_14 => ?_)
        replace kthis := hx_14.2.2 _ _ (by decide) kthis
        refine mz_aload_n F dX8_act_64 rfl 2 rfl ?_
        obtain ⟨q_16, eq_16, h⟩ := h
        refine mz_getR F dX8_act_65 fX8_act_26 (by decide) kthis eq_16 (fun kq_16 => ?_)
        refine mz_iload_n F dX8_act_68 rfl 3 rfl ?_
        refine mz_iload_n F dX8_act_69 rfl 0 rfl ?_
        refine mz_callVN (As := [_, _]) (n := 2) F dX8_act_70 rfl kq_16 rfl rfl gX8_act_X0_advance_n109 nwM8_109 mX8_act_iniX0_advance mX8_act_imX0_advance mX8_act_seX0_advance (by decide +kernel) (by decide) rfl (Nat.le_of_ble_eq_true rfl) (kX0_advance _ G kq_16 h) (mz_kV fun u_18 h hx_17 => ?_)
        refine mz_iload_n F dX8_act_73 rfl 1 rfl ?_
        refine mz_if_eq (tgt := 81) F dX8_act_74 (by decide) (fun c_19 => ?_) (fun c_19 => ?_)
        · replace h := h.1 c_19
          refine mz_iconst (v := 0) F dX8_act_81 (by decide) ?_
          exact mz_iret F dX8_act_82 ⟨_, rfl, h⟩
        · replace h := h.2 c_19
          refine mz_iconst (v := 1) F dX8_act_77 (by decide) ?_
          refine mz_goto (tgt := 82) F dX8_act_78 (by decide) ?_
          exact mz_iret F dX8_act_82 ⟨_, rfl, h⟩
      · replace h := h.2 c_20
        refine mz_bipush (v := (-3)) F dX8_act_34 (by decide) ?_
        exact mz_iret F dX8_act_36 ⟨_, rfl, h⟩
    · replace h := h.1 c_21
      refine mz_bipush (v := (-2)) F dX8_act_18 (by decide) ?_
      exact mz_iret F dX8_act_20 ⟨_, rfl, h⟩
  · replace h := h.1 c_22
    refine mz_iconst (v := (-1)) F dX8_act_9 (by decide) ?_
    exact mz_iret F dX8_act_10 ⟨_, rfl, h⟩
set_option maxRecDepth 100000 in
theorem kX8_act (l : Launch) (G : mG) {u : mSt} {K : Int32 → mSt → Prop} {this : Nat} {a1 : Int32} (kthis : mK u this = 9) (h : bX8_act this a1 u K) : mCt l G yX8_act wsX8_act 7 177 [.ref (G.1 + this), .int a1] u (mPi K) := by
  refine mCt.of (cc := cX8_act) (maxL := 4) (ret := (some .int)) (by decide) rfl (Nat.le_of_ble_eq_true rfl) ?_
  intro X hl hN F
  exact tX8_act F hN kthis h
/-! RoomMapper.seen(I)I -/
theorem wiX8_seen_8 : ∀ w ∈ u_ws RX8 TX8 9, w ∈ wsX8_seen := by decide +kernel
theorem fX8_seen_81 : mFld wsX8_seen RX8 81 9 8 0 .boolean false := ⟨8, _, RX8, TX8, 9, tyX8, rfl, rfl, rfl, by decide, wiX8_seen_8, tyX8_ok, nmX8, rfl, rfl, Or.inl ⟨by decide +kernel, fun _ => rfl⟩⟩
theorem fX8_seen_12 : mFld wsX8_seen RX8 12 9 0 2 (.object "RoomMapper$House") true := ⟨8, _, RX8, TX8, 9, tyX8, rfl, rfl, rfl, by decide, wiX8_seen_8, tyX8_ok, nmX8, rfl, rfl, Or.inl ⟨by decide +kernel, fun _ => rfl⟩⟩
theorem fX8_seen_19 : mFld wsX8_seen RX8 19 9 1 8 (.object "RoomMapper$Walk") true := ⟨8, _, RX8, TX8, 9, tyX8, rfl, rfl, rfl, by decide, wiX8_seen_8, tyX8_ok, nmX8, rfl, rfl, Or.inl ⟨by decide +kernel, fun _ => rfl⟩⟩
theorem mX8_seen_iniX7_bumpedLast : Cond.initialized yX7_bumpedLast.cls ∈ wsX8_seen := by decide +kernel
theorem mX8_seen_imX7_bumpedLast : Cond.instanceMethod yX7_bumpedLast ∈ wsX8_seen := by decide +kernel
theorem mX8_seen_seX7_bumpedLast : Cond.selects RX7 yX7_bumpedLast yX7_bumpedLast ∈ wsX8_seen := by decide +kernel
theorem mX8_seen_iniX1_sight : Cond.initialized yX1_sight.cls ∈ wsX8_seen := by decide +kernel
theorem mX8_seen_imX1_sight : Cond.instanceMethod yX1_sight ∈ wsX8_seen := by decide +kernel
theorem mX8_seen_seX1_sight : Cond.selects RX1 yX1_sight yX1_sight ∈ wsX8_seen := by decide +kernel
theorem wiX8_seen_1 : ∀ w ∈ u_ws RX1 TX1 7, w ∈ wsX8_seen := by decide +kernel
theorem fX8_seen_126 : mFld wsX8_seen RX8 126 2 6 0 .int false := ⟨1, _, RX1, TX1, 7, tyX1, rfl, rfl, rfl, by decide, wiX8_seen_1, tyX1_ok, nmX1, rfl, rfl, Or.inr ⟨"RoomMapper", nwF8_126⟩⟩
def bX8_seen (this : Nat) (a1 : Int32) (u : mSt) (K : Int32 → mSt → Prop) : Prop := bX8_within a1 (4 : Int32) u (fun r_3 u_2 => ((r_3 = 0 → K (-1 : Int32) u_2) ∧ (¬ (r_3 = 0) → (((mI u_2 this 8) = 0 → K (-2 : Int32) u_2) ∧ (¬ ((mI u_2 this 8) = 0) → (∃ q_4, mR u_2 this 0 = some q_4 ∧ (∃ q_5, mR u_2 this 1 = some q_5 ∧ bX7_bumpedLast q_5 u_2 (fun r_8 u_7 => bX1_sight q_4 r_8 u_7 (fun r_11 u_10 => ((a1 = (0 : Int32) → bX8_signOf r_11 u_10 (fun r_25 u_24 => K r_25 u_24)) ∧ (¬ a1 = (0 : Int32) → ((a1 = (1 : Int32) → bX8_pebbleOf r_11 u_10 (fun r_22 u_21 => K r_22 u_21)) ∧ (¬ a1 = (1 : Int32) → ((a1 = (2 : Int32) → bX8_bumpOf r_11 u_10 (fun r_19 u_18 => K r_19 u_18)) ∧ (¬ a1 = (2 : Int32) → (∃ q_12, mR u_10 this 0 = some q_12 ∧ (((mI u_10 q_12 6) = (-2 : Int32) → K (1 : Int32) u_10) ∧ (¬ ((mI u_10 q_12 6) = (-2 : Int32)) → K (0 : Int32) u_10))))))))))))))))))
set_option maxRecDepth 100000 in
set_option maxHeartbeats 4000000 in
theorem tX8_seen {X : mCx} {G : mG} {u0 : mSt} {K : Int32 → mSt → Prop} (F : mFx X G cX8_seen wsX8_seen RX8 "seen" 2 44 (some .int) u0 (mPi K)) (hN : X.2.2.2.2.2.2.2.2.2.2.2.2.1 = 3) {this : Nat} {a1 : Int32} {u : mSt} (kthis : mK u this = 9) (h : bX8_seen this a1 u K) : mZ X u 0 [(0, .ref (G.1 + this)), (1, .int a1)] [] := by
  refine mz_iload_n F dX8_seen_0 rfl 1 rfl ?_
  refine mz_iconst (v := 4) F dX8_seen_1 (by decide) ?_
  refine mz_callS (As := [_, _]) (n := 2) F dX8_seen_2 rfl gX8_seen_X8_within (by decide +kernel) (by decide) rfl (Nat.le_of_ble_eq_true rfl) (kX8_within _ G h) (mz_kZ fun r_3 u_2 br_3 h hx_1 => ?_)
  replace kthis := hx_1.2.2 _ _ (by decide) kthis
  refine mz_if_ne (tgt := 10) F dX8_seen_5 (by decide) (fun c_28 => ?_) (fun c_28 => ?_)
  · replace h := h.2 c_28
    refine mz_aload_n F dX8_seen_10 rfl 0 rfl ?_
    refine mz_getI F dX8_seen_11 fX8_seen_81 kthis ?_
    refine mz_if_ne (tgt := 20) F dX8_seen_14 (by decide) (fun c_27 => ?_) (fun c_27 => ?_)
    · replace h := h.2 c_27
      refine mz_aload_n F dX8_seen_20 rfl 0 rfl ?_
      obtain ⟨q_4, eq_4, h⟩ := h
      refine mz_getR F dX8_seen_21 fX8_seen_12 (by decide) kthis eq_4 (fun kq_4 => ?_)
      refine mz_aload_n F dX8_seen_24 rfl 0 rfl ?_
      obtain ⟨q_5, eq_5, h⟩ := h
      refine mz_getR F dX8_seen_25 fX8_seen_19 (by decide) kthis eq_5 (fun kq_5 => ?_)
      refine mz_callVN (As := []) (n := 0) F dX8_seen_28 rfl kq_5 rfl rfl gX8_seen_X7_bumpedLast_n112 nwM8_112 mX8_seen_iniX7_bumpedLast mX8_seen_imX7_bumpedLast mX8_seen_seX7_bumpedLast (by decide +kernel) (by decide) rfl (Nat.le_of_ble_eq_true rfl) (kX7_bumpedLast _ G kq_5 h) (mz_kZ fun r_8 u_7 br_8 h hx_6 => ?_)
      replace kthis := hx_6.2.2 _ _ (by decide) kthis
      replace kq_4 := hx_6.2.2 _ _ (by decide) kq_4
      refine mz_callVN (As := [_]) (n := 1) F dX8_seen_31 rfl kq_4 rfl rfl gX8_seen_X1_sight_n102 nwM8_102 mX8_seen_iniX1_sight mX8_seen_imX1_sight mX8_seen_seX1_sight (by decide +kernel) (by decide) rfl (Nat.le_of_ble_eq_true rfl) (kX1_sight _ G kq_4 h) (mz_kI fun r_11 u_10 h hx_9 => ?_)
      replace kthis := hx_9.2.2 _ _ (by decide) kthis
      refine mz_istore_n (lv2 := [(2, .int r_11), (0, .ref (G.1 + this)), (1, .int a1)]) F dX8_seen_34 rfl hN (by decide) rfl ?_
      refine mz_iload_n F dX8_seen_35 rfl 2 rfl ?_
      refine Classical.byCases (p := a1 = (0 : Int32)) (fun c_14 => ?_) (fun c_14 => ?_)
      · replace h := h.1 c_14
        have ec_14 := mte (z := 0) rfl c_14
        refine mz_tableIn (off := 28) (tgt := 64) F dX8_seen_36 (by omega) (by omega) (by rw [ec_14]; rfl) (by decide) ?_
        refine mz_iload_n F dX8_seen_64 rfl 0 rfl ?_
        refine mz_callS (As := [_]) (n := 1) F dX8_seen_65 rfl gX8_seen_X8_signOf (by decide +kernel) (by decide) rfl (Nat.le_of_ble_eq_true rfl) (kX8_signOf _ G h) (mz_kI fun r_25 u_24 h hx_23 => ?_)
        exact mz_iret F dX8_seen_68 ⟨_, rfl, h⟩
      · replace h := h.2 c_14
        refine Classical.byCases (p := a1 = (1 : Int32)) (fun c_15 => ?_) (fun c_15 => ?_)
        · replace h := h.1 c_15
          have ec_15 := mte (z := 1) rfl c_15
          refine mz_tableIn (off := 33) (tgt := 69) F dX8_seen_36 (by omega) (by omega) (by rw [ec_15]; rfl) (by decide) ?_
          refine mz_iload_n F dX8_seen_69 rfl 0 rfl ?_
          refine mz_callS (As := [_]) (n := 1) F dX8_seen_70 rfl gX8_seen_X8_pebbleOf (by decide +kernel) (by decide) rfl (Nat.le_of_ble_eq_true rfl) (kX8_pebbleOf _ G h) (mz_kI fun r_22 u_21 h hx_20 => ?_)
          exact mz_iret F dX8_seen_73 ⟨_, rfl, h⟩
        · replace h := h.2 c_15
          refine Classical.byCases (p := a1 = (2 : Int32)) (fun c_16 => ?_) (fun c_16 => ?_)
          · replace h := h.1 c_16
            have ec_16 := mte (z := 2) rfl c_16
            refine mz_tableIn (off := 38) (tgt := 74) F dX8_seen_36 (by omega) (by omega) (by rw [ec_16]; rfl) (by decide) ?_
            refine mz_iload_n F dX8_seen_74 rfl 0 rfl ?_
            refine mz_callS (As := [_]) (n := 1) F dX8_seen_75 rfl gX8_seen_X8_bumpOf (by decide +kernel) (by decide) rfl (Nat.le_of_ble_eq_true rfl) (kX8_bumpOf _ G h) (mz_kI fun r_19 u_18 h hx_17 => ?_)
            exact mz_iret F dX8_seen_78 ⟨_, rfl, h⟩
          · replace h := h.2 c_16
            have nc_14 := mtn (z := 0) rfl c_14
            have nc_15 := mtn (z := 1) rfl c_15
            have nc_16 := mtn (z := 2) rfl c_16
            refine mz_tableOut (tgt := 79) F dX8_seen_36 (by omega) (by decide) ?_
            refine mz_aload_n F dX8_seen_79 rfl 1 rfl ?_
            obtain ⟨q_12, eq_12, h⟩ := h
            refine mz_getR F dX8_seen_80 fX8_seen_12 (by decide) kthis eq_12 (fun kq_12 => ?_)
            refine mz_getI F dX8_seen_83 fX8_seen_126 kq_12 ?_
            refine mz_bipush (v := (-2)) F dX8_seen_86 (by decide) ?_
            refine mz_icmp_ne (tgt := 95) F dX8_seen_88 (by decide) (fun c_13 => ?_) (fun c_13 => ?_)
            · replace h := h.2 c_13
              refine mz_iconst (v := 0) F dX8_seen_95 (by decide) ?_
              exact mz_iret F dX8_seen_96 ⟨_, rfl, h⟩
            · replace h := h.1 c_13
              refine mz_iconst (v := 1) F dX8_seen_91 (by decide) ?_
              refine mz_goto (tgt := 96) F dX8_seen_92 (by decide) ?_
              exact mz_iret F dX8_seen_96 ⟨_, rfl, h⟩
    · replace h := h.1 c_27
      refine mz_bipush (v := (-2)) F dX8_seen_17 (by decide) ?_
      exact mz_iret F dX8_seen_19 ⟨_, rfl, h⟩
  · replace h := h.1 c_28
    refine mz_iconst (v := (-1)) F dX8_seen_8 (by decide) ?_
    exact mz_iret F dX8_seen_9 ⟨_, rfl, h⟩
set_option maxRecDepth 100000 in
theorem kX8_seen (l : Launch) (G : mG) {u : mSt} {K : Int32 → mSt → Prop} {this : Nat} {a1 : Int32} (kthis : mK u this = 9) (h : bX8_seen this a1 u K) : mCt l G yX8_seen wsX8_seen 2 44 [.ref (G.1 + this), .int a1] u (mPi K) := by
  refine mCt.of (cc := cX8_seen) (maxL := 3) (ret := (some .int)) (by decide) rfl (Nat.le_of_ble_eq_true rfl) ?_
  intro X hl hN F
  exact tX8_seen F hN kthis h
/-! RoomMapper.walk(II)I -/
theorem wiX8_walk_8 : ∀ w ∈ u_ws RX8 TX8 9, w ∈ wsX8_walk := by decide +kernel
theorem fX8_walk_19 : mFld wsX8_walk RX8 19 9 1 8 (.object "RoomMapper$Walk") true := ⟨8, _, RX8, TX8, 9, tyX8, rfl, rfl, rfl, by decide, wiX8_walk_8, tyX8_ok, nmX8, rfl, rfl, Or.inl ⟨by decide +kernel, fun _ => rfl⟩⟩
theorem wiX8_walk_7 : ∀ w ∈ u_ws RX7 TX7 3, w ∈ wsX8_walk := by decide +kernel
theorem fX8_walk_88 : mFld wsX8_walk RX8 88 8 2 0 .int false := ⟨7, _, RX7, TX7, 3, tyX7, rfl, rfl, rfl, by decide, wiX8_walk_7, tyX7_ok, nmX7, rfl, rfl, Or.inr ⟨"RoomMapper", nwF8_88⟩⟩
theorem fX8_walk_129 : mFld wsX8_walk RX8 129 8 1 22 (.array .int) true := ⟨7, _, RX7, TX7, 3, tyX7, rfl, rfl, rfl, by decide, wiX8_walk_7, tyX7_ok, nmX7, rfl, rfl, Or.inr ⟨"RoomMapper", nwF8_129⟩⟩
theorem fX8_walk_132 : mFld wsX8_walk RX8 132 8 0 22 (.array .int) true := ⟨7, _, RX7, TX7, 3, tyX7, rfl, rfl, rfl, by decide, wiX8_walk_7, tyX7_ok, nmX7, rfl, rfl, Or.inr ⟨"RoomMapper", nwF8_132⟩⟩
def bX8_walk (this : Nat) (a1 : Int32) (a2 : Int32) (u : mSt) (K : Int32 → mSt → Prop) : Prop := (∃ q_1, mR u this 1 = some q_1 ∧ bX8_within a1 (mI u q_1 2) u (fun r_4 u_3 => ((r_4 = 0 → K (-1 : Int32) u_3) ∧ (¬ (r_4 = 0) → bX8_within a2 (4 : Int32) u_3 (fun r_7 u_6 => ((r_7 = 0 → K (-1 : Int32) u_6) ∧ (¬ (r_7 = 0) → (∃ q_8, mR u_6 this 1 = some q_8 ∧ (∃ q_9, mR u_6 q_8 1 = some q_9 ∧ (vp_in a1 200 ∧ (∀ x_11, x_11 = (mI u_6 q_9 a1.toNatClampNeg) → ((a2 = (0 : Int32) → (∃ q_24, mR u_6 this 1 = some q_24 ∧ (∃ q_25, mR u_6 q_24 0 = some q_25 ∧ (vp_in a1 200 ∧ K (mI u_6 q_25 a1.toNatClampNeg) u_6)))) ∧ (¬ a2 = (0 : Int32) → ((a2 = (1 : Int32) → bX8_bumpOf x_11 u_6 (fun r_23 u_22 => K r_23 u_22)) ∧ (¬ a2 = (1 : Int32) → ((a2 = (2 : Int32) → bX8_signOf x_11 u_6 (fun r_20 u_19 => K r_20 u_19)) ∧ (¬ a2 = (2 : Int32) → bX8_pebbleOf x_11 u_6 (fun r_14 u_13 => K r_14 u_13))))))))))))))))))
set_option maxRecDepth 100000 in
set_option maxHeartbeats 4000000 in
theorem tX8_walk {X : mCx} {G : mG} {u0 : mSt} {K : Int32 → mSt → Prop} (F : mFx X G cX8_walk wsX8_walk RX8 "walk" 1 21 (some .int) u0 (mPi K)) (hN : X.2.2.2.2.2.2.2.2.2.2.2.2.1 = 4) {this : Nat} {a1 : Int32} {a2 : Int32} {u : mSt} (kthis : mK u this = 9) (h : bX8_walk this a1 a2 u K) : mZ X u 0 [(0, .ref (G.1 + this)), (1, .int a1), (2, .int a2)] [] := by
  refine mz_iload_n F dX8_walk_0 rfl 1 rfl ?_
  refine mz_aload_n F dX8_walk_1 rfl 0 rfl ?_
  obtain ⟨q_1, eq_1, h⟩ := h
  refine mz_getR F dX8_walk_2 fX8_walk_19 (by decide) kthis eq_1 (fun kq_1 => ?_)
  refine mz_getI F dX8_walk_5 fX8_walk_88 kq_1 ?_
  refine mz_callS (As := [_, _]) (n := 2) F dX8_walk_8 rfl gX8_walk_X8_within (by decide +kernel) (by decide) rfl (Nat.le_of_ble_eq_true rfl) (kX8_within _ G h) (mz_kZ fun r_4 u_3 br_4 h hx_2 => ?_)
  replace kthis := hx_2.2.2 _ _ (by decide) kthis
  refine mz_if_eq (tgt := 22) F dX8_walk_11 (by decide) (fun c_29 => ?_) (fun c_29 => ?_)
  · replace h := h.1 c_29
    refine mz_iconst (v := (-1)) F dX8_walk_22 (by decide) ?_
    exact mz_iret F dX8_walk_23 ⟨_, rfl, h⟩
  · replace h := h.2 c_29
    refine mz_iload_n F dX8_walk_14 rfl 2 rfl ?_
    refine mz_iconst (v := 4) F dX8_walk_15 (by decide) ?_
    refine mz_callS (As := [_, _]) (n := 2) F dX8_walk_16 rfl gX8_walk_X8_within (by decide +kernel) (by decide) rfl (Nat.le_of_ble_eq_true rfl) (kX8_within _ G h) (mz_kZ fun r_7 u_6 br_7 h hx_5 => ?_)
    replace kthis := hx_5.2.2 _ _ (by decide) kthis
    refine mz_if_ne (tgt := 24) F dX8_walk_19 (by decide) (fun c_28 => ?_) (fun c_28 => ?_)
    · replace h := h.2 c_28
      refine mz_aload_n F dX8_walk_24 rfl 0 rfl ?_
      obtain ⟨q_8, eq_8, h⟩ := h
      refine mz_getR F dX8_walk_25 fX8_walk_19 (by decide) kthis eq_8 (fun kq_8 => ?_)
      obtain ⟨q_9, eq_9, h⟩ := h
      refine mz_getR F dX8_walk_28 fX8_walk_129 (by decide) kq_8 eq_9 (fun kq_9 => ?_)
      refine mz_iload_n F dX8_walk_31 rfl 1 rfl ?_
      obtain ⟨b_10, h⟩ := h
      refine mz_iald F dX8_walk_32 kq_9 rfl b_10 ?_
      refine mz_topi (fun x_11 ex_11 => ?_)
      replace h := h x_11 ex_11
      refine mz_istore_n (lv2 := [(3, .int x_11), (0, .ref (G.1 + this)), (1, .int a1), (2, .int a2)]) F dX8_walk_33 rfl hN (by decide) rfl ?_
      refine mz_iload_n F dX8_walk_34 rfl 3 rfl ?_
      refine Classical.byCases (p := a2 = (0 : Int32)) (fun c_15 => ?_) (fun c_15 => ?_)
      · replace h := h.1 c_15
        have ec_15 := mte (z := 0) rfl c_15
        refine mz_tableIn (off := 25) (tgt := 60) F dX8_walk_35 (by omega) (by omega) (by rw [ec_15]; rfl) (by decide) ?_
        refine mz_aload_n F dX8_walk_60 rfl 1 rfl ?_
        obtain ⟨q_24, eq_24, h⟩ := h
        refine mz_getR F dX8_walk_61 fX8_walk_19 (by decide) kthis eq_24 (fun kq_24 => ?_)
        obtain ⟨q_25, eq_25, h⟩ := h
        refine mz_getR F dX8_walk_64 fX8_walk_132 (by decide) kq_24 eq_25 (fun kq_25 => ?_)
        refine mz_iload_n F dX8_walk_67 rfl 2 rfl ?_
        obtain ⟨b_26, h⟩ := h
        refine mz_iald F dX8_walk_68 kq_25 rfl b_26 ?_
        exact mz_iret F dX8_walk_69 ⟨_, rfl, h⟩
      · replace h := h.2 c_15
        refine Classical.byCases (p := a2 = (1 : Int32)) (fun c_16 => ?_) (fun c_16 => ?_)
        · replace h := h.1 c_16
          have ec_16 := mte (z := 1) rfl c_16
          refine mz_tableIn (off := 35) (tgt := 70) F dX8_walk_35 (by omega) (by omega) (by rw [ec_16]; rfl) (by decide) ?_
          refine mz_iload_n F dX8_walk_70 rfl 0 rfl ?_
          refine mz_callS (As := [_]) (n := 1) F dX8_walk_71 rfl gX8_walk_X8_bumpOf (by decide +kernel) (by decide) rfl (Nat.le_of_ble_eq_true rfl) (kX8_bumpOf _ G h) (mz_kI fun r_23 u_22 h hx_21 => ?_)
          exact mz_iret F dX8_walk_74 ⟨_, rfl, h⟩
        · replace h := h.2 c_16
          refine Classical.byCases (p := a2 = (2 : Int32)) (fun c_17 => ?_) (fun c_17 => ?_)
          · replace h := h.1 c_17
            have ec_17 := mte (z := 2) rfl c_17
            refine mz_tableIn (off := 40) (tgt := 75) F dX8_walk_35 (by omega) (by omega) (by rw [ec_17]; rfl) (by decide) ?_
            refine mz_iload_n F dX8_walk_75 rfl 0 rfl ?_
            refine mz_callS (As := [_]) (n := 1) F dX8_walk_76 rfl gX8_walk_X8_signOf (by decide +kernel) (by decide) rfl (Nat.le_of_ble_eq_true rfl) (kX8_signOf _ G h) (mz_kI fun r_20 u_19 h hx_18 => ?_)
            exact mz_iret F dX8_walk_79 ⟨_, rfl, h⟩
          · replace h := h.2 c_17
            have nc_15 := mtn (z := 0) rfl c_15
            have nc_16 := mtn (z := 1) rfl c_16
            have nc_17 := mtn (z := 2) rfl c_17
            refine mz_tableOut (tgt := 80) F dX8_walk_35 (by omega) (by decide) ?_
            refine mz_iload_n F dX8_walk_80 rfl 0 rfl ?_
            refine mz_callS (As := [_]) (n := 1) F dX8_walk_81 rfl gX8_walk_X8_pebbleOf (by decide +kernel) (by decide) rfl (Nat.le_of_ble_eq_true rfl) (kX8_pebbleOf _ G h) (mz_kI fun r_14 u_13 h hx_12 => ?_)
            exact mz_iret F dX8_walk_84 ⟨_, rfl, h⟩
    · replace h := h.1 c_28
      refine mz_iconst (v := (-1)) F dX8_walk_22 (by decide) ?_
      exact mz_iret F dX8_walk_23 ⟨_, rfl, h⟩
set_option maxRecDepth 100000 in
theorem kX8_walk (l : Launch) (G : mG) {u : mSt} {K : Int32 → mSt → Prop} {this : Nat} {a1 : Int32} {a2 : Int32} (kthis : mK u this = 9) (h : bX8_walk this a1 a2 u K) : mCt l G yX8_walk wsX8_walk 1 21 [.ref (G.1 + this), .int a1, .int a2] u (mPi K) := by
  refine mCt.of (cc := cX8_walk) (maxL := 4) (ret := (some .int)) (by decide) rfl (Nat.le_of_ble_eq_true rfl) ?_
  intro X hl hN F
  exact tX8_walk F hN kthis h
