theorem nwM0_39 : Cond.methodLinkNest RX0 39 yX4_init "RoomMapper" ∈ tables_1 := by decide +kernel
theorem nwM0_35 : Cond.methodLinkNest RX0 35 yX4_begin "RoomMapper" ∈ tables_1 := by decide +kernel
theorem nwM0_50 : Cond.methodLinkNest RX0 50 yX4_movePebble "RoomMapper" ∈ tables_1 := by decide +kernel
theorem nwM4_51 : Cond.methodLinkNest RX4 51 yX8_sightOf "RoomMapper" ∈ tables_1 := by decide +kernel
theorem nwF0_53 : Cond.fieldLinkNest RX0 53 RX4 "walker" "I" "RoomMapper" ∈ tables_1 := by decide +kernel
theorem nwM0_98 : Cond.methodLinkNest RX0 98 yX4_placeAfter "RoomMapper" ∈ tables_1 := by decide +kernel
theorem nwM0_84 : Cond.methodLinkNest RX0 84 yX4_become "RoomMapper" ∈ tables_1 := by decide +kernel
theorem nwM0_88 : Cond.methodLinkNest RX0 88 yX4_setLead "RoomMapper" ∈ tables_1 := by decide +kernel
theorem nwF0_74 : Cond.fieldLinkNest RX0 74 RX4 "places" "I" "RoomMapper" ∈ tables_1 := by decide +kernel
theorem nwM0_92 : Cond.methodLinkNest RX0 92 yX8_signOf "RoomMapper" ∈ tables_1 := by decide +kernel
theorem nwM0_95 : Cond.methodLinkNest RX0 95 yX4_openPlace "RoomMapper" ∈ tables_1 := by decide +kernel
theorem nwM0_81 : Cond.methodLinkNest RX0 81 yX8_pebbleOf "RoomMapper" ∈ tables_1 := by decide +kernel
theorem nwM0_77 : Cond.methodLinkNest RX0 77 yX4_sightAt "RoomMapper" ∈ tables_1 := by decide +kernel
theorem nwM0_70 : Cond.methodLinkNest RX0 70 yX8_bumpOf "RoomMapper" ∈ tables_1 := by decide +kernel
theorem nwM0_56 : Cond.methodLinkNest RX0 56 yX4_sightAfter "RoomMapper" ∈ tables_1 := by decide +kernel
theorem nwM0_60 : Cond.methodLinkNest RX0 60 yX4_leadFrom "RoomMapper" ∈ tables_1 := by decide +kernel
/-! RoomMapper$Atlas.<init>()V -/
theorem mX0_init_ol3 : Cond.methodLink RX0 3 objectInit ∈ wsX0_init := by decide +kernel
theorem mX0_init_oi : Cond.instanceMethod objectInit ∈ wsX0_init := by decide +kernel
theorem mX0_init_oc : Cond.code objectInit ⟨#[0xb1]⟩ 1 none ∈ wsX0_init := by decide +kernel
theorem wiX0_init_0 : ∀ w ∈ u_ws RX0 TX0 6, w ∈ wsX0_init := by decide +kernel
theorem fX0_init_11 : mFld wsX0_init RX0 11 1 0 11 (.array (.object "RoomMapper$Sheet")) false := ⟨0, _, RX0, TX0, 6, tyX0, rfl, rfl, rfl, by decide, wiX0_init_0, tyX0_ok, nmX0, rfl, rfl, Or.inl ⟨by decide +kernel, fun _ => rfl⟩⟩
theorem fX0_init_17 : mFld wsX0_init RX0 17 1 1 11 (.array (.object "RoomMapper$Sheet")) false := ⟨0, _, RX0, TX0, 6, tyX0, rfl, rfl, rfl, by decide, wiX0_init_0, tyX0_ok, nmX0, rfl, rfl, Or.inl ⟨by decide +kernel, fun _ => rfl⟩⟩
theorem mX0_init_cl9 : Cond.classLink RX0 9 "RoomMapper$Sheet" ∈ wsX0_init := by decide +kernel
def bX0_init (this : Nat) (u : mSt) (K : mSt → Prop) : Prop := ((mN u + 1 ≤ mCapC ∧ mT u + 151 ≤ mCapS) ∧ ∀ p_4 u_2, p_4 = mN u → u_2 = mnw u 11 151 → (∀ u_5, u_5 = mpR u_2 this 0 (some p_4) → ((mN u_5 + 1 ≤ mCapC ∧ mT u_5 + 151 ≤ mCapS) ∧ ∀ p_9 u_7, p_9 = mN u_5 → u_7 = mnw u_5 11 151 → (∀ u_10, u_10 = mpR u_7 this 1 (some p_9) → K u_10))))
set_option maxRecDepth 100000 in
set_option maxHeartbeats 4000000 in
theorem tX0_init {X : mCx} {G : mG} {u0 : mSt} {K : mSt → Prop} (F : mFx X G cX0_init wsX0_init RX0 "<init>" 1 20 none u0 (mPv K)) (hN : X.2.2.2.2.2.2.2.2.2.2.2.2.1 = 1) (hAO4 : va_AO "RoomMapper$Sheet" X.2.2.2.2.1) {this : Nat} {u : mSt} (kthis : mK u this = 1) (h : bX0_init this u K) : mZ X u 0 [(0, .ref (G.1 + this))] [] := by
  refine mz_aload_n F dX0_init_0 rfl 0 rfl ?_
  refine mz_objInit F dX0_init_1 mX0_init_ol3 mX0_init_oi mX0_init_oc (by decide) (Nat.le_of_ble_eq_true rfl) ?_
  refine mz_aload_n F dX0_init_4 rfl 0 rfl ?_
  refine mz_sipush (v := 151) F dX0_init_5 (by decide) ?_
  obtain ⟨b_1, h⟩ := h
  refine mz_anew4 (c := 11) F dX0_init_8 mX0_init_cl9 hAO4 rfl (by decide) (by decide) b_1 (fun p_4 u_2 ep_4 eu_2 hx_3 kp_4 => ?_)
  replace h := h p_4 u_2 ep_4 eu_2
  replace kthis := hx_3.2.2 _ _ (by decide) kthis
  refine mz_putR F dX0_init_11 fX0_init_11 (by decide) kthis kp_4 rfl (fun u_5 eu_5 hxu_5 => ?_)
  replace h := h u_5 eu_5
  replace kthis := hxu_5.2.2 _ _ (by decide) kthis
  refine mz_aload_n F dX0_init_14 rfl 0 rfl ?_
  refine mz_sipush (v := 151) F dX0_init_15 (by decide) ?_
  obtain ⟨b_6, h⟩ := h
  refine mz_anew4 (c := 11) F dX0_init_18 mX0_init_cl9 hAO4 rfl (by decide) (by decide) b_6 (fun p_9 u_7 ep_9 eu_7 hx_8 kp_9 => ?_)
  replace h := h p_9 u_7 ep_9 eu_7
  replace kthis := hx_8.2.2 _ _ (by decide) kthis
  refine mz_putR F dX0_init_21 fX0_init_17 (by decide) kthis kp_9 rfl (fun u_10 eu_10 hxu_10 => ?_)
  replace h := h u_10 eu_10
  exact mz_vret F dX0_init_24 ⟨rfl, h⟩
set_option maxRecDepth 100000 in
theorem kX0_init (l : Launch) (G : mG) {u : mSt} {K : mSt → Prop} {this : Nat} (kthis : mK u this = 1) (h : bX0_init this u K) : mCt l G yX0_init wsX0_init 1 20 [.ref (G.1 + this)] u (mPv K) := by
  refine mCt.of (cc := cX0_init) (maxL := 1) (ret := none) (by decide) rfl (Nat.le_of_ble_eq_true rfl) ?_
  intro X hl hN F
  exact tX0_init F hN (mAO4 F) kthis h
/-! RoomMapper$Sheet.<init>()V -/
theorem mX4_init_ol3 : Cond.methodLink RX4 3 objectInit ∈ wsX4_init := by decide +kernel
theorem mX4_init_oi : Cond.instanceMethod objectInit ∈ wsX4_init := by decide +kernel
theorem mX4_init_oc : Cond.code objectInit ⟨#[0xb1]⟩ 1 none ∈ wsX4_init := by decide +kernel
theorem mX4_init_fl9 : Cond.fieldLink RX4 9 "RoomMapper$Sheet" "signs" "[I" ∈ wsX4_init := by decide +kernel
theorem wiX4_init_4 : ∀ w ∈ u_ws RX4 TX4 5, w ∈ wsX4_init := by decide +kernel
theorem mX4_init_fl15 : Cond.fieldLink RX4 15 "RoomMapper$Sheet" "leads" "[I" ∈ wsX4_init := by decide +kernel
theorem fX4_init_18 : mFld wsX4_init RX4 18 5 4 0 .int false := ⟨4, _, RX4, TX4, 5, tyX4, rfl, rfl, rfl, by decide, wiX4_init_4, tyX4_ok, nmX4, rfl, rfl, Or.inl ⟨by decide +kernel, fun _ => rfl⟩⟩
theorem fX4_init_15 : mFld wsX4_init RX4 15 5 1 18 (.array .int) true := ⟨4, _, RX4, TX4, 5, tyX4, rfl, rfl, rfl, by decide, wiX4_init_4, tyX4_ok, nmX4, rfl, rfl, Or.inl ⟨by decide +kernel, fun _ => rfl⟩⟩
theorem mX4_init_acI : Cond.arrayClass .int ∈ wsX4_init := by decide +kernel
def bX4_init (this : Nat) (u : mSt) (K : mSt → Prop) : Prop := ((mN u + 1 ≤ mCapC ∧ mT u + 6 ≤ mCapS) ∧ ∀ p_4 u_2, p_4 = mN u → u_2 = mnw u 17 6 → (∀ u_5, u_5 = mpR u_2 this 0 (some p_4) → ((mN u_5 + 1 ≤ mCapC ∧ mT u_5 + 30 ≤ mCapS) ∧ ∀ p_9 u_7, p_9 = mN u_5 → u_7 = mnw u_5 18 30 → (∀ u_10, u_10 = mpR u_7 this 1 (some p_9) → (∀ u_11, u_11 = mpI u_10 this 4 (-2 : Int32) → (∃ q_12, mR u_11 this 1 = some q_12 ∧ bJ7_fill_53178 q_12 30 (-3 : Int32) u_11 (fun u_14 => K u_14)))))))
set_option maxRecDepth 100000 in
set_option maxHeartbeats 4000000 in
theorem tX4_init {X : mCx} {G : mG} {u0 : mSt} {K : mSt → Prop} (F : mFx X G cX4_init wsX4_init RX4 "<init>" 1 23 none u0 (mPv K)) (hN : X.2.2.2.2.2.2.2.2.2.2.2.2.1 = 1) {this : Nat} {u : mSt} (kthis : mK u this = 5) (h : bX4_init this u K) : mZ X u 0 [(0, .ref (G.1 + this))] [] := by
  refine mz_aload_n F dX4_init_0 rfl 0 rfl ?_
  refine mz_objInit F dX4_init_1 mX4_init_ol3 mX4_init_oi mX4_init_oc (by decide) (Nat.le_of_ble_eq_true rfl) ?_
  refine mz_aload_n F dX4_init_4 rfl 0 rfl ?_
  refine mz_bipush (v := 6) F dX4_init_5 (by decide) ?_
  obtain ⟨b_1, h⟩ := h
  refine mz_newaI (c := 17) F dX4_init_7 mX4_init_acI rfl (by decide) b_1 (fun p_4 u_2 ep_4 eu_2 hx_3 kp_4 => ?_)
  replace h := h p_4 u_2 ep_4 eu_2
  replace kthis := hx_3.2.2 _ _ (by decide) kthis
  refine mz_putRF (k := 0) (tys := tyX4) F dX4_init_9 rfl rfl rfl rfl (by decide) wiX4_init_4 tyX4_ok nmX4 rfl rfl rfl mX4_init_fl9 (by decide) kthis kp_4 (fun u_5 eu_5 hxu_5 => ?_)
  replace h := h u_5 eu_5
  replace kthis := hxu_5.2.2 _ _ (by decide) kthis
  refine mz_aload_n F dX4_init_12 rfl 0 rfl ?_
  refine mz_bipush (v := 30) F dX4_init_13 (by decide) ?_
  obtain ⟨b_6, h⟩ := h
  refine mz_newaI (c := 18) F dX4_init_15 mX4_init_acI rfl (by decide) b_6 (fun p_9 u_7 ep_9 eu_7 hx_8 kp_9 => ?_)
  replace h := h p_9 u_7 ep_9 eu_7
  replace kthis := hx_8.2.2 _ _ (by decide) kthis
  refine mz_putRF (k := 1) (tys := tyX4) F dX4_init_17 rfl rfl rfl rfl (by decide) wiX4_init_4 tyX4_ok nmX4 rfl rfl rfl mX4_init_fl15 (by decide) kthis kp_9 (fun u_10 eu_10 hxu_10 => ?_)
  replace h := h u_10 eu_10
  replace kthis := hxu_10.2.2 _ _ (by decide) kthis
  refine mz_aload_n F dX4_init_20 rfl 0 rfl ?_
  refine mz_bipush (v := (-2)) F dX4_init_21 (by decide) ?_
  refine mz_putI F dX4_init_23 fX4_init_18 kthis rfl rfl (fun u_11 eu_11 hxu_11 => ?_)
  replace h := h u_11 eu_11
  replace kthis := hxu_11.2.2 _ _ (by decide) kthis
  refine mz_aload_n F dX4_init_26 rfl 0 rfl ?_
  obtain ⟨q_12, eq_12, h⟩ := h
  refine mz_getR F dX4_init_27 fX4_init_15 (by decide) kthis eq_12 (fun kq_12 => ?_)
  refine mz_bipush (v := (-3)) F dX4_init_30 (by decide) ?_
  refine mz_callS (As := [_, _]) (n := 2) F dX4_init_32 rfl gX4_init_J7_fill_53178 (by decide +kernel) (by decide) rfl (Nat.le_of_ble_eq_true rfl) (kJ7_fill_53178 _ G kq_12 rfl h) (mz_kV fun u_14 h hx_13 => ?_)
  exact mz_vret F dX4_init_35 ⟨rfl, h⟩
set_option maxRecDepth 100000 in
theorem kX4_init (l : Launch) (G : mG) {u : mSt} {K : mSt → Prop} {this : Nat} (kthis : mK u this = 5) (h : bX4_init this u K) : mCt l G yX4_init wsX4_init 1 23 [.ref (G.1 + this)] u (mPv K) := by
  refine mCt.of (cc := cX4_init) (maxL := 1) (ret := none) (by decide) rfl (Nat.le_of_ble_eq_true rfl) ?_
  intro X hl hN F
  exact tX4_init F hN kthis h
/-! RoomMapper$Atlas.blank([LRoomMapper$Sheet;I)LRoomMapper$Sheet; -/
theorem mX0_blank_cl9 : Cond.classLink RX0 9 RX4 ∈ wsX0_blank := by decide +kernel
theorem mX0_blank_in4 : Cond.instantiable RX4 5 ∈ wsX0_blank := by decide +kernel
theorem mX0_blank_it4 : Cond.initialized RX4 ∈ wsX0_blank := by decide +kernel
theorem mX0_blank_iniX4_init : Cond.initialized yX4_init.cls ∈ wsX0_blank := by decide +kernel
theorem mX0_blank_imX4_init : Cond.instanceMethod yX4_init ∈ wsX0_blank := by decide +kernel
theorem wiX0_blank_4 : ∀ w ∈ u_ws RX4 TX4 5, w ∈ wsX0_blank := by decide +kernel
def bX0_blank (a0 : Nat) (a1 : Int32) (u : mSt) (K : Nat → mSt → Prop) : Prop := (vp_in a1 151 ∧ ((mR u a0 a1.toNatClampNeg = none → ((mN u + 1 ≤ mCapC ∧ mT u + 5 ≤ mCapS) ∧ ∀ p_5 u_3, p_5 = mN u → u_3 = mnw u 5 5 → bX4_init p_5 u_3 (fun u_7 => (vp_in a1 151 ∧ ∀ u_9, u_9 = mpR u_7 a0 a1.toNatClampNeg (some p_5) → (vp_in a1 151 ∧ ∃ q_11, mR u_9 a0 a1.toNatClampNeg = some q_11 ∧ K q_11 u_9))))) ∧ (∀ qq, mR u a0 a1.toNatClampNeg = some qq → (vp_in a1 151 ∧ ∃ q_13, mR u a0 a1.toNatClampNeg = some q_13 ∧ K q_13 u))))
set_option maxRecDepth 100000 in
set_option maxHeartbeats 4000000 in
theorem tX0_blank {X : mCx} {G : mG} {u0 : mSt} {K : Nat → mSt → Prop} (F : mFx X G cX0_blank wsX0_blank RX0 "blank" 2 43 (some (.object "RoomMapper$Sheet")) u0 (mPr G.1 5 K)) (hN : X.2.2.2.2.2.2.2.2.2.2.2.2.1 = 2) {a0 : Nat} {a1 : Int32} {u : mSt} (ka0 : mK u a0 = 11) (h : bX0_blank a0 a1 u K) : mZ X u 0 [(0, .ref (G.1 + a0)), (1, .int a1)] [] := by
  refine mz_aload_n F dX0_blank_0 rfl 0 rfl ?_
  refine mz_iload_n F dX0_blank_1 rfl 1 rfl ?_
  obtain ⟨b_1, h⟩ := h
  refine mz_aald4q F dX0_blank_2 ka0 rfl (by decide) b_1 ?_
  refine mz_ifnonnull (tgt := 16) F dX0_blank_3 (by decide) (fun cn => ?_) (fun qq cs => ?_)
  · replace h := h.1 cn
    refine mz_aload_n F dX0_blank_6 rfl 0 rfl ?_
    refine mz_iload_n F dX0_blank_7 rfl 1 rfl ?_
    obtain ⟨b_2, h⟩ := h
    refine mz_new (c := 5) F dX0_blank_8 rfl rfl tyX4 tyX4_ok wiX0_blank_4 (by decide +kernel) mX0_blank_cl9 mX0_blank_in4 mX0_blank_it4 b_2 (fun p_5 u_3 ep_5 eu_3 hx_4 kp_5 => ?_)
    replace h := h p_5 u_3 ep_5 eu_3
    replace ka0 := hx_4.2.2 _ _ (by decide) ka0
    refine mz_dup F dX0_blank_11 rfl ?_
    refine mz_callIN (As := []) (n := 0) F dX0_blank_12 rfl gX0_blank_X4_init_n39 nwM0_39 mX0_blank_iniX4_init mX0_blank_imX4_init rfl (by decide +kernel) (by decide) rfl (Nat.le_of_ble_eq_true rfl) (kX4_init _ G kp_5 h) (mz_kV fun u_7 h hx_6 => ?_)
    replace ka0 := hx_6.2.2 _ _ (by decide) ka0
    replace kp_5 := hx_6.2.2 _ _ (by decide) kp_5
    obtain ⟨b_8, h⟩ := h
    refine mz_aast4 F dX0_blank_15 ka0 rfl (by decide) kp_5 rfl rfl b_8 (fun u_9 eu_9 hxu_9 => ?_)
    replace h := h u_9 eu_9
    replace ka0 := hxu_9.2.2 _ _ (by decide) ka0
    refine mz_aload_n F dX0_blank_16 rfl 0 rfl ?_
    refine mz_iload_n F dX0_blank_17 rfl 1 rfl ?_
    obtain ⟨b_10, q_11, eq_11, h⟩ := h
    refine mz_aald4 F dX0_blank_18 ka0 rfl (by decide) b_10 eq_11 (fun kq_11 => ?_)
    exact mz_aret F dX0_blank_19 ⟨_, rfl, kq_11, h⟩
  · replace h := h.2 qq cs
    refine mz_aload_n F dX0_blank_16 rfl 0 rfl ?_
    refine mz_iload_n F dX0_blank_17 rfl 1 rfl ?_
    obtain ⟨b_12, q_13, eq_13, h⟩ := h
    refine mz_aald4 F dX0_blank_18 ka0 rfl (by decide) b_12 eq_13 (fun kq_13 => ?_)
    exact mz_aret F dX0_blank_19 ⟨_, rfl, kq_13, h⟩
set_option maxRecDepth 100000 in
theorem kX0_blank (l : Launch) (G : mG) {u : mSt} {K : Nat → mSt → Prop} {a0 : Nat} {a1 : Int32} (ka0 : mK u a0 = 11) (h : bX0_blank a0 a1 u K) : mCt l G yX0_blank wsX0_blank 2 43 [.ref (G.1 + a0), .int a1] u (mPr G.1 5 K) := by
  refine mCt.of (cc := cX0_blank) (maxL := 2) (ret := (some (.object "RoomMapper$Sheet"))) (by decide) rfl (Nat.le_of_ble_eq_true rfl) ?_
  intro X hl hN F
  exact tX0_blank F hN ka0 h
/-! RoomMapper$Sheet.openPlace(I)V -/
theorem wiX4_openPlace_4 : ∀ w ∈ u_ws RX4 TX4 5, w ∈ wsX4_openPlace := by decide +kernel
theorem fX4_openPlace_9 : mFld wsX4_openPlace RX4 9 5 0 17 (.array .int) true := ⟨4, _, RX4, TX4, 5, tyX4, rfl, rfl, rfl, by decide, wiX4_openPlace_4, tyX4_ok, nmX4, rfl, rfl, Or.inl ⟨by decide +kernel, fun _ => rfl⟩⟩
theorem fX4_openPlace_28 : mFld wsX4_openPlace RX4 28 5 2 0 .int false := ⟨4, _, RX4, TX4, 5, tyX4, rfl, rfl, rfl, by decide, wiX4_openPlace_4, tyX4_ok, nmX4, rfl, rfl, Or.inl ⟨by decide +kernel, fun _ => rfl⟩⟩
def bX4_openPlace (this : Nat) (a1 : Int32) (u : mSt) (K : mSt → Prop) : Prop := (∃ q_1, mR u this 0 = some q_1 ∧ (vp_in (mI u this 2) 6 ∧ ∀ u_3, u_3 = mpI u q_1 (mI u this 2).toNatClampNeg a1 → (∀ u_4, u_4 = mpI u_3 this 2 ((mI u_3 this 2) + (1 : Int32)) → K u_4)))
set_option maxRecDepth 100000 in
set_option maxHeartbeats 4000000 in
theorem tX4_openPlace {X : mCx} {G : mG} {u0 : mSt} {K : mSt → Prop} (F : mFx X G cX4_openPlace wsX4_openPlace RX4 "openPlace" 0 0 none u0 (mPv K)) (hN : X.2.2.2.2.2.2.2.2.2.2.2.2.1 = 2) {this : Nat} {a1 : Int32} {u : mSt} (kthis : mK u this = 5) (h : bX4_openPlace this a1 u K) : mZ X u 0 [(0, .ref (G.1 + this)), (1, .int a1)] [] := by
  refine mz_aload_n F dX4_openPlace_0 rfl 0 rfl ?_
  obtain ⟨q_1, eq_1, h⟩ := h
  refine mz_getR F dX4_openPlace_1 fX4_openPlace_9 (by decide) kthis eq_1 (fun kq_1 => ?_)
  refine mz_aload_n F dX4_openPlace_4 rfl 0 rfl ?_
  refine mz_getI F dX4_openPlace_5 fX4_openPlace_28 kthis ?_
  refine mz_iload_n F dX4_openPlace_8 rfl 1 rfl ?_
  obtain ⟨b_2, h⟩ := h
  refine mz_iast F dX4_openPlace_9 kq_1 rfl b_2 (fun u_3 eu_3 hxu_3 => ?_)
  replace h := h u_3 eu_3
  replace kthis := hxu_3.2.2 _ _ (by decide) kthis
  refine mz_aload_n F dX4_openPlace_10 rfl 0 rfl ?_
  refine mz_dup F dX4_openPlace_11 rfl ?_
  refine mz_getI F dX4_openPlace_12 fX4_openPlace_28 kthis ?_
  refine mz_iconst (v := 1) F dX4_openPlace_15 (by decide) ?_
  refine mz_iadd F dX4_openPlace_16 ?_
  refine mz_putI F dX4_openPlace_17 fX4_openPlace_28 kthis rfl rfl (fun u_4 eu_4 hxu_4 => ?_)
  replace h := h u_4 eu_4
  exact mz_vret F dX4_openPlace_20 ⟨rfl, h⟩
set_option maxRecDepth 100000 in
theorem kX4_openPlace (l : Launch) (G : mG) {u : mSt} {K : mSt → Prop} {this : Nat} {a1 : Int32} (kthis : mK u this = 5) (h : bX4_openPlace this a1 u K) : mCt l G yX4_openPlace wsX4_openPlace 0 0 [.ref (G.1 + this), .int a1] u (mPv K) := by
  refine mCt.of (cc := cX4_openPlace) (maxL := 2) (ret := none) (by decide) rfl (Nat.le_of_ble_eq_true rfl) ?_
  intro X hl hN F
  exact tX4_openPlace F hN kthis h
/-! RoomMapper$Sheet.returnToStart()V -/
theorem wiX4_returnToStart_4 : ∀ w ∈ u_ws RX4 TX4 5, w ∈ wsX4_returnToStart := by decide +kernel
theorem fX4_returnToStart_38 : mFld wsX4_returnToStart RX4 38 5 3 0 .int false := ⟨4, _, RX4, TX4, 5, tyX4, rfl, rfl, rfl, by decide, wiX4_returnToStart_4, tyX4_ok, nmX4, rfl, rfl, Or.inl ⟨by decide +kernel, fun _ => rfl⟩⟩
theorem fX4_returnToStart_18 : mFld wsX4_returnToStart RX4 18 5 4 0 .int false := ⟨4, _, RX4, TX4, 5, tyX4, rfl, rfl, rfl, by decide, wiX4_returnToStart_4, tyX4_ok, nmX4, rfl, rfl, Or.inl ⟨by decide +kernel, fun _ => rfl⟩⟩
def bX4_returnToStart (this : Nat) (u : mSt) (K : mSt → Prop) : Prop := (∀ u_1, u_1 = mpI u this 3 (0 : Int32) → (∀ u_2, u_2 = mpI u_1 this 4 (-2 : Int32) → K u_2))
set_option maxRecDepth 100000 in
set_option maxHeartbeats 4000000 in
theorem tX4_returnToStart {X : mCx} {G : mG} {u0 : mSt} {K : mSt → Prop} (F : mFx X G cX4_returnToStart wsX4_returnToStart RX4 "returnToStart" 0 0 none u0 (mPv K)) (hN : X.2.2.2.2.2.2.2.2.2.2.2.2.1 = 1) {this : Nat} {u : mSt} (kthis : mK u this = 5) (h : bX4_returnToStart this u K) : mZ X u 0 [(0, .ref (G.1 + this))] [] := by
  refine mz_aload_n F dX4_returnToStart_0 rfl 0 rfl ?_
  refine mz_iconst (v := 0) F dX4_returnToStart_1 (by decide) ?_
  refine mz_putI F dX4_returnToStart_2 fX4_returnToStart_38 kthis rfl rfl (fun u_1 eu_1 hxu_1 => ?_)
  replace h := h u_1 eu_1
  replace kthis := hxu_1.2.2 _ _ (by decide) kthis
  refine mz_aload_n F dX4_returnToStart_5 rfl 0 rfl ?_
  refine mz_bipush (v := (-2)) F dX4_returnToStart_6 (by decide) ?_
  refine mz_putI F dX4_returnToStart_8 fX4_returnToStart_18 kthis rfl rfl (fun u_2 eu_2 hxu_2 => ?_)
  replace h := h u_2 eu_2
  exact mz_vret F dX4_returnToStart_11 ⟨rfl, h⟩
set_option maxRecDepth 100000 in
theorem kX4_returnToStart (l : Launch) (G : mG) {u : mSt} {K : mSt → Prop} {this : Nat} (kthis : mK u this = 5) (h : bX4_returnToStart this u K) : mCt l G yX4_returnToStart wsX4_returnToStart 0 0 [.ref (G.1 + this)] u (mPv K) := by
  refine mCt.of (cc := cX4_returnToStart) (maxL := 1) (ret := none) (by decide) rfl (Nat.le_of_ble_eq_true rfl) ?_
  intro X hl hN F
  exact tX4_returnToStart F hN kthis h
/-! RoomMapper$Sheet.begin(I)V -/
theorem wiX4_begin_4 : ∀ w ∈ u_ws RX4 TX4 5, w ∈ wsX4_begin := by decide +kernel
theorem fX4_begin_15 : mFld wsX4_begin RX4 15 5 1 18 (.array .int) true := ⟨4, _, RX4, TX4, 5, tyX4, rfl, rfl, rfl, by decide, wiX4_begin_4, tyX4_ok, nmX4, rfl, rfl, Or.inl ⟨by decide +kernel, fun _ => rfl⟩⟩
theorem fX4_begin_28 : mFld wsX4_begin RX4 28 5 2 0 .int false := ⟨4, _, RX4, TX4, 5, tyX4, rfl, rfl, rfl, by decide, wiX4_begin_4, tyX4_ok, nmX4, rfl, rfl, Or.inl ⟨by decide +kernel, fun _ => rfl⟩⟩
def bX4_begin (this : Nat) (a1 : Int32) (u : mSt) (K : mSt → Prop) : Prop := (∃ q_1, mR u this 1 = some q_1 ∧ bJ7_fill_53178 q_1 30 (-3 : Int32) u (fun u_3 => (∀ u_4, u_4 = mpI u_3 this 2 (0 : Int32) → bX4_openPlace this a1 u_4 (fun u_6 => bX4_returnToStart this u_6 (fun u_8 => K u_8)))))
set_option maxRecDepth 100000 in
set_option maxHeartbeats 4000000 in
theorem tX4_begin {X : mCx} {G : mG} {u0 : mSt} {K : mSt → Prop} (F : mFx X G cX4_begin wsX4_begin RX4 "begin" 1 23 none u0 (mPv K)) (hN : X.2.2.2.2.2.2.2.2.2.2.2.2.1 = 2) {this : Nat} {a1 : Int32} {u : mSt} (kthis : mK u this = 5) (h : bX4_begin this a1 u K) : mZ X u 0 [(0, .ref (G.1 + this)), (1, .int a1)] [] := by
  refine mz_aload_n F dX4_begin_0 rfl 0 rfl ?_
  obtain ⟨q_1, eq_1, h⟩ := h
  refine mz_getR F dX4_begin_1 fX4_begin_15 (by decide) kthis eq_1 (fun kq_1 => ?_)
  refine mz_bipush (v := (-3)) F dX4_begin_4 (by decide) ?_
  refine mz_callS (As := [_, _]) (n := 2) F dX4_begin_6 rfl gX4_begin_J7_fill_53178 (by decide +kernel) (by decide) rfl (Nat.le_of_ble_eq_true rfl) (kJ7_fill_53178 _ G kq_1 rfl h) (mz_kV fun u_3 h hx_2 => ?_)
  replace kthis := hx_2.2.2 _ _ (by decide) kthis
  refine mz_aload_n F dX4_begin_9 rfl 0 rfl ?_
  refine mz_iconst (v := 0) F dX4_begin_10 (by decide) ?_
  refine mz_putI F dX4_begin_11 fX4_begin_28 kthis rfl rfl (fun u_4 eu_4 hxu_4 => ?_)
  replace h := h u_4 eu_4
  replace kthis := hxu_4.2.2 _ _ (by decide) kthis
  refine mz_aload_n F dX4_begin_14 rfl 0 rfl ?_
  refine mz_iload_n F dX4_begin_15 rfl 1 rfl ?_
  refine mz_callV (As := [_]) (n := 1) F dX4_begin_16 rfl kthis rfl rfl gX4_begin_X4_openPlace (by decide +kernel) (by decide) rfl (Nat.le_of_ble_eq_true rfl) (kX4_openPlace _ G kthis h) (mz_kV fun u_6 h hx_5 => ?_)
  replace kthis := hx_5.2.2 _ _ (by decide) kthis
  refine mz_aload_n F dX4_begin_19 rfl 0 rfl ?_
  refine mz_callV (As := []) (n := 0) F dX4_begin_20 rfl kthis rfl rfl gX4_begin_X4_returnToStart (by decide +kernel) (by decide) rfl (Nat.le_of_ble_eq_true rfl) (kX4_returnToStart _ G kthis h) (mz_kV fun u_8 h hx_7 => ?_)
  exact mz_vret F dX4_begin_23 ⟨rfl, h⟩
set_option maxRecDepth 100000 in
theorem kX4_begin (l : Launch) (G : mG) {u : mSt} {K : mSt → Prop} {this : Nat} {a1 : Int32} (kthis : mK u this = 5) (h : bX4_begin this a1 u K) : mCt l G yX4_begin wsX4_begin 1 23 [.ref (G.1 + this), .int a1] u (mPv K) := by
  refine mCt.of (cc := cX4_begin) (maxL := 2) (ret := none) (by decide) rfl (Nat.le_of_ble_eq_true rfl) ?_
  intro X hl hN F
  exact tX4_begin F hN kthis h
/-! RoomMapper$Atlas.begin(II)V -/
theorem wiX0_begin_0 : ∀ w ∈ u_ws RX0 TX0 6, w ∈ wsX0_begin := by decide +kernel
theorem fX0_begin_20 : mFld wsX0_begin RX0 20 1 4 0 .int false := ⟨0, _, RX0, TX0, 6, tyX0, rfl, rfl, rfl, by decide, wiX0_begin_0, tyX0_ok, nmX0, rfl, rfl, Or.inl ⟨by decide +kernel, fun _ => rfl⟩⟩
theorem fX0_begin_24 : mFld wsX0_begin RX0 24 1 5 0 .boolean false := ⟨0, _, RX0, TX0, 6, tyX0, rfl, rfl, rfl, by decide, wiX0_begin_0, tyX0_ok, nmX0, rfl, rfl, Or.inl ⟨by decide +kernel, fun _ => rfl⟩⟩
theorem fX0_begin_28 : mFld wsX0_begin RX0 28 1 2 0 .int false := ⟨0, _, RX0, TX0, 6, tyX0, rfl, rfl, rfl, by decide, wiX0_begin_0, tyX0_ok, nmX0, rfl, rfl, Or.inl ⟨by decide +kernel, fun _ => rfl⟩⟩
theorem fX0_begin_11 : mFld wsX0_begin RX0 11 1 0 11 (.array (.object "RoomMapper$Sheet")) false := ⟨0, _, RX0, TX0, 6, tyX0, rfl, rfl, rfl, by decide, wiX0_begin_0, tyX0_ok, nmX0, rfl, rfl, Or.inl ⟨by decide +kernel, fun _ => rfl⟩⟩
theorem mX0_begin_iniX4_begin : Cond.initialized yX4_begin.cls ∈ wsX0_begin := by decide +kernel
theorem mX0_begin_imX4_begin : Cond.instanceMethod yX4_begin ∈ wsX0_begin := by decide +kernel
theorem mX0_begin_seX4_begin : Cond.selects RX4 yX4_begin yX4_begin ∈ wsX0_begin := by decide +kernel
def bX0_begin (this : Nat) (a1 : Int32) (a2 : Int32) (u : mSt) (K : mSt → Prop) : Prop := (∀ u_1, u_1 = mpI u this 4 a1 → (∀ u_2, u_2 = mpI u_1 this 5 (0 : Int32) → (∀ u_3, u_3 = mpI u_2 this 2 (1 : Int32) → (∃ q_4, mR u_3 this 0 = some q_4 ∧ bX0_blank q_4 (0 : Int32) u_3 (fun q_7 u_6 => bX4_begin q_7 a2 u_6 (fun u_9 => K u_9))))))
set_option maxRecDepth 100000 in
set_option maxHeartbeats 4000000 in
theorem tX0_begin {X : mCx} {G : mG} {u0 : mSt} {K : mSt → Prop} (F : mFx X G cX0_begin wsX0_begin RX0 "begin" 3 64 none u0 (mPv K)) (hN : X.2.2.2.2.2.2.2.2.2.2.2.2.1 = 3) {this : Nat} {a1 : Int32} {a2 : Int32} {u : mSt} (kthis : mK u this = 1) (h : bX0_begin this a1 a2 u K) : mZ X u 0 [(0, .ref (G.1 + this)), (1, .int a1), (2, .int a2)] [] := by
  refine mz_aload_n F dX0_begin_0 rfl 0 rfl ?_
  refine mz_iload_n F dX0_begin_1 rfl 1 rfl ?_
  refine mz_putI F dX0_begin_2 fX0_begin_20 kthis rfl rfl (fun u_1 eu_1 hxu_1 => ?_)
  replace h := h u_1 eu_1
  replace kthis := hxu_1.2.2 _ _ (by decide) kthis
  refine mz_aload_n F dX0_begin_5 rfl 0 rfl ?_
  refine mz_iconst (v := 0) F dX0_begin_6 (by decide) ?_
  refine mz_putI F dX0_begin_7 fX0_begin_24 kthis rfl rfl (fun u_2 eu_2 hxu_2 => ?_)
  replace h := h u_2 eu_2
  replace kthis := hxu_2.2.2 _ _ (by decide) kthis
  refine mz_aload_n F dX0_begin_10 rfl 0 rfl ?_
  refine mz_iconst (v := 1) F dX0_begin_11 (by decide) ?_
  refine mz_putI F dX0_begin_12 fX0_begin_28 kthis rfl rfl (fun u_3 eu_3 hxu_3 => ?_)
  replace h := h u_3 eu_3
  replace kthis := hxu_3.2.2 _ _ (by decide) kthis
  refine mz_aload_n F dX0_begin_15 rfl 0 rfl ?_
  obtain ⟨q_4, eq_4, h⟩ := h
  refine mz_getR F dX0_begin_16 fX0_begin_11 (by decide) kthis eq_4 (fun kq_4 => ?_)
  refine mz_iconst (v := 0) F dX0_begin_19 (by decide) ?_
  refine mz_callS (As := [_, _]) (n := 2) F dX0_begin_20 rfl gX0_begin_X0_blank (by decide +kernel) (by decide) rfl (Nat.le_of_ble_eq_true rfl) (kX0_blank _ G kq_4 h) (mz_kR fun q_7 u_6 kq_7 h hx_5 => ?_)
  refine mz_iload_n F dX0_begin_23 rfl 2 rfl ?_
  refine mz_callVN (As := [_]) (n := 1) F dX0_begin_24 rfl kq_7 rfl rfl gX0_begin_X4_begin_n35 nwM0_35 mX0_begin_iniX4_begin mX0_begin_imX4_begin mX0_begin_seX4_begin (by decide +kernel) (by decide) rfl (Nat.le_of_ble_eq_true rfl) (kX4_begin _ G kq_7 h) (mz_kV fun u_9 h hx_8 => ?_)
  exact mz_vret F dX0_begin_27 ⟨rfl, h⟩
set_option maxRecDepth 100000 in
theorem kX0_begin (l : Launch) (G : mG) {u : mSt} {K : mSt → Prop} {this : Nat} {a1 : Int32} {a2 : Int32} (kthis : mK u this = 1) (h : bX0_begin this a1 a2 u K) : mCt l G yX0_begin wsX0_begin 3 64 [.ref (G.1 + this), .int a1, .int a2] u (mPv K) := by
  refine mCt.of (cc := cX0_begin) (maxL := 3) (ret := none) (by decide) rfl (Nat.le_of_ble_eq_true rfl) ?_
  intro X hl hN F
  exact tX0_begin F hN kthis h
/-! RoomMapper$Sheet.movePebble()V -/
theorem wiX4_movePebble_4 : ∀ w ∈ u_ws RX4 TX4 5, w ∈ wsX4_movePebble := by decide +kernel
theorem fX4_movePebble_18 : mFld wsX4_movePebble RX4 18 5 4 0 .int false := ⟨4, _, RX4, TX4, 5, tyX4, rfl, rfl, rfl, by decide, wiX4_movePebble_4, tyX4_ok, nmX4, rfl, rfl, Or.inl ⟨by decide +kernel, fun _ => rfl⟩⟩
theorem fX4_movePebble_38 : mFld wsX4_movePebble RX4 38 5 3 0 .int false := ⟨4, _, RX4, TX4, 5, tyX4, rfl, rfl, rfl, by decide, wiX4_movePebble_4, tyX4_ok, nmX4, rfl, rfl, Or.inl ⟨by decide +kernel, fun _ => rfl⟩⟩
def bX4_movePebble (this : Nat) (u : mSt) (K : mSt → Prop) : Prop := (((mI u this 4) = (-2 : Int32) → (∀ u_3, u_3 = mpI u this 4 (mI u this 3) → K u_3)) ∧ (¬ ((mI u this 4) = (-2 : Int32)) → (((mI u this 4) = (mI u this 3) → (∀ u_1, u_1 = mpI u this 4 (-2 : Int32) → K u_1)) ∧ (¬ ((mI u this 4) = (mI u this 3)) → K u))))
set_option maxRecDepth 100000 in
set_option maxHeartbeats 4000000 in
theorem tX4_movePebble {X : mCx} {G : mG} {u0 : mSt} {K : mSt → Prop} (F : mFx X G cX4_movePebble wsX4_movePebble RX4 "movePebble" 0 0 none u0 (mPv K)) (hN : X.2.2.2.2.2.2.2.2.2.2.2.2.1 = 1) {this : Nat} {u : mSt} (kthis : mK u this = 5) (h : bX4_movePebble this u K) : mZ X u 0 [(0, .ref (G.1 + this))] [] := by
  refine mz_aload_n F dX4_movePebble_0 rfl 0 rfl ?_
  refine mz_getI F dX4_movePebble_1 fX4_movePebble_18 kthis ?_
  refine mz_bipush (v := (-2)) F dX4_movePebble_4 (by decide) ?_
  refine mz_icmp_ne (tgt := 20) F dX4_movePebble_6 (by decide) (fun c_4 => ?_) (fun c_4 => ?_)
  · replace h := h.2 c_4
    refine mz_aload_n F dX4_movePebble_20 rfl 0 rfl ?_
    refine mz_getI F dX4_movePebble_21 fX4_movePebble_18 kthis ?_
    refine mz_aload_n F dX4_movePebble_24 rfl 0 rfl ?_
    refine mz_getI F dX4_movePebble_25 fX4_movePebble_38 kthis ?_
    refine mz_icmp_ne (tgt := 37) F dX4_movePebble_28 (by decide) (fun c_2 => ?_) (fun c_2 => ?_)
    · replace h := h.2 c_2
      exact mz_vret F dX4_movePebble_37 ⟨rfl, h⟩
    · replace h := h.1 c_2
      refine mz_aload_n F dX4_movePebble_31 rfl 0 rfl ?_
      refine mz_bipush (v := (-2)) F dX4_movePebble_32 (by decide) ?_
      refine mz_putI F dX4_movePebble_34 fX4_movePebble_18 kthis rfl rfl (fun u_1 eu_1 hxu_1 => ?_)
      replace h := h u_1 eu_1
      exact mz_vret F dX4_movePebble_37 ⟨rfl, h⟩
  · replace h := h.1 c_4
    refine mz_aload_n F dX4_movePebble_9 rfl 0 rfl ?_
    refine mz_aload_n F dX4_movePebble_10 rfl 0 rfl ?_
    refine mz_getI F dX4_movePebble_11 fX4_movePebble_38 kthis ?_
    refine mz_putI F dX4_movePebble_14 fX4_movePebble_18 kthis rfl rfl (fun u_3 eu_3 hxu_3 => ?_)
    replace h := h u_3 eu_3
    refine mz_goto (tgt := 37) F dX4_movePebble_17 (by decide) ?_
    exact mz_vret F dX4_movePebble_37 ⟨rfl, h⟩
set_option maxRecDepth 100000 in
theorem kX4_movePebble (l : Launch) (G : mG) {u : mSt} {K : mSt → Prop} {this : Nat} (kthis : mK u this = 5) (h : bX4_movePebble this u K) : mCt l G yX4_movePebble wsX4_movePebble 0 0 [.ref (G.1 + this)] u (mPv K) := by
  refine mCt.of (cc := cX4_movePebble) (maxL := 1) (ret := none) (by decide) rfl (Nat.le_of_ble_eq_true rfl) ?_
  intro X hl hN F
  exact tX4_movePebble F hN kthis h
/-! RoomMapper$Atlas.movePebbles()V -/
theorem wiX0_movePebbles_0 : ∀ w ∈ u_ws RX0 TX0 6, w ∈ wsX0_movePebbles := by decide +kernel
theorem fX0_movePebbles_28 : mFld wsX0_movePebbles RX0 28 1 2 0 .int false := ⟨0, _, RX0, TX0, 6, tyX0, rfl, rfl, rfl, by decide, wiX0_movePebbles_0, tyX0_ok, nmX0, rfl, rfl, Or.inl ⟨by decide +kernel, fun _ => rfl⟩⟩
theorem fX0_movePebbles_11 : mFld wsX0_movePebbles RX0 11 1 0 11 (.array (.object "RoomMapper$Sheet")) false := ⟨0, _, RX0, TX0, 6, tyX0, rfl, rfl, rfl, by decide, wiX0_movePebbles_0, tyX0_ok, nmX0, rfl, rfl, Or.inl ⟨by decide +kernel, fun _ => rfl⟩⟩
theorem mX0_movePebbles_iniX4_movePebble : Cond.initialized yX4_movePebble.cls ∈ wsX0_movePebbles := by decide +kernel
theorem mX0_movePebbles_imX4_movePebble : Cond.instanceMethod yX4_movePebble ∈ wsX0_movePebbles := by decide +kernel
theorem mX0_movePebbles_seX4_movePebble : Cond.selects RX4 yX4_movePebble yX4_movePebble ∈ wsX0_movePebbles := by decide +kernel
def bX0_movePebbles_2 : Nat → Nat → Int32 → mSt → (mSt → Prop) → Prop
  | 0, _, _, _, _ => False
  | n + 1, v0, v1, u, K => (((mI u v0 2) ≤ v1 → K u) ∧ (¬ ((mI u v0 2) ≤ v1) → (∃ q_1, mR u v0 0 = some q_1 ∧ (vp_in v1 151 ∧ ∃ q_3, mR u q_1 v1.toNatClampNeg = some q_3 ∧ bX4_movePebble q_3 u (fun u_5 => (∀ x_6, x_6 = v1 + (1 : Int32) → bX0_movePebbles_2 n v0 x_6 u_5 K))))))
set_option maxRecDepth 100000 in
set_option maxHeartbeats 4000000 in
theorem tX0_movePebbles_2 {X : mCx} {G : mG} {u0 : mSt} {K : mSt → Prop} (F : mFx X G cX0_movePebbles wsX0_movePebbles RX0 "movePebbles" 1 20 none u0 (mPv K)) (hN : X.2.2.2.2.2.2.2.2.2.2.2.2.1 = 2) : ∀ (n : Nat) {v0 : Nat} {v1 : Int32} {u : mSt}, mK u v0 = 1 → bX0_movePebbles_2 n v0 v1 u K → mZ X u 2 [(0, .ref (G.1 + v0)), (1, .int v1)] [] := by
  intro n
  induction n with
  | zero => intro v0 v1 u kv0 h; exact False.elim h
  | succ n ih =>
    intro v0 v1 u kv0 h
    refine mz_iload_n F dX0_movePebbles_2 rfl 1 rfl ?_
    refine mz_aload_n F dX0_movePebbles_3 rfl 0 rfl ?_
    refine mz_getI F dX0_movePebbles_4 fX0_movePebbles_28 kv0 ?_
    refine mz_icmp_ge (tgt := 25) F dX0_movePebbles_7 (by decide) (fun c_7 => ?_) (fun c_7 => ?_)
    · replace h := h.1 c_7
      exact mz_vret F dX0_movePebbles_25 ⟨rfl, h⟩
    · replace h := h.2 c_7
      refine mz_aload_n F dX0_movePebbles_10 rfl 0 rfl ?_
      obtain ⟨q_1, eq_1, h⟩ := h
      refine mz_getR F dX0_movePebbles_11 fX0_movePebbles_11 (by decide) kv0 eq_1 (fun kq_1 => ?_)
      refine mz_iload_n F dX0_movePebbles_14 rfl 1 rfl ?_
      obtain ⟨b_2, q_3, eq_3, h⟩ := h
      refine mz_aald4 F dX0_movePebbles_15 kq_1 rfl (by decide) b_2 eq_3 (fun kq_3 => ?_)
      refine mz_callVN (As := []) (n := 0) F dX0_movePebbles_16 rfl kq_3 rfl rfl gX0_movePebbles_X4_movePebble_n50 nwM0_50 mX0_movePebbles_iniX4_movePebble mX0_movePebbles_imX4_movePebble mX0_movePebbles_seX4_movePebble (by decide +kernel) (by decide) rfl (Nat.le_of_ble_eq_true rfl) (kX4_movePebble _ G kq_3 h) (mz_kV fun u_5 h hx_4 => ?_)
      replace kv0 := hx_4.2.2 _ _ (by decide) kv0
      obtain ⟨x_6, ex_6⟩ : ∃ y : Int32, y = v1 + (1 : Int32) := ⟨_, rfl⟩
      replace h := h x_6 ex_6
      refine mz_iinc (v := x_6) (lv2 := [(1, .int x_6), (0, .ref (G.1 + v0))]) F dX0_movePebbles_19 1 rfl (by rw [ex_6]; rfl) hN (by decide) rfl ?_
      refine mz_goto (tgt := 2) F dX0_movePebbles_22 (by decide) ?_
      refine mz_sub [1, 0] rfl ?_
      exact ih kv0 h
def bX0_movePebbles (this : Nat) (u : mSt) (K : mSt → Prop) : Prop := (∃ n9, bX0_movePebbles_2 n9 this (0 : Int32) u K)
set_option maxRecDepth 100000 in
set_option maxHeartbeats 4000000 in
theorem tX0_movePebbles {X : mCx} {G : mG} {u0 : mSt} {K : mSt → Prop} (F : mFx X G cX0_movePebbles wsX0_movePebbles RX0 "movePebbles" 1 20 none u0 (mPv K)) (hN : X.2.2.2.2.2.2.2.2.2.2.2.2.1 = 2) {this : Nat} {u : mSt} (kthis : mK u this = 1) (h : bX0_movePebbles this u K) : mZ X u 0 [(0, .ref (G.1 + this))] [] := by
  refine mz_iconst (v := 0) F dX0_movePebbles_0 (by decide) ?_
  refine mz_istore_n (lv2 := [(1, .int (0 : Int32)), (0, .ref (G.1 + this))]) F dX0_movePebbles_1 rfl hN (by decide) rfl ?_
  refine mz_sub [1, 0] rfl ?_
  obtain ⟨n9, h⟩ := h
  exact tX0_movePebbles_2 F hN n9 kthis h
set_option maxRecDepth 100000 in
theorem kX0_movePebbles (l : Launch) (G : mG) {u : mSt} {K : mSt → Prop} {this : Nat} (kthis : mK u this = 1) (h : bX0_movePebbles this u K) : mCt l G yX0_movePebbles wsX0_movePebbles 1 20 [.ref (G.1 + this)] u (mPv K) := by
  refine mCt.of (cc := cX0_movePebbles) (maxL := 2) (ret := none) (by decide) rfl (Nat.le_of_ble_eq_true rfl) ?_
  intro X hl hN F
  exact tX0_movePebbles F hN kthis h
/-! RoomMapper$Sheet.leadFrom(II)I -/
theorem wiX4_leadFrom_4 : ∀ w ∈ u_ws RX4 TX4 5, w ∈ wsX4_leadFrom := by decide +kernel
theorem fX4_leadFrom_15 : mFld wsX4_leadFrom RX4 15 5 1 18 (.array .int) true := ⟨4, _, RX4, TX4, 5, tyX4, rfl, rfl, rfl, by decide, wiX4_leadFrom_4, tyX4_ok, nmX4, rfl, rfl, Or.inl ⟨by decide +kernel, fun _ => rfl⟩⟩
def bX4_leadFrom (this : Nat) (a1 : Int32) (a2 : Int32) (u : mSt) (K : Int32 → mSt → Prop) : Prop := (∃ q_1, mR u this 1 = some q_1 ∧ (vp_in ((a1 * (5 : Int32)) + a2) 30 ∧ K (mI u q_1 ((a1 * (5 : Int32)) + a2).toNatClampNeg) u))
set_option maxRecDepth 100000 in
set_option maxHeartbeats 4000000 in
theorem tX4_leadFrom {X : mCx} {G : mG} {u0 : mSt} {K : Int32 → mSt → Prop} (F : mFx X G cX4_leadFrom wsX4_leadFrom RX4 "leadFrom" 0 0 (some .int) u0 (mPi K)) (hN : X.2.2.2.2.2.2.2.2.2.2.2.2.1 = 3) {this : Nat} {a1 : Int32} {a2 : Int32} {u : mSt} (kthis : mK u this = 5) (h : bX4_leadFrom this a1 a2 u K) : mZ X u 0 [(0, .ref (G.1 + this)), (1, .int a1), (2, .int a2)] [] := by
  refine mz_aload_n F dX4_leadFrom_0 rfl 0 rfl ?_
  obtain ⟨q_1, eq_1, h⟩ := h
  refine mz_getR F dX4_leadFrom_1 fX4_leadFrom_15 (by decide) kthis eq_1 (fun kq_1 => ?_)
  refine mz_iload_n F dX4_leadFrom_4 rfl 1 rfl ?_
  refine mz_iconst (v := 5) F dX4_leadFrom_5 (by decide) ?_
  refine mz_imul F dX4_leadFrom_6 ?_
  refine mz_iload_n F dX4_leadFrom_7 rfl 2 rfl ?_
  refine mz_iadd F dX4_leadFrom_8 ?_
  obtain ⟨b_2, h⟩ := h
  refine mz_iald F dX4_leadFrom_9 kq_1 rfl b_2 ?_
  exact mz_iret F dX4_leadFrom_10 ⟨_, rfl, h⟩
set_option maxRecDepth 100000 in
theorem kX4_leadFrom (l : Launch) (G : mG) {u : mSt} {K : Int32 → mSt → Prop} {this : Nat} {a1 : Int32} {a2 : Int32} (kthis : mK u this = 5) (h : bX4_leadFrom this a1 a2 u K) : mCt l G yX4_leadFrom wsX4_leadFrom 0 0 [.ref (G.1 + this), .int a1, .int a2] u (mPi K) := by
  refine mCt.of (cc := cX4_leadFrom) (maxL := 3) (ret := (some .int)) (by decide) rfl (Nat.le_of_ble_eq_true rfl) ?_
  intro X hl hN F
  exact tX4_leadFrom F hN kthis h
/-! RoomMapper.sightOf(ZIZ)I -/
def bX8_sightOf_10 (v1 : Int32) (v2 : Int32) (w0 : Int32) (u : mSt) (K : Int32 → mSt → Prop) : Prop := ((v2 = 0 → K ((w0 + ((2 : Int32) * v1)) + (0 : Int32)) u) ∧ (¬ (v2 = 0) → K ((w0 + ((2 : Int32) * v1)) + (1 : Int32)) u))
set_option maxRecDepth 100000 in
set_option maxHeartbeats 4000000 in
theorem tX8_sightOf_10 {X : mCx} {G : mG} {u0 : mSt} {K : Int32 → mSt → Prop} (F : mFx X G cX8_sightOf wsX8_sightOf RX8 "sightOf" 0 0 (some .int) u0 (mPi K)) (hN : X.2.2.2.2.2.2.2.2.2.2.2.2.1 = 3) {v1 : Int32} {v2 : Int32} {w0 : Int32} {u : mSt} (h : bX8_sightOf_10 v1 v2 w0 u K) : mZ X u 10 [(1, .int v1), (2, .int v2)] [.int w0] := by
  refine mz_iconst (v := 2) F dX8_sightOf_10 (by decide) ?_
  refine mz_iload_n F dX8_sightOf_11 rfl 0 rfl ?_
  refine mz_imul F dX8_sightOf_12 ?_
  refine mz_iadd F dX8_sightOf_13 ?_
  refine mz_iload_n F dX8_sightOf_14 rfl 1 rfl ?_
  refine mz_if_eq (tgt := 22) F dX8_sightOf_15 (by decide) (fun c_1 => ?_) (fun c_1 => ?_)
  · replace h := h.1 c_1
    refine mz_iconst (v := 0) F dX8_sightOf_22 (by decide) ?_
    refine mz_iadd F dX8_sightOf_23 ?_
    exact mz_iret F dX8_sightOf_24 ⟨_, rfl, h⟩
  · replace h := h.2 c_1
    refine mz_iconst (v := 1) F dX8_sightOf_18 (by decide) ?_
    refine mz_goto (tgt := 23) F dX8_sightOf_19 (by decide) ?_
    refine mz_iadd F dX8_sightOf_23 ?_
    exact mz_iret F dX8_sightOf_24 ⟨_, rfl, h⟩
def bX8_sightOf (a0 : Int32) (a1 : Int32) (a2 : Int32) (u : mSt) (K : Int32 → mSt → Prop) : Prop := ((a0 = 0 → bX8_sightOf_10 a1 a2 (0 : Int32) u K) ∧ (¬ (a0 = 0) → bX8_sightOf_10 a1 a2 (8 : Int32) u K))
set_option maxRecDepth 100000 in
set_option maxHeartbeats 4000000 in
theorem tX8_sightOf {X : mCx} {G : mG} {u0 : mSt} {K : Int32 → mSt → Prop} (F : mFx X G cX8_sightOf wsX8_sightOf RX8 "sightOf" 0 0 (some .int) u0 (mPi K)) (hN : X.2.2.2.2.2.2.2.2.2.2.2.2.1 = 3) {a0 : Int32} {a1 : Int32} {a2 : Int32} {u : mSt} (h : bX8_sightOf a0 a1 a2 u K) : mZ X u 0 [(0, .int a0), (1, .int a1), (2, .int a2)] [] := by
  refine mz_iload_n F dX8_sightOf_0 rfl 0 rfl ?_
  refine mz_if_eq (tgt := 9) F dX8_sightOf_1 (by decide) (fun c_1 => ?_) (fun c_1 => ?_)
  · replace h := h.1 c_1
    refine mz_iconst (v := 0) F dX8_sightOf_9 (by decide) ?_
    refine mz_sub [1, 2] rfl ?_
    exact tX8_sightOf_10 F hN  h
  · replace h := h.2 c_1
    refine mz_bipush (v := 8) F dX8_sightOf_4 (by decide) ?_
    refine mz_goto (tgt := 10) F dX8_sightOf_6 (by decide) ?_
    refine mz_sub [1, 2] rfl ?_
    exact tX8_sightOf_10 F hN  h
set_option maxRecDepth 100000 in
theorem kX8_sightOf (l : Launch) (G : mG) {u : mSt} {K : Int32 → mSt → Prop} {a0 : Int32} {a1 : Int32} {a2 : Int32} (h : bX8_sightOf a0 a1 a2 u K) : mCt l G yX8_sightOf wsX8_sightOf 0 0 [.int a0, .int a1, .int a2] u (mPi K) := by
  refine mCt.of (cc := cX8_sightOf) (maxL := 3) (ret := (some .int)) (by decide) rfl (Nat.le_of_ble_eq_true rfl) ?_
  intro X hl hN F
  exact tX8_sightOf F hN  h
/-! RoomMapper$Sheet.sightAt(IZ)I -/
theorem mX4_sightAt_iniX8_sightOf : Cond.initialized yX8_sightOf.cls ∈ wsX4_sightAt := by decide +kernel
theorem mX4_sightAt_stX8_sightOf : Cond.static yX8_sightOf ∈ wsX4_sightAt := by decide +kernel
theorem wiX4_sightAt_4 : ∀ w ∈ u_ws RX4 TX4 5, w ∈ wsX4_sightAt := by decide +kernel
theorem fX4_sightAt_9 : mFld wsX4_sightAt RX4 9 5 0 17 (.array .int) true := ⟨4, _, RX4, TX4, 5, tyX4, rfl, rfl, rfl, by decide, wiX4_sightAt_4, tyX4_ok, nmX4, rfl, rfl, Or.inl ⟨by decide +kernel, fun _ => rfl⟩⟩
theorem fX4_sightAt_18 : mFld wsX4_sightAt RX4 18 5 4 0 .int false := ⟨4, _, RX4, TX4, 5, tyX4, rfl, rfl, rfl, by decide, wiX4_sightAt_4, tyX4_ok, nmX4, rfl, rfl, Or.inl ⟨by decide +kernel, fun _ => rfl⟩⟩
def bX4_sightAt_20 (w0 : Int32) (w1 : Int32) (w2 : Int32) (u : mSt) (K : Int32 → mSt → Prop) : Prop := bX8_sightOf w0 w1 w2 u (fun r_3 u_2 => K r_3 u_2)
set_option maxRecDepth 100000 in
set_option maxHeartbeats 4000000 in
theorem tX4_sightAt_20 {X : mCx} {G : mG} {u0 : mSt} {K : Int32 → mSt → Prop} (F : mFx X G cX4_sightAt wsX4_sightAt RX4 "sightAt" 1 22 (some .int) u0 (mPi K)) (hN : X.2.2.2.2.2.2.2.2.2.2.2.2.1 = 3) {w0 : Int32} {w1 : Int32} {w2 : Int32} {u : mSt} (h : bX4_sightAt_20 w0 w1 w2 u K) : mZ X u 20 [] [.int w2, .int w1, .int w0] := by
  refine mz_callSN (As := [_, _, _]) (n := 3) F dX4_sightAt_20 rfl gX4_sightAt_X8_sightOf_n51 nwM4_51 mX4_sightAt_iniX8_sightOf mX4_sightAt_stX8_sightOf (by decide +kernel) (by decide) rfl (Nat.le_of_ble_eq_true rfl) (kX8_sightOf _ G h) (mz_kI fun r_3 u_2 h hx_1 => ?_)
  exact mz_iret F dX4_sightAt_23 ⟨_, rfl, h⟩
def bX4_sightAt (this : Nat) (a1 : Int32) (a2 : Int32) (u : mSt) (K : Int32 → mSt → Prop) : Prop := (∃ q_1, mR u this 0 = some q_1 ∧ (vp_in a1 6 ∧ (((mI u this 4) = a1 → bX4_sightAt_20 a2 (mI u q_1 a1.toNatClampNeg) (1 : Int32) u K) ∧ (¬ ((mI u this 4) = a1) → bX4_sightAt_20 a2 (mI u q_1 a1.toNatClampNeg) (0 : Int32) u K))))
set_option maxRecDepth 100000 in
set_option maxHeartbeats 4000000 in
theorem tX4_sightAt {X : mCx} {G : mG} {u0 : mSt} {K : Int32 → mSt → Prop} (F : mFx X G cX4_sightAt wsX4_sightAt RX4 "sightAt" 1 22 (some .int) u0 (mPi K)) (hN : X.2.2.2.2.2.2.2.2.2.2.2.2.1 = 3) {this : Nat} {a1 : Int32} {a2 : Int32} {u : mSt} (kthis : mK u this = 5) (h : bX4_sightAt this a1 a2 u K) : mZ X u 0 [(0, .ref (G.1 + this)), (1, .int a1), (2, .int a2)] [] := by
  refine mz_iload_n F dX4_sightAt_0 rfl 2 rfl ?_
  refine mz_aload_n F dX4_sightAt_1 rfl 0 rfl ?_
  obtain ⟨q_1, eq_1, h⟩ := h
  refine mz_getR F dX4_sightAt_2 fX4_sightAt_9 (by decide) kthis eq_1 (fun kq_1 => ?_)
  refine mz_iload_n F dX4_sightAt_5 rfl 1 rfl ?_
  obtain ⟨b_2, h⟩ := h
  refine mz_iald F dX4_sightAt_6 kq_1 rfl b_2 ?_
  refine mz_aload_n F dX4_sightAt_7 rfl 0 rfl ?_
  refine mz_getI F dX4_sightAt_8 fX4_sightAt_18 kthis ?_
  refine mz_iload_n F dX4_sightAt_11 rfl 1 rfl ?_
  refine mz_icmp_ne (tgt := 19) F dX4_sightAt_12 (by decide) (fun c_3 => ?_) (fun c_3 => ?_)
  · replace h := h.2 c_3
    refine mz_iconst (v := 0) F dX4_sightAt_19 (by decide) ?_
    refine mz_sub [] rfl ?_
    exact tX4_sightAt_20 F hN  h
  · replace h := h.1 c_3
    refine mz_iconst (v := 1) F dX4_sightAt_15 (by decide) ?_
    refine mz_goto (tgt := 20) F dX4_sightAt_16 (by decide) ?_
    refine mz_sub [] rfl ?_
    exact tX4_sightAt_20 F hN  h
set_option maxRecDepth 100000 in
theorem kX4_sightAt (l : Launch) (G : mG) {u : mSt} {K : Int32 → mSt → Prop} {this : Nat} {a1 : Int32} {a2 : Int32} (kthis : mK u this = 5) (h : bX4_sightAt this a1 a2 u K) : mCt l G yX4_sightAt wsX4_sightAt 1 22 [.ref (G.1 + this), .int a1, .int a2] u (mPi K) := by
  refine mCt.of (cc := cX4_sightAt) (maxL := 3) (ret := (some .int)) (by decide) rfl (Nat.le_of_ble_eq_true rfl) ?_
  intro X hl hN F
  exact tX4_sightAt F hN kthis h
/-! RoomMapper$Sheet.sightAfter(II)I -/
def bX4_sightAfter (this : Nat) (a1 : Int32) (a2 : Int32) (u : mSt) (K : Int32 → mSt → Prop) : Prop := bX4_leadFrom this a1 a2 u (fun r_3 u_2 => ((r_3 = (-3 : Int32) → K (-3 : Int32) u_2) ∧ (¬ (r_3 = (-3 : Int32)) → ((r_3 = (-2 : Int32) → bX4_sightAt this a1 (1 : Int32) u_2 (fun r_9 u_8 => K r_9 u_8)) ∧ (¬ (r_3 = (-2 : Int32)) → bX4_sightAt this r_3 (0 : Int32) u_2 (fun r_6 u_5 => K r_6 u_5))))))
set_option maxRecDepth 100000 in
set_option maxHeartbeats 4000000 in
theorem tX4_sightAfter {X : mCx} {G : mG} {u0 : mSt} {K : Int32 → mSt → Prop} (F : mFx X G cX4_sightAfter wsX4_sightAfter RX4 "sightAfter" 2 44 (some .int) u0 (mPi K)) (hN : X.2.2.2.2.2.2.2.2.2.2.2.2.1 = 4) {this : Nat} {a1 : Int32} {a2 : Int32} {u : mSt} (kthis : mK u this = 5) (h : bX4_sightAfter this a1 a2 u K) : mZ X u 0 [(0, .ref (G.1 + this)), (1, .int a1), (2, .int a2)] [] := by
  refine mz_aload_n F dX4_sightAfter_0 rfl 0 rfl ?_
  refine mz_iload_n F dX4_sightAfter_1 rfl 1 rfl ?_
  refine mz_iload_n F dX4_sightAfter_2 rfl 2 rfl ?_
  refine mz_callV (As := [_, _]) (n := 2) F dX4_sightAfter_3 rfl kthis rfl rfl gX4_sightAfter_X4_leadFrom (by decide +kernel) (by decide) rfl (Nat.le_of_ble_eq_true rfl) (kX4_leadFrom _ G kthis h) (mz_kI fun r_3 u_2 h hx_1 => ?_)
  replace kthis := hx_1.2.2 _ _ (by decide) kthis
  refine mz_istore_n (lv2 := [(3, .int r_3), (0, .ref (G.1 + this)), (1, .int a1), (2, .int a2)]) F dX4_sightAfter_6 rfl hN (by decide) rfl ?_
  refine mz_iload_n F dX4_sightAfter_7 rfl 0 rfl ?_
  refine mz_bipush (v := (-3)) F dX4_sightAfter_8 (by decide) ?_
  refine mz_icmp_ne (tgt := 16) F dX4_sightAfter_10 (by decide) (fun c_11 => ?_) (fun c_11 => ?_)
  · replace h := h.2 c_11
    refine mz_iload_n F dX4_sightAfter_16 rfl 0 rfl ?_
    refine mz_bipush (v := (-2)) F dX4_sightAfter_17 (by decide) ?_
    refine mz_icmp_ne (tgt := 31) F dX4_sightAfter_19 (by decide) (fun c_10 => ?_) (fun c_10 => ?_)
    · replace h := h.2 c_10
      refine mz_aload_n F dX4_sightAfter_31 rfl 1 rfl ?_
      refine mz_iload_n F dX4_sightAfter_32 rfl 0 rfl ?_
      refine mz_iconst (v := 0) F dX4_sightAfter_33 (by decide) ?_
      refine mz_callV (As := [_, _]) (n := 2) F dX4_sightAfter_34 rfl kthis rfl rfl gX4_sightAfter_X4_sightAt (by decide +kernel) (by decide) rfl (Nat.le_of_ble_eq_true rfl) (kX4_sightAt _ G kthis h) (mz_kI fun r_6 u_5 h hx_4 => ?_)
      exact mz_iret F dX4_sightAfter_37 ⟨_, rfl, h⟩
    · replace h := h.1 c_10
      refine mz_aload_n F dX4_sightAfter_22 rfl 1 rfl ?_
      refine mz_iload_n F dX4_sightAfter_23 rfl 2 rfl ?_
      refine mz_iconst (v := 1) F dX4_sightAfter_24 (by decide) ?_
      refine mz_callV (As := [_, _]) (n := 2) F dX4_sightAfter_25 rfl kthis rfl rfl gX4_sightAfter_X4_sightAt (by decide +kernel) (by decide) rfl (Nat.le_of_ble_eq_true rfl) (kX4_sightAt _ G kthis h) (mz_kI fun r_9 u_8 h hx_7 => ?_)
      refine mz_goto (tgt := 37) F dX4_sightAfter_28 (by decide) ?_
      exact mz_iret F dX4_sightAfter_37 ⟨_, rfl, h⟩
  · replace h := h.1 c_11
    refine mz_bipush (v := (-3)) F dX4_sightAfter_13 (by decide) ?_
    exact mz_iret F dX4_sightAfter_15 ⟨_, rfl, h⟩
set_option maxRecDepth 100000 in
theorem kX4_sightAfter (l : Launch) (G : mG) {u : mSt} {K : Int32 → mSt → Prop} {this : Nat} {a1 : Int32} {a2 : Int32} (kthis : mK u this = 5) (h : bX4_sightAfter this a1 a2 u K) : mCt l G yX4_sightAfter wsX4_sightAfter 2 44 [.ref (G.1 + this), .int a1, .int a2] u (mPi K) := by
  refine mCt.of (cc := cX4_sightAfter) (maxL := 4) (ret := (some .int)) (by decide) rfl (Nat.le_of_ble_eq_true rfl) ?_
  intro X hl hN F
  exact tX4_sightAfter F hN kthis h
/-! RoomMapper$Sheet.become(LRoomMapper$Sheet;)V -/
theorem wiX4_become_4 : ∀ w ∈ u_ws RX4 TX4 5, w ∈ wsX4_become := by decide +kernel
theorem fX4_become_9 : mFld wsX4_become RX4 9 5 0 17 (.array .int) true := ⟨4, _, RX4, TX4, 5, tyX4, rfl, rfl, rfl, by decide, wiX4_become_4, tyX4_ok, nmX4, rfl, rfl, Or.inl ⟨by decide +kernel, fun _ => rfl⟩⟩
theorem mX4_become_al41 : Cond.methodLink RX4 41 arraycopyName ∈ wsX4_become := by decide +kernel
theorem mX4_become_an : Cond.native arraycopyName ∈ wsX4_become := by decide +kernel
theorem mX4_become_as : Cond.static arraycopyName ∈ wsX4_become := by decide +kernel
theorem mX4_become_ai : Cond.initialized "java/lang/System" ∈ wsX4_become := by decide +kernel
theorem fX4_become_15 : mFld wsX4_become RX4 15 5 1 18 (.array .int) true := ⟨4, _, RX4, TX4, 5, tyX4, rfl, rfl, rfl, by decide, wiX4_become_4, tyX4_ok, nmX4, rfl, rfl, Or.inl ⟨by decide +kernel, fun _ => rfl⟩⟩
theorem fX4_become_28 : mFld wsX4_become RX4 28 5 2 0 .int false := ⟨4, _, RX4, TX4, 5, tyX4, rfl, rfl, rfl, by decide, wiX4_become_4, tyX4_ok, nmX4, rfl, rfl, Or.inl ⟨by decide +kernel, fun _ => rfl⟩⟩
theorem fX4_become_38 : mFld wsX4_become RX4 38 5 3 0 .int false := ⟨4, _, RX4, TX4, 5, tyX4, rfl, rfl, rfl, by decide, wiX4_become_4, tyX4_ok, nmX4, rfl, rfl, Or.inl ⟨by decide +kernel, fun _ => rfl⟩⟩
theorem fX4_become_18 : mFld wsX4_become RX4 18 5 4 0 .int false := ⟨4, _, RX4, TX4, 5, tyX4, rfl, rfl, rfl, by decide, wiX4_become_4, tyX4_ok, nmX4, rfl, rfl, Or.inl ⟨by decide +kernel, fun _ => rfl⟩⟩
def bX4_become (this : Nat) (a1 : Nat) (u : mSt) (K : mSt → Prop) : Prop := (∃ q_1, mR u a1 0 = some q_1 ∧ (∃ q_2, mR u this 0 = some q_2 ∧ ((¬ (0 : Int32) < 0 ∧ ¬ (0 : Int32) < 0 ∧ ¬ (6 : Int32) < 0 ∧ (0 : Int32).toNatClampNeg + (6 : Int32).toNatClampNeg ≤ 6 ∧ (0 : Int32).toNatClampNeg + (6 : Int32).toNatClampNeg ≤ 6) ∧ ∀ u_3, u_3 = mrI u q_2 (va_cpy (mI u q_1) (mI u q_2) (0 : Int32).toNatClampNeg (0 : Int32).toNatClampNeg (6 : Int32).toNatClampNeg) → (∃ q_9, mR u_3 a1 1 = some q_9 ∧ (∃ q_10, mR u_3 this 1 = some q_10 ∧ ((¬ (0 : Int32) < 0 ∧ ¬ (0 : Int32) < 0 ∧ ¬ (30 : Int32) < 0 ∧ (0 : Int32).toNatClampNeg + (30 : Int32).toNatClampNeg ≤ 30 ∧ (0 : Int32).toNatClampNeg + (30 : Int32).toNatClampNeg ≤ 30) ∧ ∀ u_11, u_11 = mrI u_3 q_10 (va_cpy (mI u_3 q_9) (mI u_3 q_10) (0 : Int32).toNatClampNeg (0 : Int32).toNatClampNeg (30 : Int32).toNatClampNeg) → (∀ u_17, u_17 = mpI u_11 this 2 (mI u_11 a1 2) → (∀ u_18, u_18 = mpI u_17 this 3 (mI u_17 a1 3) → (∀ u_19, u_19 = mpI u_18 this 4 (mI u_18 a1 4) → K u_19)))))))))
set_option maxRecDepth 100000 in
set_option maxHeartbeats 4000000 in
theorem tX4_become {X : mCx} {G : mG} {u0 : mSt} {K : mSt → Prop} (F : mFx X G cX4_become wsX4_become RX4 "become" 1 60 none u0 (mPv K)) (hN : X.2.2.2.2.2.2.2.2.2.2.2.2.1 = 2) {this : Nat} {a1 : Nat} {u : mSt} (kthis : mK u this = 5) (ka1 : mK u a1 = 5) (h : bX4_become this a1 u K) : mZ X u 0 [(0, .ref (G.1 + this)), (1, .ref (G.1 + a1))] [] := by
  refine mz_aload_n F dX4_become_0 rfl 1 rfl ?_
  obtain ⟨q_1, eq_1, h⟩ := h
  refine mz_getR F dX4_become_1 fX4_become_9 (by decide) ka1 eq_1 (fun kq_1 => ?_)
  refine mz_iconst (v := 0) F dX4_become_4 (by decide) ?_
  refine mz_aload_n F dX4_become_5 rfl 0 rfl ?_
  obtain ⟨q_2, eq_2, h⟩ := h
  refine mz_getR F dX4_become_6 fX4_become_9 (by decide) kthis eq_2 (fun kq_2 => ?_)
  refine mz_iconst (v := 0) F dX4_become_9 (by decide) ?_
  refine mz_bipush (v := 6) F dX4_become_10 (by decide) ?_
  obtain ⟨⟨b_4, b_5, b_6, b_7, b_8⟩, h⟩ := h
  refine mz_copyi F dX4_become_12 mX4_become_al41 mX4_become_an mX4_become_as mX4_become_ai (by decide +kernel) (Nat.le_of_ble_eq_true rfl) kq_1 rfl kq_2 rfl b_4 b_5 b_6 b_7 b_8 (fun u_3 eu_3 hxu_3 => ?_)
  replace h := h u_3 eu_3
  replace kthis := hxu_3.2.2 _ _ (by decide) kthis
  replace ka1 := hxu_3.2.2 _ _ (by decide) ka1
  refine mz_aload_n F dX4_become_15 rfl 1 rfl ?_
  obtain ⟨q_9, eq_9, h⟩ := h
  refine mz_getR F dX4_become_16 fX4_become_15 (by decide) ka1 eq_9 (fun kq_9 => ?_)
  refine mz_iconst (v := 0) F dX4_become_19 (by decide) ?_
  refine mz_aload_n F dX4_become_20 rfl 0 rfl ?_
  obtain ⟨q_10, eq_10, h⟩ := h
  refine mz_getR F dX4_become_21 fX4_become_15 (by decide) kthis eq_10 (fun kq_10 => ?_)
  refine mz_iconst (v := 0) F dX4_become_24 (by decide) ?_
  refine mz_bipush (v := 30) F dX4_become_25 (by decide) ?_
  obtain ⟨⟨b_12, b_13, b_14, b_15, b_16⟩, h⟩ := h
  refine mz_copyi F dX4_become_27 mX4_become_al41 mX4_become_an mX4_become_as mX4_become_ai (by decide +kernel) (Nat.le_of_ble_eq_true rfl) kq_9 rfl kq_10 rfl b_12 b_13 b_14 b_15 b_16 (fun u_11 eu_11 hxu_11 => ?_)
  replace h := h u_11 eu_11
  replace kthis := hxu_11.2.2 _ _ (by decide) kthis
  replace ka1 := hxu_11.2.2 _ _ (by decide) ka1
  refine mz_aload_n F dX4_become_30 rfl 0 rfl ?_
  refine mz_aload_n F dX4_become_31 rfl 1 rfl ?_
  refine mz_getI F dX4_become_32 fX4_become_28 ka1 ?_
  refine mz_putI F dX4_become_35 fX4_become_28 kthis rfl rfl (fun u_17 eu_17 hxu_17 => ?_)
  replace h := h u_17 eu_17
  replace kthis := hxu_17.2.2 _ _ (by decide) kthis
  replace ka1 := hxu_17.2.2 _ _ (by decide) ka1
  refine mz_aload_n F dX4_become_38 rfl 0 rfl ?_
  refine mz_aload_n F dX4_become_39 rfl 1 rfl ?_
  refine mz_getI F dX4_become_40 fX4_become_38 ka1 ?_
  refine mz_putI F dX4_become_43 fX4_become_38 kthis rfl rfl (fun u_18 eu_18 hxu_18 => ?_)
  replace h := h u_18 eu_18
  replace kthis := hxu_18.2.2 _ _ (by decide) kthis
  replace ka1 := hxu_18.2.2 _ _ (by decide) ka1
  refine mz_aload_n F dX4_become_46 rfl 0 rfl ?_
  refine mz_aload_n F dX4_become_47 rfl 1 rfl ?_
  refine mz_getI F dX4_become_48 fX4_become_18 ka1 ?_
  refine mz_putI F dX4_become_51 fX4_become_18 kthis rfl rfl (fun u_19 eu_19 hxu_19 => ?_)
  replace h := h u_19 eu_19
  exact mz_vret F dX4_become_54 ⟨rfl, h⟩
set_option maxRecDepth 100000 in
theorem kX4_become (l : Launch) (G : mG) {u : mSt} {K : mSt → Prop} {this : Nat} {a1 : Nat} (kthis : mK u this = 5) (ka1 : mK u a1 = 5) (h : bX4_become this a1 u K) : mCt l G yX4_become wsX4_become 1 60 [.ref (G.1 + this), .ref (G.1 + a1)] u (mPv K) := by
  refine mCt.of (cc := cX4_become) (maxL := 2) (ret := none) (by decide) rfl (Nat.le_of_ble_eq_true rfl) ?_
  intro X hl hN F
  exact tX4_become F hN kthis ka1 h
/-! RoomMapper$Sheet.setLead(III)V -/
theorem wiX4_setLead_4 : ∀ w ∈ u_ws RX4 TX4 5, w ∈ wsX4_setLead := by decide +kernel
theorem fX4_setLead_15 : mFld wsX4_setLead RX4 15 5 1 18 (.array .int) true := ⟨4, _, RX4, TX4, 5, tyX4, rfl, rfl, rfl, by decide, wiX4_setLead_4, tyX4_ok, nmX4, rfl, rfl, Or.inl ⟨by decide +kernel, fun _ => rfl⟩⟩
def bX4_setLead (this : Nat) (a1 : Int32) (a2 : Int32) (a3 : Int32) (u : mSt) (K : mSt → Prop) : Prop := (∃ q_1, mR u this 1 = some q_1 ∧ (vp_in ((a1 * (5 : Int32)) + a2) 30 ∧ ∀ u_3, u_3 = mpI u q_1 ((a1 * (5 : Int32)) + a2).toNatClampNeg a3 → K u_3))
set_option maxRecDepth 100000 in
set_option maxHeartbeats 4000000 in
theorem tX4_setLead {X : mCx} {G : mG} {u0 : mSt} {K : mSt → Prop} (F : mFx X G cX4_setLead wsX4_setLead RX4 "setLead" 0 0 none u0 (mPv K)) (hN : X.2.2.2.2.2.2.2.2.2.2.2.2.1 = 4) {this : Nat} {a1 : Int32} {a2 : Int32} {a3 : Int32} {u : mSt} (kthis : mK u this = 5) (h : bX4_setLead this a1 a2 a3 u K) : mZ X u 0 [(0, .ref (G.1 + this)), (1, .int a1), (2, .int a2), (3, .int a3)] [] := by
  refine mz_aload_n F dX4_setLead_0 rfl 0 rfl ?_
  obtain ⟨q_1, eq_1, h⟩ := h
  refine mz_getR F dX4_setLead_1 fX4_setLead_15 (by decide) kthis eq_1 (fun kq_1 => ?_)
  refine mz_iload_n F dX4_setLead_4 rfl 1 rfl ?_
  refine mz_iconst (v := 5) F dX4_setLead_5 (by decide) ?_
  refine mz_imul F dX4_setLead_6 ?_
  refine mz_iload_n F dX4_setLead_7 rfl 2 rfl ?_
  refine mz_iadd F dX4_setLead_8 ?_
  refine mz_iload_n F dX4_setLead_9 rfl 3 rfl ?_
  obtain ⟨b_2, h⟩ := h
  refine mz_iast F dX4_setLead_10 kq_1 rfl b_2 (fun u_3 eu_3 hxu_3 => ?_)
  replace h := h u_3 eu_3
  exact mz_vret F dX4_setLead_11 ⟨rfl, h⟩
set_option maxRecDepth 100000 in
theorem kX4_setLead (l : Launch) (G : mG) {u : mSt} {K : mSt → Prop} {this : Nat} {a1 : Int32} {a2 : Int32} {a3 : Int32} (kthis : mK u this = 5) (h : bX4_setLead this a1 a2 a3 u K) : mCt l G yX4_setLead wsX4_setLead 0 0 [.ref (G.1 + this), .int a1, .int a2, .int a3] u (mPv K) := by
  refine mCt.of (cc := cX4_setLead) (maxL := 4) (ret := none) (by decide) rfl (Nat.le_of_ble_eq_true rfl) ?_
  intro X hl hN F
  exact tX4_setLead F hN kthis h
/-! RoomMapper.signOf(I)I -/
def bX8_signOf (a0 : Int32) (u : mSt) (K : Int32 → mSt → Prop) : Prop := K ((a0 / (2 : Int32)) - (a0 / (2 : Int32)) / (4 : Int32) * (4 : Int32)) u
set_option maxRecDepth 100000 in
set_option maxHeartbeats 4000000 in
theorem tX8_signOf {X : mCx} {G : mG} {u0 : mSt} {K : Int32 → mSt → Prop} (F : mFx X G cX8_signOf wsX8_signOf RX8 "signOf" 0 0 (some .int) u0 (mPi K)) (hN : X.2.2.2.2.2.2.2.2.2.2.2.2.1 = 1) {a0 : Int32} {u : mSt} (h : bX8_signOf a0 u K) : mZ X u 0 [(0, .int a0)] [] := by
  refine mz_iload_n F dX8_signOf_0 rfl 0 rfl ?_
  refine mz_iconst (v := 2) F dX8_signOf_1 (by decide) ?_
  refine mz_idiv F dX8_signOf_2 (by decide) ?_
  refine mz_iconst (v := 4) F dX8_signOf_3 (by decide) ?_
  refine mz_irem F dX8_signOf_4 (by decide) ?_
  exact mz_iret F dX8_signOf_5 ⟨_, rfl, h⟩
set_option maxRecDepth 100000 in
theorem kX8_signOf (l : Launch) (G : mG) {u : mSt} {K : Int32 → mSt → Prop} {a0 : Int32} (h : bX8_signOf a0 u K) : mCt l G yX8_signOf wsX8_signOf 0 0 [.int a0] u (mPi K) := by
  refine mCt.of (cc := cX8_signOf) (maxL := 1) (ret := (some .int)) (by decide) rfl (Nat.le_of_ble_eq_true rfl) ?_
  intro X hl hN F
  exact tX8_signOf F hN  h
/-! RoomMapper$Sheet.placeAfter(II)I -/
def bX4_placeAfter (this : Nat) (a1 : Int32) (a2 : Int32) (u : mSt) (K : Int32 → mSt → Prop) : Prop := bX4_leadFrom this a1 a2 u (fun r_3 u_2 => ((0 ≤ r_3 → K r_3 u_2) ∧ (¬ (0 ≤ r_3) → K a1 u_2)))
set_option maxRecDepth 100000 in
set_option maxHeartbeats 4000000 in
theorem tX4_placeAfter {X : mCx} {G : mG} {u0 : mSt} {K : Int32 → mSt → Prop} (F : mFx X G cX4_placeAfter wsX4_placeAfter RX4 "placeAfter" 1 22 (some .int) u0 (mPi K)) (hN : X.2.2.2.2.2.2.2.2.2.2.2.2.1 = 4) {this : Nat} {a1 : Int32} {a2 : Int32} {u : mSt} (kthis : mK u this = 5) (h : bX4_placeAfter this a1 a2 u K) : mZ X u 0 [(0, .ref (G.1 + this)), (1, .int a1), (2, .int a2)] [] := by
  refine mz_aload_n F dX4_placeAfter_0 rfl 0 rfl ?_
  refine mz_iload_n F dX4_placeAfter_1 rfl 1 rfl ?_
  refine mz_iload_n F dX4_placeAfter_2 rfl 2 rfl ?_
  refine mz_callV (As := [_, _]) (n := 2) F dX4_placeAfter_3 rfl kthis rfl rfl gX4_placeAfter_X4_leadFrom (by decide +kernel) (by decide) rfl (Nat.le_of_ble_eq_true rfl) (kX4_leadFrom _ G kthis h) (mz_kI fun r_3 u_2 h hx_1 => ?_)
  refine mz_istore_n (lv2 := [(3, .int r_3), (0, .ref (G.1 + this)), (1, .int a1), (2, .int a2)]) F dX4_placeAfter_6 rfl hN (by decide) rfl ?_
  refine mz_iload_n F dX4_placeAfter_7 rfl 0 rfl ?_
  refine mz_if_ge (tgt := 15) F dX4_placeAfter_8 (by decide) (fun c_4 => ?_) (fun c_4 => ?_)
  · replace h := h.1 c_4
    refine mz_iload_n F dX4_placeAfter_15 rfl 0 rfl ?_
    exact mz_iret F dX4_placeAfter_16 ⟨_, rfl, h⟩
  · replace h := h.2 c_4
    refine mz_iload_n F dX4_placeAfter_11 rfl 2 rfl ?_
    refine mz_goto (tgt := 16) F dX4_placeAfter_12 (by decide) ?_
    exact mz_iret F dX4_placeAfter_16 ⟨_, rfl, h⟩
set_option maxRecDepth 100000 in
theorem kX4_placeAfter (l : Launch) (G : mG) {u : mSt} {K : Int32 → mSt → Prop} {this : Nat} {a1 : Int32} {a2 : Int32} (kthis : mK u this = 5) (h : bX4_placeAfter this a1 a2 u K) : mCt l G yX4_placeAfter wsX4_placeAfter 1 22 [.ref (G.1 + this), .int a1, .int a2] u (mPi K) := by
  refine mCt.of (cc := cX4_placeAfter) (maxL := 4) (ret := (some .int)) (by decide) rfl (Nat.le_of_ble_eq_true rfl) ?_
  intro X hl hN F
  exact tX4_placeAfter F hN kthis h
/-! RoomMapper$Atlas.put(LRoomMapper$Sheet;III)V -/
theorem wiX0_put_4 : ∀ w ∈ u_ws RX4 TX4 5, w ∈ wsX0_put := by decide +kernel
theorem fX0_put_53 : mFld wsX0_put RX0 53 5 3 0 .int false := ⟨4, _, RX4, TX4, 5, tyX4, rfl, rfl, rfl, by decide, wiX0_put_4, tyX4_ok, nmX4, rfl, rfl, Or.inr ⟨"RoomMapper", nwF0_53⟩⟩
theorem mX0_put_iniX4_placeAfter : Cond.initialized yX4_placeAfter.cls ∈ wsX0_put := by decide +kernel
theorem mX0_put_imX4_placeAfter : Cond.instanceMethod yX4_placeAfter ∈ wsX0_put := by decide +kernel
theorem mX0_put_seX4_placeAfter : Cond.selects RX4 yX4_placeAfter yX4_placeAfter ∈ wsX0_put := by decide +kernel
theorem wiX0_put_0 : ∀ w ∈ u_ws RX0 TX0 6, w ∈ wsX0_put := by decide +kernel
theorem fX0_put_43 : mFld wsX0_put RX0 43 1 3 0 .int false := ⟨0, _, RX0, TX0, 6, tyX0, rfl, rfl, rfl, by decide, wiX0_put_0, tyX0_ok, nmX0, rfl, rfl, Or.inl ⟨by decide +kernel, fun _ => rfl⟩⟩
theorem fX0_put_17 : mFld wsX0_put RX0 17 1 1 11 (.array (.object "RoomMapper$Sheet")) false := ⟨0, _, RX0, TX0, 6, tyX0, rfl, rfl, rfl, by decide, wiX0_put_0, tyX0_ok, nmX0, rfl, rfl, Or.inl ⟨by decide +kernel, fun _ => rfl⟩⟩
theorem mX0_put_iniX4_become : Cond.initialized yX4_become.cls ∈ wsX0_put := by decide +kernel
theorem mX0_put_imX4_become : Cond.instanceMethod yX4_become ∈ wsX0_put := by decide +kernel
theorem mX0_put_seX4_become : Cond.selects RX4 yX4_become yX4_become ∈ wsX0_put := by decide +kernel
theorem mX0_put_iniX4_setLead : Cond.initialized yX4_setLead.cls ∈ wsX0_put := by decide +kernel
theorem mX0_put_imX4_setLead : Cond.instanceMethod yX4_setLead ∈ wsX0_put := by decide +kernel
theorem mX0_put_seX4_setLead : Cond.selects RX4 yX4_setLead yX4_setLead ∈ wsX0_put := by decide +kernel
theorem fX0_put_74 : mFld wsX0_put RX0 74 5 2 0 .int false := ⟨4, _, RX4, TX4, 5, tyX4, rfl, rfl, rfl, by decide, wiX0_put_4, tyX4_ok, nmX4, rfl, rfl, Or.inr ⟨"RoomMapper", nwF0_74⟩⟩
theorem mX0_put_iniX8_signOf : Cond.initialized yX8_signOf.cls ∈ wsX0_put := by decide +kernel
theorem mX0_put_stX8_signOf : Cond.static yX8_signOf ∈ wsX0_put := by decide +kernel
theorem mX0_put_iniX4_openPlace : Cond.initialized yX4_openPlace.cls ∈ wsX0_put := by decide +kernel
theorem mX0_put_imX4_openPlace : Cond.instanceMethod yX4_openPlace ∈ wsX0_put := by decide +kernel
theorem mX0_put_seX4_openPlace : Cond.selects RX4 yX4_openPlace yX4_openPlace ∈ wsX0_put := by decide +kernel
def bX0_put_71 (v2 : Int32) (v5 : Nat) (u : mSt) (K : mSt → Prop) : Prop := bX4_placeAfter v5 (mI u v5 3) v2 u (fun r_3 u_2 => (∀ u_4, u_4 = mpI u_2 v5 3 r_3 → K u_4))
set_option maxRecDepth 100000 in
set_option maxHeartbeats 4000000 in
theorem tX0_put_71 {X : mCx} {G : mG} {u0 : mSt} {K : mSt → Prop} (F : mFx X G cX0_put wsX0_put RX0 "put" 3 81 none u0 (mPv K)) (hN : X.2.2.2.2.2.2.2.2.2.2.2.2.1 = 6) {v2 : Int32} {v5 : Nat} {u : mSt} (kv5 : mK u v5 = 5) (h : bX0_put_71 v2 v5 u K) : mZ X u 71 [(2, .int v2), (5, .ref (G.1 + v5))] [] := by
  refine mz_aload F dX0_put_71 1 rfl ?_
  refine mz_aload F dX0_put_73 1 rfl ?_
  refine mz_aload F dX0_put_75 1 rfl ?_
  refine mz_getI F dX0_put_77 fX0_put_53 kv5 ?_
  refine mz_iload_n F dX0_put_80 rfl 0 rfl ?_
  refine mz_callVN (As := [_, _]) (n := 2) F dX0_put_81 rfl kv5 rfl rfl gX0_put_X4_placeAfter_n98 nwM0_98 mX0_put_iniX4_placeAfter mX0_put_imX4_placeAfter mX0_put_seX4_placeAfter (by decide +kernel) (by decide) rfl (Nat.le_of_ble_eq_true rfl) (kX4_placeAfter _ G kv5 h) (mz_kI fun r_3 u_2 h hx_1 => ?_)
  replace kv5 := hx_1.2.2 _ _ (by decide) kv5
  refine mz_putI F dX0_put_84 fX0_put_53 kv5 rfl rfl (fun u_4 eu_4 hxu_4 => ?_)
  replace h := h u_4 eu_4
  exact mz_vret F dX0_put_87 ⟨rfl, h⟩
def bX0_put (this : Nat) (a1 : Nat) (a2 : Int32) (a3 : Int32) (a4 : Int32) (u : mSt) (K : mSt → Prop) : Prop := (((mI u this 3) ≤ (150 : Int32) → (∃ q_1, mR u this 1 = some q_1 ∧ bX0_blank q_1 (mI u this 3) u (fun q_4 u_3 => (∀ u_5, u_5 = mpI u_3 this 3 ((mI u_3 this 3) + (1 : Int32)) → bX4_become q_4 a1 u_5 (fun u_7 => bX4_setLead q_4 (mI u_7 q_4 3) a2 a3 u_7 (fun u_9 => ((a3 = (mI u_9 q_4 2) → bX8_signOf a4 u_9 (fun r_12 u_11 => bX4_openPlace q_4 r_12 u_11 (fun u_14 => bX0_put_71 a2 q_4 u_14 K))) ∧ (¬ (a3 = (mI u_9 q_4 2)) → bX0_put_71 a2 q_4 u_9 K)))))))) ∧ (¬ ((mI u this 3) ≤ (150 : Int32)) → K u))
set_option maxRecDepth 100000 in
set_option maxHeartbeats 4000000 in
theorem tX0_put {X : mCx} {G : mG} {u0 : mSt} {K : mSt → Prop} (F : mFx X G cX0_put wsX0_put RX0 "put" 3 81 none u0 (mPv K)) (hN : X.2.2.2.2.2.2.2.2.2.2.2.2.1 = 6) {this : Nat} {a1 : Nat} {a2 : Int32} {a3 : Int32} {a4 : Int32} {u : mSt} (kthis : mK u this = 1) (ka1 : mK u a1 = 5) (h : bX0_put this a1 a2 a3 a4 u K) : mZ X u 0 [(0, .ref (G.1 + this)), (1, .ref (G.1 + a1)), (2, .int a2), (3, .int a3), (4, .int a4)] [] := by
  refine mz_aload_n F dX0_put_0 rfl 0 rfl ?_
  refine mz_getI F dX0_put_1 fX0_put_43 kthis ?_
  refine mz_sipush (v := 150) F dX0_put_4 (by decide) ?_
  refine mz_icmp_le (tgt := 11) F dX0_put_7 (by decide) (fun c_16 => ?_) (fun c_16 => ?_)
  · replace h := h.1 c_16
    refine mz_aload_n F dX0_put_11 rfl 0 rfl ?_
    obtain ⟨q_1, eq_1, h⟩ := h
    refine mz_getR F dX0_put_12 fX0_put_17 (by decide) kthis eq_1 (fun kq_1 => ?_)
    refine mz_aload_n F dX0_put_15 rfl 0 rfl ?_
    refine mz_getI F dX0_put_16 fX0_put_43 kthis ?_
    refine mz_callS (As := [_, _]) (n := 2) F dX0_put_19 rfl gX0_put_X0_blank (by decide +kernel) (by decide) rfl (Nat.le_of_ble_eq_true rfl) (kX0_blank _ G kq_1 h) (mz_kR fun q_4 u_3 kq_4 h hx_2 => ?_)
    replace kthis := hx_2.2.2 _ _ (by decide) kthis
    replace ka1 := hx_2.2.2 _ _ (by decide) ka1
    refine mz_astore (lv2 := [(5, .ref (G.1 + q_4)), (0, .ref (G.1 + this)), (1, .ref (G.1 + a1)), (2, .int a2), (3, .int a3), (4, .int a4)]) F dX0_put_22 hN (by decide) rfl ?_
    refine mz_aload_n F dX0_put_24 rfl 1 rfl ?_
    refine mz_dup F dX0_put_25 rfl ?_
    refine mz_getI F dX0_put_26 fX0_put_43 kthis ?_
    refine mz_iconst (v := 1) F dX0_put_29 (by decide) ?_
    refine mz_iadd F dX0_put_30 ?_
    refine mz_putI F dX0_put_31 fX0_put_43 kthis rfl rfl (fun u_5 eu_5 hxu_5 => ?_)
    replace h := h u_5 eu_5
    replace kq_4 := hxu_5.2.2 _ _ (by decide) kq_4
    replace ka1 := hxu_5.2.2 _ _ (by decide) ka1
    refine mz_aload F dX0_put_34 0 rfl ?_
    refine mz_aload_n F dX0_put_36 rfl 2 rfl ?_
    refine mz_callVN (As := [_]) (n := 1) F dX0_put_37 rfl kq_4 rfl rfl gX0_put_X4_become_n84 nwM0_84 mX0_put_iniX4_become mX0_put_imX4_become mX0_put_seX4_become (by decide +kernel) (by decide) rfl (Nat.le_of_ble_eq_true rfl) (kX4_become _ G kq_4 ka1 h) (mz_kV fun u_7 h hx_6 => ?_)
    replace kq_4 := hx_6.2.2 _ _ (by decide) kq_4
    refine mz_aload F dX0_put_40 0 rfl ?_
    refine mz_aload F dX0_put_42 0 rfl ?_
    refine mz_getI F dX0_put_44 fX0_put_53 kq_4 ?_
    refine mz_iload_n F dX0_put_47 rfl 3 rfl ?_
    refine mz_iload_n F dX0_put_48 rfl 4 rfl ?_
    refine mz_callVN (As := [_, _, _]) (n := 3) F dX0_put_49 rfl kq_4 rfl rfl gX0_put_X4_setLead_n88 nwM0_88 mX0_put_iniX4_setLead mX0_put_imX4_setLead mX0_put_seX4_setLead (by decide +kernel) (by decide) rfl (Nat.le_of_ble_eq_true rfl) (kX4_setLead _ G kq_4 h) (mz_kV fun u_9 h hx_8 => ?_)
    replace kq_4 := hx_8.2.2 _ _ (by decide) kq_4
    refine mz_iload_n F dX0_put_52 rfl 4 rfl ?_
    refine mz_aload F dX0_put_53 0 rfl ?_
    refine mz_getI F dX0_put_55 fX0_put_74 kq_4 ?_
    refine mz_icmp_ne (tgt := 71) F dX0_put_58 (by decide) (fun c_15 => ?_) (fun c_15 => ?_)
    · replace h := h.2 c_15
      refine mz_sub [3, 0] rfl ?_
      exact tX0_put_71 F hN kq_4 h
    · replace h := h.1 c_15
      refine mz_aload F dX0_put_61 0 rfl ?_
      refine mz_iload F dX0_put_63 5 rfl ?_
      refine mz_callSN (As := [_]) (n := 1) F dX0_put_65 rfl gX0_put_X8_signOf_n92 nwM0_92 mX0_put_iniX8_signOf mX0_put_stX8_signOf (by decide +kernel) (by decide) rfl (Nat.le_of_ble_eq_true rfl) (kX8_signOf _ G h) (mz_kI fun r_12 u_11 h hx_10 => ?_)
      replace kq_4 := hx_10.2.2 _ _ (by decide) kq_4
      refine mz_callVN (As := [_]) (n := 1) F dX0_put_68 rfl kq_4 rfl rfl gX0_put_X4_openPlace_n95 nwM0_95 mX0_put_iniX4_openPlace mX0_put_imX4_openPlace mX0_put_seX4_openPlace (by decide +kernel) (by decide) rfl (Nat.le_of_ble_eq_true rfl) (kX4_openPlace _ G kq_4 h) (mz_kV fun u_14 h hx_13 => ?_)
      replace kq_4 := hx_13.2.2 _ _ (by decide) kq_4
      refine mz_sub [3, 0] rfl ?_
      exact tX0_put_71 F hN kq_4 h
  · replace h := h.2 c_16
    exact mz_vret F dX0_put_10 ⟨rfl, h⟩
set_option maxRecDepth 100000 in
theorem kX0_put (l : Launch) (G : mG) {u : mSt} {K : mSt → Prop} {this : Nat} {a1 : Nat} {a2 : Int32} {a3 : Int32} {a4 : Int32} (kthis : mK u this = 1) (ka1 : mK u a1 = 5) (h : bX0_put this a1 a2 a3 a4 u K) : mCt l G yX0_put wsX0_put 3 81 [.ref (G.1 + this), .ref (G.1 + a1), .int a2, .int a3, .int a4] u (mPv K) := by
  refine mCt.of (cc := cX0_put) (maxL := 6) (ret := none) (by decide) rfl (Nat.le_of_ble_eq_true rfl) ?_
  intro X hl hN F
  exact tX0_put F hN kthis ka1 h
/-! RoomMapper.bumpOf(I)I -/
def bX8_bumpOf (a0 : Int32) (u : mSt) (K : Int32 → mSt → Prop) : Prop := K (a0 / (8 : Int32)) u
set_option maxRecDepth 100000 in
set_option maxHeartbeats 4000000 in
theorem tX8_bumpOf {X : mCx} {G : mG} {u0 : mSt} {K : Int32 → mSt → Prop} (F : mFx X G cX8_bumpOf wsX8_bumpOf RX8 "bumpOf" 0 0 (some .int) u0 (mPi K)) (hN : X.2.2.2.2.2.2.2.2.2.2.2.2.1 = 1) {a0 : Int32} {u : mSt} (h : bX8_bumpOf a0 u K) : mZ X u 0 [(0, .int a0)] [] := by
  refine mz_iload_n F dX8_bumpOf_0 rfl 0 rfl ?_
  refine mz_bipush (v := 8) F dX8_bumpOf_1 (by decide) ?_
  refine mz_idiv F dX8_bumpOf_3 (by decide) ?_
  exact mz_iret F dX8_bumpOf_4 ⟨_, rfl, h⟩
set_option maxRecDepth 100000 in
theorem kX8_bumpOf (l : Launch) (G : mG) {u : mSt} {K : Int32 → mSt → Prop} {a0 : Int32} (h : bX8_bumpOf a0 u K) : mCt l G yX8_bumpOf wsX8_bumpOf 0 0 [.int a0] u (mPi K) := by
  refine mCt.of (cc := cX8_bumpOf) (maxL := 1) (ret := (some .int)) (by decide) rfl (Nat.le_of_ble_eq_true rfl) ?_
  intro X hl hN F
  exact tX8_bumpOf F hN  h
/-! RoomMapper.pebbleOf(I)I -/
def bX8_pebbleOf (a0 : Int32) (u : mSt) (K : Int32 → mSt → Prop) : Prop := K (a0 - a0 / (2 : Int32) * (2 : Int32)) u
set_option maxRecDepth 100000 in
set_option maxHeartbeats 4000000 in
theorem tX8_pebbleOf {X : mCx} {G : mG} {u0 : mSt} {K : Int32 → mSt → Prop} (F : mFx X G cX8_pebbleOf wsX8_pebbleOf RX8 "pebbleOf" 0 0 (some .int) u0 (mPi K)) (hN : X.2.2.2.2.2.2.2.2.2.2.2.2.1 = 1) {a0 : Int32} {u : mSt} (h : bX8_pebbleOf a0 u K) : mZ X u 0 [(0, .int a0)] [] := by
  refine mz_iload_n F dX8_pebbleOf_0 rfl 0 rfl ?_
  refine mz_iconst (v := 2) F dX8_pebbleOf_1 (by decide) ?_
  refine mz_irem F dX8_pebbleOf_2 (by decide) ?_
  exact mz_iret F dX8_pebbleOf_3 ⟨_, rfl, h⟩
set_option maxRecDepth 100000 in
theorem kX8_pebbleOf (l : Launch) (G : mG) {u : mSt} {K : Int32 → mSt → Prop} {a0 : Int32} (h : bX8_pebbleOf a0 u K) : mCt l G yX8_pebbleOf wsX8_pebbleOf 0 0 [.int a0] u (mPi K) := by
  refine mCt.of (cc := cX8_pebbleOf) (maxL := 1) (ret := (some .int)) (by decide) rfl (Nat.le_of_ble_eq_true rfl) ?_
  intro X hl hN F
  exact tX8_pebbleOf F hN  h
/-! RoomMapper$Atlas.guess(LRoomMapper$Sheet;II)V -/
theorem wiX0_guess_4 : ∀ w ∈ u_ws RX4 TX4 5, w ∈ wsX0_guess := by decide +kernel
theorem fX0_guess_74 : mFld wsX0_guess RX0 74 5 2 0 .int false := ⟨4, _, RX4, TX4, 5, tyX4, rfl, rfl, rfl, by decide, wiX0_guess_4, tyX4_ok, nmX4, rfl, rfl, Or.inr ⟨"RoomMapper", nwF0_74⟩⟩
theorem wiX0_guess_0 : ∀ w ∈ u_ws RX0 TX0 6, w ∈ wsX0_guess := by decide +kernel
theorem fX0_guess_20 : mFld wsX0_guess RX0 20 1 4 0 .int false := ⟨0, _, RX0, TX0, 6, tyX0, rfl, rfl, rfl, by decide, wiX0_guess_0, tyX0_ok, nmX0, rfl, rfl, Or.inl ⟨by decide +kernel, fun _ => rfl⟩⟩
theorem mX0_guess_iniX8_pebbleOf : Cond.initialized yX8_pebbleOf.cls ∈ wsX0_guess := by decide +kernel
theorem mX0_guess_stX8_pebbleOf : Cond.static yX8_pebbleOf ∈ wsX0_guess := by decide +kernel
theorem mX0_guess_iniX4_sightAt : Cond.initialized yX4_sightAt.cls ∈ wsX0_guess := by decide +kernel
theorem mX0_guess_imX4_sightAt : Cond.instanceMethod yX4_sightAt ∈ wsX0_guess := by decide +kernel
theorem mX0_guess_seX4_sightAt : Cond.selects RX4 yX4_sightAt yX4_sightAt ∈ wsX0_guess := by decide +kernel
theorem mX0_guess_iniX8_bumpOf : Cond.initialized yX8_bumpOf.cls ∈ wsX0_guess := by decide +kernel
theorem mX0_guess_stX8_bumpOf : Cond.static yX8_bumpOf ∈ wsX0_guess := by decide +kernel
def bX0_guess_50 (v0 : Nat) (v1 : Nat) (v2 : Int32) (v3 : Int32) (v4 : Int32) (u : mSt) (K : mSt → Prop) (KL21 : Nat → Nat → Int32 → Int32 → Int32 → mSt → Prop) : Prop := (∀ x_1, x_1 = v4 + (1 : Int32) → KL21 v0 v1 v2 v3 x_1 u)
set_option maxRecDepth 100000 in
set_option maxHeartbeats 4000000 in
theorem tX0_guess_50 {X : mCx} {G : mG} {u0 : mSt} {K : mSt → Prop} {KL21 : Nat → Nat → Int32 → Int32 → Int32 → mSt → Prop} (F : mFx X G cX0_guess wsX0_guess RX0 "guess" 4 106 none u0 (mPv K)) (hN : X.2.2.2.2.2.2.2.2.2.2.2.2.1 = 5) (hL21 : ∀ {v0 : Nat} {v1 : Nat} {v2 : Int32} {v3 : Int32} {v4 : Int32} {u : mSt}, mK u v0 = 1 → mK u v1 = 5 → KL21 v0 v1 v2 v3 v4 u → mZ X u 21 [(0, .ref (G.1 + v0)), (1, .ref (G.1 + v1)), (2, .int v2), (3, .int v3), (4, .int v4)] []) {v0 : Nat} {v1 : Nat} {v2 : Int32} {v3 : Int32} {v4 : Int32} {u : mSt} (kv0 : mK u v0 = 1) (kv1 : mK u v1 = 5) (h : bX0_guess_50 v0 v1 v2 v3 v4 u K KL21) : mZ X u 50 [(0, .ref (G.1 + v0)), (1, .ref (G.1 + v1)), (2, .int v2), (3, .int v3), (4, .int v4)] [] := by
  obtain ⟨x_1, ex_1⟩ : ∃ y : Int32, y = v4 + (1 : Int32) := ⟨_, rfl⟩
  replace h := h x_1 ex_1
  refine mz_iinc (v := x_1) (lv2 := [(4, .int x_1), (0, .ref (G.1 + v0)), (1, .ref (G.1 + v1)), (2, .int v2), (3, .int v3)]) F dX0_guess_50 4 rfl (by rw [ex_1]; rfl) hN (by decide) rfl ?_
  refine mz_goto (tgt := 21) F dX0_guess_53 (by decide) ?_
  refine mz_sub [1, 2, 3, 4, 0] rfl ?_
  exact hL21 kv0 kv1 h
def bX0_guess_21 : Nat → Nat → Nat → Int32 → Int32 → Int32 → mSt → (mSt → Prop) → Prop
  | 0, _, _, _, _, _, _, _ => False
  | n + 1, v0, v1, v2, v3, v4, u, K => (((mI u v1 2) ≤ v4 → (((mI u v0 4) ≤ (mI u v1 2) → K u) ∧ (¬ ((mI u v0 4) ≤ (mI u v1 2)) → bX8_pebbleOf v3 u (fun r_3 u_2 => ((r_3 = 0 → bX0_put v0 v1 v2 (mI u_2 v1 2) v3 u_2 (fun u_5 => K u_5)) ∧ (¬ (r_3 = 0) → K u_2)))))) ∧ (¬ ((mI u v1 2) ≤ v4) → bX4_sightAt v1 v4 (0 : Int32) u (fun r_10 u_9 => ((r_10 = v3 → bX0_put v0 v1 v2 v4 v3 u_9 (fun u_12 => bX0_guess_50 v0 v1 v2 v3 v4 u_12 K (fun z0 z1 z2 z3 z4 z5 => bX0_guess_21 n z0 z1 z2 z3 z4 z5 K))) ∧ (¬ (r_10 = v3) → bX0_guess_50 v0 v1 v2 v3 v4 u_9 K (fun z0 z1 z2 z3 z4 z5 => bX0_guess_21 n z0 z1 z2 z3 z4 z5 K))))))
set_option maxRecDepth 100000 in
set_option maxHeartbeats 4000000 in
theorem tX0_guess_21 {X : mCx} {G : mG} {u0 : mSt} {K : mSt → Prop} (F : mFx X G cX0_guess wsX0_guess RX0 "guess" 4 106 none u0 (mPv K)) (hN : X.2.2.2.2.2.2.2.2.2.2.2.2.1 = 5) : ∀ (n : Nat) {v0 : Nat} {v1 : Nat} {v2 : Int32} {v3 : Int32} {v4 : Int32} {u : mSt}, mK u v0 = 1 → mK u v1 = 5 → bX0_guess_21 n v0 v1 v2 v3 v4 u K → mZ X u 21 [(0, .ref (G.1 + v0)), (1, .ref (G.1 + v1)), (2, .int v2), (3, .int v3), (4, .int v4)] [] := by
  intro n
  induction n with
  | zero => intro v0 v1 v2 v3 v4 u kv0 kv1 h; exact False.elim h
  | succ n ih =>
    intro v0 v1 v2 v3 v4 u kv0 kv1 h
    refine mz_iload F dX0_guess_21 4 rfl ?_
    refine mz_aload_n F dX0_guess_23 rfl 1 rfl ?_
    refine mz_getI F dX0_guess_24 fX0_guess_74 kv1 ?_
    refine mz_icmp_ge (tgt := 56) F dX0_guess_27 (by decide) (fun c_14 => ?_) (fun c_14 => ?_)
    · replace h := h.1 c_14
      refine mz_aload_n F dX0_guess_56 rfl 1 rfl ?_
      refine mz_getI F dX0_guess_57 fX0_guess_74 kv1 ?_
      refine mz_aload_n F dX0_guess_60 rfl 0 rfl ?_
      refine mz_getI F dX0_guess_61 fX0_guess_20 kv0 ?_
      refine mz_icmp_ge (tgt := 85) F dX0_guess_64 (by decide) (fun c_7 => ?_) (fun c_7 => ?_)
      · replace h := h.1 c_7
        exact mz_vret F dX0_guess_85 ⟨rfl, h⟩
      · replace h := h.2 c_7
        refine mz_iload_n F dX0_guess_67 rfl 3 rfl ?_
        refine mz_callSN (As := [_]) (n := 1) F dX0_guess_68 rfl gX0_guess_X8_pebbleOf_n81 nwM0_81 mX0_guess_iniX8_pebbleOf mX0_guess_stX8_pebbleOf (by decide +kernel) (by decide) rfl (Nat.le_of_ble_eq_true rfl) (kX8_pebbleOf _ G h) (mz_kI fun r_3 u_2 h hx_1 => ?_)
        replace kv0 := hx_1.2.2 _ _ (by decide) kv0
        replace kv1 := hx_1.2.2 _ _ (by decide) kv1
        refine mz_if_ne (tgt := 85) F dX0_guess_71 (by decide) (fun c_6 => ?_) (fun c_6 => ?_)
        · replace h := h.2 c_6
          exact mz_vret F dX0_guess_85 ⟨rfl, h⟩
        · replace h := h.1 c_6
          refine mz_aload_n F dX0_guess_74 rfl 0 rfl ?_
          refine mz_aload_n F dX0_guess_75 rfl 1 rfl ?_
          refine mz_iload_n F dX0_guess_76 rfl 2 rfl ?_
          refine mz_aload_n F dX0_guess_77 rfl 1 rfl ?_
          refine mz_getI F dX0_guess_78 fX0_guess_74 kv1 ?_
          refine mz_iload_n F dX0_guess_81 rfl 3 rfl ?_
          refine mz_callV (As := [_, _, _, _]) (n := 4) F dX0_guess_82 rfl kv0 rfl rfl gX0_guess_X0_put (by decide +kernel) (by decide) rfl (Nat.le_of_ble_eq_true rfl) (kX0_put _ G kv0 kv1 h) (mz_kV fun u_5 h hx_4 => ?_)
          exact mz_vret F dX0_guess_85 ⟨rfl, h⟩
    · replace h := h.2 c_14
      refine mz_aload_n F dX0_guess_30 rfl 1 rfl ?_
      refine mz_iload F dX0_guess_31 4 rfl ?_
      refine mz_iconst (v := 0) F dX0_guess_33 (by decide) ?_
      refine mz_callVN (As := [_, _]) (n := 2) F dX0_guess_34 rfl kv1 rfl rfl gX0_guess_X4_sightAt_n77 nwM0_77 mX0_guess_iniX4_sightAt mX0_guess_imX4_sightAt mX0_guess_seX4_sightAt (by decide +kernel) (by decide) rfl (Nat.le_of_ble_eq_true rfl) (kX4_sightAt _ G kv1 h) (mz_kI fun r_10 u_9 h hx_8 => ?_)
      replace kv0 := hx_8.2.2 _ _ (by decide) kv0
      replace kv1 := hx_8.2.2 _ _ (by decide) kv1
      refine mz_iload_n F dX0_guess_37 rfl 3 rfl ?_
      refine mz_icmp_ne (tgt := 50) F dX0_guess_38 (by decide) (fun c_13 => ?_) (fun c_13 => ?_)
      · replace h := h.2 c_13
        refine mz_sub [0, 1, 2, 3, 4] rfl ?_
        exact tX0_guess_50 F hN (fun k0 k1 h => ih k0 k1 h) kv0 kv1 h
      · replace h := h.1 c_13
        refine mz_aload_n F dX0_guess_41 rfl 0 rfl ?_
        refine mz_aload_n F dX0_guess_42 rfl 1 rfl ?_
        refine mz_iload_n F dX0_guess_43 rfl 2 rfl ?_
        refine mz_iload F dX0_guess_44 4 rfl ?_
        refine mz_iload_n F dX0_guess_46 rfl 3 rfl ?_
        refine mz_callV (As := [_, _, _, _]) (n := 4) F dX0_guess_47 rfl kv0 rfl rfl gX0_guess_X0_put (by decide +kernel) (by decide) rfl (Nat.le_of_ble_eq_true rfl) (kX0_put _ G kv0 kv1 h) (mz_kV fun u_12 h hx_11 => ?_)
        replace kv0 := hx_11.2.2 _ _ (by decide) kv0
        replace kv1 := hx_11.2.2 _ _ (by decide) kv1
        refine mz_sub [0, 1, 2, 3, 4] rfl ?_
        exact tX0_guess_50 F hN (fun k0 k1 h => ih k0 k1 h) kv0 kv1 h
def bX0_guess (this : Nat) (a1 : Nat) (a2 : Int32) (a3 : Int32) (u : mSt) (K : mSt → Prop) : Prop := bX8_bumpOf a3 u (fun r_3 u_2 => ((r_3 = (1 : Int32) → bX0_put this a1 a2 (-2 : Int32) a3 u_2 (fun u_5 => K u_5)) ∧ (¬ (r_3 = (1 : Int32)) → (∃ n9, bX0_guess_21 n9 this a1 a2 a3 (0 : Int32) u_2 K))))
set_option maxRecDepth 100000 in
set_option maxHeartbeats 4000000 in
theorem tX0_guess {X : mCx} {G : mG} {u0 : mSt} {K : mSt → Prop} (F : mFx X G cX0_guess wsX0_guess RX0 "guess" 4 106 none u0 (mPv K)) (hN : X.2.2.2.2.2.2.2.2.2.2.2.2.1 = 5) {this : Nat} {a1 : Nat} {a2 : Int32} {a3 : Int32} {u : mSt} (kthis : mK u this = 1) (ka1 : mK u a1 = 5) (h : bX0_guess this a1 a2 a3 u K) : mZ X u 0 [(0, .ref (G.1 + this)), (1, .ref (G.1 + a1)), (2, .int a2), (3, .int a3)] [] := by
  refine mz_iload_n F dX0_guess_0 rfl 3 rfl ?_
  refine mz_callSN (As := [_]) (n := 1) F dX0_guess_1 rfl gX0_guess_X8_bumpOf_n70 nwM0_70 mX0_guess_iniX8_bumpOf mX0_guess_stX8_bumpOf (by decide +kernel) (by decide) rfl (Nat.le_of_ble_eq_true rfl) (kX8_bumpOf _ G h) (mz_kI fun r_3 u_2 h hx_1 => ?_)
  replace kthis := hx_1.2.2 _ _ (by decide) kthis
  replace ka1 := hx_1.2.2 _ _ (by decide) ka1
  refine mz_iconst (v := 1) F dX0_guess_4 (by decide) ?_
  refine mz_icmp_ne (tgt := 18) F dX0_guess_5 (by decide) (fun c_6 => ?_) (fun c_6 => ?_)
  · replace h := h.2 c_6
    refine mz_iconst (v := 0) F dX0_guess_18 (by decide) ?_
    refine mz_istore (lv2 := [(4, .int (0 : Int32)), (0, .ref (G.1 + this)), (1, .ref (G.1 + a1)), (2, .int a2), (3, .int a3)]) F dX0_guess_19 hN (by decide) rfl ?_
    refine mz_sub [1, 2, 3, 4, 0] rfl ?_
    obtain ⟨n9, h⟩ := h
    exact tX0_guess_21 F hN n9 kthis ka1 h
  · replace h := h.1 c_6
    refine mz_aload_n F dX0_guess_8 rfl 0 rfl ?_
    refine mz_aload_n F dX0_guess_9 rfl 1 rfl ?_
    refine mz_iload_n F dX0_guess_10 rfl 2 rfl ?_
    refine mz_bipush (v := (-2)) F dX0_guess_11 (by decide) ?_
    refine mz_iload_n F dX0_guess_13 rfl 3 rfl ?_
    refine mz_callV (As := [_, _, _, _]) (n := 4) F dX0_guess_14 rfl kthis rfl rfl gX0_guess_X0_put (by decide +kernel) (by decide) rfl (Nat.le_of_ble_eq_true rfl) (kX0_put _ G kthis ka1 h) (mz_kV fun u_5 h hx_4 => ?_)
    exact mz_vret F dX0_guess_17 ⟨rfl, h⟩
set_option maxRecDepth 100000 in
theorem kX0_guess (l : Launch) (G : mG) {u : mSt} {K : mSt → Prop} {this : Nat} {a1 : Nat} {a2 : Int32} {a3 : Int32} (kthis : mK u this = 1) (ka1 : mK u a1 = 5) (h : bX0_guess this a1 a2 a3 u K) : mCt l G yX0_guess wsX0_guess 4 106 [.ref (G.1 + this), .ref (G.1 + a1), .int a2, .int a3] u (mPv K) := by
  refine mCt.of (cc := cX0_guess) (maxL := 5) (ret := none) (by decide) rfl (Nat.le_of_ble_eq_true rfl) ?_
  intro X hl hN F
  exact tX0_guess F hN kthis ka1 h
/-! RoomMapper$Atlas.spread(LRoomMapper$Sheet;II)V -/
theorem wiX0_spread_4 : ∀ w ∈ u_ws RX4 TX4 5, w ∈ wsX0_spread := by decide +kernel
theorem fX0_spread_53 : mFld wsX0_spread RX0 53 5 3 0 .int false := ⟨4, _, RX4, TX4, 5, tyX4, rfl, rfl, rfl, by decide, wiX0_spread_4, tyX4_ok, nmX4, rfl, rfl, Or.inr ⟨"RoomMapper", nwF0_53⟩⟩
theorem mX0_spread_iniX4_sightAfter : Cond.initialized yX4_sightAfter.cls ∈ wsX0_spread := by decide +kernel
theorem mX0_spread_imX4_sightAfter : Cond.instanceMethod yX4_sightAfter ∈ wsX0_spread := by decide +kernel
theorem mX0_spread_seX4_sightAfter : Cond.selects RX4 yX4_sightAfter yX4_sightAfter ∈ wsX0_spread := by decide +kernel
theorem mX0_spread_iniX4_leadFrom : Cond.initialized yX4_leadFrom.cls ∈ wsX0_spread := by decide +kernel
theorem mX0_spread_imX4_leadFrom : Cond.instanceMethod yX4_leadFrom ∈ wsX0_spread := by decide +kernel
theorem mX0_spread_seX4_leadFrom : Cond.selects RX4 yX4_leadFrom yX4_leadFrom ∈ wsX0_spread := by decide +kernel
def bX0_spread (this : Nat) (a1 : Nat) (a2 : Int32) (a3 : Int32) (u : mSt) (K : mSt → Prop) : Prop := bX4_sightAfter a1 (mI u a1 3) a2 u (fun r_3 u_2 => ((r_3 = a3 → bX4_leadFrom a1 (mI u_2 a1 3) a2 u_2 (fun r_9 u_8 => bX0_put this a1 a2 r_9 a3 u_8 (fun u_11 => K u_11))) ∧ (¬ (r_3 = a3) → ((r_3 = (-3 : Int32) → bX0_guess this a1 a2 a3 u_2 (fun u_5 => K u_5)) ∧ (¬ (r_3 = (-3 : Int32)) → K u_2)))))
set_option maxRecDepth 100000 in
set_option maxHeartbeats 4000000 in
theorem tX0_spread {X : mCx} {G : mG} {u0 : mSt} {K : mSt → Prop} (F : mFx X G cX0_spread wsX0_spread RX0 "spread" 5 130 none u0 (mPv K)) (hN : X.2.2.2.2.2.2.2.2.2.2.2.2.1 = 5) {this : Nat} {a1 : Nat} {a2 : Int32} {a3 : Int32} {u : mSt} (kthis : mK u this = 1) (ka1 : mK u a1 = 5) (h : bX0_spread this a1 a2 a3 u K) : mZ X u 0 [(0, .ref (G.1 + this)), (1, .ref (G.1 + a1)), (2, .int a2), (3, .int a3)] [] := by
  refine mz_aload_n F dX0_spread_0 rfl 1 rfl ?_
  refine mz_aload_n F dX0_spread_1 rfl 1 rfl ?_
  refine mz_getI F dX0_spread_2 fX0_spread_53 ka1 ?_
  refine mz_iload_n F dX0_spread_5 rfl 2 rfl ?_
  refine mz_callVN (As := [_, _]) (n := 2) F dX0_spread_6 rfl ka1 rfl rfl gX0_spread_X4_sightAfter_n56 nwM0_56 mX0_spread_iniX4_sightAfter mX0_spread_imX4_sightAfter mX0_spread_seX4_sightAfter (by decide +kernel) (by decide) rfl (Nat.le_of_ble_eq_true rfl) (kX4_sightAfter _ G ka1 h) (mz_kI fun r_3 u_2 h hx_1 => ?_)
  replace kthis := hx_1.2.2 _ _ (by decide) kthis
  replace ka1 := hx_1.2.2 _ _ (by decide) ka1
  refine mz_istore (lv2 := [(4, .int r_3), (0, .ref (G.1 + this)), (1, .ref (G.1 + a1)), (2, .int a2), (3, .int a3)]) F dX0_spread_9 hN (by decide) rfl ?_
  refine mz_iload F dX0_spread_11 0 rfl ?_
  refine mz_iload_n F dX0_spread_13 rfl 4 rfl ?_
  refine mz_icmp_ne (tgt := 36) F dX0_spread_14 (by decide) (fun c_12 => ?_) (fun c_12 => ?_)
  · replace h := h.2 c_12
    refine mz_iload F dX0_spread_36 0 rfl ?_
    refine mz_bipush (v := (-3)) F dX0_spread_38 (by decide) ?_
    refine mz_icmp_ne (tgt := 50) F dX0_spread_40 (by decide) (fun c_6 => ?_) (fun c_6 => ?_)
    · replace h := h.2 c_6
      exact mz_vret F dX0_spread_50 ⟨rfl, h⟩
    · replace h := h.1 c_6
      refine mz_aload_n F dX0_spread_43 rfl 1 rfl ?_
      refine mz_aload_n F dX0_spread_44 rfl 2 rfl ?_
      refine mz_iload_n F dX0_spread_45 rfl 3 rfl ?_
      refine mz_iload_n F dX0_spread_46 rfl 4 rfl ?_
      refine mz_callV (As := [_, _, _]) (n := 3) F dX0_spread_47 rfl kthis rfl rfl gX0_spread_X0_guess (by decide +kernel) (by decide) rfl (Nat.le_of_ble_eq_true rfl) (kX0_guess _ G kthis ka1 h) (mz_kV fun u_5 h hx_4 => ?_)
      exact mz_vret F dX0_spread_50 ⟨rfl, h⟩
  · replace h := h.1 c_12
    refine mz_aload_n F dX0_spread_17 rfl 1 rfl ?_
    refine mz_aload_n F dX0_spread_18 rfl 2 rfl ?_
    refine mz_iload_n F dX0_spread_19 rfl 3 rfl ?_
    refine mz_aload_n F dX0_spread_20 rfl 2 rfl ?_
    refine mz_aload_n F dX0_spread_21 rfl 2 rfl ?_
    refine mz_getI F dX0_spread_22 fX0_spread_53 ka1 ?_
    refine mz_iload_n F dX0_spread_25 rfl 3 rfl ?_
    refine mz_callVN (As := [_, _]) (n := 2) F dX0_spread_26 rfl ka1 rfl rfl gX0_spread_X4_leadFrom_n60 nwM0_60 mX0_spread_iniX4_leadFrom mX0_spread_imX4_leadFrom mX0_spread_seX4_leadFrom (by decide +kernel) (by decide) rfl (Nat.le_of_ble_eq_true rfl) (kX4_leadFrom _ G ka1 h) (mz_kI fun r_9 u_8 h hx_7 => ?_)
    replace ka1 := hx_7.2.2 _ _ (by decide) ka1
    replace kthis := hx_7.2.2 _ _ (by decide) kthis
    refine mz_iload_n F dX0_spread_29 rfl 4 rfl ?_
    refine mz_callV (As := [_, _, _, _]) (n := 4) F dX0_spread_30 rfl kthis rfl rfl gX0_spread_X0_put (by decide +kernel) (by decide) rfl (Nat.le_of_ble_eq_true rfl) (kX0_put _ G kthis ka1 h) (mz_kV fun u_11 h hx_10 => ?_)
    refine mz_goto (tgt := 50) F dX0_spread_33 (by decide) ?_
    exact mz_vret F dX0_spread_50 ⟨rfl, h⟩
set_option maxRecDepth 100000 in
theorem kX0_spread (l : Launch) (G : mG) {u : mSt} {K : mSt → Prop} {this : Nat} {a1 : Nat} {a2 : Int32} {a3 : Int32} (kthis : mK u this = 1) (ka1 : mK u a1 = 5) (h : bX0_spread this a1 a2 a3 u K) : mCt l G yX0_spread wsX0_spread 5 130 [.ref (G.1 + this), .ref (G.1 + a1), .int a2, .int a3] u (mPv K) := by
  refine mCt.of (cc := cX0_spread) (maxL := 5) (ret := none) (by decide) rfl (Nat.le_of_ble_eq_true rfl) ?_
  intro X hl hN F
  exact tX0_spread F hN kthis ka1 h
