theorem nwM1_32 : Cond.methodLinkNest RX1 32 yX8_standOf "RoomMapper" ∈ tables_1 := by decide +kernel
theorem nwM1_43 : Cond.methodLinkNest RX1 43 yX8_sightOf "RoomMapper" ∈ tables_1 := by decide +kernel
theorem nwM1_39 : Cond.methodLinkNest RX1 39 yX8_cellOf "RoomMapper" ∈ tables_1 := by decide +kernel
theorem nwM1_54 : Cond.methodLinkNest RX1 54 yX8_turnOf "RoomMapper" ∈ tables_1 := by decide +kernel
theorem nwM1_57 : Cond.methodLinkNest RX1 57 yX8_switchOf "RoomMapper" ∈ tables_1 := by decide +kernel
/-! RoomMapper$Atlas.advance(II)V -/
theorem wiX0_advance_0 : ∀ w ∈ u_ws RX0 TX0 6, w ∈ wsX0_advance := by decide +kernel
theorem fX0_advance_28 : mFld wsX0_advance RX0 28 1 2 0 .int false := ⟨0, _, RX0, TX0, 6, tyX0, rfl, rfl, rfl, by decide, wiX0_advance_0, tyX0_ok, nmX0, rfl, rfl, Or.inl ⟨by decide +kernel, fun _ => rfl⟩⟩
theorem fX0_advance_24 : mFld wsX0_advance RX0 24 1 5 0 .boolean false := ⟨0, _, RX0, TX0, 6, tyX0, rfl, rfl, rfl, by decide, wiX0_advance_0, tyX0_ok, nmX0, rfl, rfl, Or.inl ⟨by decide +kernel, fun _ => rfl⟩⟩
theorem fX0_advance_43 : mFld wsX0_advance RX0 43 1 3 0 .int false := ⟨0, _, RX0, TX0, 6, tyX0, rfl, rfl, rfl, by decide, wiX0_advance_0, tyX0_ok, nmX0, rfl, rfl, Or.inl ⟨by decide +kernel, fun _ => rfl⟩⟩
theorem fX0_advance_11 : mFld wsX0_advance RX0 11 1 0 11 (.array (.object "RoomMapper$Sheet")) false := ⟨0, _, RX0, TX0, 6, tyX0, rfl, rfl, rfl, by decide, wiX0_advance_0, tyX0_ok, nmX0, rfl, rfl, Or.inl ⟨by decide +kernel, fun _ => rfl⟩⟩
theorem fX0_advance_17 : mFld wsX0_advance RX0 17 1 1 11 (.array (.object "RoomMapper$Sheet")) false := ⟨0, _, RX0, TX0, 6, tyX0, rfl, rfl, rfl, by decide, wiX0_advance_0, tyX0_ok, nmX0, rfl, rfl, Or.inl ⟨by decide +kernel, fun _ => rfl⟩⟩
def bX0_advance_103 (w0 : Nat) (w1 : Int32) (u : mSt) (K : mSt → Prop) : Prop := (∀ u_1, u_1 = mpI u w0 2 w1 → K u_1)
set_option maxRecDepth 100000 in
set_option maxHeartbeats 4000000 in
theorem tX0_advance_103 {X : mCx} {G : mG} {u0 : mSt} {K : mSt → Prop} (F : mFx X G cX0_advance wsX0_advance RX0 "advance" 6 154 none u0 (mPv K)) (hN : X.2.2.2.2.2.2.2.2.2.2.2.2.1 = 4) {w0 : Nat} {w1 : Int32} {u : mSt} (kw0 : mK u w0 = 1) (h : bX0_advance_103 w0 w1 u K) : mZ X u 103 [] [.int w1, .ref (G.1 + w0)] := by
  refine mz_putI F dX0_advance_103 fX0_advance_28 kw0 rfl rfl (fun u_1 eu_1 hxu_1 => ?_)
  replace h := h u_1 eu_1
  exact mz_vret F dX0_advance_106 ⟨rfl, h⟩
def bX0_advance_84 (v0 : Nat) (w0 : Nat) (w1 : Int32) (u : mSt) (K : mSt → Prop) : Prop := ((w1 = 0 ∨ w1 = 1) ∧ (∀ u_1, u_1 = mpI u w0 5 w1 → (((mI u_1 v0 5) = 0 → bX0_advance_103 v0 (mI u_1 v0 3) u_1 K) ∧ (¬ ((mI u_1 v0 5) = 0) → bX0_advance_103 v0 (0 : Int32) u_1 K))))
set_option maxRecDepth 100000 in
set_option maxHeartbeats 4000000 in
theorem tX0_advance_84 {X : mCx} {G : mG} {u0 : mSt} {K : mSt → Prop} (F : mFx X G cX0_advance wsX0_advance RX0 "advance" 6 154 none u0 (mPv K)) (hN : X.2.2.2.2.2.2.2.2.2.2.2.2.1 = 4) {v0 : Nat} {w0 : Nat} {w1 : Int32} {u : mSt} (kv0 : mK u v0 = 1) (kw0 : mK u w0 = 1) (h : bX0_advance_84 v0 w0 w1 u K) : mZ X u 84 [(0, .ref (G.1 + v0))] [.int w1, .ref (G.1 + w0)] := by
  obtain ⟨b_2, h⟩ := h
  refine mz_putI F dX0_advance_84 fX0_advance_24 kw0 (mbn b_2) (mbf b_2) (fun u_1 eu_1 hxu_1 => ?_)
  replace h := h u_1 eu_1
  replace kv0 := hxu_1.2.2 _ _ (by decide) kv0
  refine mz_aload_n F dX0_advance_87 rfl 0 rfl ?_
  refine mz_aload_n F dX0_advance_88 rfl 0 rfl ?_
  refine mz_getI F dX0_advance_89 fX0_advance_24 kv0 ?_
  refine mz_if_eq (tgt := 99) F dX0_advance_92 (by decide) (fun c_3 => ?_) (fun c_3 => ?_)
  · replace h := h.1 c_3
    refine mz_aload_n F dX0_advance_99 rfl 0 rfl ?_
    refine mz_getI F dX0_advance_100 fX0_advance_43 kv0 ?_
    refine mz_sub [] rfl ?_
    exact tX0_advance_103 F hN kv0 h
  · replace h := h.2 c_3
    refine mz_iconst (v := 0) F dX0_advance_95 (by decide) ?_
    refine mz_goto (tgt := 103) F dX0_advance_96 (by decide) ?_
    refine mz_sub [] rfl ?_
    exact tX0_advance_103 F hN kv0 h
def bX0_advance_79 (v0 : Nat) (w0 : Nat) (u : mSt) (K : mSt → Prop) : Prop := bX0_advance_84 v0 w0 (1 : Int32) u K
set_option maxRecDepth 100000 in
set_option maxHeartbeats 4000000 in
theorem tX0_advance_79 {X : mCx} {G : mG} {u0 : mSt} {K : mSt → Prop} (F : mFx X G cX0_advance wsX0_advance RX0 "advance" 6 154 none u0 (mPv K)) (hN : X.2.2.2.2.2.2.2.2.2.2.2.2.1 = 4) {v0 : Nat} {w0 : Nat} {u : mSt} (kv0 : mK u v0 = 1) (kw0 : mK u w0 = 1) (h : bX0_advance_79 v0 w0 u K) : mZ X u 79 [(0, .ref (G.1 + v0))] [.ref (G.1 + w0)] := by
  refine mz_iconst (v := 1) F dX0_advance_79 (by decide) ?_
  refine mz_goto (tgt := 84) F dX0_advance_80 (by decide) ?_
  refine mz_sub [0] rfl ?_
  exact tX0_advance_84 F hN kv0 kw0 h
def bX0_advance_17 : Nat → Nat → Int32 → Int32 → Int32 → mSt → (mSt → Prop) → Prop
  | 0, _, _, _, _, _, _ => False
  | n + 1, v0, v1, v2, v3, u, K => (((mI u v0 2) ≤ v3 → (∃ q_1, mR u v0 0 = some q_1 ∧ (∃ q_2, mR u v0 1 = some q_2 ∧ (∀ u_3, u_3 = mpR u v0 0 (some q_2) → (∀ u_4, u_4 = mpR u_3 v0 1 (some q_1) → (((mI u_4 v0 5) = 0 → (((mI u_4 v0 3) ≤ (150 : Int32) → bX0_advance_84 v0 v0 (0 : Int32) u_4 K) ∧ (¬ ((mI u_4 v0 3) ≤ (150 : Int32)) → bX0_advance_79 v0 v0 u_4 K))) ∧ (¬ ((mI u_4 v0 5) = 0) → bX0_advance_79 v0 v0 u_4 K))))))) ∧ (¬ ((mI u v0 2) ≤ v3) → (∃ q_7, mR u v0 0 = some q_7 ∧ (vp_in v3 151 ∧ ∃ q_9, mR u q_7 v3.toNatClampNeg = some q_9 ∧ bX0_spread v0 q_9 v1 v2 u (fun u_11 => (∀ x_12, x_12 = v3 + (1 : Int32) → bX0_advance_17 n v0 v1 v2 x_12 u_11 K))))))
set_option maxRecDepth 100000 in
set_option maxHeartbeats 4000000 in
theorem tX0_advance_17 {X : mCx} {G : mG} {u0 : mSt} {K : mSt → Prop} (F : mFx X G cX0_advance wsX0_advance RX0 "advance" 6 154 none u0 (mPv K)) (hN : X.2.2.2.2.2.2.2.2.2.2.2.2.1 = 4) : ∀ (n : Nat) {v0 : Nat} {v1 : Int32} {v2 : Int32} {v3 : Int32} {u : mSt}, mK u v0 = 1 → bX0_advance_17 n v0 v1 v2 v3 u K → mZ X u 17 [(0, .ref (G.1 + v0)), (1, .int v1), (2, .int v2), (3, .int v3)] [] := by
  intro n
  induction n with
  | zero => intro v0 v1 v2 v3 u kv0 h; exact False.elim h
  | succ n ih =>
    intro v0 v1 v2 v3 u kv0 h
    refine mz_iload_n F dX0_advance_17 rfl 3 rfl ?_
    refine mz_aload_n F dX0_advance_18 rfl 0 rfl ?_
    refine mz_getI F dX0_advance_19 fX0_advance_28 kv0 ?_
    refine mz_icmp_ge (tgt := 43) F dX0_advance_22 (by decide) (fun c_13 => ?_) (fun c_13 => ?_)
    · replace h := h.1 c_13
      refine mz_aload_n F dX0_advance_43 rfl 0 rfl ?_
      obtain ⟨q_1, eq_1, h⟩ := h
      refine mz_getR F dX0_advance_44 fX0_advance_11 (by decide) kv0 eq_1 (fun kq_1 => ?_)
      refine mz_astore_n (lv2 := [(3, .ref (G.1 + q_1)), (0, .ref (G.1 + v0)), (1, .int v1), (2, .int v2)]) F dX0_advance_47 rfl hN (by decide) rfl ?_
      refine mz_aload_n F dX0_advance_48 rfl 1 rfl ?_
      refine mz_aload_n F dX0_advance_49 rfl 1 rfl ?_
      obtain ⟨q_2, eq_2, h⟩ := h
      refine mz_getR F dX0_advance_50 fX0_advance_17 (by decide) kv0 eq_2 (fun kq_2 => ?_)
      refine mz_putR F dX0_advance_53 fX0_advance_11 (by decide) kv0 kq_2 rfl (fun u_3 eu_3 hxu_3 => ?_)
      replace h := h u_3 eu_3
      replace kq_1 := hxu_3.2.2 _ _ (by decide) kq_1
      replace kv0 := hxu_3.2.2 _ _ (by decide) kv0
      refine mz_aload_n F dX0_advance_56 rfl 1 rfl ?_
      refine mz_aload_n F dX0_advance_57 rfl 0 rfl ?_
      refine mz_putR F dX0_advance_58 fX0_advance_17 (by decide) kv0 kq_1 rfl (fun u_4 eu_4 hxu_4 => ?_)
      replace h := h u_4 eu_4
      replace kv0 := hxu_4.2.2 _ _ (by decide) kv0
      refine mz_aload_n F dX0_advance_61 rfl 1 rfl ?_
      refine mz_aload_n F dX0_advance_62 rfl 1 rfl ?_
      refine mz_getI F dX0_advance_63 fX0_advance_24 kv0 ?_
      refine mz_if_ne (tgt := 79) F dX0_advance_66 (by decide) (fun c_6 => ?_) (fun c_6 => ?_)
      · replace h := h.2 c_6
        refine mz_sub [1] rfl ?_
        exact tX0_advance_79 F hN kv0 kv0 h
      · replace h := h.1 c_6
        refine mz_aload_n F dX0_advance_69 rfl 1 rfl ?_
        refine mz_getI F dX0_advance_70 fX0_advance_43 kv0 ?_
        refine mz_sipush (v := 150) F dX0_advance_73 (by decide) ?_
        refine mz_icmp_le (tgt := 83) F dX0_advance_76 (by decide) (fun c_5 => ?_) (fun c_5 => ?_)
        · replace h := h.1 c_5
          refine mz_iconst (v := 0) F dX0_advance_83 (by decide) ?_
          refine mz_sub [1] rfl ?_
          exact tX0_advance_84 F hN kv0 kv0 h
        · replace h := h.2 c_5
          refine mz_sub [1] rfl ?_
          exact tX0_advance_79 F hN kv0 kv0 h
    · replace h := h.2 c_13
      refine mz_aload_n F dX0_advance_25 rfl 0 rfl ?_
      refine mz_aload_n F dX0_advance_26 rfl 0 rfl ?_
      obtain ⟨q_7, eq_7, h⟩ := h
      refine mz_getR F dX0_advance_27 fX0_advance_11 (by decide) kv0 eq_7 (fun kq_7 => ?_)
      refine mz_iload_n F dX0_advance_30 rfl 3 rfl ?_
      obtain ⟨b_8, q_9, eq_9, h⟩ := h
      refine mz_aald4 F dX0_advance_31 kq_7 rfl (by decide) b_8 eq_9 (fun kq_9 => ?_)
      refine mz_iload_n F dX0_advance_32 rfl 1 rfl ?_
      refine mz_iload_n F dX0_advance_33 rfl 2 rfl ?_
      refine mz_callV (As := [_, _, _]) (n := 3) F dX0_advance_34 rfl kv0 rfl rfl gX0_advance_X0_spread (by decide +kernel) (by decide) rfl (Nat.le_of_ble_eq_true rfl) (kX0_spread _ G kv0 kq_9 h) (mz_kV fun u_11 h hx_10 => ?_)
      replace kv0 := hx_10.2.2 _ _ (by decide) kv0
      obtain ⟨x_12, ex_12⟩ : ∃ y : Int32, y = v3 + (1 : Int32) := ⟨_, rfl⟩
      replace h := h x_12 ex_12
      refine mz_iinc (v := x_12) (lv2 := [(3, .int x_12), (0, .ref (G.1 + v0)), (1, .int v1), (2, .int v2)]) F dX0_advance_37 3 rfl (by rw [ex_12]; rfl) hN (by decide) rfl ?_
      refine mz_goto (tgt := 17) F dX0_advance_40 (by decide) ?_
      refine mz_sub [1, 2, 3, 0] rfl ?_
      exact ih kv0 h
def bX0_advance (this : Nat) (a1 : Int32) (a2 : Int32) (u : mSt) (K : mSt → Prop) : Prop := ((a1 = (5 : Int32) → bX0_movePebbles this u (fun u_3 => K u_3)) ∧ (¬ (a1 = (5 : Int32)) → (∀ u_1, u_1 = mpI u this 3 (0 : Int32) → (∃ n9, bX0_advance_17 n9 this a1 a2 (0 : Int32) u_1 K))))
set_option maxRecDepth 100000 in
set_option maxHeartbeats 4000000 in
theorem tX0_advance {X : mCx} {G : mG} {u0 : mSt} {K : mSt → Prop} (F : mFx X G cX0_advance wsX0_advance RX0 "advance" 6 154 none u0 (mPv K)) (hN : X.2.2.2.2.2.2.2.2.2.2.2.2.1 = 4) {this : Nat} {a1 : Int32} {a2 : Int32} {u : mSt} (kthis : mK u this = 1) (h : bX0_advance this a1 a2 u K) : mZ X u 0 [(0, .ref (G.1 + this)), (1, .int a1), (2, .int a2)] [] := by
  refine mz_iload_n F dX0_advance_0 rfl 1 rfl ?_
  refine mz_iconst (v := 5) F dX0_advance_1 (by decide) ?_
  refine mz_icmp_ne (tgt := 10) F dX0_advance_2 (by decide) (fun c_4 => ?_) (fun c_4 => ?_)
  · replace h := h.2 c_4
    refine mz_aload_n F dX0_advance_10 rfl 0 rfl ?_
    refine mz_iconst (v := 0) F dX0_advance_11 (by decide) ?_
    refine mz_putI F dX0_advance_12 fX0_advance_43 kthis rfl rfl (fun u_1 eu_1 hxu_1 => ?_)
    replace h := h u_1 eu_1
    replace kthis := hxu_1.2.2 _ _ (by decide) kthis
    refine mz_iconst (v := 0) F dX0_advance_15 (by decide) ?_
    refine mz_istore_n (lv2 := [(3, .int (0 : Int32)), (0, .ref (G.1 + this)), (1, .int a1), (2, .int a2)]) F dX0_advance_16 rfl hN (by decide) rfl ?_
    refine mz_sub [1, 2, 3, 0] rfl ?_
    obtain ⟨n9, h⟩ := h
    exact tX0_advance_17 F hN n9 kthis h
  · replace h := h.1 c_4
    refine mz_aload_n F dX0_advance_5 rfl 0 rfl ?_
    refine mz_callV (As := []) (n := 0) F dX0_advance_6 rfl kthis rfl rfl gX0_advance_X0_movePebbles (by decide +kernel) (by decide) rfl (Nat.le_of_ble_eq_true rfl) (kX0_movePebbles _ G kthis h) (mz_kV fun u_3 h hx_2 => ?_)
    exact mz_vret F dX0_advance_9 ⟨rfl, h⟩
set_option maxRecDepth 100000 in
theorem kX0_advance (l : Launch) (G : mG) {u : mSt} {K : mSt → Prop} {this : Nat} {a1 : Int32} {a2 : Int32} (kthis : mK u this = 1) (h : bX0_advance this a1 a2 u K) : mCt l G yX0_advance wsX0_advance 6 154 [.ref (G.1 + this), .int a1, .int a2] u (mPv K) := by
  refine mCt.of (cc := cX0_advance) (maxL := 4) (ret := none) (by decide) rfl (Nat.le_of_ble_eq_true rfl) ?_
  intro X hl hN F
  exact tX0_advance F hN kthis h
/-! RoomMapper$House.<init>()V -/
theorem mX1_init_ol3 : Cond.methodLink RX1 3 objectInit ∈ wsX1_init := by decide +kernel
theorem mX1_init_oi : Cond.instanceMethod objectInit ∈ wsX1_init := by decide +kernel
theorem mX1_init_oc : Cond.code objectInit ⟨#[0xb1]⟩ 1 none ∈ wsX1_init := by decide +kernel
theorem mX1_init_fl9 : Cond.fieldLink RX1 9 "RoomMapper$House" "signs" "[I" ∈ wsX1_init := by decide +kernel
theorem wiX1_init_1 : ∀ w ∈ u_ws RX1 TX1 7, w ∈ wsX1_init := by decide +kernel
theorem mX1_init_fl15 : Cond.fieldLink RX1 15 "RoomMapper$House" "plates" "[Z" ∈ wsX1_init := by decide +kernel
theorem mX1_init_fl19 : Cond.fieldLink RX1 19 "RoomMapper$House" "kinds" "[I" ∈ wsX1_init := by decide +kernel
theorem mX1_init_fl22 : Cond.fieldLink RX1 22 "RoomMapper$House" "targets" "[I" ∈ wsX1_init := by decide +kernel
theorem fX1_init_25 : mFld wsX1_init RX1 25 2 6 0 .int false := ⟨1, _, RX1, TX1, 7, tyX1, rfl, rfl, rfl, by decide, wiX1_init_1, tyX1_ok, nmX1, rfl, rfl, Or.inl ⟨by decide +kernel, fun _ => rfl⟩⟩
theorem mX1_init_acI : Cond.arrayClass .int ∈ wsX1_init := by decide +kernel
theorem mX1_init_acZ : Cond.arrayClass .boolean ∈ wsX1_init := by decide +kernel
def bX1_init (this : Nat) (u : mSt) (K : mSt → Prop) : Prop := ((mN u + 1 ≤ mCapC ∧ mT u + 10 ≤ mCapS) ∧ ∀ p_4 u_2, p_4 = mN u → u_2 = mnw u 12 10 → (∀ u_5, u_5 = mpR u_2 this 0 (some p_4) → ((mN u_5 + 1 ≤ mCapC ∧ mT u_5 + 10 ≤ mCapS) ∧ ∀ p_9 u_7, p_9 = mN u_5 → u_7 = mnw u_5 13 10 → (∀ u_10, u_10 = mpR u_7 this 1 (some p_9) → ((mN u_10 + 1 ≤ mCapC ∧ mT u_10 + 40 ≤ mCapS) ∧ ∀ p_14 u_12, p_14 = mN u_10 → u_12 = mnw u_10 14 40 → (∀ u_15, u_15 = mpR u_12 this 2 (some p_14) → ((mN u_15 + 1 ≤ mCapC ∧ mT u_15 + 40 ≤ mCapS) ∧ ∀ p_19 u_17, p_19 = mN u_15 → u_17 = mnw u_15 14 40 → (∀ u_20, u_20 = mpR u_17 this 3 (some p_19) → (∀ u_21, u_21 = mpI u_20 this 6 (-2 : Int32) → K u_21)))))))))
set_option maxRecDepth 100000 in
set_option maxHeartbeats 4000000 in
theorem tX1_init {X : mCx} {G : mG} {u0 : mSt} {K : mSt → Prop} (F : mFx X G cX1_init wsX1_init RX1 "<init>" 1 20 none u0 (mPv K)) (hN : X.2.2.2.2.2.2.2.2.2.2.2.2.1 = 1) {this : Nat} {u : mSt} (kthis : mK u this = 2) (h : bX1_init this u K) : mZ X u 0 [(0, .ref (G.1 + this))] [] := by
  refine mz_aload_n F dX1_init_0 rfl 0 rfl ?_
  refine mz_objInit F dX1_init_1 mX1_init_ol3 mX1_init_oi mX1_init_oc (by decide) (Nat.le_of_ble_eq_true rfl) ?_
  refine mz_aload_n F dX1_init_4 rfl 0 rfl ?_
  refine mz_bipush (v := 10) F dX1_init_5 (by decide) ?_
  obtain ⟨b_1, h⟩ := h
  refine mz_newaI (c := 12) F dX1_init_7 mX1_init_acI rfl (by decide) b_1 (fun p_4 u_2 ep_4 eu_2 hx_3 kp_4 => ?_)
  replace h := h p_4 u_2 ep_4 eu_2
  replace kthis := hx_3.2.2 _ _ (by decide) kthis
  refine mz_putRF (k := 0) (tys := tyX1) F dX1_init_9 rfl rfl rfl rfl (by decide) wiX1_init_1 tyX1_ok nmX1 rfl rfl rfl mX1_init_fl9 (by decide) kthis kp_4 (fun u_5 eu_5 hxu_5 => ?_)
  replace h := h u_5 eu_5
  replace kthis := hxu_5.2.2 _ _ (by decide) kthis
  refine mz_aload_n F dX1_init_12 rfl 0 rfl ?_
  refine mz_bipush (v := 10) F dX1_init_13 (by decide) ?_
  obtain ⟨b_6, h⟩ := h
  refine mz_newaZ (c := 13) F dX1_init_15 mX1_init_acZ rfl (by decide) b_6 (fun p_9 u_7 ep_9 eu_7 hx_8 kp_9 => ?_)
  replace h := h p_9 u_7 ep_9 eu_7
  replace kthis := hx_8.2.2 _ _ (by decide) kthis
  refine mz_putRF (k := 1) (tys := tyX1) F dX1_init_17 rfl rfl rfl rfl (by decide) wiX1_init_1 tyX1_ok nmX1 rfl rfl rfl mX1_init_fl15 (by decide) kthis kp_9 (fun u_10 eu_10 hxu_10 => ?_)
  replace h := h u_10 eu_10
  replace kthis := hxu_10.2.2 _ _ (by decide) kthis
  refine mz_aload_n F dX1_init_20 rfl 0 rfl ?_
  refine mz_bipush (v := 40) F dX1_init_21 (by decide) ?_
  obtain ⟨b_11, h⟩ := h
  refine mz_newaI (c := 14) F dX1_init_23 mX1_init_acI rfl (by decide) b_11 (fun p_14 u_12 ep_14 eu_12 hx_13 kp_14 => ?_)
  replace h := h p_14 u_12 ep_14 eu_12
  replace kthis := hx_13.2.2 _ _ (by decide) kthis
  refine mz_putRF (k := 2) (tys := tyX1) F dX1_init_25 rfl rfl rfl rfl (by decide) wiX1_init_1 tyX1_ok nmX1 rfl rfl rfl mX1_init_fl19 (by decide) kthis kp_14 (fun u_15 eu_15 hxu_15 => ?_)
  replace h := h u_15 eu_15
  replace kthis := hxu_15.2.2 _ _ (by decide) kthis
  refine mz_aload_n F dX1_init_28 rfl 0 rfl ?_
  refine mz_bipush (v := 40) F dX1_init_29 (by decide) ?_
  obtain ⟨b_16, h⟩ := h
  refine mz_newaI (c := 14) F dX1_init_31 mX1_init_acI rfl (by decide) b_16 (fun p_19 u_17 ep_19 eu_17 hx_18 kp_19 => ?_)
  replace h := h p_19 u_17 ep_19 eu_17
  replace kthis := hx_18.2.2 _ _ (by decide) kthis
  refine mz_putRF (k := 3) (tys := tyX1) F dX1_init_33 rfl rfl rfl rfl (by decide) wiX1_init_1 tyX1_ok nmX1 rfl rfl rfl mX1_init_fl22 (by decide) kthis kp_19 (fun u_20 eu_20 hxu_20 => ?_)
  replace h := h u_20 eu_20
  replace kthis := hxu_20.2.2 _ _ (by decide) kthis
  refine mz_aload_n F dX1_init_36 rfl 0 rfl ?_
  refine mz_bipush (v := (-2)) F dX1_init_37 (by decide) ?_
  refine mz_putI F dX1_init_39 fX1_init_25 kthis rfl rfl (fun u_21 eu_21 hxu_21 => ?_)
  replace h := h u_21 eu_21
  exact mz_vret F dX1_init_42 ⟨rfl, h⟩
set_option maxRecDepth 100000 in
theorem kX1_init (l : Launch) (G : mG) {u : mSt} {K : mSt → Prop} {this : Nat} (kthis : mK u this = 2) (h : bX1_init this u K) : mCt l G yX1_init wsX1_init 1 20 [.ref (G.1 + this)] u (mPv K) := by
  refine mCt.of (cc := cX1_init) (maxL := 1) (ret := none) (by decide) rfl (Nat.le_of_ble_eq_true rfl) ?_
  intro X hl hN F
  exact tX1_init F hN kthis h
/-! RoomMapper$House.addCell(IZ)I -/
theorem wiX1_addCell_1 : ∀ w ∈ u_ws RX1 TX1 7, w ∈ wsX1_addCell := by decide +kernel
theorem fX1_addCell_29 : mFld wsX1_addCell RX1 29 2 4 0 .int false := ⟨1, _, RX1, TX1, 7, tyX1, rfl, rfl, rfl, by decide, wiX1_addCell_1, tyX1_ok, nmX1, rfl, rfl, Or.inl ⟨by decide +kernel, fun _ => rfl⟩⟩
theorem fX1_addCell_9 : mFld wsX1_addCell RX1 9 2 0 12 (.array .int) true := ⟨1, _, RX1, TX1, 7, tyX1, rfl, rfl, rfl, by decide, wiX1_addCell_1, tyX1_ok, nmX1, rfl, rfl, Or.inl ⟨by decide +kernel, fun _ => rfl⟩⟩
theorem fX1_addCell_15 : mFld wsX1_addCell RX1 15 2 1 13 (.array .boolean) true := ⟨1, _, RX1, TX1, 7, tyX1, rfl, rfl, rfl, by decide, wiX1_addCell_1, tyX1_ok, nmX1, rfl, rfl, Or.inl ⟨by decide +kernel, fun _ => rfl⟩⟩
def bX1_addCell (this : Nat) (a1 : Int32) (a2 : Int32) (u : mSt) (K : Int32 → mSt → Prop) : Prop := (∀ x_1, x_1 = (mI u this 4) → (∃ q_2, mR u this 0 = some q_2 ∧ (vp_in x_1 10 ∧ ∀ u_4, u_4 = mpI u q_2 x_1.toNatClampNeg a1 → (∃ q_5, mR u_4 this 1 = some q_5 ∧ (vp_in x_1 10 ∧ ∀ u_7, u_7 = mpI u_4 q_5 x_1.toNatClampNeg (vp_nar .boolean a2) → (∀ u_8, u_8 = mpI u_7 this 4 ((mI u_7 this 4) + (1 : Int32)) → K x_1 u_8))))))
set_option maxRecDepth 100000 in
set_option maxHeartbeats 4000000 in
theorem tX1_addCell {X : mCx} {G : mG} {u0 : mSt} {K : Int32 → mSt → Prop} (F : mFx X G cX1_addCell wsX1_addCell RX1 "addCell" 0 0 (some .int) u0 (mPi K)) (hN : X.2.2.2.2.2.2.2.2.2.2.2.2.1 = 4) {this : Nat} {a1 : Int32} {a2 : Int32} {u : mSt} (kthis : mK u this = 2) (h : bX1_addCell this a1 a2 u K) : mZ X u 0 [(0, .ref (G.1 + this)), (1, .int a1), (2, .int a2)] [] := by
  refine mz_aload_n F dX1_addCell_0 rfl 0 rfl ?_
  refine mz_getI F dX1_addCell_1 fX1_addCell_29 kthis ?_
  refine mz_topi (fun x_1 ex_1 => ?_)
  replace h := h x_1 ex_1
  refine mz_istore_n (lv2 := [(3, .int x_1), (0, .ref (G.1 + this)), (1, .int a1), (2, .int a2)]) F dX1_addCell_4 rfl hN (by decide) rfl ?_
  refine mz_aload_n F dX1_addCell_5 rfl 1 rfl ?_
  obtain ⟨q_2, eq_2, h⟩ := h
  refine mz_getR F dX1_addCell_6 fX1_addCell_9 (by decide) kthis eq_2 (fun kq_2 => ?_)
  refine mz_iload_n F dX1_addCell_9 rfl 0 rfl ?_
  refine mz_iload_n F dX1_addCell_10 rfl 2 rfl ?_
  obtain ⟨b_3, h⟩ := h
  refine mz_iast F dX1_addCell_11 kq_2 rfl b_3 (fun u_4 eu_4 hxu_4 => ?_)
  replace h := h u_4 eu_4
  replace kthis := hxu_4.2.2 _ _ (by decide) kthis
  refine mz_aload_n F dX1_addCell_12 rfl 1 rfl ?_
  obtain ⟨q_5, eq_5, h⟩ := h
  refine mz_getR F dX1_addCell_13 fX1_addCell_15 (by decide) kthis eq_5 (fun kq_5 => ?_)
  refine mz_iload_n F dX1_addCell_16 rfl 0 rfl ?_
  refine mz_iload_n F dX1_addCell_17 rfl 3 rfl ?_
  obtain ⟨b_6, h⟩ := h
  refine mz_zast F dX1_addCell_18 kq_5 rfl b_6 (fun u_7 eu_7 hxu_7 => ?_)
  replace h := h u_7 eu_7
  replace kthis := hxu_7.2.2 _ _ (by decide) kthis
  refine mz_aload_n F dX1_addCell_19 rfl 1 rfl ?_
  refine mz_dup F dX1_addCell_20 rfl ?_
  refine mz_getI F dX1_addCell_21 fX1_addCell_29 kthis ?_
  refine mz_iconst (v := 1) F dX1_addCell_24 (by decide) ?_
  refine mz_iadd F dX1_addCell_25 ?_
  refine mz_putI F dX1_addCell_26 fX1_addCell_29 kthis rfl rfl (fun u_8 eu_8 hxu_8 => ?_)
  replace h := h u_8 eu_8
  refine mz_iload_n F dX1_addCell_29 rfl 0 rfl ?_
  exact mz_iret F dX1_addCell_30 ⟨_, rfl, h⟩
set_option maxRecDepth 100000 in
theorem kX1_addCell (l : Launch) (G : mG) {u : mSt} {K : Int32 → mSt → Prop} {this : Nat} {a1 : Int32} {a2 : Int32} (kthis : mK u this = 2) (h : bX1_addCell this a1 a2 u K) : mCt l G yX1_addCell wsX1_addCell 0 0 [.ref (G.1 + this), .int a1, .int a2] u (mPi K) := by
  refine mCt.of (cc := cX1_addCell) (maxL := 4) (ret := (some .int)) (by decide) rfl (Nat.le_of_ble_eq_true rfl) ?_
  intro X hl hN F
  exact tX1_addCell F hN kthis h
/-! RoomMapper$House.setLead(III)I -/
theorem wiX1_setLead_1 : ∀ w ∈ u_ws RX1 TX1 7, w ∈ wsX1_setLead := by decide +kernel
theorem fX1_setLead_19 : mFld wsX1_setLead RX1 19 2 2 14 (.array .int) true := ⟨1, _, RX1, TX1, 7, tyX1, rfl, rfl, rfl, by decide, wiX1_setLead_1, tyX1_ok, nmX1, rfl, rfl, Or.inl ⟨by decide +kernel, fun _ => rfl⟩⟩
theorem fX1_setLead_22 : mFld wsX1_setLead RX1 22 2 3 14 (.array .int) true := ⟨1, _, RX1, TX1, 7, tyX1, rfl, rfl, rfl, by decide, wiX1_setLead_1, tyX1_ok, nmX1, rfl, rfl, Or.inl ⟨by decide +kernel, fun _ => rfl⟩⟩
def bX1_setLead (this : Nat) (a1 : Int32) (a2 : Int32) (a3 : Int32) (u : mSt) (K : Int32 → mSt → Prop) : Prop := (∃ q_1, mR u this 2 = some q_1 ∧ (vp_in a1 40 ∧ (∀ x_3, x_3 = (mI u q_1 a1.toNatClampNeg) → (∃ q_4, mR u this 2 = some q_4 ∧ (vp_in a1 40 ∧ ∀ u_6, u_6 = mpI u q_4 a1.toNatClampNeg a2 → (∃ q_7, mR u_6 this 3 = some q_7 ∧ (vp_in a1 40 ∧ ∀ u_9, u_9 = mpI u_6 q_7 a1.toNatClampNeg a3 → K x_3 u_9)))))))
set_option maxRecDepth 100000 in
set_option maxHeartbeats 4000000 in
theorem tX1_setLead {X : mCx} {G : mG} {u0 : mSt} {K : Int32 → mSt → Prop} (F : mFx X G cX1_setLead wsX1_setLead RX1 "setLead" 0 0 (some .int) u0 (mPi K)) (hN : X.2.2.2.2.2.2.2.2.2.2.2.2.1 = 5) {this : Nat} {a1 : Int32} {a2 : Int32} {a3 : Int32} {u : mSt} (kthis : mK u this = 2) (h : bX1_setLead this a1 a2 a3 u K) : mZ X u 0 [(0, .ref (G.1 + this)), (1, .int a1), (2, .int a2), (3, .int a3)] [] := by
  refine mz_aload_n F dX1_setLead_0 rfl 0 rfl ?_
  obtain ⟨q_1, eq_1, h⟩ := h
  refine mz_getR F dX1_setLead_1 fX1_setLead_19 (by decide) kthis eq_1 (fun kq_1 => ?_)
  refine mz_iload_n F dX1_setLead_4 rfl 1 rfl ?_
  obtain ⟨b_2, h⟩ := h
  refine mz_iald F dX1_setLead_5 kq_1 rfl b_2 ?_
  refine mz_topi (fun x_3 ex_3 => ?_)
  replace h := h x_3 ex_3
  refine mz_istore (lv2 := [(4, .int x_3), (0, .ref (G.1 + this)), (1, .int a1), (2, .int a2), (3, .int a3)]) F dX1_setLead_6 hN (by decide) rfl ?_
  refine mz_aload_n F dX1_setLead_8 rfl 1 rfl ?_
  obtain ⟨q_4, eq_4, h⟩ := h
  refine mz_getR F dX1_setLead_9 fX1_setLead_19 (by decide) kthis eq_4 (fun kq_4 => ?_)
  refine mz_iload_n F dX1_setLead_12 rfl 2 rfl ?_
  refine mz_iload_n F dX1_setLead_13 rfl 3 rfl ?_
  obtain ⟨b_5, h⟩ := h
  refine mz_iast F dX1_setLead_14 kq_4 rfl b_5 (fun u_6 eu_6 hxu_6 => ?_)
  replace h := h u_6 eu_6
  replace kthis := hxu_6.2.2 _ _ (by decide) kthis
  refine mz_aload_n F dX1_setLead_15 rfl 1 rfl ?_
  obtain ⟨q_7, eq_7, h⟩ := h
  refine mz_getR F dX1_setLead_16 fX1_setLead_22 (by decide) kthis eq_7 (fun kq_7 => ?_)
  refine mz_iload_n F dX1_setLead_19 rfl 2 rfl ?_
  refine mz_iload_n F dX1_setLead_20 rfl 4 rfl ?_
  obtain ⟨b_8, h⟩ := h
  refine mz_iast F dX1_setLead_21 kq_7 rfl b_8 (fun u_9 eu_9 hxu_9 => ?_)
  replace h := h u_9 eu_9
  refine mz_iload F dX1_setLead_22 0 rfl ?_
  exact mz_iret F dX1_setLead_24 ⟨_, rfl, h⟩
set_option maxRecDepth 100000 in
theorem kX1_setLead (l : Launch) (G : mG) {u : mSt} {K : Int32 → mSt → Prop} {this : Nat} {a1 : Int32} {a2 : Int32} {a3 : Int32} (kthis : mK u this = 2) (h : bX1_setLead this a1 a2 a3 u K) : mCt l G yX1_setLead wsX1_setLead 0 0 [.ref (G.1 + this), .int a1, .int a2, .int a3] u (mPi K) := by
  refine mCt.of (cc := cX1_setLead) (maxL := 5) (ret := (some .int)) (by decide) rfl (Nat.le_of_ble_eq_true rfl) ?_
  intro X hl hN F
  exact tX1_setLead F hN kthis h
/-! RoomMapper.standOf(III)I -/
def bX8_standOf (a0 : Int32) (a1 : Int32) (a2 : Int32) (u : mSt) (K : Int32 → mSt → Prop) : Prop := K ((((a0 * (4 : Int32)) + a1) * (2 : Int32)) + a2) u
set_option maxRecDepth 100000 in
set_option maxHeartbeats 4000000 in
theorem tX8_standOf {X : mCx} {G : mG} {u0 : mSt} {K : Int32 → mSt → Prop} (F : mFx X G cX8_standOf wsX8_standOf RX8 "standOf" 0 0 (some .int) u0 (mPi K)) (hN : X.2.2.2.2.2.2.2.2.2.2.2.2.1 = 3) {a0 : Int32} {a1 : Int32} {a2 : Int32} {u : mSt} (h : bX8_standOf a0 a1 a2 u K) : mZ X u 0 [(0, .int a0), (1, .int a1), (2, .int a2)] [] := by
  refine mz_iload_n F dX8_standOf_0 rfl 0 rfl ?_
  refine mz_iconst (v := 4) F dX8_standOf_1 (by decide) ?_
  refine mz_imul F dX8_standOf_2 ?_
  refine mz_iload_n F dX8_standOf_3 rfl 1 rfl ?_
  refine mz_iadd F dX8_standOf_4 ?_
  refine mz_iconst (v := 2) F dX8_standOf_5 (by decide) ?_
  refine mz_imul F dX8_standOf_6 ?_
  refine mz_iload_n F dX8_standOf_7 rfl 2 rfl ?_
  refine mz_iadd F dX8_standOf_8 ?_
  exact mz_iret F dX8_standOf_9 ⟨_, rfl, h⟩
set_option maxRecDepth 100000 in
theorem kX8_standOf (l : Launch) (G : mG) {u : mSt} {K : Int32 → mSt → Prop} {a0 : Int32} {a1 : Int32} {a2 : Int32} (h : bX8_standOf a0 a1 a2 u K) : mCt l G yX8_standOf wsX8_standOf 0 0 [.int a0, .int a1, .int a2] u (mPi K) := by
  refine mCt.of (cc := cX8_standOf) (maxL := 3) (ret := (some .int)) (by decide) rfl (Nat.le_of_ble_eq_true rfl) ?_
  intro X hl hN F
  exact tX8_standOf F hN  h
/-! RoomMapper$House.begin()V -/
theorem mX1_begin_iniX8_standOf : Cond.initialized yX8_standOf.cls ∈ wsX1_begin := by decide +kernel
theorem mX1_begin_stX8_standOf : Cond.static yX8_standOf ∈ wsX1_begin := by decide +kernel
theorem wiX1_begin_1 : ∀ w ∈ u_ws RX1 TX1 7, w ∈ wsX1_begin := by decide +kernel
theorem fX1_begin_36 : mFld wsX1_begin RX1 36 2 5 0 .int false := ⟨1, _, RX1, TX1, 7, tyX1, rfl, rfl, rfl, by decide, wiX1_begin_1, tyX1_ok, nmX1, rfl, rfl, Or.inl ⟨by decide +kernel, fun _ => rfl⟩⟩
theorem fX1_begin_25 : mFld wsX1_begin RX1 25 2 6 0 .int false := ⟨1, _, RX1, TX1, 7, tyX1, rfl, rfl, rfl, by decide, wiX1_begin_1, tyX1_ok, nmX1, rfl, rfl, Or.inl ⟨by decide +kernel, fun _ => rfl⟩⟩
def bX1_begin (this : Nat) (u : mSt) (K : mSt → Prop) : Prop := bX8_standOf (0 : Int32) (0 : Int32) (0 : Int32) u (fun r_3 u_2 => (∀ u_4, u_4 = mpI u_2 this 5 r_3 → (∀ u_5, u_5 = mpI u_4 this 6 (-2 : Int32) → K u_5)))
set_option maxRecDepth 100000 in
set_option maxHeartbeats 4000000 in
theorem tX1_begin {X : mCx} {G : mG} {u0 : mSt} {K : mSt → Prop} (F : mFx X G cX1_begin wsX1_begin RX1 "begin" 1 22 none u0 (mPv K)) (hN : X.2.2.2.2.2.2.2.2.2.2.2.2.1 = 1) {this : Nat} {u : mSt} (kthis : mK u this = 2) (h : bX1_begin this u K) : mZ X u 0 [(0, .ref (G.1 + this))] [] := by
  refine mz_aload_n F dX1_begin_0 rfl 0 rfl ?_
  refine mz_iconst (v := 0) F dX1_begin_1 (by decide) ?_
  refine mz_iconst (v := 0) F dX1_begin_2 (by decide) ?_
  refine mz_iconst (v := 0) F dX1_begin_3 (by decide) ?_
  refine mz_callSN (As := [_, _, _]) (n := 3) F dX1_begin_4 rfl gX1_begin_X8_standOf_n32 nwM1_32 mX1_begin_iniX8_standOf mX1_begin_stX8_standOf (by decide +kernel) (by decide) rfl (Nat.le_of_ble_eq_true rfl) (kX8_standOf _ G h) (mz_kI fun r_3 u_2 h hx_1 => ?_)
  replace kthis := hx_1.2.2 _ _ (by decide) kthis
  refine mz_putI F dX1_begin_7 fX1_begin_36 kthis rfl rfl (fun u_4 eu_4 hxu_4 => ?_)
  replace h := h u_4 eu_4
  replace kthis := hxu_4.2.2 _ _ (by decide) kthis
  refine mz_aload_n F dX1_begin_10 rfl 0 rfl ?_
  refine mz_bipush (v := (-2)) F dX1_begin_11 (by decide) ?_
  refine mz_putI F dX1_begin_13 fX1_begin_25 kthis rfl rfl (fun u_5 eu_5 hxu_5 => ?_)
  replace h := h u_5 eu_5
  exact mz_vret F dX1_begin_16 ⟨rfl, h⟩
set_option maxRecDepth 100000 in
theorem kX1_begin (l : Launch) (G : mG) {u : mSt} {K : mSt → Prop} {this : Nat} (kthis : mK u this = 2) (h : bX1_begin this u K) : mCt l G yX1_begin wsX1_begin 1 22 [.ref (G.1 + this)] u (mPv K) := by
  refine mCt.of (cc := cX1_begin) (maxL := 1) (ret := none) (by decide) rfl (Nat.le_of_ble_eq_true rfl) ?_
  intro X hl hN F
  exact tX1_begin F hN kthis h
/-! RoomMapper.cellOf(I)I -/
def bX8_cellOf (a0 : Int32) (u : mSt) (K : Int32 → mSt → Prop) : Prop := K ((a0 / (2 : Int32)) / (4 : Int32)) u
set_option maxRecDepth 100000 in
set_option maxHeartbeats 4000000 in
theorem tX8_cellOf {X : mCx} {G : mG} {u0 : mSt} {K : Int32 → mSt → Prop} (F : mFx X G cX8_cellOf wsX8_cellOf RX8 "cellOf" 0 0 (some .int) u0 (mPi K)) (hN : X.2.2.2.2.2.2.2.2.2.2.2.2.1 = 1) {a0 : Int32} {u : mSt} (h : bX8_cellOf a0 u K) : mZ X u 0 [(0, .int a0)] [] := by
  refine mz_iload_n F dX8_cellOf_0 rfl 0 rfl ?_
  refine mz_iconst (v := 2) F dX8_cellOf_1 (by decide) ?_
  refine mz_idiv F dX8_cellOf_2 (by decide) ?_
  refine mz_iconst (v := 4) F dX8_cellOf_3 (by decide) ?_
  refine mz_idiv F dX8_cellOf_4 (by decide) ?_
  exact mz_iret F dX8_cellOf_5 ⟨_, rfl, h⟩
set_option maxRecDepth 100000 in
theorem kX8_cellOf (l : Launch) (G : mG) {u : mSt} {K : Int32 → mSt → Prop} {a0 : Int32} (h : bX8_cellOf a0 u K) : mCt l G yX8_cellOf wsX8_cellOf 0 0 [.int a0] u (mPi K) := by
  refine mCt.of (cc := cX8_cellOf) (maxL := 1) (ret := (some .int)) (by decide) rfl (Nat.le_of_ble_eq_true rfl) ?_
  intro X hl hN F
  exact tX8_cellOf F hN  h
/-! RoomMapper$House.sight(Z)I -/
theorem mX1_sight_iniX8_sightOf : Cond.initialized yX8_sightOf.cls ∈ wsX1_sight := by decide +kernel
theorem mX1_sight_stX8_sightOf : Cond.static yX8_sightOf ∈ wsX1_sight := by decide +kernel
theorem wiX1_sight_1 : ∀ w ∈ u_ws RX1 TX1 7, w ∈ wsX1_sight := by decide +kernel
theorem fX1_sight_36 : mFld wsX1_sight RX1 36 2 5 0 .int false := ⟨1, _, RX1, TX1, 7, tyX1, rfl, rfl, rfl, by decide, wiX1_sight_1, tyX1_ok, nmX1, rfl, rfl, Or.inl ⟨by decide +kernel, fun _ => rfl⟩⟩
theorem mX1_sight_iniX8_cellOf : Cond.initialized yX8_cellOf.cls ∈ wsX1_sight := by decide +kernel
theorem mX1_sight_stX8_cellOf : Cond.static yX8_cellOf ∈ wsX1_sight := by decide +kernel
theorem fX1_sight_9 : mFld wsX1_sight RX1 9 2 0 12 (.array .int) true := ⟨1, _, RX1, TX1, 7, tyX1, rfl, rfl, rfl, by decide, wiX1_sight_1, tyX1_ok, nmX1, rfl, rfl, Or.inl ⟨by decide +kernel, fun _ => rfl⟩⟩
theorem fX1_sight_25 : mFld wsX1_sight RX1 25 2 6 0 .int false := ⟨1, _, RX1, TX1, 7, tyX1, rfl, rfl, rfl, by decide, wiX1_sight_1, tyX1_ok, nmX1, rfl, rfl, Or.inl ⟨by decide +kernel, fun _ => rfl⟩⟩
def bX1_sight_28 (w0 : Int32) (w1 : Int32) (w2 : Int32) (u : mSt) (K : Int32 → mSt → Prop) : Prop := bX8_sightOf w0 w1 w2 u (fun r_3 u_2 => K r_3 u_2)
set_option maxRecDepth 100000 in
set_option maxHeartbeats 4000000 in
theorem tX1_sight_28 {X : mCx} {G : mG} {u0 : mSt} {K : Int32 → mSt → Prop} (F : mFx X G cX1_sight wsX1_sight RX1 "sight" 1 22 (some .int) u0 (mPi K)) (hN : X.2.2.2.2.2.2.2.2.2.2.2.2.1 = 3) {w0 : Int32} {w1 : Int32} {w2 : Int32} {u : mSt} (h : bX1_sight_28 w0 w1 w2 u K) : mZ X u 28 [] [.int w2, .int w1, .int w0] := by
  refine mz_callSN (As := [_, _, _]) (n := 3) F dX1_sight_28 rfl gX1_sight_X8_sightOf_n43 nwM1_43 mX1_sight_iniX8_sightOf mX1_sight_stX8_sightOf (by decide +kernel) (by decide) rfl (Nat.le_of_ble_eq_true rfl) (kX8_sightOf _ G h) (mz_kI fun r_3 u_2 h hx_1 => ?_)
  exact mz_iret F dX1_sight_31 ⟨_, rfl, h⟩
def bX1_sight (this : Nat) (a1 : Int32) (u : mSt) (K : Int32 → mSt → Prop) : Prop := bX8_cellOf (mI u this 5) u (fun r_3 u_2 => (∃ q_4, mR u_2 this 0 = some q_4 ∧ (vp_in r_3 10 ∧ (((mI u_2 this 6) = r_3 → bX1_sight_28 a1 (mI u_2 q_4 r_3.toNatClampNeg) (1 : Int32) u_2 K) ∧ (¬ ((mI u_2 this 6) = r_3) → bX1_sight_28 a1 (mI u_2 q_4 r_3.toNatClampNeg) (0 : Int32) u_2 K)))))
set_option maxRecDepth 100000 in
set_option maxHeartbeats 4000000 in
theorem tX1_sight {X : mCx} {G : mG} {u0 : mSt} {K : Int32 → mSt → Prop} (F : mFx X G cX1_sight wsX1_sight RX1 "sight" 1 22 (some .int) u0 (mPi K)) (hN : X.2.2.2.2.2.2.2.2.2.2.2.2.1 = 3) {this : Nat} {a1 : Int32} {u : mSt} (kthis : mK u this = 2) (h : bX1_sight this a1 u K) : mZ X u 0 [(0, .ref (G.1 + this)), (1, .int a1)] [] := by
  refine mz_aload_n F dX1_sight_0 rfl 0 rfl ?_
  refine mz_getI F dX1_sight_1 fX1_sight_36 kthis ?_
  refine mz_callSN (As := [_]) (n := 1) F dX1_sight_4 rfl gX1_sight_X8_cellOf_n39 nwM1_39 mX1_sight_iniX8_cellOf mX1_sight_stX8_cellOf (by decide +kernel) (by decide) rfl (Nat.le_of_ble_eq_true rfl) (kX8_cellOf _ G h) (mz_kI fun r_3 u_2 h hx_1 => ?_)
  replace kthis := hx_1.2.2 _ _ (by decide) kthis
  refine mz_istore_n (lv2 := [(2, .int r_3), (0, .ref (G.1 + this)), (1, .int a1)]) F dX1_sight_7 rfl hN (by decide) rfl ?_
  refine mz_iload_n F dX1_sight_8 rfl 2 rfl ?_
  refine mz_aload_n F dX1_sight_9 rfl 1 rfl ?_
  obtain ⟨q_4, eq_4, h⟩ := h
  refine mz_getR F dX1_sight_10 fX1_sight_9 (by decide) kthis eq_4 (fun kq_4 => ?_)
  refine mz_iload_n F dX1_sight_13 rfl 0 rfl ?_
  obtain ⟨b_5, h⟩ := h
  refine mz_iald F dX1_sight_14 kq_4 rfl b_5 ?_
  refine mz_aload_n F dX1_sight_15 rfl 1 rfl ?_
  refine mz_getI F dX1_sight_16 fX1_sight_25 kthis ?_
  refine mz_iload_n F dX1_sight_19 rfl 0 rfl ?_
  refine mz_icmp_ne (tgt := 27) F dX1_sight_20 (by decide) (fun c_6 => ?_) (fun c_6 => ?_)
  · replace h := h.2 c_6
    refine mz_iconst (v := 0) F dX1_sight_27 (by decide) ?_
    refine mz_sub [] rfl ?_
    exact tX1_sight_28 F hN  h
  · replace h := h.1 c_6
    refine mz_iconst (v := 1) F dX1_sight_23 (by decide) ?_
    refine mz_goto (tgt := 28) F dX1_sight_24 (by decide) ?_
    refine mz_sub [] rfl ?_
    exact tX1_sight_28 F hN  h
set_option maxRecDepth 100000 in
theorem kX1_sight (l : Launch) (G : mG) {u : mSt} {K : Int32 → mSt → Prop} {this : Nat} {a1 : Int32} (kthis : mK u this = 2) (h : bX1_sight this a1 u K) : mCt l G yX1_sight wsX1_sight 1 22 [.ref (G.1 + this), .int a1] u (mPi K) := by
  refine mCt.of (cc := cX1_sight) (maxL := 3) (ret := (some .int)) (by decide) rfl (Nat.le_of_ble_eq_true rfl) ?_
  intro X hl hN F
  exact tX1_sight F hN kthis h
/-! RoomMapper$House.movePebble()V -/
theorem wiX1_movePebble_1 : ∀ w ∈ u_ws RX1 TX1 7, w ∈ wsX1_movePebble := by decide +kernel
theorem fX1_movePebble_36 : mFld wsX1_movePebble RX1 36 2 5 0 .int false := ⟨1, _, RX1, TX1, 7, tyX1, rfl, rfl, rfl, by decide, wiX1_movePebble_1, tyX1_ok, nmX1, rfl, rfl, Or.inl ⟨by decide +kernel, fun _ => rfl⟩⟩
theorem mX1_movePebble_iniX8_cellOf : Cond.initialized yX8_cellOf.cls ∈ wsX1_movePebble := by decide +kernel
theorem mX1_movePebble_stX8_cellOf : Cond.static yX8_cellOf ∈ wsX1_movePebble := by decide +kernel
theorem fX1_movePebble_25 : mFld wsX1_movePebble RX1 25 2 6 0 .int false := ⟨1, _, RX1, TX1, 7, tyX1, rfl, rfl, rfl, by decide, wiX1_movePebble_1, tyX1_ok, nmX1, rfl, rfl, Or.inl ⟨by decide +kernel, fun _ => rfl⟩⟩
def bX1_movePebble (this : Nat) (u : mSt) (K : mSt → Prop) : Prop := bX8_cellOf (mI u this 5) u (fun r_3 u_2 => (((mI u_2 this 6) = (-2 : Int32) → (∀ u_6, u_6 = mpI u_2 this 6 r_3 → K u_6)) ∧ (¬ ((mI u_2 this 6) = (-2 : Int32)) → (((mI u_2 this 6) = r_3 → (∀ u_4, u_4 = mpI u_2 this 6 (-2 : Int32) → K u_4)) ∧ (¬ ((mI u_2 this 6) = r_3) → K u_2)))))
set_option maxRecDepth 100000 in
set_option maxHeartbeats 4000000 in
theorem tX1_movePebble {X : mCx} {G : mG} {u0 : mSt} {K : mSt → Prop} (F : mFx X G cX1_movePebble wsX1_movePebble RX1 "movePebble" 1 20 none u0 (mPv K)) (hN : X.2.2.2.2.2.2.2.2.2.2.2.2.1 = 2) {this : Nat} {u : mSt} (kthis : mK u this = 2) (h : bX1_movePebble this u K) : mZ X u 0 [(0, .ref (G.1 + this))] [] := by
  refine mz_aload_n F dX1_movePebble_0 rfl 0 rfl ?_
  refine mz_getI F dX1_movePebble_1 fX1_movePebble_36 kthis ?_
  refine mz_callSN (As := [_]) (n := 1) F dX1_movePebble_4 rfl gX1_movePebble_X8_cellOf_n39 nwM1_39 mX1_movePebble_iniX8_cellOf mX1_movePebble_stX8_cellOf (by decide +kernel) (by decide) rfl (Nat.le_of_ble_eq_true rfl) (kX8_cellOf _ G h) (mz_kI fun r_3 u_2 h hx_1 => ?_)
  replace kthis := hx_1.2.2 _ _ (by decide) kthis
  refine mz_istore_n (lv2 := [(1, .int r_3), (0, .ref (G.1 + this))]) F dX1_movePebble_7 rfl hN (by decide) rfl ?_
  refine mz_aload_n F dX1_movePebble_8 rfl 1 rfl ?_
  refine mz_getI F dX1_movePebble_9 fX1_movePebble_25 kthis ?_
  refine mz_bipush (v := (-2)) F dX1_movePebble_12 (by decide) ?_
  refine mz_icmp_ne (tgt := 25) F dX1_movePebble_14 (by decide) (fun c_7 => ?_) (fun c_7 => ?_)
  · replace h := h.2 c_7
    refine mz_aload_n F dX1_movePebble_25 rfl 1 rfl ?_
    refine mz_getI F dX1_movePebble_26 fX1_movePebble_25 kthis ?_
    refine mz_iload_n F dX1_movePebble_29 rfl 0 rfl ?_
    refine mz_icmp_ne (tgt := 39) F dX1_movePebble_30 (by decide) (fun c_5 => ?_) (fun c_5 => ?_)
    · replace h := h.2 c_5
      exact mz_vret F dX1_movePebble_39 ⟨rfl, h⟩
    · replace h := h.1 c_5
      refine mz_aload_n F dX1_movePebble_33 rfl 1 rfl ?_
      refine mz_bipush (v := (-2)) F dX1_movePebble_34 (by decide) ?_
      refine mz_putI F dX1_movePebble_36 fX1_movePebble_25 kthis rfl rfl (fun u_4 eu_4 hxu_4 => ?_)
      replace h := h u_4 eu_4
      exact mz_vret F dX1_movePebble_39 ⟨rfl, h⟩
  · replace h := h.1 c_7
    refine mz_aload_n F dX1_movePebble_17 rfl 1 rfl ?_
    refine mz_iload_n F dX1_movePebble_18 rfl 0 rfl ?_
    refine mz_putI F dX1_movePebble_19 fX1_movePebble_25 kthis rfl rfl (fun u_6 eu_6 hxu_6 => ?_)
    replace h := h u_6 eu_6
    refine mz_goto (tgt := 39) F dX1_movePebble_22 (by decide) ?_
    exact mz_vret F dX1_movePebble_39 ⟨rfl, h⟩
set_option maxRecDepth 100000 in
theorem kX1_movePebble (l : Launch) (G : mG) {u : mSt} {K : mSt → Prop} {this : Nat} (kthis : mK u this = 2) (h : bX1_movePebble this u K) : mCt l G yX1_movePebble wsX1_movePebble 1 20 [.ref (G.1 + this)] u (mPv K) := by
  refine mCt.of (cc := cX1_movePebble) (maxL := 2) (ret := none) (by decide) rfl (Nat.le_of_ble_eq_true rfl) ?_
  intro X hl hN F
  exact tX1_movePebble F hN kthis h
/-! RoomMapper.turnOf(I)I -/
def bX8_turnOf (a0 : Int32) (u : mSt) (K : Int32 → mSt → Prop) : Prop := K ((a0 / (2 : Int32)) - (a0 / (2 : Int32)) / (4 : Int32) * (4 : Int32)) u
set_option maxRecDepth 100000 in
set_option maxHeartbeats 4000000 in
theorem tX8_turnOf {X : mCx} {G : mG} {u0 : mSt} {K : Int32 → mSt → Prop} (F : mFx X G cX8_turnOf wsX8_turnOf RX8 "turnOf" 0 0 (some .int) u0 (mPi K)) (hN : X.2.2.2.2.2.2.2.2.2.2.2.2.1 = 1) {a0 : Int32} {u : mSt} (h : bX8_turnOf a0 u K) : mZ X u 0 [(0, .int a0)] [] := by
  refine mz_iload_n F dX8_turnOf_0 rfl 0 rfl ?_
  refine mz_iconst (v := 2) F dX8_turnOf_1 (by decide) ?_
  refine mz_idiv F dX8_turnOf_2 (by decide) ?_
  refine mz_iconst (v := 4) F dX8_turnOf_3 (by decide) ?_
  refine mz_irem F dX8_turnOf_4 (by decide) ?_
  exact mz_iret F dX8_turnOf_5 ⟨_, rfl, h⟩
set_option maxRecDepth 100000 in
theorem kX8_turnOf (l : Launch) (G : mG) {u : mSt} {K : Int32 → mSt → Prop} {a0 : Int32} (h : bX8_turnOf a0 u K) : mCt l G yX8_turnOf wsX8_turnOf 0 0 [.int a0] u (mPi K) := by
  refine mCt.of (cc := cX8_turnOf) (maxL := 1) (ret := (some .int)) (by decide) rfl (Nat.le_of_ble_eq_true rfl) ?_
  intro X hl hN F
  exact tX8_turnOf F hN  h
/-! RoomMapper.switchOf(I)I -/
def bX8_switchOf (a0 : Int32) (u : mSt) (K : Int32 → mSt → Prop) : Prop := K (a0 - a0 / (2 : Int32) * (2 : Int32)) u
set_option maxRecDepth 100000 in
set_option maxHeartbeats 4000000 in
theorem tX8_switchOf {X : mCx} {G : mG} {u0 : mSt} {K : Int32 → mSt → Prop} (F : mFx X G cX8_switchOf wsX8_switchOf RX8 "switchOf" 0 0 (some .int) u0 (mPi K)) (hN : X.2.2.2.2.2.2.2.2.2.2.2.2.1 = 1) {a0 : Int32} {u : mSt} (h : bX8_switchOf a0 u K) : mZ X u 0 [(0, .int a0)] [] := by
  refine mz_iload_n F dX8_switchOf_0 rfl 0 rfl ?_
  refine mz_iconst (v := 2) F dX8_switchOf_1 (by decide) ?_
  refine mz_irem F dX8_switchOf_2 (by decide) ?_
  exact mz_iret F dX8_switchOf_3 ⟨_, rfl, h⟩
set_option maxRecDepth 100000 in
theorem kX8_switchOf (l : Launch) (G : mG) {u : mSt} {K : Int32 → mSt → Prop} {a0 : Int32} (h : bX8_switchOf a0 u K) : mCt l G yX8_switchOf wsX8_switchOf 0 0 [.int a0] u (mPi K) := by
  refine mCt.of (cc := cX8_switchOf) (maxL := 1) (ret := (some .int)) (by decide) rfl (Nat.le_of_ble_eq_true rfl) ?_
  intro X hl hN F
  exact tX8_switchOf F hN  h
/-! RoomMapper$House.slideEnd(II)I -/
theorem wiX1_slideEnd_1 : ∀ w ∈ u_ws RX1 TX1 7, w ∈ wsX1_slideEnd := by decide +kernel
theorem fX1_slideEnd_19 : mFld wsX1_slideEnd RX1 19 2 2 14 (.array .int) true := ⟨1, _, RX1, TX1, 7, tyX1, rfl, rfl, rfl, by decide, wiX1_slideEnd_1, tyX1_ok, nmX1, rfl, rfl, Or.inl ⟨by decide +kernel, fun _ => rfl⟩⟩
theorem fX1_slideEnd_22 : mFld wsX1_slideEnd RX1 22 2 3 14 (.array .int) true := ⟨1, _, RX1, TX1, 7, tyX1, rfl, rfl, rfl, by decide, wiX1_slideEnd_1, tyX1_ok, nmX1, rfl, rfl, Or.inl ⟨by decide +kernel, fun _ => rfl⟩⟩
def bX1_slideEnd_5 : Nat → Nat → Int32 → Int32 → Int32 → mSt → (Int32 → mSt → Prop) → Prop
  | 0, _, _, _, _, _, _ => False
  | n + 1, v0, v2, v3, v4, u, K => (((10 : Int32) ≤ v4 → K v3 u) ∧ (¬ ((10 : Int32) ≤ v4) → (∃ q_1, mR u v0 2 = some q_1 ∧ (vp_in ((v3 * (4 : Int32)) + v2) 40 ∧ (((mI u q_1 ((v3 * (4 : Int32)) + v2).toNatClampNeg) = (3 : Int32) → (∃ q_3, mR u v0 3 = some q_3 ∧ (vp_in ((v3 * (4 : Int32)) + v2) 40 ∧ (∀ x_5, x_5 = (mI u q_3 ((v3 * (4 : Int32)) + v2).toNatClampNeg) → (∀ x_6, x_6 = v4 + (1 : Int32) → bX1_slideEnd_5 n v0 v2 x_5 x_6 u K))))) ∧ (¬ ((mI u q_1 ((v3 * (4 : Int32)) + v2).toNatClampNeg) = (3 : Int32)) → K v3 u))))))
set_option maxRecDepth 100000 in
set_option maxHeartbeats 4000000 in
theorem tX1_slideEnd_5 {X : mCx} {G : mG} {u0 : mSt} {K : Int32 → mSt → Prop} (F : mFx X G cX1_slideEnd wsX1_slideEnd RX1 "slideEnd" 0 0 (some .int) u0 (mPi K)) (hN : X.2.2.2.2.2.2.2.2.2.2.2.2.1 = 5) : ∀ (n : Nat) {v0 : Nat} {v2 : Int32} {v3 : Int32} {v4 : Int32} {u : mSt}, mK u v0 = 2 → bX1_slideEnd_5 n v0 v2 v3 v4 u K → mZ X u 5 [(0, .ref (G.1 + v0)), (2, .int v2), (3, .int v3), (4, .int v4)] [] := by
  intro n
  induction n with
  | zero => intro v0 v2 v3 v4 u kv0 h; exact False.elim h
  | succ n ih =>
    intro v0 v2 v3 v4 u kv0 h
    refine mz_iload F dX1_slideEnd_5 3 rfl ?_
    refine mz_bipush (v := 10) F dX1_slideEnd_7 (by decide) ?_
    refine mz_icmp_ge (tgt := 43) F dX1_slideEnd_9 (by decide) (fun c_8 => ?_) (fun c_8 => ?_)
    · replace h := h.1 c_8
      refine mz_iload_n F dX1_slideEnd_43 rfl 2 rfl ?_
      exact mz_iret F dX1_slideEnd_44 ⟨_, rfl, h⟩
    · replace h := h.2 c_8
      refine mz_aload_n F dX1_slideEnd_12 rfl 0 rfl ?_
      obtain ⟨q_1, eq_1, h⟩ := h
      refine mz_getR F dX1_slideEnd_13 fX1_slideEnd_19 (by decide) kv0 eq_1 (fun kq_1 => ?_)
      refine mz_iload_n F dX1_slideEnd_16 rfl 2 rfl ?_
      refine mz_iconst (v := 4) F dX1_slideEnd_17 (by decide) ?_
      refine mz_imul F dX1_slideEnd_18 ?_
      refine mz_iload_n F dX1_slideEnd_19 rfl 1 rfl ?_
      refine mz_iadd F dX1_slideEnd_20 ?_
      obtain ⟨b_2, h⟩ := h
      refine mz_iald F dX1_slideEnd_21 kq_1 rfl b_2 ?_
      refine mz_iconst (v := 3) F dX1_slideEnd_22 (by decide) ?_
      refine mz_icmp_ne (tgt := 43) F dX1_slideEnd_23 (by decide) (fun c_7 => ?_) (fun c_7 => ?_)
      · replace h := h.2 c_7
        refine mz_iload_n F dX1_slideEnd_43 rfl 2 rfl ?_
        exact mz_iret F dX1_slideEnd_44 ⟨_, rfl, h⟩
      · replace h := h.1 c_7
        refine mz_aload_n F dX1_slideEnd_26 rfl 0 rfl ?_
        obtain ⟨q_3, eq_3, h⟩ := h
        refine mz_getR F dX1_slideEnd_27 fX1_slideEnd_22 (by decide) kv0 eq_3 (fun kq_3 => ?_)
        refine mz_iload_n F dX1_slideEnd_30 rfl 2 rfl ?_
        refine mz_iconst (v := 4) F dX1_slideEnd_31 (by decide) ?_
        refine mz_imul F dX1_slideEnd_32 ?_
        refine mz_iload_n F dX1_slideEnd_33 rfl 1 rfl ?_
        refine mz_iadd F dX1_slideEnd_34 ?_
        obtain ⟨b_4, h⟩ := h
        refine mz_iald F dX1_slideEnd_35 kq_3 rfl b_4 ?_
        refine mz_topi (fun x_5 ex_5 => ?_)
        replace h := h x_5 ex_5
        refine mz_istore_n (lv2 := [(3, .int x_5), (0, .ref (G.1 + v0)), (2, .int v2), (4, .int v4)]) F dX1_slideEnd_36 rfl hN (by decide) rfl ?_
        obtain ⟨x_6, ex_6⟩ : ∃ y : Int32, y = v4 + (1 : Int32) := ⟨_, rfl⟩
        replace h := h x_6 ex_6
        refine mz_iinc (v := x_6) (lv2 := [(4, .int x_6), (3, .int x_5), (0, .ref (G.1 + v0)), (2, .int v2)]) F dX1_slideEnd_37 3 rfl (by rw [ex_6]; rfl) hN (by decide) rfl ?_
        refine mz_goto (tgt := 5) F dX1_slideEnd_40 (by decide) ?_
        refine mz_sub [2, 3, 1, 0] rfl ?_
        exact ih kv0 h
def bX1_slideEnd (this : Nat) (a1 : Int32) (a2 : Int32) (u : mSt) (K : Int32 → mSt → Prop) : Prop := (∃ n9, bX1_slideEnd_5 n9 this a2 a1 (0 : Int32) u K)
set_option maxRecDepth 100000 in
set_option maxHeartbeats 4000000 in
theorem tX1_slideEnd {X : mCx} {G : mG} {u0 : mSt} {K : Int32 → mSt → Prop} (F : mFx X G cX1_slideEnd wsX1_slideEnd RX1 "slideEnd" 0 0 (some .int) u0 (mPi K)) (hN : X.2.2.2.2.2.2.2.2.2.2.2.2.1 = 5) {this : Nat} {a1 : Int32} {a2 : Int32} {u : mSt} (kthis : mK u this = 2) (h : bX1_slideEnd this a1 a2 u K) : mZ X u 0 [(0, .ref (G.1 + this)), (1, .int a1), (2, .int a2)] [] := by
  refine mz_iload_n F dX1_slideEnd_0 rfl 1 rfl ?_
  refine mz_istore_n (lv2 := [(3, .int a1), (0, .ref (G.1 + this)), (1, .int a1), (2, .int a2)]) F dX1_slideEnd_1 rfl hN (by decide) rfl ?_
  refine mz_iconst (v := 0) F dX1_slideEnd_2 (by decide) ?_
  refine mz_istore (lv2 := [(4, .int (0 : Int32)), (3, .int a1), (0, .ref (G.1 + this)), (1, .int a1), (2, .int a2)]) F dX1_slideEnd_3 hN (by decide) rfl ?_
  refine mz_sub [2, 4, 1, 0] rfl ?_
  obtain ⟨n9, h⟩ := h
  exact tX1_slideEnd_5 F hN n9 kthis h
set_option maxRecDepth 100000 in
theorem kX1_slideEnd (l : Launch) (G : mG) {u : mSt} {K : Int32 → mSt → Prop} {this : Nat} {a1 : Int32} {a2 : Int32} (kthis : mK u this = 2) (h : bX1_slideEnd this a1 a2 u K) : mCt l G yX1_slideEnd wsX1_slideEnd 0 0 [.ref (G.1 + this), .int a1, .int a2] u (mPi K) := by
  refine mCt.of (cc := cX1_slideEnd) (maxL := 5) (ret := (some .int)) (by decide) rfl (Nat.le_of_ble_eq_true rfl) ?_
  intro X hl hN F
  exact tX1_slideEnd F hN kthis h
/-! RoomMapper$House.after(II)I -/
theorem mX1_after_iniX8_cellOf : Cond.initialized yX8_cellOf.cls ∈ wsX1_after := by decide +kernel
theorem mX1_after_stX8_cellOf : Cond.static yX8_cellOf ∈ wsX1_after := by decide +kernel
theorem mX1_after_iniX8_turnOf : Cond.initialized yX8_turnOf.cls ∈ wsX1_after := by decide +kernel
theorem mX1_after_stX8_turnOf : Cond.static yX8_turnOf ∈ wsX1_after := by decide +kernel
theorem mX1_after_iniX8_switchOf : Cond.initialized yX8_switchOf.cls ∈ wsX1_after := by decide +kernel
theorem mX1_after_stX8_switchOf : Cond.static yX8_switchOf ∈ wsX1_after := by decide +kernel
theorem wiX1_after_1 : ∀ w ∈ u_ws RX1 TX1 7, w ∈ wsX1_after := by decide +kernel
theorem fX1_after_19 : mFld wsX1_after RX1 19 2 2 14 (.array .int) true := ⟨1, _, RX1, TX1, 7, tyX1, rfl, rfl, rfl, by decide, wiX1_after_1, tyX1_ok, nmX1, rfl, rfl, Or.inl ⟨by decide +kernel, fun _ => rfl⟩⟩
theorem fX1_after_22 : mFld wsX1_after RX1 22 2 3 14 (.array .int) true := ⟨1, _, RX1, TX1, 7, tyX1, rfl, rfl, rfl, by decide, wiX1_after_1, tyX1_ok, nmX1, rfl, rfl, Or.inl ⟨by decide +kernel, fun _ => rfl⟩⟩
theorem mX1_after_iniX8_standOf : Cond.initialized yX8_standOf.cls ∈ wsX1_after := by decide +kernel
theorem mX1_after_stX8_standOf : Cond.static yX8_standOf ∈ wsX1_after := by decide +kernel
theorem fX1_after_15 : mFld wsX1_after RX1 15 2 1 13 (.array .boolean) true := ⟨1, _, RX1, TX1, 7, tyX1, rfl, rfl, rfl, by decide, wiX1_after_1, tyX1_ok, nmX1, rfl, rfl, Or.inl ⟨by decide +kernel, fun _ => rfl⟩⟩
def bX1_after (this : Nat) (a1 : Int32) (a2 : Int32) (u : mSt) (K : Int32 → mSt → Prop) : Prop := bX8_cellOf a1 u (fun r_3 u_2 => bX8_turnOf a1 u_2 (fun r_6 u_5 => bX8_switchOf a1 u_5 (fun r_9 u_8 => ((a2 = (4 : Int32) → (∃ q_56, mR u_8 this 1 = some q_56 ∧ (vp_in r_3 10 ∧ (((mI u_8 q_56 r_3.toNatClampNeg) = 0 → K a1 u_8) ∧ (¬ ((mI u_8 q_56 r_3.toNatClampNeg) = 0) → bX8_standOf r_3 r_6 ((1 : Int32) - r_9) u_8 (fun r_60 u_59 => K r_60 u_59)))))) ∧ (¬ (a2 = (4 : Int32)) → (∀ x_10, x_10 = ((a2 + r_6) - (a2 + r_6) / (4 : Int32) * (4 : Int32)) → (∀ x_11, x_11 = ((r_3 * (4 : Int32)) + x_10) → (∃ q_12, mR u_8 this 2 = some q_12 ∧ (vp_in x_11 40 ∧ (∀ x_55, x_55 = (mI u_8 q_12 x_11.toNatClampNeg) → ((x_55 = (0 : Int32) → K (-2 : Int32) u_8) ∧ (¬ x_55 = (0 : Int32) → ((x_55 = (1 : Int32) → (∃ q_50, mR u_8 this 3 = some q_50 ∧ (vp_in x_11 40 ∧ bX8_standOf (mI u_8 q_50 x_11.toNatClampNeg) r_6 r_9 u_8 (fun r_54 u_53 => K r_54 u_53)))) ∧ (¬ x_55 = (1 : Int32) → ((x_55 = (2 : Int32) → ((r_9 = 0 → K (-2 : Int32) u_8) ∧ (¬ (r_9 = 0) → (∃ q_44, mR u_8 this 3 = some q_44 ∧ (vp_in x_11 40 ∧ bX8_standOf (mI u_8 q_44 x_11.toNatClampNeg) r_6 r_9 u_8 (fun r_48 u_47 => K r_48 u_47)))))) ∧ (¬ x_55 = (2 : Int32) → ((x_55 = (3 : Int32) → (∃ q_36, mR u_8 this 3 = some q_36 ∧ (vp_in x_11 40 ∧ bX1_slideEnd this (mI u_8 q_36 x_11.toNatClampNeg) x_10 u_8 (fun r_40 u_39 => bX8_standOf r_40 r_6 r_9 u_39 (fun r_43 u_42 => K r_43 u_42))))) ∧ (¬ x_55 = (3 : Int32) → ((x_55 = (4 : Int32) → (∃ q_31, mR u_8 this 3 = some q_31 ∧ (vp_in x_11 40 ∧ bX8_standOf (mI u_8 q_31 x_11.toNatClampNeg) ((r_6 + (1 : Int32)) - (r_6 + (1 : Int32)) / (4 : Int32) * (4 : Int32)) r_9 u_8 (fun r_35 u_34 => K r_35 u_34)))) ∧ (¬ x_55 = (4 : Int32) → ((x_55 = (5 : Int32) → ((r_9 = 0 → K (-2 : Int32) u_8) ∧ (¬ (r_9 = 0) → (∃ q_25, mR u_8 this 3 = some q_25 ∧ (vp_in x_11 40 ∧ bX8_standOf (mI u_8 q_25 x_11.toNatClampNeg) r_6 (0 : Int32) u_8 (fun r_29 u_28 => K r_29 u_28)))))) ∧ (¬ x_55 = (5 : Int32) → (∃ q_14, mR u_8 this 3 = some q_14 ∧ (vp_in x_11 40 ∧ bX8_standOf (mI u_8 q_14 x_11.toNatClampNeg) r_6 r_9 u_8 (fun r_18 u_17 => K r_18 u_17)))))))))))))))))))))))))
set_option maxRecDepth 100000 in
set_option maxHeartbeats 4000000 in
theorem tX1_after {X : mCx} {G : mG} {u0 : mSt} {K : Int32 → mSt → Prop} (F : mFx X G cX1_after wsX1_after RX1 "after" 1 24 (some .int) u0 (mPi K)) (hN : X.2.2.2.2.2.2.2.2.2.2.2.2.1 = 8) {this : Nat} {a1 : Int32} {a2 : Int32} {u : mSt} (kthis : mK u this = 2) (h : bX1_after this a1 a2 u K) : mZ X u 0 [(0, .ref (G.1 + this)), (1, .int a1), (2, .int a2)] [] := by
  refine mz_iload_n F dX1_after_0 rfl 1 rfl ?_
  refine mz_callSN (As := [_]) (n := 1) F dX1_after_1 rfl gX1_after_X8_cellOf_n39 nwM1_39 mX1_after_iniX8_cellOf mX1_after_stX8_cellOf (by decide +kernel) (by decide) rfl (Nat.le_of_ble_eq_true rfl) (kX8_cellOf _ G h) (mz_kI fun r_3 u_2 h hx_1 => ?_)
  replace kthis := hx_1.2.2 _ _ (by decide) kthis
  refine mz_istore_n (lv2 := [(3, .int r_3), (0, .ref (G.1 + this)), (1, .int a1), (2, .int a2)]) F dX1_after_4 rfl hN (by decide) rfl ?_
  refine mz_iload_n F dX1_after_5 rfl 2 rfl ?_
  refine mz_callSN (As := [_]) (n := 1) F dX1_after_6 rfl gX1_after_X8_turnOf_n54 nwM1_54 mX1_after_iniX8_turnOf mX1_after_stX8_turnOf (by decide +kernel) (by decide) rfl (Nat.le_of_ble_eq_true rfl) (kX8_turnOf _ G h) (mz_kI fun r_6 u_5 h hx_4 => ?_)
  replace kthis := hx_4.2.2 _ _ (by decide) kthis
  refine mz_istore (lv2 := [(4, .int r_6), (3, .int r_3), (0, .ref (G.1 + this)), (1, .int a1), (2, .int a2)]) F dX1_after_9 hN (by decide) rfl ?_
  refine mz_iload_n F dX1_after_11 rfl 3 rfl ?_
  refine mz_callSN (As := [_]) (n := 1) F dX1_after_12 rfl gX1_after_X8_switchOf_n57 nwM1_57 mX1_after_iniX8_switchOf mX1_after_stX8_switchOf (by decide +kernel) (by decide) rfl (Nat.le_of_ble_eq_true rfl) (kX8_switchOf _ G h) (mz_kI fun r_9 u_8 h hx_7 => ?_)
  replace kthis := hx_7.2.2 _ _ (by decide) kthis
  refine mz_istore (lv2 := [(5, .int r_9), (4, .int r_6), (3, .int r_3), (0, .ref (G.1 + this)), (1, .int a1), (2, .int a2)]) F dX1_after_15 hN (by decide) rfl ?_
  refine mz_iload_n F dX1_after_17 rfl 5 rfl ?_
  refine mz_iconst (v := 4) F dX1_after_18 (by decide) ?_
  refine mz_icmp_ne (tgt := 46) F dX1_after_19 (by decide) (fun c_62 => ?_) (fun c_62 => ?_)
  · replace h := h.2 c_62
    refine mz_iload_n F dX1_after_46 rfl 5 rfl ?_
    refine mz_iload F dX1_after_47 1 rfl ?_
    refine mz_iadd F dX1_after_49 ?_
    refine mz_iconst (v := 4) F dX1_after_50 (by decide) ?_
    refine mz_irem F dX1_after_51 (by decide) ?_
    refine mz_topi (fun x_10 ex_10 => ?_)
    replace h := h x_10 ex_10
    refine mz_istore (lv2 := [(6, .int x_10), (5, .int r_9), (4, .int r_6), (3, .int r_3), (0, .ref (G.1 + this)), (1, .int a1), (2, .int a2)]) F dX1_after_52 hN (by decide) rfl ?_
    refine mz_iload_n F dX1_after_54 rfl 3 rfl ?_
    refine mz_iconst (v := 4) F dX1_after_55 (by decide) ?_
    refine mz_imul F dX1_after_56 ?_
    refine mz_iload F dX1_after_57 0 rfl ?_
    refine mz_iadd F dX1_after_59 ?_
    refine mz_topi (fun x_11 ex_11 => ?_)
    replace h := h x_11 ex_11
    refine mz_istore (lv2 := [(7, .int x_11), (6, .int x_10), (5, .int r_9), (4, .int r_6), (3, .int r_3), (0, .ref (G.1 + this)), (1, .int a1), (2, .int a2)]) F dX1_after_60 hN (by decide) rfl ?_
    refine mz_aload_n F dX1_after_62 rfl 5 rfl ?_
    obtain ⟨q_12, eq_12, h⟩ := h
    refine mz_getR F dX1_after_63 fX1_after_19 (by decide) kthis eq_12 (fun kq_12 => ?_)
    refine mz_iload F dX1_after_66 0 rfl ?_
    obtain ⟨b_13, h⟩ := h
    refine mz_iald F dX1_after_68 kq_12 rfl b_13 ?_
    refine mz_topi (fun x_55 ex_55 => ?_)
    replace h := h x_55 ex_55
    refine Classical.byCases (p := x_55 = (0 : Int32)) (fun c_19 => ?_) (fun c_19 => ?_)
    · replace h := h.1 c_19
      have ec_19 := mte (z := 0) rfl c_19
      refine mz_tableIn (off := 39) (tgt := 108) F dX1_after_69 (by omega) (by omega) (by rw [ec_19]; rfl) (by decide) ?_
      refine mz_bipush (v := (-2)) F dX1_after_108 (by decide) ?_
      exact mz_iret F dX1_after_110 ⟨_, rfl, h⟩
    · replace h := h.2 c_19
      refine Classical.byCases (p := x_55 = (1 : Int32)) (fun c_20 => ?_) (fun c_20 => ?_)
      · replace h := h.1 c_20
        have ec_20 := mte (z := 1) rfl c_20
        refine mz_tableIn (off := 131) (tgt := 200) F dX1_after_69 (by omega) (by omega) (by rw [ec_20]; rfl) (by decide) ?_
        refine mz_aload_n F dX1_after_200 rfl 5 rfl ?_
        obtain ⟨q_50, eq_50, h⟩ := h
        refine mz_getR F dX1_after_201 fX1_after_22 (by decide) kthis eq_50 (fun kq_50 => ?_)
        refine mz_iload F dX1_after_204 0 rfl ?_
        obtain ⟨b_51, h⟩ := h
        refine mz_iald F dX1_after_206 kq_50 rfl b_51 ?_
        refine mz_iload F dX1_after_207 3 rfl ?_
        refine mz_iload F dX1_after_209 2 rfl ?_
        refine mz_callSN (As := [_, _, _]) (n := 3) F dX1_after_211 rfl gX1_after_X8_standOf_n32 nwM1_32 mX1_after_iniX8_standOf mX1_after_stX8_standOf (by decide +kernel) (by decide) rfl (Nat.le_of_ble_eq_true rfl) (kX8_standOf _ G h) (mz_kI fun r_54 u_53 h hx_52 => ?_)
        exact mz_iret F dX1_after_214 ⟨_, rfl, h⟩
      · replace h := h.2 c_20
        refine Classical.byCases (p := x_55 = (2 : Int32)) (fun c_21 => ?_) (fun c_21 => ?_)
        · replace h := h.1 c_21
          have ec_21 := mte (z := 2) rfl c_21
          refine mz_tableIn (off := 42) (tgt := 111) F dX1_after_69 (by omega) (by omega) (by rw [ec_21]; rfl) (by decide) ?_
          refine mz_iload F dX1_after_111 2 rfl ?_
          refine mz_if_ne (tgt := 121) F dX1_after_113 (by decide) (fun c_49 => ?_) (fun c_49 => ?_)
          · replace h := h.2 c_49
            refine mz_aload_n F dX1_after_121 rfl 5 rfl ?_
            obtain ⟨q_44, eq_44, h⟩ := h
            refine mz_getR F dX1_after_122 fX1_after_22 (by decide) kthis eq_44 (fun kq_44 => ?_)
            refine mz_iload F dX1_after_125 0 rfl ?_
            obtain ⟨b_45, h⟩ := h
            refine mz_iald F dX1_after_127 kq_44 rfl b_45 ?_
            refine mz_iload F dX1_after_128 3 rfl ?_
            refine mz_iload F dX1_after_130 2 rfl ?_
            refine mz_callSN (As := [_, _, _]) (n := 3) F dX1_after_132 rfl gX1_after_X8_standOf_n32 nwM1_32 mX1_after_iniX8_standOf mX1_after_stX8_standOf (by decide +kernel) (by decide) rfl (Nat.le_of_ble_eq_true rfl) (kX8_standOf _ G h) (mz_kI fun r_48 u_47 h hx_46 => ?_)
            exact mz_iret F dX1_after_135 ⟨_, rfl, h⟩
          · replace h := h.1 c_49
            refine mz_bipush (v := (-2)) F dX1_after_116 (by decide) ?_
            refine mz_goto (tgt := 135) F dX1_after_118 (by decide) ?_
            exact mz_iret F dX1_after_135 ⟨_, rfl, h⟩
        · replace h := h.2 c_21
          refine Classical.byCases (p := x_55 = (3 : Int32)) (fun c_22 => ?_) (fun c_22 => ?_)
          · replace h := h.1 c_22
            have ec_22 := mte (z := 3) rfl c_22
            refine mz_tableIn (off := 67) (tgt := 136) F dX1_after_69 (by omega) (by omega) (by rw [ec_22]; rfl) (by decide) ?_
            refine mz_aload_n F dX1_after_136 rfl 5 rfl ?_
            refine mz_aload_n F dX1_after_137 rfl 5 rfl ?_
            obtain ⟨q_36, eq_36, h⟩ := h
            refine mz_getR F dX1_after_138 fX1_after_22 (by decide) kthis eq_36 (fun kq_36 => ?_)
            refine mz_iload F dX1_after_141 0 rfl ?_
            obtain ⟨b_37, h⟩ := h
            refine mz_iald F dX1_after_143 kq_36 rfl b_37 ?_
            refine mz_iload F dX1_after_144 1 rfl ?_
            refine mz_callV (As := [_, _]) (n := 2) F dX1_after_146 rfl kthis rfl rfl gX1_after_X1_slideEnd (by decide +kernel) (by decide) rfl (Nat.le_of_ble_eq_true rfl) (kX1_slideEnd _ G kthis h) (mz_kI fun r_40 u_39 h hx_38 => ?_)
            refine mz_iload F dX1_after_149 3 rfl ?_
            refine mz_iload F dX1_after_151 2 rfl ?_
            refine mz_callSN (As := [_, _, _]) (n := 3) F dX1_after_153 rfl gX1_after_X8_standOf_n32 nwM1_32 mX1_after_iniX8_standOf mX1_after_stX8_standOf (by decide +kernel) (by decide) rfl (Nat.le_of_ble_eq_true rfl) (kX8_standOf _ G h) (mz_kI fun r_43 u_42 h hx_41 => ?_)
            exact mz_iret F dX1_after_156 ⟨_, rfl, h⟩
          · replace h := h.2 c_22
            refine Classical.byCases (p := x_55 = (4 : Int32)) (fun c_23 => ?_) (fun c_23 => ?_)
            · replace h := h.1 c_23
              have ec_23 := mte (z := 4) rfl c_23
              refine mz_tableIn (off := 88) (tgt := 157) F dX1_after_69 (by omega) (by omega) (by rw [ec_23]; rfl) (by decide) ?_
              refine mz_aload_n F dX1_after_157 rfl 5 rfl ?_
              obtain ⟨q_31, eq_31, h⟩ := h
              refine mz_getR F dX1_after_158 fX1_after_22 (by decide) kthis eq_31 (fun kq_31 => ?_)
              refine mz_iload F dX1_after_161 0 rfl ?_
              obtain ⟨b_32, h⟩ := h
              refine mz_iald F dX1_after_163 kq_31 rfl b_32 ?_
              refine mz_iload F dX1_after_164 3 rfl ?_
              refine mz_iconst (v := 1) F dX1_after_166 (by decide) ?_
              refine mz_iadd F dX1_after_167 ?_
              refine mz_iconst (v := 4) F dX1_after_168 (by decide) ?_
              refine mz_irem F dX1_after_169 (by decide) ?_
              refine mz_iload F dX1_after_170 2 rfl ?_
              refine mz_callSN (As := [_, _, _]) (n := 3) F dX1_after_172 rfl gX1_after_X8_standOf_n32 nwM1_32 mX1_after_iniX8_standOf mX1_after_stX8_standOf (by decide +kernel) (by decide) rfl (Nat.le_of_ble_eq_true rfl) (kX8_standOf _ G h) (mz_kI fun r_35 u_34 h hx_33 => ?_)
              exact mz_iret F dX1_after_175 ⟨_, rfl, h⟩
            · replace h := h.2 c_23
              refine Classical.byCases (p := x_55 = (5 : Int32)) (fun c_24 => ?_) (fun c_24 => ?_)
              · replace h := h.1 c_24
                have ec_24 := mte (z := 5) rfl c_24
                refine mz_tableIn (off := 107) (tgt := 176) F dX1_after_69 (by omega) (by omega) (by rw [ec_24]; rfl) (by decide) ?_
                refine mz_iload F dX1_after_176 2 rfl ?_
                refine mz_if_ne (tgt := 186) F dX1_after_178 (by decide) (fun c_30 => ?_) (fun c_30 => ?_)
                · replace h := h.2 c_30
                  refine mz_aload_n F dX1_after_186 rfl 5 rfl ?_
                  obtain ⟨q_25, eq_25, h⟩ := h
                  refine mz_getR F dX1_after_187 fX1_after_22 (by decide) kthis eq_25 (fun kq_25 => ?_)
                  refine mz_iload F dX1_after_190 0 rfl ?_
                  obtain ⟨b_26, h⟩ := h
                  refine mz_iald F dX1_after_192 kq_25 rfl b_26 ?_
                  refine mz_iload F dX1_after_193 3 rfl ?_
                  refine mz_iconst (v := 0) F dX1_after_195 (by decide) ?_
                  refine mz_callSN (As := [_, _, _]) (n := 3) F dX1_after_196 rfl gX1_after_X8_standOf_n32 nwM1_32 mX1_after_iniX8_standOf mX1_after_stX8_standOf (by decide +kernel) (by decide) rfl (Nat.le_of_ble_eq_true rfl) (kX8_standOf _ G h) (mz_kI fun r_29 u_28 h hx_27 => ?_)
                  exact mz_iret F dX1_after_199 ⟨_, rfl, h⟩
                · replace h := h.1 c_30
                  refine mz_bipush (v := (-2)) F dX1_after_181 (by decide) ?_
                  refine mz_goto (tgt := 199) F dX1_after_183 (by decide) ?_
                  exact mz_iret F dX1_after_199 ⟨_, rfl, h⟩
              · replace h := h.2 c_24
                have nc_19 := mtn (z := 0) rfl c_19
                have nc_20 := mtn (z := 1) rfl c_20
                have nc_21 := mtn (z := 2) rfl c_21
                have nc_22 := mtn (z := 3) rfl c_22
                have nc_23 := mtn (z := 4) rfl c_23
                have nc_24 := mtn (z := 5) rfl c_24
                refine mz_tableOut (tgt := 200) F dX1_after_69 (by omega) (by decide) ?_
                refine mz_aload_n F dX1_after_200 rfl 5 rfl ?_
                obtain ⟨q_14, eq_14, h⟩ := h
                refine mz_getR F dX1_after_201 fX1_after_22 (by decide) kthis eq_14 (fun kq_14 => ?_)
                refine mz_iload F dX1_after_204 0 rfl ?_
                obtain ⟨b_15, h⟩ := h
                refine mz_iald F dX1_after_206 kq_14 rfl b_15 ?_
                refine mz_iload F dX1_after_207 3 rfl ?_
                refine mz_iload F dX1_after_209 2 rfl ?_
                refine mz_callSN (As := [_, _, _]) (n := 3) F dX1_after_211 rfl gX1_after_X8_standOf_n32 nwM1_32 mX1_after_iniX8_standOf mX1_after_stX8_standOf (by decide +kernel) (by decide) rfl (Nat.le_of_ble_eq_true rfl) (kX8_standOf _ G h) (mz_kI fun r_18 u_17 h hx_16 => ?_)
                exact mz_iret F dX1_after_214 ⟨_, rfl, h⟩
  · replace h := h.1 c_62
    refine mz_aload_n F dX1_after_22 rfl 3 rfl ?_
    obtain ⟨q_56, eq_56, h⟩ := h
    refine mz_getR F dX1_after_23 fX1_after_15 (by decide) kthis eq_56 (fun kq_56 => ?_)
    refine mz_iload_n F dX1_after_26 rfl 2 rfl ?_
    obtain ⟨b_57, h⟩ := h
    refine mz_zald F dX1_after_27 kq_56 rfl b_57 ?_
    refine mz_if_eq (tgt := 44) F dX1_after_28 (by decide) (fun c_61 => ?_) (fun c_61 => ?_)
    · replace h := h.1 c_61
      refine mz_iload_n F dX1_after_44 rfl 4 rfl ?_
      exact mz_iret F dX1_after_45 ⟨_, rfl, h⟩
    · replace h := h.2 c_61
      refine mz_iload_n F dX1_after_31 rfl 2 rfl ?_
      refine mz_iload F dX1_after_32 1 rfl ?_
      refine mz_iconst (v := 1) F dX1_after_34 (by decide) ?_
      refine mz_iload F dX1_after_35 0 rfl ?_
      refine mz_isub F dX1_after_37 ?_
      refine mz_callSN (As := [_, _, _]) (n := 3) F dX1_after_38 rfl gX1_after_X8_standOf_n32 nwM1_32 mX1_after_iniX8_standOf mX1_after_stX8_standOf (by decide +kernel) (by decide) rfl (Nat.le_of_ble_eq_true rfl) (kX8_standOf _ G h) (mz_kI fun r_60 u_59 h hx_58 => ?_)
      refine mz_goto (tgt := 45) F dX1_after_41 (by decide) ?_
      exact mz_iret F dX1_after_45 ⟨_, rfl, h⟩
set_option maxRecDepth 100000 in
theorem kX1_after (l : Launch) (G : mG) {u : mSt} {K : Int32 → mSt → Prop} {this : Nat} {a1 : Int32} {a2 : Int32} (kthis : mK u this = 2) (h : bX1_after this a1 a2 u K) : mCt l G yX1_after wsX1_after 1 24 [.ref (G.1 + this), .int a1, .int a2] u (mPi K) := by
  refine mCt.of (cc := cX1_after) (maxL := 8) (ret := (some .int)) (by decide) rfl (Nat.le_of_ble_eq_true rfl) ?_
  intro X hl hN F
  exact tX1_after F hN kthis h
/-! RoomMapper$House.perform(I)Z -/
theorem wiX1_perform_1 : ∀ w ∈ u_ws RX1 TX1 7, w ∈ wsX1_perform := by decide +kernel
theorem fX1_perform_36 : mFld wsX1_perform RX1 36 2 5 0 .int false := ⟨1, _, RX1, TX1, 7, tyX1, rfl, rfl, rfl, by decide, wiX1_perform_1, tyX1_ok, nmX1, rfl, rfl, Or.inl ⟨by decide +kernel, fun _ => rfl⟩⟩
def bX1_perform (this : Nat) (a1 : Int32) (u : mSt) (K : Int32 → mSt → Prop) : Prop := ((a1 = (5 : Int32) → bX1_movePebble this u (fun u_7 => K (0 : Int32) u_7)) ∧ (¬ (a1 = (5 : Int32)) → bX1_after this (mI u this 5) a1 u (fun r_3 u_2 => ((r_3 = (-2 : Int32) → K (1 : Int32) u_2) ∧ (¬ (r_3 = (-2 : Int32)) → (∀ u_4, u_4 = mpI u_2 this 5 r_3 → K (0 : Int32) u_4))))))
set_option maxRecDepth 100000 in
set_option maxHeartbeats 4000000 in
theorem tX1_perform {X : mCx} {G : mG} {u0 : mSt} {K : Int32 → mSt → Prop} (F : mFx X G cX1_perform wsX1_perform RX1 "perform" 2 51 (some .boolean) u0 (mPz K)) (hN : X.2.2.2.2.2.2.2.2.2.2.2.2.1 = 3) {this : Nat} {a1 : Int32} {u : mSt} (kthis : mK u this = 2) (h : bX1_perform this a1 u K) : mZ X u 0 [(0, .ref (G.1 + this)), (1, .int a1)] [] := by
  refine mz_iload_n F dX1_perform_0 rfl 1 rfl ?_
  refine mz_iconst (v := 5) F dX1_perform_1 (by decide) ?_
  refine mz_icmp_ne (tgt := 11) F dX1_perform_2 (by decide) (fun c_8 => ?_) (fun c_8 => ?_)
  · replace h := h.2 c_8
    refine mz_aload_n F dX1_perform_11 rfl 0 rfl ?_
    refine mz_aload_n F dX1_perform_12 rfl 0 rfl ?_
    refine mz_getI F dX1_perform_13 fX1_perform_36 kthis ?_
    refine mz_iload_n F dX1_perform_16 rfl 1 rfl ?_
    refine mz_callV (As := [_, _]) (n := 2) F dX1_perform_17 rfl kthis rfl rfl gX1_perform_X1_after (by decide +kernel) (by decide) rfl (Nat.le_of_ble_eq_true rfl) (kX1_after _ G kthis h) (mz_kI fun r_3 u_2 h hx_1 => ?_)
    replace kthis := hx_1.2.2 _ _ (by decide) kthis
    refine mz_istore_n (lv2 := [(2, .int r_3), (0, .ref (G.1 + this)), (1, .int a1)]) F dX1_perform_20 rfl hN (by decide) rfl ?_
    refine mz_iload_n F dX1_perform_21 rfl 0 rfl ?_
    refine mz_bipush (v := (-2)) F dX1_perform_22 (by decide) ?_
    refine mz_icmp_ne (tgt := 29) F dX1_perform_24 (by decide) (fun c_5 => ?_) (fun c_5 => ?_)
    · replace h := h.2 c_5
      refine mz_aload_n F dX1_perform_29 rfl 1 rfl ?_
      refine mz_iload_n F dX1_perform_30 rfl 0 rfl ?_
      refine mz_putI F dX1_perform_31 fX1_perform_36 kthis rfl rfl (fun u_4 eu_4 hxu_4 => ?_)
      replace h := h u_4 eu_4
      refine mz_iconst (v := 0) F dX1_perform_34 (by decide) ?_
      exact mz_zret F dX1_perform_35 rfl ⟨_, rfl, by decide, h⟩
    · replace h := h.1 c_5
      refine mz_iconst (v := 1) F dX1_perform_27 (by decide) ?_
      exact mz_zret F dX1_perform_28 rfl ⟨_, rfl, by decide, h⟩
  · replace h := h.1 c_8
    refine mz_aload_n F dX1_perform_5 rfl 0 rfl ?_
    refine mz_callV (As := []) (n := 0) F dX1_perform_6 rfl kthis rfl rfl gX1_perform_X1_movePebble (by decide +kernel) (by decide) rfl (Nat.le_of_ble_eq_true rfl) (kX1_movePebble _ G kthis h) (mz_kV fun u_7 h hx_6 => ?_)
    refine mz_iconst (v := 0) F dX1_perform_9 (by decide) ?_
    exact mz_zret F dX1_perform_10 rfl ⟨_, rfl, by decide, h⟩
set_option maxRecDepth 100000 in
theorem kX1_perform (l : Launch) (G : mG) {u : mSt} {K : Int32 → mSt → Prop} {this : Nat} {a1 : Int32} (kthis : mK u this = 2) (h : bX1_perform this a1 u K) : mCt l G yX1_perform wsX1_perform 2 51 [.ref (G.1 + this), .int a1] u (mPz K) := by
  refine mCt.of (cc := cX1_perform) (maxL := 3) (ret := (some .boolean)) (by decide) rfl (Nat.le_of_ble_eq_true rfl) ?_
  intro X hl hN F
  exact tX1_perform F hN kthis h
/-! RoomMapper$Parting.<init>()V -/
theorem mX2_init_ol3 : Cond.methodLink RX2 3 objectInit ∈ wsX2_init := by decide +kernel
theorem mX2_init_oi : Cond.instanceMethod objectInit ∈ wsX2_init := by decide +kernel
theorem mX2_init_oc : Cond.code objectInit ⟨#[0xb1]⟩ 1 none ∈ wsX2_init := by decide +kernel
theorem mX2_init_fl9 : Cond.fieldLink RX2 9 "RoomMapper$Parting" "places" "[I" ∈ wsX2_init := by decide +kernel
theorem wiX2_init_2 : ∀ w ∈ u_ws RX2 TX2 4, w ∈ wsX2_init := by decide +kernel
theorem mX2_init_fl15 : Cond.fieldLink RX2 15 "RoomMapper$Parting" "sets" "[I" ∈ wsX2_init := by decide +kernel
theorem mX2_init_fl18 : Cond.fieldLink RX2 18 "RoomMapper$Parting" "finer" "[I" ∈ wsX2_init := by decide +kernel
theorem mX2_init_acI : Cond.arrayClass .int ∈ wsX2_init := by decide +kernel
def bX2_init (this : Nat) (u : mSt) (K : mSt → Prop) : Prop := ((mN u + 1 ≤ mCapC ∧ mT u + 150 ≤ mCapS) ∧ ∀ p_4 u_2, p_4 = mN u → u_2 = mnw u 15 150 → (∀ u_5, u_5 = mpR u_2 this 0 (some p_4) → ((mN u_5 + 1 ≤ mCapC ∧ mT u_5 + 150 ≤ mCapS) ∧ ∀ p_9 u_7, p_9 = mN u_5 → u_7 = mnw u_5 15 150 → (∀ u_10, u_10 = mpR u_7 this 1 (some p_9) → ((mN u_10 + 1 ≤ mCapC ∧ mT u_10 + 2550 ≤ mCapS) ∧ ∀ p_14 u_12, p_14 = mN u_10 → u_12 = mnw u_10 16 2550 → (∀ u_15, u_15 = mpR u_12 this 2 (some p_14) → K u_15))))))
set_option maxRecDepth 100000 in
set_option maxHeartbeats 4000000 in
theorem tX2_init {X : mCx} {G : mG} {u0 : mSt} {K : mSt → Prop} (F : mFx X G cX2_init wsX2_init RX2 "<init>" 1 20 none u0 (mPv K)) (hN : X.2.2.2.2.2.2.2.2.2.2.2.2.1 = 1) {this : Nat} {u : mSt} (kthis : mK u this = 3) (h : bX2_init this u K) : mZ X u 0 [(0, .ref (G.1 + this))] [] := by
  refine mz_aload_n F dX2_init_0 rfl 0 rfl ?_
  refine mz_objInit F dX2_init_1 mX2_init_ol3 mX2_init_oi mX2_init_oc (by decide) (Nat.le_of_ble_eq_true rfl) ?_
  refine mz_aload_n F dX2_init_4 rfl 0 rfl ?_
  refine mz_sipush (v := 150) F dX2_init_5 (by decide) ?_
  obtain ⟨b_1, h⟩ := h
  refine mz_newaI (c := 15) F dX2_init_8 mX2_init_acI rfl (by decide) b_1 (fun p_4 u_2 ep_4 eu_2 hx_3 kp_4 => ?_)
  replace h := h p_4 u_2 ep_4 eu_2
  replace kthis := hx_3.2.2 _ _ (by decide) kthis
  refine mz_putRF (k := 0) (tys := tyX2) F dX2_init_10 rfl rfl rfl rfl (by decide) wiX2_init_2 tyX2_ok nmX2 rfl rfl rfl mX2_init_fl9 (by decide) kthis kp_4 (fun u_5 eu_5 hxu_5 => ?_)
  replace h := h u_5 eu_5
  replace kthis := hxu_5.2.2 _ _ (by decide) kthis
  refine mz_aload_n F dX2_init_13 rfl 0 rfl ?_
  refine mz_sipush (v := 150) F dX2_init_14 (by decide) ?_
  obtain ⟨b_6, h⟩ := h
  refine mz_newaI (c := 15) F dX2_init_17 mX2_init_acI rfl (by decide) b_6 (fun p_9 u_7 ep_9 eu_7 hx_8 kp_9 => ?_)
  replace h := h p_9 u_7 ep_9 eu_7
  replace kthis := hx_8.2.2 _ _ (by decide) kthis
  refine mz_putRF (k := 1) (tys := tyX2) F dX2_init_19 rfl rfl rfl rfl (by decide) wiX2_init_2 tyX2_ok nmX2 rfl rfl rfl mX2_init_fl15 (by decide) kthis kp_9 (fun u_10 eu_10 hxu_10 => ?_)
  replace h := h u_10 eu_10
  replace kthis := hxu_10.2.2 _ _ (by decide) kthis
  refine mz_aload_n F dX2_init_22 rfl 0 rfl ?_
  refine mz_sipush (v := 2550) F dX2_init_23 (by decide) ?_
  obtain ⟨b_11, h⟩ := h
  refine mz_newaI (c := 16) F dX2_init_26 mX2_init_acI rfl (by decide) b_11 (fun p_14 u_12 ep_14 eu_12 hx_13 kp_14 => ?_)
  replace h := h p_14 u_12 ep_14 eu_12
  replace kthis := hx_13.2.2 _ _ (by decide) kthis
  refine mz_putRF (k := 2) (tys := tyX2) F dX2_init_28 rfl rfl rfl rfl (by decide) wiX2_init_2 tyX2_ok nmX2 rfl rfl rfl mX2_init_fl18 (by decide) kthis kp_14 (fun u_15 eu_15 hxu_15 => ?_)
  replace h := h u_15 eu_15
  exact mz_vret F dX2_init_31 ⟨rfl, h⟩
set_option maxRecDepth 100000 in
theorem kX2_init (l : Launch) (G : mG) {u : mSt} {K : mSt → Prop} {this : Nat} (kthis : mK u this = 3) (h : bX2_init this u K) : mCt l G yX2_init wsX2_init 1 20 [.ref (G.1 + this)] u (mPv K) := by
  refine mCt.of (cc := cX2_init) (maxL := 1) (ret := none) (by decide) rfl (Nat.le_of_ble_eq_true rfl) ?_
  intro X hl hN F
  exact tX2_init F hN kthis h
