theorem nwM8_196 : Cond.methodLinkNest RX8 196 yX4_setLead "RoomMapper" ∈ tables_1 := by decide +kernel
theorem nwM8_202 : Cond.methodLinkNest RX8 202 yX4_follow "RoomMapper" ∈ tables_1 := by decide +kernel
theorem nwM8_199 : Cond.methodLinkNest RX8 199 yX4_returnToStart "RoomMapper" ∈ tables_1 := by decide +kernel
theorem nwM8_233 : Cond.methodLinkNest RX8 233 yX1_after "RoomMapper" ∈ tables_1 := by decide +kernel
theorem nwF8_208 : Cond.fieldLinkNest RX8 208 RX1 "stand" "I" "RoomMapper" ∈ tables_1 := by decide +kernel
theorem nwF8_309 : Cond.fieldLinkNest RX8 309 RX1 "kinds" "[I" "RoomMapper" ∈ tables_1 := by decide +kernel
theorem nwF8_312 : Cond.fieldLinkNest RX8 312 RX1 "targets" "[I" "RoomMapper" ∈ tables_1 := by decide +kernel
theorem nwM8_315 : Cond.methodLinkNest RX8 315 yX5_holdLead "RoomMapper" ∈ tables_1 := by decide +kernel
theorem nwF8_271 : Cond.fieldLinkNest RX8 271 RX5 "row" "[J" "RoomMapper" ∈ tables_1 := by decide +kernel
theorem nwM8_250 : Cond.methodLinkNest RX8 250 yX5_holdRow "RoomMapper" ∈ tables_1 := by decide +kernel
/-! RoomMapper.hand(III)I -/
theorem wiX8_hand_8 : ∀ w ∈ u_ws RX8 TX8 9, w ∈ wsX8_hand := by decide +kernel
theorem fX8_hand_47 : mFld wsX8_hand RX8 47 9 5 5 (.object "RoomMapper$Sheet") true := ⟨8, _, RX8, TX8, 9, tyX8, rfl, rfl, rfl, by decide, wiX8_hand_8, tyX8_ok, nmX8, rfl, rfl, Or.inl ⟨by decide +kernel, fun _ => rfl⟩⟩
theorem mX8_hand_iniX4_setLead : Cond.initialized yX4_setLead.cls ∈ wsX8_hand := by decide +kernel
theorem mX8_hand_imX4_setLead : Cond.instanceMethod yX4_setLead ∈ wsX8_hand := by decide +kernel
theorem mX8_hand_seX4_setLead : Cond.selects RX4 yX4_setLead yX4_setLead ∈ wsX8_hand := by decide +kernel
theorem mX8_hand_ldc192 : Cond.constant RX8 192 (32768) ∈ wsX8_hand := by decide +kernel
theorem wiX8_hand_4 : ∀ w ∈ u_ws RX4 TX4 5, w ∈ wsX8_hand := by decide +kernel
theorem fX8_hand_163 : mFld wsX8_hand RX8 163 5 0 17 (.array .int) true := ⟨4, _, RX4, TX4, 5, tyX4, rfl, rfl, rfl, by decide, wiX8_hand_4, tyX4_ok, nmX4, rfl, rfl, Or.inr ⟨"RoomMapper", nwF8_163⟩⟩
def bX8_hand_41 : Nat → Nat → Int32 → Int32 → Int32 → mSt → (Int32 → mSt → Prop) → Prop
  | 0, _, _, _, _, _, _ => False
  | n + 1, v0, v1, v3, v4, u, K => (((5 : Int32) ≤ v4 → K (0 : Int32) u) ∧ (¬ ((5 : Int32) ≤ v4) → (∃ q_1, mR u v0 5 = some q_1 ∧ bX8_handLead v1 v4 ((v3 >>> (((3 : Int32) * v4) &&& 31)) &&& (7 : Int32)) u (fun r_4 u_3 => bX4_setLead q_1 v1 v4 r_4 u_3 (fun u_6 => (∀ x_7, x_7 = v4 + (1 : Int32) → bX8_hand_41 n v0 v1 v3 x_7 u_6 K))))))
set_option maxRecDepth 100000 in
set_option maxHeartbeats 4000000 in
theorem tX8_hand_41 {X : mCx} {G : mG} {u0 : mSt} {K : Int32 → mSt → Prop} (F : mFx X G cX8_hand wsX8_hand RX8 "hand" 1 23 (some .int) u0 (mPi K)) (hN : X.2.2.2.2.2.2.2.2.2.2.2.2.1 = 5) : ∀ (n : Nat) {v0 : Nat} {v1 : Int32} {v3 : Int32} {v4 : Int32} {u : mSt}, mK u v0 = 9 → bX8_hand_41 n v0 v1 v3 v4 u K → mZ X u 41 [(0, .ref (G.1 + v0)), (1, .int v1), (3, .int v3), (4, .int v4)] [] := by
  intro n
  induction n with
  | zero => intro v0 v1 v3 v4 u kv0 h; exact False.elim h
  | succ n ih =>
    intro v0 v1 v3 v4 u kv0 h
    refine mz_iload F dX8_hand_41 3 rfl ?_
    refine mz_iconst (v := 5) F dX8_hand_43 (by decide) ?_
    refine mz_icmp_ge (tgt := 78) F dX8_hand_44 (by decide) (fun c_8 => ?_) (fun c_8 => ?_)
    · replace h := h.1 c_8
      refine mz_iconst (v := 0) F dX8_hand_78 (by decide) ?_
      exact mz_iret F dX8_hand_79 ⟨_, rfl, h⟩
    · replace h := h.2 c_8
      refine mz_aload_n F dX8_hand_47 rfl 0 rfl ?_
      obtain ⟨q_1, eq_1, h⟩ := h
      refine mz_getR F dX8_hand_48 fX8_hand_47 (by decide) kv0 eq_1 (fun kq_1 => ?_)
      refine mz_iload_n F dX8_hand_51 rfl 1 rfl ?_
      refine mz_iload F dX8_hand_52 3 rfl ?_
      refine mz_iload_n F dX8_hand_54 rfl 1 rfl ?_
      refine mz_iload F dX8_hand_55 3 rfl ?_
      refine mz_iload_n F dX8_hand_57 rfl 2 rfl ?_
      refine mz_iconst (v := 3) F dX8_hand_58 (by decide) ?_
      refine mz_iload F dX8_hand_59 3 rfl ?_
      refine mz_imul F dX8_hand_61 ?_
      refine mz_ishr F dX8_hand_62 ?_
      refine mz_bipush (v := 7) F dX8_hand_63 (by decide) ?_
      refine mz_iand F dX8_hand_65 ?_
      refine mz_callS (As := [_, _, _]) (n := 3) F dX8_hand_66 rfl gX8_hand_X8_handLead (by decide +kernel) (by decide) rfl (Nat.le_of_ble_eq_true rfl) (kX8_handLead _ G h) (mz_kI fun r_4 u_3 h hx_2 => ?_)
      replace kv0 := hx_2.2.2 _ _ (by decide) kv0
      replace kq_1 := hx_2.2.2 _ _ (by decide) kq_1
      refine mz_callVN (As := [_, _, _]) (n := 3) F dX8_hand_69 rfl kq_1 rfl rfl gX8_hand_X4_setLead_n196 nwM8_196 mX8_hand_iniX4_setLead mX8_hand_imX4_setLead mX8_hand_seX4_setLead (by decide +kernel) (by decide) rfl (Nat.le_of_ble_eq_true rfl) (kX4_setLead _ G kq_1 h) (mz_kV fun u_6 h hx_5 => ?_)
      replace kv0 := hx_5.2.2 _ _ (by decide) kv0
      obtain ⟨x_7, ex_7⟩ : ∃ y : Int32, y = v4 + (1 : Int32) := ⟨_, rfl⟩
      replace h := h x_7 ex_7
      refine mz_iinc (v := x_7) (lv2 := [(4, .int x_7), (0, .ref (G.1 + v0)), (1, .int v1), (3, .int v3)]) F dX8_hand_72 3 rfl (by rw [ex_7]; rfl) hN (by decide) rfl ?_
      refine mz_goto (tgt := 41) F dX8_hand_75 (by decide) ?_
      refine mz_sub [1, 2, 3, 0] rfl ?_
      exact ih kv0 h
def bX8_hand (this : Nat) (a1 : Int32) (a2 : Int32) (a3 : Int32) (u : mSt) (K : Int32 → mSt → Prop) : Prop := bX8_within a1 (6 : Int32) u (fun r_3 u_2 => ((r_3 = 0 → K (-1 : Int32) u_2) ∧ (¬ (r_3 = 0) → bX8_within a2 (4 : Int32) u_2 (fun r_6 u_5 => ((r_6 = 0 → K (-1 : Int32) u_5) ∧ (¬ (r_6 = 0) → bX8_within a3 (32768 : Int32) u_5 (fun r_9 u_8 => ((r_9 = 0 → K (-1 : Int32) u_8) ∧ (¬ (r_9 = 0) → (∃ q_10, mR u_8 this 5 = some q_10 ∧ (∃ q_11, mR u_8 q_10 0 = some q_11 ∧ (vp_in a1 6 ∧ ∀ u_13, u_13 = mpI u_8 q_11 a1.toNatClampNeg a2 → (∃ n9, bX8_hand_41 n9 this a1 a3 (0 : Int32) u_13 K)))))))))))))
set_option maxRecDepth 100000 in
set_option maxHeartbeats 4000000 in
theorem tX8_hand {X : mCx} {G : mG} {u0 : mSt} {K : Int32 → mSt → Prop} (F : mFx X G cX8_hand wsX8_hand RX8 "hand" 1 23 (some .int) u0 (mPi K)) (hN : X.2.2.2.2.2.2.2.2.2.2.2.2.1 = 5) {this : Nat} {a1 : Int32} {a2 : Int32} {a3 : Int32} {u : mSt} (kthis : mK u this = 9) (h : bX8_hand this a1 a2 a3 u K) : mZ X u 0 [(0, .ref (G.1 + this)), (1, .int a1), (2, .int a2), (3, .int a3)] [] := by
  refine mz_iload_n F dX8_hand_0 rfl 1 rfl ?_
  refine mz_bipush (v := 6) F dX8_hand_1 (by decide) ?_
  refine mz_callS (As := [_, _]) (n := 2) F dX8_hand_3 rfl gX8_hand_X8_within (by decide +kernel) (by decide) rfl (Nat.le_of_ble_eq_true rfl) (kX8_within _ G h) (mz_kZ fun r_3 u_2 br_3 h hx_1 => ?_)
  replace kthis := hx_1.2.2 _ _ (by decide) kthis
  refine mz_if_eq (tgt := 26) F dX8_hand_6 (by decide) (fun c_16 => ?_) (fun c_16 => ?_)
  · replace h := h.1 c_16
    refine mz_iconst (v := (-1)) F dX8_hand_26 (by decide) ?_
    exact mz_iret F dX8_hand_27 ⟨_, rfl, h⟩
  · replace h := h.2 c_16
    refine mz_iload_n F dX8_hand_9 rfl 2 rfl ?_
    refine mz_iconst (v := 4) F dX8_hand_10 (by decide) ?_
    refine mz_callS (As := [_, _]) (n := 2) F dX8_hand_11 rfl gX8_hand_X8_within (by decide +kernel) (by decide) rfl (Nat.le_of_ble_eq_true rfl) (kX8_within _ G h) (mz_kZ fun r_6 u_5 br_6 h hx_4 => ?_)
    replace kthis := hx_4.2.2 _ _ (by decide) kthis
    refine mz_if_eq (tgt := 26) F dX8_hand_14 (by decide) (fun c_15 => ?_) (fun c_15 => ?_)
    · replace h := h.1 c_15
      refine mz_iconst (v := (-1)) F dX8_hand_26 (by decide) ?_
      exact mz_iret F dX8_hand_27 ⟨_, rfl, h⟩
    · replace h := h.2 c_15
      refine mz_iload_n F dX8_hand_17 rfl 3 rfl ?_
      refine mz_ldc (v := 32768) F dX8_hand_18 mX8_hand_ldc192 ?_
      refine mz_callS (As := [_, _]) (n := 2) F dX8_hand_20 rfl gX8_hand_X8_within (by decide +kernel) (by decide) rfl (Nat.le_of_ble_eq_true rfl) (kX8_within _ G h) (mz_kZ fun r_9 u_8 br_9 h hx_7 => ?_)
      replace kthis := hx_7.2.2 _ _ (by decide) kthis
      refine mz_if_ne (tgt := 28) F dX8_hand_23 (by decide) (fun c_14 => ?_) (fun c_14 => ?_)
      · replace h := h.2 c_14
        refine mz_aload_n F dX8_hand_28 rfl 0 rfl ?_
        obtain ⟨q_10, eq_10, h⟩ := h
        refine mz_getR F dX8_hand_29 fX8_hand_47 (by decide) kthis eq_10 (fun kq_10 => ?_)
        obtain ⟨q_11, eq_11, h⟩ := h
        refine mz_getR F dX8_hand_32 fX8_hand_163 (by decide) kq_10 eq_11 (fun kq_11 => ?_)
        refine mz_iload_n F dX8_hand_35 rfl 1 rfl ?_
        refine mz_iload_n F dX8_hand_36 rfl 2 rfl ?_
        obtain ⟨b_12, h⟩ := h
        refine mz_iast F dX8_hand_37 kq_11 rfl b_12 (fun u_13 eu_13 hxu_13 => ?_)
        replace h := h u_13 eu_13
        replace kthis := hxu_13.2.2 _ _ (by decide) kthis
        refine mz_iconst (v := 0) F dX8_hand_38 (by decide) ?_
        refine mz_istore (lv2 := [(4, .int (0 : Int32)), (0, .ref (G.1 + this)), (1, .int a1), (2, .int a2), (3, .int a3)]) F dX8_hand_39 hN (by decide) rfl ?_
        refine mz_sub [1, 2, 4, 0] rfl ?_
        obtain ⟨n9, h⟩ := h
        exact tX8_hand_41 F hN n9 kthis h
      · replace h := h.1 c_14
        refine mz_iconst (v := (-1)) F dX8_hand_26 (by decide) ?_
        exact mz_iret F dX8_hand_27 ⟨_, rfl, h⟩
set_option maxRecDepth 100000 in
theorem kX8_hand (l : Launch) (G : mG) {u : mSt} {K : Int32 → mSt → Prop} {this : Nat} {a1 : Int32} {a2 : Int32} {a3 : Int32} (kthis : mK u this = 9) (h : bX8_hand this a1 a2 a3 u K) : mCt l G yX8_hand wsX8_hand 1 23 [.ref (G.1 + this), .int a1, .int a2, .int a3] u (mPi K) := by
  refine mCt.of (cc := cX8_hand) (maxL := 5) (ret := (some .int)) (by decide) rfl (Nat.le_of_ble_eq_true rfl) ?_
  intro X hl hN F
  exact tX8_hand F hN kthis h
/-! RoomMapper.fits()I -/
theorem wiX8_fits_8 : ∀ w ∈ u_ws RX8 TX8 9, w ∈ wsX8_fits := by decide +kernel
theorem fX8_fits_19 : mFld wsX8_fits RX8 19 9 1 8 (.object "RoomMapper$Walk") true := ⟨8, _, RX8, TX8, 9, tyX8, rfl, rfl, rfl, by decide, wiX8_fits_8, tyX8_ok, nmX8, rfl, rfl, Or.inl ⟨by decide +kernel, fun _ => rfl⟩⟩
theorem wiX8_fits_7 : ∀ w ∈ u_ws RX7 TX7 3, w ∈ wsX8_fits := by decide +kernel
theorem fX8_fits_88 : mFld wsX8_fits RX8 88 8 2 0 .int false := ⟨7, _, RX7, TX7, 3, tyX7, rfl, rfl, rfl, by decide, wiX8_fits_7, tyX7_ok, nmX7, rfl, rfl, Or.inr ⟨"RoomMapper", nwF8_88⟩⟩
theorem fX8_fits_47 : mFld wsX8_fits RX8 47 9 5 5 (.object "RoomMapper$Sheet") true := ⟨8, _, RX8, TX8, 9, tyX8, rfl, rfl, rfl, by decide, wiX8_fits_8, tyX8_ok, nmX8, rfl, rfl, Or.inl ⟨by decide +kernel, fun _ => rfl⟩⟩
theorem fX8_fits_132 : mFld wsX8_fits RX8 132 8 0 22 (.array .int) true := ⟨7, _, RX7, TX7, 3, tyX7, rfl, rfl, rfl, by decide, wiX8_fits_7, tyX7_ok, nmX7, rfl, rfl, Or.inr ⟨"RoomMapper", nwF8_132⟩⟩
theorem fX8_fits_129 : mFld wsX8_fits RX8 129 8 1 22 (.array .int) true := ⟨7, _, RX7, TX7, 3, tyX7, rfl, rfl, rfl, by decide, wiX8_fits_7, tyX7_ok, nmX7, rfl, rfl, Or.inr ⟨"RoomMapper", nwF8_129⟩⟩
theorem mX8_fits_iniX4_follow : Cond.initialized yX4_follow.cls ∈ wsX8_fits := by decide +kernel
theorem mX8_fits_imX4_follow : Cond.instanceMethod yX4_follow ∈ wsX8_fits := by decide +kernel
theorem mX8_fits_seX4_follow : Cond.selects RX4 yX4_follow yX4_follow ∈ wsX8_fits := by decide +kernel
theorem fX8_fits_81 : mFld wsX8_fits RX8 81 9 8 0 .boolean false := ⟨8, _, RX8, TX8, 9, tyX8, rfl, rfl, rfl, by decide, wiX8_fits_8, tyX8_ok, nmX8, rfl, rfl, Or.inl ⟨by decide +kernel, fun _ => rfl⟩⟩
theorem mX8_fits_iniX4_returnToStart : Cond.initialized yX4_returnToStart.cls ∈ wsX8_fits := by decide +kernel
theorem mX8_fits_imX4_returnToStart : Cond.instanceMethod yX4_returnToStart ∈ wsX8_fits := by decide +kernel
theorem mX8_fits_seX4_returnToStart : Cond.selects RX4 yX4_returnToStart yX4_returnToStart ∈ wsX8_fits := by decide +kernel
theorem wiX8_fits_4 : ∀ w ∈ u_ws RX4 TX4 5, w ∈ wsX8_fits := by decide +kernel
theorem fX8_fits_163 : mFld wsX8_fits RX8 163 5 0 17 (.array .int) true := ⟨4, _, RX4, TX4, 5, tyX4, rfl, rfl, rfl, by decide, wiX8_fits_4, tyX4_ok, nmX4, rfl, rfl, Or.inr ⟨"RoomMapper", nwF8_163⟩⟩
theorem fX8_fits_12 : mFld wsX8_fits RX8 12 9 0 2 (.object "RoomMapper$House") true := ⟨8, _, RX8, TX8, 9, tyX8, rfl, rfl, rfl, by decide, wiX8_fits_8, tyX8_ok, nmX8, rfl, rfl, Or.inl ⟨by decide +kernel, fun _ => rfl⟩⟩
theorem wiX8_fits_1 : ∀ w ∈ u_ws RX1 TX1 7, w ∈ wsX8_fits := by decide +kernel
theorem fX8_fits_91 : mFld wsX8_fits RX8 91 2 0 12 (.array .int) true := ⟨1, _, RX1, TX1, 7, tyX1, rfl, rfl, rfl, by decide, wiX8_fits_1, tyX1_ok, nmX1, rfl, rfl, Or.inr ⟨"RoomMapper", nwF8_91⟩⟩
def bX8_fits_43 : Nat → Nat → Int32 → mSt → (Int32 → mSt → Prop) → Prop
  | 0, _, _, _, _ => False
  | n + 1, v0, v1, u, K => (∃ q_1, mR u v0 1 = some q_1 ∧ (((mI u q_1 2) ≤ v1 → K (0 : Int32) u) ∧ (¬ ((mI u q_1 2) ≤ v1) → (∃ q_2, mR u v0 5 = some q_2 ∧ (∃ q_3, mR u v0 1 = some q_3 ∧ (∃ q_4, mR u q_3 0 = some q_4 ∧ (vp_in v1 200 ∧ (∃ q_6, mR u v0 1 = some q_6 ∧ (∃ q_7, mR u q_6 1 = some q_7 ∧ (vp_in v1 200 ∧ bX4_follow q_2 (mI u q_4 v1.toNatClampNeg) (mI u q_7 v1.toNatClampNeg) u (fun r_11 u_10 => ((r_11 = 0 → K (v1 + (1 : Int32)) u_10) ∧ (¬ (r_11 = 0) → (∀ x_12, x_12 = v1 + (1 : Int32) → bX8_fits_43 n v0 x_12 u_10 K))))))))))))))
set_option maxRecDepth 100000 in
set_option maxHeartbeats 4000000 in
theorem tX8_fits_43 {X : mCx} {G : mG} {u0 : mSt} {K : Int32 → mSt → Prop} (F : mFx X G cX8_fits wsX8_fits RX8 "fits" 4 89 (some .int) u0 (mPi K)) (hN : X.2.2.2.2.2.2.2.2.2.2.2.2.1 = 2) : ∀ (n : Nat) {v0 : Nat} {v1 : Int32} {u : mSt}, mK u v0 = 9 → bX8_fits_43 n v0 v1 u K → mZ X u 43 [(0, .ref (G.1 + v0)), (1, .int v1)] [] := by
  intro n
  induction n with
  | zero => intro v0 v1 u kv0 h; exact False.elim h
  | succ n ih =>
    intro v0 v1 u kv0 h
    refine mz_iload_n F dX8_fits_43 rfl 1 rfl ?_
    refine mz_aload_n F dX8_fits_44 rfl 0 rfl ?_
    obtain ⟨q_1, eq_1, h⟩ := h
    refine mz_getR F dX8_fits_45 fX8_fits_19 (by decide) kv0 eq_1 (fun kq_1 => ?_)
    refine mz_getI F dX8_fits_48 fX8_fits_88 kq_1 ?_
    refine mz_icmp_ge (tgt := 92) F dX8_fits_51 (by decide) (fun c_14 => ?_) (fun c_14 => ?_)
    · replace h := h.1 c_14
      refine mz_iconst (v := 0) F dX8_fits_92 (by decide) ?_
      exact mz_iret F dX8_fits_93 ⟨_, rfl, h⟩
    · replace h := h.2 c_14
      refine mz_aload_n F dX8_fits_54 rfl 0 rfl ?_
      obtain ⟨q_2, eq_2, h⟩ := h
      refine mz_getR F dX8_fits_55 fX8_fits_47 (by decide) kv0 eq_2 (fun kq_2 => ?_)
      refine mz_aload_n F dX8_fits_58 rfl 0 rfl ?_
      obtain ⟨q_3, eq_3, h⟩ := h
      refine mz_getR F dX8_fits_59 fX8_fits_19 (by decide) kv0 eq_3 (fun kq_3 => ?_)
      obtain ⟨q_4, eq_4, h⟩ := h
      refine mz_getR F dX8_fits_62 fX8_fits_132 (by decide) kq_3 eq_4 (fun kq_4 => ?_)
      refine mz_iload_n F dX8_fits_65 rfl 1 rfl ?_
      obtain ⟨b_5, h⟩ := h
      refine mz_iald F dX8_fits_66 kq_4 rfl b_5 ?_
      refine mz_aload_n F dX8_fits_67 rfl 0 rfl ?_
      obtain ⟨q_6, eq_6, h⟩ := h
      refine mz_getR F dX8_fits_68 fX8_fits_19 (by decide) kv0 eq_6 (fun kq_6 => ?_)
      obtain ⟨q_7, eq_7, h⟩ := h
      refine mz_getR F dX8_fits_71 fX8_fits_129 (by decide) kq_6 eq_7 (fun kq_7 => ?_)
      refine mz_iload_n F dX8_fits_74 rfl 1 rfl ?_
      obtain ⟨b_8, h⟩ := h
      refine mz_iald F dX8_fits_75 kq_7 rfl b_8 ?_
      refine mz_callVN (As := [_, _]) (n := 2) F dX8_fits_76 rfl kq_2 rfl rfl gX8_fits_X4_follow_n202 nwM8_202 mX8_fits_iniX4_follow mX8_fits_imX4_follow mX8_fits_seX4_follow (by decide +kernel) (by decide) rfl (Nat.le_of_ble_eq_true rfl) (kX4_follow _ G kq_2 h) (mz_kZ fun r_11 u_10 br_11 h hx_9 => ?_)
      replace kv0 := hx_9.2.2 _ _ (by decide) kv0
      refine mz_if_ne (tgt := 86) F dX8_fits_79 (by decide) (fun c_13 => ?_) (fun c_13 => ?_)
      · replace h := h.2 c_13
        obtain ⟨x_12, ex_12⟩ : ∃ y : Int32, y = v1 + (1 : Int32) := ⟨_, rfl⟩
        replace h := h x_12 ex_12
        refine mz_iinc (v := x_12) (lv2 := [(1, .int x_12), (0, .ref (G.1 + v0))]) F dX8_fits_86 1 rfl (by rw [ex_12]; rfl) hN (by decide) rfl ?_
        refine mz_goto (tgt := 43) F dX8_fits_89 (by decide) ?_
        refine mz_sub [1, 0] rfl ?_
        exact ih kv0 h
      · replace h := h.1 c_13
        refine mz_iload_n F dX8_fits_82 rfl 1 rfl ?_
        refine mz_iconst (v := 1) F dX8_fits_83 (by decide) ?_
        refine mz_iadd F dX8_fits_84 ?_
        exact mz_iret F dX8_fits_85 ⟨_, rfl, h⟩
def bX8_fits (this : Nat) (u : mSt) (K : Int32 → mSt → Prop) : Prop := (((mI u this 8) = 0 → K (-2 : Int32) u) ∧ (¬ ((mI u this 8) = 0) → (∃ q_1, mR u this 5 = some q_1 ∧ bX4_returnToStart q_1 u (fun u_3 => (∃ q_4, mR u_3 this 5 = some q_4 ∧ (∃ q_5, mR u_3 q_4 0 = some q_5 ∧ (vp_in (0 : Int32) 6 ∧ (∃ q_7, mR u_3 this 0 = some q_7 ∧ (∃ q_8, mR u_3 q_7 0 = some q_8 ∧ (vp_in (0 : Int32) 10 ∧ (((mI u_3 q_5 (0 : Int32).toNatClampNeg) = (mI u_3 q_8 (0 : Int32).toNatClampNeg) → (∃ n9, bX8_fits_43 n9 this (0 : Int32) u_3 K)) ∧ (¬ ((mI u_3 q_5 (0 : Int32).toNatClampNeg) = (mI u_3 q_8 (0 : Int32).toNatClampNeg)) → K (-4 : Int32) u_3))))))))))))
set_option maxRecDepth 100000 in
set_option maxHeartbeats 4000000 in
theorem tX8_fits {X : mCx} {G : mG} {u0 : mSt} {K : Int32 → mSt → Prop} (F : mFx X G cX8_fits wsX8_fits RX8 "fits" 4 89 (some .int) u0 (mPi K)) (hN : X.2.2.2.2.2.2.2.2.2.2.2.2.1 = 2) {this : Nat} {u : mSt} (kthis : mK u this = 9) (h : bX8_fits this u K) : mZ X u 0 [(0, .ref (G.1 + this))] [] := by
  refine mz_aload_n F dX8_fits_0 rfl 0 rfl ?_
  refine mz_getI F dX8_fits_1 fX8_fits_81 kthis ?_
  refine mz_if_ne (tgt := 10) F dX8_fits_4 (by decide) (fun c_11 => ?_) (fun c_11 => ?_)
  · replace h := h.2 c_11
    refine mz_aload_n F dX8_fits_10 rfl 0 rfl ?_
    obtain ⟨q_1, eq_1, h⟩ := h
    refine mz_getR F dX8_fits_11 fX8_fits_47 (by decide) kthis eq_1 (fun kq_1 => ?_)
    refine mz_callVN (As := []) (n := 0) F dX8_fits_14 rfl kq_1 rfl rfl gX8_fits_X4_returnToStart_n199 nwM8_199 mX8_fits_iniX4_returnToStart mX8_fits_imX4_returnToStart mX8_fits_seX4_returnToStart (by decide +kernel) (by decide) rfl (Nat.le_of_ble_eq_true rfl) (kX4_returnToStart _ G kq_1 h) (mz_kV fun u_3 h hx_2 => ?_)
    replace kthis := hx_2.2.2 _ _ (by decide) kthis
    refine mz_aload_n F dX8_fits_17 rfl 0 rfl ?_
    obtain ⟨q_4, eq_4, h⟩ := h
    refine mz_getR F dX8_fits_18 fX8_fits_47 (by decide) kthis eq_4 (fun kq_4 => ?_)
    obtain ⟨q_5, eq_5, h⟩ := h
    refine mz_getR F dX8_fits_21 fX8_fits_163 (by decide) kq_4 eq_5 (fun kq_5 => ?_)
    refine mz_iconst (v := 0) F dX8_fits_24 (by decide) ?_
    obtain ⟨b_6, h⟩ := h
    refine mz_iald F dX8_fits_25 kq_5 rfl b_6 ?_
    refine mz_aload_n F dX8_fits_26 rfl 0 rfl ?_
    obtain ⟨q_7, eq_7, h⟩ := h
    refine mz_getR F dX8_fits_27 fX8_fits_12 (by decide) kthis eq_7 (fun kq_7 => ?_)
    obtain ⟨q_8, eq_8, h⟩ := h
    refine mz_getR F dX8_fits_30 fX8_fits_91 (by decide) kq_7 eq_8 (fun kq_8 => ?_)
    refine mz_iconst (v := 0) F dX8_fits_33 (by decide) ?_
    obtain ⟨b_9, h⟩ := h
    refine mz_iald F dX8_fits_34 kq_8 rfl b_9 ?_
    refine mz_icmp_eq (tgt := 41) F dX8_fits_35 (by decide) (fun c_10 => ?_) (fun c_10 => ?_)
    · replace h := h.1 c_10
      refine mz_iconst (v := 0) F dX8_fits_41 (by decide) ?_
      refine mz_istore_n (lv2 := [(1, .int (0 : Int32)), (0, .ref (G.1 + this))]) F dX8_fits_42 rfl hN (by decide) rfl ?_
      refine mz_sub [1, 0] rfl ?_
      obtain ⟨n9, h⟩ := h
      exact tX8_fits_43 F hN n9 kthis h
    · replace h := h.2 c_10
      refine mz_bipush (v := (-4)) F dX8_fits_38 (by decide) ?_
      exact mz_iret F dX8_fits_40 ⟨_, rfl, h⟩
  · replace h := h.1 c_11
    refine mz_bipush (v := (-2)) F dX8_fits_7 (by decide) ?_
    exact mz_iret F dX8_fits_9 ⟨_, rfl, h⟩
set_option maxRecDepth 100000 in
theorem kX8_fits (l : Launch) (G : mG) {u : mSt} {K : Int32 → mSt → Prop} {this : Nat} (kthis : mK u this = 9) (h : bX8_fits this u K) : mCt l G yX8_fits wsX8_fits 4 89 [.ref (G.1 + this)] u (mPi K) := by
  refine mCt.of (cc := cX8_fits) (maxL := 2) (ret := (some .int)) (by decide) rfl (Nat.le_of_ble_eq_true rfl) ?_
  intro X hl hN F
  exact tX8_fits F hN kthis h
/-! RoomMapper.agreesAt(LRoomMapper$Sheet;II)Z -/
theorem wiX8_agreesAt_8 : ∀ w ∈ u_ws RX8 TX8 9, w ∈ wsX8_agreesAt := by decide +kernel
theorem fX8_agreesAt_54 : mFld wsX8_agreesAt RX8 54 9 6 7 (.object "RoomMapper$Todo") true := ⟨8, _, RX8, TX8, 9, tyX8, rfl, rfl, rfl, by decide, wiX8_agreesAt_8, tyX8_ok, nmX8, rfl, rfl, Or.inl ⟨by decide +kernel, fun _ => rfl⟩⟩
theorem mX8_agreesAt_iniX6_addOnce : Cond.initialized yX6_addOnce.cls ∈ wsX8_agreesAt := by decide +kernel
theorem mX8_agreesAt_imX6_addOnce : Cond.instanceMethod yX6_addOnce ∈ wsX8_agreesAt := by decide +kernel
theorem mX8_agreesAt_seX6_addOnce : Cond.selects RX6 yX6_addOnce yX6_addOnce ∈ wsX8_agreesAt := by decide +kernel
theorem mX8_agreesAt_iniX4_leadFrom : Cond.initialized yX4_leadFrom.cls ∈ wsX8_agreesAt := by decide +kernel
theorem mX8_agreesAt_imX4_leadFrom : Cond.instanceMethod yX4_leadFrom ∈ wsX8_agreesAt := by decide +kernel
theorem mX8_agreesAt_seX4_leadFrom : Cond.selects RX4 yX4_leadFrom yX4_leadFrom ∈ wsX8_agreesAt := by decide +kernel
theorem fX8_agreesAt_12 : mFld wsX8_agreesAt RX8 12 9 0 2 (.object "RoomMapper$House") true := ⟨8, _, RX8, TX8, 9, tyX8, rfl, rfl, rfl, by decide, wiX8_agreesAt_8, tyX8_ok, nmX8, rfl, rfl, Or.inl ⟨by decide +kernel, fun _ => rfl⟩⟩
theorem mX8_agreesAt_iniX1_after : Cond.initialized yX1_after.cls ∈ wsX8_agreesAt := by decide +kernel
theorem mX8_agreesAt_imX1_after : Cond.instanceMethod yX1_after ∈ wsX8_agreesAt := by decide +kernel
theorem mX8_agreesAt_seX1_after : Cond.selects RX1 yX1_after yX1_after ∈ wsX8_agreesAt := by decide +kernel
theorem wiX8_agreesAt_4 : ∀ w ∈ u_ws RX4 TX4 5, w ∈ wsX8_agreesAt := by decide +kernel
theorem fX8_agreesAt_163 : mFld wsX8_agreesAt RX8 163 5 0 17 (.array .int) true := ⟨4, _, RX4, TX4, 5, tyX4, rfl, rfl, rfl, by decide, wiX8_agreesAt_4, tyX4_ok, nmX4, rfl, rfl, Or.inr ⟨"RoomMapper", nwF8_163⟩⟩
theorem wiX8_agreesAt_1 : ∀ w ∈ u_ws RX1 TX1 7, w ∈ wsX8_agreesAt := by decide +kernel
theorem fX8_agreesAt_91 : mFld wsX8_agreesAt RX8 91 2 0 12 (.array .int) true := ⟨1, _, RX1, TX1, 7, tyX1, rfl, rfl, rfl, by decide, wiX8_agreesAt_1, tyX1_ok, nmX1, rfl, rfl, Or.inr ⟨"RoomMapper", nwF8_91⟩⟩
def bX8_agreesAt_114 (v0 : Nat) (v1 : Nat) (v2 : Int32) (v3 : Int32) (v4 : Int32) (u : mSt) (K : Int32 → mSt → Prop) (KL26 : Nat → Nat → Int32 → Int32 → Int32 → mSt → Prop) : Prop := (∀ x_1, x_1 = v4 + (1 : Int32) → KL26 v0 v1 v2 v3 x_1 u)
set_option maxRecDepth 100000 in
set_option maxHeartbeats 4000000 in
theorem tX8_agreesAt_114 {X : mCx} {G : mG} {u0 : mSt} {K : Int32 → mSt → Prop} {KL26 : Nat → Nat → Int32 → Int32 → Int32 → mSt → Prop} (F : mFx X G cX8_agreesAt wsX8_agreesAt RX8 "agreesAt" 2 51 (some .boolean) u0 (mPz K)) (hN : X.2.2.2.2.2.2.2.2.2.2.2.2.1 = 7) (hL26 : ∀ {v0 : Nat} {v1 : Nat} {v2 : Int32} {v3 : Int32} {v4 : Int32} {u : mSt}, mK u v0 = 9 → mK u v1 = 5 → KL26 v0 v1 v2 v3 v4 u → mZ X u 26 [(0, .ref (G.1 + v0)), (1, .ref (G.1 + v1)), (2, .int v2), (3, .int v3), (4, .int v4)] []) {v0 : Nat} {v1 : Nat} {v2 : Int32} {v3 : Int32} {v4 : Int32} {u : mSt} (kv0 : mK u v0 = 9) (kv1 : mK u v1 = 5) (h : bX8_agreesAt_114 v0 v1 v2 v3 v4 u K KL26) : mZ X u 114 [(0, .ref (G.1 + v0)), (1, .ref (G.1 + v1)), (2, .int v2), (3, .int v3), (4, .int v4)] [] := by
  obtain ⟨x_1, ex_1⟩ : ∃ y : Int32, y = v4 + (1 : Int32) := ⟨_, rfl⟩
  replace h := h x_1 ex_1
  refine mz_iinc (v := x_1) (lv2 := [(4, .int x_1), (0, .ref (G.1 + v0)), (1, .ref (G.1 + v1)), (2, .int v2), (3, .int v3)]) F dX8_agreesAt_114 4 rfl (by rw [ex_1]; rfl) hN (by decide) rfl ?_
  refine mz_goto (tgt := 26) F dX8_agreesAt_117 (by decide) ?_
  refine mz_sub [1, 2, 3, 4, 0] rfl ?_
  exact hL26 kv0 kv1 h
def bX8_agreesAt_87 (v0 : Nat) (v1 : Nat) (v2 : Int32) (v3 : Int32) (v4 : Int32) (v5 : Int32) (v6 : Int32) (w0 : Int32) (w1 : Int32) (u : mSt) (K : Int32 → mSt → Prop) (KL26 : Nat → Nat → Int32 → Int32 → Int32 → mSt → Prop) : Prop := ((w0 = w1 → ((v5 = (-2 : Int32) → bX8_agreesAt_114 v0 v1 v2 v3 v4 u K KL26) ∧ (¬ (v5 = (-2 : Int32)) → (∃ q_1, mR u v0 6 = some q_1 ∧ bX6_addOnce q_1 ((v5 * (80 : Int32)) + v6) u (fun u_3 => bX8_agreesAt_114 v0 v1 v2 v3 v4 u_3 K KL26))))) ∧ (¬ (w0 = w1) → K (0 : Int32) u))
set_option maxRecDepth 100000 in
set_option maxHeartbeats 4000000 in
theorem tX8_agreesAt_87 {X : mCx} {G : mG} {u0 : mSt} {K : Int32 → mSt → Prop} {KL26 : Nat → Nat → Int32 → Int32 → Int32 → mSt → Prop} (F : mFx X G cX8_agreesAt wsX8_agreesAt RX8 "agreesAt" 2 51 (some .boolean) u0 (mPz K)) (hN : X.2.2.2.2.2.2.2.2.2.2.2.2.1 = 7) (hL26 : ∀ {v0 : Nat} {v1 : Nat} {v2 : Int32} {v3 : Int32} {v4 : Int32} {u : mSt}, mK u v0 = 9 → mK u v1 = 5 → KL26 v0 v1 v2 v3 v4 u → mZ X u 26 [(0, .ref (G.1 + v0)), (1, .ref (G.1 + v1)), (2, .int v2), (3, .int v3), (4, .int v4)] []) {v0 : Nat} {v1 : Nat} {v2 : Int32} {v3 : Int32} {v4 : Int32} {v5 : Int32} {v6 : Int32} {w0 : Int32} {w1 : Int32} {u : mSt} (kv0 : mK u v0 = 9) (kv1 : mK u v1 = 5) (h : bX8_agreesAt_87 v0 v1 v2 v3 v4 v5 v6 w0 w1 u K KL26) : mZ X u 87 [(0, .ref (G.1 + v0)), (1, .ref (G.1 + v1)), (2, .int v2), (3, .int v3), (4, .int v4), (5, .int v5), (6, .int v6)] [.int w1, .int w0] := by
  refine mz_icmp_eq (tgt := 92) F dX8_agreesAt_87 (by decide) (fun c_5 => ?_) (fun c_5 => ?_)
  · replace h := h.1 c_5
    refine mz_iload F dX8_agreesAt_92 5 rfl ?_
    refine mz_bipush (v := (-2)) F dX8_agreesAt_94 (by decide) ?_
    refine mz_icmp_eq (tgt := 114) F dX8_agreesAt_96 (by decide) (fun c_4 => ?_) (fun c_4 => ?_)
    · replace h := h.1 c_4
      refine mz_sub [0, 1, 2, 3, 4] rfl ?_
      exact tX8_agreesAt_114 F hN hL26 kv0 kv1 h
    · replace h := h.2 c_4
      refine mz_aload_n F dX8_agreesAt_99 rfl 0 rfl ?_
      obtain ⟨q_1, eq_1, h⟩ := h
      refine mz_getR F dX8_agreesAt_100 fX8_agreesAt_54 (by decide) kv0 eq_1 (fun kq_1 => ?_)
      refine mz_iload F dX8_agreesAt_103 5 rfl ?_
      refine mz_bipush (v := 80) F dX8_agreesAt_105 (by decide) ?_
      refine mz_imul F dX8_agreesAt_107 ?_
      refine mz_iload F dX8_agreesAt_108 6 rfl ?_
      refine mz_iadd F dX8_agreesAt_110 ?_
      refine mz_callVN (As := [_]) (n := 1) F dX8_agreesAt_111 rfl kq_1 rfl rfl gX8_agreesAt_X6_addOnce_n223 nwM8_223 mX8_agreesAt_iniX6_addOnce mX8_agreesAt_imX6_addOnce mX8_agreesAt_seX6_addOnce (by decide +kernel) (by decide) rfl (Nat.le_of_ble_eq_true rfl) (kX6_addOnce _ G kq_1 h) (mz_kV fun u_3 h hx_2 => ?_)
      replace kv0 := hx_2.2.2 _ _ (by decide) kv0
      replace kv1 := hx_2.2.2 _ _ (by decide) kv1
      refine mz_sub [0, 1, 2, 3, 4] rfl ?_
      exact tX8_agreesAt_114 F hN hL26 kv0 kv1 h
  · replace h := h.2 c_5
    refine mz_iconst (v := 0) F dX8_agreesAt_90 (by decide) ?_
    exact mz_zret F dX8_agreesAt_91 rfl ⟨_, rfl, by decide, h⟩
def bX8_agreesAt_75 (v0 : Nat) (v1 : Nat) (v2 : Int32) (v3 : Int32) (v4 : Int32) (v5 : Int32) (v6 : Int32) (w0 : Int32) (u : mSt) (K : Int32 → mSt → Prop) (KL26 : Nat → Nat → Int32 → Int32 → Int32 → mSt → Prop) : Prop := ((v6 = (-2 : Int32) → bX8_agreesAt_87 v0 v1 v2 v3 v4 v5 v6 w0 (1 : Int32) u K KL26) ∧ (¬ (v6 = (-2 : Int32)) → bX8_agreesAt_87 v0 v1 v2 v3 v4 v5 v6 w0 (0 : Int32) u K KL26))
set_option maxRecDepth 100000 in
set_option maxHeartbeats 4000000 in
theorem tX8_agreesAt_75 {X : mCx} {G : mG} {u0 : mSt} {K : Int32 → mSt → Prop} {KL26 : Nat → Nat → Int32 → Int32 → Int32 → mSt → Prop} (F : mFx X G cX8_agreesAt wsX8_agreesAt RX8 "agreesAt" 2 51 (some .boolean) u0 (mPz K)) (hN : X.2.2.2.2.2.2.2.2.2.2.2.2.1 = 7) (hL26 : ∀ {v0 : Nat} {v1 : Nat} {v2 : Int32} {v3 : Int32} {v4 : Int32} {u : mSt}, mK u v0 = 9 → mK u v1 = 5 → KL26 v0 v1 v2 v3 v4 u → mZ X u 26 [(0, .ref (G.1 + v0)), (1, .ref (G.1 + v1)), (2, .int v2), (3, .int v3), (4, .int v4)] []) {v0 : Nat} {v1 : Nat} {v2 : Int32} {v3 : Int32} {v4 : Int32} {v5 : Int32} {v6 : Int32} {w0 : Int32} {u : mSt} (kv0 : mK u v0 = 9) (kv1 : mK u v1 = 5) (h : bX8_agreesAt_75 v0 v1 v2 v3 v4 v5 v6 w0 u K KL26) : mZ X u 75 [(0, .ref (G.1 + v0)), (1, .ref (G.1 + v1)), (2, .int v2), (3, .int v3), (4, .int v4), (5, .int v5), (6, .int v6)] [.int w0] := by
  refine mz_iload F dX8_agreesAt_75 6 rfl ?_
  refine mz_bipush (v := (-2)) F dX8_agreesAt_77 (by decide) ?_
  refine mz_icmp_ne (tgt := 86) F dX8_agreesAt_79 (by decide) (fun c_1 => ?_) (fun c_1 => ?_)
  · replace h := h.2 c_1
    refine mz_iconst (v := 0) F dX8_agreesAt_86 (by decide) ?_
    refine mz_sub [0, 1, 2, 3, 4, 5, 6] rfl ?_
    exact tX8_agreesAt_87 F hN hL26 kv0 kv1 h
  · replace h := h.1 c_1
    refine mz_iconst (v := 1) F dX8_agreesAt_82 (by decide) ?_
    refine mz_goto (tgt := 87) F dX8_agreesAt_83 (by decide) ?_
    refine mz_sub [0, 1, 2, 3, 4, 5, 6] rfl ?_
    exact tX8_agreesAt_87 F hN hL26 kv0 kv1 h
def bX8_agreesAt_26 : Nat → Nat → Nat → Int32 → Int32 → Int32 → mSt → (Int32 → mSt → Prop) → Prop
  | 0, _, _, _, _, _, _, _ => False
  | n + 1, v0, v1, v2, v3, v4, u, K => (((5 : Int32) ≤ v4 → K (1 : Int32) u) ∧ (¬ ((5 : Int32) ≤ v4) → bX4_leadFrom v1 v2 v4 u (fun r_3 u_2 => ((r_3 = (-3 : Int32) → bX8_agreesAt_114 v0 v1 v2 v3 v4 u_2 K (fun z0 z1 z2 z3 z4 z5 => bX8_agreesAt_26 n z0 z1 z2 z3 z4 z5 K)) ∧ (¬ (r_3 = (-3 : Int32)) → (∃ q_4, mR u_2 v0 0 = some q_4 ∧ bX1_after q_4 v3 v4 u_2 (fun r_7 u_6 => ((r_3 = (-2 : Int32) → bX8_agreesAt_75 v0 v1 v2 v3 v4 r_3 r_7 (1 : Int32) u_6 K (fun z0 z1 z2 z3 z4 z5 => bX8_agreesAt_26 n z0 z1 z2 z3 z4 z5 K)) ∧ (¬ (r_3 = (-2 : Int32)) → bX8_agreesAt_75 v0 v1 v2 v3 v4 r_3 r_7 (0 : Int32) u_6 K (fun z0 z1 z2 z3 z4 z5 => bX8_agreesAt_26 n z0 z1 z2 z3 z4 z5 K))))))))))
set_option maxRecDepth 100000 in
set_option maxHeartbeats 4000000 in
theorem tX8_agreesAt_26 {X : mCx} {G : mG} {u0 : mSt} {K : Int32 → mSt → Prop} (F : mFx X G cX8_agreesAt wsX8_agreesAt RX8 "agreesAt" 2 51 (some .boolean) u0 (mPz K)) (hN : X.2.2.2.2.2.2.2.2.2.2.2.2.1 = 7) : ∀ (n : Nat) {v0 : Nat} {v1 : Nat} {v2 : Int32} {v3 : Int32} {v4 : Int32} {u : mSt}, mK u v0 = 9 → mK u v1 = 5 → bX8_agreesAt_26 n v0 v1 v2 v3 v4 u K → mZ X u 26 [(0, .ref (G.1 + v0)), (1, .ref (G.1 + v1)), (2, .int v2), (3, .int v3), (4, .int v4)] [] := by
  intro n
  induction n with
  | zero => intro v0 v1 v2 v3 v4 u kv0 kv1 h; exact False.elim h
  | succ n ih =>
    intro v0 v1 v2 v3 v4 u kv0 kv1 h
    refine mz_iload F dX8_agreesAt_26 4 rfl ?_
    refine mz_iconst (v := 5) F dX8_agreesAt_28 (by decide) ?_
    refine mz_icmp_ge (tgt := 120) F dX8_agreesAt_29 (by decide) (fun c_10 => ?_) (fun c_10 => ?_)
    · replace h := h.1 c_10
      refine mz_iconst (v := 1) F dX8_agreesAt_120 (by decide) ?_
      exact mz_zret F dX8_agreesAt_121 rfl ⟨_, rfl, by decide, h⟩
    · replace h := h.2 c_10
      refine mz_aload_n F dX8_agreesAt_32 rfl 1 rfl ?_
      refine mz_iload_n F dX8_agreesAt_33 rfl 2 rfl ?_
      refine mz_iload F dX8_agreesAt_34 4 rfl ?_
      refine mz_callVN (As := [_, _]) (n := 2) F dX8_agreesAt_36 rfl kv1 rfl rfl gX8_agreesAt_X4_leadFrom_n159 nwM8_159 mX8_agreesAt_iniX4_leadFrom mX8_agreesAt_imX4_leadFrom mX8_agreesAt_seX4_leadFrom (by decide +kernel) (by decide) rfl (Nat.le_of_ble_eq_true rfl) (kX4_leadFrom _ G kv1 h) (mz_kI fun r_3 u_2 h hx_1 => ?_)
      replace kv0 := hx_1.2.2 _ _ (by decide) kv0
      replace kv1 := hx_1.2.2 _ _ (by decide) kv1
      refine mz_istore (lv2 := [(5, .int r_3), (0, .ref (G.1 + v0)), (1, .ref (G.1 + v1)), (2, .int v2), (3, .int v3), (4, .int v4)]) F dX8_agreesAt_39 hN (by decide) rfl ?_
      refine mz_iload F dX8_agreesAt_41 0 rfl ?_
      refine mz_bipush (v := (-3)) F dX8_agreesAt_43 (by decide) ?_
      refine mz_icmp_ne (tgt := 51) F dX8_agreesAt_45 (by decide) (fun c_9 => ?_) (fun c_9 => ?_)
      · replace h := h.2 c_9
        refine mz_aload_n F dX8_agreesAt_51 rfl 1 rfl ?_
        obtain ⟨q_4, eq_4, h⟩ := h
        refine mz_getR F dX8_agreesAt_52 fX8_agreesAt_12 (by decide) kv0 eq_4 (fun kq_4 => ?_)
        refine mz_iload_n F dX8_agreesAt_55 rfl 4 rfl ?_
        refine mz_iload F dX8_agreesAt_56 5 rfl ?_
        refine mz_callVN (As := [_, _]) (n := 2) F dX8_agreesAt_58 rfl kq_4 rfl rfl gX8_agreesAt_X1_after_n233 nwM8_233 mX8_agreesAt_iniX1_after mX8_agreesAt_imX1_after mX8_agreesAt_seX1_after (by decide +kernel) (by decide) rfl (Nat.le_of_ble_eq_true rfl) (kX1_after _ G kq_4 h) (mz_kI fun r_7 u_6 h hx_5 => ?_)
        replace kv0 := hx_5.2.2 _ _ (by decide) kv0
        replace kv1 := hx_5.2.2 _ _ (by decide) kv1
        refine mz_istore (lv2 := [(6, .int r_7), (5, .int r_3), (0, .ref (G.1 + v0)), (1, .ref (G.1 + v1)), (2, .int v2), (3, .int v3), (4, .int v4)]) F dX8_agreesAt_61 hN (by decide) rfl ?_
        refine mz_iload F dX8_agreesAt_63 1 rfl ?_
        refine mz_bipush (v := (-2)) F dX8_agreesAt_65 (by decide) ?_
        refine mz_icmp_ne (tgt := 74) F dX8_agreesAt_67 (by decide) (fun c_8 => ?_) (fun c_8 => ?_)
        · replace h := h.2 c_8
          refine mz_iconst (v := 0) F dX8_agreesAt_74 (by decide) ?_
          refine mz_sub [2, 3, 4, 5, 6, 1, 0] rfl ?_
          exact tX8_agreesAt_75 F hN (fun k0 k1 h => ih k0 k1 h) kv0 kv1 h
        · replace h := h.1 c_8
          refine mz_iconst (v := 1) F dX8_agreesAt_70 (by decide) ?_
          refine mz_goto (tgt := 75) F dX8_agreesAt_71 (by decide) ?_
          refine mz_sub [2, 3, 4, 5, 6, 1, 0] rfl ?_
          exact tX8_agreesAt_75 F hN (fun k0 k1 h => ih k0 k1 h) kv0 kv1 h
      · replace h := h.1 c_9
        refine mz_goto (tgt := 114) F dX8_agreesAt_48 (by decide) ?_
        refine mz_sub [1, 2, 3, 4, 5] rfl ?_
        exact tX8_agreesAt_114 F hN (fun k0 k1 h => ih k0 k1 h) kv0 kv1 h
def bX8_agreesAt (this : Nat) (a1 : Nat) (a2 : Int32) (a3 : Int32) (u : mSt) (K : Int32 → mSt → Prop) : Prop := (∃ q_1, mR u a1 0 = some q_1 ∧ (vp_in a2 6 ∧ (∃ q_3, mR u this 0 = some q_3 ∧ (∃ q_4, mR u q_3 0 = some q_4 ∧ bX8_cellOf a3 u (fun r_7 u_6 => (vp_in r_7 10 ∧ (((mI u q_1 a2.toNatClampNeg) = (mI u_6 q_4 r_7.toNatClampNeg) → (∃ n9, bX8_agreesAt_26 n9 this a1 a2 a3 (0 : Int32) u_6 K)) ∧ (¬ ((mI u q_1 a2.toNatClampNeg) = (mI u_6 q_4 r_7.toNatClampNeg)) → K (0 : Int32) u_6))))))))
set_option maxRecDepth 100000 in
set_option maxHeartbeats 4000000 in
theorem tX8_agreesAt {X : mCx} {G : mG} {u0 : mSt} {K : Int32 → mSt → Prop} (F : mFx X G cX8_agreesAt wsX8_agreesAt RX8 "agreesAt" 2 51 (some .boolean) u0 (mPz K)) (hN : X.2.2.2.2.2.2.2.2.2.2.2.2.1 = 7) {this : Nat} {a1 : Nat} {a2 : Int32} {a3 : Int32} {u : mSt} (kthis : mK u this = 9) (ka1 : mK u a1 = 5) (h : bX8_agreesAt this a1 a2 a3 u K) : mZ X u 0 [(0, .ref (G.1 + this)), (1, .ref (G.1 + a1)), (2, .int a2), (3, .int a3)] [] := by
  refine mz_aload_n F dX8_agreesAt_0 rfl 1 rfl ?_
  obtain ⟨q_1, eq_1, h⟩ := h
  refine mz_getR F dX8_agreesAt_1 fX8_agreesAt_163 (by decide) ka1 eq_1 (fun kq_1 => ?_)
  refine mz_iload_n F dX8_agreesAt_4 rfl 2 rfl ?_
  obtain ⟨b_2, h⟩ := h
  refine mz_iald F dX8_agreesAt_5 kq_1 rfl b_2 ?_
  refine mz_aload_n F dX8_agreesAt_6 rfl 0 rfl ?_
  obtain ⟨q_3, eq_3, h⟩ := h
  refine mz_getR F dX8_agreesAt_7 fX8_agreesAt_12 (by decide) kthis eq_3 (fun kq_3 => ?_)
  obtain ⟨q_4, eq_4, h⟩ := h
  refine mz_getR F dX8_agreesAt_10 fX8_agreesAt_91 (by decide) kq_3 eq_4 (fun kq_4 => ?_)
  refine mz_iload_n F dX8_agreesAt_13 rfl 3 rfl ?_
  refine mz_callS (As := [_]) (n := 1) F dX8_agreesAt_14 rfl gX8_agreesAt_X8_cellOf (by decide +kernel) (by decide) rfl (Nat.le_of_ble_eq_true rfl) (kX8_cellOf _ G h) (mz_kI fun r_7 u_6 h hx_5 => ?_)
  replace kthis := hx_5.2.2 _ _ (by decide) kthis
  replace ka1 := hx_5.2.2 _ _ (by decide) ka1
  replace kq_4 := hx_5.2.2 _ _ (by decide) kq_4
  obtain ⟨b_8, h⟩ := h
  refine mz_iald F dX8_agreesAt_17 kq_4 rfl b_8 ?_
  refine mz_icmp_eq (tgt := 23) F dX8_agreesAt_18 (by decide) (fun c_9 => ?_) (fun c_9 => ?_)
  · replace h := h.1 c_9
    refine mz_iconst (v := 0) F dX8_agreesAt_23 (by decide) ?_
    refine mz_istore (lv2 := [(4, .int (0 : Int32)), (0, .ref (G.1 + this)), (1, .ref (G.1 + a1)), (2, .int a2), (3, .int a3)]) F dX8_agreesAt_24 hN (by decide) rfl ?_
    refine mz_sub [1, 2, 3, 4, 0] rfl ?_
    obtain ⟨n9, h⟩ := h
    exact tX8_agreesAt_26 F hN n9 kthis ka1 h
  · replace h := h.2 c_9
    refine mz_iconst (v := 0) F dX8_agreesAt_21 (by decide) ?_
    exact mz_zret F dX8_agreesAt_22 rfl ⟨_, rfl, by decide, h⟩
set_option maxRecDepth 100000 in
theorem kX8_agreesAt (l : Launch) (G : mG) {u : mSt} {K : Int32 → mSt → Prop} {this : Nat} {a1 : Nat} {a2 : Int32} {a3 : Int32} (kthis : mK u this = 9) (ka1 : mK u a1 = 5) (h : bX8_agreesAt this a1 a2 a3 u K) : mCt l G yX8_agreesAt wsX8_agreesAt 2 51 [.ref (G.1 + this), .ref (G.1 + a1), .int a2, .int a3] u (mPz K) := by
  refine mCt.of (cc := cX8_agreesAt) (maxL := 7) (ret := (some .boolean)) (by decide) rfl (Nat.le_of_ble_eq_true rfl) ?_
  intro X hl hN F
  exact tX8_agreesAt F hN kthis ka1 h
/-! RoomMapper.agreesWithHouse(LRoomMapper$Sheet;)Z -/
theorem wiX8_agreesWithHouse_8 : ∀ w ∈ u_ws RX8 TX8 9, w ∈ wsX8_agreesWithHouse := by decide +kernel
theorem fX8_agreesWithHouse_54 : mFld wsX8_agreesWithHouse RX8 54 9 6 7 (.object "RoomMapper$Todo") true := ⟨8, _, RX8, TX8, 9, tyX8, rfl, rfl, rfl, by decide, wiX8_agreesWithHouse_8, tyX8_ok, nmX8, rfl, rfl, Or.inl ⟨by decide +kernel, fun _ => rfl⟩⟩
theorem wiX8_agreesWithHouse_6 : ∀ w ∈ u_ws RX6 TX6 3, w ∈ wsX8_agreesWithHouse := by decide +kernel
theorem fX8_agreesWithHouse_227 : mFld wsX8_agreesWithHouse RX8 227 7 2 0 .int false := ⟨6, _, RX6, TX6, 3, tyX6, rfl, rfl, rfl, by decide, wiX8_agreesWithHouse_6, tyX6_ok, nmX6, rfl, rfl, Or.inr ⟨"RoomMapper", nwF8_227⟩⟩
theorem fX8_agreesWithHouse_230 : mFld wsX8_agreesWithHouse RX8 230 7 0 20 (.array .int) true := ⟨6, _, RX6, TX6, 3, tyX6, rfl, rfl, rfl, by decide, wiX8_agreesWithHouse_6, tyX6_ok, nmX6, rfl, rfl, Or.inr ⟨"RoomMapper", nwF8_230⟩⟩
theorem mX8_agreesWithHouse_iniX6_clear : Cond.initialized yX6_clear.cls ∈ wsX8_agreesWithHouse := by decide +kernel
theorem mX8_agreesWithHouse_imX6_clear : Cond.instanceMethod yX6_clear ∈ wsX8_agreesWithHouse := by decide +kernel
theorem mX8_agreesWithHouse_seX6_clear : Cond.selects RX6 yX6_clear yX6_clear ∈ wsX8_agreesWithHouse := by decide +kernel
theorem wiX8_agreesWithHouse_4 : ∀ w ∈ u_ws RX4 TX4 5, w ∈ wsX8_agreesWithHouse := by decide +kernel
theorem fX8_agreesWithHouse_149 : mFld wsX8_agreesWithHouse RX8 149 5 3 0 .int false := ⟨4, _, RX4, TX4, 5, tyX4, rfl, rfl, rfl, by decide, wiX8_agreesWithHouse_4, tyX4_ok, nmX4, rfl, rfl, Or.inr ⟨"RoomMapper", nwF8_149⟩⟩
theorem fX8_agreesWithHouse_12 : mFld wsX8_agreesWithHouse RX8 12 9 0 2 (.object "RoomMapper$House") true := ⟨8, _, RX8, TX8, 9, tyX8, rfl, rfl, rfl, by decide, wiX8_agreesWithHouse_8, tyX8_ok, nmX8, rfl, rfl, Or.inl ⟨by decide +kernel, fun _ => rfl⟩⟩
theorem wiX8_agreesWithHouse_1 : ∀ w ∈ u_ws RX1 TX1 7, w ∈ wsX8_agreesWithHouse := by decide +kernel
theorem fX8_agreesWithHouse_208 : mFld wsX8_agreesWithHouse RX8 208 2 5 0 .int false := ⟨1, _, RX1, TX1, 7, tyX1, rfl, rfl, rfl, by decide, wiX8_agreesWithHouse_1, tyX1_ok, nmX1, rfl, rfl, Or.inr ⟨"RoomMapper", nwF8_208⟩⟩
theorem mX8_agreesWithHouse_iniX6_addOnce : Cond.initialized yX6_addOnce.cls ∈ wsX8_agreesWithHouse := by decide +kernel
theorem mX8_agreesWithHouse_imX6_addOnce : Cond.instanceMethod yX6_addOnce ∈ wsX8_agreesWithHouse := by decide +kernel
theorem mX8_agreesWithHouse_seX6_addOnce : Cond.selects RX6 yX6_addOnce yX6_addOnce ∈ wsX8_agreesWithHouse := by decide +kernel
def bX8_agreesWithHouse_31 : Nat → Nat → Nat → Int32 → mSt → (Int32 → mSt → Prop) → Prop
  | 0, _, _, _, _, _ => False
  | n + 1, v0, v1, v2, u, K => (∃ q_1, mR u v0 6 = some q_1 ∧ (((mI u q_1 2) ≤ v2 → K (1 : Int32) u) ∧ (¬ ((mI u q_1 2) ≤ v2) → (((480 : Int32) ≤ v2 → K (1 : Int32) u) ∧ (¬ ((480 : Int32) ≤ v2) → (∃ q_2, mR u v0 6 = some q_2 ∧ (∃ q_3, mR u q_2 0 = some q_3 ∧ (vp_in v2 480 ∧ (∀ x_5, x_5 = (mI u q_3 v2.toNatClampNeg) → bX8_agreesAt v0 v1 (x_5 / (80 : Int32)) (x_5 - x_5 / (80 : Int32) * (80 : Int32)) u (fun r_8 u_7 => ((r_8 = 0 → K (0 : Int32) u_7) ∧ (¬ (r_8 = 0) → (∀ x_9, x_9 = v2 + (1 : Int32) → bX8_agreesWithHouse_31 n v0 v1 x_9 u_7 K)))))))))))))
set_option maxRecDepth 100000 in
set_option maxHeartbeats 4000000 in
theorem tX8_agreesWithHouse_31 {X : mCx} {G : mG} {u0 : mSt} {K : Int32 → mSt → Prop} (F : mFx X G cX8_agreesWithHouse wsX8_agreesWithHouse RX8 "agreesWithHouse" 3 77 (some .boolean) u0 (mPz K)) (hN : X.2.2.2.2.2.2.2.2.2.2.2.2.1 = 4) : ∀ (n : Nat) {v0 : Nat} {v1 : Nat} {v2 : Int32} {u : mSt}, mK u v0 = 9 → mK u v1 = 5 → bX8_agreesWithHouse_31 n v0 v1 v2 u K → mZ X u 31 [(0, .ref (G.1 + v0)), (1, .ref (G.1 + v1)), (2, .int v2)] [] := by
  intro n
  induction n with
  | zero => intro v0 v1 v2 u kv0 kv1 h; exact False.elim h
  | succ n ih =>
    intro v0 v1 v2 u kv0 kv1 h
    refine mz_iload_n F dX8_agreesWithHouse_31 rfl 2 rfl ?_
    refine mz_aload_n F dX8_agreesWithHouse_32 rfl 0 rfl ?_
    obtain ⟨q_1, eq_1, h⟩ := h
    refine mz_getR F dX8_agreesWithHouse_33 fX8_agreesWithHouse_54 (by decide) kv0 eq_1 (fun kq_1 => ?_)
    refine mz_getI F dX8_agreesWithHouse_36 fX8_agreesWithHouse_227 kq_1 ?_
    refine mz_icmp_ge (tgt := 83) F dX8_agreesWithHouse_39 (by decide) (fun c_12 => ?_) (fun c_12 => ?_)
    · replace h := h.1 c_12
      refine mz_iconst (v := 1) F dX8_agreesWithHouse_83 (by decide) ?_
      exact mz_zret F dX8_agreesWithHouse_84 rfl ⟨_, rfl, by decide, h⟩
    · replace h := h.2 c_12
      refine mz_iload_n F dX8_agreesWithHouse_42 rfl 2 rfl ?_
      refine mz_sipush (v := 480) F dX8_agreesWithHouse_43 (by decide) ?_
      refine mz_icmp_ge (tgt := 83) F dX8_agreesWithHouse_46 (by decide) (fun c_11 => ?_) (fun c_11 => ?_)
      · replace h := h.1 c_11
        refine mz_iconst (v := 1) F dX8_agreesWithHouse_83 (by decide) ?_
        exact mz_zret F dX8_agreesWithHouse_84 rfl ⟨_, rfl, by decide, h⟩
      · replace h := h.2 c_11
        refine mz_aload_n F dX8_agreesWithHouse_49 rfl 0 rfl ?_
        obtain ⟨q_2, eq_2, h⟩ := h
        refine mz_getR F dX8_agreesWithHouse_50 fX8_agreesWithHouse_54 (by decide) kv0 eq_2 (fun kq_2 => ?_)
        obtain ⟨q_3, eq_3, h⟩ := h
        refine mz_getR F dX8_agreesWithHouse_53 fX8_agreesWithHouse_230 (by decide) kq_2 eq_3 (fun kq_3 => ?_)
        refine mz_iload_n F dX8_agreesWithHouse_56 rfl 2 rfl ?_
        obtain ⟨b_4, h⟩ := h
        refine mz_iald F dX8_agreesWithHouse_57 kq_3 rfl b_4 ?_
        refine mz_topi (fun x_5 ex_5 => ?_)
        replace h := h x_5 ex_5
        refine mz_istore_n (lv2 := [(3, .int x_5), (0, .ref (G.1 + v0)), (1, .ref (G.1 + v1)), (2, .int v2)]) F dX8_agreesWithHouse_58 rfl hN (by decide) rfl ?_
        refine mz_aload_n F dX8_agreesWithHouse_59 rfl 1 rfl ?_
        refine mz_aload_n F dX8_agreesWithHouse_60 rfl 2 rfl ?_
        refine mz_iload_n F dX8_agreesWithHouse_61 rfl 0 rfl ?_
        refine mz_bipush (v := 80) F dX8_agreesWithHouse_62 (by decide) ?_
        refine mz_idiv F dX8_agreesWithHouse_64 (by decide) ?_
        refine mz_iload_n F dX8_agreesWithHouse_65 rfl 0 rfl ?_
        refine mz_bipush (v := 80) F dX8_agreesWithHouse_66 (by decide) ?_
        refine mz_irem F dX8_agreesWithHouse_68 (by decide) ?_
        refine mz_callV (As := [_, _, _]) (n := 3) F dX8_agreesWithHouse_69 rfl kv0 rfl rfl gX8_agreesWithHouse_X8_agreesAt (by decide +kernel) (by decide) rfl (Nat.le_of_ble_eq_true rfl) (kX8_agreesAt _ G kv0 kv1 h) (mz_kZ fun r_8 u_7 br_8 h hx_6 => ?_)
        replace kv0 := hx_6.2.2 _ _ (by decide) kv0
        replace kv1 := hx_6.2.2 _ _ (by decide) kv1
        refine mz_if_ne (tgt := 77) F dX8_agreesWithHouse_72 (by decide) (fun c_10 => ?_) (fun c_10 => ?_)
        · replace h := h.2 c_10
          obtain ⟨x_9, ex_9⟩ : ∃ y : Int32, y = v2 + (1 : Int32) := ⟨_, rfl⟩
          replace h := h x_9 ex_9
          refine mz_iinc (v := x_9) (lv2 := [(2, .int x_9), (3, .int x_5), (0, .ref (G.1 + v0)), (1, .ref (G.1 + v1))]) F dX8_agreesWithHouse_77 3 rfl (by rw [ex_9]; rfl) hN (by decide) rfl ?_
          refine mz_goto (tgt := 31) F dX8_agreesWithHouse_80 (by decide) ?_
          refine mz_sub [2, 3, 0] rfl ?_
          exact ih kv0 kv1 h
        · replace h := h.1 c_10
          refine mz_iconst (v := 0) F dX8_agreesWithHouse_75 (by decide) ?_
          exact mz_zret F dX8_agreesWithHouse_76 rfl ⟨_, rfl, by decide, h⟩
def bX8_agreesWithHouse (this : Nat) (a1 : Nat) (u : mSt) (K : Int32 → mSt → Prop) : Prop := (∃ q_1, mR u this 6 = some q_1 ∧ bX6_clear q_1 u (fun u_3 => (∃ q_4, mR u_3 this 6 = some q_4 ∧ (∃ q_5, mR u_3 this 0 = some q_5 ∧ bX6_addOnce q_4 (((mI u_3 a1 3) * (80 : Int32)) + (mI u_3 q_5 5)) u_3 (fun u_7 => (∃ n9, bX8_agreesWithHouse_31 n9 this a1 (0 : Int32) u_7 K))))))
set_option maxRecDepth 100000 in
set_option maxHeartbeats 4000000 in
theorem tX8_agreesWithHouse {X : mCx} {G : mG} {u0 : mSt} {K : Int32 → mSt → Prop} (F : mFx X G cX8_agreesWithHouse wsX8_agreesWithHouse RX8 "agreesWithHouse" 3 77 (some .boolean) u0 (mPz K)) (hN : X.2.2.2.2.2.2.2.2.2.2.2.2.1 = 4) {this : Nat} {a1 : Nat} {u : mSt} (kthis : mK u this = 9) (ka1 : mK u a1 = 5) (h : bX8_agreesWithHouse this a1 u K) : mZ X u 0 [(0, .ref (G.1 + this)), (1, .ref (G.1 + a1))] [] := by
  refine mz_aload_n F dX8_agreesWithHouse_0 rfl 0 rfl ?_
  obtain ⟨q_1, eq_1, h⟩ := h
  refine mz_getR F dX8_agreesWithHouse_1 fX8_agreesWithHouse_54 (by decide) kthis eq_1 (fun kq_1 => ?_)
  refine mz_callVN (As := []) (n := 0) F dX8_agreesWithHouse_4 rfl kq_1 rfl rfl gX8_agreesWithHouse_X6_clear_n220 nwM8_220 mX8_agreesWithHouse_iniX6_clear mX8_agreesWithHouse_imX6_clear mX8_agreesWithHouse_seX6_clear (by decide +kernel) (by decide) rfl (Nat.le_of_ble_eq_true rfl) (kX6_clear _ G kq_1 h) (mz_kV fun u_3 h hx_2 => ?_)
  replace kthis := hx_2.2.2 _ _ (by decide) kthis
  replace ka1 := hx_2.2.2 _ _ (by decide) ka1
  refine mz_aload_n F dX8_agreesWithHouse_7 rfl 0 rfl ?_
  obtain ⟨q_4, eq_4, h⟩ := h
  refine mz_getR F dX8_agreesWithHouse_8 fX8_agreesWithHouse_54 (by decide) kthis eq_4 (fun kq_4 => ?_)
  refine mz_aload_n F dX8_agreesWithHouse_11 rfl 1 rfl ?_
  refine mz_getI F dX8_agreesWithHouse_12 fX8_agreesWithHouse_149 ka1 ?_
  refine mz_bipush (v := 80) F dX8_agreesWithHouse_15 (by decide) ?_
  refine mz_imul F dX8_agreesWithHouse_17 ?_
  refine mz_aload_n F dX8_agreesWithHouse_18 rfl 0 rfl ?_
  obtain ⟨q_5, eq_5, h⟩ := h
  refine mz_getR F dX8_agreesWithHouse_19 fX8_agreesWithHouse_12 (by decide) kthis eq_5 (fun kq_5 => ?_)
  refine mz_getI F dX8_agreesWithHouse_22 fX8_agreesWithHouse_208 kq_5 ?_
  refine mz_iadd F dX8_agreesWithHouse_25 ?_
  refine mz_callVN (As := [_]) (n := 1) F dX8_agreesWithHouse_26 rfl kq_4 rfl rfl gX8_agreesWithHouse_X6_addOnce_n223 nwM8_223 mX8_agreesWithHouse_iniX6_addOnce mX8_agreesWithHouse_imX6_addOnce mX8_agreesWithHouse_seX6_addOnce (by decide +kernel) (by decide) rfl (Nat.le_of_ble_eq_true rfl) (kX6_addOnce _ G kq_4 h) (mz_kV fun u_7 h hx_6 => ?_)
  replace kthis := hx_6.2.2 _ _ (by decide) kthis
  replace ka1 := hx_6.2.2 _ _ (by decide) ka1
  refine mz_iconst (v := 0) F dX8_agreesWithHouse_29 (by decide) ?_
  refine mz_istore_n (lv2 := [(2, .int (0 : Int32)), (0, .ref (G.1 + this)), (1, .ref (G.1 + a1))]) F dX8_agreesWithHouse_30 rfl hN (by decide) rfl ?_
  refine mz_sub [1, 2, 0] rfl ?_
  obtain ⟨n9, h⟩ := h
  exact tX8_agreesWithHouse_31 F hN n9 kthis ka1 h
set_option maxRecDepth 100000 in
theorem kX8_agreesWithHouse (l : Launch) (G : mG) {u : mSt} {K : Int32 → mSt → Prop} {this : Nat} {a1 : Nat} (kthis : mK u this = 9) (ka1 : mK u a1 = 5) (h : bX8_agreesWithHouse this a1 u K) : mCt l G yX8_agreesWithHouse wsX8_agreesWithHouse 3 77 [.ref (G.1 + this), .ref (G.1 + a1)] u (mPz K) := by
  refine mCt.of (cc := cX8_agreesWithHouse) (maxL := 4) (ret := (some .boolean)) (by decide) rfl (Nat.le_of_ble_eq_true rfl) ?_
  intro X hl hN F
  exact tX8_agreesWithHouse F hN kthis ka1 h
/-! RoomMapper.isTrue(I)I -/
theorem wiX8_isTrue_8 : ∀ w ∈ u_ws RX8 TX8 9, w ∈ wsX8_isTrue := by decide +kernel
theorem fX8_isTrue_26 : mFld wsX8_isTrue RX8 26 9 2 1 (.object "RoomMapper$Atlas") true := ⟨8, _, RX8, TX8, 9, tyX8, rfl, rfl, rfl, by decide, wiX8_isTrue_8, tyX8_ok, nmX8, rfl, rfl, Or.inl ⟨by decide +kernel, fun _ => rfl⟩⟩
theorem wiX8_isTrue_0 : ∀ w ∈ u_ws RX0 TX0 6, w ∈ wsX8_isTrue := by decide +kernel
theorem fX8_isTrue_139 : mFld wsX8_isTrue RX8 139 1 2 0 .int false := ⟨0, _, RX0, TX0, 6, tyX0, rfl, rfl, rfl, by decide, wiX8_isTrue_0, tyX0_ok, nmX0, rfl, rfl, Or.inr ⟨"RoomMapper", nwF8_139⟩⟩
theorem fX8_isTrue_142 : mFld wsX8_isTrue RX8 142 1 0 11 (.array (.object "RoomMapper$Sheet")) false := ⟨0, _, RX0, TX0, 6, tyX0, rfl, rfl, rfl, by decide, wiX8_isTrue_0, tyX0_ok, nmX0, rfl, rfl, Or.inr ⟨"RoomMapper", nwF8_142⟩⟩
def bX8_isTrue (this : Nat) (a1 : Int32) (u : mSt) (K : Int32 → mSt → Prop) : Prop := (∃ q_1, mR u this 2 = some q_1 ∧ bX8_within a1 (mI u q_1 2) u (fun r_4 u_3 => ((r_4 = 0 → K (-1 : Int32) u_3) ∧ (¬ (r_4 = 0) → (∃ q_5, mR u_3 this 2 = some q_5 ∧ (∃ q_6, mR u_3 q_5 0 = some q_6 ∧ (vp_in a1 151 ∧ ∃ q_8, mR u_3 q_6 a1.toNatClampNeg = some q_8 ∧ bX8_agreesWithHouse this q_8 u_3 (fun r_11 u_10 => ((r_11 = 0 → K (0 : Int32) u_10) ∧ (¬ (r_11 = 0) → K (1 : Int32) u_10))))))))))
set_option maxRecDepth 100000 in
set_option maxHeartbeats 4000000 in
theorem tX8_isTrue {X : mCx} {G : mG} {u0 : mSt} {K : Int32 → mSt → Prop} (F : mFx X G cX8_isTrue wsX8_isTrue RX8 "isTrue" 4 100 (some .int) u0 (mPi K)) (hN : X.2.2.2.2.2.2.2.2.2.2.2.2.1 = 2) {this : Nat} {a1 : Int32} {u : mSt} (kthis : mK u this = 9) (h : bX8_isTrue this a1 u K) : mZ X u 0 [(0, .ref (G.1 + this)), (1, .int a1)] [] := by
  refine mz_iload_n F dX8_isTrue_0 rfl 1 rfl ?_
  refine mz_aload_n F dX8_isTrue_1 rfl 0 rfl ?_
  obtain ⟨q_1, eq_1, h⟩ := h
  refine mz_getR F dX8_isTrue_2 fX8_isTrue_26 (by decide) kthis eq_1 (fun kq_1 => ?_)
  refine mz_getI F dX8_isTrue_5 fX8_isTrue_139 kq_1 ?_
  refine mz_callS (As := [_, _]) (n := 2) F dX8_isTrue_8 rfl gX8_isTrue_X8_within (by decide +kernel) (by decide) rfl (Nat.le_of_ble_eq_true rfl) (kX8_within _ G h) (mz_kZ fun r_4 u_3 br_4 h hx_2 => ?_)
  replace kthis := hx_2.2.2 _ _ (by decide) kthis
  refine mz_if_ne (tgt := 16) F dX8_isTrue_11 (by decide) (fun c_13 => ?_) (fun c_13 => ?_)
  · replace h := h.2 c_13
    refine mz_aload_n F dX8_isTrue_16 rfl 0 rfl ?_
    refine mz_aload_n F dX8_isTrue_17 rfl 0 rfl ?_
    obtain ⟨q_5, eq_5, h⟩ := h
    refine mz_getR F dX8_isTrue_18 fX8_isTrue_26 (by decide) kthis eq_5 (fun kq_5 => ?_)
    obtain ⟨q_6, eq_6, h⟩ := h
    refine mz_getR F dX8_isTrue_21 fX8_isTrue_142 (by decide) kq_5 eq_6 (fun kq_6 => ?_)
    refine mz_iload_n F dX8_isTrue_24 rfl 1 rfl ?_
    obtain ⟨b_7, q_8, eq_8, h⟩ := h
    refine mz_aald4 F dX8_isTrue_25 kq_6 rfl (by decide) b_7 eq_8 (fun kq_8 => ?_)
    refine mz_callV (As := [_]) (n := 1) F dX8_isTrue_26 rfl kthis rfl rfl gX8_isTrue_X8_agreesWithHouse (by decide +kernel) (by decide) rfl (Nat.le_of_ble_eq_true rfl) (kX8_agreesWithHouse _ G kthis kq_8 h) (mz_kZ fun r_11 u_10 br_11 h hx_9 => ?_)
    refine mz_if_eq (tgt := 36) F dX8_isTrue_29 (by decide) (fun c_12 => ?_) (fun c_12 => ?_)
    · replace h := h.1 c_12
      refine mz_iconst (v := 0) F dX8_isTrue_36 (by decide) ?_
      exact mz_iret F dX8_isTrue_37 ⟨_, rfl, h⟩
    · replace h := h.2 c_12
      refine mz_iconst (v := 1) F dX8_isTrue_32 (by decide) ?_
      refine mz_goto (tgt := 37) F dX8_isTrue_33 (by decide) ?_
      exact mz_iret F dX8_isTrue_37 ⟨_, rfl, h⟩
  · replace h := h.1 c_13
    refine mz_iconst (v := (-1)) F dX8_isTrue_14 (by decide) ?_
    exact mz_iret F dX8_isTrue_15 ⟨_, rfl, h⟩
set_option maxRecDepth 100000 in
theorem kX8_isTrue (l : Launch) (G : mG) {u : mSt} {K : Int32 → mSt → Prop} {this : Nat} {a1 : Int32} (kthis : mK u this = 9) (h : bX8_isTrue this a1 u K) : mCt l G yX8_isTrue wsX8_isTrue 4 100 [.ref (G.1 + this), .int a1] u (mPi K) := by
  refine mCt.of (cc := cX8_isTrue) (maxL := 2) (ret := (some .int)) (by decide) rfl (Nat.le_of_ble_eq_true rfl) ?_
  intro X hl hN F
  exact tX8_isTrue F hN kthis h
/-! RoomMapper.count(I)I -/
theorem wiX8_count_8 : ∀ w ∈ u_ws RX8 TX8 9, w ∈ wsX8_count := by decide +kernel
theorem fX8_count_81 : mFld wsX8_count RX8 81 9 8 0 .boolean false := ⟨8, _, RX8, TX8, 9, tyX8, rfl, rfl, rfl, by decide, wiX8_count_8, tyX8_ok, nmX8, rfl, rfl, Or.inl ⟨by decide +kernel, fun _ => rfl⟩⟩
theorem fX8_count_12 : mFld wsX8_count RX8 12 9 0 2 (.object "RoomMapper$House") true := ⟨8, _, RX8, TX8, 9, tyX8, rfl, rfl, rfl, by decide, wiX8_count_8, tyX8_ok, nmX8, rfl, rfl, Or.inl ⟨by decide +kernel, fun _ => rfl⟩⟩
theorem wiX8_count_1 : ∀ w ∈ u_ws RX1 TX1 7, w ∈ wsX8_count := by decide +kernel
theorem fX8_count_126 : mFld wsX8_count RX8 126 2 6 0 .int false := ⟨1, _, RX1, TX1, 7, tyX1, rfl, rfl, rfl, by decide, wiX8_count_1, tyX1_ok, nmX1, rfl, rfl, Or.inr ⟨"RoomMapper", nwF8_126⟩⟩
theorem fX8_count_19 : mFld wsX8_count RX8 19 9 1 8 (.object "RoomMapper$Walk") true := ⟨8, _, RX8, TX8, 9, tyX8, rfl, rfl, rfl, by decide, wiX8_count_8, tyX8_ok, nmX8, rfl, rfl, Or.inl ⟨by decide +kernel, fun _ => rfl⟩⟩
theorem wiX8_count_7 : ∀ w ∈ u_ws RX7 TX7 3, w ∈ wsX8_count := by decide +kernel
theorem fX8_count_88 : mFld wsX8_count RX8 88 8 2 0 .int false := ⟨7, _, RX7, TX7, 3, tyX7, rfl, rfl, rfl, by decide, wiX8_count_7, tyX7_ok, nmX7, rfl, rfl, Or.inr ⟨"RoomMapper", nwF8_88⟩⟩
theorem fX8_count_208 : mFld wsX8_count RX8 208 2 5 0 .int false := ⟨1, _, RX1, TX1, 7, tyX1, rfl, rfl, rfl, by decide, wiX8_count_1, tyX1_ok, nmX1, rfl, rfl, Or.inr ⟨"RoomMapper", nwF8_208⟩⟩
theorem fX8_count_69 : mFld wsX8_count RX8 69 2 4 0 .int false := ⟨1, _, RX1, TX1, 7, tyX1, rfl, rfl, rfl, by decide, wiX8_count_1, tyX1_ok, nmX1, rfl, rfl, Or.inr ⟨"RoomMapper", nwF8_69⟩⟩
def bX8_count (this : Nat) (a1 : Int32) (u : mSt) (K : Int32 → mSt → Prop) : Prop := bX8_within a1 (6 : Int32) u (fun r_3 u_2 => ((r_3 = 0 → K (-1 : Int32) u_2) ∧ (¬ (r_3 = 0) → ((a1 = 0 → (∃ q_24, mR u_2 this 0 = some q_24 ∧ K (mI u_2 q_24 4) u_2)) ∧ (¬ (a1 = 0) → (((mI u_2 this 8) = 0 → K (-2 : Int32) u_2) ∧ (¬ ((mI u_2 this 8) = 0) → ((a1 = (1 : Int32) → (∃ q_18, mR u_2 this 0 = some q_18 ∧ bX8_cellOf (mI u_2 q_18 5) u_2 (fun r_21 u_20 => K r_21 u_20))) ∧ (¬ a1 = (1 : Int32) → ((a1 = (2 : Int32) → (∃ q_14, mR u_2 this 0 = some q_14 ∧ bX8_turnOf (mI u_2 q_14 5) u_2 (fun r_17 u_16 => K r_17 u_16))) ∧ (¬ a1 = (2 : Int32) → ((a1 = (3 : Int32) → (∃ q_10, mR u_2 this 0 = some q_10 ∧ bX8_switchOf (mI u_2 q_10 5) u_2 (fun r_13 u_12 => K r_13 u_12))) ∧ (¬ a1 = (3 : Int32) → ((a1 = (4 : Int32) → (∃ q_9, mR u_2 this 1 = some q_9 ∧ K (mI u_2 q_9 2) u_2)) ∧ (¬ a1 = (4 : Int32) → (∃ q_4, mR u_2 this 0 = some q_4 ∧ K (mI u_2 q_4 6) u_2))))))))))))))))
set_option maxRecDepth 100000 in
set_option maxHeartbeats 4000000 in
theorem tX8_count {X : mCx} {G : mG} {u0 : mSt} {K : Int32 → mSt → Prop} (F : mFx X G cX8_count wsX8_count RX8 "count" 1 21 (some .int) u0 (mPi K)) (hN : X.2.2.2.2.2.2.2.2.2.2.2.2.1 = 2) {this : Nat} {a1 : Int32} {u : mSt} (kthis : mK u this = 9) (h : bX8_count this a1 u K) : mZ X u 0 [(0, .ref (G.1 + this)), (1, .int a1)] [] := by
  refine mz_iload_n F dX8_count_0 rfl 1 rfl ?_
  refine mz_bipush (v := 6) F dX8_count_1 (by decide) ?_
  refine mz_callS (As := [_, _]) (n := 2) F dX8_count_3 rfl gX8_count_X8_within (by decide +kernel) (by decide) rfl (Nat.le_of_ble_eq_true rfl) (kX8_within _ G h) (mz_kZ fun r_3 u_2 br_3 h hx_1 => ?_)
  replace kthis := hx_1.2.2 _ _ (by decide) kthis
  refine mz_if_ne (tgt := 11) F dX8_count_6 (by decide) (fun c_26 => ?_) (fun c_26 => ?_)
  · replace h := h.2 c_26
    refine mz_iload_n F dX8_count_11 rfl 1 rfl ?_
    refine mz_if_ne (tgt := 23) F dX8_count_12 (by decide) (fun c_25 => ?_) (fun c_25 => ?_)
    · replace h := h.2 c_25
      refine mz_aload_n F dX8_count_23 rfl 0 rfl ?_
      refine mz_getI F dX8_count_24 fX8_count_81 kthis ?_
      refine mz_if_ne (tgt := 33) F dX8_count_27 (by decide) (fun c_23 => ?_) (fun c_23 => ?_)
      · replace h := h.2 c_23
        refine mz_iload_n F dX8_count_33 rfl 1 rfl ?_
        refine Classical.byCases (p := a1 = (1 : Int32)) (fun c_5 => ?_) (fun c_5 => ?_)
        · replace h := h.1 c_5
          have ec_5 := mte (z := 1) rfl c_5
          refine mz_tableIn (off := 30) (tgt := 64) F dX8_count_34 (by omega) (by omega) (by rw [ec_5]; rfl) (by decide) ?_
          refine mz_aload_n F dX8_count_64 rfl 0 rfl ?_
          obtain ⟨q_18, eq_18, h⟩ := h
          refine mz_getR F dX8_count_65 fX8_count_12 (by decide) kthis eq_18 (fun kq_18 => ?_)
          refine mz_getI F dX8_count_68 fX8_count_208 kq_18 ?_
          refine mz_callS (As := [_]) (n := 1) F dX8_count_71 rfl gX8_count_X8_cellOf (by decide +kernel) (by decide) rfl (Nat.le_of_ble_eq_true rfl) (kX8_cellOf _ G h) (mz_kI fun r_21 u_20 h hx_19 => ?_)
          exact mz_iret F dX8_count_74 ⟨_, rfl, h⟩
        · replace h := h.2 c_5
          refine Classical.byCases (p := a1 = (2 : Int32)) (fun c_6 => ?_) (fun c_6 => ?_)
          · replace h := h.1 c_6
            have ec_6 := mte (z := 2) rfl c_6
            refine mz_tableIn (off := 41) (tgt := 75) F dX8_count_34 (by omega) (by omega) (by rw [ec_6]; rfl) (by decide) ?_
            refine mz_aload_n F dX8_count_75 rfl 0 rfl ?_
            obtain ⟨q_14, eq_14, h⟩ := h
            refine mz_getR F dX8_count_76 fX8_count_12 (by decide) kthis eq_14 (fun kq_14 => ?_)
            refine mz_getI F dX8_count_79 fX8_count_208 kq_14 ?_
            refine mz_callS (As := [_]) (n := 1) F dX8_count_82 rfl gX8_count_X8_turnOf (by decide +kernel) (by decide) rfl (Nat.le_of_ble_eq_true rfl) (kX8_turnOf _ G h) (mz_kI fun r_17 u_16 h hx_15 => ?_)
            exact mz_iret F dX8_count_85 ⟨_, rfl, h⟩
          · replace h := h.2 c_6
            refine Classical.byCases (p := a1 = (3 : Int32)) (fun c_7 => ?_) (fun c_7 => ?_)
            · replace h := h.1 c_7
              have ec_7 := mte (z := 3) rfl c_7
              refine mz_tableIn (off := 52) (tgt := 86) F dX8_count_34 (by omega) (by omega) (by rw [ec_7]; rfl) (by decide) ?_
              refine mz_aload_n F dX8_count_86 rfl 0 rfl ?_
              obtain ⟨q_10, eq_10, h⟩ := h
              refine mz_getR F dX8_count_87 fX8_count_12 (by decide) kthis eq_10 (fun kq_10 => ?_)
              refine mz_getI F dX8_count_90 fX8_count_208 kq_10 ?_
              refine mz_callS (As := [_]) (n := 1) F dX8_count_93 rfl gX8_count_X8_switchOf (by decide +kernel) (by decide) rfl (Nat.le_of_ble_eq_true rfl) (kX8_switchOf _ G h) (mz_kI fun r_13 u_12 h hx_11 => ?_)
              exact mz_iret F dX8_count_96 ⟨_, rfl, h⟩
            · replace h := h.2 c_7
              refine Classical.byCases (p := a1 = (4 : Int32)) (fun c_8 => ?_) (fun c_8 => ?_)
              · replace h := h.1 c_8
                have ec_8 := mte (z := 4) rfl c_8
                refine mz_tableIn (off := 63) (tgt := 97) F dX8_count_34 (by omega) (by omega) (by rw [ec_8]; rfl) (by decide) ?_
                refine mz_aload_n F dX8_count_97 rfl 0 rfl ?_
                obtain ⟨q_9, eq_9, h⟩ := h
                refine mz_getR F dX8_count_98 fX8_count_19 (by decide) kthis eq_9 (fun kq_9 => ?_)
                refine mz_getI F dX8_count_101 fX8_count_88 kq_9 ?_
                exact mz_iret F dX8_count_104 ⟨_, rfl, h⟩
              · replace h := h.2 c_8
                have nc_5 := mtn (z := 1) rfl c_5
                have nc_6 := mtn (z := 2) rfl c_6
                have nc_7 := mtn (z := 3) rfl c_7
                have nc_8 := mtn (z := 4) rfl c_8
                refine mz_tableOut (tgt := 105) F dX8_count_34 (by omega) (by decide) ?_
                refine mz_aload_n F dX8_count_105 rfl 0 rfl ?_
                obtain ⟨q_4, eq_4, h⟩ := h
                refine mz_getR F dX8_count_106 fX8_count_12 (by decide) kthis eq_4 (fun kq_4 => ?_)
                refine mz_getI F dX8_count_109 fX8_count_126 kq_4 ?_
                exact mz_iret F dX8_count_112 ⟨_, rfl, h⟩
      · replace h := h.1 c_23
        refine mz_bipush (v := (-2)) F dX8_count_30 (by decide) ?_
        exact mz_iret F dX8_count_32 ⟨_, rfl, h⟩
    · replace h := h.1 c_25
      refine mz_aload_n F dX8_count_15 rfl 0 rfl ?_
      obtain ⟨q_24, eq_24, h⟩ := h
      refine mz_getR F dX8_count_16 fX8_count_12 (by decide) kthis eq_24 (fun kq_24 => ?_)
      refine mz_getI F dX8_count_19 fX8_count_69 kq_24 ?_
      exact mz_iret F dX8_count_22 ⟨_, rfl, h⟩
  · replace h := h.1 c_26
    refine mz_iconst (v := (-1)) F dX8_count_9 (by decide) ?_
    exact mz_iret F dX8_count_10 ⟨_, rfl, h⟩
set_option maxRecDepth 100000 in
theorem kX8_count (l : Launch) (G : mG) {u : mSt} {K : Int32 → mSt → Prop} {this : Nat} {a1 : Int32} (kthis : mK u this = 9) (h : bX8_count this a1 u K) : mCt l G yX8_count wsX8_count 1 21 [.ref (G.1 + this), .int a1] u (mPi K) := by
  refine mCt.of (cc := cX8_count) (maxL := 2) (ret := (some .int)) (by decide) rfl (Nat.le_of_ble_eq_true rfl) ?_
  intro X hl hN F
  exact tX8_count F hN kthis h
/-! RoomMapper.reached()I -/
theorem wiX8_reached_8 : ∀ w ∈ u_ws RX8 TX8 9, w ∈ wsX8_reached := by decide +kernel
theorem fX8_reached_54 : mFld wsX8_reached RX8 54 9 6 7 (.object "RoomMapper$Todo") true := ⟨8, _, RX8, TX8, 9, tyX8, rfl, rfl, rfl, by decide, wiX8_reached_8, tyX8_ok, nmX8, rfl, rfl, Or.inl ⟨by decide +kernel, fun _ => rfl⟩⟩
theorem fX8_reached_12 : mFld wsX8_reached RX8 12 9 0 2 (.object "RoomMapper$House") true := ⟨8, _, RX8, TX8, 9, tyX8, rfl, rfl, rfl, by decide, wiX8_reached_8, tyX8_ok, nmX8, rfl, rfl, Or.inl ⟨by decide +kernel, fun _ => rfl⟩⟩
theorem wiX8_reached_6 : ∀ w ∈ u_ws RX6 TX6 3, w ∈ wsX8_reached := by decide +kernel
theorem fX8_reached_230 : mFld wsX8_reached RX8 230 7 0 20 (.array .int) true := ⟨6, _, RX6, TX6, 3, tyX6, rfl, rfl, rfl, by decide, wiX8_reached_6, tyX6_ok, nmX6, rfl, rfl, Or.inr ⟨"RoomMapper", nwF8_230⟩⟩
theorem mX8_reached_iniX1_after : Cond.initialized yX1_after.cls ∈ wsX8_reached := by decide +kernel
theorem mX8_reached_imX1_after : Cond.instanceMethod yX1_after ∈ wsX8_reached := by decide +kernel
theorem mX8_reached_seX1_after : Cond.selects RX1 yX1_after yX1_after ∈ wsX8_reached := by decide +kernel
theorem mX8_reached_iniX6_addOnce : Cond.initialized yX6_addOnce.cls ∈ wsX8_reached := by decide +kernel
theorem mX8_reached_imX6_addOnce : Cond.instanceMethod yX6_addOnce ∈ wsX8_reached := by decide +kernel
theorem mX8_reached_seX6_addOnce : Cond.selects RX6 yX6_addOnce yX6_addOnce ∈ wsX8_reached := by decide +kernel
theorem fX8_reached_227 : mFld wsX8_reached RX8 227 7 2 0 .int false := ⟨6, _, RX6, TX6, 3, tyX6, rfl, rfl, rfl, by decide, wiX8_reached_6, tyX6_ok, nmX6, rfl, rfl, Or.inr ⟨"RoomMapper", nwF8_227⟩⟩
theorem fX8_reached_81 : mFld wsX8_reached RX8 81 9 8 0 .boolean false := ⟨8, _, RX8, TX8, 9, tyX8, rfl, rfl, rfl, by decide, wiX8_reached_8, tyX8_ok, nmX8, rfl, rfl, Or.inl ⟨by decide +kernel, fun _ => rfl⟩⟩
theorem mX8_reached_iniX6_clear : Cond.initialized yX6_clear.cls ∈ wsX8_reached := by decide +kernel
theorem mX8_reached_imX6_clear : Cond.instanceMethod yX6_clear ∈ wsX8_reached := by decide +kernel
theorem mX8_reached_seX6_clear : Cond.selects RX6 yX6_clear yX6_clear ∈ wsX8_reached := by decide +kernel
theorem wiX8_reached_1 : ∀ w ∈ u_ws RX1 TX1 7, w ∈ wsX8_reached := by decide +kernel
theorem fX8_reached_208 : mFld wsX8_reached RX8 208 2 5 0 .int false := ⟨1, _, RX1, TX1, 7, tyX1, rfl, rfl, rfl, by decide, wiX8_reached_1, tyX1_ok, nmX1, rfl, rfl, Or.inr ⟨"RoomMapper", nwF8_208⟩⟩
def bX8_reached_52 : Nat → Nat → Int32 → Int32 → mSt → (Int32 → mSt → Prop) → (Nat → Int32 → mSt → Prop) → Prop
  | 0, _, _, _, _, _, _ => False
  | n + 1, v0, v1, v2, u, K, KL33 => (((5 : Int32) ≤ v2 → (∀ x_1, x_1 = v1 + (1 : Int32) → KL33 v0 x_1 u)) ∧ (¬ ((5 : Int32) ≤ v2) → (∃ q_2, mR u v0 6 = some q_2 ∧ (∃ q_3, mR u v0 0 = some q_3 ∧ (∃ q_4, mR u v0 6 = some q_4 ∧ (∃ q_5, mR u q_4 0 = some q_5 ∧ (vp_in v1 480 ∧ bX1_after q_3 (mI u q_5 v1.toNatClampNeg) v2 u (fun r_9 u_8 => bX6_addOnce q_2 r_9 u_8 (fun u_11 => (∀ x_12, x_12 = v2 + (1 : Int32) → bX8_reached_52 n v0 v1 x_12 u_11 K KL33))))))))))
set_option maxRecDepth 100000 in
set_option maxHeartbeats 4000000 in
theorem tX8_reached_52 {X : mCx} {G : mG} {u0 : mSt} {K : Int32 → mSt → Prop} {KL33 : Nat → Int32 → mSt → Prop} (F : mFx X G cX8_reached wsX8_reached RX8 "reached" 2 51 (some .int) u0 (mPi K)) (hN : X.2.2.2.2.2.2.2.2.2.2.2.2.1 = 3) (hL33 : ∀ {v0 : Nat} {v1 : Int32} {u : mSt}, mK u v0 = 9 → KL33 v0 v1 u → mZ X u 33 [(0, .ref (G.1 + v0)), (1, .int v1)] []) : ∀ (n : Nat) {v0 : Nat} {v1 : Int32} {v2 : Int32} {u : mSt}, mK u v0 = 9 → bX8_reached_52 n v0 v1 v2 u K KL33 → mZ X u 52 [(0, .ref (G.1 + v0)), (1, .int v1), (2, .int v2)] [] := by
  intro n
  induction n with
  | zero => intro v0 v1 v2 u kv0 h; exact False.elim h
  | succ n ih =>
    intro v0 v1 v2 u kv0 h
    refine mz_iload_n F dX8_reached_52 rfl 2 rfl ?_
    refine mz_iconst (v := 5) F dX8_reached_53 (by decide) ?_
    refine mz_icmp_ge (tgt := 87) F dX8_reached_54 (by decide) (fun c_13 => ?_) (fun c_13 => ?_)
    · replace h := h.1 c_13
      obtain ⟨x_1, ex_1⟩ : ∃ y : Int32, y = v1 + (1 : Int32) := ⟨_, rfl⟩
      replace h := h x_1 ex_1
      refine mz_iinc (v := x_1) (lv2 := [(1, .int x_1), (0, .ref (G.1 + v0)), (2, .int v2)]) F dX8_reached_87 1 rfl (by rw [ex_1]; rfl) hN (by decide) rfl ?_
      refine mz_goto (tgt := 33) F dX8_reached_90 (by decide) ?_
      refine mz_sub [1, 0] rfl ?_
      exact hL33 kv0 h
    · replace h := h.2 c_13
      refine mz_aload_n F dX8_reached_57 rfl 0 rfl ?_
      obtain ⟨q_2, eq_2, h⟩ := h
      refine mz_getR F dX8_reached_58 fX8_reached_54 (by decide) kv0 eq_2 (fun kq_2 => ?_)
      refine mz_aload_n F dX8_reached_61 rfl 0 rfl ?_
      obtain ⟨q_3, eq_3, h⟩ := h
      refine mz_getR F dX8_reached_62 fX8_reached_12 (by decide) kv0 eq_3 (fun kq_3 => ?_)
      refine mz_aload_n F dX8_reached_65 rfl 0 rfl ?_
      obtain ⟨q_4, eq_4, h⟩ := h
      refine mz_getR F dX8_reached_66 fX8_reached_54 (by decide) kv0 eq_4 (fun kq_4 => ?_)
      obtain ⟨q_5, eq_5, h⟩ := h
      refine mz_getR F dX8_reached_69 fX8_reached_230 (by decide) kq_4 eq_5 (fun kq_5 => ?_)
      refine mz_iload_n F dX8_reached_72 rfl 1 rfl ?_
      obtain ⟨b_6, h⟩ := h
      refine mz_iald F dX8_reached_73 kq_5 rfl b_6 ?_
      refine mz_iload_n F dX8_reached_74 rfl 2 rfl ?_
      refine mz_callVN (As := [_, _]) (n := 2) F dX8_reached_75 rfl kq_3 rfl rfl gX8_reached_X1_after_n233 nwM8_233 mX8_reached_iniX1_after mX8_reached_imX1_after mX8_reached_seX1_after (by decide +kernel) (by decide) rfl (Nat.le_of_ble_eq_true rfl) (kX1_after _ G kq_3 h) (mz_kI fun r_9 u_8 h hx_7 => ?_)
      replace kv0 := hx_7.2.2 _ _ (by decide) kv0
      replace kq_2 := hx_7.2.2 _ _ (by decide) kq_2
      refine mz_callVN (As := [_]) (n := 1) F dX8_reached_78 rfl kq_2 rfl rfl gX8_reached_X6_addOnce_n223 nwM8_223 mX8_reached_iniX6_addOnce mX8_reached_imX6_addOnce mX8_reached_seX6_addOnce (by decide +kernel) (by decide) rfl (Nat.le_of_ble_eq_true rfl) (kX6_addOnce _ G kq_2 h) (mz_kV fun u_11 h hx_10 => ?_)
      replace kv0 := hx_10.2.2 _ _ (by decide) kv0
      obtain ⟨x_12, ex_12⟩ : ∃ y : Int32, y = v2 + (1 : Int32) := ⟨_, rfl⟩
      replace h := h x_12 ex_12
      refine mz_iinc (v := x_12) (lv2 := [(2, .int x_12), (0, .ref (G.1 + v0)), (1, .int v1)]) F dX8_reached_81 2 rfl (by rw [ex_12]; rfl) hN (by decide) rfl ?_
      refine mz_goto (tgt := 52) F dX8_reached_84 (by decide) ?_
      refine mz_sub [1, 2, 0] rfl ?_
      exact ih kv0 h
def bX8_reached_33 : Nat → Nat → Int32 → mSt → (Int32 → mSt → Prop) → Prop
  | 0, _, _, _, _ => False
  | n + 1, v0, v1, u, K => (∃ q_1, mR u v0 6 = some q_1 ∧ (((mI u q_1 2) ≤ v1 → (∃ q_2, mR u v0 6 = some q_2 ∧ K (mI u q_2 2) u)) ∧ (¬ ((mI u q_1 2) ≤ v1) → (((80 : Int32) ≤ v1 → (∃ q_3, mR u v0 6 = some q_3 ∧ K (mI u q_3 2) u)) ∧ (¬ ((80 : Int32) ≤ v1) → (∃ n9, bX8_reached_52 n9 v0 v1 (0 : Int32) u K (fun z0 z1 z2 => bX8_reached_33 n z0 z1 z2 K)))))))
set_option maxRecDepth 100000 in
set_option maxHeartbeats 4000000 in
theorem tX8_reached_33 {X : mCx} {G : mG} {u0 : mSt} {K : Int32 → mSt → Prop} (F : mFx X G cX8_reached wsX8_reached RX8 "reached" 2 51 (some .int) u0 (mPi K)) (hN : X.2.2.2.2.2.2.2.2.2.2.2.2.1 = 3) : ∀ (n : Nat) {v0 : Nat} {v1 : Int32} {u : mSt}, mK u v0 = 9 → bX8_reached_33 n v0 v1 u K → mZ X u 33 [(0, .ref (G.1 + v0)), (1, .int v1)] [] := by
  intro n
  induction n with
  | zero => intro v0 v1 u kv0 h; exact False.elim h
  | succ n ih =>
    intro v0 v1 u kv0 h
    refine mz_iload_n F dX8_reached_33 rfl 1 rfl ?_
    refine mz_aload_n F dX8_reached_34 rfl 0 rfl ?_
    obtain ⟨q_1, eq_1, h⟩ := h
    refine mz_getR F dX8_reached_35 fX8_reached_54 (by decide) kv0 eq_1 (fun kq_1 => ?_)
    refine mz_getI F dX8_reached_38 fX8_reached_227 kq_1 ?_
    refine mz_icmp_ge (tgt := 93) F dX8_reached_41 (by decide) (fun c_5 => ?_) (fun c_5 => ?_)
    · replace h := h.1 c_5
      refine mz_aload_n F dX8_reached_93 rfl 0 rfl ?_
      obtain ⟨q_2, eq_2, h⟩ := h
      refine mz_getR F dX8_reached_94 fX8_reached_54 (by decide) kv0 eq_2 (fun kq_2 => ?_)
      refine mz_getI F dX8_reached_97 fX8_reached_227 kq_2 ?_
      exact mz_iret F dX8_reached_100 ⟨_, rfl, h⟩
    · replace h := h.2 c_5
      refine mz_iload_n F dX8_reached_44 rfl 1 rfl ?_
      refine mz_bipush (v := 80) F dX8_reached_45 (by decide) ?_
      refine mz_icmp_ge (tgt := 93) F dX8_reached_47 (by decide) (fun c_4 => ?_) (fun c_4 => ?_)
      · replace h := h.1 c_4
        refine mz_aload_n F dX8_reached_93 rfl 0 rfl ?_
        obtain ⟨q_3, eq_3, h⟩ := h
        refine mz_getR F dX8_reached_94 fX8_reached_54 (by decide) kv0 eq_3 (fun kq_3 => ?_)
        refine mz_getI F dX8_reached_97 fX8_reached_227 kq_3 ?_
        exact mz_iret F dX8_reached_100 ⟨_, rfl, h⟩
      · replace h := h.2 c_4
        refine mz_iconst (v := 0) F dX8_reached_50 (by decide) ?_
        refine mz_istore_n (lv2 := [(2, .int (0 : Int32)), (0, .ref (G.1 + v0)), (1, .int v1)]) F dX8_reached_51 rfl hN (by decide) rfl ?_
        refine mz_sub [1, 2, 0] rfl ?_
        obtain ⟨n9, h⟩ := h
        exact tX8_reached_52 F hN (fun k0 h => ih k0 h) n9 kv0 h
def bX8_reached (this : Nat) (u : mSt) (K : Int32 → mSt → Prop) : Prop := (((mI u this 8) = 0 → K (-2 : Int32) u) ∧ (¬ ((mI u this 8) = 0) → (∃ q_1, mR u this 6 = some q_1 ∧ bX6_clear q_1 u (fun u_3 => (∃ q_4, mR u_3 this 6 = some q_4 ∧ (∃ q_5, mR u_3 this 0 = some q_5 ∧ bX6_addOnce q_4 (mI u_3 q_5 5) u_3 (fun u_7 => (∃ n9, bX8_reached_33 n9 this (0 : Int32) u_7 K))))))))
set_option maxRecDepth 100000 in
set_option maxHeartbeats 4000000 in
theorem tX8_reached {X : mCx} {G : mG} {u0 : mSt} {K : Int32 → mSt → Prop} (F : mFx X G cX8_reached wsX8_reached RX8 "reached" 2 51 (some .int) u0 (mPi K)) (hN : X.2.2.2.2.2.2.2.2.2.2.2.2.1 = 3) {this : Nat} {u : mSt} (kthis : mK u this = 9) (h : bX8_reached this u K) : mZ X u 0 [(0, .ref (G.1 + this))] [] := by
  refine mz_aload_n F dX8_reached_0 rfl 0 rfl ?_
  refine mz_getI F dX8_reached_1 fX8_reached_81 kthis ?_
  refine mz_if_ne (tgt := 10) F dX8_reached_4 (by decide) (fun c_8 => ?_) (fun c_8 => ?_)
  · replace h := h.2 c_8
    refine mz_aload_n F dX8_reached_10 rfl 0 rfl ?_
    obtain ⟨q_1, eq_1, h⟩ := h
    refine mz_getR F dX8_reached_11 fX8_reached_54 (by decide) kthis eq_1 (fun kq_1 => ?_)
    refine mz_callVN (As := []) (n := 0) F dX8_reached_14 rfl kq_1 rfl rfl gX8_reached_X6_clear_n220 nwM8_220 mX8_reached_iniX6_clear mX8_reached_imX6_clear mX8_reached_seX6_clear (by decide +kernel) (by decide) rfl (Nat.le_of_ble_eq_true rfl) (kX6_clear _ G kq_1 h) (mz_kV fun u_3 h hx_2 => ?_)
    replace kthis := hx_2.2.2 _ _ (by decide) kthis
    refine mz_aload_n F dX8_reached_17 rfl 0 rfl ?_
    obtain ⟨q_4, eq_4, h⟩ := h
    refine mz_getR F dX8_reached_18 fX8_reached_54 (by decide) kthis eq_4 (fun kq_4 => ?_)
    refine mz_aload_n F dX8_reached_21 rfl 0 rfl ?_
    obtain ⟨q_5, eq_5, h⟩ := h
    refine mz_getR F dX8_reached_22 fX8_reached_12 (by decide) kthis eq_5 (fun kq_5 => ?_)
    refine mz_getI F dX8_reached_25 fX8_reached_208 kq_5 ?_
    refine mz_callVN (As := [_]) (n := 1) F dX8_reached_28 rfl kq_4 rfl rfl gX8_reached_X6_addOnce_n223 nwM8_223 mX8_reached_iniX6_addOnce mX8_reached_imX6_addOnce mX8_reached_seX6_addOnce (by decide +kernel) (by decide) rfl (Nat.le_of_ble_eq_true rfl) (kX6_addOnce _ G kq_4 h) (mz_kV fun u_7 h hx_6 => ?_)
    replace kthis := hx_6.2.2 _ _ (by decide) kthis
    refine mz_iconst (v := 0) F dX8_reached_31 (by decide) ?_
    refine mz_istore_n (lv2 := [(1, .int (0 : Int32)), (0, .ref (G.1 + this))]) F dX8_reached_32 rfl hN (by decide) rfl ?_
    refine mz_sub [1, 0] rfl ?_
    obtain ⟨n9, h⟩ := h
    exact tX8_reached_33 F hN n9 kthis h
  · replace h := h.1 c_8
    refine mz_bipush (v := (-2)) F dX8_reached_7 (by decide) ?_
    exact mz_iret F dX8_reached_9 ⟨_, rfl, h⟩
set_option maxRecDepth 100000 in
theorem kX8_reached (l : Launch) (G : mG) {u : mSt} {K : Int32 → mSt → Prop} {this : Nat} (kthis : mK u this = 9) (h : bX8_reached this u K) : mCt l G yX8_reached wsX8_reached 2 51 [.ref (G.1 + this)] u (mPi K) := by
  refine mCt.of (cc := cX8_reached) (maxL := 3) (ret := (some .int)) (by decide) rfl (Nat.le_of_ble_eq_true rfl) ?_
  intro X hl hN F
  exact tX8_reached F hN kthis h
/-! RoomMapper.keepLead(LRoomMapper$Shelf;I)I -/
theorem wiX8_keepLead_8 : ∀ w ∈ u_ws RX8 TX8 9, w ∈ wsX8_keepLead := by decide +kernel
theorem fX8_keepLead_12 : mFld wsX8_keepLead RX8 12 9 0 2 (.object "RoomMapper$House") true := ⟨8, _, RX8, TX8, 9, tyX8, rfl, rfl, rfl, by decide, wiX8_keepLead_8, tyX8_ok, nmX8, rfl, rfl, Or.inl ⟨by decide +kernel, fun _ => rfl⟩⟩
theorem wiX8_keepLead_1 : ∀ w ∈ u_ws RX1 TX1 7, w ∈ wsX8_keepLead := by decide +kernel
theorem fX8_keepLead_69 : mFld wsX8_keepLead RX8 69 2 4 0 .int false := ⟨1, _, RX1, TX1, 7, tyX1, rfl, rfl, rfl, by decide, wiX8_keepLead_1, tyX1_ok, nmX1, rfl, rfl, Or.inr ⟨"RoomMapper", nwF8_69⟩⟩
theorem fX8_keepLead_309 : mFld wsX8_keepLead RX8 309 2 2 14 (.array .int) true := ⟨1, _, RX1, TX1, 7, tyX1, rfl, rfl, rfl, by decide, wiX8_keepLead_1, tyX1_ok, nmX1, rfl, rfl, Or.inr ⟨"RoomMapper", nwF8_309⟩⟩
theorem fX8_keepLead_312 : mFld wsX8_keepLead RX8 312 2 3 14 (.array .int) true := ⟨1, _, RX1, TX1, 7, tyX1, rfl, rfl, rfl, by decide, wiX8_keepLead_1, tyX1_ok, nmX1, rfl, rfl, Or.inr ⟨"RoomMapper", nwF8_312⟩⟩
theorem mX8_keepLead_iniX5_holdLead : Cond.initialized yX5_holdLead.cls ∈ wsX8_keepLead := by decide +kernel
theorem mX8_keepLead_imX5_holdLead : Cond.instanceMethod yX5_holdLead ∈ wsX8_keepLead := by decide +kernel
theorem mX8_keepLead_seX5_holdLead : Cond.selects RX5 yX5_holdLead yX5_holdLead ∈ wsX8_keepLead := by decide +kernel
def bX8_keepLead (this : Nat) (a1 : Nat) (a2 : Int32) (u : mSt) (K : Int32 → mSt → Prop) : Prop := (∃ q_1, mR u this 0 = some q_1 ∧ bX8_within a2 ((mI u q_1 4) * (4 : Int32)) u (fun r_4 u_3 => ((r_4 = 0 → K (-1 : Int32) u_3) ∧ (¬ (r_4 = 0) → (∃ q_5, mR u_3 this 0 = some q_5 ∧ (∃ q_6, mR u_3 q_5 2 = some q_6 ∧ (vp_in a2 40 ∧ (∃ q_8, mR u_3 this 0 = some q_8 ∧ (∃ q_9, mR u_3 q_8 3 = some q_9 ∧ (vp_in a2 40 ∧ bX5_holdLead a1 (mI u_3 q_6 a2.toNatClampNeg) (mI u_3 q_9 a2.toNatClampNeg) u_3 (fun u_12 => K (0 : Int32) u_12)))))))))))
set_option maxRecDepth 100000 in
set_option maxHeartbeats 4000000 in
theorem tX8_keepLead {X : mCx} {G : mG} {u0 : mSt} {K : Int32 → mSt → Prop} (F : mFx X G cX8_keepLead wsX8_keepLead RX8 "keepLead" 1 22 (some .int) u0 (mPi K)) (hN : X.2.2.2.2.2.2.2.2.2.2.2.2.1 = 3) {this : Nat} {a1 : Nat} {a2 : Int32} {u : mSt} (kthis : mK u this = 9) (ka1 : mK u a1 = 6) (h : bX8_keepLead this a1 a2 u K) : mZ X u 0 [(0, .ref (G.1 + this)), (1, .ref (G.1 + a1)), (2, .int a2)] [] := by
  refine mz_iload_n F dX8_keepLead_0 rfl 2 rfl ?_
  refine mz_aload_n F dX8_keepLead_1 rfl 0 rfl ?_
  obtain ⟨q_1, eq_1, h⟩ := h
  refine mz_getR F dX8_keepLead_2 fX8_keepLead_12 (by decide) kthis eq_1 (fun kq_1 => ?_)
  refine mz_getI F dX8_keepLead_5 fX8_keepLead_69 kq_1 ?_
  refine mz_iconst (v := 4) F dX8_keepLead_8 (by decide) ?_
  refine mz_imul F dX8_keepLead_9 ?_
  refine mz_callS (As := [_, _]) (n := 2) F dX8_keepLead_10 rfl gX8_keepLead_X8_within (by decide +kernel) (by decide) rfl (Nat.le_of_ble_eq_true rfl) (kX8_within _ G h) (mz_kZ fun r_4 u_3 br_4 h hx_2 => ?_)
  replace kthis := hx_2.2.2 _ _ (by decide) kthis
  replace ka1 := hx_2.2.2 _ _ (by decide) ka1
  refine mz_if_ne (tgt := 18) F dX8_keepLead_13 (by decide) (fun c_13 => ?_) (fun c_13 => ?_)
  · replace h := h.2 c_13
    refine mz_aload_n F dX8_keepLead_18 rfl 1 rfl ?_
    refine mz_aload_n F dX8_keepLead_19 rfl 0 rfl ?_
    obtain ⟨q_5, eq_5, h⟩ := h
    refine mz_getR F dX8_keepLead_20 fX8_keepLead_12 (by decide) kthis eq_5 (fun kq_5 => ?_)
    obtain ⟨q_6, eq_6, h⟩ := h
    refine mz_getR F dX8_keepLead_23 fX8_keepLead_309 (by decide) kq_5 eq_6 (fun kq_6 => ?_)
    refine mz_iload_n F dX8_keepLead_26 rfl 2 rfl ?_
    obtain ⟨b_7, h⟩ := h
    refine mz_iald F dX8_keepLead_27 kq_6 rfl b_7 ?_
    refine mz_aload_n F dX8_keepLead_28 rfl 0 rfl ?_
    obtain ⟨q_8, eq_8, h⟩ := h
    refine mz_getR F dX8_keepLead_29 fX8_keepLead_12 (by decide) kthis eq_8 (fun kq_8 => ?_)
    obtain ⟨q_9, eq_9, h⟩ := h
    refine mz_getR F dX8_keepLead_32 fX8_keepLead_312 (by decide) kq_8 eq_9 (fun kq_9 => ?_)
    refine mz_iload_n F dX8_keepLead_35 rfl 2 rfl ?_
    obtain ⟨b_10, h⟩ := h
    refine mz_iald F dX8_keepLead_36 kq_9 rfl b_10 ?_
    refine mz_callVN (As := [_, _]) (n := 2) F dX8_keepLead_37 rfl ka1 rfl rfl gX8_keepLead_X5_holdLead_n315 nwM8_315 mX8_keepLead_iniX5_holdLead mX8_keepLead_imX5_holdLead mX8_keepLead_seX5_holdLead (by decide +kernel) (by decide) rfl (Nat.le_of_ble_eq_true rfl) (kX5_holdLead _ G ka1 h) (mz_kV fun u_12 h hx_11 => ?_)
    refine mz_iconst (v := 0) F dX8_keepLead_40 (by decide) ?_
    exact mz_iret F dX8_keepLead_41 ⟨_, rfl, h⟩
  · replace h := h.1 c_13
    refine mz_iconst (v := (-1)) F dX8_keepLead_16 (by decide) ?_
    exact mz_iret F dX8_keepLead_17 ⟨_, rfl, h⟩
set_option maxRecDepth 100000 in
theorem kX8_keepLead (l : Launch) (G : mG) {u : mSt} {K : Int32 → mSt → Prop} {this : Nat} {a1 : Nat} {a2 : Int32} (kthis : mK u this = 9) (ka1 : mK u a1 = 6) (h : bX8_keepLead this a1 a2 u K) : mCt l G yX8_keepLead wsX8_keepLead 1 22 [.ref (G.1 + this), .ref (G.1 + a1), .int a2] u (mPi K) := by
  refine mCt.of (cc := cX8_keepLead) (maxL := 3) (ret := (some .int)) (by decide) rfl (Nat.le_of_ble_eq_true rfl) ?_
  intro X hl hN F
  exact tX8_keepLead F hN kthis ka1 h
/-! RoomMapper.keepActs(LRoomMapper$Shelf;)I -/
theorem wiX8_keepActs_5 : ∀ w ∈ u_ws RX5 TX5 5, w ∈ wsX8_keepActs := by decide +kernel
theorem fX8_keepActs_271 : mFld wsX8_keepActs RX8 271 6 0 19 (.array .long) true := ⟨5, _, RX5, TX5, 5, tyX5, rfl, rfl, rfl, by decide, wiX8_keepActs_5, tyX5_ok, nmX5, rfl, rfl, Or.inr ⟨"RoomMapper", nwF8_271⟩⟩
theorem wiX8_keepActs_8 : ∀ w ∈ u_ws RX8 TX8 9, w ∈ wsX8_keepActs := by decide +kernel
theorem fX8_keepActs_19 : mFld wsX8_keepActs RX8 19 9 1 8 (.object "RoomMapper$Walk") true := ⟨8, _, RX8, TX8, 9, tyX8, rfl, rfl, rfl, by decide, wiX8_keepActs_8, tyX8_ok, nmX8, rfl, rfl, Or.inl ⟨by decide +kernel, fun _ => rfl⟩⟩
theorem wiX8_keepActs_7 : ∀ w ∈ u_ws RX7 TX7 3, w ∈ wsX8_keepActs := by decide +kernel
theorem fX8_keepActs_132 : mFld wsX8_keepActs RX8 132 8 0 22 (.array .int) true := ⟨7, _, RX7, TX7, 3, tyX7, rfl, rfl, rfl, by decide, wiX8_keepActs_7, tyX7_ok, nmX7, rfl, rfl, Or.inr ⟨"RoomMapper", nwF8_132⟩⟩
theorem fX8_keepActs_88 : mFld wsX8_keepActs RX8 88 8 2 0 .int false := ⟨7, _, RX7, TX7, 3, tyX7, rfl, rfl, rfl, by decide, wiX8_keepActs_7, tyX7_ok, nmX7, rfl, rfl, Or.inr ⟨"RoomMapper", nwF8_88⟩⟩
theorem fX8_keepActs_81 : mFld wsX8_keepActs RX8 81 9 8 0 .boolean false := ⟨8, _, RX8, TX8, 9, tyX8, rfl, rfl, rfl, by decide, wiX8_keepActs_8, tyX8_ok, nmX8, rfl, rfl, Or.inl ⟨by decide +kernel, fun _ => rfl⟩⟩
theorem mX8_keepActs_ml318 : Cond.methodLink RX8 318 Lib.Math.min.name ∈ wsX8_keepActs := by decide +kernel
theorem mX8_keepActs_ms : Cond.static Lib.Math.min.name ∈ wsX8_keepActs := by decide +kernel
theorem mX8_keepActs_mi : Cond.initialized "java/lang/Math" ∈ wsX8_keepActs := by decide +kernel
theorem mX8_keepActs_mc : Cond.code Lib.Math.min.name Lib.Math.min.code 2 (some .int) ∈ wsX8_keepActs := by decide +kernel
theorem mX8_keepActs_iniX5_holdRow : Cond.initialized yX5_holdRow.cls ∈ wsX8_keepActs := by decide +kernel
theorem mX8_keepActs_imX5_holdRow : Cond.instanceMethod yX5_holdRow ∈ wsX8_keepActs := by decide +kernel
theorem mX8_keepActs_seX5_holdRow : Cond.selects RX5 yX5_holdRow yX5_holdRow ∈ wsX8_keepActs := by decide +kernel
def bX8_keepActs_30 : Nat → Nat → Nat → Int32 → Int32 → mSt → (Int32 → mSt → Prop) → Prop
  | 0, _, _, _, _, _, _ => False
  | n + 1, v0, v1, v2, v3, u, K => ((v2 ≤ v3 → K (0 : Int32) u) ∧ (¬ (v2 ≤ v3) → (∃ q_1, mR u v1 0 = some q_1 ∧ (∃ q_2, mR u v0 1 = some q_2 ∧ (∃ q_3, mR u q_2 0 = some q_3 ∧ (∃ q_4, mR u v0 1 = some q_4 ∧ (vp_in (((mI u q_4 2) - v2) + v3) 200 ∧ (vp_in v3 60 ∧ ∀ u_7, u_7 = mpL u q_1 v3.toNatClampNeg ((mI u q_3 (((mI u q_4 2) - v2) + v3).toNatClampNeg).toInt64) → (∀ x_8, x_8 = v3 + (1 : Int32) → bX8_keepActs_30 n v0 v1 v2 x_8 u_7 K)))))))))
set_option maxRecDepth 100000 in
set_option maxHeartbeats 4000000 in
theorem tX8_keepActs_30 {X : mCx} {G : mG} {u0 : mSt} {K : Int32 → mSt → Prop} (F : mFx X G cX8_keepActs wsX8_keepActs RX8 "keepActs" 2 46 (some .int) u0 (mPi K)) (hN : X.2.2.2.2.2.2.2.2.2.2.2.2.1 = 4) : ∀ (n : Nat) {v0 : Nat} {v1 : Nat} {v2 : Int32} {v3 : Int32} {u : mSt}, mK u v0 = 9 → mK u v1 = 6 → bX8_keepActs_30 n v0 v1 v2 v3 u K → mZ X u 30 [(0, .ref (G.1 + v0)), (1, .ref (G.1 + v1)), (2, .int v2), (3, .int v3)] [] := by
  intro n
  induction n with
  | zero => intro v0 v1 v2 v3 u kv0 kv1 h; exact False.elim h
  | succ n ih =>
    intro v0 v1 v2 v3 u kv0 kv1 h
    refine mz_iload_n F dX8_keepActs_30 rfl 3 rfl ?_
    refine mz_iload_n F dX8_keepActs_31 rfl 2 rfl ?_
    refine mz_icmp_ge (tgt := 67) F dX8_keepActs_32 (by decide) (fun c_9 => ?_) (fun c_9 => ?_)
    · replace h := h.1 c_9
      refine mz_iconst (v := 0) F dX8_keepActs_67 (by decide) ?_
      exact mz_iret F dX8_keepActs_68 ⟨_, rfl, h⟩
    · replace h := h.2 c_9
      refine mz_aload_n F dX8_keepActs_35 rfl 1 rfl ?_
      obtain ⟨q_1, eq_1, h⟩ := h
      refine mz_getR F dX8_keepActs_36 fX8_keepActs_271 (by decide) kv1 eq_1 (fun kq_1 => ?_)
      refine mz_iload_n F dX8_keepActs_39 rfl 3 rfl ?_
      refine mz_aload_n F dX8_keepActs_40 rfl 0 rfl ?_
      obtain ⟨q_2, eq_2, h⟩ := h
      refine mz_getR F dX8_keepActs_41 fX8_keepActs_19 (by decide) kv0 eq_2 (fun kq_2 => ?_)
      obtain ⟨q_3, eq_3, h⟩ := h
      refine mz_getR F dX8_keepActs_44 fX8_keepActs_132 (by decide) kq_2 eq_3 (fun kq_3 => ?_)
      refine mz_aload_n F dX8_keepActs_47 rfl 0 rfl ?_
      obtain ⟨q_4, eq_4, h⟩ := h
      refine mz_getR F dX8_keepActs_48 fX8_keepActs_19 (by decide) kv0 eq_4 (fun kq_4 => ?_)
      refine mz_getI F dX8_keepActs_51 fX8_keepActs_88 kq_4 ?_
      refine mz_iload_n F dX8_keepActs_54 rfl 2 rfl ?_
      refine mz_isub F dX8_keepActs_55 ?_
      refine mz_iload_n F dX8_keepActs_56 rfl 3 rfl ?_
      refine mz_iadd F dX8_keepActs_57 ?_
      obtain ⟨b_5, h⟩ := h
      refine mz_iald F dX8_keepActs_58 kq_3 rfl b_5 ?_
      refine mz_i2l F dX8_keepActs_59 ?_
      obtain ⟨b_6, h⟩ := h
      refine mz_last F dX8_keepActs_60 kq_1 rfl b_6 (fun u_7 eu_7 hxu_7 => ?_)
      replace h := h u_7 eu_7
      replace kv0 := hxu_7.2.2 _ _ (by decide) kv0
      replace kv1 := hxu_7.2.2 _ _ (by decide) kv1
      obtain ⟨x_8, ex_8⟩ : ∃ y : Int32, y = v3 + (1 : Int32) := ⟨_, rfl⟩
      replace h := h x_8 ex_8
      refine mz_iinc (v := x_8) (lv2 := [(3, .int x_8), (0, .ref (G.1 + v0)), (1, .ref (G.1 + v1)), (2, .int v2)]) F dX8_keepActs_61 3 rfl (by rw [ex_8]; rfl) hN (by decide) rfl ?_
      refine mz_goto (tgt := 30) F dX8_keepActs_64 (by decide) ?_
      refine mz_sub [1, 2, 3, 0] rfl ?_
      exact ih kv0 kv1 h
def bX8_keepActs (this : Nat) (a1 : Nat) (u : mSt) (K : Int32 → mSt → Prop) : Prop := (((mI u this 8) = 0 → K (-1 : Int32) u) ∧ (¬ ((mI u this 8) = 0) → (∃ q_1, mR u this 1 = some q_1 ∧ (∀ x_2, x_2 = (if (60 : Int32) < (mI u q_1 2) then (60 : Int32) else (mI u q_1 2)) → bX5_holdRow a1 (3 : Int32) x_2 u (fun u_4 => (∃ n9, bX8_keepActs_30 n9 this a1 x_2 (0 : Int32) u_4 K))))))
set_option maxRecDepth 100000 in
set_option maxHeartbeats 4000000 in
theorem tX8_keepActs {X : mCx} {G : mG} {u0 : mSt} {K : Int32 → mSt → Prop} (F : mFx X G cX8_keepActs wsX8_keepActs RX8 "keepActs" 2 46 (some .int) u0 (mPi K)) (hN : X.2.2.2.2.2.2.2.2.2.2.2.2.1 = 4) {this : Nat} {a1 : Nat} {u : mSt} (kthis : mK u this = 9) (ka1 : mK u a1 = 6) (h : bX8_keepActs this a1 u K) : mZ X u 0 [(0, .ref (G.1 + this)), (1, .ref (G.1 + a1))] [] := by
  refine mz_aload_n F dX8_keepActs_0 rfl 0 rfl ?_
  refine mz_getI F dX8_keepActs_1 fX8_keepActs_81 kthis ?_
  refine mz_if_ne (tgt := 9) F dX8_keepActs_4 (by decide) (fun c_5 => ?_) (fun c_5 => ?_)
  · replace h := h.2 c_5
    refine mz_aload_n F dX8_keepActs_9 rfl 0 rfl ?_
    obtain ⟨q_1, eq_1, h⟩ := h
    refine mz_getR F dX8_keepActs_10 fX8_keepActs_19 (by decide) kthis eq_1 (fun kq_1 => ?_)
    refine mz_getI F dX8_keepActs_13 fX8_keepActs_88 kq_1 ?_
    refine mz_bipush (v := 60) F dX8_keepActs_16 (by decide) ?_
    refine mz_min F dX8_keepActs_18 mX8_keepActs_ml318 mX8_keepActs_ms mX8_keepActs_mi mX8_keepActs_mc (by decide) (Nat.le_of_ble_eq_true rfl) ?_
    refine mz_topi (fun x_2 ex_2 => ?_)
    replace h := h x_2 ex_2
    refine mz_istore_n (lv2 := [(2, .int x_2), (0, .ref (G.1 + this)), (1, .ref (G.1 + a1))]) F dX8_keepActs_21 rfl hN (by decide) rfl ?_
    refine mz_aload_n F dX8_keepActs_22 rfl 2 rfl ?_
    refine mz_iconst (v := 3) F dX8_keepActs_23 (by decide) ?_
    refine mz_iload_n F dX8_keepActs_24 rfl 0 rfl ?_
    refine mz_callVN (As := [_, _]) (n := 2) F dX8_keepActs_25 rfl ka1 rfl rfl gX8_keepActs_X5_holdRow_n250 nwM8_250 mX8_keepActs_iniX5_holdRow mX8_keepActs_imX5_holdRow mX8_keepActs_seX5_holdRow (by decide +kernel) (by decide) rfl (Nat.le_of_ble_eq_true rfl) (kX5_holdRow _ G ka1 h) (mz_kV fun u_4 h hx_3 => ?_)
    replace kthis := hx_3.2.2 _ _ (by decide) kthis
    replace ka1 := hx_3.2.2 _ _ (by decide) ka1
    refine mz_iconst (v := 0) F dX8_keepActs_28 (by decide) ?_
    refine mz_istore_n (lv2 := [(3, .int (0 : Int32)), (2, .int x_2), (0, .ref (G.1 + this)), (1, .ref (G.1 + a1))]) F dX8_keepActs_29 rfl hN (by decide) rfl ?_
    refine mz_sub [2, 3, 1, 0] rfl ?_
    obtain ⟨n9, h⟩ := h
    exact tX8_keepActs_30 F hN n9 kthis ka1 h
  · replace h := h.1 c_5
    refine mz_iconst (v := (-1)) F dX8_keepActs_7 (by decide) ?_
    exact mz_iret F dX8_keepActs_8 ⟨_, rfl, h⟩
set_option maxRecDepth 100000 in
theorem kX8_keepActs (l : Launch) (G : mG) {u : mSt} {K : Int32 → mSt → Prop} {this : Nat} {a1 : Nat} (kthis : mK u this = 9) (ka1 : mK u a1 = 6) (h : bX8_keepActs this a1 u K) : mCt l G yX8_keepActs wsX8_keepActs 2 46 [.ref (G.1 + this), .ref (G.1 + a1)] u (mPi K) := by
  refine mCt.of (cc := cX8_keepActs) (maxL := 4) (ret := (some .int)) (by decide) rfl (Nat.le_of_ble_eq_true rfl) ?_
  intro X hl hN F
  exact tX8_keepActs F hN kthis ka1 h
/-! RoomMapper.keepSigns(LRoomMapper$Shelf;I)I -/
theorem wiX8_keepSigns_4 : ∀ w ∈ u_ws RX4 TX4 5, w ∈ wsX8_keepSigns := by decide +kernel
theorem fX8_keepSigns_146 : mFld wsX8_keepSigns RX8 146 5 2 0 .int false := ⟨4, _, RX4, TX4, 5, tyX4, rfl, rfl, rfl, by decide, wiX8_keepSigns_4, tyX4_ok, nmX4, rfl, rfl, Or.inr ⟨"RoomMapper", nwF8_146⟩⟩
theorem wiX8_keepSigns_5 : ∀ w ∈ u_ws RX5 TX5 5, w ∈ wsX8_keepSigns := by decide +kernel
theorem fX8_keepSigns_271 : mFld wsX8_keepSigns RX8 271 6 0 19 (.array .long) true := ⟨5, _, RX5, TX5, 5, tyX5, rfl, rfl, rfl, by decide, wiX8_keepSigns_5, tyX5_ok, nmX5, rfl, rfl, Or.inr ⟨"RoomMapper", nwF8_271⟩⟩
theorem fX8_keepSigns_163 : mFld wsX8_keepSigns RX8 163 5 0 17 (.array .int) true := ⟨4, _, RX4, TX4, 5, tyX4, rfl, rfl, rfl, by decide, wiX8_keepSigns_4, tyX4_ok, nmX4, rfl, rfl, Or.inr ⟨"RoomMapper", nwF8_163⟩⟩
theorem wiX8_keepSigns_8 : ∀ w ∈ u_ws RX8 TX8 9, w ∈ wsX8_keepSigns := by decide +kernel
theorem fX8_keepSigns_26 : mFld wsX8_keepSigns RX8 26 9 2 1 (.object "RoomMapper$Atlas") true := ⟨8, _, RX8, TX8, 9, tyX8, rfl, rfl, rfl, by decide, wiX8_keepSigns_8, tyX8_ok, nmX8, rfl, rfl, Or.inl ⟨by decide +kernel, fun _ => rfl⟩⟩
theorem wiX8_keepSigns_0 : ∀ w ∈ u_ws RX0 TX0 6, w ∈ wsX8_keepSigns := by decide +kernel
theorem fX8_keepSigns_139 : mFld wsX8_keepSigns RX8 139 1 2 0 .int false := ⟨0, _, RX0, TX0, 6, tyX0, rfl, rfl, rfl, by decide, wiX8_keepSigns_0, tyX0_ok, nmX0, rfl, rfl, Or.inr ⟨"RoomMapper", nwF8_139⟩⟩
theorem fX8_keepSigns_142 : mFld wsX8_keepSigns RX8 142 1 0 11 (.array (.object "RoomMapper$Sheet")) false := ⟨0, _, RX0, TX0, 6, tyX0, rfl, rfl, rfl, by decide, wiX8_keepSigns_0, tyX0_ok, nmX0, rfl, rfl, Or.inr ⟨"RoomMapper", nwF8_142⟩⟩
theorem mX8_keepSigns_iniX5_holdRow : Cond.initialized yX5_holdRow.cls ∈ wsX8_keepSigns := by decide +kernel
theorem mX8_keepSigns_imX5_holdRow : Cond.instanceMethod yX5_holdRow ∈ wsX8_keepSigns := by decide +kernel
theorem mX8_keepSigns_seX5_holdRow : Cond.selects RX5 yX5_holdRow yX5_holdRow ∈ wsX8_keepSigns := by decide +kernel
def bX8_keepSigns_38 : Nat → Nat → Nat → Int32 → mSt → (Int32 → mSt → Prop) → Prop
  | 0, _, _, _, _, _ => False
  | n + 1, v1, v3, v4, u, K => (((mI u v3 2) ≤ v4 → K (0 : Int32) u) ∧ (¬ ((mI u v3 2) ≤ v4) → (∃ q_1, mR u v1 0 = some q_1 ∧ (∃ q_2, mR u v3 0 = some q_2 ∧ (vp_in v4 6 ∧ (vp_in v4 60 ∧ ∀ u_5, u_5 = mpL u q_1 v4.toNatClampNeg ((mI u q_2 v4.toNatClampNeg).toInt64) → (∀ x_6, x_6 = v4 + (1 : Int32) → bX8_keepSigns_38 n v1 v3 x_6 u_5 K)))))))
set_option maxRecDepth 100000 in
set_option maxHeartbeats 4000000 in
theorem tX8_keepSigns_38 {X : mCx} {G : mG} {u0 : mSt} {K : Int32 → mSt → Prop} (F : mFx X G cX8_keepSigns wsX8_keepSigns RX8 "keepSigns" 2 46 (some .int) u0 (mPi K)) (hN : X.2.2.2.2.2.2.2.2.2.2.2.2.1 = 5) : ∀ (n : Nat) {v1 : Nat} {v3 : Nat} {v4 : Int32} {u : mSt}, mK u v1 = 6 → mK u v3 = 5 → bX8_keepSigns_38 n v1 v3 v4 u K → mZ X u 38 [(1, .ref (G.1 + v1)), (3, .ref (G.1 + v3)), (4, .int v4)] [] := by
  intro n
  induction n with
  | zero => intro v1 v3 v4 u kv1 kv3 h; exact False.elim h
  | succ n ih =>
    intro v1 v3 v4 u kv1 kv3 h
    refine mz_iload F dX8_keepSigns_38 2 rfl ?_
    refine mz_aload_n F dX8_keepSigns_40 rfl 1 rfl ?_
    refine mz_getI F dX8_keepSigns_41 fX8_keepSigns_146 kv3 ?_
    refine mz_icmp_ge (tgt := 68) F dX8_keepSigns_44 (by decide) (fun c_7 => ?_) (fun c_7 => ?_)
    · replace h := h.1 c_7
      refine mz_iconst (v := 0) F dX8_keepSigns_68 (by decide) ?_
      exact mz_iret F dX8_keepSigns_69 ⟨_, rfl, h⟩
    · replace h := h.2 c_7
      refine mz_aload_n F dX8_keepSigns_47 rfl 0 rfl ?_
      obtain ⟨q_1, eq_1, h⟩ := h
      refine mz_getR F dX8_keepSigns_48 fX8_keepSigns_271 (by decide) kv1 eq_1 (fun kq_1 => ?_)
      refine mz_iload F dX8_keepSigns_51 2 rfl ?_
      refine mz_aload_n F dX8_keepSigns_53 rfl 1 rfl ?_
      obtain ⟨q_2, eq_2, h⟩ := h
      refine mz_getR F dX8_keepSigns_54 fX8_keepSigns_163 (by decide) kv3 eq_2 (fun kq_2 => ?_)
      refine mz_iload F dX8_keepSigns_57 2 rfl ?_
      obtain ⟨b_3, h⟩ := h
      refine mz_iald F dX8_keepSigns_59 kq_2 rfl b_3 ?_
      refine mz_i2l F dX8_keepSigns_60 ?_
      obtain ⟨b_4, h⟩ := h
      refine mz_last F dX8_keepSigns_61 kq_1 rfl b_4 (fun u_5 eu_5 hxu_5 => ?_)
      replace h := h u_5 eu_5
      replace kv1 := hxu_5.2.2 _ _ (by decide) kv1
      replace kv3 := hxu_5.2.2 _ _ (by decide) kv3
      obtain ⟨x_6, ex_6⟩ : ∃ y : Int32, y = v4 + (1 : Int32) := ⟨_, rfl⟩
      replace h := h x_6 ex_6
      refine mz_iinc (v := x_6) (lv2 := [(4, .int x_6), (1, .ref (G.1 + v1)), (3, .ref (G.1 + v3))]) F dX8_keepSigns_62 2 rfl (by rw [ex_6]; rfl) hN (by decide) rfl ?_
      refine mz_goto (tgt := 38) F dX8_keepSigns_65 (by decide) ?_
      refine mz_sub [1, 2, 0] rfl ?_
      exact ih kv1 kv3 h
def bX8_keepSigns (this : Nat) (a1 : Nat) (a2 : Int32) (u : mSt) (K : Int32 → mSt → Prop) : Prop := (∃ q_1, mR u this 2 = some q_1 ∧ bX8_within a2 (mI u q_1 2) u (fun r_4 u_3 => ((r_4 = 0 → K (-1 : Int32) u_3) ∧ (¬ (r_4 = 0) → (∃ q_5, mR u_3 this 2 = some q_5 ∧ (∃ q_6, mR u_3 q_5 0 = some q_6 ∧ (vp_in a2 151 ∧ ∃ q_8, mR u_3 q_6 a2.toNatClampNeg = some q_8 ∧ bX5_holdRow a1 (4 : Int32) (mI u_3 q_8 2) u_3 (fun u_10 => (∃ n9, bX8_keepSigns_38 n9 a1 q_8 (0 : Int32) u_10 K)))))))))
set_option maxRecDepth 100000 in
set_option maxHeartbeats 4000000 in
theorem tX8_keepSigns {X : mCx} {G : mG} {u0 : mSt} {K : Int32 → mSt → Prop} (F : mFx X G cX8_keepSigns wsX8_keepSigns RX8 "keepSigns" 2 46 (some .int) u0 (mPi K)) (hN : X.2.2.2.2.2.2.2.2.2.2.2.2.1 = 5) {this : Nat} {a1 : Nat} {a2 : Int32} {u : mSt} (kthis : mK u this = 9) (ka1 : mK u a1 = 6) (h : bX8_keepSigns this a1 a2 u K) : mZ X u 0 [(0, .ref (G.1 + this)), (1, .ref (G.1 + a1)), (2, .int a2)] [] := by
  refine mz_iload_n F dX8_keepSigns_0 rfl 2 rfl ?_
  refine mz_aload_n F dX8_keepSigns_1 rfl 0 rfl ?_
  obtain ⟨q_1, eq_1, h⟩ := h
  refine mz_getR F dX8_keepSigns_2 fX8_keepSigns_26 (by decide) kthis eq_1 (fun kq_1 => ?_)
  refine mz_getI F dX8_keepSigns_5 fX8_keepSigns_139 kq_1 ?_
  refine mz_callS (As := [_, _]) (n := 2) F dX8_keepSigns_8 rfl gX8_keepSigns_X8_within (by decide +kernel) (by decide) rfl (Nat.le_of_ble_eq_true rfl) (kX8_within _ G h) (mz_kZ fun r_4 u_3 br_4 h hx_2 => ?_)
  replace kthis := hx_2.2.2 _ _ (by decide) kthis
  replace ka1 := hx_2.2.2 _ _ (by decide) ka1
  refine mz_if_ne (tgt := 16) F dX8_keepSigns_11 (by decide) (fun c_11 => ?_) (fun c_11 => ?_)
  · replace h := h.2 c_11
    refine mz_aload_n F dX8_keepSigns_16 rfl 0 rfl ?_
    obtain ⟨q_5, eq_5, h⟩ := h
    refine mz_getR F dX8_keepSigns_17 fX8_keepSigns_26 (by decide) kthis eq_5 (fun kq_5 => ?_)
    obtain ⟨q_6, eq_6, h⟩ := h
    refine mz_getR F dX8_keepSigns_20 fX8_keepSigns_142 (by decide) kq_5 eq_6 (fun kq_6 => ?_)
    refine mz_iload_n F dX8_keepSigns_23 rfl 2 rfl ?_
    obtain ⟨b_7, q_8, eq_8, h⟩ := h
    refine mz_aald4 F dX8_keepSigns_24 kq_6 rfl (by decide) b_7 eq_8 (fun kq_8 => ?_)
    refine mz_astore_n (lv2 := [(3, .ref (G.1 + q_8)), (0, .ref (G.1 + this)), (1, .ref (G.1 + a1)), (2, .int a2)]) F dX8_keepSigns_25 rfl hN (by decide) rfl ?_
    refine mz_aload_n F dX8_keepSigns_26 rfl 2 rfl ?_
    refine mz_iconst (v := 4) F dX8_keepSigns_27 (by decide) ?_
    refine mz_aload_n F dX8_keepSigns_28 rfl 0 rfl ?_
    refine mz_getI F dX8_keepSigns_29 fX8_keepSigns_146 kq_8 ?_
    refine mz_callVN (As := [_, _]) (n := 2) F dX8_keepSigns_32 rfl ka1 rfl rfl gX8_keepSigns_X5_holdRow_n250 nwM8_250 mX8_keepSigns_iniX5_holdRow mX8_keepSigns_imX5_holdRow mX8_keepSigns_seX5_holdRow (by decide +kernel) (by decide) rfl (Nat.le_of_ble_eq_true rfl) (kX5_holdRow _ G ka1 h) (mz_kV fun u_10 h hx_9 => ?_)
    replace kq_8 := hx_9.2.2 _ _ (by decide) kq_8
    replace ka1 := hx_9.2.2 _ _ (by decide) ka1
    refine mz_iconst (v := 0) F dX8_keepSigns_35 (by decide) ?_
    refine mz_istore (lv2 := [(4, .int (0 : Int32)), (3, .ref (G.1 + q_8)), (0, .ref (G.1 + this)), (1, .ref (G.1 + a1)), (2, .int a2)]) F dX8_keepSigns_36 hN (by decide) rfl ?_
    refine mz_sub [3, 1, 0] rfl ?_
    obtain ⟨n9, h⟩ := h
    exact tX8_keepSigns_38 F hN n9 ka1 kq_8 h
  · replace h := h.1 c_11
    refine mz_iconst (v := (-1)) F dX8_keepSigns_14 (by decide) ?_
    exact mz_iret F dX8_keepSigns_15 ⟨_, rfl, h⟩
set_option maxRecDepth 100000 in
theorem kX8_keepSigns (l : Launch) (G : mG) {u : mSt} {K : Int32 → mSt → Prop} {this : Nat} {a1 : Nat} {a2 : Int32} (kthis : mK u this = 9) (ka1 : mK u a1 = 6) (h : bX8_keepSigns this a1 a2 u K) : mCt l G yX8_keepSigns wsX8_keepSigns 2 46 [.ref (G.1 + this), .ref (G.1 + a1), .int a2] u (mPi K) := by
  refine mCt.of (cc := cX8_keepSigns) (maxL := 5) (ret := (some .int)) (by decide) rfl (Nat.le_of_ble_eq_true rfl) ?_
  intro X hl hN F
  exact tX8_keepSigns F hN kthis ka1 h
