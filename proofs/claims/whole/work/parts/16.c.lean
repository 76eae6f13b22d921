theorem nwF8_236 : Cond.fieldLinkNest RX8 236 RX5 "holds" "I" "RoomMapper" ∈ tables_1 := by decide +kernel
theorem nwM8_260 : Cond.methodLinkNest RX8 260 yX5_isRow "RoomMapper" ∈ tables_1 := by decide +kernel
theorem nwM8_275 : Cond.methodLinkNest RX8 275 yX5_hasStretch "RoomMapper" ∈ tables_1 := by decide +kernel
theorem nwF8_287 : Cond.fieldLinkNest RX8 287 RX5 "kind" "I" "RoomMapper" ∈ tables_1 := by decide +kernel
theorem nwF8_290 : Cond.fieldLinkNest RX8 290 RX5 "to" "I" "RoomMapper" ∈ tables_1 := by decide +kernel
/-! RoomMapper.keep(III)I -/
theorem wiX8_keep_8 : ∀ w ∈ u_ws RX8 TX8 9, w ∈ wsX8_keep := by decide +kernel
theorem fX8_keep_60 : mFld wsX8_keep RX8 60 9 7 23 (.array (.object "RoomMapper$Shelf")) true := ⟨8, _, RX8, TX8, 9, tyX8, rfl, rfl, rfl, by decide, wiX8_keep_8, tyX8_ok, nmX8, rfl, rfl, Or.inl ⟨by decide +kernel, fun _ => rfl⟩⟩
theorem wiX8_keep_5 : ∀ w ∈ u_ws RX5 TX5 5, w ∈ wsX8_keep := by decide +kernel
theorem fX8_keep_236 : mFld wsX8_keep RX8 236 6 1 0 .int false := ⟨5, _, RX5, TX5, 5, tyX5, rfl, rfl, rfl, by decide, wiX8_keep_5, tyX5_ok, nmX5, rfl, rfl, Or.inr ⟨"RoomMapper", nwF8_236⟩⟩
def bX8_keep (this : Nat) (a1 : Int32) (a2 : Int32) (a3 : Int32) (u : mSt) (K : Int32 → mSt → Prop) : Prop := bX8_within a1 (8 : Int32) u (fun r_3 u_2 => ((r_3 = 0 → K (-1 : Int32) u_2) ∧ (¬ (r_3 = 0) → ((a2 = (0 : Int32) → (∃ q_27, mR u_2 this 7 = some q_27 ∧ (vp_in a1 8 ∧ ∃ q_29, mR u_2 q_27 a1.toNatClampNeg = some q_29 ∧ (∀ u_30, u_30 = mpI u_2 q_29 1 (0 : Int32) → K (0 : Int32) u_30)))) ∧ (¬ a2 = (0 : Int32) → ((a2 = (1 : Int32) → (∃ q_21, mR u_2 this 7 = some q_21 ∧ (vp_in a1 8 ∧ ∃ q_23, mR u_2 q_21 a1.toNatClampNeg = some q_23 ∧ bX8_keepLead this q_23 a3 u_2 (fun r_26 u_25 => K r_26 u_25)))) ∧ (¬ a2 = (1 : Int32) → ((a2 = (2 : Int32) → K (-1 : Int32) u_2) ∧ (¬ a2 = (2 : Int32) → ((a2 = (3 : Int32) → (∃ q_15, mR u_2 this 7 = some q_15 ∧ (vp_in a1 8 ∧ ∃ q_17, mR u_2 q_15 a1.toNatClampNeg = some q_17 ∧ bX8_keepActs this q_17 u_2 (fun r_20 u_19 => K r_20 u_19)))) ∧ (¬ a2 = (3 : Int32) → ((a2 = (4 : Int32) → (∃ q_9, mR u_2 this 7 = some q_9 ∧ (vp_in a1 8 ∧ ∃ q_11, mR u_2 q_9 a1.toNatClampNeg = some q_11 ∧ bX8_keepSigns this q_11 a3 u_2 (fun r_14 u_13 => K r_14 u_13)))) ∧ (¬ a2 = (4 : Int32) → K (-1 : Int32) u_2)))))))))))))
set_option maxRecDepth 100000 in
set_option maxHeartbeats 4000000 in
theorem tX8_keep {X : mCx} {G : mG} {u0 : mSt} {K : Int32 → mSt → Prop} (F : mFx X G cX8_keep wsX8_keep RX8 "keep" 3 70 (some .int) u0 (mPi K)) (hN : X.2.2.2.2.2.2.2.2.2.2.2.2.1 = 4) {this : Nat} {a1 : Int32} {a2 : Int32} {a3 : Int32} {u : mSt} (kthis : mK u this = 9) (h : bX8_keep this a1 a2 a3 u K) : mZ X u 0 [(0, .ref (G.1 + this)), (1, .int a1), (2, .int a2), (3, .int a3)] [] := by
  refine mz_iload_n F dX8_keep_0 rfl 1 rfl ?_
  refine mz_bipush (v := 8) F dX8_keep_1 (by decide) ?_
  refine mz_callS (As := [_, _]) (n := 2) F dX8_keep_3 rfl gX8_keep_X8_within (by decide +kernel) (by decide) rfl (Nat.le_of_ble_eq_true rfl) (kX8_within _ G h) (mz_kZ fun r_3 u_2 br_3 h hx_1 => ?_)
  replace kthis := hx_1.2.2 _ _ (by decide) kthis
  refine mz_if_ne (tgt := 11) F dX8_keep_6 (by decide) (fun c_32 => ?_) (fun c_32 => ?_)
  · replace h := h.2 c_32
    refine mz_iload_n F dX8_keep_11 rfl 2 rfl ?_
    refine Classical.byCases (p := a2 = (0 : Int32)) (fun c_4 => ?_) (fun c_4 => ?_)
    · replace h := h.1 c_4
      have ec_4 := mte (z := 0) rfl c_4
      refine mz_tableIn (off := 36) (tgt := 48) F dX8_keep_12 (by omega) (by omega) (by rw [ec_4]; rfl) (by decide) ?_
      refine mz_aload_n F dX8_keep_48 rfl 0 rfl ?_
      obtain ⟨q_27, eq_27, h⟩ := h
      refine mz_getR F dX8_keep_49 fX8_keep_60 (by decide) kthis eq_27 (fun kq_27 => ?_)
      refine mz_iload_n F dX8_keep_52 rfl 1 rfl ?_
      obtain ⟨b_28, q_29, eq_29, h⟩ := h
      refine mz_aald5 F dX8_keep_53 kq_27 rfl (by decide) b_28 eq_29 (fun kq_29 => ?_)
      refine mz_iconst (v := 0) F dX8_keep_54 (by decide) ?_
      refine mz_putI F dX8_keep_55 fX8_keep_236 kq_29 rfl rfl (fun u_30 eu_30 hxu_30 => ?_)
      replace h := h u_30 eu_30
      refine mz_iconst (v := 0) F dX8_keep_58 (by decide) ?_
      exact mz_iret F dX8_keep_59 ⟨_, rfl, h⟩
    · replace h := h.2 c_4
      refine Classical.byCases (p := a2 = (1 : Int32)) (fun c_5 => ?_) (fun c_5 => ?_)
      · replace h := h.1 c_5
        have ec_5 := mte (z := 1) rfl c_5
        refine mz_tableIn (off := 48) (tgt := 60) F dX8_keep_12 (by omega) (by omega) (by rw [ec_5]; rfl) (by decide) ?_
        refine mz_aload_n F dX8_keep_60 rfl 0 rfl ?_
        refine mz_aload_n F dX8_keep_61 rfl 0 rfl ?_
        obtain ⟨q_21, eq_21, h⟩ := h
        refine mz_getR F dX8_keep_62 fX8_keep_60 (by decide) kthis eq_21 (fun kq_21 => ?_)
        refine mz_iload_n F dX8_keep_65 rfl 1 rfl ?_
        obtain ⟨b_22, q_23, eq_23, h⟩ := h
        refine mz_aald5 F dX8_keep_66 kq_21 rfl (by decide) b_22 eq_23 (fun kq_23 => ?_)
        refine mz_iload_n F dX8_keep_67 rfl 3 rfl ?_
        refine mz_callV (As := [_, _]) (n := 2) F dX8_keep_68 rfl kthis rfl rfl gX8_keep_X8_keepLead (by decide +kernel) (by decide) rfl (Nat.le_of_ble_eq_true rfl) (kX8_keepLead _ G kthis kq_23 h) (mz_kI fun r_26 u_25 h hx_24 => ?_)
        exact mz_iret F dX8_keep_71 ⟨_, rfl, h⟩
      · replace h := h.2 c_5
        refine Classical.byCases (p := a2 = (2 : Int32)) (fun c_6 => ?_) (fun c_6 => ?_)
        · replace h := h.1 c_6
          have ec_6 := mte (z := 2) rfl c_6
          refine mz_tableIn (off := 83) (tgt := 95) F dX8_keep_12 (by omega) (by omega) (by rw [ec_6]; rfl) (by decide) ?_
          refine mz_iconst (v := (-1)) F dX8_keep_95 (by decide) ?_
          exact mz_iret F dX8_keep_96 ⟨_, rfl, h⟩
        · replace h := h.2 c_6
          refine Classical.byCases (p := a2 = (3 : Int32)) (fun c_7 => ?_) (fun c_7 => ?_)
          · replace h := h.1 c_7
            have ec_7 := mte (z := 3) rfl c_7
            refine mz_tableIn (off := 60) (tgt := 72) F dX8_keep_12 (by omega) (by omega) (by rw [ec_7]; rfl) (by decide) ?_
            refine mz_aload_n F dX8_keep_72 rfl 0 rfl ?_
            refine mz_aload_n F dX8_keep_73 rfl 0 rfl ?_
            obtain ⟨q_15, eq_15, h⟩ := h
            refine mz_getR F dX8_keep_74 fX8_keep_60 (by decide) kthis eq_15 (fun kq_15 => ?_)
            refine mz_iload_n F dX8_keep_77 rfl 1 rfl ?_
            obtain ⟨b_16, q_17, eq_17, h⟩ := h
            refine mz_aald5 F dX8_keep_78 kq_15 rfl (by decide) b_16 eq_17 (fun kq_17 => ?_)
            refine mz_callV (As := [_]) (n := 1) F dX8_keep_79 rfl kthis rfl rfl gX8_keep_X8_keepActs (by decide +kernel) (by decide) rfl (Nat.le_of_ble_eq_true rfl) (kX8_keepActs _ G kthis kq_17 h) (mz_kI fun r_20 u_19 h hx_18 => ?_)
            exact mz_iret F dX8_keep_82 ⟨_, rfl, h⟩
          · replace h := h.2 c_7
            refine Classical.byCases (p := a2 = (4 : Int32)) (fun c_8 => ?_) (fun c_8 => ?_)
            · replace h := h.1 c_8
              have ec_8 := mte (z := 4) rfl c_8
              refine mz_tableIn (off := 71) (tgt := 83) F dX8_keep_12 (by omega) (by omega) (by rw [ec_8]; rfl) (by decide) ?_
              refine mz_aload_n F dX8_keep_83 rfl 0 rfl ?_
              refine mz_aload_n F dX8_keep_84 rfl 0 rfl ?_
              obtain ⟨q_9, eq_9, h⟩ := h
              refine mz_getR F dX8_keep_85 fX8_keep_60 (by decide) kthis eq_9 (fun kq_9 => ?_)
              refine mz_iload_n F dX8_keep_88 rfl 1 rfl ?_
              obtain ⟨b_10, q_11, eq_11, h⟩ := h
              refine mz_aald5 F dX8_keep_89 kq_9 rfl (by decide) b_10 eq_11 (fun kq_11 => ?_)
              refine mz_iload_n F dX8_keep_90 rfl 3 rfl ?_
              refine mz_callV (As := [_, _]) (n := 2) F dX8_keep_91 rfl kthis rfl rfl gX8_keep_X8_keepSigns (by decide +kernel) (by decide) rfl (Nat.le_of_ble_eq_true rfl) (kX8_keepSigns _ G kthis kq_11 h) (mz_kI fun r_14 u_13 h hx_12 => ?_)
              exact mz_iret F dX8_keep_94 ⟨_, rfl, h⟩
            · replace h := h.2 c_8
              have nc_4 := mtn (z := 0) rfl c_4
              have nc_5 := mtn (z := 1) rfl c_5
              have nc_6 := mtn (z := 2) rfl c_6
              have nc_7 := mtn (z := 3) rfl c_7
              have nc_8 := mtn (z := 4) rfl c_8
              refine mz_tableOut (tgt := 95) F dX8_keep_12 (by omega) (by decide) ?_
              refine mz_iconst (v := (-1)) F dX8_keep_95 (by decide) ?_
              exact mz_iret F dX8_keep_96 ⟨_, rfl, h⟩
  · replace h := h.1 c_32
    refine mz_iconst (v := (-1)) F dX8_keep_9 (by decide) ?_
    exact mz_iret F dX8_keep_10 ⟨_, rfl, h⟩
set_option maxRecDepth 100000 in
theorem kX8_keep (l : Launch) (G : mG) {u : mSt} {K : Int32 → mSt → Prop} {this : Nat} {a1 : Int32} {a2 : Int32} {a3 : Int32} (kthis : mK u this = 9) (h : bX8_keep this a1 a2 a3 u K) : mCt l G yX8_keep wsX8_keep 3 70 [.ref (G.1 + this), .int a1, .int a2, .int a3] u (mPi K) := by
  refine mCt.of (cc := cX8_keep) (maxL := 4) (ret := (some .int)) (by decide) rfl (Nat.le_of_ble_eq_true rfl) ?_
  intro X hl hN F
  exact tX8_keep F hN kthis h
/-! RoomMapper.make(III)I -/
theorem wiX8_make_8 : ∀ w ∈ u_ws RX8 TX8 9, w ∈ wsX8_make := by decide +kernel
theorem fX8_make_60 : mFld wsX8_make RX8 60 9 7 23 (.array (.object "RoomMapper$Shelf")) true := ⟨8, _, RX8, TX8, 9, tyX8, rfl, rfl, rfl, by decide, wiX8_make_8, tyX8_ok, nmX8, rfl, rfl, Or.inl ⟨by decide +kernel, fun _ => rfl⟩⟩
theorem mX8_make_iniX5_holdRow : Cond.initialized yX5_holdRow.cls ∈ wsX8_make := by decide +kernel
theorem mX8_make_imX5_holdRow : Cond.instanceMethod yX5_holdRow ∈ wsX8_make := by decide +kernel
theorem mX8_make_seX5_holdRow : Cond.selects RX5 yX5_holdRow yX5_holdRow ∈ wsX8_make := by decide +kernel
def bX8_make_19 (v0 : Nat) (v1 : Int32) (v2 : Int32) (v3 : Int32) (u : mSt) (K : Int32 → mSt → Prop) : Prop := ((v3 ≤ (60 : Int32) → ((0 ≤ v3 → (∃ q_1, mR u v0 7 = some q_1 ∧ (vp_in v1 8 ∧ ∃ q_3, mR u q_1 v1.toNatClampNeg = some q_3 ∧ bX5_holdRow q_3 v2 v3 u (fun u_5 => K (0 : Int32) u_5)))) ∧ (¬ (0 ≤ v3) → K (-14 : Int32) u))) ∧ (¬ (v3 ≤ (60 : Int32)) → K (-1 : Int32) u))
set_option maxRecDepth 100000 in
set_option maxHeartbeats 4000000 in
theorem tX8_make_19 {X : mCx} {G : mG} {u0 : mSt} {K : Int32 → mSt → Prop} (F : mFx X G cX8_make wsX8_make RX8 "make" 2 46 (some .int) u0 (mPi K)) (hN : X.2.2.2.2.2.2.2.2.2.2.2.2.1 = 4) {v0 : Nat} {v1 : Int32} {v2 : Int32} {v3 : Int32} {u : mSt} (kv0 : mK u v0 = 9) (h : bX8_make_19 v0 v1 v2 v3 u K) : mZ X u 19 [(0, .ref (G.1 + v0)), (1, .int v1), (2, .int v2), (3, .int v3)] [] := by
  refine mz_iload_n F dX8_make_19 rfl 3 rfl ?_
  refine mz_bipush (v := 60) F dX8_make_20 (by decide) ?_
  refine mz_icmp_le (tgt := 27) F dX8_make_22 (by decide) (fun c_7 => ?_) (fun c_7 => ?_)
  · replace h := h.1 c_7
    refine mz_iload_n F dX8_make_27 rfl 3 rfl ?_
    refine mz_if_ge (tgt := 34) F dX8_make_28 (by decide) (fun c_6 => ?_) (fun c_6 => ?_)
    · replace h := h.1 c_6
      refine mz_aload_n F dX8_make_34 rfl 0 rfl ?_
      obtain ⟨q_1, eq_1, h⟩ := h
      refine mz_getR F dX8_make_35 fX8_make_60 (by decide) kv0 eq_1 (fun kq_1 => ?_)
      refine mz_iload_n F dX8_make_38 rfl 1 rfl ?_
      obtain ⟨b_2, q_3, eq_3, h⟩ := h
      refine mz_aald5 F dX8_make_39 kq_1 rfl (by decide) b_2 eq_3 (fun kq_3 => ?_)
      refine mz_iload_n F dX8_make_40 rfl 2 rfl ?_
      refine mz_iload_n F dX8_make_41 rfl 3 rfl ?_
      refine mz_callVN (As := [_, _]) (n := 2) F dX8_make_42 rfl kq_3 rfl rfl gX8_make_X5_holdRow_n250 nwM8_250 mX8_make_iniX5_holdRow mX8_make_imX5_holdRow mX8_make_seX5_holdRow (by decide +kernel) (by decide) rfl (Nat.le_of_ble_eq_true rfl) (kX5_holdRow _ G kq_3 h) (mz_kV fun u_5 h hx_4 => ?_)
      refine mz_iconst (v := 0) F dX8_make_45 (by decide) ?_
      exact mz_iret F dX8_make_46 ⟨_, rfl, h⟩
    · replace h := h.2 c_6
      refine mz_bipush (v := (-14)) F dX8_make_31 (by decide) ?_
      exact mz_iret F dX8_make_33 ⟨_, rfl, h⟩
  · replace h := h.2 c_7
    refine mz_iconst (v := (-1)) F dX8_make_25 (by decide) ?_
    exact mz_iret F dX8_make_26 ⟨_, rfl, h⟩
def bX8_make (this : Nat) (a1 : Int32) (a2 : Int32) (a3 : Int32) (u : mSt) (K : Int32 → mSt → Prop) : Prop := bX8_within a1 (8 : Int32) u (fun r_3 u_2 => ((r_3 = 0 → K (-1 : Int32) u_2) ∧ (¬ (r_3 = 0) → ((a2 = (3 : Int32) → bX8_make_19 this a1 a2 a3 u_2 K) ∧ (¬ (a2 = (3 : Int32)) → ((a2 = (4 : Int32) → bX8_make_19 this a1 a2 a3 u_2 K) ∧ (¬ (a2 = (4 : Int32)) → K (-1 : Int32) u_2)))))))
set_option maxRecDepth 100000 in
set_option maxHeartbeats 4000000 in
theorem tX8_make {X : mCx} {G : mG} {u0 : mSt} {K : Int32 → mSt → Prop} (F : mFx X G cX8_make wsX8_make RX8 "make" 2 46 (some .int) u0 (mPi K)) (hN : X.2.2.2.2.2.2.2.2.2.2.2.2.1 = 4) {this : Nat} {a1 : Int32} {a2 : Int32} {a3 : Int32} {u : mSt} (kthis : mK u this = 9) (h : bX8_make this a1 a2 a3 u K) : mZ X u 0 [(0, .ref (G.1 + this)), (1, .int a1), (2, .int a2), (3, .int a3)] [] := by
  refine mz_iload_n F dX8_make_0 rfl 1 rfl ?_
  refine mz_bipush (v := 8) F dX8_make_1 (by decide) ?_
  refine mz_callS (As := [_, _]) (n := 2) F dX8_make_3 rfl gX8_make_X8_within (by decide +kernel) (by decide) rfl (Nat.le_of_ble_eq_true rfl) (kX8_within _ G h) (mz_kZ fun r_3 u_2 br_3 h hx_1 => ?_)
  replace kthis := hx_1.2.2 _ _ (by decide) kthis
  refine mz_if_eq (tgt := 25) F dX8_make_6 (by decide) (fun c_6 => ?_) (fun c_6 => ?_)
  · replace h := h.1 c_6
    refine mz_iconst (v := (-1)) F dX8_make_25 (by decide) ?_
    exact mz_iret F dX8_make_26 ⟨_, rfl, h⟩
  · replace h := h.2 c_6
    refine mz_iload_n F dX8_make_9 rfl 2 rfl ?_
    refine mz_iconst (v := 3) F dX8_make_10 (by decide) ?_
    refine mz_icmp_eq (tgt := 19) F dX8_make_11 (by decide) (fun c_5 => ?_) (fun c_5 => ?_)
    · replace h := h.1 c_5
      refine mz_sub [0, 1, 2, 3] rfl ?_
      exact tX8_make_19 F hN kthis h
    · replace h := h.2 c_5
      refine mz_iload_n F dX8_make_14 rfl 2 rfl ?_
      refine mz_iconst (v := 4) F dX8_make_15 (by decide) ?_
      refine mz_icmp_ne (tgt := 25) F dX8_make_16 (by decide) (fun c_4 => ?_) (fun c_4 => ?_)
      · replace h := h.2 c_4
        refine mz_iconst (v := (-1)) F dX8_make_25 (by decide) ?_
        exact mz_iret F dX8_make_26 ⟨_, rfl, h⟩
      · replace h := h.1 c_4
        refine mz_sub [0, 1, 2, 3] rfl ?_
        exact tX8_make_19 F hN kthis h
set_option maxRecDepth 100000 in
theorem kX8_make (l : Launch) (G : mG) {u : mSt} {K : Int32 → mSt → Prop} {this : Nat} {a1 : Int32} {a2 : Int32} {a3 : Int32} (kthis : mK u this = 9) (h : bX8_make this a1 a2 a3 u K) : mCt l G yX8_make wsX8_make 2 46 [.ref (G.1 + this), .int a1, .int a2, .int a3] u (mPi K) := by
  refine mCt.of (cc := cX8_make) (maxL := 4) (ret := (some .int)) (by decide) rfl (Nat.le_of_ble_eq_true rfl) ?_
  intro X hl hN F
  exact tX8_make F hN kthis h
/-! RoomMapper.copy(IIIII)I -/
theorem wiX8_copy_8 : ∀ w ∈ u_ws RX8 TX8 9, w ∈ wsX8_copy := by decide +kernel
theorem fX8_copy_60 : mFld wsX8_copy RX8 60 9 7 23 (.array (.object "RoomMapper$Shelf")) true := ⟨8, _, RX8, TX8, 9, tyX8, rfl, rfl, rfl, by decide, wiX8_copy_8, tyX8_ok, nmX8, rfl, rfl, Or.inl ⟨by decide +kernel, fun _ => rfl⟩⟩
theorem wiX8_copy_5 : ∀ w ∈ u_ws RX5 TX5 5, w ∈ wsX8_copy := by decide +kernel
theorem fX8_copy_236 : mFld wsX8_copy RX8 236 6 1 0 .int false := ⟨5, _, RX5, TX5, 5, tyX5, rfl, rfl, rfl, by decide, wiX8_copy_5, tyX5_ok, nmX5, rfl, rfl, Or.inr ⟨"RoomMapper", nwF8_236⟩⟩
theorem mX8_copy_iniX5_isRow : Cond.initialized yX5_isRow.cls ∈ wsX8_copy := by decide +kernel
theorem mX8_copy_imX5_isRow : Cond.instanceMethod yX5_isRow ∈ wsX8_copy := by decide +kernel
theorem mX8_copy_seX5_isRow : Cond.selects RX5 yX5_isRow yX5_isRow ∈ wsX8_copy := by decide +kernel
theorem mX8_copy_iniX5_hasStretch : Cond.initialized yX5_hasStretch.cls ∈ wsX8_copy := by decide +kernel
theorem mX8_copy_imX5_hasStretch : Cond.instanceMethod yX5_hasStretch ∈ wsX8_copy := by decide +kernel
theorem mX8_copy_seX5_hasStretch : Cond.selects RX5 yX5_hasStretch yX5_hasStretch ∈ wsX8_copy := by decide +kernel
theorem fX8_copy_271 : mFld wsX8_copy RX8 271 6 0 19 (.array .long) true := ⟨5, _, RX5, TX5, 5, tyX5, rfl, rfl, rfl, by decide, wiX8_copy_5, tyX5_ok, nmX5, rfl, rfl, Or.inr ⟨"RoomMapper", nwF8_271⟩⟩
theorem mX8_copy_al278 : Cond.methodLink RX8 278 arraycopyName ∈ wsX8_copy := by decide +kernel
theorem mX8_copy_an : Cond.native arraycopyName ∈ wsX8_copy := by decide +kernel
theorem mX8_copy_as : Cond.static arraycopyName ∈ wsX8_copy := by decide +kernel
theorem mX8_copy_ai : Cond.initialized "java/lang/System" ∈ wsX8_copy := by decide +kernel
def bX8_copy (this : Nat) (a1 : Int32) (a2 : Int32) (a3 : Int32) (a4 : Int32) (a5 : Int32) (u : mSt) (K : Int32 → mSt → Prop) : Prop := bX8_within a1 (8 : Int32) u (fun r_3 u_2 => ((r_3 = 0 → K (-1 : Int32) u_2) ∧ (¬ (r_3 = 0) → bX8_within a3 (8 : Int32) u_2 (fun r_6 u_5 => ((r_6 = 0 → K (-1 : Int32) u_5) ∧ (¬ (r_6 = 0) → (∃ q_7, mR u_5 this 7 = some q_7 ∧ (vp_in a1 8 ∧ ∃ q_9, mR u_5 q_7 a1.toNatClampNeg = some q_9 ∧ (∃ q_10, mR u_5 this 7 = some q_10 ∧ (vp_in a3 8 ∧ ∃ q_12, mR u_5 q_10 a3.toNatClampNeg = some q_12 ∧ (((mI u_5 q_9 1) = 0 → K (-11 : Int32) u_5) ∧ (¬ ((mI u_5 q_9 1) = 0) → (((mI u_5 q_12 1) = 0 → K (-11 : Int32) u_5) ∧ (¬ ((mI u_5 q_12 1) = 0) → bX5_isRow q_9 u_5 (fun r_15 u_14 => ((r_15 = 0 → K (-12 : Int32) u_14) ∧ (¬ (r_15 = 0) → (((mI u_14 q_9 1) = (mI u_14 q_12 1) → bX5_hasStretch q_9 a2 a5 u_14 (fun r_18 u_17 => ((r_18 = 0 → K (-13 : Int32) u_17) ∧ (¬ (r_18 = 0) → bX5_hasStretch q_12 a4 a5 u_17 (fun r_21 u_20 => ((r_21 = 0 → K (-13 : Int32) u_20) ∧ (¬ (r_21 = 0) → (∃ q_22, mR u_20 q_9 0 = some q_22 ∧ (∃ q_23, mR u_20 q_12 0 = some q_23 ∧ ((¬ a2 < 0 ∧ ¬ a4 < 0 ∧ ¬ a5 < 0 ∧ a2.toNatClampNeg + a5.toNatClampNeg ≤ 60 ∧ a4.toNatClampNeg + a5.toNatClampNeg ≤ 60) ∧ ∀ u_24, u_24 = mrL u_20 q_23 (va_cpy (mL u_20 q_22) (mL u_20 q_23) a2.toNatClampNeg a4.toNatClampNeg a5.toNatClampNeg) → K a5 u_24)))))))))) ∧ (¬ ((mI u_14 q_9 1) = (mI u_14 q_12 1)) → K (-12 : Int32) u_14)))))))))))))))))))
set_option maxRecDepth 100000 in
set_option maxHeartbeats 4000000 in
theorem tX8_copy {X : mCx} {G : mG} {u0 : mSt} {K : Int32 → mSt → Prop} (F : mFx X G cX8_copy wsX8_copy RX8 "copy" 1 60 (some .int) u0 (mPi K)) (hN : X.2.2.2.2.2.2.2.2.2.2.2.2.1 = 8) {this : Nat} {a1 : Int32} {a2 : Int32} {a3 : Int32} {a4 : Int32} {a5 : Int32} {u : mSt} (kthis : mK u this = 9) (h : bX8_copy this a1 a2 a3 a4 a5 u K) : mZ X u 0 [(0, .ref (G.1 + this)), (1, .int a1), (2, .int a2), (3, .int a3), (4, .int a4), (5, .int a5)] [] := by
  refine mz_iload_n F dX8_copy_0 rfl 1 rfl ?_
  refine mz_bipush (v := 8) F dX8_copy_1 (by decide) ?_
  refine mz_callS (As := [_, _]) (n := 2) F dX8_copy_3 rfl gX8_copy_X8_within (by decide +kernel) (by decide) rfl (Nat.le_of_ble_eq_true rfl) (kX8_within _ G h) (mz_kZ fun r_3 u_2 br_3 h hx_1 => ?_)
  replace kthis := hx_1.2.2 _ _ (by decide) kthis
  refine mz_if_eq (tgt := 18) F dX8_copy_6 (by decide) (fun c_37 => ?_) (fun c_37 => ?_)
  · replace h := h.1 c_37
    refine mz_iconst (v := (-1)) F dX8_copy_18 (by decide) ?_
    exact mz_iret F dX8_copy_19 ⟨_, rfl, h⟩
  · replace h := h.2 c_37
    refine mz_iload_n F dX8_copy_9 rfl 3 rfl ?_
    refine mz_bipush (v := 8) F dX8_copy_10 (by decide) ?_
    refine mz_callS (As := [_, _]) (n := 2) F dX8_copy_12 rfl gX8_copy_X8_within (by decide +kernel) (by decide) rfl (Nat.le_of_ble_eq_true rfl) (kX8_within _ G h) (mz_kZ fun r_6 u_5 br_6 h hx_4 => ?_)
    replace kthis := hx_4.2.2 _ _ (by decide) kthis
    refine mz_if_ne (tgt := 20) F dX8_copy_15 (by decide) (fun c_36 => ?_) (fun c_36 => ?_)
    · replace h := h.2 c_36
      refine mz_aload_n F dX8_copy_20 rfl 0 rfl ?_
      obtain ⟨q_7, eq_7, h⟩ := h
      refine mz_getR F dX8_copy_21 fX8_copy_60 (by decide) kthis eq_7 (fun kq_7 => ?_)
      refine mz_iload_n F dX8_copy_24 rfl 1 rfl ?_
      obtain ⟨b_8, q_9, eq_9, h⟩ := h
      refine mz_aald5 F dX8_copy_25 kq_7 rfl (by decide) b_8 eq_9 (fun kq_9 => ?_)
      refine mz_astore (lv2 := [(6, .ref (G.1 + q_9)), (0, .ref (G.1 + this)), (1, .int a1), (2, .int a2), (3, .int a3), (4, .int a4), (5, .int a5)]) F dX8_copy_26 hN (by decide) rfl ?_
      refine mz_aload_n F dX8_copy_28 rfl 1 rfl ?_
      obtain ⟨q_10, eq_10, h⟩ := h
      refine mz_getR F dX8_copy_29 fX8_copy_60 (by decide) kthis eq_10 (fun kq_10 => ?_)
      refine mz_iload_n F dX8_copy_32 rfl 4 rfl ?_
      obtain ⟨b_11, q_12, eq_12, h⟩ := h
      refine mz_aald5 F dX8_copy_33 kq_10 rfl (by decide) b_11 eq_12 (fun kq_12 => ?_)
      refine mz_astore (lv2 := [(7, .ref (G.1 + q_12)), (6, .ref (G.1 + q_9)), (0, .ref (G.1 + this)), (1, .int a1), (2, .int a2), (3, .int a3), (4, .int a4), (5, .int a5)]) F dX8_copy_34 hN (by decide) rfl ?_
      refine mz_aload F dX8_copy_36 1 rfl ?_
      refine mz_getI F dX8_copy_38 fX8_copy_236 kq_9 ?_
      refine mz_if_eq (tgt := 52) F dX8_copy_41 (by decide) (fun c_35 => ?_) (fun c_35 => ?_)
      · replace h := h.1 c_35
        refine mz_bipush (v := (-11)) F dX8_copy_52 (by decide) ?_
        exact mz_iret F dX8_copy_54 ⟨_, rfl, h⟩
      · replace h := h.2 c_35
        refine mz_aload F dX8_copy_44 0 rfl ?_
        refine mz_getI F dX8_copy_46 fX8_copy_236 kq_12 ?_
        refine mz_if_ne (tgt := 55) F dX8_copy_49 (by decide) (fun c_34 => ?_) (fun c_34 => ?_)
        · replace h := h.2 c_34
          refine mz_aload F dX8_copy_55 1 rfl ?_
          refine mz_callVN (As := []) (n := 0) F dX8_copy_57 rfl kq_9 rfl rfl gX8_copy_X5_isRow_n260 nwM8_260 mX8_copy_iniX5_isRow mX8_copy_imX5_isRow mX8_copy_seX5_isRow (by decide +kernel) (by decide) rfl (Nat.le_of_ble_eq_true rfl) (kX5_isRow _ G kq_9 h) (mz_kZ fun r_15 u_14 br_15 h hx_13 => ?_)
          replace kq_12 := hx_13.2.2 _ _ (by decide) kq_12
          replace kq_9 := hx_13.2.2 _ _ (by decide) kq_9
          refine mz_if_eq (tgt := 76) F dX8_copy_60 (by decide) (fun c_33 => ?_) (fun c_33 => ?_)
          · replace h := h.1 c_33
            refine mz_bipush (v := (-12)) F dX8_copy_76 (by decide) ?_
            exact mz_iret F dX8_copy_78 ⟨_, rfl, h⟩
          · replace h := h.2 c_33
            refine mz_aload F dX8_copy_63 1 rfl ?_
            refine mz_getI F dX8_copy_65 fX8_copy_236 kq_9 ?_
            refine mz_aload F dX8_copy_68 0 rfl ?_
            refine mz_getI F dX8_copy_70 fX8_copy_236 kq_12 ?_
            refine mz_icmp_eq (tgt := 79) F dX8_copy_73 (by decide) (fun c_32 => ?_) (fun c_32 => ?_)
            · replace h := h.1 c_32
              refine mz_aload F dX8_copy_79 1 rfl ?_
              refine mz_iload_n F dX8_copy_81 rfl 4 rfl ?_
              refine mz_iload F dX8_copy_82 7 rfl ?_
              refine mz_callVN (As := [_, _]) (n := 2) F dX8_copy_84 rfl kq_9 rfl rfl gX8_copy_X5_hasStretch_n275 nwM8_275 mX8_copy_iniX5_hasStretch mX8_copy_imX5_hasStretch mX8_copy_seX5_hasStretch (by decide +kernel) (by decide) rfl (Nat.le_of_ble_eq_true rfl) (kX5_hasStretch _ G kq_9 h) (mz_kZ fun r_18 u_17 br_18 h hx_16 => ?_)
              replace kq_12 := hx_16.2.2 _ _ (by decide) kq_12
              replace kq_9 := hx_16.2.2 _ _ (by decide) kq_9
              refine mz_if_eq (tgt := 102) F dX8_copy_87 (by decide) (fun c_31 => ?_) (fun c_31 => ?_)
              · replace h := h.1 c_31
                refine mz_bipush (v := (-13)) F dX8_copy_102 (by decide) ?_
                exact mz_iret F dX8_copy_104 ⟨_, rfl, h⟩
              · replace h := h.2 c_31
                refine mz_aload F dX8_copy_90 0 rfl ?_
                refine mz_iload F dX8_copy_92 6 rfl ?_
                refine mz_iload F dX8_copy_94 7 rfl ?_
                refine mz_callVN (As := [_, _]) (n := 2) F dX8_copy_96 rfl kq_12 rfl rfl gX8_copy_X5_hasStretch_n275 nwM8_275 mX8_copy_iniX5_hasStretch mX8_copy_imX5_hasStretch mX8_copy_seX5_hasStretch (by decide +kernel) (by decide) rfl (Nat.le_of_ble_eq_true rfl) (kX5_hasStretch _ G kq_12 h) (mz_kZ fun r_21 u_20 br_21 h hx_19 => ?_)
                replace kq_12 := hx_19.2.2 _ _ (by decide) kq_12
                replace kq_9 := hx_19.2.2 _ _ (by decide) kq_9
                refine mz_if_ne (tgt := 105) F dX8_copy_99 (by decide) (fun c_30 => ?_) (fun c_30 => ?_)
                · replace h := h.2 c_30
                  refine mz_aload F dX8_copy_105 1 rfl ?_
                  obtain ⟨q_22, eq_22, h⟩ := h
                  refine mz_getR F dX8_copy_107 fX8_copy_271 (by decide) kq_9 eq_22 (fun kq_22 => ?_)
                  refine mz_iload_n F dX8_copy_110 rfl 4 rfl ?_
                  refine mz_aload F dX8_copy_111 0 rfl ?_
                  obtain ⟨q_23, eq_23, h⟩ := h
                  refine mz_getR F dX8_copy_113 fX8_copy_271 (by decide) kq_12 eq_23 (fun kq_23 => ?_)
                  refine mz_iload F dX8_copy_116 6 rfl ?_
                  refine mz_iload F dX8_copy_118 7 rfl ?_
                  obtain ⟨⟨b_25, b_26, b_27, b_28, b_29⟩, h⟩ := h
                  refine mz_copyl F dX8_copy_120 mX8_copy_al278 mX8_copy_an mX8_copy_as mX8_copy_ai (by decide +kernel) (Nat.le_of_ble_eq_true rfl) kq_22 rfl kq_23 rfl b_25 b_26 b_27 b_28 b_29 (fun u_24 eu_24 hxu_24 => ?_)
                  replace h := h u_24 eu_24
                  refine mz_iload F dX8_copy_123 7 rfl ?_
                  exact mz_iret F dX8_copy_125 ⟨_, rfl, h⟩
                · replace h := h.1 c_30
                  refine mz_bipush (v := (-13)) F dX8_copy_102 (by decide) ?_
                  exact mz_iret F dX8_copy_104 ⟨_, rfl, h⟩
            · replace h := h.2 c_32
              refine mz_bipush (v := (-12)) F dX8_copy_76 (by decide) ?_
              exact mz_iret F dX8_copy_78 ⟨_, rfl, h⟩
        · replace h := h.1 c_34
          refine mz_bipush (v := (-11)) F dX8_copy_52 (by decide) ?_
          exact mz_iret F dX8_copy_54 ⟨_, rfl, h⟩
    · replace h := h.1 c_36
      refine mz_iconst (v := (-1)) F dX8_copy_18 (by decide) ?_
      exact mz_iret F dX8_copy_19 ⟨_, rfl, h⟩
set_option maxRecDepth 100000 in
theorem kX8_copy (l : Launch) (G : mG) {u : mSt} {K : Int32 → mSt → Prop} {this : Nat} {a1 : Int32} {a2 : Int32} {a3 : Int32} {a4 : Int32} {a5 : Int32} (kthis : mK u this = 9) (h : bX8_copy this a1 a2 a3 a4 a5 u K) : mCt l G yX8_copy wsX8_copy 1 60 [.ref (G.1 + this), .int a1, .int a2, .int a3, .int a4, .int a5] u (mPi K) := by
  refine mCt.of (cc := cX8_copy) (maxL := 8) (ret := (some .int)) (by decide) rfl (Nat.le_of_ble_eq_true rfl) ?_
  intro X hl hN F
  exact tX8_copy F hN kthis h
/-! RoomMapper.leadless(I)I -/
theorem wiX8_leadless_8 : ∀ w ∈ u_ws RX8 TX8 9, w ∈ wsX8_leadless := by decide +kernel
theorem fX8_leadless_60 : mFld wsX8_leadless RX8 60 9 7 23 (.array (.object "RoomMapper$Shelf")) true := ⟨8, _, RX8, TX8, 9, tyX8, rfl, rfl, rfl, by decide, wiX8_leadless_8, tyX8_ok, nmX8, rfl, rfl, Or.inl ⟨by decide +kernel, fun _ => rfl⟩⟩
theorem wiX8_leadless_5 : ∀ w ∈ u_ws RX5 TX5 5, w ∈ wsX8_leadless := by decide +kernel
theorem fX8_leadless_236 : mFld wsX8_leadless RX8 236 6 1 0 .int false := ⟨5, _, RX5, TX5, 5, tyX5, rfl, rfl, rfl, by decide, wiX8_leadless_5, tyX5_ok, nmX5, rfl, rfl, Or.inr ⟨"RoomMapper", nwF8_236⟩⟩
def bX8_leadless (this : Nat) (a1 : Int32) (u : mSt) (K : Int32 → mSt → Prop) : Prop := bX8_within a1 (8 : Int32) u (fun r_3 u_2 => ((r_3 = 0 → K (-1 : Int32) u_2) ∧ (¬ (r_3 = 0) → (∃ q_4, mR u_2 this 7 = some q_4 ∧ (vp_in a1 8 ∧ ∃ q_6, mR u_2 q_4 a1.toNatClampNeg = some q_6 ∧ (((mI u_2 q_6 1) = 0 → K (-11 : Int32) u_2) ∧ (¬ ((mI u_2 q_6 1) = 0) → (∃ q_7, mR u_2 this 7 = some q_7 ∧ (vp_in a1 8 ∧ ∃ q_9, mR u_2 q_7 a1.toNatClampNeg = some q_9 ∧ (((mI u_2 q_9 1) = (1 : Int32) → K (0 : Int32) u_2) ∧ (¬ ((mI u_2 q_9 1) = (1 : Int32)) → K (-12 : Int32) u_2)))))))))))
set_option maxRecDepth 100000 in
set_option maxHeartbeats 4000000 in
theorem tX8_leadless {X : mCx} {G : mG} {u0 : mSt} {K : Int32 → mSt → Prop} (F : mFx X G cX8_leadless wsX8_leadless RX8 "leadless" 1 21 (some .int) u0 (mPi K)) (hN : X.2.2.2.2.2.2.2.2.2.2.2.2.1 = 2) {this : Nat} {a1 : Int32} {u : mSt} (kthis : mK u this = 9) (h : bX8_leadless this a1 u K) : mZ X u 0 [(0, .ref (G.1 + this)), (1, .int a1)] [] := by
  refine mz_iload_n F dX8_leadless_0 rfl 1 rfl ?_
  refine mz_bipush (v := 8) F dX8_leadless_1 (by decide) ?_
  refine mz_callS (As := [_, _]) (n := 2) F dX8_leadless_3 rfl gX8_leadless_X8_within (by decide +kernel) (by decide) rfl (Nat.le_of_ble_eq_true rfl) (kX8_within _ G h) (mz_kZ fun r_3 u_2 br_3 h hx_1 => ?_)
  replace kthis := hx_1.2.2 _ _ (by decide) kthis
  refine mz_if_ne (tgt := 11) F dX8_leadless_6 (by decide) (fun c_12 => ?_) (fun c_12 => ?_)
  · replace h := h.2 c_12
    refine mz_aload_n F dX8_leadless_11 rfl 0 rfl ?_
    obtain ⟨q_4, eq_4, h⟩ := h
    refine mz_getR F dX8_leadless_12 fX8_leadless_60 (by decide) kthis eq_4 (fun kq_4 => ?_)
    refine mz_iload_n F dX8_leadless_15 rfl 1 rfl ?_
    obtain ⟨b_5, q_6, eq_6, h⟩ := h
    refine mz_aald5 F dX8_leadless_16 kq_4 rfl (by decide) b_5 eq_6 (fun kq_6 => ?_)
    refine mz_getI F dX8_leadless_17 fX8_leadless_236 kq_6 ?_
    refine mz_if_ne (tgt := 26) F dX8_leadless_20 (by decide) (fun c_11 => ?_) (fun c_11 => ?_)
    · replace h := h.2 c_11
      refine mz_aload_n F dX8_leadless_26 rfl 0 rfl ?_
      obtain ⟨q_7, eq_7, h⟩ := h
      refine mz_getR F dX8_leadless_27 fX8_leadless_60 (by decide) kthis eq_7 (fun kq_7 => ?_)
      refine mz_iload_n F dX8_leadless_30 rfl 1 rfl ?_
      obtain ⟨b_8, q_9, eq_9, h⟩ := h
      refine mz_aald5 F dX8_leadless_31 kq_7 rfl (by decide) b_8 eq_9 (fun kq_9 => ?_)
      refine mz_getI F dX8_leadless_32 fX8_leadless_236 kq_9 ?_
      refine mz_iconst (v := 1) F dX8_leadless_35 (by decide) ?_
      refine mz_icmp_ne (tgt := 43) F dX8_leadless_36 (by decide) (fun c_10 => ?_) (fun c_10 => ?_)
      · replace h := h.2 c_10
        refine mz_bipush (v := (-12)) F dX8_leadless_43 (by decide) ?_
        exact mz_iret F dX8_leadless_45 ⟨_, rfl, h⟩
      · replace h := h.1 c_10
        refine mz_iconst (v := 0) F dX8_leadless_39 (by decide) ?_
        refine mz_goto (tgt := 45) F dX8_leadless_40 (by decide) ?_
        exact mz_iret F dX8_leadless_45 ⟨_, rfl, h⟩
    · replace h := h.1 c_11
      refine mz_bipush (v := (-11)) F dX8_leadless_23 (by decide) ?_
      exact mz_iret F dX8_leadless_25 ⟨_, rfl, h⟩
  · replace h := h.1 c_12
    refine mz_iconst (v := (-1)) F dX8_leadless_9 (by decide) ?_
    exact mz_iret F dX8_leadless_10 ⟨_, rfl, h⟩
set_option maxRecDepth 100000 in
theorem kX8_leadless (l : Launch) (G : mG) {u : mSt} {K : Int32 → mSt → Prop} {this : Nat} {a1 : Int32} (kthis : mK u this = 9) (h : bX8_leadless this a1 u K) : mCt l G yX8_leadless wsX8_leadless 1 21 [.ref (G.1 + this), .int a1] u (mPi K) := by
  refine mCt.of (cc := cX8_leadless) (maxL := 2) (ret := (some .int)) (by decide) rfl (Nat.le_of_ble_eq_true rfl) ?_
  intro X hl hN F
  exact tX8_leadless F hN kthis h
/-! RoomMapper.weightOf(II)I -/
def bX8_weightOf (a0 : Int32) (a1 : Int32) (u : mSt) (K : Int32 → mSt → Prop) : Prop := (∀ x_1, x_1 = ((10 : Int32) + a1) → ((a0 = (0 : Int32) → K (1 : Int32) u) ∧ (¬ a0 = (0 : Int32) → ((a0 = (1 : Int32) → K x_1 u) ∧ (¬ a0 = (1 : Int32) → ((a0 = (2 : Int32) → K (x_1 + (100 : Int32)) u) ∧ (¬ a0 = (2 : Int32) → ((a0 = (3 : Int32) → K (x_1 + (1000 : Int32)) u) ∧ (¬ a0 = (3 : Int32) → ((a0 = (4 : Int32) → K (x_1 + (2000 : Int32)) u) ∧ (¬ a0 = (4 : Int32) → ((a0 = (5 : Int32) → K ((2 : Int32) * (x_1 + (100 : Int32))) u) ∧ (¬ a0 = (5 : Int32) → K x_1 u)))))))))))))
set_option maxRecDepth 100000 in
set_option maxHeartbeats 4000000 in
theorem tX8_weightOf {X : mCx} {G : mG} {u0 : mSt} {K : Int32 → mSt → Prop} (F : mFx X G cX8_weightOf wsX8_weightOf RX8 "weightOf" 0 0 (some .int) u0 (mPi K)) (hN : X.2.2.2.2.2.2.2.2.2.2.2.2.1 = 3) {a0 : Int32} {a1 : Int32} {u : mSt} (h : bX8_weightOf a0 a1 u K) : mZ X u 0 [(0, .int a0), (1, .int a1)] [] := by
  refine mz_bipush (v := 10) F dX8_weightOf_0 (by decide) ?_
  refine mz_iload_n F dX8_weightOf_2 rfl 1 rfl ?_
  refine mz_iadd F dX8_weightOf_3 ?_
  refine mz_topi (fun x_1 ex_1 => ?_)
  replace h := h x_1 ex_1
  refine mz_istore_n (lv2 := [(2, .int x_1), (0, .int a0), (1, .int a1)]) F dX8_weightOf_4 rfl hN (by decide) rfl ?_
  refine mz_iload_n F dX8_weightOf_5 rfl 1 rfl ?_
  refine Classical.byCases (p := a0 = (0 : Int32)) (fun c_2 => ?_) (fun c_2 => ?_)
  · replace h := h.1 c_2
    have ec_2 := mte (z := 0) rfl c_2
    refine mz_tableIn (off := 38) (tgt := 44) F dX8_weightOf_6 (by omega) (by omega) (by rw [ec_2]; rfl) (by decide) ?_
    refine mz_iconst (v := 1) F dX8_weightOf_44 (by decide) ?_
    exact mz_iret F dX8_weightOf_45 ⟨_, rfl, h⟩
  · replace h := h.2 c_2
    refine Classical.byCases (p := a0 = (1 : Int32)) (fun c_3 => ?_) (fun c_3 => ?_)
    · replace h := h.1 c_3
      have ec_3 := mte (z := 1) rfl c_3
      refine mz_tableIn (off := 64) (tgt := 70) F dX8_weightOf_6 (by omega) (by omega) (by rw [ec_3]; rfl) (by decide) ?_
      refine mz_iload_n F dX8_weightOf_70 rfl 0 rfl ?_
      exact mz_iret F dX8_weightOf_71 ⟨_, rfl, h⟩
    · replace h := h.2 c_3
      refine Classical.byCases (p := a0 = (2 : Int32)) (fun c_4 => ?_) (fun c_4 => ?_)
      · replace h := h.1 c_4
        have ec_4 := mte (z := 2) rfl c_4
        refine mz_tableIn (off := 40) (tgt := 46) F dX8_weightOf_6 (by omega) (by omega) (by rw [ec_4]; rfl) (by decide) ?_
        refine mz_iload_n F dX8_weightOf_46 rfl 0 rfl ?_
        refine mz_bipush (v := 100) F dX8_weightOf_47 (by decide) ?_
        refine mz_iadd F dX8_weightOf_49 ?_
        exact mz_iret F dX8_weightOf_50 ⟨_, rfl, h⟩
      · replace h := h.2 c_4
        refine Classical.byCases (p := a0 = (3 : Int32)) (fun c_5 => ?_) (fun c_5 => ?_)
        · replace h := h.1 c_5
          have ec_5 := mte (z := 3) rfl c_5
          refine mz_tableIn (off := 45) (tgt := 51) F dX8_weightOf_6 (by omega) (by omega) (by rw [ec_5]; rfl) (by decide) ?_
          refine mz_iload_n F dX8_weightOf_51 rfl 0 rfl ?_
          refine mz_sipush (v := 1000) F dX8_weightOf_52 (by decide) ?_
          refine mz_iadd F dX8_weightOf_55 ?_
          exact mz_iret F dX8_weightOf_56 ⟨_, rfl, h⟩
        · replace h := h.2 c_5
          refine Classical.byCases (p := a0 = (4 : Int32)) (fun c_6 => ?_) (fun c_6 => ?_)
          · replace h := h.1 c_6
            have ec_6 := mte (z := 4) rfl c_6
            refine mz_tableIn (off := 51) (tgt := 57) F dX8_weightOf_6 (by omega) (by omega) (by rw [ec_6]; rfl) (by decide) ?_
            refine mz_iload_n F dX8_weightOf_57 rfl 0 rfl ?_
            refine mz_sipush (v := 2000) F dX8_weightOf_58 (by decide) ?_
            refine mz_iadd F dX8_weightOf_61 ?_
            exact mz_iret F dX8_weightOf_62 ⟨_, rfl, h⟩
          · replace h := h.2 c_6
            refine Classical.byCases (p := a0 = (5 : Int32)) (fun c_7 => ?_) (fun c_7 => ?_)
            · replace h := h.1 c_7
              have ec_7 := mte (z := 5) rfl c_7
              refine mz_tableIn (off := 57) (tgt := 63) F dX8_weightOf_6 (by omega) (by omega) (by rw [ec_7]; rfl) (by decide) ?_
              refine mz_iconst (v := 2) F dX8_weightOf_63 (by decide) ?_
              refine mz_iload_n F dX8_weightOf_64 rfl 0 rfl ?_
              refine mz_bipush (v := 100) F dX8_weightOf_65 (by decide) ?_
              refine mz_iadd F dX8_weightOf_67 ?_
              refine mz_imul F dX8_weightOf_68 ?_
              exact mz_iret F dX8_weightOf_69 ⟨_, rfl, h⟩
            · replace h := h.2 c_7
              have nc_2 := mtn (z := 0) rfl c_2
              have nc_3 := mtn (z := 1) rfl c_3
              have nc_4 := mtn (z := 2) rfl c_4
              have nc_5 := mtn (z := 3) rfl c_5
              have nc_6 := mtn (z := 4) rfl c_6
              have nc_7 := mtn (z := 5) rfl c_7
              refine mz_tableOut (tgt := 70) F dX8_weightOf_6 (by omega) (by decide) ?_
              refine mz_iload_n F dX8_weightOf_70 rfl 0 rfl ?_
              exact mz_iret F dX8_weightOf_71 ⟨_, rfl, h⟩
set_option maxRecDepth 100000 in
theorem kX8_weightOf (l : Launch) (G : mG) {u : mSt} {K : Int32 → mSt → Prop} {a0 : Int32} {a1 : Int32} (h : bX8_weightOf a0 a1 u K) : mCt l G yX8_weightOf wsX8_weightOf 0 0 [.int a0, .int a1] u (mPi K) := by
  refine mCt.of (cc := cX8_weightOf) (maxL := 3) (ret := (some .int)) (by decide) rfl (Nat.le_of_ble_eq_true rfl) ?_
  intro X hl hN F
  exact tX8_weightOf F hN  h
/-! RoomMapper.weight(I)I -/
theorem wiX8_weight_8 : ∀ w ∈ u_ws RX8 TX8 9, w ∈ wsX8_weight := by decide +kernel
theorem fX8_weight_60 : mFld wsX8_weight RX8 60 9 7 23 (.array (.object "RoomMapper$Shelf")) true := ⟨8, _, RX8, TX8, 9, tyX8, rfl, rfl, rfl, by decide, wiX8_weight_8, tyX8_ok, nmX8, rfl, rfl, Or.inl ⟨by decide +kernel, fun _ => rfl⟩⟩
theorem wiX8_weight_5 : ∀ w ∈ u_ws RX5 TX5 5, w ∈ wsX8_weight := by decide +kernel
theorem fX8_weight_287 : mFld wsX8_weight RX8 287 6 2 0 .int false := ⟨5, _, RX5, TX5, 5, tyX5, rfl, rfl, rfl, by decide, wiX8_weight_5, tyX5_ok, nmX5, rfl, rfl, Or.inr ⟨"RoomMapper", nwF8_287⟩⟩
theorem fX8_weight_290 : mFld wsX8_weight RX8 290 6 3 0 .int false := ⟨5, _, RX5, TX5, 5, tyX5, rfl, rfl, rfl, by decide, wiX8_weight_5, tyX5_ok, nmX5, rfl, rfl, Or.inr ⟨"RoomMapper", nwF8_290⟩⟩
def bX8_weight (this : Nat) (a1 : Int32) (u : mSt) (K : Int32 → mSt → Prop) : Prop := bX8_leadless this a1 u (fun r_3 u_2 => ((r_3 = 0 → (∃ q_4, mR u_2 this 7 = some q_4 ∧ (vp_in a1 8 ∧ ∃ q_6, mR u_2 q_4 a1.toNatClampNeg = some q_6 ∧ (∃ q_7, mR u_2 this 7 = some q_7 ∧ (vp_in a1 8 ∧ ∃ q_9, mR u_2 q_7 a1.toNatClampNeg = some q_9 ∧ bX8_weightOf (mI u_2 q_6 2) (mI u_2 q_9 3) u_2 (fun r_12 u_11 => K r_12 u_11)))))) ∧ (¬ (r_3 = 0) → K r_3 u_2)))
set_option maxRecDepth 100000 in
set_option maxHeartbeats 4000000 in
theorem tX8_weight {X : mCx} {G : mG} {u0 : mSt} {K : Int32 → mSt → Prop} (F : mFx X G cX8_weight wsX8_weight RX8 "weight" 2 42 (some .int) u0 (mPi K)) (hN : X.2.2.2.2.2.2.2.2.2.2.2.2.1 = 3) {this : Nat} {a1 : Int32} {u : mSt} (kthis : mK u this = 9) (h : bX8_weight this a1 u K) : mZ X u 0 [(0, .ref (G.1 + this)), (1, .int a1)] [] := by
  refine mz_aload_n F dX8_weight_0 rfl 0 rfl ?_
  refine mz_iload_n F dX8_weight_1 rfl 1 rfl ?_
  refine mz_callV (As := [_]) (n := 1) F dX8_weight_2 rfl kthis rfl rfl gX8_weight_X8_leadless (by decide +kernel) (by decide) rfl (Nat.le_of_ble_eq_true rfl) (kX8_leadless _ G kthis h) (mz_kI fun r_3 u_2 h hx_1 => ?_)
  replace kthis := hx_1.2.2 _ _ (by decide) kthis
  refine mz_istore_n (lv2 := [(2, .int r_3), (0, .ref (G.1 + this)), (1, .int a1)]) F dX8_weight_5 rfl hN (by decide) rfl ?_
  refine mz_iload_n F dX8_weight_6 rfl 0 rfl ?_
  refine mz_if_eq (tgt := 14) F dX8_weight_7 (by decide) (fun c_13 => ?_) (fun c_13 => ?_)
  · replace h := h.1 c_13
    refine mz_aload_n F dX8_weight_14 rfl 1 rfl ?_
    obtain ⟨q_4, eq_4, h⟩ := h
    refine mz_getR F dX8_weight_15 fX8_weight_60 (by decide) kthis eq_4 (fun kq_4 => ?_)
    refine mz_iload_n F dX8_weight_18 rfl 2 rfl ?_
    obtain ⟨b_5, q_6, eq_6, h⟩ := h
    refine mz_aald5 F dX8_weight_19 kq_4 rfl (by decide) b_5 eq_6 (fun kq_6 => ?_)
    refine mz_getI F dX8_weight_20 fX8_weight_287 kq_6 ?_
    refine mz_aload_n F dX8_weight_23 rfl 1 rfl ?_
    obtain ⟨q_7, eq_7, h⟩ := h
    refine mz_getR F dX8_weight_24 fX8_weight_60 (by decide) kthis eq_7 (fun kq_7 => ?_)
    refine mz_iload_n F dX8_weight_27 rfl 2 rfl ?_
    obtain ⟨b_8, q_9, eq_9, h⟩ := h
    refine mz_aald5 F dX8_weight_28 kq_7 rfl (by decide) b_8 eq_9 (fun kq_9 => ?_)
    refine mz_getI F dX8_weight_29 fX8_weight_290 kq_9 ?_
    refine mz_callS (As := [_, _]) (n := 2) F dX8_weight_32 rfl gX8_weight_X8_weightOf (by decide +kernel) (by decide) rfl (Nat.le_of_ble_eq_true rfl) (kX8_weightOf _ G h) (mz_kI fun r_12 u_11 h hx_10 => ?_)
    exact mz_iret F dX8_weight_35 ⟨_, rfl, h⟩
  · replace h := h.2 c_13
    refine mz_iload_n F dX8_weight_10 rfl 0 rfl ?_
    refine mz_goto (tgt := 35) F dX8_weight_11 (by decide) ?_
    exact mz_iret F dX8_weight_35 ⟨_, rfl, h⟩
set_option maxRecDepth 100000 in
theorem kX8_weight (l : Launch) (G : mG) {u : mSt} {K : Int32 → mSt → Prop} {this : Nat} {a1 : Int32} (kthis : mK u this = 9) (h : bX8_weight this a1 u K) : mCt l G yX8_weight wsX8_weight 2 42 [.ref (G.1 + this), .int a1] u (mPi K) := by
  refine mCt.of (cc := cX8_weight) (maxL := 3) (ret := (some .int)) (by decide) rfl (Nat.le_of_ble_eq_true rfl) ?_
  intro X hl hN F
  exact tX8_weight F hN kthis h
