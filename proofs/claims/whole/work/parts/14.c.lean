theorem nwF8_299 : Cond.fieldLinkNest RX8 299 RX0 "spent" "Z" "RoomMapper" ∈ tables_1 := by decide +kernel
theorem nwF8_139 : Cond.fieldLinkNest RX8 139 RX0 "count" "I" "RoomMapper" ∈ tables_1 := by decide +kernel
theorem nwF8_142 : Cond.fieldLinkNest RX8 142 RX0 "now" "[LRoomMapper$Sheet;" "RoomMapper" ∈ tables_1 := by decide +kernel
theorem nwM8_153 : Cond.methodLinkNest RX8 153 yX4_countKnown "RoomMapper" ∈ tables_1 := by decide +kernel
theorem nwF8_152 : Cond.fieldLinkNest RX8 152 RX4 "pebble" "I" "RoomMapper" ∈ tables_1 := by decide +kernel
theorem nwF8_149 : Cond.fieldLinkNest RX8 149 RX4 "walker" "I" "RoomMapper" ∈ tables_1 := by decide +kernel
theorem nwF8_146 : Cond.fieldLinkNest RX8 146 RX4 "places" "I" "RoomMapper" ∈ tables_1 := by decide +kernel
theorem nwM8_159 : Cond.methodLinkNest RX8 159 yX4_leadFrom "RoomMapper" ∈ tables_1 := by decide +kernel
theorem nwF8_163 : Cond.fieldLinkNest RX8 163 RX4 "signs" "[I" "RoomMapper" ∈ tables_1 := by decide +kernel
theorem nwM8_302 : Cond.methodLinkNest RX8 302 yX4_placeAfter "RoomMapper" ∈ tables_1 := by decide +kernel
theorem nwM8_223 : Cond.methodLinkNest RX8 223 yX6_addOnce "RoomMapper" ∈ tables_1 := by decide +kernel
theorem nwF8_227 : Cond.fieldLinkNest RX8 227 RX6 "size" "I" "RoomMapper" ∈ tables_1 := by decide +kernel
theorem nwF8_230 : Cond.fieldLinkNest RX8 230 RX6 "items" "[I" "RoomMapper" ∈ tables_1 := by decide +kernel
theorem nwM8_220 : Cond.methodLinkNest RX8 220 yX6_clear "RoomMapper" ∈ tables_1 := by decide +kernel
theorem nwM8_178 : Cond.methodLinkNest RX8 178 yX2_countSets "RoomMapper" ∈ tables_1 := by decide +kernel
theorem nwM8_182 : Cond.methodLinkNest RX8 182 yX2_bestRow "RoomMapper" ∈ tables_1 := by decide +kernel
theorem nwM8_186 : Cond.methodLinkNest RX8 186 yX3_find "RoomMapper" ∈ tables_1 := by decide +kernel
theorem nwF8_190 : Cond.fieldLinkNest RX8 190 RX3 "length" "I" "RoomMapper" ∈ tables_1 := by decide +kernel
theorem nwF8_191 : Cond.fieldLinkNest RX8 191 RX3 "acts" "[I" "RoomMapper" ∈ tables_1 := by decide +kernel
/-! RoomMapper.unmapped()I -/
theorem wiX8_unmapped_8 : ∀ w ∈ u_ws RX8 TX8 9, w ∈ wsX8_unmapped := by decide +kernel
theorem fX8_unmapped_81 : mFld wsX8_unmapped RX8 81 9 8 0 .boolean false := ⟨8, _, RX8, TX8, 9, tyX8, rfl, rfl, rfl, by decide, wiX8_unmapped_8, tyX8_ok, nmX8, rfl, rfl, Or.inl ⟨by decide +kernel, fun _ => rfl⟩⟩
theorem fX8_unmapped_26 : mFld wsX8_unmapped RX8 26 9 2 1 (.object "RoomMapper$Atlas") true := ⟨8, _, RX8, TX8, 9, tyX8, rfl, rfl, rfl, by decide, wiX8_unmapped_8, tyX8_ok, nmX8, rfl, rfl, Or.inl ⟨by decide +kernel, fun _ => rfl⟩⟩
theorem wiX8_unmapped_0 : ∀ w ∈ u_ws RX0 TX0 6, w ∈ wsX8_unmapped := by decide +kernel
theorem fX8_unmapped_299 : mFld wsX8_unmapped RX8 299 1 5 0 .boolean false := ⟨0, _, RX0, TX0, 6, tyX0, rfl, rfl, rfl, by decide, wiX8_unmapped_0, tyX0_ok, nmX0, rfl, rfl, Or.inr ⟨"RoomMapper", nwF8_299⟩⟩
def bX8_unmapped (this : Nat) (u : mSt) (K : Int32 → mSt → Prop) : Prop := (((mI u this 8) = 0 → K (-2 : Int32) u) ∧ (¬ ((mI u this 8) = 0) → (∃ q_1, mR u this 2 = some q_1 ∧ (((mI u q_1 5) = 0 → K (0 : Int32) u) ∧ (¬ ((mI u q_1 5) = 0) → K (-3 : Int32) u)))))
set_option maxRecDepth 100000 in
set_option maxHeartbeats 4000000 in
theorem tX8_unmapped {X : mCx} {G : mG} {u0 : mSt} {K : Int32 → mSt → Prop} (F : mFx X G cX8_unmapped wsX8_unmapped RX8 "unmapped" 0 0 (some .int) u0 (mPi K)) (hN : X.2.2.2.2.2.2.2.2.2.2.2.2.1 = 1) {this : Nat} {u : mSt} (kthis : mK u this = 9) (h : bX8_unmapped this u K) : mZ X u 0 [(0, .ref (G.1 + this))] [] := by
  refine mz_aload_n F dX8_unmapped_0 rfl 0 rfl ?_
  refine mz_getI F dX8_unmapped_1 fX8_unmapped_81 kthis ?_
  refine mz_if_ne (tgt := 10) F dX8_unmapped_4 (by decide) (fun c_3 => ?_) (fun c_3 => ?_)
  · replace h := h.2 c_3
    refine mz_aload_n F dX8_unmapped_10 rfl 0 rfl ?_
    obtain ⟨q_1, eq_1, h⟩ := h
    refine mz_getR F dX8_unmapped_11 fX8_unmapped_26 (by decide) kthis eq_1 (fun kq_1 => ?_)
    refine mz_getI F dX8_unmapped_14 fX8_unmapped_299 kq_1 ?_
    refine mz_if_eq (tgt := 25) F dX8_unmapped_17 (by decide) (fun c_2 => ?_) (fun c_2 => ?_)
    · replace h := h.1 c_2
      refine mz_iconst (v := 0) F dX8_unmapped_25 (by decide) ?_
      exact mz_iret F dX8_unmapped_26 ⟨_, rfl, h⟩
    · replace h := h.2 c_2
      refine mz_bipush (v := (-3)) F dX8_unmapped_20 (by decide) ?_
      refine mz_goto (tgt := 26) F dX8_unmapped_22 (by decide) ?_
      exact mz_iret F dX8_unmapped_26 ⟨_, rfl, h⟩
  · replace h := h.1 c_3
    refine mz_bipush (v := (-2)) F dX8_unmapped_7 (by decide) ?_
    exact mz_iret F dX8_unmapped_9 ⟨_, rfl, h⟩
set_option maxRecDepth 100000 in
theorem kX8_unmapped (l : Launch) (G : mG) {u : mSt} {K : Int32 → mSt → Prop} {this : Nat} (kthis : mK u this = 9) (h : bX8_unmapped this u K) : mCt l G yX8_unmapped wsX8_unmapped 0 0 [.ref (G.1 + this)] u (mPi K) := by
  refine mCt.of (cc := cX8_unmapped) (maxL := 1) (ret := (some .int)) (by decide) rfl (Nat.le_of_ble_eq_true rfl) ?_
  intro X hl hN F
  exact tX8_unmapped F hN kthis h
/-! RoomMapper.sheets()I -/
theorem wiX8_sheets_8 : ∀ w ∈ u_ws RX8 TX8 9, w ∈ wsX8_sheets := by decide +kernel
theorem fX8_sheets_26 : mFld wsX8_sheets RX8 26 9 2 1 (.object "RoomMapper$Atlas") true := ⟨8, _, RX8, TX8, 9, tyX8, rfl, rfl, rfl, by decide, wiX8_sheets_8, tyX8_ok, nmX8, rfl, rfl, Or.inl ⟨by decide +kernel, fun _ => rfl⟩⟩
theorem wiX8_sheets_0 : ∀ w ∈ u_ws RX0 TX0 6, w ∈ wsX8_sheets := by decide +kernel
theorem fX8_sheets_139 : mFld wsX8_sheets RX8 139 1 2 0 .int false := ⟨0, _, RX0, TX0, 6, tyX0, rfl, rfl, rfl, by decide, wiX8_sheets_0, tyX0_ok, nmX0, rfl, rfl, Or.inr ⟨"RoomMapper", nwF8_139⟩⟩
def bX8_sheets (this : Nat) (u : mSt) (K : Int32 → mSt → Prop) : Prop := bX8_unmapped this u (fun r_3 u_2 => ((r_3 = 0 → (∃ q_4, mR u_2 this 2 = some q_4 ∧ K (mI u_2 q_4 2) u_2)) ∧ (¬ (r_3 = 0) → K r_3 u_2)))
set_option maxRecDepth 100000 in
set_option maxHeartbeats 4000000 in
theorem tX8_sheets {X : mCx} {G : mG} {u0 : mSt} {K : Int32 → mSt → Prop} (F : mFx X G cX8_sheets wsX8_sheets RX8 "sheets" 1 20 (some .int) u0 (mPi K)) (hN : X.2.2.2.2.2.2.2.2.2.2.2.2.1 = 2) {this : Nat} {u : mSt} (kthis : mK u this = 9) (h : bX8_sheets this u K) : mZ X u 0 [(0, .ref (G.1 + this))] [] := by
  refine mz_aload_n F dX8_sheets_0 rfl 0 rfl ?_
  refine mz_callV (As := []) (n := 0) F dX8_sheets_1 rfl kthis rfl rfl gX8_sheets_X8_unmapped (by decide +kernel) (by decide) rfl (Nat.le_of_ble_eq_true rfl) (kX8_unmapped _ G kthis h) (mz_kI fun r_3 u_2 h hx_1 => ?_)
  replace kthis := hx_1.2.2 _ _ (by decide) kthis
  refine mz_istore_n (lv2 := [(1, .int r_3), (0, .ref (G.1 + this))]) F dX8_sheets_4 rfl hN (by decide) rfl ?_
  refine mz_iload_n F dX8_sheets_5 rfl 0 rfl ?_
  refine mz_if_eq (tgt := 13) F dX8_sheets_6 (by decide) (fun c_5 => ?_) (fun c_5 => ?_)
  · replace h := h.1 c_5
    refine mz_aload_n F dX8_sheets_13 rfl 1 rfl ?_
    obtain ⟨q_4, eq_4, h⟩ := h
    refine mz_getR F dX8_sheets_14 fX8_sheets_26 (by decide) kthis eq_4 (fun kq_4 => ?_)
    refine mz_getI F dX8_sheets_17 fX8_sheets_139 kq_4 ?_
    exact mz_iret F dX8_sheets_20 ⟨_, rfl, h⟩
  · replace h := h.2 c_5
    refine mz_iload_n F dX8_sheets_9 rfl 0 rfl ?_
    refine mz_goto (tgt := 20) F dX8_sheets_10 (by decide) ?_
    exact mz_iret F dX8_sheets_20 ⟨_, rfl, h⟩
set_option maxRecDepth 100000 in
theorem kX8_sheets (l : Launch) (G : mG) {u : mSt} {K : Int32 → mSt → Prop} {this : Nat} (kthis : mK u this = 9) (h : bX8_sheets this u K) : mCt l G yX8_sheets wsX8_sheets 1 20 [.ref (G.1 + this)] u (mPi K) := by
  refine mCt.of (cc := cX8_sheets) (maxL := 2) (ret := (some .int)) (by decide) rfl (Nat.le_of_ble_eq_true rfl) ?_
  intro X hl hN F
  exact tX8_sheets F hN kthis h
/-! RoomMapper.sheet(II)I -/
theorem wiX8_sheet_8 : ∀ w ∈ u_ws RX8 TX8 9, w ∈ wsX8_sheet := by decide +kernel
theorem fX8_sheet_26 : mFld wsX8_sheet RX8 26 9 2 1 (.object "RoomMapper$Atlas") true := ⟨8, _, RX8, TX8, 9, tyX8, rfl, rfl, rfl, by decide, wiX8_sheet_8, tyX8_ok, nmX8, rfl, rfl, Or.inl ⟨by decide +kernel, fun _ => rfl⟩⟩
theorem wiX8_sheet_0 : ∀ w ∈ u_ws RX0 TX0 6, w ∈ wsX8_sheet := by decide +kernel
theorem fX8_sheet_139 : mFld wsX8_sheet RX8 139 1 2 0 .int false := ⟨0, _, RX0, TX0, 6, tyX0, rfl, rfl, rfl, by decide, wiX8_sheet_0, tyX0_ok, nmX0, rfl, rfl, Or.inr ⟨"RoomMapper", nwF8_139⟩⟩
theorem fX8_sheet_142 : mFld wsX8_sheet RX8 142 1 0 11 (.array (.object "RoomMapper$Sheet")) false := ⟨0, _, RX0, TX0, 6, tyX0, rfl, rfl, rfl, by decide, wiX8_sheet_0, tyX0_ok, nmX0, rfl, rfl, Or.inr ⟨"RoomMapper", nwF8_142⟩⟩
theorem mX8_sheet_iniX4_countKnown : Cond.initialized yX4_countKnown.cls ∈ wsX8_sheet := by decide +kernel
theorem mX8_sheet_imX4_countKnown : Cond.instanceMethod yX4_countKnown ∈ wsX8_sheet := by decide +kernel
theorem mX8_sheet_seX4_countKnown : Cond.selects RX4 yX4_countKnown yX4_countKnown ∈ wsX8_sheet := by decide +kernel
theorem wiX8_sheet_4 : ∀ w ∈ u_ws RX4 TX4 5, w ∈ wsX8_sheet := by decide +kernel
theorem fX8_sheet_152 : mFld wsX8_sheet RX8 152 5 4 0 .int false := ⟨4, _, RX4, TX4, 5, tyX4, rfl, rfl, rfl, by decide, wiX8_sheet_4, tyX4_ok, nmX4, rfl, rfl, Or.inr ⟨"RoomMapper", nwF8_152⟩⟩
theorem fX8_sheet_149 : mFld wsX8_sheet RX8 149 5 3 0 .int false := ⟨4, _, RX4, TX4, 5, tyX4, rfl, rfl, rfl, by decide, wiX8_sheet_4, tyX4_ok, nmX4, rfl, rfl, Or.inr ⟨"RoomMapper", nwF8_149⟩⟩
theorem fX8_sheet_146 : mFld wsX8_sheet RX8 146 5 2 0 .int false := ⟨4, _, RX4, TX4, 5, tyX4, rfl, rfl, rfl, by decide, wiX8_sheet_4, tyX4_ok, nmX4, rfl, rfl, Or.inr ⟨"RoomMapper", nwF8_146⟩⟩
def bX8_sheet (this : Nat) (a1 : Int32) (a2 : Int32) (u : mSt) (K : Int32 → mSt → Prop) : Prop := (∃ q_1, mR u this 2 = some q_1 ∧ bX8_within a1 (mI u q_1 2) u (fun r_4 u_3 => ((r_4 = 0 → K (-1 : Int32) u_3) ∧ (¬ (r_4 = 0) → bX8_within a2 (4 : Int32) u_3 (fun r_7 u_6 => ((r_7 = 0 → K (-1 : Int32) u_6) ∧ (¬ (r_7 = 0) → (∃ q_8, mR u_6 this 2 = some q_8 ∧ (∃ q_9, mR u_6 q_8 0 = some q_9 ∧ (vp_in a1 151 ∧ ∃ q_11, mR u_6 q_9 a1.toNatClampNeg = some q_11 ∧ ((a2 = (0 : Int32) → K (mI u_6 q_11 2) u_6) ∧ (¬ a2 = (0 : Int32) → ((a2 = (1 : Int32) → K (mI u_6 q_11 3) u_6) ∧ (¬ a2 = (1 : Int32) → ((a2 = (2 : Int32) → K (mI u_6 q_11 4) u_6) ∧ (¬ a2 = (2 : Int32) → bX4_countKnown q_11 u_6 (fun r_14 u_13 => K r_14 u_13)))))))))))))))))
set_option maxRecDepth 100000 in
set_option maxHeartbeats 4000000 in
theorem tX8_sheet {X : mCx} {G : mG} {u0 : mSt} {K : Int32 → mSt → Prop} (F : mFx X G cX8_sheet wsX8_sheet RX8 "sheet" 1 22 (some .int) u0 (mPi K)) (hN : X.2.2.2.2.2.2.2.2.2.2.2.2.1 = 4) {this : Nat} {a1 : Int32} {a2 : Int32} {u : mSt} (kthis : mK u this = 9) (h : bX8_sheet this a1 a2 u K) : mZ X u 0 [(0, .ref (G.1 + this)), (1, .int a1), (2, .int a2)] [] := by
  refine mz_iload_n F dX8_sheet_0 rfl 1 rfl ?_
  refine mz_aload_n F dX8_sheet_1 rfl 0 rfl ?_
  obtain ⟨q_1, eq_1, h⟩ := h
  refine mz_getR F dX8_sheet_2 fX8_sheet_26 (by decide) kthis eq_1 (fun kq_1 => ?_)
  refine mz_getI F dX8_sheet_5 fX8_sheet_139 kq_1 ?_
  refine mz_callS (As := [_, _]) (n := 2) F dX8_sheet_8 rfl gX8_sheet_X8_within (by decide +kernel) (by decide) rfl (Nat.le_of_ble_eq_true rfl) (kX8_within _ G h) (mz_kZ fun r_4 u_3 br_4 h hx_2 => ?_)
  replace kthis := hx_2.2.2 _ _ (by decide) kthis
  refine mz_if_eq (tgt := 22) F dX8_sheet_11 (by decide) (fun c_20 => ?_) (fun c_20 => ?_)
  · replace h := h.1 c_20
    refine mz_iconst (v := (-1)) F dX8_sheet_22 (by decide) ?_
    exact mz_iret F dX8_sheet_23 ⟨_, rfl, h⟩
  · replace h := h.2 c_20
    refine mz_iload_n F dX8_sheet_14 rfl 2 rfl ?_
    refine mz_iconst (v := 4) F dX8_sheet_15 (by decide) ?_
    refine mz_callS (As := [_, _]) (n := 2) F dX8_sheet_16 rfl gX8_sheet_X8_within (by decide +kernel) (by decide) rfl (Nat.le_of_ble_eq_true rfl) (kX8_within _ G h) (mz_kZ fun r_7 u_6 br_7 h hx_5 => ?_)
    replace kthis := hx_5.2.2 _ _ (by decide) kthis
    refine mz_if_ne (tgt := 24) F dX8_sheet_19 (by decide) (fun c_19 => ?_) (fun c_19 => ?_)
    · replace h := h.2 c_19
      refine mz_aload_n F dX8_sheet_24 rfl 0 rfl ?_
      obtain ⟨q_8, eq_8, h⟩ := h
      refine mz_getR F dX8_sheet_25 fX8_sheet_26 (by decide) kthis eq_8 (fun kq_8 => ?_)
      obtain ⟨q_9, eq_9, h⟩ := h
      refine mz_getR F dX8_sheet_28 fX8_sheet_142 (by decide) kq_8 eq_9 (fun kq_9 => ?_)
      refine mz_iload_n F dX8_sheet_31 rfl 1 rfl ?_
      obtain ⟨b_10, q_11, eq_11, h⟩ := h
      refine mz_aald4 F dX8_sheet_32 kq_9 rfl (by decide) b_10 eq_11 (fun kq_11 => ?_)
      refine mz_astore_n (lv2 := [(3, .ref (G.1 + q_11)), (0, .ref (G.1 + this)), (1, .int a1), (2, .int a2)]) F dX8_sheet_33 rfl hN (by decide) rfl ?_
      refine mz_iload_n F dX8_sheet_34 rfl 3 rfl ?_
      refine Classical.byCases (p := a2 = (0 : Int32)) (fun c_15 => ?_) (fun c_15 => ?_)
      · replace h := h.1 c_15
        have ec_15 := mte (z := 0) rfl c_15
        refine mz_tableIn (off := 25) (tgt := 60) F dX8_sheet_35 (by omega) (by omega) (by rw [ec_15]; rfl) (by decide) ?_
        refine mz_aload_n F dX8_sheet_60 rfl 0 rfl ?_
        refine mz_getI F dX8_sheet_61 fX8_sheet_146 kq_11 ?_
        exact mz_iret F dX8_sheet_64 ⟨_, rfl, h⟩
      · replace h := h.2 c_15
        refine Classical.byCases (p := a2 = (1 : Int32)) (fun c_16 => ?_) (fun c_16 => ?_)
        · replace h := h.1 c_16
          have ec_16 := mte (z := 1) rfl c_16
          refine mz_tableIn (off := 30) (tgt := 65) F dX8_sheet_35 (by omega) (by omega) (by rw [ec_16]; rfl) (by decide) ?_
          refine mz_aload_n F dX8_sheet_65 rfl 0 rfl ?_
          refine mz_getI F dX8_sheet_66 fX8_sheet_149 kq_11 ?_
          exact mz_iret F dX8_sheet_69 ⟨_, rfl, h⟩
        · replace h := h.2 c_16
          refine Classical.byCases (p := a2 = (2 : Int32)) (fun c_17 => ?_) (fun c_17 => ?_)
          · replace h := h.1 c_17
            have ec_17 := mte (z := 2) rfl c_17
            refine mz_tableIn (off := 35) (tgt := 70) F dX8_sheet_35 (by omega) (by omega) (by rw [ec_17]; rfl) (by decide) ?_
            refine mz_aload_n F dX8_sheet_70 rfl 0 rfl ?_
            refine mz_getI F dX8_sheet_71 fX8_sheet_152 kq_11 ?_
            exact mz_iret F dX8_sheet_74 ⟨_, rfl, h⟩
          · replace h := h.2 c_17
            have nc_15 := mtn (z := 0) rfl c_15
            have nc_16 := mtn (z := 1) rfl c_16
            have nc_17 := mtn (z := 2) rfl c_17
            refine mz_tableOut (tgt := 75) F dX8_sheet_35 (by omega) (by decide) ?_
            refine mz_aload_n F dX8_sheet_75 rfl 0 rfl ?_
            refine mz_callVN (As := []) (n := 0) F dX8_sheet_76 rfl kq_11 rfl rfl gX8_sheet_X4_countKnown_n153 nwM8_153 mX8_sheet_iniX4_countKnown mX8_sheet_imX4_countKnown mX8_sheet_seX4_countKnown (by decide +kernel) (by decide) rfl (Nat.le_of_ble_eq_true rfl) (kX4_countKnown _ G kq_11 h) (mz_kI fun r_14 u_13 h hx_12 => ?_)
            exact mz_iret F dX8_sheet_79 ⟨_, rfl, h⟩
    · replace h := h.1 c_19
      refine mz_iconst (v := (-1)) F dX8_sheet_22 (by decide) ?_
      exact mz_iret F dX8_sheet_23 ⟨_, rfl, h⟩
set_option maxRecDepth 100000 in
theorem kX8_sheet (l : Launch) (G : mG) {u : mSt} {K : Int32 → mSt → Prop} {this : Nat} {a1 : Int32} {a2 : Int32} (kthis : mK u this = 9) (h : bX8_sheet this a1 a2 u K) : mCt l G yX8_sheet wsX8_sheet 1 22 [.ref (G.1 + this), .int a1, .int a2] u (mPi K) := by
  refine mCt.of (cc := cX8_sheet) (maxL := 4) (ret := (some .int)) (by decide) rfl (Nat.le_of_ble_eq_true rfl) ?_
  intro X hl hN F
  exact tX8_sheet F hN kthis h
/-! RoomMapper.isPlace(II)Z -/
theorem wiX8_isPlace_8 : ∀ w ∈ u_ws RX8 TX8 9, w ∈ wsX8_isPlace := by decide +kernel
theorem fX8_isPlace_26 : mFld wsX8_isPlace RX8 26 9 2 1 (.object "RoomMapper$Atlas") true := ⟨8, _, RX8, TX8, 9, tyX8, rfl, rfl, rfl, by decide, wiX8_isPlace_8, tyX8_ok, nmX8, rfl, rfl, Or.inl ⟨by decide +kernel, fun _ => rfl⟩⟩
theorem wiX8_isPlace_0 : ∀ w ∈ u_ws RX0 TX0 6, w ∈ wsX8_isPlace := by decide +kernel
theorem fX8_isPlace_139 : mFld wsX8_isPlace RX8 139 1 2 0 .int false := ⟨0, _, RX0, TX0, 6, tyX0, rfl, rfl, rfl, by decide, wiX8_isPlace_0, tyX0_ok, nmX0, rfl, rfl, Or.inr ⟨"RoomMapper", nwF8_139⟩⟩
theorem fX8_isPlace_142 : mFld wsX8_isPlace RX8 142 1 0 11 (.array (.object "RoomMapper$Sheet")) false := ⟨0, _, RX0, TX0, 6, tyX0, rfl, rfl, rfl, by decide, wiX8_isPlace_0, tyX0_ok, nmX0, rfl, rfl, Or.inr ⟨"RoomMapper", nwF8_142⟩⟩
theorem wiX8_isPlace_4 : ∀ w ∈ u_ws RX4 TX4 5, w ∈ wsX8_isPlace := by decide +kernel
theorem fX8_isPlace_146 : mFld wsX8_isPlace RX8 146 5 2 0 .int false := ⟨4, _, RX4, TX4, 5, tyX4, rfl, rfl, rfl, by decide, wiX8_isPlace_4, tyX4_ok, nmX4, rfl, rfl, Or.inr ⟨"RoomMapper", nwF8_146⟩⟩
def bX8_isPlace (this : Nat) (a1 : Int32) (a2 : Int32) (u : mSt) (K : Int32 → mSt → Prop) : Prop := (∃ q_1, mR u this 2 = some q_1 ∧ bX8_within a1 (mI u q_1 2) u (fun r_4 u_3 => ((r_4 = 0 → K (0 : Int32) u_3) ∧ (¬ (r_4 = 0) → (∃ q_5, mR u_3 this 2 = some q_5 ∧ (∃ q_6, mR u_3 q_5 0 = some q_6 ∧ (vp_in a1 151 ∧ ∃ q_8, mR u_3 q_6 a1.toNatClampNeg = some q_8 ∧ bX8_within a2 (mI u_3 q_8 2) u_3 (fun r_11 u_10 => ((r_11 = 0 → K (0 : Int32) u_10) ∧ (¬ (r_11 = 0) → K (1 : Int32) u_10))))))))))
set_option maxRecDepth 100000 in
set_option maxHeartbeats 4000000 in
theorem tX8_isPlace {X : mCx} {G : mG} {u0 : mSt} {K : Int32 → mSt → Prop} (F : mFx X G cX8_isPlace wsX8_isPlace RX8 "isPlace" 1 21 (some .boolean) u0 (mPz K)) (hN : X.2.2.2.2.2.2.2.2.2.2.2.2.1 = 3) {this : Nat} {a1 : Int32} {a2 : Int32} {u : mSt} (kthis : mK u this = 9) (h : bX8_isPlace this a1 a2 u K) : mZ X u 0 [(0, .ref (G.1 + this)), (1, .int a1), (2, .int a2)] [] := by
  refine mz_iload_n F dX8_isPlace_0 rfl 1 rfl ?_
  refine mz_aload_n F dX8_isPlace_1 rfl 0 rfl ?_
  obtain ⟨q_1, eq_1, h⟩ := h
  refine mz_getR F dX8_isPlace_2 fX8_isPlace_26 (by decide) kthis eq_1 (fun kq_1 => ?_)
  refine mz_getI F dX8_isPlace_5 fX8_isPlace_139 kq_1 ?_
  refine mz_callS (As := [_, _]) (n := 2) F dX8_isPlace_8 rfl gX8_isPlace_X8_within (by decide +kernel) (by decide) rfl (Nat.le_of_ble_eq_true rfl) (kX8_within _ G h) (mz_kZ fun r_4 u_3 br_4 h hx_2 => ?_)
  replace kthis := hx_2.2.2 _ _ (by decide) kthis
  refine mz_if_eq (tgt := 37) F dX8_isPlace_11 (by decide) (fun c_13 => ?_) (fun c_13 => ?_)
  · replace h := h.1 c_13
    refine mz_iconst (v := 0) F dX8_isPlace_37 (by decide) ?_
    exact mz_zret F dX8_isPlace_38 rfl ⟨_, rfl, by decide, h⟩
  · replace h := h.2 c_13
    refine mz_iload_n F dX8_isPlace_14 rfl 2 rfl ?_
    refine mz_aload_n F dX8_isPlace_15 rfl 0 rfl ?_
    obtain ⟨q_5, eq_5, h⟩ := h
    refine mz_getR F dX8_isPlace_16 fX8_isPlace_26 (by decide) kthis eq_5 (fun kq_5 => ?_)
    obtain ⟨q_6, eq_6, h⟩ := h
    refine mz_getR F dX8_isPlace_19 fX8_isPlace_142 (by decide) kq_5 eq_6 (fun kq_6 => ?_)
    refine mz_iload_n F dX8_isPlace_22 rfl 1 rfl ?_
    obtain ⟨b_7, q_8, eq_8, h⟩ := h
    refine mz_aald4 F dX8_isPlace_23 kq_6 rfl (by decide) b_7 eq_8 (fun kq_8 => ?_)
    refine mz_getI F dX8_isPlace_24 fX8_isPlace_146 kq_8 ?_
    refine mz_callS (As := [_, _]) (n := 2) F dX8_isPlace_27 rfl gX8_isPlace_X8_within (by decide +kernel) (by decide) rfl (Nat.le_of_ble_eq_true rfl) (kX8_within _ G h) (mz_kZ fun r_11 u_10 br_11 h hx_9 => ?_)
    refine mz_if_eq (tgt := 37) F dX8_isPlace_30 (by decide) (fun c_12 => ?_) (fun c_12 => ?_)
    · replace h := h.1 c_12
      refine mz_iconst (v := 0) F dX8_isPlace_37 (by decide) ?_
      exact mz_zret F dX8_isPlace_38 rfl ⟨_, rfl, by decide, h⟩
    · replace h := h.2 c_12
      refine mz_iconst (v := 1) F dX8_isPlace_33 (by decide) ?_
      refine mz_goto (tgt := 38) F dX8_isPlace_34 (by decide) ?_
      exact mz_zret F dX8_isPlace_38 rfl ⟨_, rfl, by decide, h⟩
set_option maxRecDepth 100000 in
theorem kX8_isPlace (l : Launch) (G : mG) {u : mSt} {K : Int32 → mSt → Prop} {this : Nat} {a1 : Int32} {a2 : Int32} (kthis : mK u this = 9) (h : bX8_isPlace this a1 a2 u K) : mCt l G yX8_isPlace wsX8_isPlace 1 21 [.ref (G.1 + this), .int a1, .int a2] u (mPz K) := by
  refine mCt.of (cc := cX8_isPlace) (maxL := 3) (ret := (some .boolean)) (by decide) rfl (Nat.le_of_ble_eq_true rfl) ?_
  intro X hl hN F
  exact tX8_isPlace F hN kthis h
/-! RoomMapper.leads(III)I -/
theorem wiX8_leads_8 : ∀ w ∈ u_ws RX8 TX8 9, w ∈ wsX8_leads := by decide +kernel
theorem fX8_leads_26 : mFld wsX8_leads RX8 26 9 2 1 (.object "RoomMapper$Atlas") true := ⟨8, _, RX8, TX8, 9, tyX8, rfl, rfl, rfl, by decide, wiX8_leads_8, tyX8_ok, nmX8, rfl, rfl, Or.inl ⟨by decide +kernel, fun _ => rfl⟩⟩
theorem wiX8_leads_0 : ∀ w ∈ u_ws RX0 TX0 6, w ∈ wsX8_leads := by decide +kernel
theorem fX8_leads_142 : mFld wsX8_leads RX8 142 1 0 11 (.array (.object "RoomMapper$Sheet")) false := ⟨0, _, RX0, TX0, 6, tyX0, rfl, rfl, rfl, by decide, wiX8_leads_0, tyX0_ok, nmX0, rfl, rfl, Or.inr ⟨"RoomMapper", nwF8_142⟩⟩
theorem mX8_leads_iniX4_leadFrom : Cond.initialized yX4_leadFrom.cls ∈ wsX8_leads := by decide +kernel
theorem mX8_leads_imX4_leadFrom : Cond.instanceMethod yX4_leadFrom ∈ wsX8_leads := by decide +kernel
theorem mX8_leads_seX4_leadFrom : Cond.selects RX4 yX4_leadFrom yX4_leadFrom ∈ wsX8_leads := by decide +kernel
def bX8_leads (this : Nat) (a1 : Int32) (a2 : Int32) (a3 : Int32) (u : mSt) (K : Int32 → mSt → Prop) : Prop := bX8_isPlace this a1 a2 u (fun r_3 u_2 => ((r_3 = 0 → K (-1 : Int32) u_2) ∧ (¬ (r_3 = 0) → bX8_within a3 (5 : Int32) u_2 (fun r_6 u_5 => ((r_6 = 0 → K (-1 : Int32) u_5) ∧ (¬ (r_6 = 0) → (∃ q_7, mR u_5 this 2 = some q_7 ∧ (∃ q_8, mR u_5 q_7 0 = some q_8 ∧ (vp_in a1 151 ∧ ∃ q_10, mR u_5 q_8 a1.toNatClampNeg = some q_10 ∧ bX4_leadFrom q_10 a2 a3 u_5 (fun r_13 u_12 => K r_13 u_12))))))))))
set_option maxRecDepth 100000 in
set_option maxHeartbeats 4000000 in
theorem tX8_leads {X : mCx} {G : mG} {u0 : mSt} {K : Int32 → mSt → Prop} (F : mFx X G cX8_leads wsX8_leads RX8 "leads" 2 43 (some .int) u0 (mPi K)) (hN : X.2.2.2.2.2.2.2.2.2.2.2.2.1 = 4) {this : Nat} {a1 : Int32} {a2 : Int32} {a3 : Int32} {u : mSt} (kthis : mK u this = 9) (h : bX8_leads this a1 a2 a3 u K) : mZ X u 0 [(0, .ref (G.1 + this)), (1, .int a1), (2, .int a2), (3, .int a3)] [] := by
  refine mz_aload_n F dX8_leads_0 rfl 0 rfl ?_
  refine mz_iload_n F dX8_leads_1 rfl 1 rfl ?_
  refine mz_iload_n F dX8_leads_2 rfl 2 rfl ?_
  refine mz_callV (As := [_, _]) (n := 2) F dX8_leads_3 rfl kthis rfl rfl gX8_leads_X8_isPlace (by decide +kernel) (by decide) rfl (Nat.le_of_ble_eq_true rfl) (kX8_isPlace _ G kthis h) (mz_kZ fun r_3 u_2 br_3 h hx_1 => ?_)
  replace kthis := hx_1.2.2 _ _ (by decide) kthis
  refine mz_if_eq (tgt := 17) F dX8_leads_6 (by decide) (fun c_15 => ?_) (fun c_15 => ?_)
  · replace h := h.1 c_15
    refine mz_iconst (v := (-1)) F dX8_leads_17 (by decide) ?_
    exact mz_iret F dX8_leads_18 ⟨_, rfl, h⟩
  · replace h := h.2 c_15
    refine mz_iload_n F dX8_leads_9 rfl 3 rfl ?_
    refine mz_iconst (v := 5) F dX8_leads_10 (by decide) ?_
    refine mz_callS (As := [_, _]) (n := 2) F dX8_leads_11 rfl gX8_leads_X8_within (by decide +kernel) (by decide) rfl (Nat.le_of_ble_eq_true rfl) (kX8_within _ G h) (mz_kZ fun r_6 u_5 br_6 h hx_4 => ?_)
    replace kthis := hx_4.2.2 _ _ (by decide) kthis
    refine mz_if_ne (tgt := 19) F dX8_leads_14 (by decide) (fun c_14 => ?_) (fun c_14 => ?_)
    · replace h := h.2 c_14
      refine mz_aload_n F dX8_leads_19 rfl 0 rfl ?_
      obtain ⟨q_7, eq_7, h⟩ := h
      refine mz_getR F dX8_leads_20 fX8_leads_26 (by decide) kthis eq_7 (fun kq_7 => ?_)
      obtain ⟨q_8, eq_8, h⟩ := h
      refine mz_getR F dX8_leads_23 fX8_leads_142 (by decide) kq_7 eq_8 (fun kq_8 => ?_)
      refine mz_iload_n F dX8_leads_26 rfl 1 rfl ?_
      obtain ⟨b_9, q_10, eq_10, h⟩ := h
      refine mz_aald4 F dX8_leads_27 kq_8 rfl (by decide) b_9 eq_10 (fun kq_10 => ?_)
      refine mz_iload_n F dX8_leads_28 rfl 2 rfl ?_
      refine mz_iload_n F dX8_leads_29 rfl 3 rfl ?_
      refine mz_callVN (As := [_, _]) (n := 2) F dX8_leads_30 rfl kq_10 rfl rfl gX8_leads_X4_leadFrom_n159 nwM8_159 mX8_leads_iniX4_leadFrom mX8_leads_imX4_leadFrom mX8_leads_seX4_leadFrom (by decide +kernel) (by decide) rfl (Nat.le_of_ble_eq_true rfl) (kX4_leadFrom _ G kq_10 h) (mz_kI fun r_13 u_12 h hx_11 => ?_)
      exact mz_iret F dX8_leads_33 ⟨_, rfl, h⟩
    · replace h := h.1 c_14
      refine mz_iconst (v := (-1)) F dX8_leads_17 (by decide) ?_
      exact mz_iret F dX8_leads_18 ⟨_, rfl, h⟩
set_option maxRecDepth 100000 in
theorem kX8_leads (l : Launch) (G : mG) {u : mSt} {K : Int32 → mSt → Prop} {this : Nat} {a1 : Int32} {a2 : Int32} {a3 : Int32} (kthis : mK u this = 9) (h : bX8_leads this a1 a2 a3 u K) : mCt l G yX8_leads wsX8_leads 2 43 [.ref (G.1 + this), .int a1, .int a2, .int a3] u (mPi K) := by
  refine mCt.of (cc := cX8_leads) (maxL := 4) (ret := (some .int)) (by decide) rfl (Nat.le_of_ble_eq_true rfl) ?_
  intro X hl hN F
  exact tX8_leads F hN kthis h
/-! RoomMapper.sign(II)I -/
theorem wiX8_sign_8 : ∀ w ∈ u_ws RX8 TX8 9, w ∈ wsX8_sign := by decide +kernel
theorem fX8_sign_26 : mFld wsX8_sign RX8 26 9 2 1 (.object "RoomMapper$Atlas") true := ⟨8, _, RX8, TX8, 9, tyX8, rfl, rfl, rfl, by decide, wiX8_sign_8, tyX8_ok, nmX8, rfl, rfl, Or.inl ⟨by decide +kernel, fun _ => rfl⟩⟩
theorem wiX8_sign_0 : ∀ w ∈ u_ws RX0 TX0 6, w ∈ wsX8_sign := by decide +kernel
theorem fX8_sign_142 : mFld wsX8_sign RX8 142 1 0 11 (.array (.object "RoomMapper$Sheet")) false := ⟨0, _, RX0, TX0, 6, tyX0, rfl, rfl, rfl, by decide, wiX8_sign_0, tyX0_ok, nmX0, rfl, rfl, Or.inr ⟨"RoomMapper", nwF8_142⟩⟩
theorem wiX8_sign_4 : ∀ w ∈ u_ws RX4 TX4 5, w ∈ wsX8_sign := by decide +kernel
theorem fX8_sign_163 : mFld wsX8_sign RX8 163 5 0 17 (.array .int) true := ⟨4, _, RX4, TX4, 5, tyX4, rfl, rfl, rfl, by decide, wiX8_sign_4, tyX4_ok, nmX4, rfl, rfl, Or.inr ⟨"RoomMapper", nwF8_163⟩⟩
def bX8_sign (this : Nat) (a1 : Int32) (a2 : Int32) (u : mSt) (K : Int32 → mSt → Prop) : Prop := bX8_isPlace this a1 a2 u (fun r_3 u_2 => ((r_3 = 0 → K (-1 : Int32) u_2) ∧ (¬ (r_3 = 0) → (∃ q_4, mR u_2 this 2 = some q_4 ∧ (∃ q_5, mR u_2 q_4 0 = some q_5 ∧ (vp_in a1 151 ∧ ∃ q_7, mR u_2 q_5 a1.toNatClampNeg = some q_7 ∧ (∃ q_8, mR u_2 q_7 0 = some q_8 ∧ (vp_in a2 6 ∧ K (mI u_2 q_8 a2.toNatClampNeg) u_2))))))))
set_option maxRecDepth 100000 in
set_option maxHeartbeats 4000000 in
theorem tX8_sign {X : mCx} {G : mG} {u0 : mSt} {K : Int32 → mSt → Prop} (F : mFx X G cX8_sign wsX8_sign RX8 "sign" 2 43 (some .int) u0 (mPi K)) (hN : X.2.2.2.2.2.2.2.2.2.2.2.2.1 = 3) {this : Nat} {a1 : Int32} {a2 : Int32} {u : mSt} (kthis : mK u this = 9) (h : bX8_sign this a1 a2 u K) : mZ X u 0 [(0, .ref (G.1 + this)), (1, .int a1), (2, .int a2)] [] := by
  refine mz_aload_n F dX8_sign_0 rfl 0 rfl ?_
  refine mz_iload_n F dX8_sign_1 rfl 1 rfl ?_
  refine mz_iload_n F dX8_sign_2 rfl 2 rfl ?_
  refine mz_callV (As := [_, _]) (n := 2) F dX8_sign_3 rfl kthis rfl rfl gX8_sign_X8_isPlace (by decide +kernel) (by decide) rfl (Nat.le_of_ble_eq_true rfl) (kX8_isPlace _ G kthis h) (mz_kZ fun r_3 u_2 br_3 h hx_1 => ?_)
  replace kthis := hx_1.2.2 _ _ (by decide) kthis
  refine mz_if_eq (tgt := 26) F dX8_sign_6 (by decide) (fun c_10 => ?_) (fun c_10 => ?_)
  · replace h := h.1 c_10
    refine mz_iconst (v := (-1)) F dX8_sign_26 (by decide) ?_
    exact mz_iret F dX8_sign_27 ⟨_, rfl, h⟩
  · replace h := h.2 c_10
    refine mz_aload_n F dX8_sign_9 rfl 0 rfl ?_
    obtain ⟨q_4, eq_4, h⟩ := h
    refine mz_getR F dX8_sign_10 fX8_sign_26 (by decide) kthis eq_4 (fun kq_4 => ?_)
    obtain ⟨q_5, eq_5, h⟩ := h
    refine mz_getR F dX8_sign_13 fX8_sign_142 (by decide) kq_4 eq_5 (fun kq_5 => ?_)
    refine mz_iload_n F dX8_sign_16 rfl 1 rfl ?_
    obtain ⟨b_6, q_7, eq_7, h⟩ := h
    refine mz_aald4 F dX8_sign_17 kq_5 rfl (by decide) b_6 eq_7 (fun kq_7 => ?_)
    obtain ⟨q_8, eq_8, h⟩ := h
    refine mz_getR F dX8_sign_18 fX8_sign_163 (by decide) kq_7 eq_8 (fun kq_8 => ?_)
    refine mz_iload_n F dX8_sign_21 rfl 2 rfl ?_
    obtain ⟨b_9, h⟩ := h
    refine mz_iald F dX8_sign_22 kq_8 rfl b_9 ?_
    refine mz_goto (tgt := 27) F dX8_sign_23 (by decide) ?_
    exact mz_iret F dX8_sign_27 ⟨_, rfl, h⟩
set_option maxRecDepth 100000 in
theorem kX8_sign (l : Launch) (G : mG) {u : mSt} {K : Int32 → mSt → Prop} {this : Nat} {a1 : Int32} {a2 : Int32} (kthis : mK u this = 9) (h : bX8_sign this a1 a2 u K) : mCt l G yX8_sign wsX8_sign 2 43 [.ref (G.1 + this), .int a1, .int a2] u (mPi K) := by
  refine mCt.of (cc := cX8_sign) (maxL := 3) (ret := (some .int)) (by decide) rfl (Nat.le_of_ble_eq_true rfl) ?_
  intro X hl hN F
  exact tX8_sign F hN kthis h
/-! RoomMapper.isExplored(LRoomMapper$Sheet;)Z -/
theorem mX8_isExplored_iniX4_leadFrom : Cond.initialized yX4_leadFrom.cls ∈ wsX8_isExplored := by decide +kernel
theorem mX8_isExplored_imX4_leadFrom : Cond.instanceMethod yX4_leadFrom ∈ wsX8_isExplored := by decide +kernel
theorem mX8_isExplored_seX4_leadFrom : Cond.selects RX4 yX4_leadFrom yX4_leadFrom ∈ wsX8_isExplored := by decide +kernel
theorem wiX8_isExplored_8 : ∀ w ∈ u_ws RX8 TX8 9, w ∈ wsX8_isExplored := by decide +kernel
theorem fX8_isExplored_54 : mFld wsX8_isExplored RX8 54 9 6 7 (.object "RoomMapper$Todo") true := ⟨8, _, RX8, TX8, 9, tyX8, rfl, rfl, rfl, by decide, wiX8_isExplored_8, tyX8_ok, nmX8, rfl, rfl, Or.inl ⟨by decide +kernel, fun _ => rfl⟩⟩
theorem mX8_isExplored_iniX4_placeAfter : Cond.initialized yX4_placeAfter.cls ∈ wsX8_isExplored := by decide +kernel
theorem mX8_isExplored_imX4_placeAfter : Cond.instanceMethod yX4_placeAfter ∈ wsX8_isExplored := by decide +kernel
theorem mX8_isExplored_seX4_placeAfter : Cond.selects RX4 yX4_placeAfter yX4_placeAfter ∈ wsX8_isExplored := by decide +kernel
theorem mX8_isExplored_iniX6_addOnce : Cond.initialized yX6_addOnce.cls ∈ wsX8_isExplored := by decide +kernel
theorem mX8_isExplored_imX6_addOnce : Cond.instanceMethod yX6_addOnce ∈ wsX8_isExplored := by decide +kernel
theorem mX8_isExplored_seX6_addOnce : Cond.selects RX6 yX6_addOnce yX6_addOnce ∈ wsX8_isExplored := by decide +kernel
theorem wiX8_isExplored_6 : ∀ w ∈ u_ws RX6 TX6 3, w ∈ wsX8_isExplored := by decide +kernel
theorem fX8_isExplored_227 : mFld wsX8_isExplored RX8 227 7 2 0 .int false := ⟨6, _, RX6, TX6, 3, tyX6, rfl, rfl, rfl, by decide, wiX8_isExplored_6, tyX6_ok, nmX6, rfl, rfl, Or.inr ⟨"RoomMapper", nwF8_227⟩⟩
theorem fX8_isExplored_230 : mFld wsX8_isExplored RX8 230 7 0 20 (.array .int) true := ⟨6, _, RX6, TX6, 3, tyX6, rfl, rfl, rfl, by decide, wiX8_isExplored_6, tyX6_ok, nmX6, rfl, rfl, Or.inr ⟨"RoomMapper", nwF8_230⟩⟩
theorem mX8_isExplored_iniX6_clear : Cond.initialized yX6_clear.cls ∈ wsX8_isExplored := by decide +kernel
theorem mX8_isExplored_imX6_clear : Cond.instanceMethod yX6_clear ∈ wsX8_isExplored := by decide +kernel
theorem mX8_isExplored_seX6_clear : Cond.selects RX6 yX6_clear yX6_clear ∈ wsX8_isExplored := by decide +kernel
theorem wiX8_isExplored_4 : ∀ w ∈ u_ws RX4 TX4 5, w ∈ wsX8_isExplored := by decide +kernel
theorem fX8_isExplored_149 : mFld wsX8_isExplored RX8 149 5 3 0 .int false := ⟨4, _, RX4, TX4, 5, tyX4, rfl, rfl, rfl, by decide, wiX8_isExplored_4, tyX4_ok, nmX4, rfl, rfl, Or.inr ⟨"RoomMapper", nwF8_149⟩⟩
def bX8_isExplored_50 : Nat → Nat → Nat → Int32 → Int32 → Int32 → mSt → (Int32 → mSt → Prop) → (Nat → Nat → Int32 → mSt → Prop) → Prop
  | 0, _, _, _, _, _, _, _, _ => False
  | n + 1, v0, v1, v2, v3, v4, u, K, KL20 => (((5 : Int32) ≤ v4 → (∀ x_1, x_1 = v2 + (1 : Int32) → KL20 v0 v1 x_1 u)) ∧ (¬ ((5 : Int32) ≤ v4) → bX4_leadFrom v1 v3 v4 u (fun r_4 u_3 => ((r_4 = (-3 : Int32) → K (0 : Int32) u_3) ∧ (¬ (r_4 = (-3 : Int32)) → (∃ q_5, mR u_3 v0 6 = some q_5 ∧ bX4_placeAfter v1 v3 v4 u_3 (fun r_8 u_7 => bX6_addOnce q_5 r_8 u_7 (fun u_10 => (∀ x_11, x_11 = v4 + (1 : Int32) → bX8_isExplored_50 n v0 v1 v2 v3 x_11 u_10 K KL20)))))))))
set_option maxRecDepth 100000 in
set_option maxHeartbeats 4000000 in
theorem tX8_isExplored_50 {X : mCx} {G : mG} {u0 : mSt} {K : Int32 → mSt → Prop} {KL20 : Nat → Nat → Int32 → mSt → Prop} (F : mFx X G cX8_isExplored wsX8_isExplored RX8 "isExplored" 2 45 (some .boolean) u0 (mPz K)) (hN : X.2.2.2.2.2.2.2.2.2.2.2.2.1 = 5) (hL20 : ∀ {v0 : Nat} {v1 : Nat} {v2 : Int32} {u : mSt}, mK u v0 = 9 → mK u v1 = 5 → KL20 v0 v1 v2 u → mZ X u 20 [(0, .ref (G.1 + v0)), (1, .ref (G.1 + v1)), (2, .int v2)] []) : ∀ (n : Nat) {v0 : Nat} {v1 : Nat} {v2 : Int32} {v3 : Int32} {v4 : Int32} {u : mSt}, mK u v0 = 9 → mK u v1 = 5 → bX8_isExplored_50 n v0 v1 v2 v3 v4 u K KL20 → mZ X u 50 [(0, .ref (G.1 + v0)), (1, .ref (G.1 + v1)), (2, .int v2), (3, .int v3), (4, .int v4)] [] := by
  intro n
  induction n with
  | zero => intro v0 v1 v2 v3 v4 u kv0 kv1 h; exact False.elim h
  | succ n ih =>
    intro v0 v1 v2 v3 v4 u kv0 kv1 h
    refine mz_iload F dX8_isExplored_50 4 rfl ?_
    refine mz_iconst (v := 5) F dX8_isExplored_52 (by decide) ?_
    refine mz_icmp_ge (tgt := 90) F dX8_isExplored_53 (by decide) (fun c_13 => ?_) (fun c_13 => ?_)
    · replace h := h.1 c_13
      obtain ⟨x_1, ex_1⟩ : ∃ y : Int32, y = v2 + (1 : Int32) := ⟨_, rfl⟩
      replace h := h x_1 ex_1
      refine mz_iinc (v := x_1) (lv2 := [(2, .int x_1), (0, .ref (G.1 + v0)), (1, .ref (G.1 + v1)), (3, .int v3), (4, .int v4)]) F dX8_isExplored_90 2 rfl (by rw [ex_1]; rfl) hN (by decide) rfl ?_
      refine mz_goto (tgt := 20) F dX8_isExplored_93 (by decide) ?_
      refine mz_sub [1, 2, 0] rfl ?_
      exact hL20 kv0 kv1 h
    · replace h := h.2 c_13
      refine mz_aload_n F dX8_isExplored_56 rfl 1 rfl ?_
      refine mz_iload_n F dX8_isExplored_57 rfl 3 rfl ?_
      refine mz_iload F dX8_isExplored_58 4 rfl ?_
      refine mz_callVN (As := [_, _]) (n := 2) F dX8_isExplored_60 rfl kv1 rfl rfl gX8_isExplored_X4_leadFrom_n159 nwM8_159 mX8_isExplored_iniX4_leadFrom mX8_isExplored_imX4_leadFrom mX8_isExplored_seX4_leadFrom (by decide +kernel) (by decide) rfl (Nat.le_of_ble_eq_true rfl) (kX4_leadFrom _ G kv1 h) (mz_kI fun r_4 u_3 h hx_2 => ?_)
      replace kv0 := hx_2.2.2 _ _ (by decide) kv0
      replace kv1 := hx_2.2.2 _ _ (by decide) kv1
      refine mz_bipush (v := (-3)) F dX8_isExplored_63 (by decide) ?_
      refine mz_icmp_ne (tgt := 70) F dX8_isExplored_65 (by decide) (fun c_12 => ?_) (fun c_12 => ?_)
      · replace h := h.2 c_12
        refine mz_aload_n F dX8_isExplored_70 rfl 0 rfl ?_
        obtain ⟨q_5, eq_5, h⟩ := h
        refine mz_getR F dX8_isExplored_71 fX8_isExplored_54 (by decide) kv0 eq_5 (fun kq_5 => ?_)
        refine mz_aload_n F dX8_isExplored_74 rfl 1 rfl ?_
        refine mz_iload_n F dX8_isExplored_75 rfl 3 rfl ?_
        refine mz_iload F dX8_isExplored_76 4 rfl ?_
        refine mz_callVN (As := [_, _]) (n := 2) F dX8_isExplored_78 rfl kv1 rfl rfl gX8_isExplored_X4_placeAfter_n302 nwM8_302 mX8_isExplored_iniX4_placeAfter mX8_isExplored_imX4_placeAfter mX8_isExplored_seX4_placeAfter (by decide +kernel) (by decide) rfl (Nat.le_of_ble_eq_true rfl) (kX4_placeAfter _ G kv1 h) (mz_kI fun r_8 u_7 h hx_6 => ?_)
        replace kv0 := hx_6.2.2 _ _ (by decide) kv0
        replace kv1 := hx_6.2.2 _ _ (by decide) kv1
        replace kq_5 := hx_6.2.2 _ _ (by decide) kq_5
        refine mz_callVN (As := [_]) (n := 1) F dX8_isExplored_81 rfl kq_5 rfl rfl gX8_isExplored_X6_addOnce_n223 nwM8_223 mX8_isExplored_iniX6_addOnce mX8_isExplored_imX6_addOnce mX8_isExplored_seX6_addOnce (by decide +kernel) (by decide) rfl (Nat.le_of_ble_eq_true rfl) (kX6_addOnce _ G kq_5 h) (mz_kV fun u_10 h hx_9 => ?_)
        replace kv0 := hx_9.2.2 _ _ (by decide) kv0
        replace kv1 := hx_9.2.2 _ _ (by decide) kv1
        obtain ⟨x_11, ex_11⟩ : ∃ y : Int32, y = v4 + (1 : Int32) := ⟨_, rfl⟩
        replace h := h x_11 ex_11
        refine mz_iinc (v := x_11) (lv2 := [(4, .int x_11), (0, .ref (G.1 + v0)), (1, .ref (G.1 + v1)), (2, .int v2), (3, .int v3)]) F dX8_isExplored_84 4 rfl (by rw [ex_11]; rfl) hN (by decide) rfl ?_
        refine mz_goto (tgt := 50) F dX8_isExplored_87 (by decide) ?_
        refine mz_sub [1, 2, 3, 4, 0] rfl ?_
        exact ih kv0 kv1 h
      · replace h := h.1 c_12
        refine mz_iconst (v := 0) F dX8_isExplored_68 (by decide) ?_
        exact mz_zret F dX8_isExplored_69 rfl ⟨_, rfl, by decide, h⟩
def bX8_isExplored_20 : Nat → Nat → Nat → Int32 → mSt → (Int32 → mSt → Prop) → Prop
  | 0, _, _, _, _, _ => False
  | n + 1, v0, v1, v2, u, K => (∃ q_1, mR u v0 6 = some q_1 ∧ (((mI u q_1 2) ≤ v2 → K (1 : Int32) u) ∧ (¬ ((mI u q_1 2) ≤ v2) → (((6 : Int32) ≤ v2 → K (1 : Int32) u) ∧ (¬ ((6 : Int32) ≤ v2) → (∃ q_2, mR u v0 6 = some q_2 ∧ (∃ q_3, mR u q_2 0 = some q_3 ∧ (vp_in v2 480 ∧ (∀ x_5, x_5 = (mI u q_3 v2.toNatClampNeg) → (∃ n9, bX8_isExplored_50 n9 v0 v1 v2 x_5 (0 : Int32) u K (fun z0 z1 z2 z3 => bX8_isExplored_20 n z0 z1 z2 z3 K)))))))))))
set_option maxRecDepth 100000 in
set_option maxHeartbeats 4000000 in
theorem tX8_isExplored_20 {X : mCx} {G : mG} {u0 : mSt} {K : Int32 → mSt → Prop} (F : mFx X G cX8_isExplored wsX8_isExplored RX8 "isExplored" 2 45 (some .boolean) u0 (mPz K)) (hN : X.2.2.2.2.2.2.2.2.2.2.2.2.1 = 5) : ∀ (n : Nat) {v0 : Nat} {v1 : Nat} {v2 : Int32} {u : mSt}, mK u v0 = 9 → mK u v1 = 5 → bX8_isExplored_20 n v0 v1 v2 u K → mZ X u 20 [(0, .ref (G.1 + v0)), (1, .ref (G.1 + v1)), (2, .int v2)] [] := by
  intro n
  induction n with
  | zero => intro v0 v1 v2 u kv0 kv1 h; exact False.elim h
  | succ n ih =>
    intro v0 v1 v2 u kv0 kv1 h
    refine mz_iload_n F dX8_isExplored_20 rfl 2 rfl ?_
    refine mz_aload_n F dX8_isExplored_21 rfl 0 rfl ?_
    obtain ⟨q_1, eq_1, h⟩ := h
    refine mz_getR F dX8_isExplored_22 fX8_isExplored_54 (by decide) kv0 eq_1 (fun kq_1 => ?_)
    refine mz_getI F dX8_isExplored_25 fX8_isExplored_227 kq_1 ?_
    refine mz_icmp_ge (tgt := 96) F dX8_isExplored_28 (by decide) (fun c_7 => ?_) (fun c_7 => ?_)
    · replace h := h.1 c_7
      refine mz_iconst (v := 1) F dX8_isExplored_96 (by decide) ?_
      exact mz_zret F dX8_isExplored_97 rfl ⟨_, rfl, by decide, h⟩
    · replace h := h.2 c_7
      refine mz_iload_n F dX8_isExplored_31 rfl 2 rfl ?_
      refine mz_bipush (v := 6) F dX8_isExplored_32 (by decide) ?_
      refine mz_icmp_ge (tgt := 96) F dX8_isExplored_34 (by decide) (fun c_6 => ?_) (fun c_6 => ?_)
      · replace h := h.1 c_6
        refine mz_iconst (v := 1) F dX8_isExplored_96 (by decide) ?_
        exact mz_zret F dX8_isExplored_97 rfl ⟨_, rfl, by decide, h⟩
      · replace h := h.2 c_6
        refine mz_aload_n F dX8_isExplored_37 rfl 0 rfl ?_
        obtain ⟨q_2, eq_2, h⟩ := h
        refine mz_getR F dX8_isExplored_38 fX8_isExplored_54 (by decide) kv0 eq_2 (fun kq_2 => ?_)
        obtain ⟨q_3, eq_3, h⟩ := h
        refine mz_getR F dX8_isExplored_41 fX8_isExplored_230 (by decide) kq_2 eq_3 (fun kq_3 => ?_)
        refine mz_iload_n F dX8_isExplored_44 rfl 2 rfl ?_
        obtain ⟨b_4, h⟩ := h
        refine mz_iald F dX8_isExplored_45 kq_3 rfl b_4 ?_
        refine mz_topi (fun x_5 ex_5 => ?_)
        replace h := h x_5 ex_5
        refine mz_istore_n (lv2 := [(3, .int x_5), (0, .ref (G.1 + v0)), (1, .ref (G.1 + v1)), (2, .int v2)]) F dX8_isExplored_46 rfl hN (by decide) rfl ?_
        refine mz_iconst (v := 0) F dX8_isExplored_47 (by decide) ?_
        refine mz_istore (lv2 := [(4, .int (0 : Int32)), (3, .int x_5), (0, .ref (G.1 + v0)), (1, .ref (G.1 + v1)), (2, .int v2)]) F dX8_isExplored_48 hN (by decide) rfl ?_
        refine mz_sub [2, 3, 4, 1, 0] rfl ?_
        obtain ⟨n9, h⟩ := h
        exact tX8_isExplored_50 F hN (fun k0 k1 h => ih k0 k1 h) n9 kv0 kv1 h
def bX8_isExplored (this : Nat) (a1 : Nat) (u : mSt) (K : Int32 → mSt → Prop) : Prop := (∃ q_1, mR u this 6 = some q_1 ∧ bX6_clear q_1 u (fun u_3 => (∃ q_4, mR u_3 this 6 = some q_4 ∧ bX6_addOnce q_4 (mI u_3 a1 3) u_3 (fun u_6 => (∃ n9, bX8_isExplored_20 n9 this a1 (0 : Int32) u_6 K)))))
set_option maxRecDepth 100000 in
set_option maxHeartbeats 4000000 in
theorem tX8_isExplored {X : mCx} {G : mG} {u0 : mSt} {K : Int32 → mSt → Prop} (F : mFx X G cX8_isExplored wsX8_isExplored RX8 "isExplored" 2 45 (some .boolean) u0 (mPz K)) (hN : X.2.2.2.2.2.2.2.2.2.2.2.2.1 = 5) {this : Nat} {a1 : Nat} {u : mSt} (kthis : mK u this = 9) (ka1 : mK u a1 = 5) (h : bX8_isExplored this a1 u K) : mZ X u 0 [(0, .ref (G.1 + this)), (1, .ref (G.1 + a1))] [] := by
  refine mz_aload_n F dX8_isExplored_0 rfl 0 rfl ?_
  obtain ⟨q_1, eq_1, h⟩ := h
  refine mz_getR F dX8_isExplored_1 fX8_isExplored_54 (by decide) kthis eq_1 (fun kq_1 => ?_)
  refine mz_callVN (As := []) (n := 0) F dX8_isExplored_4 rfl kq_1 rfl rfl gX8_isExplored_X6_clear_n220 nwM8_220 mX8_isExplored_iniX6_clear mX8_isExplored_imX6_clear mX8_isExplored_seX6_clear (by decide +kernel) (by decide) rfl (Nat.le_of_ble_eq_true rfl) (kX6_clear _ G kq_1 h) (mz_kV fun u_3 h hx_2 => ?_)
  replace kthis := hx_2.2.2 _ _ (by decide) kthis
  replace ka1 := hx_2.2.2 _ _ (by decide) ka1
  refine mz_aload_n F dX8_isExplored_7 rfl 0 rfl ?_
  obtain ⟨q_4, eq_4, h⟩ := h
  refine mz_getR F dX8_isExplored_8 fX8_isExplored_54 (by decide) kthis eq_4 (fun kq_4 => ?_)
  refine mz_aload_n F dX8_isExplored_11 rfl 1 rfl ?_
  refine mz_getI F dX8_isExplored_12 fX8_isExplored_149 ka1 ?_
  refine mz_callVN (As := [_]) (n := 1) F dX8_isExplored_15 rfl kq_4 rfl rfl gX8_isExplored_X6_addOnce_n223 nwM8_223 mX8_isExplored_iniX6_addOnce mX8_isExplored_imX6_addOnce mX8_isExplored_seX6_addOnce (by decide +kernel) (by decide) rfl (Nat.le_of_ble_eq_true rfl) (kX6_addOnce _ G kq_4 h) (mz_kV fun u_6 h hx_5 => ?_)
  replace kthis := hx_5.2.2 _ _ (by decide) kthis
  replace ka1 := hx_5.2.2 _ _ (by decide) ka1
  refine mz_iconst (v := 0) F dX8_isExplored_18 (by decide) ?_
  refine mz_istore_n (lv2 := [(2, .int (0 : Int32)), (0, .ref (G.1 + this)), (1, .ref (G.1 + a1))]) F dX8_isExplored_19 rfl hN (by decide) rfl ?_
  refine mz_sub [1, 2, 0] rfl ?_
  obtain ⟨n9, h⟩ := h
  exact tX8_isExplored_20 F hN n9 kthis ka1 h
set_option maxRecDepth 100000 in
theorem kX8_isExplored (l : Launch) (G : mG) {u : mSt} {K : Int32 → mSt → Prop} {this : Nat} {a1 : Nat} (kthis : mK u this = 9) (ka1 : mK u a1 = 5) (h : bX8_isExplored this a1 u K) : mCt l G yX8_isExplored wsX8_isExplored 2 45 [.ref (G.1 + this), .ref (G.1 + a1)] u (mPz K) := by
  refine mCt.of (cc := cX8_isExplored) (maxL := 5) (ret := (some .boolean)) (by decide) rfl (Nat.le_of_ble_eq_true rfl) ?_
  intro X hl hN F
  exact tX8_isExplored F hN kthis ka1 h
/-! RoomMapper.known()I -/
theorem wiX8_known_8 : ∀ w ∈ u_ws RX8 TX8 9, w ∈ wsX8_known := by decide +kernel
theorem fX8_known_26 : mFld wsX8_known RX8 26 9 2 1 (.object "RoomMapper$Atlas") true := ⟨8, _, RX8, TX8, 9, tyX8, rfl, rfl, rfl, by decide, wiX8_known_8, tyX8_ok, nmX8, rfl, rfl, Or.inl ⟨by decide +kernel, fun _ => rfl⟩⟩
theorem wiX8_known_0 : ∀ w ∈ u_ws RX0 TX0 6, w ∈ wsX8_known := by decide +kernel
theorem fX8_known_139 : mFld wsX8_known RX8 139 1 2 0 .int false := ⟨0, _, RX0, TX0, 6, tyX0, rfl, rfl, rfl, by decide, wiX8_known_0, tyX0_ok, nmX0, rfl, rfl, Or.inr ⟨"RoomMapper", nwF8_139⟩⟩
theorem fX8_known_142 : mFld wsX8_known RX8 142 1 0 11 (.array (.object "RoomMapper$Sheet")) false := ⟨0, _, RX0, TX0, 6, tyX0, rfl, rfl, rfl, by decide, wiX8_known_0, tyX0_ok, nmX0, rfl, rfl, Or.inr ⟨"RoomMapper", nwF8_142⟩⟩
def bX8_known (this : Nat) (u : mSt) (K : Int32 → mSt → Prop) : Prop := bX8_unmapped this u (fun r_3 u_2 => ((r_3 = 0 → (∃ q_4, mR u_2 this 2 = some q_4 ∧ (((mI u_2 q_4 2) = (1 : Int32) → (∃ q_5, mR u_2 this 2 = some q_5 ∧ (∃ q_6, mR u_2 q_5 0 = some q_6 ∧ (vp_in (0 : Int32) 151 ∧ ∃ q_8, mR u_2 q_6 (0 : Int32).toNatClampNeg = some q_8 ∧ bX8_isExplored this q_8 u_2 (fun r_11 u_10 => ((r_11 = 0 → K (0 : Int32) u_10) ∧ (¬ (r_11 = 0) → K (1 : Int32) u_10))))))) ∧ (¬ ((mI u_2 q_4 2) = (1 : Int32)) → K (0 : Int32) u_2)))) ∧ (¬ (r_3 = 0) → K r_3 u_2)))
set_option maxRecDepth 100000 in
set_option maxHeartbeats 4000000 in
theorem tX8_known {X : mCx} {G : mG} {u0 : mSt} {K : Int32 → mSt → Prop} (F : mFx X G cX8_known wsX8_known RX8 "known" 3 69 (some .int) u0 (mPi K)) (hN : X.2.2.2.2.2.2.2.2.2.2.2.2.1 = 2) {this : Nat} {u : mSt} (kthis : mK u this = 9) (h : bX8_known this u K) : mZ X u 0 [(0, .ref (G.1 + this))] [] := by
  refine mz_aload_n F dX8_known_0 rfl 0 rfl ?_
  refine mz_callV (As := []) (n := 0) F dX8_known_1 rfl kthis rfl rfl gX8_known_X8_unmapped (by decide +kernel) (by decide) rfl (Nat.le_of_ble_eq_true rfl) (kX8_unmapped _ G kthis h) (mz_kI fun r_3 u_2 h hx_1 => ?_)
  replace kthis := hx_1.2.2 _ _ (by decide) kthis
  refine mz_istore_n (lv2 := [(1, .int r_3), (0, .ref (G.1 + this))]) F dX8_known_4 rfl hN (by decide) rfl ?_
  refine mz_iload_n F dX8_known_5 rfl 0 rfl ?_
  refine mz_if_eq (tgt := 11) F dX8_known_6 (by decide) (fun c_14 => ?_) (fun c_14 => ?_)
  · replace h := h.1 c_14
    refine mz_aload_n F dX8_known_11 rfl 1 rfl ?_
    obtain ⟨q_4, eq_4, h⟩ := h
    refine mz_getR F dX8_known_12 fX8_known_26 (by decide) kthis eq_4 (fun kq_4 => ?_)
    refine mz_getI F dX8_known_15 fX8_known_139 kq_4 ?_
    refine mz_iconst (v := 1) F dX8_known_18 (by decide) ?_
    refine mz_icmp_ne (tgt := 42) F dX8_known_19 (by decide) (fun c_13 => ?_) (fun c_13 => ?_)
    · replace h := h.2 c_13
      refine mz_iconst (v := 0) F dX8_known_42 (by decide) ?_
      exact mz_iret F dX8_known_43 ⟨_, rfl, h⟩
    · replace h := h.1 c_13
      refine mz_aload_n F dX8_known_22 rfl 1 rfl ?_
      refine mz_aload_n F dX8_known_23 rfl 1 rfl ?_
      obtain ⟨q_5, eq_5, h⟩ := h
      refine mz_getR F dX8_known_24 fX8_known_26 (by decide) kthis eq_5 (fun kq_5 => ?_)
      obtain ⟨q_6, eq_6, h⟩ := h
      refine mz_getR F dX8_known_27 fX8_known_142 (by decide) kq_5 eq_6 (fun kq_6 => ?_)
      refine mz_iconst (v := 0) F dX8_known_30 (by decide) ?_
      obtain ⟨b_7, q_8, eq_8, h⟩ := h
      refine mz_aald4 F dX8_known_31 kq_6 rfl (by decide) b_7 eq_8 (fun kq_8 => ?_)
      refine mz_callV (As := [_]) (n := 1) F dX8_known_32 rfl kthis rfl rfl gX8_known_X8_isExplored (by decide +kernel) (by decide) rfl (Nat.le_of_ble_eq_true rfl) (kX8_isExplored _ G kthis kq_8 h) (mz_kZ fun r_11 u_10 br_11 h hx_9 => ?_)
      refine mz_if_eq (tgt := 42) F dX8_known_35 (by decide) (fun c_12 => ?_) (fun c_12 => ?_)
      · replace h := h.1 c_12
        refine mz_iconst (v := 0) F dX8_known_42 (by decide) ?_
        exact mz_iret F dX8_known_43 ⟨_, rfl, h⟩
      · replace h := h.2 c_12
        refine mz_iconst (v := 1) F dX8_known_38 (by decide) ?_
        refine mz_goto (tgt := 43) F dX8_known_39 (by decide) ?_
        exact mz_iret F dX8_known_43 ⟨_, rfl, h⟩
  · replace h := h.2 c_14
    refine mz_iload_n F dX8_known_9 rfl 0 rfl ?_
    exact mz_iret F dX8_known_10 ⟨_, rfl, h⟩
set_option maxRecDepth 100000 in
theorem kX8_known (l : Launch) (G : mG) {u : mSt} {K : Int32 → mSt → Prop} {this : Nat} (kthis : mK u this = 9) (h : bX8_known this u K) : mCt l G yX8_known wsX8_known 3 69 [.ref (G.1 + this)] u (mPi K) := by
  refine mCt.of (cc := cX8_known) (maxL := 2) (ret := (some .int)) (by decide) rfl (Nat.le_of_ble_eq_true rfl) ?_
  intro X hl hN F
  exact tX8_known F hN kthis h
/-! RoomMapper.unsheeted()I -/
theorem wiX8_unsheeted_8 : ∀ w ∈ u_ws RX8 TX8 9, w ∈ wsX8_unsheeted := by decide +kernel
theorem fX8_unsheeted_26 : mFld wsX8_unsheeted RX8 26 9 2 1 (.object "RoomMapper$Atlas") true := ⟨8, _, RX8, TX8, 9, tyX8, rfl, rfl, rfl, by decide, wiX8_unsheeted_8, tyX8_ok, nmX8, rfl, rfl, Or.inl ⟨by decide +kernel, fun _ => rfl⟩⟩
theorem wiX8_unsheeted_0 : ∀ w ∈ u_ws RX0 TX0 6, w ∈ wsX8_unsheeted := by decide +kernel
theorem fX8_unsheeted_139 : mFld wsX8_unsheeted RX8 139 1 2 0 .int false := ⟨0, _, RX0, TX0, 6, tyX0, rfl, rfl, rfl, by decide, wiX8_unsheeted_0, tyX0_ok, nmX0, rfl, rfl, Or.inr ⟨"RoomMapper", nwF8_139⟩⟩
def bX8_unsheeted (this : Nat) (u : mSt) (K : Int32 → mSt → Prop) : Prop := bX8_unmapped this u (fun r_3 u_2 => ((r_3 = 0 → (∃ q_4, mR u_2 this 2 = some q_4 ∧ (((mI u_2 q_4 2) = 0 → K (-1 : Int32) u_2) ∧ (¬ ((mI u_2 q_4 2) = 0) → K (0 : Int32) u_2)))) ∧ (¬ (r_3 = 0) → K r_3 u_2)))
set_option maxRecDepth 100000 in
set_option maxHeartbeats 4000000 in
theorem tX8_unsheeted {X : mCx} {G : mG} {u0 : mSt} {K : Int32 → mSt → Prop} (F : mFx X G cX8_unsheeted wsX8_unsheeted RX8 "unsheeted" 1 20 (some .int) u0 (mPi K)) (hN : X.2.2.2.2.2.2.2.2.2.2.2.2.1 = 2) {this : Nat} {u : mSt} (kthis : mK u this = 9) (h : bX8_unsheeted this u K) : mZ X u 0 [(0, .ref (G.1 + this))] [] := by
  refine mz_aload_n F dX8_unsheeted_0 rfl 0 rfl ?_
  refine mz_callV (As := []) (n := 0) F dX8_unsheeted_1 rfl kthis rfl rfl gX8_unsheeted_X8_unmapped (by decide +kernel) (by decide) rfl (Nat.le_of_ble_eq_true rfl) (kX8_unmapped _ G kthis h) (mz_kI fun r_3 u_2 h hx_1 => ?_)
  replace kthis := hx_1.2.2 _ _ (by decide) kthis
  refine mz_istore_n (lv2 := [(1, .int r_3), (0, .ref (G.1 + this))]) F dX8_unsheeted_4 rfl hN (by decide) rfl ?_
  refine mz_iload_n F dX8_unsheeted_5 rfl 0 rfl ?_
  refine mz_if_eq (tgt := 11) F dX8_unsheeted_6 (by decide) (fun c_6 => ?_) (fun c_6 => ?_)
  · replace h := h.1 c_6
    refine mz_aload_n F dX8_unsheeted_11 rfl 1 rfl ?_
    obtain ⟨q_4, eq_4, h⟩ := h
    refine mz_getR F dX8_unsheeted_12 fX8_unsheeted_26 (by decide) kthis eq_4 (fun kq_4 => ?_)
    refine mz_getI F dX8_unsheeted_15 fX8_unsheeted_139 kq_4 ?_
    refine mz_if_ne (tgt := 25) F dX8_unsheeted_18 (by decide) (fun c_5 => ?_) (fun c_5 => ?_)
    · replace h := h.2 c_5
      refine mz_iconst (v := 0) F dX8_unsheeted_25 (by decide) ?_
      exact mz_iret F dX8_unsheeted_26 ⟨_, rfl, h⟩
    · replace h := h.1 c_5
      refine mz_iconst (v := (-1)) F dX8_unsheeted_21 (by decide) ?_
      refine mz_goto (tgt := 26) F dX8_unsheeted_22 (by decide) ?_
      exact mz_iret F dX8_unsheeted_26 ⟨_, rfl, h⟩
  · replace h := h.2 c_6
    refine mz_iload_n F dX8_unsheeted_9 rfl 0 rfl ?_
    exact mz_iret F dX8_unsheeted_10 ⟨_, rfl, h⟩
set_option maxRecDepth 100000 in
theorem kX8_unsheeted (l : Launch) (G : mG) {u : mSt} {K : Int32 → mSt → Prop} {this : Nat} (kthis : mK u this = 9) (h : bX8_unsheeted this u K) : mCt l G yX8_unsheeted wsX8_unsheeted 1 20 [.ref (G.1 + this)] u (mPi K) := by
  refine mCt.of (cc := cX8_unsheeted) (maxL := 2) (ret := (some .int)) (by decide) rfl (Nat.le_of_ble_eq_true rfl) ?_
  intro X hl hN F
  exact tX8_unsheeted F hN kthis h
/-! RoomMapper.placeBehind(LRoomMapper$Sheet;I)I -/
theorem wiX8_placeBehind_8 : ∀ w ∈ u_ws RX8 TX8 9, w ∈ wsX8_placeBehind := by decide +kernel
theorem fX8_placeBehind_19 : mFld wsX8_placeBehind RX8 19 9 1 8 (.object "RoomMapper$Walk") true := ⟨8, _, RX8, TX8, 9, tyX8, rfl, rfl, rfl, by decide, wiX8_placeBehind_8, tyX8_ok, nmX8, rfl, rfl, Or.inl ⟨by decide +kernel, fun _ => rfl⟩⟩
theorem wiX8_placeBehind_7 : ∀ w ∈ u_ws RX7 TX7 3, w ∈ wsX8_placeBehind := by decide +kernel
theorem fX8_placeBehind_132 : mFld wsX8_placeBehind RX8 132 8 0 22 (.array .int) true := ⟨7, _, RX7, TX7, 3, tyX7, rfl, rfl, rfl, by decide, wiX8_placeBehind_7, tyX7_ok, nmX7, rfl, rfl, Or.inr ⟨"RoomMapper", nwF8_132⟩⟩
theorem mX8_placeBehind_iniX4_placeAfter : Cond.initialized yX4_placeAfter.cls ∈ wsX8_placeBehind := by decide +kernel
theorem mX8_placeBehind_imX4_placeAfter : Cond.instanceMethod yX4_placeAfter ∈ wsX8_placeBehind := by decide +kernel
theorem mX8_placeBehind_seX4_placeAfter : Cond.selects RX4 yX4_placeAfter yX4_placeAfter ∈ wsX8_placeBehind := by decide +kernel
def bX8_placeBehind_41 (v0 : Nat) (v1 : Nat) (v2 : Int32) (v3 : Int32) (v4 : Int32) (u : mSt) (K : Int32 → mSt → Prop) (KL5 : Nat → Nat → Int32 → Int32 → Int32 → mSt → Prop) : Prop := (∀ x_1, x_1 = v4 + (1 : Int32) → KL5 v0 v1 v2 v3 x_1 u)
set_option maxRecDepth 100000 in
set_option maxHeartbeats 4000000 in
theorem tX8_placeBehind_41 {X : mCx} {G : mG} {u0 : mSt} {K : Int32 → mSt → Prop} {KL5 : Nat → Nat → Int32 → Int32 → Int32 → mSt → Prop} (F : mFx X G cX8_placeBehind wsX8_placeBehind RX8 "placeBehind" 2 45 (some .int) u0 (mPi K)) (hN : X.2.2.2.2.2.2.2.2.2.2.2.2.1 = 5) (hL5 : ∀ {v0 : Nat} {v1 : Nat} {v2 : Int32} {v3 : Int32} {v4 : Int32} {u : mSt}, mK u v0 = 9 → mK u v1 = 5 → KL5 v0 v1 v2 v3 v4 u → mZ X u 5 [(0, .ref (G.1 + v0)), (1, .ref (G.1 + v1)), (2, .int v2), (3, .int v3), (4, .int v4)] []) {v0 : Nat} {v1 : Nat} {v2 : Int32} {v3 : Int32} {v4 : Int32} {u : mSt} (kv0 : mK u v0 = 9) (kv1 : mK u v1 = 5) (h : bX8_placeBehind_41 v0 v1 v2 v3 v4 u K KL5) : mZ X u 41 [(0, .ref (G.1 + v0)), (1, .ref (G.1 + v1)), (2, .int v2), (3, .int v3), (4, .int v4)] [] := by
  obtain ⟨x_1, ex_1⟩ : ∃ y : Int32, y = v4 + (1 : Int32) := ⟨_, rfl⟩
  replace h := h x_1 ex_1
  refine mz_iinc (v := x_1) (lv2 := [(4, .int x_1), (0, .ref (G.1 + v0)), (1, .ref (G.1 + v1)), (2, .int v2), (3, .int v3)]) F dX8_placeBehind_41 4 rfl (by rw [ex_1]; rfl) hN (by decide) rfl ?_
  refine mz_goto (tgt := 5) F dX8_placeBehind_44 (by decide) ?_
  refine mz_sub [1, 2, 3, 4, 0] rfl ?_
  exact hL5 kv0 kv1 h
def bX8_placeBehind_5 : Nat → Nat → Nat → Int32 → Int32 → Int32 → mSt → (Int32 → mSt → Prop) → Prop
  | 0, _, _, _, _, _, _, _ => False
  | n + 1, v0, v1, v2, v3, v4, u, K => ((v2 ≤ v4 → K v3 u) ∧ (¬ (v2 ≤ v4) → (∃ q_1, mR u v0 1 = some q_1 ∧ (∃ q_2, mR u q_1 0 = some q_2 ∧ (vp_in v4 200 ∧ (((mI u q_2 v4.toNatClampNeg) = (5 : Int32) → bX8_placeBehind_41 v0 v1 v2 v3 v4 u K (fun z0 z1 z2 z3 z4 z5 => bX8_placeBehind_5 n z0 z1 z2 z3 z4 z5 K)) ∧ (¬ ((mI u q_2 v4.toNatClampNeg) = (5 : Int32)) → (∃ q_4, mR u v0 1 = some q_4 ∧ (∃ q_5, mR u q_4 0 = some q_5 ∧ (vp_in v4 200 ∧ bX4_placeAfter v1 v3 (mI u q_5 v4.toNatClampNeg) u (fun r_9 u_8 => bX8_placeBehind_41 v0 v1 v2 r_9 v4 u_8 K (fun z0 z1 z2 z3 z4 z5 => bX8_placeBehind_5 n z0 z1 z2 z3 z4 z5 K))))))))))))
set_option maxRecDepth 100000 in
set_option maxHeartbeats 4000000 in
theorem tX8_placeBehind_5 {X : mCx} {G : mG} {u0 : mSt} {K : Int32 → mSt → Prop} (F : mFx X G cX8_placeBehind wsX8_placeBehind RX8 "placeBehind" 2 45 (some .int) u0 (mPi K)) (hN : X.2.2.2.2.2.2.2.2.2.2.2.2.1 = 5) : ∀ (n : Nat) {v0 : Nat} {v1 : Nat} {v2 : Int32} {v3 : Int32} {v4 : Int32} {u : mSt}, mK u v0 = 9 → mK u v1 = 5 → bX8_placeBehind_5 n v0 v1 v2 v3 v4 u K → mZ X u 5 [(0, .ref (G.1 + v0)), (1, .ref (G.1 + v1)), (2, .int v2), (3, .int v3), (4, .int v4)] [] := by
  intro n
  induction n with
  | zero => intro v0 v1 v2 v3 v4 u kv0 kv1 h; exact False.elim h
  | succ n ih =>
    intro v0 v1 v2 v3 v4 u kv0 kv1 h
    refine mz_iload F dX8_placeBehind_5 4 rfl ?_
    refine mz_iload_n F dX8_placeBehind_7 rfl 2 rfl ?_
    refine mz_icmp_ge (tgt := 47) F dX8_placeBehind_8 (by decide) (fun c_11 => ?_) (fun c_11 => ?_)
    · replace h := h.1 c_11
      refine mz_iload_n F dX8_placeBehind_47 rfl 3 rfl ?_
      exact mz_iret F dX8_placeBehind_48 ⟨_, rfl, h⟩
    · replace h := h.2 c_11
      refine mz_aload_n F dX8_placeBehind_11 rfl 0 rfl ?_
      obtain ⟨q_1, eq_1, h⟩ := h
      refine mz_getR F dX8_placeBehind_12 fX8_placeBehind_19 (by decide) kv0 eq_1 (fun kq_1 => ?_)
      obtain ⟨q_2, eq_2, h⟩ := h
      refine mz_getR F dX8_placeBehind_15 fX8_placeBehind_132 (by decide) kq_1 eq_2 (fun kq_2 => ?_)
      refine mz_iload F dX8_placeBehind_18 4 rfl ?_
      obtain ⟨b_3, h⟩ := h
      refine mz_iald F dX8_placeBehind_20 kq_2 rfl b_3 ?_
      refine mz_iconst (v := 5) F dX8_placeBehind_21 (by decide) ?_
      refine mz_icmp_eq (tgt := 41) F dX8_placeBehind_22 (by decide) (fun c_10 => ?_) (fun c_10 => ?_)
      · replace h := h.1 c_10
        refine mz_sub [0, 1, 2, 3, 4] rfl ?_
        exact tX8_placeBehind_41 F hN (fun k0 k1 h => ih k0 k1 h) kv0 kv1 h
      · replace h := h.2 c_10
        refine mz_aload_n F dX8_placeBehind_25 rfl 1 rfl ?_
        refine mz_iload_n F dX8_placeBehind_26 rfl 3 rfl ?_
        refine mz_aload_n F dX8_placeBehind_27 rfl 0 rfl ?_
        obtain ⟨q_4, eq_4, h⟩ := h
        refine mz_getR F dX8_placeBehind_28 fX8_placeBehind_19 (by decide) kv0 eq_4 (fun kq_4 => ?_)
        obtain ⟨q_5, eq_5, h⟩ := h
        refine mz_getR F dX8_placeBehind_31 fX8_placeBehind_132 (by decide) kq_4 eq_5 (fun kq_5 => ?_)
        refine mz_iload F dX8_placeBehind_34 4 rfl ?_
        obtain ⟨b_6, h⟩ := h
        refine mz_iald F dX8_placeBehind_36 kq_5 rfl b_6 ?_
        refine mz_callVN (As := [_, _]) (n := 2) F dX8_placeBehind_37 rfl kv1 rfl rfl gX8_placeBehind_X4_placeAfter_n302 nwM8_302 mX8_placeBehind_iniX4_placeAfter mX8_placeBehind_imX4_placeAfter mX8_placeBehind_seX4_placeAfter (by decide +kernel) (by decide) rfl (Nat.le_of_ble_eq_true rfl) (kX4_placeAfter _ G kv1 h) (mz_kI fun r_9 u_8 h hx_7 => ?_)
        replace kv0 := hx_7.2.2 _ _ (by decide) kv0
        replace kv1 := hx_7.2.2 _ _ (by decide) kv1
        refine mz_istore_n (lv2 := [(3, .int r_9), (0, .ref (G.1 + v0)), (1, .ref (G.1 + v1)), (2, .int v2), (4, .int v4)]) F dX8_placeBehind_40 rfl hN (by decide) rfl ?_
        refine mz_sub [1, 2, 3, 0, 4] rfl ?_
        exact tX8_placeBehind_41 F hN (fun k0 k1 h => ih k0 k1 h) kv0 kv1 h
def bX8_placeBehind (this : Nat) (a1 : Nat) (a2 : Int32) (u : mSt) (K : Int32 → mSt → Prop) : Prop := (∃ n9, bX8_placeBehind_5 n9 this a1 a2 (0 : Int32) (0 : Int32) u K)
set_option maxRecDepth 100000 in
set_option maxHeartbeats 4000000 in
theorem tX8_placeBehind {X : mCx} {G : mG} {u0 : mSt} {K : Int32 → mSt → Prop} (F : mFx X G cX8_placeBehind wsX8_placeBehind RX8 "placeBehind" 2 45 (some .int) u0 (mPi K)) (hN : X.2.2.2.2.2.2.2.2.2.2.2.2.1 = 5) {this : Nat} {a1 : Nat} {a2 : Int32} {u : mSt} (kthis : mK u this = 9) (ka1 : mK u a1 = 5) (h : bX8_placeBehind this a1 a2 u K) : mZ X u 0 [(0, .ref (G.1 + this)), (1, .ref (G.1 + a1)), (2, .int a2)] [] := by
  refine mz_iconst (v := 0) F dX8_placeBehind_0 (by decide) ?_
  refine mz_istore_n (lv2 := [(3, .int (0 : Int32)), (0, .ref (G.1 + this)), (1, .ref (G.1 + a1)), (2, .int a2)]) F dX8_placeBehind_1 rfl hN (by decide) rfl ?_
  refine mz_iconst (v := 0) F dX8_placeBehind_2 (by decide) ?_
  refine mz_istore (lv2 := [(4, .int (0 : Int32)), (3, .int (0 : Int32)), (0, .ref (G.1 + this)), (1, .ref (G.1 + a1)), (2, .int a2)]) F dX8_placeBehind_3 hN (by decide) rfl ?_
  refine mz_sub [2, 3, 4, 1, 0] rfl ?_
  obtain ⟨n9, h⟩ := h
  exact tX8_placeBehind_5 F hN n9 kthis ka1 h
set_option maxRecDepth 100000 in
theorem kX8_placeBehind (l : Launch) (G : mG) {u : mSt} {K : Int32 → mSt → Prop} {this : Nat} {a1 : Nat} {a2 : Int32} (kthis : mK u this = 9) (ka1 : mK u a1 = 5) (h : bX8_placeBehind this a1 a2 u K) : mCt l G yX8_placeBehind wsX8_placeBehind 2 45 [.ref (G.1 + this), .ref (G.1 + a1), .int a2] u (mPi K) := by
  refine mCt.of (cc := cX8_placeBehind) (maxL := 5) (ret := (some .int)) (by decide) rfl (Nat.le_of_ble_eq_true rfl) ?_
  intro X hl hN F
  exact tX8_placeBehind F hN kthis ka1 h
/-! RoomMapper.one(II)I -/
theorem wiX8_one_8 : ∀ w ∈ u_ws RX8 TX8 9, w ∈ wsX8_one := by decide +kernel
theorem fX8_one_26 : mFld wsX8_one RX8 26 9 2 1 (.object "RoomMapper$Atlas") true := ⟨8, _, RX8, TX8, 9, tyX8, rfl, rfl, rfl, by decide, wiX8_one_8, tyX8_ok, nmX8, rfl, rfl, Or.inl ⟨by decide +kernel, fun _ => rfl⟩⟩
theorem wiX8_one_0 : ∀ w ∈ u_ws RX0 TX0 6, w ∈ wsX8_one := by decide +kernel
theorem fX8_one_139 : mFld wsX8_one RX8 139 1 2 0 .int false := ⟨0, _, RX0, TX0, 6, tyX0, rfl, rfl, rfl, by decide, wiX8_one_0, tyX0_ok, nmX0, rfl, rfl, Or.inr ⟨"RoomMapper", nwF8_139⟩⟩
theorem fX8_one_142 : mFld wsX8_one RX8 142 1 0 11 (.array (.object "RoomMapper$Sheet")) false := ⟨0, _, RX0, TX0, 6, tyX0, rfl, rfl, rfl, by decide, wiX8_one_0, tyX0_ok, nmX0, rfl, rfl, Or.inr ⟨"RoomMapper", nwF8_142⟩⟩
theorem fX8_one_19 : mFld wsX8_one RX8 19 9 1 8 (.object "RoomMapper$Walk") true := ⟨8, _, RX8, TX8, 9, tyX8, rfl, rfl, rfl, by decide, wiX8_one_8, tyX8_ok, nmX8, rfl, rfl, Or.inl ⟨by decide +kernel, fun _ => rfl⟩⟩
theorem wiX8_one_7 : ∀ w ∈ u_ws RX7 TX7 3, w ∈ wsX8_one := by decide +kernel
theorem fX8_one_88 : mFld wsX8_one RX8 88 8 2 0 .int false := ⟨7, _, RX7, TX7, 3, tyX7, rfl, rfl, rfl, by decide, wiX8_one_7, tyX7_ok, nmX7, rfl, rfl, Or.inr ⟨"RoomMapper", nwF8_88⟩⟩
def bX8_one_95 (v0 : Nat) (v1 : Int32) (v2 : Int32) (v4 : Int32) (v5 : Int32) (u : mSt) (K : Int32 → mSt → Prop) (KL51 : Nat → Int32 → Int32 → Int32 → Int32 → mSt → Prop) : Prop := (∀ x_1, x_1 = v5 + (1 : Int32) → KL51 v0 v1 v2 v4 x_1 u)
set_option maxRecDepth 100000 in
set_option maxHeartbeats 4000000 in
theorem tX8_one_95 {X : mCx} {G : mG} {u0 : mSt} {K : Int32 → mSt → Prop} {KL51 : Nat → Int32 → Int32 → Int32 → Int32 → mSt → Prop} (F : mFx X G cX8_one wsX8_one RX8 "one" 3 69 (some .int) u0 (mPi K)) (hN : X.2.2.2.2.2.2.2.2.2.2.2.2.1 = 7) (hL51 : ∀ {v0 : Nat} {v1 : Int32} {v2 : Int32} {v4 : Int32} {v5 : Int32} {u : mSt}, mK u v0 = 9 → KL51 v0 v1 v2 v4 v5 u → mZ X u 51 [(0, .ref (G.1 + v0)), (1, .int v1), (2, .int v2), (4, .int v4), (5, .int v5)] []) {v0 : Nat} {v1 : Int32} {v2 : Int32} {v4 : Int32} {v5 : Int32} {u : mSt} (kv0 : mK u v0 = 9) (h : bX8_one_95 v0 v1 v2 v4 v5 u K KL51) : mZ X u 95 [(0, .ref (G.1 + v0)), (1, .int v1), (2, .int v2), (4, .int v4), (5, .int v5)] [] := by
  obtain ⟨x_1, ex_1⟩ : ∃ y : Int32, y = v5 + (1 : Int32) := ⟨_, rfl⟩
  replace h := h x_1 ex_1
  refine mz_iinc (v := x_1) (lv2 := [(5, .int x_1), (0, .ref (G.1 + v0)), (1, .int v1), (2, .int v2), (4, .int v4)]) F dX8_one_95 4 rfl (by rw [ex_1]; rfl) hN (by decide) rfl ?_
  refine mz_goto (tgt := 51) F dX8_one_98 (by decide) ?_
  refine mz_sub [1, 2, 3, 4, 0] rfl ?_
  exact hL51 kv0 h
def bX8_one_51 : Nat → Nat → Int32 → Int32 → Int32 → Int32 → mSt → (Int32 → mSt → Prop) → Prop
  | 0, _, _, _, _, _, _, _ => False
  | n + 1, v0, v1, v2, v4, v5, u, K => (∃ q_1, mR u v0 2 = some q_1 ∧ (((mI u q_1 2) ≤ v5 → ((v4 = 0 → K (0 : Int32) u) ∧ (¬ (v4 = 0) → (∃ q_2, mR u v0 2 = some q_2 ∧ ((v4 = (mI u q_2 2) → K (1 : Int32) u) ∧ (¬ (v4 = (mI u q_2 2)) → K (2 : Int32) u)))))) ∧ (¬ ((mI u q_1 2) ≤ v5) → (∃ q_5, mR u v0 2 = some q_5 ∧ (∃ q_6, mR u q_5 0 = some q_6 ∧ (vp_in v5 151 ∧ ∃ q_8, mR u q_6 v5.toNatClampNeg = some q_8 ∧ bX8_placeBehind v0 q_8 v1 u (fun r_11 u_10 => bX8_placeBehind v0 q_8 v2 u_10 (fun r_14 u_13 => ((r_11 = r_14 → (∀ x_15, x_15 = v4 + (1 : Int32) → bX8_one_95 v0 v1 v2 x_15 v5 u_13 K (fun z0 z1 z2 z3 z4 z5 => bX8_one_51 n z0 z1 z2 z3 z4 z5 K))) ∧ (¬ (r_11 = r_14) → bX8_one_95 v0 v1 v2 v4 v5 u_13 K (fun z0 z1 z2 z3 z4 z5 => bX8_one_51 n z0 z1 z2 z3 z4 z5 K)))))))))))
set_option maxRecDepth 100000 in
set_option maxHeartbeats 4000000 in
theorem tX8_one_51 {X : mCx} {G : mG} {u0 : mSt} {K : Int32 → mSt → Prop} (F : mFx X G cX8_one wsX8_one RX8 "one" 3 69 (some .int) u0 (mPi K)) (hN : X.2.2.2.2.2.2.2.2.2.2.2.2.1 = 7) : ∀ (n : Nat) {v0 : Nat} {v1 : Int32} {v2 : Int32} {v4 : Int32} {v5 : Int32} {u : mSt}, mK u v0 = 9 → bX8_one_51 n v0 v1 v2 v4 v5 u K → mZ X u 51 [(0, .ref (G.1 + v0)), (1, .int v1), (2, .int v2), (4, .int v4), (5, .int v5)] [] := by
  intro n
  induction n with
  | zero => intro v0 v1 v2 v4 v5 u kv0 h; exact False.elim h
  | succ n ih =>
    intro v0 v1 v2 v4 v5 u kv0 h
    refine mz_iload F dX8_one_51 4 rfl ?_
    refine mz_aload_n F dX8_one_53 rfl 0 rfl ?_
    obtain ⟨q_1, eq_1, h⟩ := h
    refine mz_getR F dX8_one_54 fX8_one_26 (by decide) kv0 eq_1 (fun kq_1 => ?_)
    refine mz_getI F dX8_one_57 fX8_one_139 kq_1 ?_
    refine mz_icmp_ge (tgt := 101) F dX8_one_60 (by decide) (fun c_17 => ?_) (fun c_17 => ?_)
    · replace h := h.1 c_17
      refine mz_iload F dX8_one_101 3 rfl ?_
      refine mz_if_ne (tgt := 108) F dX8_one_103 (by decide) (fun c_4 => ?_) (fun c_4 => ?_)
      · replace h := h.2 c_4
        refine mz_iload F dX8_one_108 3 rfl ?_
        refine mz_aload_n F dX8_one_110 rfl 0 rfl ?_
        obtain ⟨q_2, eq_2, h⟩ := h
        refine mz_getR F dX8_one_111 fX8_one_26 (by decide) kv0 eq_2 (fun kq_2 => ?_)
        refine mz_getI F dX8_one_114 fX8_one_139 kq_2 ?_
        refine mz_icmp_ne (tgt := 124) F dX8_one_117 (by decide) (fun c_3 => ?_) (fun c_3 => ?_)
        · replace h := h.2 c_3
          refine mz_iconst (v := 2) F dX8_one_124 (by decide) ?_
          exact mz_iret F dX8_one_125 ⟨_, rfl, h⟩
        · replace h := h.1 c_3
          refine mz_iconst (v := 1) F dX8_one_120 (by decide) ?_
          refine mz_goto (tgt := 125) F dX8_one_121 (by decide) ?_
          exact mz_iret F dX8_one_125 ⟨_, rfl, h⟩
      · replace h := h.1 c_4
        refine mz_iconst (v := 0) F dX8_one_106 (by decide) ?_
        exact mz_iret F dX8_one_107 ⟨_, rfl, h⟩
    · replace h := h.2 c_17
      refine mz_aload_n F dX8_one_63 rfl 0 rfl ?_
      obtain ⟨q_5, eq_5, h⟩ := h
      refine mz_getR F dX8_one_64 fX8_one_26 (by decide) kv0 eq_5 (fun kq_5 => ?_)
      obtain ⟨q_6, eq_6, h⟩ := h
      refine mz_getR F dX8_one_67 fX8_one_142 (by decide) kq_5 eq_6 (fun kq_6 => ?_)
      refine mz_iload F dX8_one_70 4 rfl ?_
      obtain ⟨b_7, q_8, eq_8, h⟩ := h
      refine mz_aald4 F dX8_one_72 kq_6 rfl (by decide) b_7 eq_8 (fun kq_8 => ?_)
      refine mz_astore (lv2 := [(6, .ref (G.1 + q_8)), (0, .ref (G.1 + v0)), (1, .int v1), (2, .int v2), (4, .int v4), (5, .int v5)]) F dX8_one_73 hN (by decide) rfl ?_
      refine mz_aload_n F dX8_one_75 rfl 1 rfl ?_
      refine mz_aload F dX8_one_76 0 rfl ?_
      refine mz_iload_n F dX8_one_78 rfl 2 rfl ?_
      refine mz_callV (As := [_, _]) (n := 2) F dX8_one_79 rfl kv0 rfl rfl gX8_one_X8_placeBehind (by decide +kernel) (by decide) rfl (Nat.le_of_ble_eq_true rfl) (kX8_placeBehind _ G kv0 kq_8 h) (mz_kI fun r_11 u_10 h hx_9 => ?_)
      replace kq_8 := hx_9.2.2 _ _ (by decide) kq_8
      replace kv0 := hx_9.2.2 _ _ (by decide) kv0
      refine mz_aload_n F dX8_one_82 rfl 1 rfl ?_
      refine mz_aload F dX8_one_83 0 rfl ?_
      refine mz_iload_n F dX8_one_85 rfl 3 rfl ?_
      refine mz_callV (As := [_, _]) (n := 2) F dX8_one_86 rfl kv0 rfl rfl gX8_one_X8_placeBehind (by decide +kernel) (by decide) rfl (Nat.le_of_ble_eq_true rfl) (kX8_placeBehind _ G kv0 kq_8 h) (mz_kI fun r_14 u_13 h hx_12 => ?_)
      replace kv0 := hx_12.2.2 _ _ (by decide) kv0
      refine mz_icmp_ne (tgt := 95) F dX8_one_89 (by decide) (fun c_16 => ?_) (fun c_16 => ?_)
      · replace h := h.2 c_16
        refine mz_sub [1, 2, 3, 4, 5] rfl ?_
        exact tX8_one_95 F hN (fun k0 h => ih k0 h) kv0 h
      · replace h := h.1 c_16
        obtain ⟨x_15, ex_15⟩ : ∃ y : Int32, y = v4 + (1 : Int32) := ⟨_, rfl⟩
        replace h := h x_15 ex_15
        refine mz_iinc (v := x_15) (lv2 := [(4, .int x_15), (6, .ref (G.1 + q_8)), (0, .ref (G.1 + v0)), (1, .int v1), (2, .int v2), (5, .int v5)]) F dX8_one_92 4 rfl (by rw [ex_15]; rfl) hN (by decide) rfl ?_
        refine mz_sub [2, 3, 4, 0, 5] rfl ?_
        exact tX8_one_95 F hN (fun k0 h => ih k0 h) kv0 h
def bX8_one (this : Nat) (a1 : Int32) (a2 : Int32) (u : mSt) (K : Int32 → mSt → Prop) : Prop := bX8_unsheeted this u (fun r_3 u_2 => ((r_3 = 0 → (∃ q_4, mR u_2 this 1 = some q_4 ∧ bX8_within a1 ((mI u_2 q_4 2) + (1 : Int32)) u_2 (fun r_7 u_6 => ((r_7 = 0 → K (-1 : Int32) u_6) ∧ (¬ (r_7 = 0) → (∃ q_8, mR u_6 this 1 = some q_8 ∧ bX8_within a2 ((mI u_6 q_8 2) + (1 : Int32)) u_6 (fun r_11 u_10 => ((r_11 = 0 → K (-1 : Int32) u_10) ∧ (¬ (r_11 = 0) → (∃ n9, bX8_one_51 n9 this a1 a2 (0 : Int32) (0 : Int32) u_10 K)))))))))) ∧ (¬ (r_3 = 0) → K r_3 u_2)))
set_option maxRecDepth 100000 in
set_option maxHeartbeats 4000000 in
theorem tX8_one {X : mCx} {G : mG} {u0 : mSt} {K : Int32 → mSt → Prop} (F : mFx X G cX8_one wsX8_one RX8 "one" 3 69 (some .int) u0 (mPi K)) (hN : X.2.2.2.2.2.2.2.2.2.2.2.2.1 = 7) {this : Nat} {a1 : Int32} {a2 : Int32} {u : mSt} (kthis : mK u this = 9) (h : bX8_one this a1 a2 u K) : mZ X u 0 [(0, .ref (G.1 + this)), (1, .int a1), (2, .int a2)] [] := by
  refine mz_aload_n F dX8_one_0 rfl 0 rfl ?_
  refine mz_callV (As := []) (n := 0) F dX8_one_1 rfl kthis rfl rfl gX8_one_X8_unsheeted (by decide +kernel) (by decide) rfl (Nat.le_of_ble_eq_true rfl) (kX8_unsheeted _ G kthis h) (mz_kI fun r_3 u_2 h hx_1 => ?_)
  replace kthis := hx_1.2.2 _ _ (by decide) kthis
  refine mz_istore_n (lv2 := [(3, .int r_3), (0, .ref (G.1 + this)), (1, .int a1), (2, .int a2)]) F dX8_one_4 rfl hN (by decide) rfl ?_
  refine mz_iload_n F dX8_one_5 rfl 0 rfl ?_
  refine mz_if_eq (tgt := 11) F dX8_one_6 (by decide) (fun c_14 => ?_) (fun c_14 => ?_)
  · replace h := h.1 c_14
    refine mz_iload_n F dX8_one_11 rfl 2 rfl ?_
    refine mz_aload_n F dX8_one_12 rfl 1 rfl ?_
    obtain ⟨q_4, eq_4, h⟩ := h
    refine mz_getR F dX8_one_13 fX8_one_19 (by decide) kthis eq_4 (fun kq_4 => ?_)
    refine mz_getI F dX8_one_16 fX8_one_88 kq_4 ?_
    refine mz_iconst (v := 1) F dX8_one_19 (by decide) ?_
    refine mz_iadd F dX8_one_20 ?_
    refine mz_callS (As := [_, _]) (n := 2) F dX8_one_21 rfl gX8_one_X8_within (by decide +kernel) (by decide) rfl (Nat.le_of_ble_eq_true rfl) (kX8_within _ G h) (mz_kZ fun r_7 u_6 br_7 h hx_5 => ?_)
    replace kthis := hx_5.2.2 _ _ (by decide) kthis
    refine mz_if_eq (tgt := 43) F dX8_one_24 (by decide) (fun c_13 => ?_) (fun c_13 => ?_)
    · replace h := h.1 c_13
      refine mz_iconst (v := (-1)) F dX8_one_43 (by decide) ?_
      exact mz_iret F dX8_one_44 ⟨_, rfl, h⟩
    · replace h := h.2 c_13
      refine mz_iload_n F dX8_one_27 rfl 3 rfl ?_
      refine mz_aload_n F dX8_one_28 rfl 1 rfl ?_
      obtain ⟨q_8, eq_8, h⟩ := h
      refine mz_getR F dX8_one_29 fX8_one_19 (by decide) kthis eq_8 (fun kq_8 => ?_)
      refine mz_getI F dX8_one_32 fX8_one_88 kq_8 ?_
      refine mz_iconst (v := 1) F dX8_one_35 (by decide) ?_
      refine mz_iadd F dX8_one_36 ?_
      refine mz_callS (As := [_, _]) (n := 2) F dX8_one_37 rfl gX8_one_X8_within (by decide +kernel) (by decide) rfl (Nat.le_of_ble_eq_true rfl) (kX8_within _ G h) (mz_kZ fun r_11 u_10 br_11 h hx_9 => ?_)
      replace kthis := hx_9.2.2 _ _ (by decide) kthis
      refine mz_if_ne (tgt := 45) F dX8_one_40 (by decide) (fun c_12 => ?_) (fun c_12 => ?_)
      · replace h := h.2 c_12
        refine mz_iconst (v := 0) F dX8_one_45 (by decide) ?_
        refine mz_istore (lv2 := [(4, .int (0 : Int32)), (3, .int r_3), (0, .ref (G.1 + this)), (1, .int a1), (2, .int a2)]) F dX8_one_46 hN (by decide) rfl ?_
        refine mz_iconst (v := 0) F dX8_one_48 (by decide) ?_
        refine mz_istore (lv2 := [(5, .int (0 : Int32)), (4, .int (0 : Int32)), (3, .int r_3), (0, .ref (G.1 + this)), (1, .int a1), (2, .int a2)]) F dX8_one_49 hN (by decide) rfl ?_
        refine mz_sub [3, 4, 5, 1, 0] rfl ?_
        obtain ⟨n9, h⟩ := h
        exact tX8_one_51 F hN n9 kthis h
      · replace h := h.1 c_12
        refine mz_iconst (v := (-1)) F dX8_one_43 (by decide) ?_
        exact mz_iret F dX8_one_44 ⟨_, rfl, h⟩
  · replace h := h.2 c_14
    refine mz_iload_n F dX8_one_9 rfl 0 rfl ?_
    exact mz_iret F dX8_one_10 ⟨_, rfl, h⟩
set_option maxRecDepth 100000 in
theorem kX8_one (l : Launch) (G : mG) {u : mSt} {K : Int32 → mSt → Prop} {this : Nat} {a1 : Int32} {a2 : Int32} (kthis : mK u this = 9) (h : bX8_one this a1 a2 u K) : mCt l G yX8_one wsX8_one 3 69 [.ref (G.1 + this), .int a1, .int a2] u (mPi K) := by
  refine mCt.of (cc := cX8_one) (maxL := 7) (ret := (some .int)) (by decide) rfl (Nat.le_of_ble_eq_true rfl) ?_
  intro X hl hN F
  exact tX8_one F hN kthis h
/-! RoomMapper.part(II)I -/
theorem mX8_part_gs175 : Cond.fieldLink RX8 175 RX8 "ROWS_OF_ACTS" "[I" ∈ wsX8_part := by decide +kernel
theorem wiX8_part_8 : ∀ w ∈ u_ws RX8 TX8 9, w ∈ wsX8_part := by decide +kernel
theorem fX8_part_33 : mFld wsX8_part RX8 33 9 3 3 (.object "RoomMapper$Parting") true := ⟨8, _, RX8, TX8, 9, tyX8, rfl, rfl, rfl, by decide, wiX8_part_8, tyX8_ok, nmX8, rfl, rfl, Or.inl ⟨by decide +kernel, fun _ => rfl⟩⟩
theorem fX8_part_26 : mFld wsX8_part RX8 26 9 2 1 (.object "RoomMapper$Atlas") true := ⟨8, _, RX8, TX8, 9, tyX8, rfl, rfl, rfl, by decide, wiX8_part_8, tyX8_ok, nmX8, rfl, rfl, Or.inl ⟨by decide +kernel, fun _ => rfl⟩⟩
theorem mX8_part_iniX2_countSets : Cond.initialized yX2_countSets.cls ∈ wsX8_part := by decide +kernel
theorem mX8_part_imX2_countSets : Cond.instanceMethod yX2_countSets ∈ wsX8_part := by decide +kernel
theorem mX8_part_seX2_countSets : Cond.selects RX2 yX2_countSets yX2_countSets ∈ wsX8_part := by decide +kernel
def bX8_part (this : Nat) (a1 : Int32) (a2 : Int32) (u : mSt) (K : Int32 → mSt → Prop) : Prop := ((a1 < (1 : Int32) → K (-1 : Int32) u) ∧ (¬ (a1 < (1 : Int32)) → (((6 : Int32) < a1 → K (-1 : Int32) u) ∧ (¬ ((6 : Int32) < a1) → (vp_in a1 7 ∧ bX8_within a2 (mRows a1.toNatClampNeg) u (fun r_4 u_3 => ((r_4 = 0 → K (-1 : Int32) u_3) ∧ (¬ (r_4 = 0) → bX8_unsheeted this u_3 (fun r_7 u_6 => ((r_7 = 0 → (∃ q_8, mR u_6 this 3 = some q_8 ∧ (∃ q_9, mR u_6 this 2 = some q_9 ∧ bX2_countSets q_8 q_9 a1 a2 u_6 (fun r_12 u_11 => K r_12 u_11)))) ∧ (¬ (r_7 = 0) → K r_7 u_6)))))))))))
set_option maxRecDepth 100000 in
set_option maxHeartbeats 4000000 in
theorem tX8_part {X : mCx} {G : mG} {u0 : mSt} {K : Int32 → mSt → Prop} (F : mFx X G cX8_part wsX8_part RX8 "part" 5 117 (some .int) u0 (mPi K)) (hN : X.2.2.2.2.2.2.2.2.2.2.2.2.1 = 4) {this : Nat} {a1 : Int32} {a2 : Int32} {u : mSt} (kthis : mK u this = 9) (h : bX8_part this a1 a2 u K) : mZ X u 0 [(0, .ref (G.1 + this)), (1, .int a1), (2, .int a2)] [] := by
  refine mz_iload_n F dX8_part_0 rfl 1 rfl ?_
  refine mz_iconst (v := 1) F dX8_part_1 (by decide) ?_
  refine mz_icmp_lt (tgt := 23) F dX8_part_2 (by decide) (fun c_16 => ?_) (fun c_16 => ?_)
  · replace h := h.1 c_16
    refine mz_iconst (v := (-1)) F dX8_part_23 (by decide) ?_
    exact mz_iret F dX8_part_24 ⟨_, rfl, h⟩
  · replace h := h.2 c_16
    refine mz_iload_n F dX8_part_5 rfl 1 rfl ?_
    refine mz_bipush (v := 6) F dX8_part_6 (by decide) ?_
    refine mz_icmp_gt (tgt := 23) F dX8_part_8 (by decide) (fun c_15 => ?_) (fun c_15 => ?_)
    · replace h := h.1 c_15
      refine mz_iconst (v := (-1)) F dX8_part_23 (by decide) ?_
      exact mz_iret F dX8_part_24 ⟨_, rfl, h⟩
    · replace h := h.2 c_15
      refine mz_iload_n F dX8_part_11 rfl 2 rfl ?_
      refine mz_getRows F dX8_part_12 (Or.inl mX8_part_gs175) ?_
      refine mz_iload_n F dX8_part_15 rfl 1 rfl ?_
      obtain ⟨b_1, h⟩ := h
      refine mz_rows F dX8_part_16 b_1 ?_
      refine mz_callS (As := [_, _]) (n := 2) F dX8_part_17 rfl gX8_part_X8_within (by decide +kernel) (by decide) rfl (Nat.le_of_ble_eq_true rfl) (kX8_within _ G h) (mz_kZ fun r_4 u_3 br_4 h hx_2 => ?_)
      replace kthis := hx_2.2.2 _ _ (by decide) kthis
      refine mz_if_ne (tgt := 25) F dX8_part_20 (by decide) (fun c_14 => ?_) (fun c_14 => ?_)
      · replace h := h.2 c_14
        refine mz_aload_n F dX8_part_25 rfl 0 rfl ?_
        refine mz_callV (As := []) (n := 0) F dX8_part_26 rfl kthis rfl rfl gX8_part_X8_unsheeted (by decide +kernel) (by decide) rfl (Nat.le_of_ble_eq_true rfl) (kX8_unsheeted _ G kthis h) (mz_kI fun r_7 u_6 h hx_5 => ?_)
        replace kthis := hx_5.2.2 _ _ (by decide) kthis
        refine mz_istore_n (lv2 := [(3, .int r_7), (0, .ref (G.1 + this)), (1, .int a1), (2, .int a2)]) F dX8_part_29 rfl hN (by decide) rfl ?_
        refine mz_iload_n F dX8_part_30 rfl 0 rfl ?_
        refine mz_if_eq (tgt := 38) F dX8_part_31 (by decide) (fun c_13 => ?_) (fun c_13 => ?_)
        · replace h := h.1 c_13
          refine mz_aload_n F dX8_part_38 rfl 1 rfl ?_
          obtain ⟨q_8, eq_8, h⟩ := h
          refine mz_getR F dX8_part_39 fX8_part_33 (by decide) kthis eq_8 (fun kq_8 => ?_)
          refine mz_aload_n F dX8_part_42 rfl 1 rfl ?_
          obtain ⟨q_9, eq_9, h⟩ := h
          refine mz_getR F dX8_part_43 fX8_part_26 (by decide) kthis eq_9 (fun kq_9 => ?_)
          refine mz_iload_n F dX8_part_46 rfl 2 rfl ?_
          refine mz_iload_n F dX8_part_47 rfl 3 rfl ?_
          refine mz_callVN (As := [_, _, _]) (n := 3) F dX8_part_48 rfl kq_8 rfl rfl gX8_part_X2_countSets_n178 nwM8_178 mX8_part_iniX2_countSets mX8_part_imX2_countSets mX8_part_seX2_countSets (by decide +kernel) (by decide) rfl (Nat.le_of_ble_eq_true rfl) (kX2_countSets _ G kq_8 kq_9 h) (mz_kI fun r_12 u_11 h hx_10 => ?_)
          exact mz_iret F dX8_part_51 ⟨_, rfl, h⟩
        · replace h := h.2 c_13
          refine mz_iload_n F dX8_part_34 rfl 0 rfl ?_
          refine mz_goto (tgt := 51) F dX8_part_35 (by decide) ?_
          exact mz_iret F dX8_part_51 ⟨_, rfl, h⟩
      · replace h := h.1 c_14
        refine mz_iconst (v := (-1)) F dX8_part_23 (by decide) ?_
        exact mz_iret F dX8_part_24 ⟨_, rfl, h⟩
set_option maxRecDepth 100000 in
theorem kX8_part (l : Launch) (G : mG) {u : mSt} {K : Int32 → mSt → Prop} {this : Nat} {a1 : Int32} {a2 : Int32} (kthis : mK u this = 9) (h : bX8_part this a1 a2 u K) : mCt l G yX8_part wsX8_part 5 117 [.ref (G.1 + this), .int a1, .int a2] u (mPi K) := by
  refine mCt.of (cc := cX8_part) (maxL := 4) (ret := (some .int)) (by decide) rfl (Nat.le_of_ble_eq_true rfl) ?_
  intro X hl hN F
  exact tX8_part F hN kthis h
/-! RoomMapper.next(I)I -/
theorem wiX8_next_8 : ∀ w ∈ u_ws RX8 TX8 9, w ∈ wsX8_next := by decide +kernel
theorem fX8_next_33 : mFld wsX8_next RX8 33 9 3 3 (.object "RoomMapper$Parting") true := ⟨8, _, RX8, TX8, 9, tyX8, rfl, rfl, rfl, by decide, wiX8_next_8, tyX8_ok, nmX8, rfl, rfl, Or.inl ⟨by decide +kernel, fun _ => rfl⟩⟩
theorem fX8_next_26 : mFld wsX8_next RX8 26 9 2 1 (.object "RoomMapper$Atlas") true := ⟨8, _, RX8, TX8, 9, tyX8, rfl, rfl, rfl, by decide, wiX8_next_8, tyX8_ok, nmX8, rfl, rfl, Or.inl ⟨by decide +kernel, fun _ => rfl⟩⟩
theorem mX8_next_iniX2_bestRow : Cond.initialized yX2_bestRow.cls ∈ wsX8_next := by decide +kernel
theorem mX8_next_imX2_bestRow : Cond.instanceMethod yX2_bestRow ∈ wsX8_next := by decide +kernel
theorem mX8_next_seX2_bestRow : Cond.selects RX2 yX2_bestRow yX2_bestRow ∈ wsX8_next := by decide +kernel
def bX8_next (this : Nat) (a1 : Int32) (u : mSt) (K : Int32 → mSt → Prop) : Prop := ((a1 < (1 : Int32) → K (-1 : Int32) u) ∧ (¬ (a1 < (1 : Int32)) → ((a1 ≤ (3 : Int32) → bX8_unsheeted this u (fun r_3 u_2 => ((r_3 = 0 → (∃ q_4, mR u_2 this 3 = some q_4 ∧ (∃ q_5, mR u_2 this 2 = some q_5 ∧ bX2_bestRow q_4 q_5 a1 u_2 (fun r_8 u_7 => K r_8 u_7)))) ∧ (¬ (r_3 = 0) → K r_3 u_2)))) ∧ (¬ (a1 ≤ (3 : Int32)) → K (-1 : Int32) u))))
set_option maxRecDepth 100000 in
set_option maxHeartbeats 4000000 in
theorem tX8_next {X : mCx} {G : mG} {u0 : mSt} {K : Int32 → mSt → Prop} (F : mFx X G cX8_next wsX8_next RX8 "next" 6 144 (some .int) u0 (mPi K)) (hN : X.2.2.2.2.2.2.2.2.2.2.2.2.1 = 3) {this : Nat} {a1 : Int32} {u : mSt} (kthis : mK u this = 9) (h : bX8_next this a1 u K) : mZ X u 0 [(0, .ref (G.1 + this)), (1, .int a1)] [] := by
  refine mz_iload_n F dX8_next_0 rfl 1 rfl ?_
  refine mz_iconst (v := 1) F dX8_next_1 (by decide) ?_
  refine mz_icmp_lt (tgt := 10) F dX8_next_2 (by decide) (fun c_11 => ?_) (fun c_11 => ?_)
  · replace h := h.1 c_11
    refine mz_iconst (v := (-1)) F dX8_next_10 (by decide) ?_
    exact mz_iret F dX8_next_11 ⟨_, rfl, h⟩
  · replace h := h.2 c_11
    refine mz_iload_n F dX8_next_5 rfl 1 rfl ?_
    refine mz_iconst (v := 3) F dX8_next_6 (by decide) ?_
    refine mz_icmp_le (tgt := 12) F dX8_next_7 (by decide) (fun c_10 => ?_) (fun c_10 => ?_)
    · replace h := h.1 c_10
      refine mz_aload_n F dX8_next_12 rfl 0 rfl ?_
      refine mz_callV (As := []) (n := 0) F dX8_next_13 rfl kthis rfl rfl gX8_next_X8_unsheeted (by decide +kernel) (by decide) rfl (Nat.le_of_ble_eq_true rfl) (kX8_unsheeted _ G kthis h) (mz_kI fun r_3 u_2 h hx_1 => ?_)
      replace kthis := hx_1.2.2 _ _ (by decide) kthis
      refine mz_istore_n (lv2 := [(2, .int r_3), (0, .ref (G.1 + this)), (1, .int a1)]) F dX8_next_16 rfl hN (by decide) rfl ?_
      refine mz_iload_n F dX8_next_17 rfl 0 rfl ?_
      refine mz_if_eq (tgt := 25) F dX8_next_18 (by decide) (fun c_9 => ?_) (fun c_9 => ?_)
      · replace h := h.1 c_9
        refine mz_aload_n F dX8_next_25 rfl 1 rfl ?_
        obtain ⟨q_4, eq_4, h⟩ := h
        refine mz_getR F dX8_next_26 fX8_next_33 (by decide) kthis eq_4 (fun kq_4 => ?_)
        refine mz_aload_n F dX8_next_29 rfl 1 rfl ?_
        obtain ⟨q_5, eq_5, h⟩ := h
        refine mz_getR F dX8_next_30 fX8_next_26 (by decide) kthis eq_5 (fun kq_5 => ?_)
        refine mz_iload_n F dX8_next_33 rfl 2 rfl ?_
        refine mz_callVN (As := [_, _]) (n := 2) F dX8_next_34 rfl kq_4 rfl rfl gX8_next_X2_bestRow_n182 nwM8_182 mX8_next_iniX2_bestRow mX8_next_imX2_bestRow mX8_next_seX2_bestRow (by decide +kernel) (by decide) rfl (Nat.le_of_ble_eq_true rfl) (kX2_bestRow _ G kq_4 kq_5 h) (mz_kI fun r_8 u_7 h hx_6 => ?_)
        exact mz_iret F dX8_next_37 ⟨_, rfl, h⟩
      · replace h := h.2 c_9
        refine mz_iload_n F dX8_next_21 rfl 0 rfl ?_
        refine mz_goto (tgt := 37) F dX8_next_22 (by decide) ?_
        exact mz_iret F dX8_next_37 ⟨_, rfl, h⟩
    · replace h := h.2 c_10
      refine mz_iconst (v := (-1)) F dX8_next_10 (by decide) ?_
      exact mz_iret F dX8_next_11 ⟨_, rfl, h⟩
set_option maxRecDepth 100000 in
theorem kX8_next (l : Launch) (G : mG) {u : mSt} {K : Int32 → mSt → Prop} {this : Nat} {a1 : Int32} (kthis : mK u this = 9) (h : bX8_next this a1 u K) : mCt l G yX8_next wsX8_next 6 144 [.ref (G.1 + this), .int a1] u (mPi K) := by
  refine mCt.of (cc := cX8_next) (maxL := 3) (ret := (some .int)) (by decide) rfl (Nat.le_of_ble_eq_true rfl) ?_
  intro X hl hN F
  exact tX8_next F hN kthis h
/-! RoomMapper.go(II)I -/
theorem wiX8_go_8 : ∀ w ∈ u_ws RX8 TX8 9, w ∈ wsX8_go := by decide +kernel
theorem fX8_go_40 : mFld wsX8_go RX8 40 9 4 4 (.object "RoomMapper$Route") true := ⟨8, _, RX8, TX8, 9, tyX8, rfl, rfl, rfl, by decide, wiX8_go_8, tyX8_ok, nmX8, rfl, rfl, Or.inl ⟨by decide +kernel, fun _ => rfl⟩⟩
theorem fX8_go_26 : mFld wsX8_go RX8 26 9 2 1 (.object "RoomMapper$Atlas") true := ⟨8, _, RX8, TX8, 9, tyX8, rfl, rfl, rfl, by decide, wiX8_go_8, tyX8_ok, nmX8, rfl, rfl, Or.inl ⟨by decide +kernel, fun _ => rfl⟩⟩
theorem wiX8_go_0 : ∀ w ∈ u_ws RX0 TX0 6, w ∈ wsX8_go := by decide +kernel
theorem fX8_go_142 : mFld wsX8_go RX8 142 1 0 11 (.array (.object "RoomMapper$Sheet")) false := ⟨0, _, RX0, TX0, 6, tyX0, rfl, rfl, rfl, by decide, wiX8_go_0, tyX0_ok, nmX0, rfl, rfl, Or.inr ⟨"RoomMapper", nwF8_142⟩⟩
theorem mX8_go_iniX3_find : Cond.initialized yX3_find.cls ∈ wsX8_go := by decide +kernel
theorem mX8_go_imX3_find : Cond.instanceMethod yX3_find ∈ wsX8_go := by decide +kernel
theorem mX8_go_seX3_find : Cond.selects RX3 yX3_find yX3_find ∈ wsX8_go := by decide +kernel
theorem wiX8_go_3 : ∀ w ∈ u_ws RX3 TX3 3, w ∈ wsX8_go := by decide +kernel
theorem fX8_go_190 : mFld wsX8_go RX8 190 4 2 0 .int false := ⟨3, _, RX3, TX3, 3, tyX3, rfl, rfl, rfl, by decide, wiX8_go_3, tyX3_ok, nmX3, rfl, rfl, Or.inr ⟨"RoomMapper", nwF8_190⟩⟩
def bX8_go (this : Nat) (a1 : Int32) (a2 : Int32) (u : mSt) (K : Int32 → mSt → Prop) : Prop := bX8_isPlace this a1 a2 u (fun r_3 u_2 => ((r_3 = 0 → K (-1 : Int32) u_2) ∧ (¬ (r_3 = 0) → (∃ q_4, mR u_2 this 4 = some q_4 ∧ (∃ q_5, mR u_2 this 2 = some q_5 ∧ (∃ q_6, mR u_2 q_5 0 = some q_6 ∧ (vp_in a1 151 ∧ ∃ q_8, mR u_2 q_6 a1.toNatClampNeg = some q_8 ∧ bX3_find q_4 q_8 a2 u_2 (fun r_11 u_10 => ((r_11 = 0 → K (-2 : Int32) u_10) ∧ (¬ (r_11 = 0) → (∃ q_12, mR u_10 this 4 = some q_12 ∧ K (mI u_10 q_12 2) u_10)))))))))))
set_option maxRecDepth 100000 in
set_option maxHeartbeats 4000000 in
theorem tX8_go {X : mCx} {G : mG} {u0 : mSt} {K : Int32 → mSt → Prop} (F : mFx X G cX8_go wsX8_go RX8 "go" 4 95 (some .int) u0 (mPi K)) (hN : X.2.2.2.2.2.2.2.2.2.2.2.2.1 = 3) {this : Nat} {a1 : Int32} {a2 : Int32} {u : mSt} (kthis : mK u this = 9) (h : bX8_go this a1 a2 u K) : mZ X u 0 [(0, .ref (G.1 + this)), (1, .int a1), (2, .int a2)] [] := by
  refine mz_aload_n F dX8_go_0 rfl 0 rfl ?_
  refine mz_iload_n F dX8_go_1 rfl 1 rfl ?_
  refine mz_iload_n F dX8_go_2 rfl 2 rfl ?_
  refine mz_callV (As := [_, _]) (n := 2) F dX8_go_3 rfl kthis rfl rfl gX8_go_X8_isPlace (by decide +kernel) (by decide) rfl (Nat.le_of_ble_eq_true rfl) (kX8_isPlace _ G kthis h) (mz_kZ fun r_3 u_2 br_3 h hx_1 => ?_)
  replace kthis := hx_1.2.2 _ _ (by decide) kthis
  refine mz_if_ne (tgt := 11) F dX8_go_6 (by decide) (fun c_14 => ?_) (fun c_14 => ?_)
  · replace h := h.2 c_14
    refine mz_aload_n F dX8_go_11 rfl 0 rfl ?_
    obtain ⟨q_4, eq_4, h⟩ := h
    refine mz_getR F dX8_go_12 fX8_go_40 (by decide) kthis eq_4 (fun kq_4 => ?_)
    refine mz_aload_n F dX8_go_15 rfl 0 rfl ?_
    obtain ⟨q_5, eq_5, h⟩ := h
    refine mz_getR F dX8_go_16 fX8_go_26 (by decide) kthis eq_5 (fun kq_5 => ?_)
    obtain ⟨q_6, eq_6, h⟩ := h
    refine mz_getR F dX8_go_19 fX8_go_142 (by decide) kq_5 eq_6 (fun kq_6 => ?_)
    refine mz_iload_n F dX8_go_22 rfl 1 rfl ?_
    obtain ⟨b_7, q_8, eq_8, h⟩ := h
    refine mz_aald4 F dX8_go_23 kq_6 rfl (by decide) b_7 eq_8 (fun kq_8 => ?_)
    refine mz_iload_n F dX8_go_24 rfl 2 rfl ?_
    refine mz_callVN (As := [_, _]) (n := 2) F dX8_go_25 rfl kq_4 rfl rfl gX8_go_X3_find_n186 nwM8_186 mX8_go_iniX3_find mX8_go_imX3_find mX8_go_seX3_find (by decide +kernel) (by decide) rfl (Nat.le_of_ble_eq_true rfl) (kX3_find _ G kq_4 kq_8 h) (mz_kZ fun r_11 u_10 br_11 h hx_9 => ?_)
    replace kthis := hx_9.2.2 _ _ (by decide) kthis
    refine mz_if_eq (tgt := 41) F dX8_go_28 (by decide) (fun c_13 => ?_) (fun c_13 => ?_)
    · replace h := h.1 c_13
      refine mz_bipush (v := (-2)) F dX8_go_41 (by decide) ?_
      exact mz_iret F dX8_go_43 ⟨_, rfl, h⟩
    · replace h := h.2 c_13
      refine mz_aload_n F dX8_go_31 rfl 0 rfl ?_
      obtain ⟨q_12, eq_12, h⟩ := h
      refine mz_getR F dX8_go_32 fX8_go_40 (by decide) kthis eq_12 (fun kq_12 => ?_)
      refine mz_getI F dX8_go_35 fX8_go_190 kq_12 ?_
      refine mz_goto (tgt := 43) F dX8_go_38 (by decide) ?_
      exact mz_iret F dX8_go_43 ⟨_, rfl, h⟩
  · replace h := h.1 c_14
    refine mz_iconst (v := (-1)) F dX8_go_9 (by decide) ?_
    exact mz_iret F dX8_go_10 ⟨_, rfl, h⟩
set_option maxRecDepth 100000 in
theorem kX8_go (l : Launch) (G : mG) {u : mSt} {K : Int32 → mSt → Prop} {this : Nat} {a1 : Int32} {a2 : Int32} (kthis : mK u this = 9) (h : bX8_go this a1 a2 u K) : mCt l G yX8_go wsX8_go 4 95 [.ref (G.1 + this), .int a1, .int a2] u (mPi K) := by
  refine mCt.of (cc := cX8_go) (maxL := 3) (ret := (some .int)) (by decide) rfl (Nat.le_of_ble_eq_true rfl) ?_
  intro X hl hN F
  exact tX8_go F hN kthis h
/-! RoomMapper.way(I)I -/
theorem wiX8_way_8 : ∀ w ∈ u_ws RX8 TX8 9, w ∈ wsX8_way := by decide +kernel
theorem fX8_way_40 : mFld wsX8_way RX8 40 9 4 4 (.object "RoomMapper$Route") true := ⟨8, _, RX8, TX8, 9, tyX8, rfl, rfl, rfl, by decide, wiX8_way_8, tyX8_ok, nmX8, rfl, rfl, Or.inl ⟨by decide +kernel, fun _ => rfl⟩⟩
theorem wiX8_way_3 : ∀ w ∈ u_ws RX3 TX3 3, w ∈ wsX8_way := by decide +kernel
theorem fX8_way_190 : mFld wsX8_way RX8 190 4 2 0 .int false := ⟨3, _, RX3, TX3, 3, tyX3, rfl, rfl, rfl, by decide, wiX8_way_3, tyX3_ok, nmX3, rfl, rfl, Or.inr ⟨"RoomMapper", nwF8_190⟩⟩
theorem fX8_way_191 : mFld wsX8_way RX8 191 4 1 17 (.array .int) true := ⟨3, _, RX3, TX3, 3, tyX3, rfl, rfl, rfl, by decide, wiX8_way_3, tyX3_ok, nmX3, rfl, rfl, Or.inr ⟨"RoomMapper", nwF8_191⟩⟩
def bX8_way (this : Nat) (a1 : Int32) (u : mSt) (K : Int32 → mSt → Prop) : Prop := (∃ q_1, mR u this 4 = some q_1 ∧ bX8_within a1 (mI u q_1 2) u (fun r_4 u_3 => ((r_4 = 0 → K (-1 : Int32) u_3) ∧ (¬ (r_4 = 0) → (∃ q_5, mR u_3 this 4 = some q_5 ∧ (∃ q_6, mR u_3 q_5 1 = some q_6 ∧ (vp_in a1 6 ∧ K (mI u_3 q_6 a1.toNatClampNeg) u_3)))))))
set_option maxRecDepth 100000 in
set_option maxHeartbeats 4000000 in
theorem tX8_way {X : mCx} {G : mG} {u0 : mSt} {K : Int32 → mSt → Prop} (F : mFx X G cX8_way wsX8_way RX8 "way" 1 21 (some .int) u0 (mPi K)) (hN : X.2.2.2.2.2.2.2.2.2.2.2.2.1 = 2) {this : Nat} {a1 : Int32} {u : mSt} (kthis : mK u this = 9) (h : bX8_way this a1 u K) : mZ X u 0 [(0, .ref (G.1 + this)), (1, .int a1)] [] := by
  refine mz_iload_n F dX8_way_0 rfl 1 rfl ?_
  refine mz_aload_n F dX8_way_1 rfl 0 rfl ?_
  obtain ⟨q_1, eq_1, h⟩ := h
  refine mz_getR F dX8_way_2 fX8_way_40 (by decide) kthis eq_1 (fun kq_1 => ?_)
  refine mz_getI F dX8_way_5 fX8_way_190 kq_1 ?_
  refine mz_callS (As := [_, _]) (n := 2) F dX8_way_8 rfl gX8_way_X8_within (by decide +kernel) (by decide) rfl (Nat.le_of_ble_eq_true rfl) (kX8_within _ G h) (mz_kZ fun r_4 u_3 br_4 h hx_2 => ?_)
  replace kthis := hx_2.2.2 _ _ (by decide) kthis
  refine mz_if_eq (tgt := 26) F dX8_way_11 (by decide) (fun c_8 => ?_) (fun c_8 => ?_)
  · replace h := h.1 c_8
    refine mz_iconst (v := (-1)) F dX8_way_26 (by decide) ?_
    exact mz_iret F dX8_way_27 ⟨_, rfl, h⟩
  · replace h := h.2 c_8
    refine mz_aload_n F dX8_way_14 rfl 0 rfl ?_
    obtain ⟨q_5, eq_5, h⟩ := h
    refine mz_getR F dX8_way_15 fX8_way_40 (by decide) kthis eq_5 (fun kq_5 => ?_)
    obtain ⟨q_6, eq_6, h⟩ := h
    refine mz_getR F dX8_way_18 fX8_way_191 (by decide) kq_5 eq_6 (fun kq_6 => ?_)
    refine mz_iload_n F dX8_way_21 rfl 1 rfl ?_
    obtain ⟨b_7, h⟩ := h
    refine mz_iald F dX8_way_22 kq_6 rfl b_7 ?_
    refine mz_goto (tgt := 27) F dX8_way_23 (by decide) ?_
    exact mz_iret F dX8_way_27 ⟨_, rfl, h⟩
set_option maxRecDepth 100000 in
theorem kX8_way (l : Launch) (G : mG) {u : mSt} {K : Int32 → mSt → Prop} {this : Nat} {a1 : Int32} (kthis : mK u this = 9) (h : bX8_way this a1 u K) : mCt l G yX8_way wsX8_way 1 21 [.ref (G.1 + this), .int a1] u (mPi K) := by
  refine mCt.of (cc := cX8_way) (maxL := 2) (ret := (some .int)) (by decide) rfl (Nat.le_of_ble_eq_true rfl) ?_
  intro X hl hN F
  exact tX8_way F hN kthis h
/-! RoomMapper.handLead(III)I -/
def bX8_handLead (a0 : Int32) (a1 : Int32) (a2 : Int32) (u : mSt) (K : Int32 → mSt → Prop) : Prop := ((a2 = (7 : Int32) → K (-3 : Int32) u) ∧ (¬ (a2 = (7 : Int32)) → ((a2 = (6 : Int32) → ((a1 = (4 : Int32) → K a0 u) ∧ (¬ (a1 = (4 : Int32)) → K (-2 : Int32) u))) ∧ (¬ (a2 = (6 : Int32)) → K a2 u))))
set_option maxRecDepth 100000 in
set_option maxHeartbeats 4000000 in
theorem tX8_handLead {X : mCx} {G : mG} {u0 : mSt} {K : Int32 → mSt → Prop} (F : mFx X G cX8_handLead wsX8_handLead RX8 "handLead" 0 0 (some .int) u0 (mPi K)) (hN : X.2.2.2.2.2.2.2.2.2.2.2.2.1 = 3) {a0 : Int32} {a1 : Int32} {a2 : Int32} {u : mSt} (h : bX8_handLead a0 a1 a2 u K) : mZ X u 0 [(0, .int a0), (1, .int a1), (2, .int a2)] [] := by
  refine mz_iload_n F dX8_handLead_0 rfl 2 rfl ?_
  refine mz_bipush (v := 7) F dX8_handLead_1 (by decide) ?_
  refine mz_icmp_ne (tgt := 9) F dX8_handLead_3 (by decide) (fun c_3 => ?_) (fun c_3 => ?_)
  · replace h := h.2 c_3
    refine mz_iload_n F dX8_handLead_9 rfl 2 rfl ?_
    refine mz_bipush (v := 6) F dX8_handLead_10 (by decide) ?_
    refine mz_icmp_ne (tgt := 27) F dX8_handLead_12 (by decide) (fun c_2 => ?_) (fun c_2 => ?_)
    · replace h := h.2 c_2
      refine mz_iload_n F dX8_handLead_27 rfl 2 rfl ?_
      exact mz_iret F dX8_handLead_28 ⟨_, rfl, h⟩
    · replace h := h.1 c_2
      refine mz_iload_n F dX8_handLead_15 rfl 1 rfl ?_
      refine mz_iconst (v := 4) F dX8_handLead_16 (by decide) ?_
      refine mz_icmp_ne (tgt := 24) F dX8_handLead_17 (by decide) (fun c_1 => ?_) (fun c_1 => ?_)
      · replace h := h.2 c_1
        refine mz_bipush (v := (-2)) F dX8_handLead_24 (by decide) ?_
        exact mz_iret F dX8_handLead_26 ⟨_, rfl, h⟩
      · replace h := h.1 c_1
        refine mz_iload_n F dX8_handLead_20 rfl 0 rfl ?_
        refine mz_goto (tgt := 26) F dX8_handLead_21 (by decide) ?_
        exact mz_iret F dX8_handLead_26 ⟨_, rfl, h⟩
  · replace h := h.1 c_3
    refine mz_bipush (v := (-3)) F dX8_handLead_6 (by decide) ?_
    exact mz_iret F dX8_handLead_8 ⟨_, rfl, h⟩
set_option maxRecDepth 100000 in
theorem kX8_handLead (l : Launch) (G : mG) {u : mSt} {K : Int32 → mSt → Prop} {a0 : Int32} {a1 : Int32} {a2 : Int32} (h : bX8_handLead a0 a1 a2 u K) : mCt l G yX8_handLead wsX8_handLead 0 0 [.int a0, .int a1, .int a2] u (mPi K) := by
  refine mCt.of (cc := cX8_handLead) (maxL := 3) (ret := (some .int)) (by decide) rfl (Nat.le_of_ble_eq_true rfl) ?_
  intro X hl hN F
  exact tX8_handLead F hN  h
