/-! RoomMapperModel.rowsOf(I)I -/
def bX9_rowsOf_4 : Nat → Int32 → Int32 → Int32 → mSt → (Int32 → mSt → Prop) → Prop
  | 0, _, _, _, _, _ => False
  | n + 1, v0, v1, v2, u, K => ((v0 ≤ v2 → K v1 u) ∧ (¬ (v0 ≤ v2) → (∀ x_1, x_1 = (v1 * (5 : Int32)) → (∀ x_2, x_2 = v2 + (1 : Int32) → bX9_rowsOf_4 n v0 x_1 x_2 u K))))
set_option maxRecDepth 100000 in
set_option maxHeartbeats 4000000 in
theorem tX9_rowsOf_4 {X : mCx} {G : mG} {u0 : mSt} {K : Int32 → mSt → Prop} (F : mFx X G cX9_rowsOf wsX9_rowsOf RX9 "rowsOf" 0 0 (some .int) u0 (mPi K)) (hN : X.2.2.2.2.2.2.2.2.2.2.2.2.1 = 3) : ∀ (n : Nat) {v0 : Int32} {v1 : Int32} {v2 : Int32} {u : mSt}, bX9_rowsOf_4 n v0 v1 v2 u K → mZ X u 4 [(0, .int v0), (1, .int v1), (2, .int v2)] [] := by
  intro n
  induction n with
  | zero => intro v0 v1 v2 u  h; exact False.elim h
  | succ n ih =>
    intro v0 v1 v2 u  h
    refine mz_iload_n F dX9_rowsOf_4 rfl 2 rfl ?_
    refine mz_iload_n F dX9_rowsOf_5 rfl 0 rfl ?_
    refine mz_icmp_ge (tgt := 19) F dX9_rowsOf_6 (by decide) (fun c_3 => ?_) (fun c_3 => ?_)
    · replace h := h.1 c_3
      refine mz_iload_n F dX9_rowsOf_19 rfl 1 rfl ?_
      exact mz_iret F dX9_rowsOf_20 ⟨_, rfl, h⟩
    · replace h := h.2 c_3
      refine mz_iload_n F dX9_rowsOf_9 rfl 1 rfl ?_
      refine mz_iconst (v := 5) F dX9_rowsOf_10 (by decide) ?_
      refine mz_imul F dX9_rowsOf_11 ?_
      refine mz_topi (fun x_1 ex_1 => ?_)
      replace h := h x_1 ex_1
      refine mz_istore_n (lv2 := [(1, .int x_1), (0, .int v0), (2, .int v2)]) F dX9_rowsOf_12 rfl hN (by decide) rfl ?_
      obtain ⟨x_2, ex_2⟩ : ∃ y : Int32, y = v2 + (1 : Int32) := ⟨_, rfl⟩
      replace h := h x_2 ex_2
      refine mz_iinc (v := x_2) (lv2 := [(2, .int x_2), (1, .int x_1), (0, .int v0)]) F dX9_rowsOf_13 2 rfl (by rw [ex_2]; rfl) hN (by decide) rfl ?_
      refine mz_goto (tgt := 4) F dX9_rowsOf_16 (by decide) ?_
      refine mz_sub [2, 1, 0] rfl ?_
      exact ih  h
def bX9_rowsOf (a0 : Int32) (u : mSt) (K : Int32 → mSt → Prop) : Prop := (∃ n9, bX9_rowsOf_4 n9 a0 (1 : Int32) (0 : Int32) u K)
set_option maxRecDepth 100000 in
set_option maxHeartbeats 4000000 in
theorem tX9_rowsOf {X : mCx} {G : mG} {u0 : mSt} {K : Int32 → mSt → Prop} (F : mFx X G cX9_rowsOf wsX9_rowsOf RX9 "rowsOf" 0 0 (some .int) u0 (mPi K)) (hN : X.2.2.2.2.2.2.2.2.2.2.2.2.1 = 3) {a0 : Int32} {u : mSt} (h : bX9_rowsOf a0 u K) : mZ X u 0 [(0, .int a0)] [] := by
  refine mz_iconst (v := 1) F dX9_rowsOf_0 (by decide) ?_
  refine mz_istore_n (lv2 := [(1, .int (1 : Int32)), (0, .int a0)]) F dX9_rowsOf_1 rfl hN (by decide) rfl ?_
  refine mz_iconst (v := 0) F dX9_rowsOf_2 (by decide) ?_
  refine mz_istore_n (lv2 := [(2, .int (0 : Int32)), (1, .int (1 : Int32)), (0, .int a0)]) F dX9_rowsOf_3 rfl hN (by decide) rfl ?_
  refine mz_sub [2, 1, 0] rfl ?_
  obtain ⟨n9, h⟩ := h
  exact tX9_rowsOf_4 F hN n9  h
set_option maxRecDepth 100000 in
theorem kX9_rowsOf (l : Launch) (G : mG) {u : mSt} {K : Int32 → mSt → Prop} {a0 : Int32} (h : bX9_rowsOf a0 u K) : mCt l G yX9_rowsOf wsX9_rowsOf 0 0 [.int a0] u (mPi K) := by
  refine mCt.of (cc := cX9_rowsOf) (maxL := 3) (ret := (some .int)) (by decide) rfl (Nat.le_of_ble_eq_true rfl) ?_
  intro X hl hN F
  exact tX9_rowsOf F hN  h
/-! RoomMapperModel.part(II)I -/
theorem wiX9_part_9 : ∀ w ∈ u_ws RX9 TX9 52, w ∈ wsX9_part := by decide +kernel
theorem fX9_part_159 : mFld wsX9_part RX9 159 10 6 0 .boolean false := ⟨9, _, RX9, TX9, 52, tyX9, rfl, rfl, rfl, by decide, wiX9_part_9, tyX9_ok, nmX9, rfl, rfl, Or.inl ⟨by decide +kernel, fun _ => rfl⟩⟩
theorem fX9_part_112 : mFld wsX9_part RX9 112 10 0 0 .int false := ⟨9, _, RX9, TX9, 52, tyX9, rfl, rfl, rfl, by decide, wiX9_part_9, tyX9_ok, nmX9, rfl, rfl, Or.inl ⟨by decide +kernel, fun _ => rfl⟩⟩
theorem mX9_part_ldcl157 : Cond.constantLong RX9 157 (6) ∈ wsX9_part := by decide +kernel
theorem fX9_part_180 : mFld wsX9_part RX9 180 10 20 0 .boolean false := ⟨9, _, RX9, TX9, 52, tyX9, rfl, rfl, rfl, by decide, wiX9_part_9, tyX9_ok, nmX9, rfl, rfl, Or.inl ⟨by decide +kernel, fun _ => rfl⟩⟩
theorem fX9_part_177 : mFld wsX9_part RX9 177 10 19 0 .int false := ⟨9, _, RX9, TX9, 52, tyX9, rfl, rfl, rfl, by decide, wiX9_part_9, tyX9_ok, nmX9, rfl, rfl, Or.inl ⟨by decide +kernel, fun _ => rfl⟩⟩
def bX9_part_49 (v0 : Nat) (u : mSt) (K : Int32 → mSt → Prop) : Prop := (((mI u v0 6) = 0 → K (-2 : Int32) u) ∧ (¬ ((mI u v0 6) = 0) → K (-3 : Int32) u))
set_option maxRecDepth 100000 in
set_option maxHeartbeats 4000000 in
theorem tX9_part_49 {X : mCx} {G : mG} {u0 : mSt} {K : Int32 → mSt → Prop} (F : mFx X G cX9_part wsX9_part RX9 "part" 2 57 (some .int) u0 (mPi K)) (hN : X.2.2.2.2.2.2.2.2.2.2.2.2.1 = 3) {v0 : Nat} {u : mSt} (kv0 : mK u v0 = 10) (h : bX9_part_49 v0 u K) : mZ X u 49 [(0, .ref (G.1 + v0))] [] := by
  refine mz_aload_n F dX9_part_49 rfl 0 rfl ?_
  refine mz_getI F dX9_part_50 fX9_part_159 kv0 ?_
  refine mz_if_ne (tgt := 61) F dX9_part_53 (by decide) (fun c_1 => ?_) (fun c_1 => ?_)
  · replace h := h.2 c_1
    refine mz_bipush (v := (-3)) F dX9_part_61 (by decide) ?_
    exact mz_iret F dX9_part_63 ⟨_, rfl, h⟩
  · replace h := h.1 c_1
    refine mz_bipush (v := (-2)) F dX9_part_56 (by decide) ?_
    refine mz_goto (tgt := 63) F dX9_part_58 (by decide) ?_
    exact mz_iret F dX9_part_63 ⟨_, rfl, h⟩
def bX9_part (this : Nat) (a1 : Int32) (a2 : Int32) (u : mSt) (K : Int32 → mSt → Prop) : Prop := (∀ u_1, u_1 = mpI u this 0 (0 : Int32) → bX9_isIn a1.toInt64 (1 : Int64) (6 : Int64) u_1 (fun r_4 u_3 => ((r_4 = 0 → K (-1 : Int32) u_3) ∧ (¬ (r_4 = 0) → bX9_rowsOf a1 u_3 (fun r_7 u_6 => bX9_isIn a2.toInt64 (0 : Int64) ((r_7 - (1 : Int32)).toInt64) u_6 (fun r_10 u_9 => ((r_10 = 0 → K (-1 : Int32) u_9) ∧ (¬ (r_10 = 0) → (((mI u_9 this 6) = 0 → bX9_part_49 this u_9 K) ∧ (¬ ((mI u_9 this 6) = 0) → (((mI u_9 this 20) = 0 → (((mI u_9 this 19) = 0 → K (-1 : Int32) u_9) ∧ (¬ ((mI u_9 this 19) = 0) → bX9_partsOf this a1 a2 u_9 (fun r_13 u_12 => K r_13 u_12)))) ∧ (¬ ((mI u_9 this 20) = 0) → bX9_part_49 this u_9 K))))))))))))
set_option maxRecDepth 100000 in
set_option maxHeartbeats 4000000 in
theorem tX9_part {X : mCx} {G : mG} {u0 : mSt} {K : Int32 → mSt → Prop} (F : mFx X G cX9_part wsX9_part RX9 "part" 2 57 (some .int) u0 (mPi K)) (hN : X.2.2.2.2.2.2.2.2.2.2.2.2.1 = 3) {this : Nat} {a1 : Int32} {a2 : Int32} {u : mSt} (kthis : mK u this = 10) (h : bX9_part this a1 a2 u K) : mZ X u 0 [(0, .ref (G.1 + this)), (1, .int a1), (2, .int a2)] [] := by
  refine mz_aload_n F dX9_part_0 rfl 0 rfl ?_
  refine mz_iconst (v := 0) F dX9_part_1 (by decide) ?_
  refine mz_putI F dX9_part_2 fX9_part_112 kthis rfl rfl (fun u_1 eu_1 hxu_1 => ?_)
  replace h := h u_1 eu_1
  replace kthis := hxu_1.2.2 _ _ (by decide) kthis
  refine mz_iload_n F dX9_part_5 rfl 1 rfl ?_
  refine mz_i2l F dX9_part_6 ?_
  refine mz_lconst (v := 1) F dX9_part_7 (by decide) ?_
  refine mz_ldc2 (v := 6) F dX9_part_8 mX9_part_ldcl157 ?_
  refine mz_callS (As := [_, _, _]) (n := 3) F dX9_part_11 rfl gX9_part_X9_isIn (by decide +kernel) (by decide) rfl (Nat.le_of_ble_eq_true rfl) (kX9_isIn _ G h) (mz_kZ fun r_4 u_3 br_4 h hx_2 => ?_)
  replace kthis := hx_2.2.2 _ _ (by decide) kthis
  refine mz_if_eq (tgt := 33) F dX9_part_14 (by decide) (fun c_18 => ?_) (fun c_18 => ?_)
  · replace h := h.1 c_18
    refine mz_iconst (v := (-1)) F dX9_part_33 (by decide) ?_
    exact mz_iret F dX9_part_34 ⟨_, rfl, h⟩
  · replace h := h.2 c_18
    refine mz_iload_n F dX9_part_17 rfl 2 rfl ?_
    refine mz_i2l F dX9_part_18 ?_
    refine mz_lconst (v := 0) F dX9_part_19 (by decide) ?_
    refine mz_iload_n F dX9_part_20 rfl 1 rfl ?_
    refine mz_callS (As := [_]) (n := 1) F dX9_part_21 rfl gX9_part_X9_rowsOf (by decide +kernel) (by decide) rfl (Nat.le_of_ble_eq_true rfl) (kX9_rowsOf _ G h) (mz_kI fun r_7 u_6 h hx_5 => ?_)
    replace kthis := hx_5.2.2 _ _ (by decide) kthis
    refine mz_iconst (v := 1) F dX9_part_24 (by decide) ?_
    refine mz_isub F dX9_part_25 ?_
    refine mz_i2l F dX9_part_26 ?_
    refine mz_callS (As := [_, _, _]) (n := 3) F dX9_part_27 rfl gX9_part_X9_isIn (by decide +kernel) (by decide) rfl (Nat.le_of_ble_eq_true rfl) (kX9_isIn _ G h) (mz_kZ fun r_10 u_9 br_10 h hx_8 => ?_)
    replace kthis := hx_8.2.2 _ _ (by decide) kthis
    refine mz_if_ne (tgt := 35) F dX9_part_30 (by decide) (fun c_17 => ?_) (fun c_17 => ?_)
    · replace h := h.2 c_17
      refine mz_aload_n F dX9_part_35 rfl 0 rfl ?_
      refine mz_getI F dX9_part_36 fX9_part_159 kthis ?_
      refine mz_if_eq (tgt := 49) F dX9_part_39 (by decide) (fun c_16 => ?_) (fun c_16 => ?_)
      · replace h := h.1 c_16
        refine mz_sub [0] rfl ?_
        exact tX9_part_49 F hN kthis h
      · replace h := h.2 c_16
        refine mz_aload_n F dX9_part_42 rfl 0 rfl ?_
        refine mz_getI F dX9_part_43 fX9_part_180 kthis ?_
        refine mz_if_eq (tgt := 64) F dX9_part_46 (by decide) (fun c_15 => ?_) (fun c_15 => ?_)
        · replace h := h.1 c_15
          refine mz_aload_n F dX9_part_64 rfl 0 rfl ?_
          refine mz_getI F dX9_part_65 fX9_part_177 kthis ?_
          refine mz_if_ne (tgt := 75) F dX9_part_68 (by decide) (fun c_14 => ?_) (fun c_14 => ?_)
          · replace h := h.2 c_14
            refine mz_aload_n F dX9_part_75 rfl 0 rfl ?_
            refine mz_iload_n F dX9_part_76 rfl 1 rfl ?_
            refine mz_iload_n F dX9_part_77 rfl 2 rfl ?_
            refine mz_callV (As := [_, _]) (n := 2) F dX9_part_78 rfl kthis rfl rfl gX9_part_X9_partsOf (by decide +kernel) (by decide) rfl (Nat.le_of_ble_eq_true rfl) (kX9_partsOf _ G kthis h) (mz_kI fun r_13 u_12 h hx_11 => ?_)
            exact mz_iret F dX9_part_81 ⟨_, rfl, h⟩
          · replace h := h.1 c_14
            refine mz_iconst (v := (-1)) F dX9_part_71 (by decide) ?_
            refine mz_goto (tgt := 81) F dX9_part_72 (by decide) ?_
            exact mz_iret F dX9_part_81 ⟨_, rfl, h⟩
        · replace h := h.2 c_15
          refine mz_sub [0] rfl ?_
          exact tX9_part_49 F hN kthis h
    · replace h := h.1 c_17
      refine mz_iconst (v := (-1)) F dX9_part_33 (by decide) ?_
      exact mz_iret F dX9_part_34 ⟨_, rfl, h⟩
set_option maxRecDepth 100000 in
theorem kX9_part (l : Launch) (G : mG) {u : mSt} {K : Int32 → mSt → Prop} {this : Nat} {a1 : Int32} {a2 : Int32} (kthis : mK u this = 10) (h : bX9_part this a1 a2 u K) : mCt l G yX9_part wsX9_part 2 57 [.ref (G.1 + this), .int a1, .int a2] u (mPi K) := by
  refine mCt.of (cc := cX9_part) (maxL := 3) (ret := (some .int)) (by decide) rfl (Nat.le_of_ble_eq_true rfl) ?_
  intro X hl hN F
  exact tX9_part F hN kthis h
/-! RoomMapperModel.next(I)I -/
theorem wiX9_next_9 : ∀ w ∈ u_ws RX9 TX9 52, w ∈ wsX9_next := by decide +kernel
theorem fX9_next_159 : mFld wsX9_next RX9 159 10 6 0 .boolean false := ⟨9, _, RX9, TX9, 52, tyX9, rfl, rfl, rfl, by decide, wiX9_next_9, tyX9_ok, nmX9, rfl, rfl, Or.inl ⟨by decide +kernel, fun _ => rfl⟩⟩
theorem fX9_next_112 : mFld wsX9_next RX9 112 10 0 0 .int false := ⟨9, _, RX9, TX9, 52, tyX9, rfl, rfl, rfl, by decide, wiX9_next_9, tyX9_ok, nmX9, rfl, rfl, Or.inl ⟨by decide +kernel, fun _ => rfl⟩⟩
theorem mX9_next_ldcl119 : Cond.constantLong RX9 119 (3) ∈ wsX9_next := by decide +kernel
theorem fX9_next_180 : mFld wsX9_next RX9 180 10 20 0 .boolean false := ⟨9, _, RX9, TX9, 52, tyX9, rfl, rfl, rfl, by decide, wiX9_next_9, tyX9_ok, nmX9, rfl, rfl, Or.inl ⟨by decide +kernel, fun _ => rfl⟩⟩
theorem fX9_next_177 : mFld wsX9_next RX9 177 10 19 0 .int false := ⟨9, _, RX9, TX9, 52, tyX9, rfl, rfl, rfl, by decide, wiX9_next_9, tyX9_ok, nmX9, rfl, rfl, Or.inl ⟨by decide +kernel, fun _ => rfl⟩⟩
def bX9_next_33 (v0 : Nat) (u : mSt) (K : Int32 → mSt → Prop) : Prop := (((mI u v0 6) = 0 → K (-2 : Int32) u) ∧ (¬ ((mI u v0 6) = 0) → K (-3 : Int32) u))
set_option maxRecDepth 100000 in
set_option maxHeartbeats 4000000 in
theorem tX9_next_33 {X : mCx} {G : mG} {u0 : mSt} {K : Int32 → mSt → Prop} (F : mFx X G cX9_next wsX9_next RX9 "next" 2 57 (some .int) u0 (mPi K)) (hN : X.2.2.2.2.2.2.2.2.2.2.2.2.1 = 7) {v0 : Nat} {u : mSt} (kv0 : mK u v0 = 10) (h : bX9_next_33 v0 u K) : mZ X u 33 [(0, .ref (G.1 + v0))] [] := by
  refine mz_aload_n F dX9_next_33 rfl 0 rfl ?_
  refine mz_getI F dX9_next_34 fX9_next_159 kv0 ?_
  refine mz_if_ne (tgt := 45) F dX9_next_37 (by decide) (fun c_1 => ?_) (fun c_1 => ?_)
  · replace h := h.2 c_1
    refine mz_bipush (v := (-3)) F dX9_next_45 (by decide) ?_
    exact mz_iret F dX9_next_47 ⟨_, rfl, h⟩
  · replace h := h.1 c_1
    refine mz_bipush (v := (-2)) F dX9_next_40 (by decide) ?_
    refine mz_goto (tgt := 47) F dX9_next_42 (by decide) ?_
    exact mz_iret F dX9_next_47 ⟨_, rfl, h⟩
def bX9_next_125 (v0 : Nat) (v1 : Int32) (v2 : Int32) (v4 : Int32) (v5 : Int32) (w0 : Int32) (u : mSt) (K : Int32 → mSt → Prop) (KL64 : Nat → Int32 → Int32 → Int32 → Int32 → mSt → Prop) (KL73 : Nat → Int32 → Int32 → Int32 → Int32 → Int32 → mSt → Prop) : Prop := (∀ x_1, x_1 = v5 + (1 : Int32) → KL73 v0 v1 v2 w0 v4 x_1 u)
set_option maxRecDepth 100000 in
set_option maxHeartbeats 4000000 in
theorem tX9_next_125 {X : mCx} {G : mG} {u0 : mSt} {K : Int32 → mSt → Prop} {KL64 : Nat → Int32 → Int32 → Int32 → Int32 → mSt → Prop} {KL73 : Nat → Int32 → Int32 → Int32 → Int32 → Int32 → mSt → Prop} (F : mFx X G cX9_next wsX9_next RX9 "next" 2 57 (some .int) u0 (mPi K)) (hN : X.2.2.2.2.2.2.2.2.2.2.2.2.1 = 7) (hL64 : ∀ {v0 : Nat} {v1 : Int32} {v2 : Int32} {v3 : Int32} {v4 : Int32} {u : mSt}, mK u v0 = 10 → KL64 v0 v1 v2 v3 v4 u → mZ X u 64 [(0, .ref (G.1 + v0)), (1, .int v1), (2, .int v2), (3, .int v3), (4, .int v4)] []) (hL73 : ∀ {v0 : Nat} {v1 : Int32} {v2 : Int32} {v3 : Int32} {v4 : Int32} {v5 : Int32} {u : mSt}, mK u v0 = 10 → KL73 v0 v1 v2 v3 v4 v5 u → mZ X u 73 [(0, .ref (G.1 + v0)), (1, .int v1), (2, .int v2), (3, .int v3), (4, .int v4), (5, .int v5)] []) {v0 : Nat} {v1 : Int32} {v2 : Int32} {v4 : Int32} {v5 : Int32} {w0 : Int32} {u : mSt} (kv0 : mK u v0 = 10) (h : bX9_next_125 v0 v1 v2 v4 v5 w0 u K KL64 KL73) : mZ X u 125 [(0, .ref (G.1 + v0)), (1, .int v1), (2, .int v2), (4, .int v4), (5, .int v5)] [.int w0] := by
  refine mz_istore_n (lv2 := [(3, .int w0), (0, .ref (G.1 + v0)), (1, .int v1), (2, .int v2), (4, .int v4), (5, .int v5)]) F dX9_next_125 rfl hN (by decide) rfl ?_
  obtain ⟨x_1, ex_1⟩ : ∃ y : Int32, y = v5 + (1 : Int32) := ⟨_, rfl⟩
  replace h := h x_1 ex_1
  refine mz_iinc (v := x_1) (lv2 := [(5, .int x_1), (3, .int w0), (0, .ref (G.1 + v0)), (1, .int v1), (2, .int v2), (4, .int v4)]) F dX9_next_126 5 rfl (by rw [ex_1]; rfl) hN (by decide) rfl ?_
  refine mz_goto (tgt := 73) F dX9_next_129 (by decide) ?_
  refine mz_sub [2, 3, 4, 1, 5, 0] rfl ?_
  exact hL73 kv0 h
def bX9_next_112 (v0 : Nat) (v1 : Int32) (v3 : Int32) (v4 : Int32) (v5 : Int32) (v6 : Int32) (w0 : Int32) (u : mSt) (K : Int32 → mSt → Prop) (KL64 : Nat → Int32 → Int32 → Int32 → Int32 → mSt → Prop) (KL73 : Nat → Int32 → Int32 → Int32 → Int32 → Int32 → mSt → Prop) : Prop := ((v6 ≤ v3 → bX9_next_125 v0 v1 w0 v4 v5 v3 u K KL64 KL73) ∧ (¬ (v6 ≤ v3) → bX9_next_125 v0 v1 w0 v4 v5 v6 u K KL64 KL73))
set_option maxRecDepth 100000 in
set_option maxHeartbeats 4000000 in
theorem tX9_next_112 {X : mCx} {G : mG} {u0 : mSt} {K : Int32 → mSt → Prop} {KL64 : Nat → Int32 → Int32 → Int32 → Int32 → mSt → Prop} {KL73 : Nat → Int32 → Int32 → Int32 → Int32 → Int32 → mSt → Prop} (F : mFx X G cX9_next wsX9_next RX9 "next" 2 57 (some .int) u0 (mPi K)) (hN : X.2.2.2.2.2.2.2.2.2.2.2.2.1 = 7) (hL64 : ∀ {v0 : Nat} {v1 : Int32} {v2 : Int32} {v3 : Int32} {v4 : Int32} {u : mSt}, mK u v0 = 10 → KL64 v0 v1 v2 v3 v4 u → mZ X u 64 [(0, .ref (G.1 + v0)), (1, .int v1), (2, .int v2), (3, .int v3), (4, .int v4)] []) (hL73 : ∀ {v0 : Nat} {v1 : Int32} {v2 : Int32} {v3 : Int32} {v4 : Int32} {v5 : Int32} {u : mSt}, mK u v0 = 10 → KL73 v0 v1 v2 v3 v4 v5 u → mZ X u 73 [(0, .ref (G.1 + v0)), (1, .int v1), (2, .int v2), (3, .int v3), (4, .int v4), (5, .int v5)] []) {v0 : Nat} {v1 : Int32} {v3 : Int32} {v4 : Int32} {v5 : Int32} {v6 : Int32} {w0 : Int32} {u : mSt} (kv0 : mK u v0 = 10) (h : bX9_next_112 v0 v1 v3 v4 v5 v6 w0 u K KL64 KL73) : mZ X u 112 [(0, .ref (G.1 + v0)), (1, .int v1), (3, .int v3), (4, .int v4), (5, .int v5), (6, .int v6)] [.int w0] := by
  refine mz_istore_n (lv2 := [(2, .int w0), (0, .ref (G.1 + v0)), (1, .int v1), (3, .int v3), (4, .int v4), (5, .int v5), (6, .int v6)]) F dX9_next_112 rfl hN (by decide) rfl ?_
  refine mz_iload F dX9_next_113 6 rfl ?_
  refine mz_iload_n F dX9_next_115 rfl 3 rfl ?_
  refine mz_icmp_le (tgt := 124) F dX9_next_116 (by decide) (fun c_1 => ?_) (fun c_1 => ?_)
  · replace h := h.1 c_1
    refine mz_iload_n F dX9_next_124 rfl 3 rfl ?_
    refine mz_sub [1, 2, 0, 4, 5] rfl ?_
    exact tX9_next_125 F hN hL64 hL73 kv0 h
  · replace h := h.2 c_1
    refine mz_iload F dX9_next_119 6 rfl ?_
    refine mz_goto (tgt := 125) F dX9_next_121 (by decide) ?_
    refine mz_sub [1, 2, 0, 4, 5] rfl ?_
    exact tX9_next_125 F hN hL64 hL73 kv0 h
def bX9_next_73 : Nat → Nat → Int32 → Int32 → Int32 → Int32 → Int32 → mSt → (Int32 → mSt → Prop) → (Nat → Int32 → Int32 → Int32 → Int32 → mSt → Prop) → Prop
  | 0, _, _, _, _, _, _, _, _, _ => False
  | n + 1, v0, v1, v2, v3, v4, v5, u, K, KL64 => bX9_rowsOf v4 u (fun r_3 u_2 => ((r_3 ≤ v5 → (∀ x_4, x_4 = v4 + (1 : Int32) → KL64 v0 v1 v2 v3 x_4 u_2)) ∧ (¬ (r_3 ≤ v5) → bX9_partsOf v0 v4 v5 u_2 (fun r_7 u_6 => ((r_7 ≤ v3 → bX9_next_112 v0 v1 v3 v4 v5 r_7 v2 u_6 K KL64 (fun z0 z1 z2 z3 z4 z5 z6 => bX9_next_73 n z0 z1 z2 z3 z4 z5 z6 K KL64)) ∧ (¬ (r_7 ≤ v3) → bX9_next_112 v0 v1 v3 v4 v5 r_7 (((200 : Int32) * v4) + v5) u_6 K KL64 (fun z0 z1 z2 z3 z4 z5 z6 => bX9_next_73 n z0 z1 z2 z3 z4 z5 z6 K KL64)))))))
set_option maxRecDepth 100000 in
set_option maxHeartbeats 4000000 in
theorem tX9_next_73 {X : mCx} {G : mG} {u0 : mSt} {K : Int32 → mSt → Prop} {KL64 : Nat → Int32 → Int32 → Int32 → Int32 → mSt → Prop} (F : mFx X G cX9_next wsX9_next RX9 "next" 2 57 (some .int) u0 (mPi K)) (hN : X.2.2.2.2.2.2.2.2.2.2.2.2.1 = 7) (hL64 : ∀ {v0 : Nat} {v1 : Int32} {v2 : Int32} {v3 : Int32} {v4 : Int32} {u : mSt}, mK u v0 = 10 → KL64 v0 v1 v2 v3 v4 u → mZ X u 64 [(0, .ref (G.1 + v0)), (1, .int v1), (2, .int v2), (3, .int v3), (4, .int v4)] []) : ∀ (n : Nat) {v0 : Nat} {v1 : Int32} {v2 : Int32} {v3 : Int32} {v4 : Int32} {v5 : Int32} {u : mSt}, mK u v0 = 10 → bX9_next_73 n v0 v1 v2 v3 v4 v5 u K KL64 → mZ X u 73 [(0, .ref (G.1 + v0)), (1, .int v1), (2, .int v2), (3, .int v3), (4, .int v4), (5, .int v5)] [] := by
  intro n
  induction n with
  | zero => intro v0 v1 v2 v3 v4 v5 u kv0 h; exact False.elim h
  | succ n ih =>
    intro v0 v1 v2 v3 v4 v5 u kv0 h
    refine mz_iload F dX9_next_73 5 rfl ?_
    refine mz_iload F dX9_next_75 4 rfl ?_
    refine mz_callS (As := [_]) (n := 1) F dX9_next_77 rfl gX9_next_X9_rowsOf (by decide +kernel) (by decide) rfl (Nat.le_of_ble_eq_true rfl) (kX9_rowsOf _ G h) (mz_kI fun r_3 u_2 h hx_1 => ?_)
    replace kv0 := hx_1.2.2 _ _ (by decide) kv0
    refine mz_icmp_ge (tgt := 132) F dX9_next_80 (by decide) (fun c_9 => ?_) (fun c_9 => ?_)
    · replace h := h.1 c_9
      obtain ⟨x_4, ex_4⟩ : ∃ y : Int32, y = v4 + (1 : Int32) := ⟨_, rfl⟩
      replace h := h x_4 ex_4
      refine mz_iinc (v := x_4) (lv2 := [(4, .int x_4), (0, .ref (G.1 + v0)), (1, .int v1), (2, .int v2), (3, .int v3), (5, .int v5)]) F dX9_next_132 4 rfl (by rw [ex_4]; rfl) hN (by decide) rfl ?_
      refine mz_goto (tgt := 64) F dX9_next_135 (by decide) ?_
      refine mz_sub [1, 2, 3, 4, 0] rfl ?_
      exact hL64 kv0 h
    · replace h := h.2 c_9
      refine mz_aload_n F dX9_next_83 rfl 0 rfl ?_
      refine mz_iload F dX9_next_84 4 rfl ?_
      refine mz_iload F dX9_next_86 5 rfl ?_
      refine mz_callV (As := [_, _]) (n := 2) F dX9_next_88 rfl kv0 rfl rfl gX9_next_X9_partsOf (by decide +kernel) (by decide) rfl (Nat.le_of_ble_eq_true rfl) (kX9_partsOf _ G kv0 h) (mz_kI fun r_7 u_6 h hx_5 => ?_)
      replace kv0 := hx_5.2.2 _ _ (by decide) kv0
      refine mz_istore (lv2 := [(6, .int r_7), (0, .ref (G.1 + v0)), (1, .int v1), (2, .int v2), (3, .int v3), (4, .int v4), (5, .int v5)]) F dX9_next_91 hN (by decide) rfl ?_
      refine mz_iload F dX9_next_93 0 rfl ?_
      refine mz_iload_n F dX9_next_95 rfl 4 rfl ?_
      refine mz_icmp_le (tgt := 111) F dX9_next_96 (by decide) (fun c_8 => ?_) (fun c_8 => ?_)
      · replace h := h.1 c_8
        refine mz_iload_n F dX9_next_111 rfl 3 rfl ?_
        refine mz_sub [1, 2, 4, 5, 6, 0] rfl ?_
        exact tX9_next_112 F hN hL64 (fun k0 h => ih k0 h) kv0 h
      · replace h := h.2 c_8
        refine mz_sipush (v := 200) F dX9_next_99 (by decide) ?_
        refine mz_iload F dX9_next_102 5 rfl ?_
        refine mz_imul F dX9_next_104 ?_
        refine mz_iload F dX9_next_105 6 rfl ?_
        refine mz_iadd F dX9_next_107 ?_
        refine mz_goto (tgt := 112) F dX9_next_108 (by decide) ?_
        refine mz_sub [1, 2, 4, 5, 6, 0] rfl ?_
        exact tX9_next_112 F hN hL64 (fun k0 h => ih k0 h) kv0 h
def bX9_next_64 : Nat → Nat → Int32 → Int32 → Int32 → Int32 → mSt → (Int32 → mSt → Prop) → Prop
  | 0, _, _, _, _, _, _, _ => False
  | n + 1, v0, v1, v2, v3, v4, u, K => ((v1 < v4 → K v2 u) ∧ (¬ (v1 < v4) → (∃ n9, bX9_next_73 n9 v0 v1 v2 v3 v4 (0 : Int32) u K (fun z0 z1 z2 z3 z4 z5 => bX9_next_64 n z0 z1 z2 z3 z4 z5 K))))
set_option maxRecDepth 100000 in
set_option maxHeartbeats 4000000 in
theorem tX9_next_64 {X : mCx} {G : mG} {u0 : mSt} {K : Int32 → mSt → Prop} (F : mFx X G cX9_next wsX9_next RX9 "next" 2 57 (some .int) u0 (mPi K)) (hN : X.2.2.2.2.2.2.2.2.2.2.2.2.1 = 7) : ∀ (n : Nat) {v0 : Nat} {v1 : Int32} {v2 : Int32} {v3 : Int32} {v4 : Int32} {u : mSt}, mK u v0 = 10 → bX9_next_64 n v0 v1 v2 v3 v4 u K → mZ X u 64 [(0, .ref (G.1 + v0)), (1, .int v1), (2, .int v2), (3, .int v3), (4, .int v4)] [] := by
  intro n
  induction n with
  | zero => intro v0 v1 v2 v3 v4 u kv0 h; exact False.elim h
  | succ n ih =>
    intro v0 v1 v2 v3 v4 u kv0 h
    refine mz_iload F dX9_next_64 4 rfl ?_
    refine mz_iload_n F dX9_next_66 rfl 1 rfl ?_
    refine mz_icmp_gt (tgt := 138) F dX9_next_67 (by decide) (fun c_1 => ?_) (fun c_1 => ?_)
    · replace h := h.1 c_1
      refine mz_iload_n F dX9_next_138 rfl 2 rfl ?_
      exact mz_iret F dX9_next_139 ⟨_, rfl, h⟩
    · replace h := h.2 c_1
      refine mz_iconst (v := 0) F dX9_next_70 (by decide) ?_
      refine mz_istore (lv2 := [(5, .int (0 : Int32)), (0, .ref (G.1 + v0)), (1, .int v1), (2, .int v2), (3, .int v3), (4, .int v4)]) F dX9_next_71 hN (by decide) rfl ?_
      refine mz_sub [1, 2, 3, 4, 5, 0] rfl ?_
      obtain ⟨n9, h⟩ := h
      exact tX9_next_73 F hN (fun k0 h => ih k0 h) n9 kv0 h
def bX9_next (this : Nat) (a1 : Int32) (u : mSt) (K : Int32 → mSt → Prop) : Prop := (∀ u_1, u_1 = mpI u this 0 (0 : Int32) → bX9_isIn a1.toInt64 (1 : Int64) (3 : Int64) u_1 (fun r_4 u_3 => ((r_4 = 0 → K (-1 : Int32) u_3) ∧ (¬ (r_4 = 0) → (((mI u_3 this 6) = 0 → bX9_next_33 this u_3 K) ∧ (¬ ((mI u_3 this 6) = 0) → (((mI u_3 this 20) = 0 → (((mI u_3 this 19) = 0 → K (-1 : Int32) u_3) ∧ (¬ ((mI u_3 this 19) = 0) → (∃ n9, bX9_next_64 n9 this a1 (0 : Int32) (0 : Int32) (1 : Int32) u_3 K)))) ∧ (¬ ((mI u_3 this 20) = 0) → bX9_next_33 this u_3 K))))))))
set_option maxRecDepth 100000 in
set_option maxHeartbeats 4000000 in
theorem tX9_next {X : mCx} {G : mG} {u0 : mSt} {K : Int32 → mSt → Prop} (F : mFx X G cX9_next wsX9_next RX9 "next" 2 57 (some .int) u0 (mPi K)) (hN : X.2.2.2.2.2.2.2.2.2.2.2.2.1 = 7) {this : Nat} {a1 : Int32} {u : mSt} (kthis : mK u this = 10) (h : bX9_next this a1 u K) : mZ X u 0 [(0, .ref (G.1 + this)), (1, .int a1)] [] := by
  refine mz_aload_n F dX9_next_0 rfl 0 rfl ?_
  refine mz_iconst (v := 0) F dX9_next_1 (by decide) ?_
  refine mz_putI F dX9_next_2 fX9_next_112 kthis rfl rfl (fun u_1 eu_1 hxu_1 => ?_)
  replace h := h u_1 eu_1
  replace kthis := hxu_1.2.2 _ _ (by decide) kthis
  refine mz_iload_n F dX9_next_5 rfl 1 rfl ?_
  refine mz_i2l F dX9_next_6 ?_
  refine mz_lconst (v := 1) F dX9_next_7 (by decide) ?_
  refine mz_ldc2 (v := 3) F dX9_next_8 mX9_next_ldcl119 ?_
  refine mz_callS (As := [_, _, _]) (n := 3) F dX9_next_11 rfl gX9_next_X9_isIn (by decide +kernel) (by decide) rfl (Nat.le_of_ble_eq_true rfl) (kX9_isIn _ G h) (mz_kZ fun r_4 u_3 br_4 h hx_2 => ?_)
  replace kthis := hx_2.2.2 _ _ (by decide) kthis
  refine mz_if_ne (tgt := 19) F dX9_next_14 (by decide) (fun c_8 => ?_) (fun c_8 => ?_)
  · replace h := h.2 c_8
    refine mz_aload_n F dX9_next_19 rfl 0 rfl ?_
    refine mz_getI F dX9_next_20 fX9_next_159 kthis ?_
    refine mz_if_eq (tgt := 33) F dX9_next_23 (by decide) (fun c_7 => ?_) (fun c_7 => ?_)
    · replace h := h.1 c_7
      refine mz_sub [0] rfl ?_
      exact tX9_next_33 F hN kthis h
    · replace h := h.2 c_7
      refine mz_aload_n F dX9_next_26 rfl 0 rfl ?_
      refine mz_getI F dX9_next_27 fX9_next_180 kthis ?_
      refine mz_if_eq (tgt := 48) F dX9_next_30 (by decide) (fun c_6 => ?_) (fun c_6 => ?_)
      · replace h := h.1 c_6
        refine mz_aload_n F dX9_next_48 rfl 0 rfl ?_
        refine mz_getI F dX9_next_49 fX9_next_177 kthis ?_
        refine mz_if_ne (tgt := 57) F dX9_next_52 (by decide) (fun c_5 => ?_) (fun c_5 => ?_)
        · replace h := h.2 c_5
          refine mz_iconst (v := 0) F dX9_next_57 (by decide) ?_
          refine mz_istore_n (lv2 := [(2, .int (0 : Int32)), (0, .ref (G.1 + this)), (1, .int a1)]) F dX9_next_58 rfl hN (by decide) rfl ?_
          refine mz_iconst (v := 0) F dX9_next_59 (by decide) ?_
          refine mz_istore_n (lv2 := [(3, .int (0 : Int32)), (2, .int (0 : Int32)), (0, .ref (G.1 + this)), (1, .int a1)]) F dX9_next_60 rfl hN (by decide) rfl ?_
          refine mz_iconst (v := 1) F dX9_next_61 (by decide) ?_
          refine mz_istore (lv2 := [(4, .int (1 : Int32)), (3, .int (0 : Int32)), (2, .int (0 : Int32)), (0, .ref (G.1 + this)), (1, .int a1)]) F dX9_next_62 hN (by decide) rfl ?_
          refine mz_sub [3, 4, 2, 1, 0] rfl ?_
          obtain ⟨n9, h⟩ := h
          exact tX9_next_64 F hN n9 kthis h
        · replace h := h.1 c_5
          refine mz_iconst (v := (-1)) F dX9_next_55 (by decide) ?_
          exact mz_iret F dX9_next_56 ⟨_, rfl, h⟩
      · replace h := h.2 c_6
        refine mz_sub [0] rfl ?_
        exact tX9_next_33 F hN kthis h
  · replace h := h.1 c_8
    refine mz_iconst (v := (-1)) F dX9_next_17 (by decide) ?_
    exact mz_iret F dX9_next_18 ⟨_, rfl, h⟩
set_option maxRecDepth 100000 in
theorem kX9_next (l : Launch) (G : mG) {u : mSt} {K : Int32 → mSt → Prop} {this : Nat} {a1 : Int32} (kthis : mK u this = 10) (h : bX9_next this a1 u K) : mCt l G yX9_next wsX9_next 2 57 [.ref (G.1 + this), .int a1] u (mPi K) := by
  refine mCt.of (cc := cX9_next) (maxL := 7) (ret := (some .int)) (by decide) rfl (Nat.le_of_ble_eq_true rfl) ?_
  intro X hl hN F
  exact tX9_next F hN kthis h
/-! RoomMapperModel.distance(III)I -/
theorem wiX9_distance_9 : ∀ w ∈ u_ws RX9 TX9 52, w ∈ wsX9_distance := by decide +kernel
theorem fX9_distance_72 : mFld wsX9_distance RX9 72 10 38 17 (.array .int) true := ⟨9, _, RX9, TX9, 52, tyX9, rfl, rfl, rfl, by decide, wiX9_distance_9, tyX9_ok, nmX9, rfl, rfl, Or.inl ⟨by decide +kernel, fun _ => rfl⟩⟩
def bX9_distance (this : Nat) (a1 : Int32) (a2 : Int32) (a3 : Int32) (u : mSt) (K : Int32 → mSt → Prop) : Prop := bX9_measure this a1 a2 u (fun u_2 => (∃ q_3, mR u_2 this 38 = some q_3 ∧ (vp_in a3 6 ∧ K (mI u_2 q_3 a3.toNatClampNeg) u_2)))
set_option maxRecDepth 100000 in
set_option maxHeartbeats 4000000 in
theorem tX9_distance {X : mCx} {G : mG} {u0 : mSt} {K : Int32 → mSt → Prop} (F : mFx X G cX9_distance wsX9_distance RX9 "distance" 1 25 (some .int) u0 (mPi K)) (hN : X.2.2.2.2.2.2.2.2.2.2.2.2.1 = 4) {this : Nat} {a1 : Int32} {a2 : Int32} {a3 : Int32} {u : mSt} (kthis : mK u this = 10) (h : bX9_distance this a1 a2 a3 u K) : mZ X u 0 [(0, .ref (G.1 + this)), (1, .int a1), (2, .int a2), (3, .int a3)] [] := by
  refine mz_aload_n F dX9_distance_0 rfl 0 rfl ?_
  refine mz_iload_n F dX9_distance_1 rfl 1 rfl ?_
  refine mz_iload_n F dX9_distance_2 rfl 2 rfl ?_
  refine mz_callV (As := [_, _]) (n := 2) F dX9_distance_3 rfl kthis rfl rfl gX9_distance_X9_measure (by decide +kernel) (by decide) rfl (Nat.le_of_ble_eq_true rfl) (kX9_measure _ G kthis h) (mz_kV fun u_2 h hx_1 => ?_)
  replace kthis := hx_1.2.2 _ _ (by decide) kthis
  refine mz_aload_n F dX9_distance_6 rfl 0 rfl ?_
  obtain ⟨q_3, eq_3, h⟩ := h
  refine mz_getR F dX9_distance_7 fX9_distance_72 (by decide) kthis eq_3 (fun kq_3 => ?_)
  refine mz_iload_n F dX9_distance_10 rfl 3 rfl ?_
  obtain ⟨b_4, h⟩ := h
  refine mz_iald F dX9_distance_11 kq_3 rfl b_4 ?_
  exact mz_iret F dX9_distance_12 ⟨_, rfl, h⟩
set_option maxRecDepth 100000 in
theorem kX9_distance (l : Launch) (G : mG) {u : mSt} {K : Int32 → mSt → Prop} {this : Nat} {a1 : Int32} {a2 : Int32} {a3 : Int32} (kthis : mK u this = 10) (h : bX9_distance this a1 a2 a3 u K) : mCt l G yX9_distance wsX9_distance 1 25 [.ref (G.1 + this), .int a1, .int a2, .int a3] u (mPi K) := by
  refine mCt.of (cc := cX9_distance) (maxL := 4) (ret := (some .int)) (by decide) rfl (Nat.le_of_ble_eq_true rfl) ?_
  intro X hl hN F
  exact tX9_distance F hN kthis h
/-! RoomMapperModel.go(II)I -/
theorem wiX9_go_9 : ∀ w ∈ u_ws RX9 TX9 52, w ∈ wsX9_go := by decide +kernel
theorem fX9_go_41 : mFld wsX9_go RX9 41 10 23 25 (.array .int) true := ⟨9, _, RX9, TX9, 52, tyX9, rfl, rfl, rfl, by decide, wiX9_go_9, tyX9_ok, nmX9, rfl, rfl, Or.inl ⟨by decide +kernel, fun _ => rfl⟩⟩
theorem fX9_go_78 : mFld wsX9_go RX9 78 10 41 17 (.array .int) true := ⟨9, _, RX9, TX9, 52, tyX9, rfl, rfl, rfl, by decide, wiX9_go_9, tyX9_ok, nmX9, rfl, rfl, Or.inl ⟨by decide +kernel, fun _ => rfl⟩⟩
theorem fX9_go_246 : mFld wsX9_go RX9 246 10 40 0 .int false := ⟨9, _, RX9, TX9, 52, tyX9, rfl, rfl, rfl, by decide, wiX9_go_9, tyX9_ok, nmX9, rfl, rfl, Or.inl ⟨by decide +kernel, fun _ => rfl⟩⟩
theorem fX9_go_112 : mFld wsX9_go RX9 112 10 0 0 .int false := ⟨9, _, RX9, TX9, 52, tyX9, rfl, rfl, rfl, by decide, wiX9_go_9, tyX9_ok, nmX9, rfl, rfl, Or.inl ⟨by decide +kernel, fun _ => rfl⟩⟩
theorem fX9_go_44 : mFld wsX9_go RX9 44 10 24 15 (.array .int) true := ⟨9, _, RX9, TX9, 52, tyX9, rfl, rfl, rfl, by decide, wiX9_go_9, tyX9_ok, nmX9, rfl, rfl, Or.inl ⟨by decide +kernel, fun _ => rfl⟩⟩
def bX9_go_115 (v0 : Nat) (v1 : Int32) (v2 : Int32) (v3 : Int32) (v4 : Int32) (v5 : Int32) (v6 : Int32) (v7 : Int32) (u : mSt) (K : Int32 → mSt → Prop) (KL47 : Nat → Int32 → Int32 → Int32 → Int32 → Int32 → mSt → Prop) (KL64 : Nat → Int32 → Int32 → Int32 → Int32 → Int32 → Int32 → Int32 → mSt → Prop) : Prop := (∀ x_1, x_1 = v7 + (-1 : Int32) → KL64 v0 v1 v2 v3 v4 v5 v6 x_1 u)
set_option maxRecDepth 100000 in
set_option maxHeartbeats 4000000 in
theorem tX9_go_115 {X : mCx} {G : mG} {u0 : mSt} {K : Int32 → mSt → Prop} {KL47 : Nat → Int32 → Int32 → Int32 → Int32 → Int32 → mSt → Prop} {KL64 : Nat → Int32 → Int32 → Int32 → Int32 → Int32 → Int32 → Int32 → mSt → Prop} (F : mFx X G cX9_go wsX9_go RX9 "go" 2 48 (some .int) u0 (mPi K)) (hN : X.2.2.2.2.2.2.2.2.2.2.2.2.1 = 9) (hL47 : ∀ {v0 : Nat} {v1 : Int32} {v2 : Int32} {v3 : Int32} {v4 : Int32} {v5 : Int32} {u : mSt}, mK u v0 = 10 → KL47 v0 v1 v2 v3 v4 v5 u → mZ X u 47 [(0, .ref (G.1 + v0)), (1, .int v1), (2, .int v2), (3, .int v3), (4, .int v4), (5, .int v5)] []) (hL64 : ∀ {v0 : Nat} {v1 : Int32} {v2 : Int32} {v3 : Int32} {v4 : Int32} {v5 : Int32} {v6 : Int32} {v7 : Int32} {u : mSt}, mK u v0 = 10 → KL64 v0 v1 v2 v3 v4 v5 v6 v7 u → mZ X u 64 [(0, .ref (G.1 + v0)), (1, .int v1), (2, .int v2), (3, .int v3), (4, .int v4), (5, .int v5), (6, .int v6), (7, .int v7)] []) {v0 : Nat} {v1 : Int32} {v2 : Int32} {v3 : Int32} {v4 : Int32} {v5 : Int32} {v6 : Int32} {v7 : Int32} {u : mSt} (kv0 : mK u v0 = 10) (h : bX9_go_115 v0 v1 v2 v3 v4 v5 v6 v7 u K KL47 KL64) : mZ X u 115 [(0, .ref (G.1 + v0)), (1, .int v1), (2, .int v2), (3, .int v3), (4, .int v4), (5, .int v5), (6, .int v6), (7, .int v7)] [] := by
  obtain ⟨x_1, ex_1⟩ : ∃ y : Int32, y = v7 + (-1 : Int32) := ⟨_, rfl⟩
  replace h := h x_1 ex_1
  refine mz_iinc (v := x_1) (lv2 := [(7, .int x_1), (0, .ref (G.1 + v0)), (1, .int v1), (2, .int v2), (3, .int v3), (4, .int v4), (5, .int v5), (6, .int v6)]) F dX9_go_115 7 rfl (by rw [ex_1]; rfl) hN (by decide) rfl ?_
  refine mz_goto (tgt := 64) F dX9_go_118 (by decide) ?_
  refine mz_sub [1, 2, 3, 4, 5, 6, 7, 0] rfl ?_
  exact hL64 kv0 h
def bX9_go_64 : Nat → Nat → Int32 → Int32 → Int32 → Int32 → Int32 → Int32 → Int32 → mSt → (Int32 → mSt → Prop) → (Nat → Int32 → Int32 → Int32 → Int32 → Int32 → mSt → Prop) → Prop
  | 0, _, _, _, _, _, _, _, _, _, _, _ => False
  | n + 1, v0, v1, v2, v3, v4, v5, v6, v7, u, K, KL47 => ((v7 < 0 → (∃ q_1, mR u v0 23 = some q_1 ∧ (∃ q_2, mR u v0 41 = some q_2 ∧ (vp_in v5 6 ∧ (vp_in ((((30 : Int32) * v1) + ((5 : Int32) * v4)) + (mI u q_2 v5.toNatClampNeg)) 4500 ∧ (∀ x_5, x_5 = (mI u q_1 ((((30 : Int32) * v1) + ((5 : Int32) * v4)) + (mI u q_2 v5.toNatClampNeg)).toNatClampNeg) → (∀ x_6, x_6 = v5 + (1 : Int32) → KL47 v0 v1 v2 v3 x_5 x_6 u))))))) ∧ (¬ (v7 < 0) → (∃ q_7, mR u v0 23 = some q_7 ∧ (vp_in ((((30 : Int32) * v1) + ((5 : Int32) * v4)) + v7) 4500 ∧ (∀ x_9, x_9 = (mI u q_7 ((((30 : Int32) * v1) + ((5 : Int32) * v4)) + v7).toNatClampNeg) → ((x_9 < 0 → bX9_go_115 v0 v1 v2 v3 v4 v5 v6 v7 u K KL47 (fun z0 z1 z2 z3 z4 z5 z6 z7 z8 => bX9_go_64 n z0 z1 z2 z3 z4 z5 z6 z7 z8 K KL47)) ∧ (¬ (x_9 < 0) → bX9_distance v0 v1 x_9 v2 u (fun r_12 u_11 => ((r_12 = v6 → (∃ q_13, mR u_11 v0 41 = some q_13 ∧ (vp_in v5 6 ∧ ∀ u_15, u_15 = mpI u_11 q_13 v5.toNatClampNeg v7 → bX9_go_115 v0 v1 v2 v3 v4 v5 v6 v7 u_15 K KL47 (fun z0 z1 z2 z3 z4 z5 z6 z7 z8 => bX9_go_64 n z0 z1 z2 z3 z4 z5 z6 z7 z8 K KL47)))) ∧ (¬ (r_12 = v6) → bX9_go_115 v0 v1 v2 v3 v4 v5 v6 v7 u_11 K KL47 (fun z0 z1 z2 z3 z4 z5 z6 z7 z8 => bX9_go_64 n z0 z1 z2 z3 z4 z5 z6 z7 z8 K KL47)))))))))))
set_option maxRecDepth 100000 in
set_option maxHeartbeats 4000000 in
theorem tX9_go_64 {X : mCx} {G : mG} {u0 : mSt} {K : Int32 → mSt → Prop} {KL47 : Nat → Int32 → Int32 → Int32 → Int32 → Int32 → mSt → Prop} (F : mFx X G cX9_go wsX9_go RX9 "go" 2 48 (some .int) u0 (mPi K)) (hN : X.2.2.2.2.2.2.2.2.2.2.2.2.1 = 9) (hL47 : ∀ {v0 : Nat} {v1 : Int32} {v2 : Int32} {v3 : Int32} {v4 : Int32} {v5 : Int32} {u : mSt}, mK u v0 = 10 → KL47 v0 v1 v2 v3 v4 v5 u → mZ X u 47 [(0, .ref (G.1 + v0)), (1, .int v1), (2, .int v2), (3, .int v3), (4, .int v4), (5, .int v5)] []) : ∀ (n : Nat) {v0 : Nat} {v1 : Int32} {v2 : Int32} {v3 : Int32} {v4 : Int32} {v5 : Int32} {v6 : Int32} {v7 : Int32} {u : mSt}, mK u v0 = 10 → bX9_go_64 n v0 v1 v2 v3 v4 v5 v6 v7 u K KL47 → mZ X u 64 [(0, .ref (G.1 + v0)), (1, .int v1), (2, .int v2), (3, .int v3), (4, .int v4), (5, .int v5), (6, .int v6), (7, .int v7)] [] := by
  intro n
  induction n with
  | zero => intro v0 v1 v2 v3 v4 v5 v6 v7 u kv0 h; exact False.elim h
  | succ n ih =>
    intro v0 v1 v2 v3 v4 v5 v6 v7 u kv0 h
    refine mz_iload F dX9_go_64 7 rfl ?_
    refine mz_if_lt (tgt := 121) F dX9_go_66 (by decide) (fun c_18 => ?_) (fun c_18 => ?_)
    · replace h := h.1 c_18
      refine mz_aload_n F dX9_go_121 rfl 0 rfl ?_
      obtain ⟨q_1, eq_1, h⟩ := h
      refine mz_getR F dX9_go_122 fX9_go_41 (by decide) kv0 eq_1 (fun kq_1 => ?_)
      refine mz_bipush (v := 30) F dX9_go_125 (by decide) ?_
      refine mz_iload_n F dX9_go_127 rfl 1 rfl ?_
      refine mz_imul F dX9_go_128 ?_
      refine mz_iconst (v := 5) F dX9_go_129 (by decide) ?_
      refine mz_iload F dX9_go_130 4 rfl ?_
      refine mz_imul F dX9_go_132 ?_
      refine mz_iadd F dX9_go_133 ?_
      refine mz_aload_n F dX9_go_134 rfl 0 rfl ?_
      obtain ⟨q_2, eq_2, h⟩ := h
      refine mz_getR F dX9_go_135 fX9_go_78 (by decide) kv0 eq_2 (fun kq_2 => ?_)
      refine mz_iload F dX9_go_138 5 rfl ?_
      obtain ⟨b_3, h⟩ := h
      refine mz_iald F dX9_go_140 kq_2 rfl b_3 ?_
      refine mz_iadd F dX9_go_141 ?_
      obtain ⟨b_4, h⟩ := h
      refine mz_iald F dX9_go_142 kq_1 rfl b_4 ?_
      refine mz_topi (fun x_5 ex_5 => ?_)
      replace h := h x_5 ex_5
      refine mz_istore (lv2 := [(4, .int x_5), (0, .ref (G.1 + v0)), (1, .int v1), (2, .int v2), (3, .int v3), (5, .int v5), (6, .int v6), (7, .int v7)]) F dX9_go_143 hN (by decide) rfl ?_
      obtain ⟨x_6, ex_6⟩ : ∃ y : Int32, y = v5 + (1 : Int32) := ⟨_, rfl⟩
      replace h := h x_6 ex_6
      refine mz_iinc (v := x_6) (lv2 := [(5, .int x_6), (4, .int x_5), (0, .ref (G.1 + v0)), (1, .int v1), (2, .int v2), (3, .int v3), (6, .int v6), (7, .int v7)]) F dX9_go_145 5 rfl (by rw [ex_6]; rfl) hN (by decide) rfl ?_
      refine mz_goto (tgt := 47) F dX9_go_148 (by decide) ?_
      refine mz_sub [2, 3, 4, 5, 1, 0] rfl ?_
      exact hL47 kv0 h
    · replace h := h.2 c_18
      refine mz_aload_n F dX9_go_69 rfl 0 rfl ?_
      obtain ⟨q_7, eq_7, h⟩ := h
      refine mz_getR F dX9_go_70 fX9_go_41 (by decide) kv0 eq_7 (fun kq_7 => ?_)
      refine mz_bipush (v := 30) F dX9_go_73 (by decide) ?_
      refine mz_iload_n F dX9_go_75 rfl 1 rfl ?_
      refine mz_imul F dX9_go_76 ?_
      refine mz_iconst (v := 5) F dX9_go_77 (by decide) ?_
      refine mz_iload F dX9_go_78 4 rfl ?_
      refine mz_imul F dX9_go_80 ?_
      refine mz_iadd F dX9_go_81 ?_
      refine mz_iload F dX9_go_82 7 rfl ?_
      refine mz_iadd F dX9_go_84 ?_
      obtain ⟨b_8, h⟩ := h
      refine mz_iald F dX9_go_85 kq_7 rfl b_8 ?_
      refine mz_topi (fun x_9 ex_9 => ?_)
      replace h := h x_9 ex_9
      refine mz_istore (lv2 := [(8, .int x_9), (0, .ref (G.1 + v0)), (1, .int v1), (2, .int v2), (3, .int v3), (4, .int v4), (5, .int v5), (6, .int v6), (7, .int v7)]) F dX9_go_86 hN (by decide) rfl ?_
      refine mz_iload F dX9_go_88 0 rfl ?_
      refine mz_if_lt (tgt := 115) F dX9_go_90 (by decide) (fun c_17 => ?_) (fun c_17 => ?_)
      · replace h := h.1 c_17
        refine mz_sub [1, 2, 3, 4, 5, 6, 7, 8] rfl ?_
        exact tX9_go_115 F hN hL47 (fun k0 h => ih k0 h) kv0 h
      · replace h := h.2 c_17
        refine mz_aload_n F dX9_go_93 rfl 1 rfl ?_
        refine mz_iload_n F dX9_go_94 rfl 2 rfl ?_
        refine mz_iload F dX9_go_95 0 rfl ?_
        refine mz_iload_n F dX9_go_97 rfl 3 rfl ?_
        refine mz_callV (As := [_, _, _]) (n := 3) F dX9_go_98 rfl kv0 rfl rfl gX9_go_X9_distance (by decide +kernel) (by decide) rfl (Nat.le_of_ble_eq_true rfl) (kX9_distance _ G kv0 h) (mz_kI fun r_12 u_11 h hx_10 => ?_)
        replace kv0 := hx_10.2.2 _ _ (by decide) kv0
        refine mz_iload F dX9_go_101 7 rfl ?_
        refine mz_icmp_ne (tgt := 115) F dX9_go_103 (by decide) (fun c_16 => ?_) (fun c_16 => ?_)
        · replace h := h.2 c_16
          refine mz_sub [1, 2, 3, 4, 5, 6, 7, 8] rfl ?_
          exact tX9_go_115 F hN hL47 (fun k0 h => ih k0 h) kv0 h
        · replace h := h.1 c_16
          refine mz_aload_n F dX9_go_106 rfl 1 rfl ?_
          obtain ⟨q_13, eq_13, h⟩ := h
          refine mz_getR F dX9_go_107 fX9_go_78 (by decide) kv0 eq_13 (fun kq_13 => ?_)
          refine mz_iload F dX9_go_110 6 rfl ?_
          refine mz_iload F dX9_go_112 8 rfl ?_
          obtain ⟨b_14, h⟩ := h
          refine mz_iast F dX9_go_114 kq_13 rfl b_14 (fun u_15 eu_15 hxu_15 => ?_)
          replace h := h u_15 eu_15
          replace kv0 := hxu_15.2.2 _ _ (by decide) kv0
          refine mz_sub [1, 2, 3, 4, 5, 6, 7, 8] rfl ?_
          exact tX9_go_115 F hN hL47 (fun k0 h => ih k0 h) kv0 h
def bX9_go_47 : Nat → Nat → Int32 → Int32 → Int32 → Int32 → Int32 → mSt → (Int32 → mSt → Prop) → Prop
  | 0, _, _, _, _, _, _, _, _ => False
  | n + 1, v0, v1, v2, v3, v4, v5, u, K => ((v3 ≤ v5 → (∀ u_1, u_1 = mpI u v0 40 v3 → K v3 u_1)) ∧ (¬ (v3 ≤ v5) → (∀ x_2, x_2 = ((v3 - v5) - (1 : Int32)) → (∃ n9, bX9_go_64 n9 v0 v1 v2 v3 v4 v5 x_2 (4 : Int32) u K (fun z0 z1 z2 z3 z4 z5 z6 => bX9_go_47 n z0 z1 z2 z3 z4 z5 z6 K)))))
set_option maxRecDepth 100000 in
set_option maxHeartbeats 4000000 in
theorem tX9_go_47 {X : mCx} {G : mG} {u0 : mSt} {K : Int32 → mSt → Prop} (F : mFx X G cX9_go wsX9_go RX9 "go" 2 48 (some .int) u0 (mPi K)) (hN : X.2.2.2.2.2.2.2.2.2.2.2.2.1 = 9) : ∀ (n : Nat) {v0 : Nat} {v1 : Int32} {v2 : Int32} {v3 : Int32} {v4 : Int32} {v5 : Int32} {u : mSt}, mK u v0 = 10 → bX9_go_47 n v0 v1 v2 v3 v4 v5 u K → mZ X u 47 [(0, .ref (G.1 + v0)), (1, .int v1), (2, .int v2), (3, .int v3), (4, .int v4), (5, .int v5)] [] := by
  intro n
  induction n with
  | zero => intro v0 v1 v2 v3 v4 v5 u kv0 h; exact False.elim h
  | succ n ih =>
    intro v0 v1 v2 v3 v4 v5 u kv0 h
    refine mz_iload F dX9_go_47 5 rfl ?_
    refine mz_iload_n F dX9_go_49 rfl 3 rfl ?_
    refine mz_icmp_ge (tgt := 151) F dX9_go_50 (by decide) (fun c_3 => ?_) (fun c_3 => ?_)
    · replace h := h.1 c_3
      refine mz_aload_n F dX9_go_151 rfl 0 rfl ?_
      refine mz_iload_n F dX9_go_152 rfl 3 rfl ?_
      refine mz_putI F dX9_go_153 fX9_go_246 kv0 rfl rfl (fun u_1 eu_1 hxu_1 => ?_)
      replace h := h u_1 eu_1
      refine mz_iload_n F dX9_go_156 rfl 3 rfl ?_
      exact mz_iret F dX9_go_157 ⟨_, rfl, h⟩
    · replace h := h.2 c_3
      refine mz_iload_n F dX9_go_53 rfl 3 rfl ?_
      refine mz_iload F dX9_go_54 5 rfl ?_
      refine mz_isub F dX9_go_56 ?_
      refine mz_iconst (v := 1) F dX9_go_57 (by decide) ?_
      refine mz_isub F dX9_go_58 ?_
      refine mz_topi (fun x_2 ex_2 => ?_)
      replace h := h x_2 ex_2
      refine mz_istore (lv2 := [(6, .int x_2), (0, .ref (G.1 + v0)), (1, .int v1), (2, .int v2), (3, .int v3), (4, .int v4), (5, .int v5)]) F dX9_go_59 hN (by decide) rfl ?_
      refine mz_iconst (v := 4) F dX9_go_61 (by decide) ?_
      refine mz_istore (lv2 := [(7, .int (4 : Int32)), (6, .int x_2), (0, .ref (G.1 + v0)), (1, .int v1), (2, .int v2), (3, .int v3), (4, .int v4), (5, .int v5)]) F dX9_go_62 hN (by decide) rfl ?_
      refine mz_sub [2, 3, 4, 5, 6, 7, 1, 0] rfl ?_
      obtain ⟨n9, h⟩ := h
      exact tX9_go_64 F hN (fun k0 h => ih k0 h) n9 kv0 h
def bX9_go (this : Nat) (a1 : Int32) (a2 : Int32) (u : mSt) (K : Int32 → mSt → Prop) : Prop := (∀ u_1, u_1 = mpI u this 0 (0 : Int32) → bX9_isPlace this a1 a2 u_1 (fun r_4 u_3 => ((r_4 = 0 → K (-1 : Int32) u_3) ∧ (¬ (r_4 = 0) → (∃ q_5, mR u_3 this 24 = some q_5 ∧ (vp_in a1 150 ∧ bX9_distance this a1 (mI u_3 q_5 a1.toNatClampNeg) a2 u_3 (fun r_9 u_8 => ((0 ≤ r_9 → (∃ q_10, mR u_8 this 24 = some q_10 ∧ (vp_in a1 150 ∧ (∀ x_12, x_12 = (mI u_8 q_10 a1.toNatClampNeg) → (∃ n9, bX9_go_47 n9 this a1 a2 r_9 x_12 (0 : Int32) u_8 K))))) ∧ (¬ (0 ≤ r_9) → K (-2 : Int32) u_8)))))))))
set_option maxRecDepth 100000 in
set_option maxHeartbeats 4000000 in
theorem tX9_go {X : mCx} {G : mG} {u0 : mSt} {K : Int32 → mSt → Prop} (F : mFx X G cX9_go wsX9_go RX9 "go" 2 48 (some .int) u0 (mPi K)) (hN : X.2.2.2.2.2.2.2.2.2.2.2.2.1 = 9) {this : Nat} {a1 : Int32} {a2 : Int32} {u : mSt} (kthis : mK u this = 10) (h : bX9_go this a1 a2 u K) : mZ X u 0 [(0, .ref (G.1 + this)), (1, .int a1), (2, .int a2)] [] := by
  refine mz_aload_n F dX9_go_0 rfl 0 rfl ?_
  refine mz_iconst (v := 0) F dX9_go_1 (by decide) ?_
  refine mz_putI F dX9_go_2 fX9_go_112 kthis rfl rfl (fun u_1 eu_1 hxu_1 => ?_)
  replace h := h u_1 eu_1
  replace kthis := hxu_1.2.2 _ _ (by decide) kthis
  refine mz_aload_n F dX9_go_5 rfl 0 rfl ?_
  refine mz_iload_n F dX9_go_6 rfl 1 rfl ?_
  refine mz_iload_n F dX9_go_7 rfl 2 rfl ?_
  refine mz_callV (As := [_, _]) (n := 2) F dX9_go_8 rfl kthis rfl rfl gX9_go_X9_isPlace (by decide +kernel) (by decide) rfl (Nat.le_of_ble_eq_true rfl) (kX9_isPlace _ G kthis h) (mz_kZ fun r_4 u_3 br_4 h hx_2 => ?_)
  replace kthis := hx_2.2.2 _ _ (by decide) kthis
  refine mz_if_ne (tgt := 16) F dX9_go_11 (by decide) (fun c_14 => ?_) (fun c_14 => ?_)
  · replace h := h.2 c_14
    refine mz_aload_n F dX9_go_16 rfl 0 rfl ?_
    refine mz_iload_n F dX9_go_17 rfl 1 rfl ?_
    refine mz_aload_n F dX9_go_18 rfl 0 rfl ?_
    obtain ⟨q_5, eq_5, h⟩ := h
    refine mz_getR F dX9_go_19 fX9_go_44 (by decide) kthis eq_5 (fun kq_5 => ?_)
    refine mz_iload_n F dX9_go_22 rfl 1 rfl ?_
    obtain ⟨b_6, h⟩ := h
    refine mz_iald F dX9_go_23 kq_5 rfl b_6 ?_
    refine mz_iload_n F dX9_go_24 rfl 2 rfl ?_
    refine mz_callV (As := [_, _, _]) (n := 3) F dX9_go_25 rfl kthis rfl rfl gX9_go_X9_distance (by decide +kernel) (by decide) rfl (Nat.le_of_ble_eq_true rfl) (kX9_distance _ G kthis h) (mz_kI fun r_9 u_8 h hx_7 => ?_)
    replace kthis := hx_7.2.2 _ _ (by decide) kthis
    refine mz_istore_n (lv2 := [(3, .int r_9), (0, .ref (G.1 + this)), (1, .int a1), (2, .int a2)]) F dX9_go_28 rfl hN (by decide) rfl ?_
    refine mz_iload_n F dX9_go_29 rfl 0 rfl ?_
    refine mz_if_ge (tgt := 36) F dX9_go_30 (by decide) (fun c_13 => ?_) (fun c_13 => ?_)
    · replace h := h.1 c_13
      refine mz_aload_n F dX9_go_36 rfl 1 rfl ?_
      obtain ⟨q_10, eq_10, h⟩ := h
      refine mz_getR F dX9_go_37 fX9_go_44 (by decide) kthis eq_10 (fun kq_10 => ?_)
      refine mz_iload_n F dX9_go_40 rfl 2 rfl ?_
      obtain ⟨b_11, h⟩ := h
      refine mz_iald F dX9_go_41 kq_10 rfl b_11 ?_
      refine mz_topi (fun x_12 ex_12 => ?_)
      replace h := h x_12 ex_12
      refine mz_istore (lv2 := [(4, .int x_12), (3, .int r_9), (0, .ref (G.1 + this)), (1, .int a1), (2, .int a2)]) F dX9_go_42 hN (by decide) rfl ?_
      refine mz_iconst (v := 0) F dX9_go_44 (by decide) ?_
      refine mz_istore (lv2 := [(5, .int (0 : Int32)), (4, .int x_12), (3, .int r_9), (0, .ref (G.1 + this)), (1, .int a1), (2, .int a2)]) F dX9_go_45 hN (by decide) rfl ?_
      refine mz_sub [3, 4, 5, 2, 1, 0] rfl ?_
      obtain ⟨n9, h⟩ := h
      exact tX9_go_47 F hN n9 kthis h
    · replace h := h.2 c_13
      refine mz_bipush (v := (-2)) F dX9_go_33 (by decide) ?_
      exact mz_iret F dX9_go_35 ⟨_, rfl, h⟩
  · replace h := h.1 c_14
    refine mz_iconst (v := (-1)) F dX9_go_14 (by decide) ?_
    exact mz_iret F dX9_go_15 ⟨_, rfl, h⟩
set_option maxRecDepth 100000 in
theorem kX9_go (l : Launch) (G : mG) {u : mSt} {K : Int32 → mSt → Prop} {this : Nat} {a1 : Int32} {a2 : Int32} (kthis : mK u this = 10) (h : bX9_go this a1 a2 u K) : mCt l G yX9_go wsX9_go 2 48 [.ref (G.1 + this), .int a1, .int a2] u (mPi K) := by
  refine mCt.of (cc := cX9_go) (maxL := 9) (ret := (some .int)) (by decide) rfl (Nat.le_of_ble_eq_true rfl) ?_
  intro X hl hN F
  exact tX9_go F hN kthis h
/-! RoomMapperModel.way(I)I -/
theorem wiX9_way_9 : ∀ w ∈ u_ws RX9 TX9 52, w ∈ wsX9_way := by decide +kernel
theorem fX9_way_112 : mFld wsX9_way RX9 112 10 0 0 .int false := ⟨9, _, RX9, TX9, 52, tyX9, rfl, rfl, rfl, by decide, wiX9_way_9, tyX9_ok, nmX9, rfl, rfl, Or.inl ⟨by decide +kernel, fun _ => rfl⟩⟩
theorem fX9_way_246 : mFld wsX9_way RX9 246 10 40 0 .int false := ⟨9, _, RX9, TX9, 52, tyX9, rfl, rfl, rfl, by decide, wiX9_way_9, tyX9_ok, nmX9, rfl, rfl, Or.inl ⟨by decide +kernel, fun _ => rfl⟩⟩
theorem fX9_way_78 : mFld wsX9_way RX9 78 10 41 17 (.array .int) true := ⟨9, _, RX9, TX9, 52, tyX9, rfl, rfl, rfl, by decide, wiX9_way_9, tyX9_ok, nmX9, rfl, rfl, Or.inl ⟨by decide +kernel, fun _ => rfl⟩⟩
def bX9_way (this : Nat) (a1 : Int32) (u : mSt) (K : Int32 → mSt → Prop) : Prop := (∀ u_1, u_1 = mpI u this 0 (0 : Int32) → ((a1 < 0 → K (-1 : Int32) u_1) ∧ (¬ (a1 < 0) → ((a1 < (mI u_1 this 40) → (∃ q_2, mR u_1 this 41 = some q_2 ∧ (vp_in a1 6 ∧ K (mI u_1 q_2 a1.toNatClampNeg) u_1))) ∧ (¬ (a1 < (mI u_1 this 40)) → K (-1 : Int32) u_1)))))
set_option maxRecDepth 100000 in
set_option maxHeartbeats 4000000 in
theorem tX9_way {X : mCx} {G : mG} {u0 : mSt} {K : Int32 → mSt → Prop} (F : mFx X G cX9_way wsX9_way RX9 "way" 0 0 (some .int) u0 (mPi K)) (hN : X.2.2.2.2.2.2.2.2.2.2.2.2.1 = 2) {this : Nat} {a1 : Int32} {u : mSt} (kthis : mK u this = 10) (h : bX9_way this a1 u K) : mZ X u 0 [(0, .ref (G.1 + this)), (1, .int a1)] [] := by
  refine mz_aload_n F dX9_way_0 rfl 0 rfl ?_
  refine mz_iconst (v := 0) F dX9_way_1 (by decide) ?_
  refine mz_putI F dX9_way_2 fX9_way_112 kthis rfl rfl (fun u_1 eu_1 hxu_1 => ?_)
  replace h := h u_1 eu_1
  replace kthis := hxu_1.2.2 _ _ (by decide) kthis
  refine mz_iload_n F dX9_way_5 rfl 1 rfl ?_
  refine mz_if_lt (tgt := 17) F dX9_way_6 (by decide) (fun c_5 => ?_) (fun c_5 => ?_)
  · replace h := h.1 c_5
    refine mz_iconst (v := (-1)) F dX9_way_17 (by decide) ?_
    refine mz_goto (tgt := 27) F dX9_way_18 (by decide) ?_
    exact mz_iret F dX9_way_27 ⟨_, rfl, h⟩
  · replace h := h.2 c_5
    refine mz_iload_n F dX9_way_9 rfl 1 rfl ?_
    refine mz_aload_n F dX9_way_10 rfl 0 rfl ?_
    refine mz_getI F dX9_way_11 fX9_way_246 kthis ?_
    refine mz_icmp_lt (tgt := 21) F dX9_way_14 (by decide) (fun c_4 => ?_) (fun c_4 => ?_)
    · replace h := h.1 c_4
      refine mz_aload_n F dX9_way_21 rfl 0 rfl ?_
      obtain ⟨q_2, eq_2, h⟩ := h
      refine mz_getR F dX9_way_22 fX9_way_78 (by decide) kthis eq_2 (fun kq_2 => ?_)
      refine mz_iload_n F dX9_way_25 rfl 1 rfl ?_
      obtain ⟨b_3, h⟩ := h
      refine mz_iald F dX9_way_26 kq_2 rfl b_3 ?_
      exact mz_iret F dX9_way_27 ⟨_, rfl, h⟩
    · replace h := h.2 c_4
      refine mz_iconst (v := (-1)) F dX9_way_17 (by decide) ?_
      refine mz_goto (tgt := 27) F dX9_way_18 (by decide) ?_
      exact mz_iret F dX9_way_27 ⟨_, rfl, h⟩
set_option maxRecDepth 100000 in
theorem kX9_way (l : Launch) (G : mG) {u : mSt} {K : Int32 → mSt → Prop} {this : Nat} {a1 : Int32} (kthis : mK u this = 10) (h : bX9_way this a1 u K) : mCt l G yX9_way wsX9_way 0 0 [.ref (G.1 + this), .int a1] u (mPi K) := by
  refine mCt.of (cc := cX9_way) (maxL := 2) (ret := (some .int)) (by decide) rfl (Nat.le_of_ble_eq_true rfl) ?_
  intro X hl hN F
  exact tX9_way F hN kthis h
/-! RoomMapperModel.hand(III)I -/
theorem wiX9_hand_9 : ∀ w ∈ u_ws RX9 TX9 52, w ∈ wsX9_hand := by decide +kernel
theorem fX9_hand_84 : mFld wsX9_hand RX9 84 10 43 18 (.array .int) true := ⟨9, _, RX9, TX9, 52, tyX9, rfl, rfl, rfl, by decide, wiX9_hand_9, tyX9_ok, nmX9, rfl, rfl, Or.inl ⟨by decide +kernel, fun _ => rfl⟩⟩
theorem fX9_hand_112 : mFld wsX9_hand RX9 112 10 0 0 .int false := ⟨9, _, RX9, TX9, 52, tyX9, rfl, rfl, rfl, by decide, wiX9_hand_9, tyX9_ok, nmX9, rfl, rfl, Or.inl ⟨by decide +kernel, fun _ => rfl⟩⟩
theorem mX9_hand_ldcl129 : Cond.constantLong RX9 129 (5) ∈ wsX9_hand := by decide +kernel
theorem mX9_hand_ldcl119 : Cond.constantLong RX9 119 (3) ∈ wsX9_hand := by decide +kernel
theorem mX9_hand_ldcl249 : Cond.constantLong RX9 249 (32767) ∈ wsX9_hand := by decide +kernel
theorem fX9_hand_81 : mFld wsX9_hand RX9 81 10 42 17 (.array .int) true := ⟨9, _, RX9, TX9, 52, tyX9, rfl, rfl, rfl, by decide, wiX9_hand_9, tyX9_ok, nmX9, rfl, rfl, Or.inl ⟨by decide +kernel, fun _ => rfl⟩⟩
def bX9_hand_56 : Nat → Nat → Int32 → Int32 → Int32 → mSt → (Int32 → mSt → Prop) → Prop
  | 0, _, _, _, _, _, _ => False
  | n + 1, v0, v1, v4, v5, u, K => (((5 : Int32) ≤ v5 → K (0 : Int32) u) ∧ (¬ ((5 : Int32) ≤ v5) → (∃ q_1, mR u v0 43 = some q_1 ∧ (vp_in (((5 : Int32) * v1) + v5) 30 ∧ ∀ u_3, u_3 = mpI u q_1 (((5 : Int32) * v1) + v5).toNatClampNeg (v4 - v4 / (8 : Int32) * (8 : Int32)) → (∀ x_4, x_4 = (v4 / (8 : Int32)) → (∀ x_5, x_5 = v5 + (1 : Int32) → bX9_hand_56 n v0 v1 x_4 x_5 u_3 K))))))
set_option maxRecDepth 100000 in
set_option maxHeartbeats 4000000 in
theorem tX9_hand_56 {X : mCx} {G : mG} {u0 : mSt} {K : Int32 → mSt → Prop} (F : mFx X G cX9_hand wsX9_hand RX9 "hand" 1 25 (some .int) u0 (mPi K)) (hN : X.2.2.2.2.2.2.2.2.2.2.2.2.1 = 6) : ∀ (n : Nat) {v0 : Nat} {v1 : Int32} {v4 : Int32} {v5 : Int32} {u : mSt}, mK u v0 = 10 → bX9_hand_56 n v0 v1 v4 v5 u K → mZ X u 56 [(0, .ref (G.1 + v0)), (1, .int v1), (4, .int v4), (5, .int v5)] [] := by
  intro n
  induction n with
  | zero => intro v0 v1 v4 v5 u kv0 h; exact False.elim h
  | succ n ih =>
    intro v0 v1 v4 v5 u kv0 h
    refine mz_iload F dX9_hand_56 3 rfl ?_
    refine mz_iconst (v := 5) F dX9_hand_58 (by decide) ?_
    refine mz_icmp_ge (tgt := 91) F dX9_hand_59 (by decide) (fun c_6 => ?_) (fun c_6 => ?_)
    · replace h := h.1 c_6
      refine mz_iconst (v := 0) F dX9_hand_91 (by decide) ?_
      exact mz_iret F dX9_hand_92 ⟨_, rfl, h⟩
    · replace h := h.2 c_6
      refine mz_aload_n F dX9_hand_62 rfl 0 rfl ?_
      obtain ⟨q_1, eq_1, h⟩ := h
      refine mz_getR F dX9_hand_63 fX9_hand_84 (by decide) kv0 eq_1 (fun kq_1 => ?_)
      refine mz_iconst (v := 5) F dX9_hand_66 (by decide) ?_
      refine mz_iload_n F dX9_hand_67 rfl 1 rfl ?_
      refine mz_imul F dX9_hand_68 ?_
      refine mz_iload F dX9_hand_69 3 rfl ?_
      refine mz_iadd F dX9_hand_71 ?_
      refine mz_iload F dX9_hand_72 2 rfl ?_
      refine mz_bipush (v := 8) F dX9_hand_74 (by decide) ?_
      refine mz_irem F dX9_hand_76 (by decide) ?_
      obtain ⟨b_2, h⟩ := h
      refine mz_iast F dX9_hand_77 kq_1 rfl b_2 (fun u_3 eu_3 hxu_3 => ?_)
      replace h := h u_3 eu_3
      replace kv0 := hxu_3.2.2 _ _ (by decide) kv0
      refine mz_iload F dX9_hand_78 2 rfl ?_
      refine mz_bipush (v := 8) F dX9_hand_80 (by decide) ?_
      refine mz_idiv F dX9_hand_82 (by decide) ?_
      refine mz_topi (fun x_4 ex_4 => ?_)
      replace h := h x_4 ex_4
      refine mz_istore (lv2 := [(4, .int x_4), (0, .ref (G.1 + v0)), (1, .int v1), (5, .int v5)]) F dX9_hand_83 hN (by decide) rfl ?_
      obtain ⟨x_5, ex_5⟩ : ∃ y : Int32, y = v5 + (1 : Int32) := ⟨_, rfl⟩
      replace h := h x_5 ex_5
      refine mz_iinc (v := x_5) (lv2 := [(5, .int x_5), (4, .int x_4), (0, .ref (G.1 + v0)), (1, .int v1)]) F dX9_hand_85 3 rfl (by rw [ex_5]; rfl) hN (by decide) rfl ?_
      refine mz_goto (tgt := 56) F dX9_hand_88 (by decide) ?_
      refine mz_sub [2, 3, 1, 0] rfl ?_
      exact ih kv0 h
def bX9_hand (this : Nat) (a1 : Int32) (a2 : Int32) (a3 : Int32) (u : mSt) (K : Int32 → mSt → Prop) : Prop := (∀ u_1, u_1 = mpI u this 0 (0 : Int32) → bX9_isIn a1.toInt64 (0 : Int64) (5 : Int64) u_1 (fun r_4 u_3 => ((r_4 = 0 → K (-1 : Int32) u_3) ∧ (¬ (r_4 = 0) → bX9_isIn a2.toInt64 (0 : Int64) (3 : Int64) u_3 (fun r_7 u_6 => ((r_7 = 0 → K (-1 : Int32) u_6) ∧ (¬ (r_7 = 0) → bX9_isIn a3.toInt64 (0 : Int64) (32767 : Int64) u_6 (fun r_10 u_9 => ((r_10 = 0 → K (-1 : Int32) u_9) ∧ (¬ (r_10 = 0) → (∃ q_11, mR u_9 this 42 = some q_11 ∧ (vp_in a1 6 ∧ ∀ u_13, u_13 = mpI u_9 q_11 a1.toNatClampNeg a2 → (∃ n9, bX9_hand_56 n9 this a1 a3 (0 : Int32) u_13 K)))))))))))))
set_option maxRecDepth 100000 in
set_option maxHeartbeats 4000000 in
theorem tX9_hand {X : mCx} {G : mG} {u0 : mSt} {K : Int32 → mSt → Prop} (F : mFx X G cX9_hand wsX9_hand RX9 "hand" 1 25 (some .int) u0 (mPi K)) (hN : X.2.2.2.2.2.2.2.2.2.2.2.2.1 = 6) {this : Nat} {a1 : Int32} {a2 : Int32} {a3 : Int32} {u : mSt} (kthis : mK u this = 10) (h : bX9_hand this a1 a2 a3 u K) : mZ X u 0 [(0, .ref (G.1 + this)), (1, .int a1), (2, .int a2), (3, .int a3)] [] := by
  refine mz_aload_n F dX9_hand_0 rfl 0 rfl ?_
  refine mz_iconst (v := 0) F dX9_hand_1 (by decide) ?_
  refine mz_putI F dX9_hand_2 fX9_hand_112 kthis rfl rfl (fun u_1 eu_1 hxu_1 => ?_)
  replace h := h u_1 eu_1
  replace kthis := hxu_1.2.2 _ _ (by decide) kthis
  refine mz_iload_n F dX9_hand_5 rfl 1 rfl ?_
  refine mz_i2l F dX9_hand_6 ?_
  refine mz_lconst (v := 0) F dX9_hand_7 (by decide) ?_
  refine mz_ldc2 (v := 5) F dX9_hand_8 mX9_hand_ldcl129 ?_
  refine mz_callS (As := [_, _, _]) (n := 3) F dX9_hand_11 rfl gX9_hand_X9_isIn (by decide +kernel) (by decide) rfl (Nat.le_of_ble_eq_true rfl) (kX9_isIn _ G h) (mz_kZ fun r_4 u_3 br_4 h hx_2 => ?_)
  replace kthis := hx_2.2.2 _ _ (by decide) kthis
  refine mz_if_eq (tgt := 41) F dX9_hand_14 (by decide) (fun c_16 => ?_) (fun c_16 => ?_)
  · replace h := h.1 c_16
    refine mz_iconst (v := (-1)) F dX9_hand_41 (by decide) ?_
    exact mz_iret F dX9_hand_42 ⟨_, rfl, h⟩
  · replace h := h.2 c_16
    refine mz_iload_n F dX9_hand_17 rfl 2 rfl ?_
    refine mz_i2l F dX9_hand_18 ?_
    refine mz_lconst (v := 0) F dX9_hand_19 (by decide) ?_
    refine mz_ldc2 (v := 3) F dX9_hand_20 mX9_hand_ldcl119 ?_
    refine mz_callS (As := [_, _, _]) (n := 3) F dX9_hand_23 rfl gX9_hand_X9_isIn (by decide +kernel) (by decide) rfl (Nat.le_of_ble_eq_true rfl) (kX9_isIn _ G h) (mz_kZ fun r_7 u_6 br_7 h hx_5 => ?_)
    replace kthis := hx_5.2.2 _ _ (by decide) kthis
    refine mz_if_eq (tgt := 41) F dX9_hand_26 (by decide) (fun c_15 => ?_) (fun c_15 => ?_)
    · replace h := h.1 c_15
      refine mz_iconst (v := (-1)) F dX9_hand_41 (by decide) ?_
      exact mz_iret F dX9_hand_42 ⟨_, rfl, h⟩
    · replace h := h.2 c_15
      refine mz_iload_n F dX9_hand_29 rfl 3 rfl ?_
      refine mz_i2l F dX9_hand_30 ?_
      refine mz_lconst (v := 0) F dX9_hand_31 (by decide) ?_
      refine mz_ldc2 (v := 32767) F dX9_hand_32 mX9_hand_ldcl249 ?_
      refine mz_callS (As := [_, _, _]) (n := 3) F dX9_hand_35 rfl gX9_hand_X9_isIn (by decide +kernel) (by decide) rfl (Nat.le_of_ble_eq_true rfl) (kX9_isIn _ G h) (mz_kZ fun r_10 u_9 br_10 h hx_8 => ?_)
      replace kthis := hx_8.2.2 _ _ (by decide) kthis
      refine mz_if_ne (tgt := 43) F dX9_hand_38 (by decide) (fun c_14 => ?_) (fun c_14 => ?_)
      · replace h := h.2 c_14
        refine mz_aload_n F dX9_hand_43 rfl 0 rfl ?_
        obtain ⟨q_11, eq_11, h⟩ := h
        refine mz_getR F dX9_hand_44 fX9_hand_81 (by decide) kthis eq_11 (fun kq_11 => ?_)
        refine mz_iload_n F dX9_hand_47 rfl 1 rfl ?_
        refine mz_iload_n F dX9_hand_48 rfl 2 rfl ?_
        obtain ⟨b_12, h⟩ := h
        refine mz_iast F dX9_hand_49 kq_11 rfl b_12 (fun u_13 eu_13 hxu_13 => ?_)
        replace h := h u_13 eu_13
        replace kthis := hxu_13.2.2 _ _ (by decide) kthis
        refine mz_iload_n F dX9_hand_50 rfl 3 rfl ?_
        refine mz_istore (lv2 := [(4, .int a3), (0, .ref (G.1 + this)), (1, .int a1), (2, .int a2), (3, .int a3)]) F dX9_hand_51 hN (by decide) rfl ?_
        refine mz_iconst (v := 0) F dX9_hand_53 (by decide) ?_
        refine mz_istore (lv2 := [(5, .int (0 : Int32)), (4, .int a3), (0, .ref (G.1 + this)), (1, .int a1), (2, .int a2), (3, .int a3)]) F dX9_hand_54 hN (by decide) rfl ?_
        refine mz_sub [2, 3, 1, 0] rfl ?_
        obtain ⟨n9, h⟩ := h
        exact tX9_hand_56 F hN n9 kthis h
      · replace h := h.1 c_14
        refine mz_iconst (v := (-1)) F dX9_hand_41 (by decide) ?_
        exact mz_iret F dX9_hand_42 ⟨_, rfl, h⟩
set_option maxRecDepth 100000 in
theorem kX9_hand (l : Launch) (G : mG) {u : mSt} {K : Int32 → mSt → Prop} {this : Nat} {a1 : Int32} {a2 : Int32} {a3 : Int32} (kthis : mK u this = 10) (h : bX9_hand this a1 a2 a3 u K) : mCt l G yX9_hand wsX9_hand 1 25 [.ref (G.1 + this), .int a1, .int a2, .int a3] u (mPi K) := by
  refine mCt.of (cc := cX9_hand) (maxL := 6) (ret := (some .int)) (by decide) rfl (Nat.le_of_ble_eq_true rfl) ?_
  intro X hl hN F
  exact tX9_hand F hN kthis h
