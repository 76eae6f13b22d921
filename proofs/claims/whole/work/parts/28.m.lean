/-! RoomMapperModel.copy(IIIII)I -/
theorem wiX9_copy_9 : ∀ w ∈ u_ws RX9 TX9 52, w ∈ wsX9_copy := by decide +kernel
theorem fX9_copy_105 : mFld wsX9_copy RX9 105 10 50 29 (.array .long) true := ⟨9, _, RX9, TX9, 52, tyX9, rfl, rfl, rfl, by decide, wiX9_copy_9, tyX9_ok, nmX9, rfl, rfl, Or.inl ⟨by decide +kernel, fun _ => rfl⟩⟩
theorem fX9_copy_109 : mFld wsX9_copy RX9 109 10 51 19 (.array .long) true := ⟨9, _, RX9, TX9, 52, tyX9, rfl, rfl, rfl, by decide, wiX9_copy_9, tyX9_ok, nmX9, rfl, rfl, Or.inl ⟨by decide +kernel, fun _ => rfl⟩⟩
theorem fX9_copy_112 : mFld wsX9_copy RX9 112 10 0 0 .int false := ⟨9, _, RX9, TX9, 52, tyX9, rfl, rfl, rfl, by decide, wiX9_copy_9, tyX9_ok, nmX9, rfl, rfl, Or.inl ⟨by decide +kernel, fun _ => rfl⟩⟩
theorem fX9_copy_93 : mFld wsX9_copy RX9 93 10 46 28 (.array .int) true := ⟨9, _, RX9, TX9, 52, tyX9, rfl, rfl, rfl, by decide, wiX9_copy_9, tyX9_ok, nmX9, rfl, rfl, Or.inl ⟨by decide +kernel, fun _ => rfl⟩⟩
def bX9_copy_136 : Nat → Nat → Int32 → Int32 → Int32 → Int32 → mSt → (Int32 → mSt → Prop) → Prop
  | 0, _, _, _, _, _, _, _ => False
  | n + 1, v0, v3, v4, v5, v6, u, K => ((v5 ≤ v6 → K v5 u) ∧ (¬ (v5 ≤ v6) → (∃ q_1, mR u v0 50 = some q_1 ∧ (∃ q_2, mR u v0 51 = some q_2 ∧ (vp_in v6 60 ∧ (vp_in ((((60 : Int32) * v3) + v4) + v6) 480 ∧ ∀ u_5, u_5 = mpL u q_1 ((((60 : Int32) * v3) + v4) + v6).toNatClampNeg (mL u q_2 v6.toNatClampNeg) → (∀ x_6, x_6 = v6 + (1 : Int32) → bX9_copy_136 n v0 v3 v4 v5 x_6 u_5 K)))))))
set_option maxRecDepth 100000 in
set_option maxHeartbeats 4000000 in
theorem tX9_copy_136 {X : mCx} {G : mG} {u0 : mSt} {K : Int32 → mSt → Prop} (F : mFx X G cX9_copy wsX9_copy RX9 "copy" 1 23 (some .int) u0 (mPi K)) (hN : X.2.2.2.2.2.2.2.2.2.2.2.2.1 = 7) : ∀ (n : Nat) {v0 : Nat} {v3 : Int32} {v4 : Int32} {v5 : Int32} {v6 : Int32} {u : mSt}, mK u v0 = 10 → bX9_copy_136 n v0 v3 v4 v5 v6 u K → mZ X u 136 [(0, .ref (G.1 + v0)), (3, .int v3), (4, .int v4), (5, .int v5), (6, .int v6)] [] := by
  intro n
  induction n with
  | zero => intro v0 v3 v4 v5 v6 u kv0 h; exact False.elim h
  | succ n ih =>
    intro v0 v3 v4 v5 v6 u kv0 h
    refine mz_iload F dX9_copy_136 4 rfl ?_
    refine mz_iload F dX9_copy_138 3 rfl ?_
    refine mz_icmp_ge (tgt := 171) F dX9_copy_140 (by decide) (fun c_7 => ?_) (fun c_7 => ?_)
    · replace h := h.1 c_7
      refine mz_iload F dX9_copy_171 3 rfl ?_
      exact mz_iret F dX9_copy_173 ⟨_, rfl, h⟩
    · replace h := h.2 c_7
      refine mz_aload_n F dX9_copy_143 rfl 0 rfl ?_
      obtain ⟨q_1, eq_1, h⟩ := h
      refine mz_getR F dX9_copy_144 fX9_copy_105 (by decide) kv0 eq_1 (fun kq_1 => ?_)
      refine mz_bipush (v := 60) F dX9_copy_147 (by decide) ?_
      refine mz_iload_n F dX9_copy_149 rfl 1 rfl ?_
      refine mz_imul F dX9_copy_150 ?_
      refine mz_iload F dX9_copy_151 2 rfl ?_
      refine mz_iadd F dX9_copy_153 ?_
      refine mz_iload F dX9_copy_154 4 rfl ?_
      refine mz_iadd F dX9_copy_156 ?_
      refine mz_aload_n F dX9_copy_157 rfl 0 rfl ?_
      obtain ⟨q_2, eq_2, h⟩ := h
      refine mz_getR F dX9_copy_158 fX9_copy_109 (by decide) kv0 eq_2 (fun kq_2 => ?_)
      refine mz_iload F dX9_copy_161 4 rfl ?_
      obtain ⟨b_3, h⟩ := h
      refine mz_lald F dX9_copy_163 kq_2 rfl b_3 ?_
      obtain ⟨b_4, h⟩ := h
      refine mz_last F dX9_copy_164 kq_1 rfl b_4 (fun u_5 eu_5 hxu_5 => ?_)
      replace h := h u_5 eu_5
      replace kv0 := hxu_5.2.2 _ _ (by decide) kv0
      obtain ⟨x_6, ex_6⟩ : ∃ y : Int32, y = v6 + (1 : Int32) := ⟨_, rfl⟩
      replace h := h x_6 ex_6
      refine mz_iinc (v := x_6) (lv2 := [(6, .int x_6), (0, .ref (G.1 + v0)), (3, .int v3), (4, .int v4), (5, .int v5)]) F dX9_copy_165 4 rfl (by rw [ex_6]; rfl) hN (by decide) rfl ?_
      refine mz_goto (tgt := 136) F dX9_copy_168 (by decide) ?_
      refine mz_sub [1, 2, 3, 4, 0] rfl ?_
      exact ih kv0 h
def bX9_copy_99 : Nat → Nat → Int32 → Int32 → Int32 → Int32 → Int32 → Int32 → mSt → (Int32 → mSt → Prop) → Prop
  | 0, _, _, _, _, _, _, _, _, _ => False
  | n + 1, v0, v1, v2, v3, v4, v5, v6, u, K => ((v5 ≤ v6 → (∃ n9, bX9_copy_136 n9 v0 v3 v4 v5 (0 : Int32) u K)) ∧ (¬ (v5 ≤ v6) → (∃ q_1, mR u v0 51 = some q_1 ∧ (∃ q_2, mR u v0 50 = some q_2 ∧ (vp_in ((((60 : Int32) * v1) + v2) + v6) 480 ∧ (vp_in v6 60 ∧ ∀ u_5, u_5 = mpL u q_1 v6.toNatClampNeg (mL u q_2 ((((60 : Int32) * v1) + v2) + v6).toNatClampNeg) → (∀ x_6, x_6 = v6 + (1 : Int32) → bX9_copy_99 n v0 v1 v2 v3 v4 v5 x_6 u_5 K)))))))
set_option maxRecDepth 100000 in
set_option maxHeartbeats 4000000 in
theorem tX9_copy_99 {X : mCx} {G : mG} {u0 : mSt} {K : Int32 → mSt → Prop} (F : mFx X G cX9_copy wsX9_copy RX9 "copy" 1 23 (some .int) u0 (mPi K)) (hN : X.2.2.2.2.2.2.2.2.2.2.2.2.1 = 7) : ∀ (n : Nat) {v0 : Nat} {v1 : Int32} {v2 : Int32} {v3 : Int32} {v4 : Int32} {v5 : Int32} {v6 : Int32} {u : mSt}, mK u v0 = 10 → bX9_copy_99 n v0 v1 v2 v3 v4 v5 v6 u K → mZ X u 99 [(0, .ref (G.1 + v0)), (1, .int v1), (2, .int v2), (3, .int v3), (4, .int v4), (5, .int v5), (6, .int v6)] [] := by
  intro n
  induction n with
  | zero => intro v0 v1 v2 v3 v4 v5 v6 u kv0 h; exact False.elim h
  | succ n ih =>
    intro v0 v1 v2 v3 v4 v5 v6 u kv0 h
    refine mz_iload F dX9_copy_99 6 rfl ?_
    refine mz_iload F dX9_copy_101 5 rfl ?_
    refine mz_icmp_ge (tgt := 133) F dX9_copy_103 (by decide) (fun c_7 => ?_) (fun c_7 => ?_)
    · replace h := h.1 c_7
      refine mz_iconst (v := 0) F dX9_copy_133 (by decide) ?_
      refine mz_istore (lv2 := [(6, .int (0 : Int32)), (0, .ref (G.1 + v0)), (1, .int v1), (2, .int v2), (3, .int v3), (4, .int v4), (5, .int v5)]) F dX9_copy_134 hN (by decide) rfl ?_
      refine mz_sub [1, 4, 5, 6, 0] rfl ?_
      obtain ⟨n9, h⟩ := h
      exact tX9_copy_136 F hN n9 kv0 h
    · replace h := h.2 c_7
      refine mz_aload_n F dX9_copy_106 rfl 0 rfl ?_
      obtain ⟨q_1, eq_1, h⟩ := h
      refine mz_getR F dX9_copy_107 fX9_copy_109 (by decide) kv0 eq_1 (fun kq_1 => ?_)
      refine mz_iload F dX9_copy_110 6 rfl ?_
      refine mz_aload_n F dX9_copy_112 rfl 0 rfl ?_
      obtain ⟨q_2, eq_2, h⟩ := h
      refine mz_getR F dX9_copy_113 fX9_copy_105 (by decide) kv0 eq_2 (fun kq_2 => ?_)
      refine mz_bipush (v := 60) F dX9_copy_116 (by decide) ?_
      refine mz_iload_n F dX9_copy_118 rfl 1 rfl ?_
      refine mz_imul F dX9_copy_119 ?_
      refine mz_iload_n F dX9_copy_120 rfl 2 rfl ?_
      refine mz_iadd F dX9_copy_121 ?_
      refine mz_iload F dX9_copy_122 6 rfl ?_
      refine mz_iadd F dX9_copy_124 ?_
      obtain ⟨b_3, h⟩ := h
      refine mz_lald F dX9_copy_125 kq_2 rfl b_3 ?_
      obtain ⟨b_4, h⟩ := h
      refine mz_last F dX9_copy_126 kq_1 rfl b_4 (fun u_5 eu_5 hxu_5 => ?_)
      replace h := h u_5 eu_5
      replace kv0 := hxu_5.2.2 _ _ (by decide) kv0
      obtain ⟨x_6, ex_6⟩ : ∃ y : Int32, y = v6 + (1 : Int32) := ⟨_, rfl⟩
      replace h := h x_6 ex_6
      refine mz_iinc (v := x_6) (lv2 := [(6, .int x_6), (0, .ref (G.1 + v0)), (1, .int v1), (2, .int v2), (3, .int v3), (4, .int v4), (5, .int v5)]) F dX9_copy_127 6 rfl (by rw [ex_6]; rfl) hN (by decide) rfl ?_
      refine mz_goto (tgt := 99) F dX9_copy_130 (by decide) ?_
      refine mz_sub [1, 2, 3, 4, 5, 6, 0] rfl ?_
      exact ih kv0 h
def bX9_copy (this : Nat) (a1 : Int32) (a2 : Int32) (a3 : Int32) (a4 : Int32) (a5 : Int32) (u : mSt) (K : Int32 → mSt → Prop) : Prop := (∀ u_1, u_1 = mpI u this 0 (0 : Int32) → bX9_isShelf a1 u_1 (fun r_4 u_3 => ((r_4 = 0 → K (-1 : Int32) u_3) ∧ (¬ (r_4 = 0) → bX9_isShelf a3 u_3 (fun r_7 u_6 => ((r_7 = 0 → K (-1 : Int32) u_6) ∧ (¬ (r_7 = 0) → (∃ q_8, mR u_6 this 46 = some q_8 ∧ (vp_in a1 8 ∧ (((mI u_6 q_8 a1.toNatClampNeg) = 0 → K (-11 : Int32) u_6) ∧ (¬ ((mI u_6 q_8 a1.toNatClampNeg) = 0) → (∃ q_10, mR u_6 this 46 = some q_10 ∧ (vp_in a3 8 ∧ (((mI u_6 q_10 a3.toNatClampNeg) = 0 → K (-11 : Int32) u_6) ∧ (¬ ((mI u_6 q_10 a3.toNatClampNeg) = 0) → (∃ q_12, mR u_6 this 46 = some q_12 ∧ (vp_in a1 8 ∧ (((mI u_6 q_12 a1.toNatClampNeg) < (3 : Int32) → K (-12 : Int32) u_6) ∧ (¬ ((mI u_6 q_12 a1.toNatClampNeg) < (3 : Int32)) → (∃ q_14, mR u_6 this 46 = some q_14 ∧ (vp_in a1 8 ∧ (∃ q_16, mR u_6 this 46 = some q_16 ∧ (vp_in a3 8 ∧ (((mI u_6 q_14 a1.toNatClampNeg) = (mI u_6 q_16 a3.toNatClampNeg) → bX9_hasPlaces this a1 a2 a5 u_6 (fun r_20 u_19 => ((r_20 = 0 → K (-13 : Int32) u_19) ∧ (¬ (r_20 = 0) → bX9_hasPlaces this a3 a4 a5 u_19 (fun r_23 u_22 => ((r_23 = 0 → K (-13 : Int32) u_22) ∧ (¬ (r_23 = 0) → (∃ n9, bX9_copy_99 n9 this a1 a2 a3 a4 a5 (0 : Int32) u_22 K)))))))) ∧ (¬ ((mI u_6 q_14 a1.toNatClampNeg) = (mI u_6 q_16 a3.toNatClampNeg)) → K (-12 : Int32) u_6)))))))))))))))))))))))))
set_option maxRecDepth 100000 in
set_option maxHeartbeats 4000000 in
theorem tX9_copy {X : mCx} {G : mG} {u0 : mSt} {K : Int32 → mSt → Prop} (F : mFx X G cX9_copy wsX9_copy RX9 "copy" 1 23 (some .int) u0 (mPi K)) (hN : X.2.2.2.2.2.2.2.2.2.2.2.2.1 = 7) {this : Nat} {a1 : Int32} {a2 : Int32} {a3 : Int32} {a4 : Int32} {a5 : Int32} {u : mSt} (kthis : mK u this = 10) (h : bX9_copy this a1 a2 a3 a4 a5 u K) : mZ X u 0 [(0, .ref (G.1 + this)), (1, .int a1), (2, .int a2), (3, .int a3), (4, .int a4), (5, .int a5)] [] := by
  refine mz_aload_n F dX9_copy_0 rfl 0 rfl ?_
  refine mz_iconst (v := 0) F dX9_copy_1 (by decide) ?_
  refine mz_putI F dX9_copy_2 fX9_copy_112 kthis rfl rfl (fun u_1 eu_1 hxu_1 => ?_)
  replace h := h u_1 eu_1
  replace kthis := hxu_1.2.2 _ _ (by decide) kthis
  refine mz_iload_n F dX9_copy_5 rfl 1 rfl ?_
  refine mz_callS (As := [_]) (n := 1) F dX9_copy_6 rfl gX9_copy_X9_isShelf (by decide +kernel) (by decide) rfl (Nat.le_of_ble_eq_true rfl) (kX9_isShelf _ G h) (mz_kZ fun r_4 u_3 br_4 h hx_2 => ?_)
  replace kthis := hx_2.2.2 _ _ (by decide) kthis
  refine mz_if_eq (tgt := 19) F dX9_copy_9 (by decide) (fun c_31 => ?_) (fun c_31 => ?_)
  · replace h := h.1 c_31
    refine mz_iconst (v := (-1)) F dX9_copy_19 (by decide) ?_
    exact mz_iret F dX9_copy_20 ⟨_, rfl, h⟩
  · replace h := h.2 c_31
    refine mz_iload_n F dX9_copy_12 rfl 3 rfl ?_
    refine mz_callS (As := [_]) (n := 1) F dX9_copy_13 rfl gX9_copy_X9_isShelf (by decide +kernel) (by decide) rfl (Nat.le_of_ble_eq_true rfl) (kX9_isShelf _ G h) (mz_kZ fun r_7 u_6 br_7 h hx_5 => ?_)
    replace kthis := hx_5.2.2 _ _ (by decide) kthis
    refine mz_if_ne (tgt := 21) F dX9_copy_16 (by decide) (fun c_30 => ?_) (fun c_30 => ?_)
    · replace h := h.2 c_30
      refine mz_aload_n F dX9_copy_21 rfl 0 rfl ?_
      obtain ⟨q_8, eq_8, h⟩ := h
      refine mz_getR F dX9_copy_22 fX9_copy_93 (by decide) kthis eq_8 (fun kq_8 => ?_)
      refine mz_iload_n F dX9_copy_25 rfl 1 rfl ?_
      obtain ⟨b_9, h⟩ := h
      refine mz_iald F dX9_copy_26 kq_8 rfl b_9 ?_
      refine mz_if_eq (tgt := 39) F dX9_copy_27 (by decide) (fun c_29 => ?_) (fun c_29 => ?_)
      · replace h := h.1 c_29
        refine mz_bipush (v := (-11)) F dX9_copy_39 (by decide) ?_
        exact mz_iret F dX9_copy_41 ⟨_, rfl, h⟩
      · replace h := h.2 c_29
        refine mz_aload_n F dX9_copy_30 rfl 0 rfl ?_
        obtain ⟨q_10, eq_10, h⟩ := h
        refine mz_getR F dX9_copy_31 fX9_copy_93 (by decide) kthis eq_10 (fun kq_10 => ?_)
        refine mz_iload_n F dX9_copy_34 rfl 3 rfl ?_
        obtain ⟨b_11, h⟩ := h
        refine mz_iald F dX9_copy_35 kq_10 rfl b_11 ?_
        refine mz_if_ne (tgt := 42) F dX9_copy_36 (by decide) (fun c_28 => ?_) (fun c_28 => ?_)
        · replace h := h.2 c_28
          refine mz_aload_n F dX9_copy_42 rfl 0 rfl ?_
          obtain ⟨q_12, eq_12, h⟩ := h
          refine mz_getR F dX9_copy_43 fX9_copy_93 (by decide) kthis eq_12 (fun kq_12 => ?_)
          refine mz_iload_n F dX9_copy_46 rfl 1 rfl ?_
          obtain ⟨b_13, h⟩ := h
          refine mz_iald F dX9_copy_47 kq_12 rfl b_13 ?_
          refine mz_iconst (v := 3) F dX9_copy_48 (by decide) ?_
          refine mz_icmp_lt (tgt := 67) F dX9_copy_49 (by decide) (fun c_27 => ?_) (fun c_27 => ?_)
          · replace h := h.1 c_27
            refine mz_bipush (v := (-12)) F dX9_copy_67 (by decide) ?_
            exact mz_iret F dX9_copy_69 ⟨_, rfl, h⟩
          · replace h := h.2 c_27
            refine mz_aload_n F dX9_copy_52 rfl 0 rfl ?_
            obtain ⟨q_14, eq_14, h⟩ := h
            refine mz_getR F dX9_copy_53 fX9_copy_93 (by decide) kthis eq_14 (fun kq_14 => ?_)
            refine mz_iload_n F dX9_copy_56 rfl 1 rfl ?_
            obtain ⟨b_15, h⟩ := h
            refine mz_iald F dX9_copy_57 kq_14 rfl b_15 ?_
            refine mz_aload_n F dX9_copy_58 rfl 0 rfl ?_
            obtain ⟨q_16, eq_16, h⟩ := h
            refine mz_getR F dX9_copy_59 fX9_copy_93 (by decide) kthis eq_16 (fun kq_16 => ?_)
            refine mz_iload_n F dX9_copy_62 rfl 3 rfl ?_
            obtain ⟨b_17, h⟩ := h
            refine mz_iald F dX9_copy_63 kq_16 rfl b_17 ?_
            refine mz_icmp_eq (tgt := 70) F dX9_copy_64 (by decide) (fun c_26 => ?_) (fun c_26 => ?_)
            · replace h := h.1 c_26
              refine mz_aload_n F dX9_copy_70 rfl 0 rfl ?_
              refine mz_iload_n F dX9_copy_71 rfl 1 rfl ?_
              refine mz_iload_n F dX9_copy_72 rfl 2 rfl ?_
              refine mz_iload F dX9_copy_73 5 rfl ?_
              refine mz_callV (As := [_, _, _]) (n := 3) F dX9_copy_75 rfl kthis rfl rfl gX9_copy_X9_hasPlaces (by decide +kernel) (by decide) rfl (Nat.le_of_ble_eq_true rfl) (kX9_hasPlaces _ G kthis h) (mz_kZ fun r_20 u_19 br_20 h hx_18 => ?_)
              replace kthis := hx_18.2.2 _ _ (by decide) kthis
              refine mz_if_eq (tgt := 93) F dX9_copy_78 (by decide) (fun c_25 => ?_) (fun c_25 => ?_)
              · replace h := h.1 c_25
                refine mz_bipush (v := (-13)) F dX9_copy_93 (by decide) ?_
                exact mz_iret F dX9_copy_95 ⟨_, rfl, h⟩
              · replace h := h.2 c_25
                refine mz_aload_n F dX9_copy_81 rfl 0 rfl ?_
                refine mz_iload_n F dX9_copy_82 rfl 3 rfl ?_
                refine mz_iload F dX9_copy_83 4 rfl ?_
                refine mz_iload F dX9_copy_85 5 rfl ?_
                refine mz_callV (As := [_, _, _]) (n := 3) F dX9_copy_87 rfl kthis rfl rfl gX9_copy_X9_hasPlaces (by decide +kernel) (by decide) rfl (Nat.le_of_ble_eq_true rfl) (kX9_hasPlaces _ G kthis h) (mz_kZ fun r_23 u_22 br_23 h hx_21 => ?_)
                replace kthis := hx_21.2.2 _ _ (by decide) kthis
                refine mz_if_ne (tgt := 96) F dX9_copy_90 (by decide) (fun c_24 => ?_) (fun c_24 => ?_)
                · replace h := h.2 c_24
                  refine mz_iconst (v := 0) F dX9_copy_96 (by decide) ?_
                  refine mz_istore (lv2 := [(6, .int (0 : Int32)), (0, .ref (G.1 + this)), (1, .int a1), (2, .int a2), (3, .int a3), (4, .int a4), (5, .int a5)]) F dX9_copy_97 hN (by decide) rfl ?_
                  refine mz_sub [1, 2, 3, 4, 5, 6, 0] rfl ?_
                  obtain ⟨n9, h⟩ := h
                  exact tX9_copy_99 F hN n9 kthis h
                · replace h := h.1 c_24
                  refine mz_bipush (v := (-13)) F dX9_copy_93 (by decide) ?_
                  exact mz_iret F dX9_copy_95 ⟨_, rfl, h⟩
            · replace h := h.2 c_26
              refine mz_bipush (v := (-12)) F dX9_copy_67 (by decide) ?_
              exact mz_iret F dX9_copy_69 ⟨_, rfl, h⟩
        · replace h := h.1 c_28
          refine mz_bipush (v := (-11)) F dX9_copy_39 (by decide) ?_
          exact mz_iret F dX9_copy_41 ⟨_, rfl, h⟩
    · replace h := h.1 c_30
      refine mz_iconst (v := (-1)) F dX9_copy_19 (by decide) ?_
      exact mz_iret F dX9_copy_20 ⟨_, rfl, h⟩
set_option maxRecDepth 100000 in
theorem kX9_copy (l : Launch) (G : mG) {u : mSt} {K : Int32 → mSt → Prop} {this : Nat} {a1 : Int32} {a2 : Int32} {a3 : Int32} {a4 : Int32} {a5 : Int32} (kthis : mK u this = 10) (h : bX9_copy this a1 a2 a3 a4 a5 u K) : mCt l G yX9_copy wsX9_copy 1 23 [.ref (G.1 + this), .int a1, .int a2, .int a3, .int a4, .int a5] u (mPi K) := by
  refine mCt.of (cc := cX9_copy) (maxL := 7) (ret := (some .int)) (by decide) rfl (Nat.le_of_ble_eq_true rfl) ?_
  intro X hl hN F
  exact tX9_copy F hN kthis h
/-! RoomMapperModel.denied(I)I -/
theorem wiX9_denied_9 : ∀ w ∈ u_ws RX9 TX9 52, w ∈ wsX9_denied := by decide +kernel
theorem fX9_denied_93 : mFld wsX9_denied RX9 93 10 46 28 (.array .int) true := ⟨9, _, RX9, TX9, 52, tyX9, rfl, rfl, rfl, by decide, wiX9_denied_9, tyX9_ok, nmX9, rfl, rfl, Or.inl ⟨by decide +kernel, fun _ => rfl⟩⟩
def bX9_denied (this : Nat) (a1 : Int32) (u : mSt) (K : Int32 → mSt → Prop) : Prop := bX9_isShelf a1 u (fun r_3 u_2 => ((r_3 = 0 → K (-1 : Int32) u_2) ∧ (¬ (r_3 = 0) → (∃ q_4, mR u_2 this 46 = some q_4 ∧ (vp_in a1 8 ∧ (((mI u_2 q_4 a1.toNatClampNeg) = 0 → K (-11 : Int32) u_2) ∧ (¬ ((mI u_2 q_4 a1.toNatClampNeg) = 0) → (∃ q_6, mR u_2 this 46 = some q_6 ∧ (vp_in a1 8 ∧ (((mI u_2 q_6 a1.toNatClampNeg) ≤ (1 : Int32) → K (0 : Int32) u_2) ∧ (¬ ((mI u_2 q_6 a1.toNatClampNeg) ≤ (1 : Int32)) → K (-12 : Int32) u_2)))))))))))
set_option maxRecDepth 100000 in
set_option maxHeartbeats 4000000 in
theorem tX9_denied {X : mCx} {G : mG} {u0 : mSt} {K : Int32 → mSt → Prop} (F : mFx X G cX9_denied wsX9_denied RX9 "denied" 1 20 (some .int) u0 (mPi K)) (hN : X.2.2.2.2.2.2.2.2.2.2.2.2.1 = 2) {this : Nat} {a1 : Int32} {u : mSt} (kthis : mK u this = 10) (h : bX9_denied this a1 u K) : mZ X u 0 [(0, .ref (G.1 + this)), (1, .int a1)] [] := by
  refine mz_iload_n F dX9_denied_0 rfl 1 rfl ?_
  refine mz_callS (As := [_]) (n := 1) F dX9_denied_1 rfl gX9_denied_X9_isShelf (by decide +kernel) (by decide) rfl (Nat.le_of_ble_eq_true rfl) (kX9_isShelf _ G h) (mz_kZ fun r_3 u_2 br_3 h hx_1 => ?_)
  replace kthis := hx_1.2.2 _ _ (by decide) kthis
  refine mz_if_ne (tgt := 11) F dX9_denied_4 (by decide) (fun c_10 => ?_) (fun c_10 => ?_)
  · replace h := h.2 c_10
    refine mz_aload_n F dX9_denied_11 rfl 0 rfl ?_
    obtain ⟨q_4, eq_4, h⟩ := h
    refine mz_getR F dX9_denied_12 fX9_denied_93 (by decide) kthis eq_4 (fun kq_4 => ?_)
    refine mz_iload_n F dX9_denied_15 rfl 1 rfl ?_
    obtain ⟨b_5, h⟩ := h
    refine mz_iald F dX9_denied_16 kq_4 rfl b_5 ?_
    refine mz_if_ne (tgt := 25) F dX9_denied_17 (by decide) (fun c_9 => ?_) (fun c_9 => ?_)
    · replace h := h.2 c_9
      refine mz_aload_n F dX9_denied_25 rfl 0 rfl ?_
      obtain ⟨q_6, eq_6, h⟩ := h
      refine mz_getR F dX9_denied_26 fX9_denied_93 (by decide) kthis eq_6 (fun kq_6 => ?_)
      refine mz_iload_n F dX9_denied_29 rfl 1 rfl ?_
      obtain ⟨b_7, h⟩ := h
      refine mz_iald F dX9_denied_30 kq_6 rfl b_7 ?_
      refine mz_iconst (v := 1) F dX9_denied_31 (by decide) ?_
      refine mz_icmp_le (tgt := 40) F dX9_denied_32 (by decide) (fun c_8 => ?_) (fun c_8 => ?_)
      · replace h := h.1 c_8
        refine mz_iconst (v := 0) F dX9_denied_40 (by decide) ?_
        exact mz_iret F dX9_denied_41 ⟨_, rfl, h⟩
      · replace h := h.2 c_8
        refine mz_bipush (v := (-12)) F dX9_denied_35 (by decide) ?_
        refine mz_goto (tgt := 41) F dX9_denied_37 (by decide) ?_
        exact mz_iret F dX9_denied_41 ⟨_, rfl, h⟩
    · replace h := h.1 c_9
      refine mz_bipush (v := (-11)) F dX9_denied_20 (by decide) ?_
      refine mz_goto (tgt := 41) F dX9_denied_22 (by decide) ?_
      exact mz_iret F dX9_denied_41 ⟨_, rfl, h⟩
  · replace h := h.1 c_10
    refine mz_iconst (v := (-1)) F dX9_denied_7 (by decide) ?_
    refine mz_goto (tgt := 41) F dX9_denied_8 (by decide) ?_
    exact mz_iret F dX9_denied_41 ⟨_, rfl, h⟩
set_option maxRecDepth 100000 in
theorem kX9_denied (l : Launch) (G : mG) {u : mSt} {K : Int32 → mSt → Prop} {this : Nat} {a1 : Int32} (kthis : mK u this = 10) (h : bX9_denied this a1 u K) : mCt l G yX9_denied wsX9_denied 1 20 [.ref (G.1 + this), .int a1] u (mPi K) := by
  refine mCt.of (cc := cX9_denied) (maxL := 2) (ret := (some .int)) (by decide) rfl (Nat.le_of_ble_eq_true rfl) ?_
  intro X hl hN F
  exact tX9_denied F hN kthis h
/-! RoomMapperModel.weight(I)I -/
theorem wiX9_weight_9 : ∀ w ∈ u_ws RX9 TX9 52, w ∈ wsX9_weight := by decide +kernel
theorem fX9_weight_112 : mFld wsX9_weight RX9 112 10 0 0 .int false := ⟨9, _, RX9, TX9, 52, tyX9, rfl, rfl, rfl, by decide, wiX9_weight_9, tyX9_ok, nmX9, rfl, rfl, Or.inl ⟨by decide +kernel, fun _ => rfl⟩⟩
theorem fX9_weight_99 : mFld wsX9_weight RX9 99 10 48 28 (.array .int) true := ⟨9, _, RX9, TX9, 52, tyX9, rfl, rfl, rfl, by decide, wiX9_weight_9, tyX9_ok, nmX9, rfl, rfl, Or.inl ⟨by decide +kernel, fun _ => rfl⟩⟩
def bX9_weight (this : Nat) (a1 : Int32) (u : mSt) (K : Int32 → mSt → Prop) : Prop := (∀ u_1, u_1 = mpI u this 0 (0 : Int32) → bX9_denied this a1 u_1 (fun r_4 u_3 => ((0 ≤ r_4 → (∃ q_5, mR u_3 this 48 = some q_5 ∧ (vp_in a1 8 ∧ K (mI u_3 q_5 a1.toNatClampNeg) u_3))) ∧ (¬ (0 ≤ r_4) → K r_4 u_3))))
set_option maxRecDepth 100000 in
set_option maxHeartbeats 4000000 in
theorem tX9_weight {X : mCx} {G : mG} {u0 : mSt} {K : Int32 → mSt → Prop} (F : mFx X G cX9_weight wsX9_weight RX9 "weight" 2 41 (some .int) u0 (mPi K)) (hN : X.2.2.2.2.2.2.2.2.2.2.2.2.1 = 3) {this : Nat} {a1 : Int32} {u : mSt} (kthis : mK u this = 10) (h : bX9_weight this a1 u K) : mZ X u 0 [(0, .ref (G.1 + this)), (1, .int a1)] [] := by
  refine mz_aload_n F dX9_weight_0 rfl 0 rfl ?_
  refine mz_iconst (v := 0) F dX9_weight_1 (by decide) ?_
  refine mz_putI F dX9_weight_2 fX9_weight_112 kthis rfl rfl (fun u_1 eu_1 hxu_1 => ?_)
  replace h := h u_1 eu_1
  replace kthis := hxu_1.2.2 _ _ (by decide) kthis
  refine mz_aload_n F dX9_weight_5 rfl 0 rfl ?_
  refine mz_iload_n F dX9_weight_6 rfl 1 rfl ?_
  refine mz_callV (As := [_]) (n := 1) F dX9_weight_7 rfl kthis rfl rfl gX9_weight_X9_denied (by decide +kernel) (by decide) rfl (Nat.le_of_ble_eq_true rfl) (kX9_denied _ G kthis h) (mz_kI fun r_4 u_3 h hx_2 => ?_)
  replace kthis := hx_2.2.2 _ _ (by decide) kthis
  refine mz_istore_n (lv2 := [(2, .int r_4), (0, .ref (G.1 + this)), (1, .int a1)]) F dX9_weight_10 rfl hN (by decide) rfl ?_
  refine mz_iload_n F dX9_weight_11 rfl 0 rfl ?_
  refine mz_if_ge (tgt := 19) F dX9_weight_12 (by decide) (fun c_7 => ?_) (fun c_7 => ?_)
  · replace h := h.1 c_7
    refine mz_aload_n F dX9_weight_19 rfl 1 rfl ?_
    obtain ⟨q_5, eq_5, h⟩ := h
    refine mz_getR F dX9_weight_20 fX9_weight_99 (by decide) kthis eq_5 (fun kq_5 => ?_)
    refine mz_iload_n F dX9_weight_23 rfl 2 rfl ?_
    obtain ⟨b_6, h⟩ := h
    refine mz_iald F dX9_weight_24 kq_5 rfl b_6 ?_
    exact mz_iret F dX9_weight_25 ⟨_, rfl, h⟩
  · replace h := h.2 c_7
    refine mz_iload_n F dX9_weight_15 rfl 0 rfl ?_
    refine mz_goto (tgt := 25) F dX9_weight_16 (by decide) ?_
    exact mz_iret F dX9_weight_25 ⟨_, rfl, h⟩
set_option maxRecDepth 100000 in
theorem kX9_weight (l : Launch) (G : mG) {u : mSt} {K : Int32 → mSt → Prop} {this : Nat} {a1 : Int32} (kthis : mK u this = 10) (h : bX9_weight this a1 u K) : mCt l G yX9_weight wsX9_weight 2 41 [.ref (G.1 + this), .int a1] u (mPi K) := by
  refine mCt.of (cc := cX9_weight) (maxL := 3) (ret := (some .int)) (by decide) rfl (Nat.le_of_ble_eq_true rfl) ?_
  intro X hl hN F
  exact tX9_weight F hN kthis h
/-! RoomMapperModel.toss(I)I -/
theorem wiX9_toss_9 : ∀ w ∈ u_ws RX9 TX9 52, w ∈ wsX9_toss := by decide +kernel
theorem fX9_toss_112 : mFld wsX9_toss RX9 112 10 0 0 .int false := ⟨9, _, RX9, TX9, 52, tyX9, rfl, rfl, rfl, by decide, wiX9_toss_9, tyX9_ok, nmX9, rfl, rfl, Or.inl ⟨by decide +kernel, fun _ => rfl⟩⟩
theorem fX9_toss_102 : mFld wsX9_toss RX9 102 10 49 28 (.array .int) true := ⟨9, _, RX9, TX9, 52, tyX9, rfl, rfl, rfl, by decide, wiX9_toss_9, tyX9_ok, nmX9, rfl, rfl, Or.inl ⟨by decide +kernel, fun _ => rfl⟩⟩
def bX9_toss (this : Nat) (a1 : Int32) (u : mSt) (K : Int32 → mSt → Prop) : Prop := (∀ u_1, u_1 = mpI u this 0 (0 : Int32) → bX9_denied this a1 u_1 (fun r_4 u_3 => ((0 ≤ r_4 → (∃ q_5, mR u_3 this 49 = some q_5 ∧ (vp_in a1 8 ∧ K (mI u_3 q_5 a1.toNatClampNeg) u_3))) ∧ (¬ (0 ≤ r_4) → K r_4 u_3))))
set_option maxRecDepth 100000 in
set_option maxHeartbeats 4000000 in
theorem tX9_toss {X : mCx} {G : mG} {u0 : mSt} {K : Int32 → mSt → Prop} (F : mFx X G cX9_toss wsX9_toss RX9 "toss" 2 41 (some .int) u0 (mPi K)) (hN : X.2.2.2.2.2.2.2.2.2.2.2.2.1 = 3) {this : Nat} {a1 : Int32} {u : mSt} (kthis : mK u this = 10) (h : bX9_toss this a1 u K) : mZ X u 0 [(0, .ref (G.1 + this)), (1, .int a1)] [] := by
  refine mz_aload_n F dX9_toss_0 rfl 0 rfl ?_
  refine mz_iconst (v := 0) F dX9_toss_1 (by decide) ?_
  refine mz_putI F dX9_toss_2 fX9_toss_112 kthis rfl rfl (fun u_1 eu_1 hxu_1 => ?_)
  replace h := h u_1 eu_1
  replace kthis := hxu_1.2.2 _ _ (by decide) kthis
  refine mz_aload_n F dX9_toss_5 rfl 0 rfl ?_
  refine mz_iload_n F dX9_toss_6 rfl 1 rfl ?_
  refine mz_callV (As := [_]) (n := 1) F dX9_toss_7 rfl kthis rfl rfl gX9_toss_X9_denied (by decide +kernel) (by decide) rfl (Nat.le_of_ble_eq_true rfl) (kX9_denied _ G kthis h) (mz_kI fun r_4 u_3 h hx_2 => ?_)
  replace kthis := hx_2.2.2 _ _ (by decide) kthis
  refine mz_istore_n (lv2 := [(2, .int r_4), (0, .ref (G.1 + this)), (1, .int a1)]) F dX9_toss_10 rfl hN (by decide) rfl ?_
  refine mz_iload_n F dX9_toss_11 rfl 0 rfl ?_
  refine mz_if_ge (tgt := 19) F dX9_toss_12 (by decide) (fun c_7 => ?_) (fun c_7 => ?_)
  · replace h := h.1 c_7
    refine mz_aload_n F dX9_toss_19 rfl 1 rfl ?_
    obtain ⟨q_5, eq_5, h⟩ := h
    refine mz_getR F dX9_toss_20 fX9_toss_102 (by decide) kthis eq_5 (fun kq_5 => ?_)
    refine mz_iload_n F dX9_toss_23 rfl 2 rfl ?_
    obtain ⟨b_6, h⟩ := h
    refine mz_iald F dX9_toss_24 kq_5 rfl b_6 ?_
    exact mz_iret F dX9_toss_25 ⟨_, rfl, h⟩
  · replace h := h.2 c_7
    refine mz_iload_n F dX9_toss_15 rfl 0 rfl ?_
    refine mz_goto (tgt := 25) F dX9_toss_16 (by decide) ?_
    exact mz_iret F dX9_toss_25 ⟨_, rfl, h⟩
set_option maxRecDepth 100000 in
theorem kX9_toss (l : Launch) (G : mG) {u : mSt} {K : Int32 → mSt → Prop} {this : Nat} {a1 : Int32} (kthis : mK u this = 10) (h : bX9_toss this a1 u K) : mCt l G yX9_toss wsX9_toss 2 41 [.ref (G.1 + this), .int a1] u (mPi K) := by
  refine mCt.of (cc := cX9_toss) (maxL := 3) (ret := (some .int)) (by decide) rfl (Nat.le_of_ble_eq_true rfl) ?_
  intro X hl hN F
  exact tX9_toss F hN kthis h
