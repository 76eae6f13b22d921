/-! RoomMapperModel.measure(II)V -/
theorem wiX9_measure_9 : ∀ w ∈ u_ws RX9 TX9 52, w ∈ wsX9_measure := by decide +kernel
theorem fX9_measure_35 : mFld wsX9_measure RX9 35 10 21 15 (.array .int) true := ⟨9, _, RX9, TX9, 52, tyX9, rfl, rfl, rfl, by decide, wiX9_measure_9, tyX9_ok, nmX9, rfl, rfl, Or.inl ⟨by decide +kernel, fun _ => rfl⟩⟩
theorem fX9_measure_41 : mFld wsX9_measure RX9 41 10 23 25 (.array .int) true := ⟨9, _, RX9, TX9, 52, tyX9, rfl, rfl, rfl, by decide, wiX9_measure_9, tyX9_ok, nmX9, rfl, rfl, Or.inl ⟨by decide +kernel, fun _ => rfl⟩⟩
theorem fX9_measure_72 : mFld wsX9_measure RX9 72 10 38 17 (.array .int) true := ⟨9, _, RX9, TX9, 52, tyX9, rfl, rfl, rfl, by decide, wiX9_measure_9, tyX9_ok, nmX9, rfl, rfl, Or.inl ⟨by decide +kernel, fun _ => rfl⟩⟩
def bX9_measure_23 (v0 : Nat) (v1 : Int32) (v2 : Int32) (v3 : Int32) (w0 : Nat) (w1 : Int32) (w2 : Int32) (u : mSt) (K : mSt → Prop) (KL2 : Nat → Int32 → Int32 → Int32 → mSt → Prop) : Prop := (vp_in w1 6 ∧ ∀ u_2, u_2 = mpI u w0 w1.toNatClampNeg w2 → (∀ x_3, x_3 = v3 + (1 : Int32) → KL2 v0 v1 v2 x_3 u_2))
set_option maxRecDepth 100000 in
set_option maxHeartbeats 4000000 in
theorem tX9_measure_23 {X : mCx} {G : mG} {u0 : mSt} {K : mSt → Prop} {KL2 : Nat → Int32 → Int32 → Int32 → mSt → Prop} (F : mFx X G cX9_measure wsX9_measure RX9 "measure" 0 0 none u0 (mPv K)) (hN : X.2.2.2.2.2.2.2.2.2.2.2.2.1 = 6) (hL2 : ∀ {v0 : Nat} {v1 : Int32} {v2 : Int32} {v3 : Int32} {u : mSt}, mK u v0 = 10 → KL2 v0 v1 v2 v3 u → mZ X u 2 [(0, .ref (G.1 + v0)), (1, .int v1), (2, .int v2), (3, .int v3)] []) {v0 : Nat} {v1 : Int32} {v2 : Int32} {v3 : Int32} {w0 : Nat} {w1 : Int32} {w2 : Int32} {u : mSt} (kv0 : mK u v0 = 10) (kw0 : mK u w0 = 17) (h : bX9_measure_23 v0 v1 v2 v3 w0 w1 w2 u K KL2) : mZ X u 23 [(0, .ref (G.1 + v0)), (1, .int v1), (2, .int v2), (3, .int v3)] [.int w2, .int w1, .ref (G.1 + w0)] := by
  obtain ⟨b_1, h⟩ := h
  refine mz_iast F dX9_measure_23 kw0 rfl b_1 (fun u_2 eu_2 hxu_2 => ?_)
  replace h := h u_2 eu_2
  replace kv0 := hxu_2.2.2 _ _ (by decide) kv0
  obtain ⟨x_3, ex_3⟩ : ∃ y : Int32, y = v3 + (1 : Int32) := ⟨_, rfl⟩
  replace h := h x_3 ex_3
  refine mz_iinc (v := x_3) (lv2 := [(3, .int x_3), (0, .ref (G.1 + v0)), (1, .int v1), (2, .int v2)]) F dX9_measure_24 3 rfl (by rw [ex_3]; rfl) hN (by decide) rfl ?_
  refine mz_goto (tgt := 2) F dX9_measure_27 (by decide) ?_
  refine mz_sub [1, 2, 3, 0] rfl ?_
  exact hL2 kv0 h
def bX9_measure_106 (v0 : Nat) (v1 : Int32) (v3 : Int32) (v4 : Int32) (u : mSt) (K : mSt → Prop) (KL32 : Nat → Int32 → Int32 → mSt → Prop) (KL41 : Nat → Int32 → Int32 → Int32 → mSt → Prop) : Prop := (∀ x_1, x_1 = v4 + (1 : Int32) → KL41 v0 v1 v3 x_1 u)
set_option maxRecDepth 100000 in
set_option maxHeartbeats 4000000 in
theorem tX9_measure_106 {X : mCx} {G : mG} {u0 : mSt} {K : mSt → Prop} {KL32 : Nat → Int32 → Int32 → mSt → Prop} {KL41 : Nat → Int32 → Int32 → Int32 → mSt → Prop} (F : mFx X G cX9_measure wsX9_measure RX9 "measure" 0 0 none u0 (mPv K)) (hN : X.2.2.2.2.2.2.2.2.2.2.2.2.1 = 6) (hL32 : ∀ {v0 : Nat} {v1 : Int32} {v3 : Int32} {u : mSt}, mK u v0 = 10 → KL32 v0 v1 v3 u → mZ X u 32 [(0, .ref (G.1 + v0)), (1, .int v1), (3, .int v3)] []) (hL41 : ∀ {v0 : Nat} {v1 : Int32} {v3 : Int32} {v4 : Int32} {u : mSt}, mK u v0 = 10 → KL41 v0 v1 v3 v4 u → mZ X u 41 [(0, .ref (G.1 + v0)), (1, .int v1), (3, .int v3), (4, .int v4)] []) {v0 : Nat} {v1 : Int32} {v3 : Int32} {v4 : Int32} {u : mSt} (kv0 : mK u v0 = 10) (h : bX9_measure_106 v0 v1 v3 v4 u K KL32 KL41) : mZ X u 106 [(0, .ref (G.1 + v0)), (1, .int v1), (3, .int v3), (4, .int v4)] [] := by
  obtain ⟨x_1, ex_1⟩ : ∃ y : Int32, y = v4 + (1 : Int32) := ⟨_, rfl⟩
  replace h := h x_1 ex_1
  refine mz_iinc (v := x_1) (lv2 := [(4, .int x_1), (0, .ref (G.1 + v0)), (1, .int v1), (3, .int v3)]) F dX9_measure_106 3 rfl (by rw [ex_1]; rfl) hN (by decide) rfl ?_
  refine mz_goto (tgt := 41) F dX9_measure_109 (by decide) ?_
  refine mz_sub [1, 2, 3, 0] rfl ?_
  exact hL41 kv0 h
def bX9_measure_41 : Nat → Nat → Int32 → Int32 → Int32 → mSt → (mSt → Prop) → (Nat → Int32 → Int32 → mSt → Prop) → Prop
  | 0, _, _, _, _, _, _, _ => False
  | n + 1, v0, v1, v3, v4, u, K, KL32 => (∃ q_1, mR u v0 21 = some q_1 ∧ (vp_in v1 150 ∧ ((((5 : Int32) * (mI u q_1 v1.toNatClampNeg)) ≤ v4 → (∀ x_3, x_3 = v3 + (1 : Int32) → KL32 v0 v1 x_3 u)) ∧ (¬ (((5 : Int32) * (mI u q_1 v1.toNatClampNeg)) ≤ v4) → (∃ q_4, mR u v0 23 = some q_4 ∧ (vp_in (((30 : Int32) * v1) + v4) 4500 ∧ (∀ x_6, x_6 = (mI u q_4 (((30 : Int32) * v1) + v4).toNatClampNeg) → (∃ q_7, mR u v0 38 = some q_7 ∧ (vp_in (v4 / (5 : Int32)) 6 ∧ (((mI u q_7 (v4 / (5 : Int32)).toNatClampNeg) = v3 → ((x_6 < 0 → bX9_measure_106 v0 v1 v3 v4 u K KL32 (fun z0 z1 z2 z3 z4 => bX9_measure_41 n z0 z1 z2 z3 z4 K KL32)) ∧ (¬ (x_6 < 0) → (∃ q_9, mR u v0 38 = some q_9 ∧ (vp_in x_6 6 ∧ ((0 ≤ (mI u q_9 x_6.toNatClampNeg) → bX9_measure_106 v0 v1 v3 v4 u K KL32 (fun z0 z1 z2 z3 z4 => bX9_measure_41 n z0 z1 z2 z3 z4 K KL32)) ∧ (¬ (0 ≤ (mI u q_9 x_6.toNatClampNeg)) → (∃ q_11, mR u v0 38 = some q_11 ∧ (vp_in x_6 6 ∧ ∀ u_13, u_13 = mpI u q_11 x_6.toNatClampNeg (v3 + (1 : Int32)) → bX9_measure_106 v0 v1 v3 v4 u_13 K KL32 (fun z0 z1 z2 z3 z4 => bX9_measure_41 n z0 z1 z2 z3 z4 K KL32)))))))))) ∧ (¬ ((mI u q_7 (v4 / (5 : Int32)).toNatClampNeg) = v3) → bX9_measure_106 v0 v1 v3 v4 u K KL32 (fun z0 z1 z2 z3 z4 => bX9_measure_41 n z0 z1 z2 z3 z4 K KL32))))))))))))
set_option maxRecDepth 100000 in
set_option maxHeartbeats 4000000 in
theorem tX9_measure_41 {X : mCx} {G : mG} {u0 : mSt} {K : mSt → Prop} {KL32 : Nat → Int32 → Int32 → mSt → Prop} (F : mFx X G cX9_measure wsX9_measure RX9 "measure" 0 0 none u0 (mPv K)) (hN : X.2.2.2.2.2.2.2.2.2.2.2.2.1 = 6) (hL32 : ∀ {v0 : Nat} {v1 : Int32} {v3 : Int32} {u : mSt}, mK u v0 = 10 → KL32 v0 v1 v3 u → mZ X u 32 [(0, .ref (G.1 + v0)), (1, .int v1), (3, .int v3)] []) : ∀ (n : Nat) {v0 : Nat} {v1 : Int32} {v3 : Int32} {v4 : Int32} {u : mSt}, mK u v0 = 10 → bX9_measure_41 n v0 v1 v3 v4 u K KL32 → mZ X u 41 [(0, .ref (G.1 + v0)), (1, .int v1), (3, .int v3), (4, .int v4)] [] := by
  intro n
  induction n with
  | zero => intro v0 v1 v3 v4 u kv0 h; exact False.elim h
  | succ n ih =>
    intro v0 v1 v3 v4 u kv0 h
    refine mz_iload F dX9_measure_41 3 rfl ?_
    refine mz_iconst (v := 5) F dX9_measure_43 (by decide) ?_
    refine mz_aload_n F dX9_measure_44 rfl 0 rfl ?_
    obtain ⟨q_1, eq_1, h⟩ := h
    refine mz_getR F dX9_measure_45 fX9_measure_35 (by decide) kv0 eq_1 (fun kq_1 => ?_)
    refine mz_iload_n F dX9_measure_48 rfl 1 rfl ?_
    obtain ⟨b_2, h⟩ := h
    refine mz_iald F dX9_measure_49 kq_1 rfl b_2 ?_
    refine mz_imul F dX9_measure_50 ?_
    refine mz_icmp_ge (tgt := 112) F dX9_measure_51 (by decide) (fun c_17 => ?_) (fun c_17 => ?_)
    · replace h := h.1 c_17
      obtain ⟨x_3, ex_3⟩ : ∃ y : Int32, y = v3 + (1 : Int32) := ⟨_, rfl⟩
      replace h := h x_3 ex_3
      refine mz_iinc (v := x_3) (lv2 := [(3, .int x_3), (0, .ref (G.1 + v0)), (1, .int v1), (4, .int v4)]) F dX9_measure_112 2 rfl (by rw [ex_3]; rfl) hN (by decide) rfl ?_
      refine mz_goto (tgt := 32) F dX9_measure_115 (by decide) ?_
      refine mz_sub [1, 2, 0] rfl ?_
      exact hL32 kv0 h
    · replace h := h.2 c_17
      refine mz_aload_n F dX9_measure_54 rfl 0 rfl ?_
      obtain ⟨q_4, eq_4, h⟩ := h
      refine mz_getR F dX9_measure_55 fX9_measure_41 (by decide) kv0 eq_4 (fun kq_4 => ?_)
      refine mz_bipush (v := 30) F dX9_measure_58 (by decide) ?_
      refine mz_iload_n F dX9_measure_60 rfl 1 rfl ?_
      refine mz_imul F dX9_measure_61 ?_
      refine mz_iload F dX9_measure_62 3 rfl ?_
      refine mz_iadd F dX9_measure_64 ?_
      obtain ⟨b_5, h⟩ := h
      refine mz_iald F dX9_measure_65 kq_4 rfl b_5 ?_
      refine mz_topi (fun x_6 ex_6 => ?_)
      replace h := h x_6 ex_6
      refine mz_istore (lv2 := [(5, .int x_6), (0, .ref (G.1 + v0)), (1, .int v1), (3, .int v3), (4, .int v4)]) F dX9_measure_66 hN (by decide) rfl ?_
      refine mz_aload_n F dX9_measure_68 rfl 1 rfl ?_
      obtain ⟨q_7, eq_7, h⟩ := h
      refine mz_getR F dX9_measure_69 fX9_measure_72 (by decide) kv0 eq_7 (fun kq_7 => ?_)
      refine mz_iload F dX9_measure_72 4 rfl ?_
      refine mz_iconst (v := 5) F dX9_measure_74 (by decide) ?_
      refine mz_idiv F dX9_measure_75 (by decide) ?_
      obtain ⟨b_8, h⟩ := h
      refine mz_iald F dX9_measure_76 kq_7 rfl b_8 ?_
      refine mz_iload_n F dX9_measure_77 rfl 3 rfl ?_
      refine mz_icmp_ne (tgt := 106) F dX9_measure_78 (by decide) (fun c_16 => ?_) (fun c_16 => ?_)
      · replace h := h.2 c_16
        refine mz_sub [1, 2, 3, 4] rfl ?_
        exact tX9_measure_106 F hN hL32 (fun k0 h => ih k0 h) kv0 h
      · replace h := h.1 c_16
        refine mz_iload F dX9_measure_81 0 rfl ?_
        refine mz_if_lt (tgt := 106) F dX9_measure_83 (by decide) (fun c_15 => ?_) (fun c_15 => ?_)
        · replace h := h.1 c_15
          refine mz_sub [1, 2, 3, 4] rfl ?_
          exact tX9_measure_106 F hN hL32 (fun k0 h => ih k0 h) kv0 h
        · replace h := h.2 c_15
          refine mz_aload_n F dX9_measure_86 rfl 1 rfl ?_
          obtain ⟨q_9, eq_9, h⟩ := h
          refine mz_getR F dX9_measure_87 fX9_measure_72 (by decide) kv0 eq_9 (fun kq_9 => ?_)
          refine mz_iload F dX9_measure_90 0 rfl ?_
          obtain ⟨b_10, h⟩ := h
          refine mz_iald F dX9_measure_92 kq_9 rfl b_10 ?_
          refine mz_if_ge (tgt := 106) F dX9_measure_93 (by decide) (fun c_14 => ?_) (fun c_14 => ?_)
          · replace h := h.1 c_14
            refine mz_sub [1, 2, 3, 4] rfl ?_
            exact tX9_measure_106 F hN hL32 (fun k0 h => ih k0 h) kv0 h
          · replace h := h.2 c_14
            refine mz_aload_n F dX9_measure_96 rfl 1 rfl ?_
            obtain ⟨q_11, eq_11, h⟩ := h
            refine mz_getR F dX9_measure_97 fX9_measure_72 (by decide) kv0 eq_11 (fun kq_11 => ?_)
            refine mz_iload F dX9_measure_100 0 rfl ?_
            refine mz_iload_n F dX9_measure_102 rfl 3 rfl ?_
            refine mz_iconst (v := 1) F dX9_measure_103 (by decide) ?_
            refine mz_iadd F dX9_measure_104 ?_
            obtain ⟨b_12, h⟩ := h
            refine mz_iast F dX9_measure_105 kq_11 rfl b_12 (fun u_13 eu_13 hxu_13 => ?_)
            replace h := h u_13 eu_13
            replace kv0 := hxu_13.2.2 _ _ (by decide) kv0
            refine mz_sub [1, 2, 3, 4] rfl ?_
            exact tX9_measure_106 F hN hL32 (fun k0 h => ih k0 h) kv0 h
def bX9_measure_32 : Nat → Nat → Int32 → Int32 → mSt → (mSt → Prop) → Prop
  | 0, _, _, _, _, _ => False
  | n + 1, v0, v1, v3, u, K => (((6 : Int32) ≤ v3 → K u) ∧ (¬ ((6 : Int32) ≤ v3) → (∃ n9, bX9_measure_41 n9 v0 v1 v3 (0 : Int32) u K (fun z0 z1 z2 z3 => bX9_measure_32 n z0 z1 z2 z3 K))))
set_option maxRecDepth 100000 in
set_option maxHeartbeats 4000000 in
theorem tX9_measure_32 {X : mCx} {G : mG} {u0 : mSt} {K : mSt → Prop} (F : mFx X G cX9_measure wsX9_measure RX9 "measure" 0 0 none u0 (mPv K)) (hN : X.2.2.2.2.2.2.2.2.2.2.2.2.1 = 6) : ∀ (n : Nat) {v0 : Nat} {v1 : Int32} {v3 : Int32} {u : mSt}, mK u v0 = 10 → bX9_measure_32 n v0 v1 v3 u K → mZ X u 32 [(0, .ref (G.1 + v0)), (1, .int v1), (3, .int v3)] [] := by
  intro n
  induction n with
  | zero => intro v0 v1 v3 u kv0 h; exact False.elim h
  | succ n ih =>
    intro v0 v1 v3 u kv0 h
    refine mz_iload_n F dX9_measure_32 rfl 2 rfl ?_
    refine mz_bipush (v := 6) F dX9_measure_33 (by decide) ?_
    refine mz_icmp_ge (tgt := 118) F dX9_measure_35 (by decide) (fun c_1 => ?_) (fun c_1 => ?_)
    · replace h := h.1 c_1
      exact mz_vret F dX9_measure_118 ⟨rfl, h⟩
    · replace h := h.2 c_1
      refine mz_iconst (v := 0) F dX9_measure_38 (by decide) ?_
      refine mz_istore (lv2 := [(4, .int (0 : Int32)), (0, .ref (G.1 + v0)), (1, .int v1), (3, .int v3)]) F dX9_measure_39 hN (by decide) rfl ?_
      refine mz_sub [1, 2, 3, 0] rfl ?_
      obtain ⟨n9, h⟩ := h
      exact tX9_measure_41 F hN (fun k0 h => ih k0 h) n9 kv0 h
def bX9_measure_2 : Nat → Nat → Int32 → Int32 → Int32 → mSt → (mSt → Prop) → Prop
  | 0, _, _, _, _, _, _ => False
  | n + 1, v0, v1, v2, v3, u, K => (((6 : Int32) ≤ v3 → (∃ n9, bX9_measure_32 n9 v0 v1 (0 : Int32) u K)) ∧ (¬ ((6 : Int32) ≤ v3) → (∃ q_1, mR u v0 38 = some q_1 ∧ ((v3 = v2 → bX9_measure_23 v0 v1 v2 v3 q_1 v3 (0 : Int32) u K (fun z0 z1 z2 z3 z4 => bX9_measure_2 n z0 z1 z2 z3 z4 K)) ∧ (¬ (v3 = v2) → bX9_measure_23 v0 v1 v2 v3 q_1 v3 (-1 : Int32) u K (fun z0 z1 z2 z3 z4 => bX9_measure_2 n z0 z1 z2 z3 z4 K))))))
set_option maxRecDepth 100000 in
set_option maxHeartbeats 4000000 in
theorem tX9_measure_2 {X : mCx} {G : mG} {u0 : mSt} {K : mSt → Prop} (F : mFx X G cX9_measure wsX9_measure RX9 "measure" 0 0 none u0 (mPv K)) (hN : X.2.2.2.2.2.2.2.2.2.2.2.2.1 = 6) : ∀ (n : Nat) {v0 : Nat} {v1 : Int32} {v2 : Int32} {v3 : Int32} {u : mSt}, mK u v0 = 10 → bX9_measure_2 n v0 v1 v2 v3 u K → mZ X u 2 [(0, .ref (G.1 + v0)), (1, .int v1), (2, .int v2), (3, .int v3)] [] := by
  intro n
  induction n with
  | zero => intro v0 v1 v2 v3 u kv0 h; exact False.elim h
  | succ n ih =>
    intro v0 v1 v2 v3 u kv0 h
    refine mz_iload_n F dX9_measure_2 rfl 3 rfl ?_
    refine mz_bipush (v := 6) F dX9_measure_3 (by decide) ?_
    refine mz_icmp_ge (tgt := 30) F dX9_measure_5 (by decide) (fun c_3 => ?_) (fun c_3 => ?_)
    · replace h := h.1 c_3
      refine mz_iconst (v := 0) F dX9_measure_30 (by decide) ?_
      refine mz_istore_n (lv2 := [(3, .int (0 : Int32)), (0, .ref (G.1 + v0)), (1, .int v1), (2, .int v2)]) F dX9_measure_31 rfl hN (by decide) rfl ?_
      refine mz_sub [1, 2, 0] rfl ?_
      obtain ⟨n9, h⟩ := h
      exact tX9_measure_32 F hN n9 kv0 h
    · replace h := h.2 c_3
      refine mz_aload_n F dX9_measure_8 rfl 0 rfl ?_
      obtain ⟨q_1, eq_1, h⟩ := h
      refine mz_getR F dX9_measure_9 fX9_measure_72 (by decide) kv0 eq_1 (fun kq_1 => ?_)
      refine mz_iload_n F dX9_measure_12 rfl 3 rfl ?_
      refine mz_iload_n F dX9_measure_13 rfl 3 rfl ?_
      refine mz_iload_n F dX9_measure_14 rfl 2 rfl ?_
      refine mz_icmp_ne (tgt := 22) F dX9_measure_15 (by decide) (fun c_2 => ?_) (fun c_2 => ?_)
      · replace h := h.2 c_2
        refine mz_iconst (v := (-1)) F dX9_measure_22 (by decide) ?_
        refine mz_sub [0, 1, 2, 3] rfl ?_
        exact tX9_measure_23 F hN (fun k0 h => ih k0 h) kv0 kq_1 h
      · replace h := h.1 c_2
        refine mz_iconst (v := 0) F dX9_measure_18 (by decide) ?_
        refine mz_goto (tgt := 23) F dX9_measure_19 (by decide) ?_
        refine mz_sub [0, 1, 2, 3] rfl ?_
        exact tX9_measure_23 F hN (fun k0 h => ih k0 h) kv0 kq_1 h
def bX9_measure (this : Nat) (a1 : Int32) (a2 : Int32) (u : mSt) (K : mSt → Prop) : Prop := (∃ n9, bX9_measure_2 n9 this a1 a2 (0 : Int32) u K)
set_option maxRecDepth 100000 in
set_option maxHeartbeats 4000000 in
theorem tX9_measure {X : mCx} {G : mG} {u0 : mSt} {K : mSt → Prop} (F : mFx X G cX9_measure wsX9_measure RX9 "measure" 0 0 none u0 (mPv K)) (hN : X.2.2.2.2.2.2.2.2.2.2.2.2.1 = 6) {this : Nat} {a1 : Int32} {a2 : Int32} {u : mSt} (kthis : mK u this = 10) (h : bX9_measure this a1 a2 u K) : mZ X u 0 [(0, .ref (G.1 + this)), (1, .int a1), (2, .int a2)] [] := by
  refine mz_iconst (v := 0) F dX9_measure_0 (by decide) ?_
  refine mz_istore_n (lv2 := [(3, .int (0 : Int32)), (0, .ref (G.1 + this)), (1, .int a1), (2, .int a2)]) F dX9_measure_1 rfl hN (by decide) rfl ?_
  refine mz_sub [1, 2, 3, 0] rfl ?_
  obtain ⟨n9, h⟩ := h
  exact tX9_measure_2 F hN n9 kthis h
set_option maxRecDepth 100000 in
theorem kX9_measure (l : Launch) (G : mG) {u : mSt} {K : mSt → Prop} {this : Nat} {a1 : Int32} {a2 : Int32} (kthis : mK u this = 10) (h : bX9_measure this a1 a2 u K) : mCt l G yX9_measure wsX9_measure 0 0 [.ref (G.1 + this), .int a1, .int a2] u (mPv K) := by
  refine mCt.of (cc := cX9_measure) (maxL := 6) (ret := none) (by decide) rfl (Nat.le_of_ble_eq_true rfl) ?_
  intro X hl hN F
  exact tX9_measure F hN kthis h
/-! RoomMapperModel.known()I -/
theorem wiX9_known_9 : ∀ w ∈ u_ws RX9 TX9 52, w ∈ wsX9_known := by decide +kernel
theorem fX9_known_159 : mFld wsX9_known RX9 159 10 6 0 .boolean false := ⟨9, _, RX9, TX9, 52, tyX9, rfl, rfl, rfl, by decide, wiX9_known_9, tyX9_ok, nmX9, rfl, rfl, Or.inl ⟨by decide +kernel, fun _ => rfl⟩⟩
theorem fX9_known_35 : mFld wsX9_known RX9 35 10 21 15 (.array .int) true := ⟨9, _, RX9, TX9, 52, tyX9, rfl, rfl, rfl, by decide, wiX9_known_9, tyX9_ok, nmX9, rfl, rfl, Or.inl ⟨by decide +kernel, fun _ => rfl⟩⟩
theorem fX9_known_72 : mFld wsX9_known RX9 72 10 38 17 (.array .int) true := ⟨9, _, RX9, TX9, 52, tyX9, rfl, rfl, rfl, by decide, wiX9_known_9, tyX9_ok, nmX9, rfl, rfl, Or.inl ⟨by decide +kernel, fun _ => rfl⟩⟩
theorem fX9_known_41 : mFld wsX9_known RX9 41 10 23 25 (.array .int) true := ⟨9, _, RX9, TX9, 52, tyX9, rfl, rfl, rfl, by decide, wiX9_known_9, tyX9_ok, nmX9, rfl, rfl, Or.inl ⟨by decide +kernel, fun _ => rfl⟩⟩
theorem fX9_known_112 : mFld wsX9_known RX9 112 10 0 0 .int false := ⟨9, _, RX9, TX9, 52, tyX9, rfl, rfl, rfl, by decide, wiX9_known_9, tyX9_ok, nmX9, rfl, rfl, Or.inl ⟨by decide +kernel, fun _ => rfl⟩⟩
theorem fX9_known_180 : mFld wsX9_known RX9 180 10 20 0 .boolean false := ⟨9, _, RX9, TX9, 52, tyX9, rfl, rfl, rfl, by decide, wiX9_known_9, tyX9_ok, nmX9, rfl, rfl, Or.inl ⟨by decide +kernel, fun _ => rfl⟩⟩
theorem fX9_known_177 : mFld wsX9_known RX9 177 10 19 0 .int false := ⟨9, _, RX9, TX9, 52, tyX9, rfl, rfl, rfl, by decide, wiX9_known_9, tyX9_ok, nmX9, rfl, rfl, Or.inl ⟨by decide +kernel, fun _ => rfl⟩⟩
theorem fX9_known_44 : mFld wsX9_known RX9 44 10 24 15 (.array .int) true := ⟨9, _, RX9, TX9, 52, tyX9, rfl, rfl, rfl, by decide, wiX9_known_9, tyX9_ok, nmX9, rfl, rfl, Or.inl ⟨by decide +kernel, fun _ => rfl⟩⟩
def bX9_known_19 (v0 : Nat) (u : mSt) (K : Int32 → mSt → Prop) : Prop := (((mI u v0 6) = 0 → K (-2 : Int32) u) ∧ (¬ ((mI u v0 6) = 0) → K (-3 : Int32) u))
set_option maxRecDepth 100000 in
set_option maxHeartbeats 4000000 in
theorem tX9_known_19 {X : mCx} {G : mG} {u0 : mSt} {K : Int32 → mSt → Prop} (F : mFx X G cX9_known wsX9_known RX9 "known" 1 25 (some .int) u0 (mPi K)) (hN : X.2.2.2.2.2.2.2.2.2.2.2.2.1 = 3) {v0 : Nat} {u : mSt} (kv0 : mK u v0 = 10) (h : bX9_known_19 v0 u K) : mZ X u 19 [(0, .ref (G.1 + v0))] [] := by
  refine mz_aload_n F dX9_known_19 rfl 0 rfl ?_
  refine mz_getI F dX9_known_20 fX9_known_159 kv0 ?_
  refine mz_if_ne (tgt := 31) F dX9_known_23 (by decide) (fun c_1 => ?_) (fun c_1 => ?_)
  · replace h := h.2 c_1
    refine mz_bipush (v := (-3)) F dX9_known_31 (by decide) ?_
    exact mz_iret F dX9_known_33 ⟨_, rfl, h⟩
  · replace h := h.1 c_1
    refine mz_bipush (v := (-2)) F dX9_known_26 (by decide) ?_
    refine mz_goto (tgt := 33) F dX9_known_28 (by decide) ?_
    exact mz_iret F dX9_known_33 ⟨_, rfl, h⟩
def bX9_known_102 (v0 : Nat) (v2 : Int32) (w0 : Int32) (u : mSt) (K : Int32 → mSt → Prop) (KL59 : Nat → Int32 → Int32 → mSt → Prop) : Prop := (∀ x_1, x_1 = v2 + (1 : Int32) → KL59 v0 w0 x_1 u)
set_option maxRecDepth 100000 in
set_option maxHeartbeats 4000000 in
theorem tX9_known_102 {X : mCx} {G : mG} {u0 : mSt} {K : Int32 → mSt → Prop} {KL59 : Nat → Int32 → Int32 → mSt → Prop} (F : mFx X G cX9_known wsX9_known RX9 "known" 1 25 (some .int) u0 (mPi K)) (hN : X.2.2.2.2.2.2.2.2.2.2.2.2.1 = 3) (hL59 : ∀ {v0 : Nat} {v1 : Int32} {v2 : Int32} {u : mSt}, mK u v0 = 10 → KL59 v0 v1 v2 u → mZ X u 59 [(0, .ref (G.1 + v0)), (1, .int v1), (2, .int v2)] []) {v0 : Nat} {v2 : Int32} {w0 : Int32} {u : mSt} (kv0 : mK u v0 = 10) (h : bX9_known_102 v0 v2 w0 u K KL59) : mZ X u 102 [(0, .ref (G.1 + v0)), (2, .int v2)] [.int w0] := by
  refine mz_istore_n (lv2 := [(1, .int w0), (0, .ref (G.1 + v0)), (2, .int v2)]) F dX9_known_102 rfl hN (by decide) rfl ?_
  obtain ⟨x_1, ex_1⟩ : ∃ y : Int32, y = v2 + (1 : Int32) := ⟨_, rfl⟩
  replace h := h x_1 ex_1
  refine mz_iinc (v := x_1) (lv2 := [(2, .int x_1), (1, .int w0), (0, .ref (G.1 + v0))]) F dX9_known_103 2 rfl (by rw [ex_1]; rfl) hN (by decide) rfl ?_
  refine mz_goto (tgt := 59) F dX9_known_106 (by decide) ?_
  refine mz_sub [2, 1, 0] rfl ?_
  exact hL59 kv0 h
def bX9_known_97 (v0 : Nat) (v2 : Int32) (u : mSt) (K : Int32 → mSt → Prop) (KL59 : Nat → Int32 → Int32 → mSt → Prop) : Prop := bX9_known_102 v0 v2 (1 : Int32) u K KL59
set_option maxRecDepth 100000 in
set_option maxHeartbeats 4000000 in
theorem tX9_known_97 {X : mCx} {G : mG} {u0 : mSt} {K : Int32 → mSt → Prop} {KL59 : Nat → Int32 → Int32 → mSt → Prop} (F : mFx X G cX9_known wsX9_known RX9 "known" 1 25 (some .int) u0 (mPi K)) (hN : X.2.2.2.2.2.2.2.2.2.2.2.2.1 = 3) (hL59 : ∀ {v0 : Nat} {v1 : Int32} {v2 : Int32} {u : mSt}, mK u v0 = 10 → KL59 v0 v1 v2 u → mZ X u 59 [(0, .ref (G.1 + v0)), (1, .int v1), (2, .int v2)] []) {v0 : Nat} {v2 : Int32} {u : mSt} (kv0 : mK u v0 = 10) (h : bX9_known_97 v0 v2 u K KL59) : mZ X u 97 [(0, .ref (G.1 + v0)), (2, .int v2)] [] := by
  refine mz_iconst (v := 1) F dX9_known_97 (by decide) ?_
  refine mz_goto (tgt := 102) F dX9_known_98 (by decide) ?_
  refine mz_sub [0, 1] rfl ?_
  exact tX9_known_102 F hN hL59 kv0 h
def bX9_known_101 (v0 : Nat) (v2 : Int32) (u : mSt) (K : Int32 → mSt → Prop) (KL59 : Nat → Int32 → Int32 → mSt → Prop) : Prop := bX9_known_102 v0 v2 (0 : Int32) u K KL59
set_option maxRecDepth 100000 in
set_option maxHeartbeats 4000000 in
theorem tX9_known_101 {X : mCx} {G : mG} {u0 : mSt} {K : Int32 → mSt → Prop} {KL59 : Nat → Int32 → Int32 → mSt → Prop} (F : mFx X G cX9_known wsX9_known RX9 "known" 1 25 (some .int) u0 (mPi K)) (hN : X.2.2.2.2.2.2.2.2.2.2.2.2.1 = 3) (hL59 : ∀ {v0 : Nat} {v1 : Int32} {v2 : Int32} {u : mSt}, mK u v0 = 10 → KL59 v0 v1 v2 u → mZ X u 59 [(0, .ref (G.1 + v0)), (1, .int v1), (2, .int v2)] []) {v0 : Nat} {v2 : Int32} {u : mSt} (kv0 : mK u v0 = 10) (h : bX9_known_101 v0 v2 u K KL59) : mZ X u 101 [(0, .ref (G.1 + v0)), (2, .int v2)] [] := by
  refine mz_iconst (v := 0) F dX9_known_101 (by decide) ?_
  refine mz_sub [0, 1] rfl ?_
  exact tX9_known_102 F hN hL59 kv0 h
def bX9_known_59 : Nat → Nat → Int32 → Int32 → mSt → (Int32 → mSt → Prop) → Prop
  | 0, _, _, _, _, _ => False
  | n + 1, v0, v1, v2, u, K => (∃ q_1, mR u v0 21 = some q_1 ∧ (vp_in (0 : Int32) 150 ∧ ((((5 : Int32) * (mI u q_1 (0 : Int32).toNatClampNeg)) ≤ v2 → ((v1 = 0 → K (0 : Int32) u) ∧ (¬ (v1 = 0) → K (1 : Int32) u))) ∧ (¬ (((5 : Int32) * (mI u q_1 (0 : Int32).toNatClampNeg)) ≤ v2) → ((v1 = 0 → bX9_known_101 v0 v2 u K (fun z0 z1 z2 z3 => bX9_known_59 n z0 z1 z2 z3 K)) ∧ (¬ (v1 = 0) → (∃ q_4, mR u v0 38 = some q_4 ∧ (vp_in (v2 / (5 : Int32)) 6 ∧ (((mI u q_4 (v2 / (5 : Int32)).toNatClampNeg) < 0 → bX9_known_97 v0 v2 u K (fun z0 z1 z2 z3 => bX9_known_59 n z0 z1 z2 z3 K)) ∧ (¬ ((mI u q_4 (v2 / (5 : Int32)).toNatClampNeg) < 0) → (∃ q_6, mR u v0 23 = some q_6 ∧ (vp_in v2 4500 ∧ (((mI u q_6 v2.toNatClampNeg) = (-3 : Int32) → bX9_known_101 v0 v2 u K (fun z0 z1 z2 z3 => bX9_known_59 n z0 z1 z2 z3 K)) ∧ (¬ ((mI u q_6 v2.toNatClampNeg) = (-3 : Int32)) → bX9_known_97 v0 v2 u K (fun z0 z1 z2 z3 => bX9_known_59 n z0 z1 z2 z3 K)))))))))))))))
set_option maxRecDepth 100000 in
set_option maxHeartbeats 4000000 in
theorem tX9_known_59 {X : mCx} {G : mG} {u0 : mSt} {K : Int32 → mSt → Prop} (F : mFx X G cX9_known wsX9_known RX9 "known" 1 25 (some .int) u0 (mPi K)) (hN : X.2.2.2.2.2.2.2.2.2.2.2.2.1 = 3) : ∀ (n : Nat) {v0 : Nat} {v1 : Int32} {v2 : Int32} {u : mSt}, mK u v0 = 10 → bX9_known_59 n v0 v1 v2 u K → mZ X u 59 [(0, .ref (G.1 + v0)), (1, .int v1), (2, .int v2)] [] := by
  intro n
  induction n with
  | zero => intro v0 v1 v2 u kv0 h; exact False.elim h
  | succ n ih =>
    intro v0 v1 v2 u kv0 h
    refine mz_iload_n F dX9_known_59 rfl 2 rfl ?_
    refine mz_iconst (v := 5) F dX9_known_60 (by decide) ?_
    refine mz_aload_n F dX9_known_61 rfl 0 rfl ?_
    obtain ⟨q_1, eq_1, h⟩ := h
    refine mz_getR F dX9_known_62 fX9_known_35 (by decide) kv0 eq_1 (fun kq_1 => ?_)
    refine mz_iconst (v := 0) F dX9_known_65 (by decide) ?_
    obtain ⟨b_2, h⟩ := h
    refine mz_iald F dX9_known_66 kq_1 rfl b_2 ?_
    refine mz_imul F dX9_known_67 ?_
    refine mz_icmp_ge (tgt := 109) F dX9_known_68 (by decide) (fun c_11 => ?_) (fun c_11 => ?_)
    · replace h := h.1 c_11
      refine mz_iload_n F dX9_known_109 rfl 1 rfl ?_
      refine mz_if_eq (tgt := 117) F dX9_known_110 (by decide) (fun c_3 => ?_) (fun c_3 => ?_)
      · replace h := h.1 c_3
        refine mz_iconst (v := 0) F dX9_known_117 (by decide) ?_
        exact mz_iret F dX9_known_118 ⟨_, rfl, h⟩
      · replace h := h.2 c_3
        refine mz_iconst (v := 1) F dX9_known_113 (by decide) ?_
        refine mz_goto (tgt := 118) F dX9_known_114 (by decide) ?_
        exact mz_iret F dX9_known_118 ⟨_, rfl, h⟩
    · replace h := h.2 c_11
      refine mz_iload_n F dX9_known_71 rfl 1 rfl ?_
      refine mz_if_eq (tgt := 101) F dX9_known_72 (by decide) (fun c_10 => ?_) (fun c_10 => ?_)
      · replace h := h.1 c_10
        refine mz_sub [0, 2] rfl ?_
        exact tX9_known_101 F hN (fun k0 h => ih k0 h) kv0 h
      · replace h := h.2 c_10
        refine mz_aload_n F dX9_known_75 rfl 0 rfl ?_
        obtain ⟨q_4, eq_4, h⟩ := h
        refine mz_getR F dX9_known_76 fX9_known_72 (by decide) kv0 eq_4 (fun kq_4 => ?_)
        refine mz_iload_n F dX9_known_79 rfl 2 rfl ?_
        refine mz_iconst (v := 5) F dX9_known_80 (by decide) ?_
        refine mz_idiv F dX9_known_81 (by decide) ?_
        obtain ⟨b_5, h⟩ := h
        refine mz_iald F dX9_known_82 kq_4 rfl b_5 ?_
        refine mz_if_lt (tgt := 97) F dX9_known_83 (by decide) (fun c_9 => ?_) (fun c_9 => ?_)
        · replace h := h.1 c_9
          refine mz_sub [0, 2] rfl ?_
          exact tX9_known_97 F hN (fun k0 h => ih k0 h) kv0 h
        · replace h := h.2 c_9
          refine mz_aload_n F dX9_known_86 rfl 0 rfl ?_
          obtain ⟨q_6, eq_6, h⟩ := h
          refine mz_getR F dX9_known_87 fX9_known_41 (by decide) kv0 eq_6 (fun kq_6 => ?_)
          refine mz_iload_n F dX9_known_90 rfl 2 rfl ?_
          obtain ⟨b_7, h⟩ := h
          refine mz_iald F dX9_known_91 kq_6 rfl b_7 ?_
          refine mz_bipush (v := (-3)) F dX9_known_92 (by decide) ?_
          refine mz_icmp_eq (tgt := 101) F dX9_known_94 (by decide) (fun c_8 => ?_) (fun c_8 => ?_)
          · replace h := h.1 c_8
            refine mz_sub [0, 2] rfl ?_
            exact tX9_known_101 F hN (fun k0 h => ih k0 h) kv0 h
          · replace h := h.2 c_8
            refine mz_sub [0, 2] rfl ?_
            exact tX9_known_97 F hN (fun k0 h => ih k0 h) kv0 h
def bX9_known (this : Nat) (u : mSt) (K : Int32 → mSt → Prop) : Prop := (∀ u_1, u_1 = mpI u this 0 (0 : Int32) → (((mI u_1 this 6) = 0 → bX9_known_19 this u_1 K) ∧ (¬ ((mI u_1 this 6) = 0) → (((mI u_1 this 20) = 0 → (((mI u_1 this 19) = (1 : Int32) → (∃ q_2, mR u_1 this 24 = some q_2 ∧ (vp_in (0 : Int32) 150 ∧ bX9_measure this (0 : Int32) (mI u_1 q_2 (0 : Int32).toNatClampNeg) u_1 (fun u_5 => (∃ n9, bX9_known_59 n9 this (1 : Int32) (0 : Int32) u_5 K))))) ∧ (¬ ((mI u_1 this 19) = (1 : Int32)) → K (0 : Int32) u_1))) ∧ (¬ ((mI u_1 this 20) = 0) → bX9_known_19 this u_1 K)))))
set_option maxRecDepth 100000 in
set_option maxHeartbeats 4000000 in
theorem tX9_known {X : mCx} {G : mG} {u0 : mSt} {K : Int32 → mSt → Prop} (F : mFx X G cX9_known wsX9_known RX9 "known" 1 25 (some .int) u0 (mPi K)) (hN : X.2.2.2.2.2.2.2.2.2.2.2.2.1 = 3) {this : Nat} {u : mSt} (kthis : mK u this = 10) (h : bX9_known this u K) : mZ X u 0 [(0, .ref (G.1 + this))] [] := by
  refine mz_aload_n F dX9_known_0 rfl 0 rfl ?_
  refine mz_iconst (v := 0) F dX9_known_1 (by decide) ?_
  refine mz_putI F dX9_known_2 fX9_known_112 kthis rfl rfl (fun u_1 eu_1 hxu_1 => ?_)
  replace h := h u_1 eu_1
  replace kthis := hxu_1.2.2 _ _ (by decide) kthis
  refine mz_aload_n F dX9_known_5 rfl 0 rfl ?_
  refine mz_getI F dX9_known_6 fX9_known_159 kthis ?_
  refine mz_if_eq (tgt := 19) F dX9_known_9 (by decide) (fun c_8 => ?_) (fun c_8 => ?_)
  · replace h := h.1 c_8
    refine mz_sub [0] rfl ?_
    exact tX9_known_19 F hN kthis h
  · replace h := h.2 c_8
    refine mz_aload_n F dX9_known_12 rfl 0 rfl ?_
    refine mz_getI F dX9_known_13 fX9_known_180 kthis ?_
    refine mz_if_eq (tgt := 34) F dX9_known_16 (by decide) (fun c_7 => ?_) (fun c_7 => ?_)
    · replace h := h.1 c_7
      refine mz_aload_n F dX9_known_34 rfl 0 rfl ?_
      refine mz_getI F dX9_known_35 fX9_known_177 kthis ?_
      refine mz_iconst (v := 1) F dX9_known_38 (by decide) ?_
      refine mz_icmp_eq (tgt := 44) F dX9_known_39 (by decide) (fun c_6 => ?_) (fun c_6 => ?_)
      · replace h := h.1 c_6
        refine mz_aload_n F dX9_known_44 rfl 0 rfl ?_
        refine mz_iconst (v := 0) F dX9_known_45 (by decide) ?_
        refine mz_aload_n F dX9_known_46 rfl 0 rfl ?_
        obtain ⟨q_2, eq_2, h⟩ := h
        refine mz_getR F dX9_known_47 fX9_known_44 (by decide) kthis eq_2 (fun kq_2 => ?_)
        refine mz_iconst (v := 0) F dX9_known_50 (by decide) ?_
        obtain ⟨b_3, h⟩ := h
        refine mz_iald F dX9_known_51 kq_2 rfl b_3 ?_
        refine mz_callV (As := [_, _]) (n := 2) F dX9_known_52 rfl kthis rfl rfl gX9_known_X9_measure (by decide +kernel) (by decide) rfl (Nat.le_of_ble_eq_true rfl) (kX9_measure _ G kthis h) (mz_kV fun u_5 h hx_4 => ?_)
        replace kthis := hx_4.2.2 _ _ (by decide) kthis
        refine mz_iconst (v := 1) F dX9_known_55 (by decide) ?_
        refine mz_istore_n (lv2 := [(1, .int (1 : Int32)), (0, .ref (G.1 + this))]) F dX9_known_56 rfl hN (by decide) rfl ?_
        refine mz_iconst (v := 0) F dX9_known_57 (by decide) ?_
        refine mz_istore_n (lv2 := [(2, .int (0 : Int32)), (1, .int (1 : Int32)), (0, .ref (G.1 + this))]) F dX9_known_58 rfl hN (by decide) rfl ?_
        refine mz_sub [2, 1, 0] rfl ?_
        obtain ⟨n9, h⟩ := h
        exact tX9_known_59 F hN n9 kthis h
      · replace h := h.2 c_6
        refine mz_iconst (v := 0) F dX9_known_42 (by decide) ?_
        exact mz_iret F dX9_known_43 ⟨_, rfl, h⟩
    · replace h := h.2 c_7
      refine mz_sub [0] rfl ?_
      exact tX9_known_19 F hN kthis h
set_option maxRecDepth 100000 in
theorem kX9_known (l : Launch) (G : mG) {u : mSt} {K : Int32 → mSt → Prop} {this : Nat} (kthis : mK u this = 10) (h : bX9_known this u K) : mCt l G yX9_known wsX9_known 1 25 [.ref (G.1 + this)] u (mPi K) := by
  refine mCt.of (cc := cX9_known) (maxL := 3) (ret := (some .int)) (by decide) rfl (Nat.le_of_ble_eq_true rfl) ?_
  intro X hl hN F
  exact tX9_known F hN kthis h
/-! RoomMapperModel.one(II)I -/
theorem wiX9_one_9 : ∀ w ∈ u_ws RX9 TX9 52, w ∈ wsX9_one := by decide +kernel
theorem fX9_one_159 : mFld wsX9_one RX9 159 10 6 0 .boolean false := ⟨9, _, RX9, TX9, 52, tyX9, rfl, rfl, rfl, by decide, wiX9_one_9, tyX9_ok, nmX9, rfl, rfl, Or.inl ⟨by decide +kernel, fun _ => rfl⟩⟩
theorem fX9_one_177 : mFld wsX9_one RX9 177 10 19 0 .int false := ⟨9, _, RX9, TX9, 52, tyX9, rfl, rfl, rfl, by decide, wiX9_one_9, tyX9_ok, nmX9, rfl, rfl, Or.inl ⟨by decide +kernel, fun _ => rfl⟩⟩
theorem fX9_one_50 : mFld wsX9_one RX9 50 10 26 26 (.array .byte) true := ⟨9, _, RX9, TX9, 52, tyX9, rfl, rfl, rfl, by decide, wiX9_one_9, tyX9_ok, nmX9, rfl, rfl, Or.inl ⟨by decide +kernel, fun _ => rfl⟩⟩
theorem fX9_one_112 : mFld wsX9_one RX9 112 10 0 0 .int false := ⟨9, _, RX9, TX9, 52, tyX9, rfl, rfl, rfl, by decide, wiX9_one_9, tyX9_ok, nmX9, rfl, rfl, Or.inl ⟨by decide +kernel, fun _ => rfl⟩⟩
theorem fX9_one_180 : mFld wsX9_one RX9 180 10 20 0 .boolean false := ⟨9, _, RX9, TX9, 52, tyX9, rfl, rfl, rfl, by decide, wiX9_one_9, tyX9_ok, nmX9, rfl, rfl, Or.inl ⟨by decide +kernel, fun _ => rfl⟩⟩
theorem fX9_one_168 : mFld wsX9_one RX9 168 10 12 0 .int false := ⟨9, _, RX9, TX9, 52, tyX9, rfl, rfl, rfl, by decide, wiX9_one_9, tyX9_ok, nmX9, rfl, rfl, Or.inl ⟨by decide +kernel, fun _ => rfl⟩⟩
def bX9_one_19 (v0 : Nat) (u : mSt) (K : Int32 → mSt → Prop) : Prop := (((mI u v0 6) = 0 → K (-2 : Int32) u) ∧ (¬ ((mI u v0 6) = 0) → K (-3 : Int32) u))
set_option maxRecDepth 100000 in
set_option maxHeartbeats 4000000 in
theorem tX9_one_19 {X : mCx} {G : mG} {u0 : mSt} {K : Int32 → mSt → Prop} (F : mFx X G cX9_one wsX9_one RX9 "one" 1 25 (some .int) u0 (mPi K)) (hN : X.2.2.2.2.2.2.2.2.2.2.2.2.1 = 5) {v0 : Nat} {u : mSt} (kv0 : mK u v0 = 10) (h : bX9_one_19 v0 u K) : mZ X u 19 [(0, .ref (G.1 + v0))] [] := by
  refine mz_aload_n F dX9_one_19 rfl 0 rfl ?_
  refine mz_getI F dX9_one_20 fX9_one_159 kv0 ?_
  refine mz_if_ne (tgt := 31) F dX9_one_23 (by decide) (fun c_1 => ?_) (fun c_1 => ?_)
  · replace h := h.2 c_1
    refine mz_bipush (v := (-3)) F dX9_one_31 (by decide) ?_
    exact mz_iret F dX9_one_33 ⟨_, rfl, h⟩
  · replace h := h.1 c_1
    refine mz_bipush (v := (-2)) F dX9_one_26 (by decide) ?_
    refine mz_goto (tgt := 33) F dX9_one_28 (by decide) ?_
    exact mz_iret F dX9_one_33 ⟨_, rfl, h⟩
def bX9_one_120 (v0 : Nat) (v1 : Int32) (v2 : Int32) (v4 : Int32) (w0 : Int32) (w1 : Int32) (u : mSt) (K : Int32 → mSt → Prop) (KL76 : Nat → Int32 → Int32 → Int32 → Int32 → mSt → Prop) : Prop := (∀ x_1, x_1 = (w0 + w1) → (∀ x_2, x_2 = v4 + (1 : Int32) → KL76 v0 v1 v2 x_1 x_2 u))
set_option maxRecDepth 100000 in
set_option maxHeartbeats 4000000 in
theorem tX9_one_120 {X : mCx} {G : mG} {u0 : mSt} {K : Int32 → mSt → Prop} {KL76 : Nat → Int32 → Int32 → Int32 → Int32 → mSt → Prop} (F : mFx X G cX9_one wsX9_one RX9 "one" 1 25 (some .int) u0 (mPi K)) (hN : X.2.2.2.2.2.2.2.2.2.2.2.2.1 = 5) (hL76 : ∀ {v0 : Nat} {v1 : Int32} {v2 : Int32} {v3 : Int32} {v4 : Int32} {u : mSt}, mK u v0 = 10 → KL76 v0 v1 v2 v3 v4 u → mZ X u 76 [(0, .ref (G.1 + v0)), (1, .int v1), (2, .int v2), (3, .int v3), (4, .int v4)] []) {v0 : Nat} {v1 : Int32} {v2 : Int32} {v4 : Int32} {w0 : Int32} {w1 : Int32} {u : mSt} (kv0 : mK u v0 = 10) (h : bX9_one_120 v0 v1 v2 v4 w0 w1 u K KL76) : mZ X u 120 [(0, .ref (G.1 + v0)), (1, .int v1), (2, .int v2), (4, .int v4)] [.int w1, .int w0] := by
  refine mz_iadd F dX9_one_120 ?_
  refine mz_topi (fun x_1 ex_1 => ?_)
  replace h := h x_1 ex_1
  refine mz_istore_n (lv2 := [(3, .int x_1), (0, .ref (G.1 + v0)), (1, .int v1), (2, .int v2), (4, .int v4)]) F dX9_one_121 rfl hN (by decide) rfl ?_
  obtain ⟨x_2, ex_2⟩ : ∃ y : Int32, y = v4 + (1 : Int32) := ⟨_, rfl⟩
  replace h := h x_2 ex_2
  refine mz_iinc (v := x_2) (lv2 := [(4, .int x_2), (3, .int x_1), (0, .ref (G.1 + v0)), (1, .int v1), (2, .int v2)]) F dX9_one_122 4 rfl (by rw [ex_2]; rfl) hN (by decide) rfl ?_
  refine mz_goto (tgt := 76) F dX9_one_125 (by decide) ?_
  refine mz_sub [2, 3, 4, 1, 0] rfl ?_
  exact hL76 kv0 h
def bX9_one_76 : Nat → Nat → Int32 → Int32 → Int32 → Int32 → mSt → (Int32 → mSt → Prop) → Prop
  | 0, _, _, _, _, _, _, _ => False
  | n + 1, v0, v1, v2, v3, v4, u, K => (((mI u v0 19) ≤ v4 → ((v3 = (mI u v0 19) → K (1 : Int32) u) ∧ (¬ (v3 = (mI u v0 19)) → ((v3 = 0 → K (0 : Int32) u) ∧ (¬ (v3 = 0) → K (2 : Int32) u))))) ∧ (¬ ((mI u v0 19) ≤ v4) → (∃ q_3, mR u v0 26 = some q_3 ∧ (vp_in (((201 : Int32) * v4) + v1) 30150 ∧ (∃ q_5, mR u v0 26 = some q_5 ∧ (vp_in (((201 : Int32) * v4) + v2) 30150 ∧ (((mI u q_3 (((201 : Int32) * v4) + v1).toNatClampNeg) = (mI u q_5 (((201 : Int32) * v4) + v2).toNatClampNeg) → bX9_one_120 v0 v1 v2 v4 v3 (1 : Int32) u K (fun z0 z1 z2 z3 z4 z5 => bX9_one_76 n z0 z1 z2 z3 z4 z5 K)) ∧ (¬ ((mI u q_3 (((201 : Int32) * v4) + v1).toNatClampNeg) = (mI u q_5 (((201 : Int32) * v4) + v2).toNatClampNeg)) → bX9_one_120 v0 v1 v2 v4 v3 (0 : Int32) u K (fun z0 z1 z2 z3 z4 z5 => bX9_one_76 n z0 z1 z2 z3 z4 z5 K)))))))))
set_option maxRecDepth 100000 in
set_option maxHeartbeats 4000000 in
theorem tX9_one_76 {X : mCx} {G : mG} {u0 : mSt} {K : Int32 → mSt → Prop} (F : mFx X G cX9_one wsX9_one RX9 "one" 1 25 (some .int) u0 (mPi K)) (hN : X.2.2.2.2.2.2.2.2.2.2.2.2.1 = 5) : ∀ (n : Nat) {v0 : Nat} {v1 : Int32} {v2 : Int32} {v3 : Int32} {v4 : Int32} {u : mSt}, mK u v0 = 10 → bX9_one_76 n v0 v1 v2 v3 v4 u K → mZ X u 76 [(0, .ref (G.1 + v0)), (1, .int v1), (2, .int v2), (3, .int v3), (4, .int v4)] [] := by
  intro n
  induction n with
  | zero => intro v0 v1 v2 v3 v4 u kv0 h; exact False.elim h
  | succ n ih =>
    intro v0 v1 v2 v3 v4 u kv0 h
    refine mz_iload F dX9_one_76 4 rfl ?_
    refine mz_aload_n F dX9_one_78 rfl 0 rfl ?_
    refine mz_getI F dX9_one_79 fX9_one_177 kv0 ?_
    refine mz_icmp_ge (tgt := 128) F dX9_one_82 (by decide) (fun c_8 => ?_) (fun c_8 => ?_)
    · replace h := h.1 c_8
      refine mz_iload_n F dX9_one_128 rfl 3 rfl ?_
      refine mz_aload_n F dX9_one_129 rfl 0 rfl ?_
      refine mz_getI F dX9_one_130 fX9_one_177 kv0 ?_
      refine mz_icmp_ne (tgt := 140) F dX9_one_133 (by decide) (fun c_2 => ?_) (fun c_2 => ?_)
      · replace h := h.2 c_2
        refine mz_iload_n F dX9_one_140 rfl 3 rfl ?_
        refine mz_if_ne (tgt := 148) F dX9_one_141 (by decide) (fun c_1 => ?_) (fun c_1 => ?_)
        · replace h := h.2 c_1
          refine mz_iconst (v := 2) F dX9_one_148 (by decide) ?_
          exact mz_iret F dX9_one_149 ⟨_, rfl, h⟩
        · replace h := h.1 c_1
          refine mz_iconst (v := 0) F dX9_one_144 (by decide) ?_
          refine mz_goto (tgt := 149) F dX9_one_145 (by decide) ?_
          exact mz_iret F dX9_one_149 ⟨_, rfl, h⟩
      · replace h := h.1 c_2
        refine mz_iconst (v := 1) F dX9_one_136 (by decide) ?_
        refine mz_goto (tgt := 149) F dX9_one_137 (by decide) ?_
        exact mz_iret F dX9_one_149 ⟨_, rfl, h⟩
    · replace h := h.2 c_8
      refine mz_iload_n F dX9_one_85 rfl 3 rfl ?_
      refine mz_aload_n F dX9_one_86 rfl 0 rfl ?_
      obtain ⟨q_3, eq_3, h⟩ := h
      refine mz_getR F dX9_one_87 fX9_one_50 (by decide) kv0 eq_3 (fun kq_3 => ?_)
      refine mz_sipush (v := 201) F dX9_one_90 (by decide) ?_
      refine mz_iload F dX9_one_93 4 rfl ?_
      refine mz_imul F dX9_one_95 ?_
      refine mz_iload_n F dX9_one_96 rfl 1 rfl ?_
      refine mz_iadd F dX9_one_97 ?_
      obtain ⟨b_4, h⟩ := h
      refine mz_bald F dX9_one_98 kq_3 rfl b_4 ?_
      refine mz_aload_n F dX9_one_99 rfl 0 rfl ?_
      obtain ⟨q_5, eq_5, h⟩ := h
      refine mz_getR F dX9_one_100 fX9_one_50 (by decide) kv0 eq_5 (fun kq_5 => ?_)
      refine mz_sipush (v := 201) F dX9_one_103 (by decide) ?_
      refine mz_iload F dX9_one_106 4 rfl ?_
      refine mz_imul F dX9_one_108 ?_
      refine mz_iload_n F dX9_one_109 rfl 2 rfl ?_
      refine mz_iadd F dX9_one_110 ?_
      obtain ⟨b_6, h⟩ := h
      refine mz_bald F dX9_one_111 kq_5 rfl b_6 ?_
      refine mz_icmp_ne (tgt := 119) F dX9_one_112 (by decide) (fun c_7 => ?_) (fun c_7 => ?_)
      · replace h := h.2 c_7
        refine mz_iconst (v := 0) F dX9_one_119 (by decide) ?_
        refine mz_sub [0, 1, 2, 4] rfl ?_
        exact tX9_one_120 F hN (fun k0 h => ih k0 h) kv0 h
      · replace h := h.1 c_7
        refine mz_iconst (v := 1) F dX9_one_115 (by decide) ?_
        refine mz_goto (tgt := 120) F dX9_one_116 (by decide) ?_
        refine mz_sub [0, 1, 2, 4] rfl ?_
        exact tX9_one_120 F hN (fun k0 h => ih k0 h) kv0 h
def bX9_one (this : Nat) (a1 : Int32) (a2 : Int32) (u : mSt) (K : Int32 → mSt → Prop) : Prop := (∀ u_1, u_1 = mpI u this 0 (0 : Int32) → (((mI u_1 this 6) = 0 → bX9_one_19 this u_1 K) ∧ (¬ ((mI u_1 this 6) = 0) → (((mI u_1 this 20) = 0 → bX9_isIn a1.toInt64 (0 : Int64) ((mI u_1 this 12).toInt64) u_1 (fun r_4 u_3 => ((r_4 = 0 → K (-1 : Int32) u_3) ∧ (¬ (r_4 = 0) → bX9_isIn a2.toInt64 (0 : Int64) ((mI u_3 this 12).toInt64) u_3 (fun r_7 u_6 => ((r_7 = 0 → K (-1 : Int32) u_6) ∧ (¬ (r_7 = 0) → (((mI u_6 this 19) = 0 → K (-1 : Int32) u_6) ∧ (¬ ((mI u_6 this 19) = 0) → (∃ n9, bX9_one_76 n9 this a1 a2 (0 : Int32) (0 : Int32) u_6 K)))))))))) ∧ (¬ ((mI u_1 this 20) = 0) → bX9_one_19 this u_1 K)))))
set_option maxRecDepth 100000 in
set_option maxHeartbeats 4000000 in
theorem tX9_one {X : mCx} {G : mG} {u0 : mSt} {K : Int32 → mSt → Prop} (F : mFx X G cX9_one wsX9_one RX9 "one" 1 25 (some .int) u0 (mPi K)) (hN : X.2.2.2.2.2.2.2.2.2.2.2.2.1 = 5) {this : Nat} {a1 : Int32} {a2 : Int32} {u : mSt} (kthis : mK u this = 10) (h : bX9_one this a1 a2 u K) : mZ X u 0 [(0, .ref (G.1 + this)), (1, .int a1), (2, .int a2)] [] := by
  refine mz_aload_n F dX9_one_0 rfl 0 rfl ?_
  refine mz_iconst (v := 0) F dX9_one_1 (by decide) ?_
  refine mz_putI F dX9_one_2 fX9_one_112 kthis rfl rfl (fun u_1 eu_1 hxu_1 => ?_)
  replace h := h u_1 eu_1
  replace kthis := hxu_1.2.2 _ _ (by decide) kthis
  refine mz_aload_n F dX9_one_5 rfl 0 rfl ?_
  refine mz_getI F dX9_one_6 fX9_one_159 kthis ?_
  refine mz_if_eq (tgt := 19) F dX9_one_9 (by decide) (fun c_12 => ?_) (fun c_12 => ?_)
  · replace h := h.1 c_12
    refine mz_sub [0] rfl ?_
    exact tX9_one_19 F hN kthis h
  · replace h := h.2 c_12
    refine mz_aload_n F dX9_one_12 rfl 0 rfl ?_
    refine mz_getI F dX9_one_13 fX9_one_180 kthis ?_
    refine mz_if_eq (tgt := 34) F dX9_one_16 (by decide) (fun c_11 => ?_) (fun c_11 => ?_)
    · replace h := h.1 c_11
      refine mz_iload_n F dX9_one_34 rfl 1 rfl ?_
      refine mz_i2l F dX9_one_35 ?_
      refine mz_lconst (v := 0) F dX9_one_36 (by decide) ?_
      refine mz_aload_n F dX9_one_37 rfl 0 rfl ?_
      refine mz_getI F dX9_one_38 fX9_one_168 kthis ?_
      refine mz_i2l F dX9_one_41 ?_
      refine mz_callS (As := [_, _, _]) (n := 3) F dX9_one_42 rfl gX9_one_X9_isIn (by decide +kernel) (by decide) rfl (Nat.le_of_ble_eq_true rfl) (kX9_isIn _ G h) (mz_kZ fun r_4 u_3 br_4 h hx_2 => ?_)
      replace kthis := hx_2.2.2 _ _ (by decide) kthis
      refine mz_if_eq (tgt := 69) F dX9_one_45 (by decide) (fun c_10 => ?_) (fun c_10 => ?_)
      · replace h := h.1 c_10
        refine mz_iconst (v := (-1)) F dX9_one_69 (by decide) ?_
        exact mz_iret F dX9_one_70 ⟨_, rfl, h⟩
      · replace h := h.2 c_10
        refine mz_iload_n F dX9_one_48 rfl 2 rfl ?_
        refine mz_i2l F dX9_one_49 ?_
        refine mz_lconst (v := 0) F dX9_one_50 (by decide) ?_
        refine mz_aload_n F dX9_one_51 rfl 0 rfl ?_
        refine mz_getI F dX9_one_52 fX9_one_168 kthis ?_
        refine mz_i2l F dX9_one_55 ?_
        refine mz_callS (As := [_, _, _]) (n := 3) F dX9_one_56 rfl gX9_one_X9_isIn (by decide +kernel) (by decide) rfl (Nat.le_of_ble_eq_true rfl) (kX9_isIn _ G h) (mz_kZ fun r_7 u_6 br_7 h hx_5 => ?_)
        replace kthis := hx_5.2.2 _ _ (by decide) kthis
        refine mz_if_eq (tgt := 69) F dX9_one_59 (by decide) (fun c_9 => ?_) (fun c_9 => ?_)
        · replace h := h.1 c_9
          refine mz_iconst (v := (-1)) F dX9_one_69 (by decide) ?_
          exact mz_iret F dX9_one_70 ⟨_, rfl, h⟩
        · replace h := h.2 c_9
          refine mz_aload_n F dX9_one_62 rfl 0 rfl ?_
          refine mz_getI F dX9_one_63 fX9_one_177 kthis ?_
          refine mz_if_ne (tgt := 71) F dX9_one_66 (by decide) (fun c_8 => ?_) (fun c_8 => ?_)
          · replace h := h.2 c_8
            refine mz_iconst (v := 0) F dX9_one_71 (by decide) ?_
            refine mz_istore_n (lv2 := [(3, .int (0 : Int32)), (0, .ref (G.1 + this)), (1, .int a1), (2, .int a2)]) F dX9_one_72 rfl hN (by decide) rfl ?_
            refine mz_iconst (v := 0) F dX9_one_73 (by decide) ?_
            refine mz_istore (lv2 := [(4, .int (0 : Int32)), (3, .int (0 : Int32)), (0, .ref (G.1 + this)), (1, .int a1), (2, .int a2)]) F dX9_one_74 hN (by decide) rfl ?_
            refine mz_sub [2, 3, 4, 1, 0] rfl ?_
            obtain ⟨n9, h⟩ := h
            exact tX9_one_76 F hN n9 kthis h
          · replace h := h.1 c_8
            refine mz_iconst (v := (-1)) F dX9_one_69 (by decide) ?_
            exact mz_iret F dX9_one_70 ⟨_, rfl, h⟩
    · replace h := h.2 c_11
      refine mz_sub [0] rfl ?_
      exact tX9_one_19 F hN kthis h
set_option maxRecDepth 100000 in
theorem kX9_one (l : Launch) (G : mG) {u : mSt} {K : Int32 → mSt → Prop} {this : Nat} {a1 : Int32} {a2 : Int32} (kthis : mK u this = 10) (h : bX9_one this a1 a2 u K) : mCt l G yX9_one wsX9_one 1 25 [.ref (G.1 + this), .int a1, .int a2] u (mPi K) := by
  refine mCt.of (cc := cX9_one) (maxL := 5) (ret := (some .int)) (by decide) rfl (Nat.le_of_ble_eq_true rfl) ?_
  intro X hl hN F
  exact tX9_one F hN kthis h
/-! RoomMapperModel.show(III)V -/
theorem wiX9_show_9 : ∀ w ∈ u_ws RX9 TX9 52, w ∈ wsX9_show := by decide +kernel
theorem fX9_show_38 : mFld wsX9_show RX9 38 10 22 24 (.array .int) true := ⟨9, _, RX9, TX9, 52, tyX9, rfl, rfl, rfl, by decide, wiX9_show_9, tyX9_ok, nmX9, rfl, rfl, Or.inl ⟨by decide +kernel, fun _ => rfl⟩⟩
theorem fX9_show_47 : mFld wsX9_show RX9 47 10 25 15 (.array .int) true := ⟨9, _, RX9, TX9, 52, tyX9, rfl, rfl, rfl, by decide, wiX9_show_9, tyX9_ok, nmX9, rfl, rfl, Or.inl ⟨by decide +kernel, fun _ => rfl⟩⟩
theorem fX9_show_75 : mFld wsX9_show RX9 75 10 39 24 (.array .int) true := ⟨9, _, RX9, TX9, 52, tyX9, rfl, rfl, rfl, by decide, wiX9_show_9, tyX9_ok, nmX9, rfl, rfl, Or.inl ⟨by decide +kernel, fun _ => rfl⟩⟩
theorem fX9_show_41 : mFld wsX9_show RX9 41 10 23 25 (.array .int) true := ⟨9, _, RX9, TX9, 52, tyX9, rfl, rfl, rfl, by decide, wiX9_show_9, tyX9_ok, nmX9, rfl, rfl, Or.inl ⟨by decide +kernel, fun _ => rfl⟩⟩
theorem fX9_show_44 : mFld wsX9_show RX9 44 10 24 15 (.array .int) true := ⟨9, _, RX9, TX9, 52, tyX9, rfl, rfl, rfl, by decide, wiX9_show_9, tyX9_ok, nmX9, rfl, rfl, Or.inl ⟨by decide +kernel, fun _ => rfl⟩⟩
def bX9_show_198 (v0 : Nat) (v1 : Int32) (v2 : Int32) (v3 : Int32) (v4 : Int32) (v5 : Int32) (v6 : Int32) (w0 : Nat) (w1 : Int32) (w2 : Int32) (u : mSt) (K : mSt → Prop) (KL35 : Nat → Int32 → Int32 → Int32 → Int32 → Int32 → Int32 → mSt → Prop) : Prop := (vp_in w1 900 ∧ ∀ u_2, u_2 = mpI u w0 w1.toNatClampNeg w2 → (∀ x_3, x_3 = v6 + (1 : Int32) → KL35 v0 v1 v2 v3 v4 v5 x_3 u_2))
set_option maxRecDepth 100000 in
set_option maxHeartbeats 4000000 in
theorem tX9_show_198 {X : mCx} {G : mG} {u0 : mSt} {K : mSt → Prop} {KL35 : Nat → Int32 → Int32 → Int32 → Int32 → Int32 → Int32 → mSt → Prop} (F : mFx X G cX9_show wsX9_show RX9 "show" 0 0 none u0 (mPv K)) (hN : X.2.2.2.2.2.2.2.2.2.2.2.2.1 = 10) (hL35 : ∀ {v0 : Nat} {v1 : Int32} {v2 : Int32} {v3 : Int32} {v4 : Int32} {v5 : Int32} {v6 : Int32} {u : mSt}, mK u v0 = 10 → KL35 v0 v1 v2 v3 v4 v5 v6 u → mZ X u 35 [(0, .ref (G.1 + v0)), (1, .int v1), (2, .int v2), (3, .int v3), (4, .int v4), (5, .int v5), (6, .int v6)] []) {v0 : Nat} {v1 : Int32} {v2 : Int32} {v3 : Int32} {v4 : Int32} {v5 : Int32} {v6 : Int32} {w0 : Nat} {w1 : Int32} {w2 : Int32} {u : mSt} (kv0 : mK u v0 = 10) (kw0 : mK u w0 = 24) (h : bX9_show_198 v0 v1 v2 v3 v4 v5 v6 w0 w1 w2 u K KL35) : mZ X u 198 [(0, .ref (G.1 + v0)), (1, .int v1), (2, .int v2), (3, .int v3), (4, .int v4), (5, .int v5), (6, .int v6)] [.int w2, .int w1, .ref (G.1 + w0)] := by
  obtain ⟨b_1, h⟩ := h
  refine mz_iast F dX9_show_198 kw0 rfl b_1 (fun u_2 eu_2 hxu_2 => ?_)
  replace h := h u_2 eu_2
  replace kv0 := hxu_2.2.2 _ _ (by decide) kv0
  obtain ⟨x_3, ex_3⟩ : ∃ y : Int32, y = v6 + (1 : Int32) := ⟨_, rfl⟩
  replace h := h x_3 ex_3
  refine mz_iinc (v := x_3) (lv2 := [(6, .int x_3), (0, .ref (G.1 + v0)), (1, .int v1), (2, .int v2), (3, .int v3), (4, .int v4), (5, .int v5)]) F dX9_show_199 6 rfl (by rw [ex_3]; rfl) hN (by decide) rfl ?_
  refine mz_goto (tgt := 35) F dX9_show_202 (by decide) ?_
  refine mz_sub [1, 2, 3, 4, 5, 6, 0] rfl ?_
  exact hL35 kv0 h
def bX9_show_197 (v0 : Nat) (v1 : Int32) (v2 : Int32) (v3 : Int32) (v4 : Int32) (v5 : Int32) (v6 : Int32) (w0 : Nat) (w1 : Int32) (w2 : Int32) (w3 : Int32) (u : mSt) (K : mSt → Prop) (KL35 : Nat → Int32 → Int32 → Int32 → Int32 → Int32 → Int32 → mSt → Prop) : Prop := bX9_show_198 v0 v1 v2 v3 v4 v5 v6 w0 w1 (w2 + w3) u K KL35
set_option maxRecDepth 100000 in
set_option maxHeartbeats 4000000 in
theorem tX9_show_197 {X : mCx} {G : mG} {u0 : mSt} {K : mSt → Prop} {KL35 : Nat → Int32 → Int32 → Int32 → Int32 → Int32 → Int32 → mSt → Prop} (F : mFx X G cX9_show wsX9_show RX9 "show" 0 0 none u0 (mPv K)) (hN : X.2.2.2.2.2.2.2.2.2.2.2.2.1 = 10) (hL35 : ∀ {v0 : Nat} {v1 : Int32} {v2 : Int32} {v3 : Int32} {v4 : Int32} {v5 : Int32} {v6 : Int32} {u : mSt}, mK u v0 = 10 → KL35 v0 v1 v2 v3 v4 v5 v6 u → mZ X u 35 [(0, .ref (G.1 + v0)), (1, .int v1), (2, .int v2), (3, .int v3), (4, .int v4), (5, .int v5), (6, .int v6)] []) {v0 : Nat} {v1 : Int32} {v2 : Int32} {v3 : Int32} {v4 : Int32} {v5 : Int32} {v6 : Int32} {w0 : Nat} {w1 : Int32} {w2 : Int32} {w3 : Int32} {u : mSt} (kv0 : mK u v0 = 10) (kw0 : mK u w0 = 24) (h : bX9_show_197 v0 v1 v2 v3 v4 v5 v6 w0 w1 w2 w3 u K KL35) : mZ X u 197 [(0, .ref (G.1 + v0)), (1, .int v1), (2, .int v2), (3, .int v3), (4, .int v4), (5, .int v5), (6, .int v6)] [.int w3, .int w2, .int w1, .ref (G.1 + w0)] := by
  refine mz_iadd F dX9_show_197 ?_
  refine mz_sub [0, 1, 2, 3, 4, 5, 6] rfl ?_
  exact tX9_show_198 F hN hL35 kv0 kw0 h
def bX9_show_164 (v0 : Nat) (v1 : Int32) (v2 : Int32) (v3 : Int32) (v4 : Int32) (v5 : Int32) (v6 : Int32) (w0 : Nat) (w1 : Int32) (w2 : Int32) (w3 : Int32) (u : mSt) (K : mSt → Prop) (KL35 : Nat → Int32 → Int32 → Int32 → Int32 → Int32 → Int32 → mSt → Prop) : Prop := (∃ q_1, mR u v0 22 = some q_1 ∧ (vp_in (((6 : Int32) * v1) + v4) 900 ∧ (∃ q_3, mR u v0 25 = some q_3 ∧ (vp_in v1 150 ∧ (((mI u q_3 v1.toNatClampNeg) = v4 → bX9_show_197 v0 v1 v2 v3 v4 v5 v6 w0 w1 ((w2 + w3) + ((2 : Int32) * (mI u q_1 (((6 : Int32) * v1) + v4).toNatClampNeg))) (8 : Int32) u K KL35) ∧ (¬ ((mI u q_3 v1.toNatClampNeg) = v4) → bX9_show_197 v0 v1 v2 v3 v4 v5 v6 w0 w1 ((w2 + w3) + ((2 : Int32) * (mI u q_1 (((6 : Int32) * v1) + v4).toNatClampNeg))) (0 : Int32) u K KL35))))))
set_option maxRecDepth 100000 in
set_option maxHeartbeats 4000000 in
theorem tX9_show_164 {X : mCx} {G : mG} {u0 : mSt} {K : mSt → Prop} {KL35 : Nat → Int32 → Int32 → Int32 → Int32 → Int32 → Int32 → mSt → Prop} (F : mFx X G cX9_show wsX9_show RX9 "show" 0 0 none u0 (mPv K)) (hN : X.2.2.2.2.2.2.2.2.2.2.2.2.1 = 10) (hL35 : ∀ {v0 : Nat} {v1 : Int32} {v2 : Int32} {v3 : Int32} {v4 : Int32} {v5 : Int32} {v6 : Int32} {u : mSt}, mK u v0 = 10 → KL35 v0 v1 v2 v3 v4 v5 v6 u → mZ X u 35 [(0, .ref (G.1 + v0)), (1, .int v1), (2, .int v2), (3, .int v3), (4, .int v4), (5, .int v5), (6, .int v6)] []) {v0 : Nat} {v1 : Int32} {v2 : Int32} {v3 : Int32} {v4 : Int32} {v5 : Int32} {v6 : Int32} {w0 : Nat} {w1 : Int32} {w2 : Int32} {w3 : Int32} {u : mSt} (kv0 : mK u v0 = 10) (kw0 : mK u w0 = 24) (h : bX9_show_164 v0 v1 v2 v3 v4 v5 v6 w0 w1 w2 w3 u K KL35) : mZ X u 164 [(0, .ref (G.1 + v0)), (1, .int v1), (2, .int v2), (3, .int v3), (4, .int v4), (5, .int v5), (6, .int v6)] [.int w3, .int w2, .int w1, .ref (G.1 + w0)] := by
  refine mz_iadd F dX9_show_164 ?_
  refine mz_iconst (v := 2) F dX9_show_165 (by decide) ?_
  refine mz_aload_n F dX9_show_166 rfl 0 rfl ?_
  obtain ⟨q_1, eq_1, h⟩ := h
  refine mz_getR F dX9_show_167 fX9_show_38 (by decide) kv0 eq_1 (fun kq_1 => ?_)
  refine mz_bipush (v := 6) F dX9_show_170 (by decide) ?_
  refine mz_iload_n F dX9_show_172 rfl 1 rfl ?_
  refine mz_imul F dX9_show_173 ?_
  refine mz_iload F dX9_show_174 4 rfl ?_
  refine mz_iadd F dX9_show_176 ?_
  obtain ⟨b_2, h⟩ := h
  refine mz_iald F dX9_show_177 kq_1 rfl b_2 ?_
  refine mz_imul F dX9_show_178 ?_
  refine mz_iadd F dX9_show_179 ?_
  refine mz_aload_n F dX9_show_180 rfl 0 rfl ?_
  obtain ⟨q_3, eq_3, h⟩ := h
  refine mz_getR F dX9_show_181 fX9_show_47 (by decide) kv0 eq_3 (fun kq_3 => ?_)
  refine mz_iload_n F dX9_show_184 rfl 1 rfl ?_
  obtain ⟨b_4, h⟩ := h
  refine mz_iald F dX9_show_185 kq_3 rfl b_4 ?_
  refine mz_iload F dX9_show_186 4 rfl ?_
  refine mz_icmp_ne (tgt := 196) F dX9_show_188 (by decide) (fun c_5 => ?_) (fun c_5 => ?_)
  · replace h := h.2 c_5
    refine mz_iconst (v := 0) F dX9_show_196 (by decide) ?_
    refine mz_sub [0, 1, 2, 3, 4, 5, 6] rfl ?_
    exact tX9_show_197 F hN hL35 kv0 kw0 h
  · replace h := h.1 c_5
    refine mz_bipush (v := 8) F dX9_show_191 (by decide) ?_
    refine mz_goto (tgt := 197) F dX9_show_193 (by decide) ?_
    refine mz_sub [0, 1, 2, 3, 4, 5, 6] rfl ?_
    exact tX9_show_197 F hN hL35 kv0 kw0 h
def bX9_show_131 (v0 : Nat) (v1 : Int32) (v2 : Int32) (v3 : Int32) (v5 : Int32) (v6 : Int32) (v9 : Int32) (w0 : Int32) (u : mSt) (K : mSt → Prop) (KL35 : Nat → Int32 → Int32 → Int32 → Int32 → Int32 → Int32 → mSt → Prop) : Prop := (∃ q_1, mR u v0 39 = some q_1 ∧ ((0 ≤ w0 → ((v9 = 0 → bX9_show_164 v0 v1 v2 v3 w0 v5 v6 q_1 (((6 : Int32) * v1) + v6) (1 : Int32) (0 : Int32) u K KL35) ∧ (¬ (v9 = 0) → bX9_show_164 v0 v1 v2 v3 w0 v5 v6 q_1 (((6 : Int32) * v1) + v6) (1 : Int32) (1 : Int32) u K KL35))) ∧ (¬ (0 ≤ w0) → bX9_show_198 v0 v1 v2 v3 w0 v5 v6 q_1 (((6 : Int32) * v1) + v6) (0 : Int32) u K KL35)))
set_option maxRecDepth 100000 in
set_option maxHeartbeats 4000000 in
theorem tX9_show_131 {X : mCx} {G : mG} {u0 : mSt} {K : mSt → Prop} {KL35 : Nat → Int32 → Int32 → Int32 → Int32 → Int32 → Int32 → mSt → Prop} (F : mFx X G cX9_show wsX9_show RX9 "show" 0 0 none u0 (mPv K)) (hN : X.2.2.2.2.2.2.2.2.2.2.2.2.1 = 10) (hL35 : ∀ {v0 : Nat} {v1 : Int32} {v2 : Int32} {v3 : Int32} {v4 : Int32} {v5 : Int32} {v6 : Int32} {u : mSt}, mK u v0 = 10 → KL35 v0 v1 v2 v3 v4 v5 v6 u → mZ X u 35 [(0, .ref (G.1 + v0)), (1, .int v1), (2, .int v2), (3, .int v3), (4, .int v4), (5, .int v5), (6, .int v6)] []) {v0 : Nat} {v1 : Int32} {v2 : Int32} {v3 : Int32} {v5 : Int32} {v6 : Int32} {v9 : Int32} {w0 : Int32} {u : mSt} (kv0 : mK u v0 = 10) (h : bX9_show_131 v0 v1 v2 v3 v5 v6 v9 w0 u K KL35) : mZ X u 131 [(0, .ref (G.1 + v0)), (1, .int v1), (2, .int v2), (3, .int v3), (5, .int v5), (6, .int v6), (9, .int v9)] [.int w0] := by
  refine mz_istore (lv2 := [(4, .int w0), (0, .ref (G.1 + v0)), (1, .int v1), (2, .int v2), (3, .int v3), (5, .int v5), (6, .int v6), (9, .int v9)]) F dX9_show_131 hN (by decide) rfl ?_
  refine mz_aload_n F dX9_show_133 rfl 1 rfl ?_
  obtain ⟨q_1, eq_1, h⟩ := h
  refine mz_getR F dX9_show_134 fX9_show_75 (by decide) kv0 eq_1 (fun kq_1 => ?_)
  refine mz_bipush (v := 6) F dX9_show_137 (by decide) ?_
  refine mz_iload_n F dX9_show_139 rfl 2 rfl ?_
  refine mz_imul F dX9_show_140 ?_
  refine mz_iload F dX9_show_141 6 rfl ?_
  refine mz_iadd F dX9_show_143 ?_
  refine mz_iload F dX9_show_144 0 rfl ?_
  refine mz_if_ge (tgt := 153) F dX9_show_146 (by decide) (fun c_3 => ?_) (fun c_3 => ?_)
  · replace h := h.1 c_3
    refine mz_iconst (v := 1) F dX9_show_153 (by decide) ?_
    refine mz_iload F dX9_show_154 7 rfl ?_
    refine mz_if_eq (tgt := 163) F dX9_show_156 (by decide) (fun c_2 => ?_) (fun c_2 => ?_)
    · replace h := h.1 c_2
      refine mz_iconst (v := 0) F dX9_show_163 (by decide) ?_
      refine mz_sub [1, 2, 3, 4, 0, 5, 6] rfl ?_
      exact tX9_show_164 F hN hL35 kv0 kq_1 h
    · replace h := h.2 c_2
      refine mz_iconst (v := 1) F dX9_show_159 (by decide) ?_
      refine mz_goto (tgt := 164) F dX9_show_160 (by decide) ?_
      refine mz_sub [1, 2, 3, 4, 0, 5, 6] rfl ?_
      exact tX9_show_164 F hN hL35 kv0 kq_1 h
  · replace h := h.2 c_3
    refine mz_iconst (v := 0) F dX9_show_149 (by decide) ?_
    refine mz_goto (tgt := 198) F dX9_show_150 (by decide) ?_
    refine mz_sub [1, 2, 3, 4, 0, 5, 6] rfl ?_
    exact tX9_show_198 F hN hL35 kv0 kq_1 h
def bX9_show_106 (v0 : Nat) (v1 : Int32) (v2 : Int32) (v3 : Int32) (v4 : Int32) (v5 : Int32) (v6 : Int32) (v8 : Int32) (w0 : Int32) (u : mSt) (K : mSt → Prop) (KL35 : Nat → Int32 → Int32 → Int32 → Int32 → Int32 → Int32 → mSt → Prop) : Prop := ((w0 = 0 → ((v8 = (-3 : Int32) → bX9_show_131 v0 v1 v2 v3 v5 v6 w0 (-1 : Int32) u K KL35) ∧ (¬ (v8 = (-3 : Int32)) → bX9_show_131 v0 v1 v2 v3 v5 v6 w0 v8 u K KL35))) ∧ (¬ (w0 = 0) → bX9_show_131 v0 v1 v2 v3 v5 v6 w0 v4 u K KL35))
set_option maxRecDepth 100000 in
set_option maxHeartbeats 4000000 in
theorem tX9_show_106 {X : mCx} {G : mG} {u0 : mSt} {K : mSt → Prop} {KL35 : Nat → Int32 → Int32 → Int32 → Int32 → Int32 → Int32 → mSt → Prop} (F : mFx X G cX9_show wsX9_show RX9 "show" 0 0 none u0 (mPv K)) (hN : X.2.2.2.2.2.2.2.2.2.2.2.2.1 = 10) (hL35 : ∀ {v0 : Nat} {v1 : Int32} {v2 : Int32} {v3 : Int32} {v4 : Int32} {v5 : Int32} {v6 : Int32} {u : mSt}, mK u v0 = 10 → KL35 v0 v1 v2 v3 v4 v5 v6 u → mZ X u 35 [(0, .ref (G.1 + v0)), (1, .int v1), (2, .int v2), (3, .int v3), (4, .int v4), (5, .int v5), (6, .int v6)] []) {v0 : Nat} {v1 : Int32} {v2 : Int32} {v3 : Int32} {v4 : Int32} {v5 : Int32} {v6 : Int32} {v8 : Int32} {w0 : Int32} {u : mSt} (kv0 : mK u v0 = 10) (h : bX9_show_106 v0 v1 v2 v3 v4 v5 v6 v8 w0 u K KL35) : mZ X u 106 [(0, .ref (G.1 + v0)), (1, .int v1), (2, .int v2), (3, .int v3), (4, .int v4), (5, .int v5), (6, .int v6), (8, .int v8)] [.int w0] := by
  refine mz_istore (lv2 := [(9, .int w0), (0, .ref (G.1 + v0)), (1, .int v1), (2, .int v2), (3, .int v3), (4, .int v4), (5, .int v5), (6, .int v6), (8, .int v8)]) F dX9_show_106 hN (by decide) rfl ?_
  refine mz_iload F dX9_show_108 0 rfl ?_
  refine mz_if_eq (tgt := 118) F dX9_show_110 (by decide) (fun c_2 => ?_) (fun c_2 => ?_)
  · replace h := h.1 c_2
    refine mz_iload F dX9_show_118 8 rfl ?_
    refine mz_bipush (v := (-3)) F dX9_show_120 (by decide) ?_
    refine mz_icmp_ne (tgt := 129) F dX9_show_122 (by decide) (fun c_1 => ?_) (fun c_1 => ?_)
    · replace h := h.2 c_1
      refine mz_iload F dX9_show_129 8 rfl ?_
      refine mz_sub [1, 2, 3, 4, 6, 7, 0] rfl ?_
      exact tX9_show_131 F hN hL35 kv0 h
    · replace h := h.1 c_1
      refine mz_iconst (v := (-1)) F dX9_show_125 (by decide) ?_
      refine mz_goto (tgt := 131) F dX9_show_126 (by decide) ?_
      refine mz_sub [1, 2, 3, 4, 6, 7, 0] rfl ?_
      exact tX9_show_131 F hN hL35 kv0 h
  · replace h := h.2 c_2
    refine mz_iload F dX9_show_113 5 rfl ?_
    refine mz_goto (tgt := 131) F dX9_show_115 (by decide) ?_
    refine mz_sub [1, 2, 3, 4, 6, 7, 0] rfl ?_
    exact tX9_show_131 F hN hL35 kv0 h
def bX9_show_92 (v0 : Nat) (v1 : Int32) (v2 : Int32) (v3 : Int32) (v4 : Int32) (v5 : Int32) (v6 : Int32) (w0 : Int32) (u : mSt) (K : mSt → Prop) (KL35 : Nat → Int32 → Int32 → Int32 → Int32 → Int32 → Int32 → mSt → Prop) : Prop := ((w0 = (-2 : Int32) → bX9_show_106 v0 v1 v2 v3 v4 v5 v6 w0 (1 : Int32) u K KL35) ∧ (¬ (w0 = (-2 : Int32)) → bX9_show_106 v0 v1 v2 v3 v4 v5 v6 w0 (0 : Int32) u K KL35))
set_option maxRecDepth 100000 in
set_option maxHeartbeats 4000000 in
theorem tX9_show_92 {X : mCx} {G : mG} {u0 : mSt} {K : mSt → Prop} {KL35 : Nat → Int32 → Int32 → Int32 → Int32 → Int32 → Int32 → mSt → Prop} (F : mFx X G cX9_show wsX9_show RX9 "show" 0 0 none u0 (mPv K)) (hN : X.2.2.2.2.2.2.2.2.2.2.2.2.1 = 10) (hL35 : ∀ {v0 : Nat} {v1 : Int32} {v2 : Int32} {v3 : Int32} {v4 : Int32} {v5 : Int32} {v6 : Int32} {u : mSt}, mK u v0 = 10 → KL35 v0 v1 v2 v3 v4 v5 v6 u → mZ X u 35 [(0, .ref (G.1 + v0)), (1, .int v1), (2, .int v2), (3, .int v3), (4, .int v4), (5, .int v5), (6, .int v6)] []) {v0 : Nat} {v1 : Int32} {v2 : Int32} {v3 : Int32} {v4 : Int32} {v5 : Int32} {v6 : Int32} {w0 : Int32} {u : mSt} (kv0 : mK u v0 = 10) (h : bX9_show_92 v0 v1 v2 v3 v4 v5 v6 w0 u K KL35) : mZ X u 92 [(0, .ref (G.1 + v0)), (1, .int v1), (2, .int v2), (3, .int v3), (4, .int v4), (5, .int v5), (6, .int v6)] [.int w0] := by
  refine mz_istore (lv2 := [(8, .int w0), (0, .ref (G.1 + v0)), (1, .int v1), (2, .int v2), (3, .int v3), (4, .int v4), (5, .int v5), (6, .int v6)]) F dX9_show_92 hN (by decide) rfl ?_
  refine mz_iload F dX9_show_94 0 rfl ?_
  refine mz_bipush (v := (-2)) F dX9_show_96 (by decide) ?_
  refine mz_icmp_ne (tgt := 105) F dX9_show_98 (by decide) (fun c_1 => ?_) (fun c_1 => ?_)
  · replace h := h.2 c_1
    refine mz_iconst (v := 0) F dX9_show_105 (by decide) ?_
    refine mz_sub [1, 2, 3, 4, 5, 6, 7, 0] rfl ?_
    exact tX9_show_106 F hN hL35 kv0 h
  · replace h := h.1 c_1
    refine mz_iconst (v := 1) F dX9_show_101 (by decide) ?_
    refine mz_goto (tgt := 106) F dX9_show_102 (by decide) ?_
    refine mz_sub [1, 2, 3, 4, 5, 6, 7, 0] rfl ?_
    exact tX9_show_106 F hN hL35 kv0 h
def bX9_show_63 (v0 : Nat) (v1 : Int32) (v2 : Int32) (v3 : Int32) (v4 : Int32) (v6 : Int32) (v7 : Int32) (w0 : Int32) (u : mSt) (K : mSt → Prop) (KL35 : Nat → Int32 → Int32 → Int32 → Int32 → Int32 → Int32 → mSt → Prop) : Prop := ((0 ≤ v4 → (∃ q_1, mR u v0 23 = some q_1 ∧ (vp_in ((((30 : Int32) * v1) + ((5 : Int32) * v4)) + v7) 4500 ∧ bX9_show_92 v0 v1 v2 v3 v4 w0 v6 (mI u q_1 ((((30 : Int32) * v1) + ((5 : Int32) * v4)) + v7).toNatClampNeg) u K KL35))) ∧ (¬ (0 ≤ v4) → bX9_show_92 v0 v1 v2 v3 v4 w0 v6 (-3 : Int32) u K KL35))
set_option maxRecDepth 100000 in
set_option maxHeartbeats 4000000 in
theorem tX9_show_63 {X : mCx} {G : mG} {u0 : mSt} {K : mSt → Prop} {KL35 : Nat → Int32 → Int32 → Int32 → Int32 → Int32 → Int32 → mSt → Prop} (F : mFx X G cX9_show wsX9_show RX9 "show" 0 0 none u0 (mPv K)) (hN : X.2.2.2.2.2.2.2.2.2.2.2.2.1 = 10) (hL35 : ∀ {v0 : Nat} {v1 : Int32} {v2 : Int32} {v3 : Int32} {v4 : Int32} {v5 : Int32} {v6 : Int32} {u : mSt}, mK u v0 = 10 → KL35 v0 v1 v2 v3 v4 v5 v6 u → mZ X u 35 [(0, .ref (G.1 + v0)), (1, .int v1), (2, .int v2), (3, .int v3), (4, .int v4), (5, .int v5), (6, .int v6)] []) {v0 : Nat} {v1 : Int32} {v2 : Int32} {v3 : Int32} {v4 : Int32} {v6 : Int32} {v7 : Int32} {w0 : Int32} {u : mSt} (kv0 : mK u v0 = 10) (h : bX9_show_63 v0 v1 v2 v3 v4 v6 v7 w0 u K KL35) : mZ X u 63 [(0, .ref (G.1 + v0)), (1, .int v1), (2, .int v2), (3, .int v3), (4, .int v4), (6, .int v6), (7, .int v7)] [.int w0] := by
  refine mz_istore (lv2 := [(5, .int w0), (0, .ref (G.1 + v0)), (1, .int v1), (2, .int v2), (3, .int v3), (4, .int v4), (6, .int v6), (7, .int v7)]) F dX9_show_63 hN (by decide) rfl ?_
  refine mz_iload F dX9_show_65 5 rfl ?_
  refine mz_if_ge (tgt := 75) F dX9_show_67 (by decide) (fun c_3 => ?_) (fun c_3 => ?_)
  · replace h := h.1 c_3
    refine mz_aload_n F dX9_show_75 rfl 1 rfl ?_
    obtain ⟨q_1, eq_1, h⟩ := h
    refine mz_getR F dX9_show_76 fX9_show_41 (by decide) kv0 eq_1 (fun kq_1 => ?_)
    refine mz_bipush (v := 30) F dX9_show_79 (by decide) ?_
    refine mz_iload_n F dX9_show_81 rfl 2 rfl ?_
    refine mz_imul F dX9_show_82 ?_
    refine mz_iconst (v := 5) F dX9_show_83 (by decide) ?_
    refine mz_iload F dX9_show_84 5 rfl ?_
    refine mz_imul F dX9_show_86 ?_
    refine mz_iadd F dX9_show_87 ?_
    refine mz_iload F dX9_show_88 7 rfl ?_
    refine mz_iadd F dX9_show_90 ?_
    obtain ⟨b_2, h⟩ := h
    refine mz_iald F dX9_show_91 kq_1 rfl b_2 ?_
    refine mz_sub [1, 2, 3, 4, 5, 0, 6] rfl ?_
    exact tX9_show_92 F hN hL35 kv0 h
  · replace h := h.2 c_3
    refine mz_bipush (v := (-3)) F dX9_show_70 (by decide) ?_
    refine mz_goto (tgt := 92) F dX9_show_72 (by decide) ?_
    refine mz_sub [1, 2, 3, 4, 5, 0, 6] rfl ?_
    exact tX9_show_92 F hN hL35 kv0 h
def bX9_show_35 : Nat → Nat → Int32 → Int32 → Int32 → Int32 → Int32 → Int32 → mSt → (mSt → Prop) → Prop
  | 0, _, _, _, _, _, _, _, _, _ => False
  | n + 1, v0, v1, v2, v3, v4, v5, v6, u, K => ((v2 ≤ v6 → K u) ∧ (¬ (v2 ≤ v6) → (¬ v5 = 0 ∧ (∀ x_2, x_2 = ((v3 / v5) - (v3 / v5) / (5 : Int32) * (5 : Int32)) → (((5 : Int32) ≤ v5 → bX9_show_63 v0 v1 v2 v3 v4 v6 x_2 (v5 / (5 : Int32)) u K (fun z0 z1 z2 z3 z4 z5 z6 z7 => bX9_show_35 n z0 z1 z2 z3 z4 z5 z6 z7 K)) ∧ (¬ ((5 : Int32) ≤ v5) → bX9_show_63 v0 v1 v2 v3 v4 v6 x_2 (1 : Int32) u K (fun z0 z1 z2 z3 z4 z5 z6 z7 => bX9_show_35 n z0 z1 z2 z3 z4 z5 z6 z7 K)))))))
set_option maxRecDepth 100000 in
set_option maxHeartbeats 4000000 in
theorem tX9_show_35 {X : mCx} {G : mG} {u0 : mSt} {K : mSt → Prop} (F : mFx X G cX9_show wsX9_show RX9 "show" 0 0 none u0 (mPv K)) (hN : X.2.2.2.2.2.2.2.2.2.2.2.2.1 = 10) : ∀ (n : Nat) {v0 : Nat} {v1 : Int32} {v2 : Int32} {v3 : Int32} {v4 : Int32} {v5 : Int32} {v6 : Int32} {u : mSt}, mK u v0 = 10 → bX9_show_35 n v0 v1 v2 v3 v4 v5 v6 u K → mZ X u 35 [(0, .ref (G.1 + v0)), (1, .int v1), (2, .int v2), (3, .int v3), (4, .int v4), (5, .int v5), (6, .int v6)] [] := by
  intro n
  induction n with
  | zero => intro v0 v1 v2 v3 v4 v5 v6 u kv0 h; exact False.elim h
  | succ n ih =>
    intro v0 v1 v2 v3 v4 v5 v6 u kv0 h
    refine mz_iload F dX9_show_35 6 rfl ?_
    refine mz_iload_n F dX9_show_37 rfl 2 rfl ?_
    refine mz_icmp_ge (tgt := 205) F dX9_show_38 (by decide) (fun c_4 => ?_) (fun c_4 => ?_)
    · replace h := h.1 c_4
      exact mz_vret F dX9_show_205 ⟨rfl, h⟩
    · replace h := h.2 c_4
      refine mz_iload_n F dX9_show_41 rfl 3 rfl ?_
      refine mz_iload F dX9_show_42 5 rfl ?_
      obtain ⟨b_1, h⟩ := h
      refine mz_idiv F dX9_show_44 b_1 ?_
      refine mz_iconst (v := 5) F dX9_show_45 (by decide) ?_
      refine mz_irem F dX9_show_46 (by decide) ?_
      refine mz_topi (fun x_2 ex_2 => ?_)
      replace h := h x_2 ex_2
      refine mz_istore (lv2 := [(7, .int x_2), (0, .ref (G.1 + v0)), (1, .int v1), (2, .int v2), (3, .int v3), (4, .int v4), (5, .int v5), (6, .int v6)]) F dX9_show_47 hN (by decide) rfl ?_
      refine mz_iload F dX9_show_49 6 rfl ?_
      refine mz_iconst (v := 5) F dX9_show_51 (by decide) ?_
      refine mz_icmp_ge (tgt := 59) F dX9_show_52 (by decide) (fun c_3 => ?_) (fun c_3 => ?_)
      · replace h := h.1 c_3
        refine mz_iload F dX9_show_59 6 rfl ?_
        refine mz_iconst (v := 5) F dX9_show_61 (by decide) ?_
        refine mz_idiv F dX9_show_62 (by decide) ?_
        refine mz_sub [1, 2, 3, 4, 5, 7, 0] rfl ?_
        exact tX9_show_63 F hN (fun k0 h => ih k0 h) kv0 h
      · replace h := h.2 c_3
        refine mz_iconst (v := 1) F dX9_show_55 (by decide) ?_
        refine mz_goto (tgt := 63) F dX9_show_56 (by decide) ?_
        refine mz_sub [1, 2, 3, 4, 5, 7, 0] rfl ?_
        exact tX9_show_63 F hN (fun k0 h => ih k0 h) kv0 h
def bX9_show_14 : Nat → Nat → Int32 → Int32 → Int32 → Int32 → Int32 → Int32 → mSt → (mSt → Prop) → Prop
  | 0, _, _, _, _, _, _, _, _, _ => False
  | n + 1, v0, v1, v2, v3, v4, v5, v6, u, K => ((v2 ≤ v6 → (∃ n9, bX9_show_35 n9 v0 v1 v2 v3 v4 v5 (0 : Int32) u K)) ∧ (¬ (v2 ≤ v6) → (∀ x_1, x_1 = (v5 * (5 : Int32)) → (∀ x_2, x_2 = v6 + (1 : Int32) → bX9_show_14 n v0 v1 v2 v3 v4 x_1 x_2 u K))))
set_option maxRecDepth 100000 in
set_option maxHeartbeats 4000000 in
theorem tX9_show_14 {X : mCx} {G : mG} {u0 : mSt} {K : mSt → Prop} (F : mFx X G cX9_show wsX9_show RX9 "show" 0 0 none u0 (mPv K)) (hN : X.2.2.2.2.2.2.2.2.2.2.2.2.1 = 10) : ∀ (n : Nat) {v0 : Nat} {v1 : Int32} {v2 : Int32} {v3 : Int32} {v4 : Int32} {v5 : Int32} {v6 : Int32} {u : mSt}, mK u v0 = 10 → bX9_show_14 n v0 v1 v2 v3 v4 v5 v6 u K → mZ X u 14 [(0, .ref (G.1 + v0)), (1, .int v1), (2, .int v2), (3, .int v3), (4, .int v4), (5, .int v5), (6, .int v6)] [] := by
  intro n
  induction n with
  | zero => intro v0 v1 v2 v3 v4 v5 v6 u kv0 h; exact False.elim h
  | succ n ih =>
    intro v0 v1 v2 v3 v4 v5 v6 u kv0 h
    refine mz_iload F dX9_show_14 6 rfl ?_
    refine mz_iload_n F dX9_show_16 rfl 2 rfl ?_
    refine mz_icmp_ge (tgt := 32) F dX9_show_17 (by decide) (fun c_3 => ?_) (fun c_3 => ?_)
    · replace h := h.1 c_3
      refine mz_iconst (v := 0) F dX9_show_32 (by decide) ?_
      refine mz_istore (lv2 := [(6, .int (0 : Int32)), (0, .ref (G.1 + v0)), (1, .int v1), (2, .int v2), (3, .int v3), (4, .int v4), (5, .int v5)]) F dX9_show_33 hN (by decide) rfl ?_
      refine mz_sub [1, 2, 3, 4, 5, 6, 0] rfl ?_
      obtain ⟨n9, h⟩ := h
      exact tX9_show_35 F hN n9 kv0 h
    · replace h := h.2 c_3
      refine mz_iload F dX9_show_20 5 rfl ?_
      refine mz_iconst (v := 5) F dX9_show_22 (by decide) ?_
      refine mz_imul F dX9_show_23 ?_
      refine mz_topi (fun x_1 ex_1 => ?_)
      replace h := h x_1 ex_1
      refine mz_istore (lv2 := [(5, .int x_1), (0, .ref (G.1 + v0)), (1, .int v1), (2, .int v2), (3, .int v3), (4, .int v4), (6, .int v6)]) F dX9_show_24 hN (by decide) rfl ?_
      obtain ⟨x_2, ex_2⟩ : ∃ y : Int32, y = v6 + (1 : Int32) := ⟨_, rfl⟩
      replace h := h x_2 ex_2
      refine mz_iinc (v := x_2) (lv2 := [(6, .int x_2), (5, .int x_1), (0, .ref (G.1 + v0)), (1, .int v1), (2, .int v2), (3, .int v3), (4, .int v4)]) F dX9_show_26 6 rfl (by rw [ex_2]; rfl) hN (by decide) rfl ?_
      refine mz_goto (tgt := 14) F dX9_show_29 (by decide) ?_
      refine mz_sub [2, 3, 4, 5, 6, 1, 0] rfl ?_
      exact ih kv0 h
def bX9_show (this : Nat) (a1 : Int32) (a2 : Int32) (a3 : Int32) (u : mSt) (K : mSt → Prop) : Prop := (∃ q_1, mR u this 24 = some q_1 ∧ (vp_in a1 150 ∧ (∀ x_3, x_3 = (mI u q_1 a1.toNatClampNeg) → (∃ n9, bX9_show_14 n9 this a1 a2 a3 x_3 (1 : Int32) (1 : Int32) u K))))
set_option maxRecDepth 100000 in
set_option maxHeartbeats 4000000 in
theorem tX9_show {X : mCx} {G : mG} {u0 : mSt} {K : mSt → Prop} (F : mFx X G cX9_show wsX9_show RX9 "show" 0 0 none u0 (mPv K)) (hN : X.2.2.2.2.2.2.2.2.2.2.2.2.1 = 10) {this : Nat} {a1 : Int32} {a2 : Int32} {a3 : Int32} {u : mSt} (kthis : mK u this = 10) (h : bX9_show this a1 a2 a3 u K) : mZ X u 0 [(0, .ref (G.1 + this)), (1, .int a1), (2, .int a2), (3, .int a3)] [] := by
  refine mz_aload_n F dX9_show_0 rfl 0 rfl ?_
  obtain ⟨q_1, eq_1, h⟩ := h
  refine mz_getR F dX9_show_1 fX9_show_44 (by decide) kthis eq_1 (fun kq_1 => ?_)
  refine mz_iload_n F dX9_show_4 rfl 1 rfl ?_
  obtain ⟨b_2, h⟩ := h
  refine mz_iald F dX9_show_5 kq_1 rfl b_2 ?_
  refine mz_topi (fun x_3 ex_3 => ?_)
  replace h := h x_3 ex_3
  refine mz_istore (lv2 := [(4, .int x_3), (0, .ref (G.1 + this)), (1, .int a1), (2, .int a2), (3, .int a3)]) F dX9_show_6 hN (by decide) rfl ?_
  refine mz_iconst (v := 1) F dX9_show_8 (by decide) ?_
  refine mz_istore (lv2 := [(5, .int (1 : Int32)), (4, .int x_3), (0, .ref (G.1 + this)), (1, .int a1), (2, .int a2), (3, .int a3)]) F dX9_show_9 hN (by decide) rfl ?_
  refine mz_iconst (v := 1) F dX9_show_11 (by decide) ?_
  refine mz_istore (lv2 := [(6, .int (1 : Int32)), (5, .int (1 : Int32)), (4, .int x_3), (0, .ref (G.1 + this)), (1, .int a1), (2, .int a2), (3, .int a3)]) F dX9_show_12 hN (by decide) rfl ?_
  refine mz_sub [3, 4, 5, 6, 2, 1, 0] rfl ?_
  obtain ⟨n9, h⟩ := h
  exact tX9_show_14 F hN n9 kthis h
set_option maxRecDepth 100000 in
theorem kX9_show (l : Launch) (G : mG) {u : mSt} {K : mSt → Prop} {this : Nat} {a1 : Int32} {a2 : Int32} {a3 : Int32} (kthis : mK u this = 10) (h : bX9_show this a1 a2 a3 u K) : mCt l G yX9_show wsX9_show 0 0 [.ref (G.1 + this), .int a1, .int a2, .int a3] u (mPv K) := by
  refine mCt.of (cc := cX9_show) (maxL := 10) (ret := none) (by decide) rfl (Nat.le_of_ble_eq_true rfl) ?_
  intro X hl hN F
  exact tX9_show F hN kthis h
/-! RoomMapperModel.partsOf(II)I -/
theorem wiX9_partsOf_9 : ∀ w ∈ u_ws RX9 TX9 52, w ∈ wsX9_partsOf := by decide +kernel
theorem fX9_partsOf_75 : mFld wsX9_partsOf RX9 75 10 39 24 (.array .int) true := ⟨9, _, RX9, TX9, 52, tyX9, rfl, rfl, rfl, by decide, wiX9_partsOf_9, tyX9_ok, nmX9, rfl, rfl, Or.inl ⟨by decide +kernel, fun _ => rfl⟩⟩
theorem fX9_partsOf_177 : mFld wsX9_partsOf RX9 177 10 19 0 .int false := ⟨9, _, RX9, TX9, 52, tyX9, rfl, rfl, rfl, by decide, wiX9_partsOf_9, tyX9_ok, nmX9, rfl, rfl, Or.inl ⟨by decide +kernel, fun _ => rfl⟩⟩
def bX9_partsOf_106 (v0 : Nat) (v1 : Int32) (v3 : Int32) (v4 : Int32) (v6 : Int32) (v8 : Int32) (w0 : Int32) (u : mSt) (K : Int32 → mSt → Prop) (KL28 : Nat → Int32 → Int32 → Int32 → mSt → Prop) (KL43 : Nat → Int32 → Int32 → Int32 → Int32 → Int32 → mSt → Prop) (KL61 : Nat → Int32 → Int32 → Int32 → Int32 → Int32 → Int32 → mSt → Prop) : Prop := (∀ x_1, x_1 = v8 + (1 : Int32) → KL61 v0 v1 v3 v4 v6 w0 x_1 u)
set_option maxRecDepth 100000 in
set_option maxHeartbeats 4000000 in
theorem tX9_partsOf_106 {X : mCx} {G : mG} {u0 : mSt} {K : Int32 → mSt → Prop} {KL28 : Nat → Int32 → Int32 → Int32 → mSt → Prop} {KL43 : Nat → Int32 → Int32 → Int32 → Int32 → Int32 → mSt → Prop} {KL61 : Nat → Int32 → Int32 → Int32 → Int32 → Int32 → Int32 → mSt → Prop} (F : mFx X G cX9_partsOf wsX9_partsOf RX9 "partsOf" 1 29 (some .int) u0 (mPi K)) (hN : X.2.2.2.2.2.2.2.2.2.2.2.2.1 = 9) (hL28 : ∀ {v0 : Nat} {v1 : Int32} {v3 : Int32} {v4 : Int32} {u : mSt}, mK u v0 = 10 → KL28 v0 v1 v3 v4 u → mZ X u 28 [(0, .ref (G.1 + v0)), (1, .int v1), (3, .int v3), (4, .int v4)] []) (hL43 : ∀ {v0 : Nat} {v1 : Int32} {v3 : Int32} {v4 : Int32} {v5 : Int32} {v6 : Int32} {u : mSt}, mK u v0 = 10 → KL43 v0 v1 v3 v4 v5 v6 u → mZ X u 43 [(0, .ref (G.1 + v0)), (1, .int v1), (3, .int v3), (4, .int v4), (5, .int v5), (6, .int v6)] []) (hL61 : ∀ {v0 : Nat} {v1 : Int32} {v3 : Int32} {v4 : Int32} {v6 : Int32} {v7 : Int32} {v8 : Int32} {u : mSt}, mK u v0 = 10 → KL61 v0 v1 v3 v4 v6 v7 v8 u → mZ X u 61 [(0, .ref (G.1 + v0)), (1, .int v1), (3, .int v3), (4, .int v4), (6, .int v6), (7, .int v7), (8, .int v8)] []) {v0 : Nat} {v1 : Int32} {v3 : Int32} {v4 : Int32} {v6 : Int32} {v8 : Int32} {w0 : Int32} {u : mSt} (kv0 : mK u v0 = 10) (h : bX9_partsOf_106 v0 v1 v3 v4 v6 v8 w0 u K KL28 KL43 KL61) : mZ X u 106 [(0, .ref (G.1 + v0)), (1, .int v1), (3, .int v3), (4, .int v4), (6, .int v6), (8, .int v8)] [.int w0] := by
  refine mz_istore (lv2 := [(7, .int w0), (0, .ref (G.1 + v0)), (1, .int v1), (3, .int v3), (4, .int v4), (6, .int v6), (8, .int v8)]) F dX9_partsOf_106 hN (by decide) rfl ?_
  obtain ⟨x_1, ex_1⟩ : ∃ y : Int32, y = v8 + (1 : Int32) := ⟨_, rfl⟩
  replace h := h x_1 ex_1
  refine mz_iinc (v := x_1) (lv2 := [(8, .int x_1), (7, .int w0), (0, .ref (G.1 + v0)), (1, .int v1), (3, .int v3), (4, .int v4), (6, .int v6)]) F dX9_partsOf_108 6 rfl (by rw [ex_1]; rfl) hN (by decide) rfl ?_
  refine mz_goto (tgt := 61) F dX9_partsOf_111 (by decide) ?_
  refine mz_sub [2, 3, 4, 5, 6, 1, 0] rfl ?_
  exact hL61 kv0 h
def bX9_partsOf_124 (v0 : Nat) (v1 : Int32) (v3 : Int32) (v4 : Int32) (v6 : Int32) (w0 : Int32) (u : mSt) (K : Int32 → mSt → Prop) (KL28 : Nat → Int32 → Int32 → Int32 → mSt → Prop) (KL43 : Nat → Int32 → Int32 → Int32 → Int32 → Int32 → mSt → Prop) : Prop := (∀ x_1, x_1 = v6 + (1 : Int32) → KL43 v0 v1 v3 v4 w0 x_1 u)
set_option maxRecDepth 100000 in
set_option maxHeartbeats 4000000 in
theorem tX9_partsOf_124 {X : mCx} {G : mG} {u0 : mSt} {K : Int32 → mSt → Prop} {KL28 : Nat → Int32 → Int32 → Int32 → mSt → Prop} {KL43 : Nat → Int32 → Int32 → Int32 → Int32 → Int32 → mSt → Prop} (F : mFx X G cX9_partsOf wsX9_partsOf RX9 "partsOf" 1 29 (some .int) u0 (mPi K)) (hN : X.2.2.2.2.2.2.2.2.2.2.2.2.1 = 9) (hL28 : ∀ {v0 : Nat} {v1 : Int32} {v3 : Int32} {v4 : Int32} {u : mSt}, mK u v0 = 10 → KL28 v0 v1 v3 v4 u → mZ X u 28 [(0, .ref (G.1 + v0)), (1, .int v1), (3, .int v3), (4, .int v4)] []) (hL43 : ∀ {v0 : Nat} {v1 : Int32} {v3 : Int32} {v4 : Int32} {v5 : Int32} {v6 : Int32} {u : mSt}, mK u v0 = 10 → KL43 v0 v1 v3 v4 v5 v6 u → mZ X u 43 [(0, .ref (G.1 + v0)), (1, .int v1), (3, .int v3), (4, .int v4), (5, .int v5), (6, .int v6)] []) {v0 : Nat} {v1 : Int32} {v3 : Int32} {v4 : Int32} {v6 : Int32} {w0 : Int32} {u : mSt} (kv0 : mK u v0 = 10) (h : bX9_partsOf_124 v0 v1 v3 v4 v6 w0 u K KL28 KL43) : mZ X u 124 [(0, .ref (G.1 + v0)), (1, .int v1), (3, .int v3), (4, .int v4), (6, .int v6)] [.int w0] := by
  refine mz_istore (lv2 := [(5, .int w0), (0, .ref (G.1 + v0)), (1, .int v1), (3, .int v3), (4, .int v4), (6, .int v6)]) F dX9_partsOf_124 hN (by decide) rfl ?_
  obtain ⟨x_1, ex_1⟩ : ∃ y : Int32, y = v6 + (1 : Int32) := ⟨_, rfl⟩
  replace h := h x_1 ex_1
  refine mz_iinc (v := x_1) (lv2 := [(6, .int x_1), (5, .int w0), (0, .ref (G.1 + v0)), (1, .int v1), (3, .int v3), (4, .int v4)]) F dX9_partsOf_126 5 rfl (by rw [ex_1]; rfl) hN (by decide) rfl ?_
  refine mz_goto (tgt := 43) F dX9_partsOf_129 (by decide) ?_
  refine mz_sub [2, 3, 4, 5, 1, 0] rfl ?_
  exact hL43 kv0 h
def bX9_partsOf_114 (v0 : Nat) (v1 : Int32) (v3 : Int32) (v4 : Int32) (v6 : Int32) (v7 : Int32) (u : mSt) (K : Int32 → mSt → Prop) (KL28 : Nat → Int32 → Int32 → Int32 → mSt → Prop) (KL43 : Nat → Int32 → Int32 → Int32 → Int32 → Int32 → mSt → Prop) : Prop := ((v7 = 0 → bX9_partsOf_124 v0 v1 v3 v4 v6 (1 : Int32) u K KL28 KL43) ∧ (¬ (v7 = 0) → bX9_partsOf_124 v0 v1 v3 v4 v6 (0 : Int32) u K KL28 KL43))
set_option maxRecDepth 100000 in
set_option maxHeartbeats 4000000 in
theorem tX9_partsOf_114 {X : mCx} {G : mG} {u0 : mSt} {K : Int32 → mSt → Prop} {KL28 : Nat → Int32 → Int32 → Int32 → mSt → Prop} {KL43 : Nat → Int32 → Int32 → Int32 → Int32 → Int32 → mSt → Prop} (F : mFx X G cX9_partsOf wsX9_partsOf RX9 "partsOf" 1 29 (some .int) u0 (mPi K)) (hN : X.2.2.2.2.2.2.2.2.2.2.2.2.1 = 9) (hL28 : ∀ {v0 : Nat} {v1 : Int32} {v3 : Int32} {v4 : Int32} {u : mSt}, mK u v0 = 10 → KL28 v0 v1 v3 v4 u → mZ X u 28 [(0, .ref (G.1 + v0)), (1, .int v1), (3, .int v3), (4, .int v4)] []) (hL43 : ∀ {v0 : Nat} {v1 : Int32} {v3 : Int32} {v4 : Int32} {v5 : Int32} {v6 : Int32} {u : mSt}, mK u v0 = 10 → KL43 v0 v1 v3 v4 v5 v6 u → mZ X u 43 [(0, .ref (G.1 + v0)), (1, .int v1), (3, .int v3), (4, .int v4), (5, .int v5), (6, .int v6)] []) {v0 : Nat} {v1 : Int32} {v3 : Int32} {v4 : Int32} {v6 : Int32} {v7 : Int32} {u : mSt} (kv0 : mK u v0 = 10) (h : bX9_partsOf_114 v0 v1 v3 v4 v6 v7 u K KL28 KL43) : mZ X u 114 [(0, .ref (G.1 + v0)), (1, .int v1), (3, .int v3), (4, .int v4), (6, .int v6), (7, .int v7)] [] := by
  refine mz_iload F dX9_partsOf_114 5 rfl ?_
  refine mz_if_ne (tgt := 123) F dX9_partsOf_116 (by decide) (fun c_1 => ?_) (fun c_1 => ?_)
  · replace h := h.2 c_1
    refine mz_iconst (v := 0) F dX9_partsOf_123 (by decide) ?_
    refine mz_sub [0, 1, 2, 3, 4] rfl ?_
    exact tX9_partsOf_124 F hN hL28 hL43 kv0 h
  · replace h := h.1 c_1
    refine mz_iconst (v := 1) F dX9_partsOf_119 (by decide) ?_
    refine mz_goto (tgt := 124) F dX9_partsOf_120 (by decide) ?_
    refine mz_sub [0, 1, 2, 3, 4] rfl ?_
    exact tX9_partsOf_124 F hN hL28 hL43 kv0 h
def bX9_partsOf_61 : Nat → Nat → Int32 → Int32 → Int32 → Int32 → Int32 → Int32 → mSt → (Int32 → mSt → Prop) → (Nat → Int32 → Int32 → Int32 → mSt → Prop) → (Nat → Int32 → Int32 → Int32 → Int32 → Int32 → mSt → Prop) → Prop
  | 0, _, _, _, _, _, _, _, _, _, _, _ => False
  | n + 1, v0, v1, v3, v4, v6, v7, v8, u, K, KL28, KL43 => ((v1 ≤ v8 → bX9_partsOf_114 v0 v1 v3 v4 v6 v7 u K KL28 KL43) ∧ (¬ (v1 ≤ v8) → ((v7 = 0 → bX9_partsOf_114 v0 v1 v3 v4 v6 v7 u K KL28 KL43) ∧ (¬ (v7 = 0) → (∃ q_1, mR u v0 39 = some q_1 ∧ (vp_in (((6 : Int32) * v4) + v8) 900 ∧ (∃ q_3, mR u v0 39 = some q_3 ∧ (vp_in (((6 : Int32) * v6) + v8) 900 ∧ (((mI u q_1 (((6 : Int32) * v4) + v8).toNatClampNeg) = (mI u q_3 (((6 : Int32) * v6) + v8).toNatClampNeg) → bX9_partsOf_106 v0 v1 v3 v4 v6 v8 (1 : Int32) u K KL28 KL43 (fun z0 z1 z2 z3 z4 z5 z6 z7 => bX9_partsOf_61 n z0 z1 z2 z3 z4 z5 z6 z7 K KL28 KL43)) ∧ (¬ ((mI u q_1 (((6 : Int32) * v4) + v8).toNatClampNeg) = (mI u q_3 (((6 : Int32) * v6) + v8).toNatClampNeg)) → bX9_partsOf_106 v0 v1 v3 v4 v6 v8 (0 : Int32) u K KL28 KL43 (fun z0 z1 z2 z3 z4 z5 z6 z7 => bX9_partsOf_61 n z0 z1 z2 z3 z4 z5 z6 z7 K KL28 KL43)))))))))))
set_option maxRecDepth 100000 in
set_option maxHeartbeats 4000000 in
theorem tX9_partsOf_61 {X : mCx} {G : mG} {u0 : mSt} {K : Int32 → mSt → Prop} {KL28 : Nat → Int32 → Int32 → Int32 → mSt → Prop} {KL43 : Nat → Int32 → Int32 → Int32 → Int32 → Int32 → mSt → Prop} (F : mFx X G cX9_partsOf wsX9_partsOf RX9 "partsOf" 1 29 (some .int) u0 (mPi K)) (hN : X.2.2.2.2.2.2.2.2.2.2.2.2.1 = 9) (hL28 : ∀ {v0 : Nat} {v1 : Int32} {v3 : Int32} {v4 : Int32} {u : mSt}, mK u v0 = 10 → KL28 v0 v1 v3 v4 u → mZ X u 28 [(0, .ref (G.1 + v0)), (1, .int v1), (3, .int v3), (4, .int v4)] []) (hL43 : ∀ {v0 : Nat} {v1 : Int32} {v3 : Int32} {v4 : Int32} {v5 : Int32} {v6 : Int32} {u : mSt}, mK u v0 = 10 → KL43 v0 v1 v3 v4 v5 v6 u → mZ X u 43 [(0, .ref (G.1 + v0)), (1, .int v1), (3, .int v3), (4, .int v4), (5, .int v5), (6, .int v6)] []) : ∀ (n : Nat) {v0 : Nat} {v1 : Int32} {v3 : Int32} {v4 : Int32} {v6 : Int32} {v7 : Int32} {v8 : Int32} {u : mSt}, mK u v0 = 10 → bX9_partsOf_61 n v0 v1 v3 v4 v6 v7 v8 u K KL28 KL43 → mZ X u 61 [(0, .ref (G.1 + v0)), (1, .int v1), (3, .int v3), (4, .int v4), (6, .int v6), (7, .int v7), (8, .int v8)] [] := by
  intro n
  induction n with
  | zero => intro v0 v1 v3 v4 v6 v7 v8 u kv0 h; exact False.elim h
  | succ n ih =>
    intro v0 v1 v3 v4 v6 v7 v8 u kv0 h
    refine mz_iload F dX9_partsOf_61 6 rfl ?_
    refine mz_iload_n F dX9_partsOf_63 rfl 1 rfl ?_
    refine mz_icmp_ge (tgt := 114) F dX9_partsOf_64 (by decide) (fun c_7 => ?_) (fun c_7 => ?_)
    · replace h := h.1 c_7
      refine mz_sub [0, 1, 2, 3, 4, 5] rfl ?_
      exact tX9_partsOf_114 F hN hL28 hL43 kv0 h
    · replace h := h.2 c_7
      refine mz_iload F dX9_partsOf_67 5 rfl ?_
      refine mz_if_eq (tgt := 114) F dX9_partsOf_69 (by decide) (fun c_6 => ?_) (fun c_6 => ?_)
      · replace h := h.1 c_6
        refine mz_sub [0, 1, 2, 3, 4, 5] rfl ?_
        exact tX9_partsOf_114 F hN hL28 hL43 kv0 h
      · replace h := h.2 c_6
        refine mz_aload_n F dX9_partsOf_72 rfl 0 rfl ?_
        obtain ⟨q_1, eq_1, h⟩ := h
        refine mz_getR F dX9_partsOf_73 fX9_partsOf_75 (by decide) kv0 eq_1 (fun kq_1 => ?_)
        refine mz_bipush (v := 6) F dX9_partsOf_76 (by decide) ?_
        refine mz_iload F dX9_partsOf_78 3 rfl ?_
        refine mz_imul F dX9_partsOf_80 ?_
        refine mz_iload F dX9_partsOf_81 6 rfl ?_
        refine mz_iadd F dX9_partsOf_83 ?_
        obtain ⟨b_2, h⟩ := h
        refine mz_iald F dX9_partsOf_84 kq_1 rfl b_2 ?_
        refine mz_aload_n F dX9_partsOf_85 rfl 0 rfl ?_
        obtain ⟨q_3, eq_3, h⟩ := h
        refine mz_getR F dX9_partsOf_86 fX9_partsOf_75 (by decide) kv0 eq_3 (fun kq_3 => ?_)
        refine mz_bipush (v := 6) F dX9_partsOf_89 (by decide) ?_
        refine mz_iload F dX9_partsOf_91 4 rfl ?_
        refine mz_imul F dX9_partsOf_93 ?_
        refine mz_iload F dX9_partsOf_94 6 rfl ?_
        refine mz_iadd F dX9_partsOf_96 ?_
        obtain ⟨b_4, h⟩ := h
        refine mz_iald F dX9_partsOf_97 kq_3 rfl b_4 ?_
        refine mz_icmp_ne (tgt := 105) F dX9_partsOf_98 (by decide) (fun c_5 => ?_) (fun c_5 => ?_)
        · replace h := h.2 c_5
          refine mz_iconst (v := 0) F dX9_partsOf_105 (by decide) ?_
          refine mz_sub [0, 1, 2, 3, 4, 6] rfl ?_
          exact tX9_partsOf_106 F hN hL28 hL43 (fun k0 h => ih k0 h) kv0 h
        · replace h := h.1 c_5
          refine mz_iconst (v := 1) F dX9_partsOf_101 (by decide) ?_
          refine mz_goto (tgt := 106) F dX9_partsOf_102 (by decide) ?_
          refine mz_sub [0, 1, 2, 3, 4, 6] rfl ?_
          exact tX9_partsOf_106 F hN hL28 hL43 (fun k0 h => ih k0 h) kv0 h
def bX9_partsOf_143 (v0 : Nat) (v1 : Int32) (v4 : Int32) (w0 : Int32) (w1 : Int32) (u : mSt) (K : Int32 → mSt → Prop) (KL28 : Nat → Int32 → Int32 → Int32 → mSt → Prop) : Prop := (∀ x_1, x_1 = (w0 + w1) → (∀ x_2, x_2 = v4 + (1 : Int32) → KL28 v0 v1 x_1 x_2 u))
set_option maxRecDepth 100000 in
set_option maxHeartbeats 4000000 in
theorem tX9_partsOf_143 {X : mCx} {G : mG} {u0 : mSt} {K : Int32 → mSt → Prop} {KL28 : Nat → Int32 → Int32 → Int32 → mSt → Prop} (F : mFx X G cX9_partsOf wsX9_partsOf RX9 "partsOf" 1 29 (some .int) u0 (mPi K)) (hN : X.2.2.2.2.2.2.2.2.2.2.2.2.1 = 9) (hL28 : ∀ {v0 : Nat} {v1 : Int32} {v3 : Int32} {v4 : Int32} {u : mSt}, mK u v0 = 10 → KL28 v0 v1 v3 v4 u → mZ X u 28 [(0, .ref (G.1 + v0)), (1, .int v1), (3, .int v3), (4, .int v4)] []) {v0 : Nat} {v1 : Int32} {v4 : Int32} {w0 : Int32} {w1 : Int32} {u : mSt} (kv0 : mK u v0 = 10) (h : bX9_partsOf_143 v0 v1 v4 w0 w1 u K KL28) : mZ X u 143 [(0, .ref (G.1 + v0)), (1, .int v1), (4, .int v4)] [.int w1, .int w0] := by
  refine mz_iadd F dX9_partsOf_143 ?_
  refine mz_topi (fun x_1 ex_1 => ?_)
  replace h := h x_1 ex_1
  refine mz_istore_n (lv2 := [(3, .int x_1), (0, .ref (G.1 + v0)), (1, .int v1), (4, .int v4)]) F dX9_partsOf_144 rfl hN (by decide) rfl ?_
  obtain ⟨x_2, ex_2⟩ : ∃ y : Int32, y = v4 + (1 : Int32) := ⟨_, rfl⟩
  replace h := h x_2 ex_2
  refine mz_iinc (v := x_2) (lv2 := [(4, .int x_2), (3, .int x_1), (0, .ref (G.1 + v0)), (1, .int v1)]) F dX9_partsOf_145 3 rfl (by rw [ex_2]; rfl) hN (by decide) rfl ?_
  refine mz_goto (tgt := 28) F dX9_partsOf_148 (by decide) ?_
  refine mz_sub [2, 3, 1, 0] rfl ?_
  exact hL28 kv0 h
def bX9_partsOf_132 (v0 : Nat) (v1 : Int32) (v3 : Int32) (v4 : Int32) (v5 : Int32) (u : mSt) (K : Int32 → mSt → Prop) (KL28 : Nat → Int32 → Int32 → Int32 → mSt → Prop) : Prop := ((v5 = 0 → bX9_partsOf_143 v0 v1 v4 v3 (0 : Int32) u K KL28) ∧ (¬ (v5 = 0) → bX9_partsOf_143 v0 v1 v4 v3 (1 : Int32) u K KL28))
set_option maxRecDepth 100000 in
set_option maxHeartbeats 4000000 in
theorem tX9_partsOf_132 {X : mCx} {G : mG} {u0 : mSt} {K : Int32 → mSt → Prop} {KL28 : Nat → Int32 → Int32 → Int32 → mSt → Prop} (F : mFx X G cX9_partsOf wsX9_partsOf RX9 "partsOf" 1 29 (some .int) u0 (mPi K)) (hN : X.2.2.2.2.2.2.2.2.2.2.2.2.1 = 9) (hL28 : ∀ {v0 : Nat} {v1 : Int32} {v3 : Int32} {v4 : Int32} {u : mSt}, mK u v0 = 10 → KL28 v0 v1 v3 v4 u → mZ X u 28 [(0, .ref (G.1 + v0)), (1, .int v1), (3, .int v3), (4, .int v4)] []) {v0 : Nat} {v1 : Int32} {v3 : Int32} {v4 : Int32} {v5 : Int32} {u : mSt} (kv0 : mK u v0 = 10) (h : bX9_partsOf_132 v0 v1 v3 v4 v5 u K KL28) : mZ X u 132 [(0, .ref (G.1 + v0)), (1, .int v1), (3, .int v3), (4, .int v4), (5, .int v5)] [] := by
  refine mz_iload_n F dX9_partsOf_132 rfl 2 rfl ?_
  refine mz_iload F dX9_partsOf_133 4 rfl ?_
  refine mz_if_eq (tgt := 142) F dX9_partsOf_135 (by decide) (fun c_1 => ?_) (fun c_1 => ?_)
  · replace h := h.1 c_1
    refine mz_iconst (v := 0) F dX9_partsOf_142 (by decide) ?_
    refine mz_sub [0, 1, 3] rfl ?_
    exact tX9_partsOf_143 F hN hL28 kv0 h
  · replace h := h.2 c_1
    refine mz_iconst (v := 1) F dX9_partsOf_138 (by decide) ?_
    refine mz_goto (tgt := 143) F dX9_partsOf_139 (by decide) ?_
    refine mz_sub [0, 1, 3] rfl ?_
    exact tX9_partsOf_143 F hN hL28 kv0 h
def bX9_partsOf_43 : Nat → Nat → Int32 → Int32 → Int32 → Int32 → Int32 → mSt → (Int32 → mSt → Prop) → (Nat → Int32 → Int32 → Int32 → mSt → Prop) → Prop
  | 0, _, _, _, _, _, _, _, _, _ => False
  | n + 1, v0, v1, v3, v4, v5, v6, u, K, KL28 => ((v4 ≤ v6 → bX9_partsOf_132 v0 v1 v3 v4 v5 u K KL28) ∧ (¬ (v4 ≤ v6) → ((v5 = 0 → bX9_partsOf_132 v0 v1 v3 v4 v5 u K KL28) ∧ (¬ (v5 = 0) → (∃ n9, bX9_partsOf_61 n9 v0 v1 v3 v4 v6 (1 : Int32) (0 : Int32) u K KL28 (fun z0 z1 z2 z3 z4 z5 z6 => bX9_partsOf_43 n z0 z1 z2 z3 z4 z5 z6 K KL28))))))
set_option maxRecDepth 100000 in
set_option maxHeartbeats 4000000 in
theorem tX9_partsOf_43 {X : mCx} {G : mG} {u0 : mSt} {K : Int32 → mSt → Prop} {KL28 : Nat → Int32 → Int32 → Int32 → mSt → Prop} (F : mFx X G cX9_partsOf wsX9_partsOf RX9 "partsOf" 1 29 (some .int) u0 (mPi K)) (hN : X.2.2.2.2.2.2.2.2.2.2.2.2.1 = 9) (hL28 : ∀ {v0 : Nat} {v1 : Int32} {v3 : Int32} {v4 : Int32} {u : mSt}, mK u v0 = 10 → KL28 v0 v1 v3 v4 u → mZ X u 28 [(0, .ref (G.1 + v0)), (1, .int v1), (3, .int v3), (4, .int v4)] []) : ∀ (n : Nat) {v0 : Nat} {v1 : Int32} {v3 : Int32} {v4 : Int32} {v5 : Int32} {v6 : Int32} {u : mSt}, mK u v0 = 10 → bX9_partsOf_43 n v0 v1 v3 v4 v5 v6 u K KL28 → mZ X u 43 [(0, .ref (G.1 + v0)), (1, .int v1), (3, .int v3), (4, .int v4), (5, .int v5), (6, .int v6)] [] := by
  intro n
  induction n with
  | zero => intro v0 v1 v3 v4 v5 v6 u kv0 h; exact False.elim h
  | succ n ih =>
    intro v0 v1 v3 v4 v5 v6 u kv0 h
    refine mz_iload F dX9_partsOf_43 5 rfl ?_
    refine mz_iload F dX9_partsOf_45 3 rfl ?_
    refine mz_icmp_ge (tgt := 132) F dX9_partsOf_47 (by decide) (fun c_2 => ?_) (fun c_2 => ?_)
    · replace h := h.1 c_2
      refine mz_sub [0, 1, 2, 3, 4] rfl ?_
      exact tX9_partsOf_132 F hN hL28 kv0 h
    · replace h := h.2 c_2
      refine mz_iload F dX9_partsOf_50 4 rfl ?_
      refine mz_if_eq (tgt := 132) F dX9_partsOf_52 (by decide) (fun c_1 => ?_) (fun c_1 => ?_)
      · replace h := h.1 c_1
        refine mz_sub [0, 1, 2, 3, 4] rfl ?_
        exact tX9_partsOf_132 F hN hL28 kv0 h
      · replace h := h.2 c_1
        refine mz_iconst (v := 1) F dX9_partsOf_55 (by decide) ?_
        refine mz_istore (lv2 := [(7, .int (1 : Int32)), (0, .ref (G.1 + v0)), (1, .int v1), (3, .int v3), (4, .int v4), (5, .int v5), (6, .int v6)]) F dX9_partsOf_56 hN (by decide) rfl ?_
        refine mz_iconst (v := 0) F dX9_partsOf_58 (by decide) ?_
        refine mz_istore (lv2 := [(8, .int (0 : Int32)), (7, .int (1 : Int32)), (0, .ref (G.1 + v0)), (1, .int v1), (3, .int v3), (4, .int v4), (5, .int v5), (6, .int v6)]) F dX9_partsOf_59 hN (by decide) rfl ?_
        refine mz_sub [2, 3, 4, 5, 7, 1, 0] rfl ?_
        obtain ⟨n9, h⟩ := h
        exact tX9_partsOf_61 F hN hL28 (fun k0 h => ih k0 h) n9 kv0 h
def bX9_partsOf_28 : Nat → Nat → Int32 → Int32 → Int32 → mSt → (Int32 → mSt → Prop) → Prop
  | 0, _, _, _, _, _, _ => False
  | n + 1, v0, v1, v3, v4, u, K => (((mI u v0 19) ≤ v4 → K v3 u) ∧ (¬ ((mI u v0 19) ≤ v4) → (∃ n9, bX9_partsOf_43 n9 v0 v1 v3 v4 (1 : Int32) (0 : Int32) u K (fun z0 z1 z2 z3 z4 => bX9_partsOf_28 n z0 z1 z2 z3 z4 K))))
set_option maxRecDepth 100000 in
set_option maxHeartbeats 4000000 in
theorem tX9_partsOf_28 {X : mCx} {G : mG} {u0 : mSt} {K : Int32 → mSt → Prop} (F : mFx X G cX9_partsOf wsX9_partsOf RX9 "partsOf" 1 29 (some .int) u0 (mPi K)) (hN : X.2.2.2.2.2.2.2.2.2.2.2.2.1 = 9) : ∀ (n : Nat) {v0 : Nat} {v1 : Int32} {v3 : Int32} {v4 : Int32} {u : mSt}, mK u v0 = 10 → bX9_partsOf_28 n v0 v1 v3 v4 u K → mZ X u 28 [(0, .ref (G.1 + v0)), (1, .int v1), (3, .int v3), (4, .int v4)] [] := by
  intro n
  induction n with
  | zero => intro v0 v1 v3 v4 u kv0 h; exact False.elim h
  | succ n ih =>
    intro v0 v1 v3 v4 u kv0 h
    refine mz_iload F dX9_partsOf_28 3 rfl ?_
    refine mz_aload_n F dX9_partsOf_30 rfl 0 rfl ?_
    refine mz_getI F dX9_partsOf_31 fX9_partsOf_177 kv0 ?_
    refine mz_icmp_ge (tgt := 151) F dX9_partsOf_34 (by decide) (fun c_1 => ?_) (fun c_1 => ?_)
    · replace h := h.1 c_1
      refine mz_iload_n F dX9_partsOf_151 rfl 2 rfl ?_
      exact mz_iret F dX9_partsOf_152 ⟨_, rfl, h⟩
    · replace h := h.2 c_1
      refine mz_iconst (v := 1) F dX9_partsOf_37 (by decide) ?_
      refine mz_istore (lv2 := [(5, .int (1 : Int32)), (0, .ref (G.1 + v0)), (1, .int v1), (3, .int v3), (4, .int v4)]) F dX9_partsOf_38 hN (by decide) rfl ?_
      refine mz_iconst (v := 0) F dX9_partsOf_40 (by decide) ?_
      refine mz_istore (lv2 := [(6, .int (0 : Int32)), (5, .int (1 : Int32)), (0, .ref (G.1 + v0)), (1, .int v1), (3, .int v3), (4, .int v4)]) F dX9_partsOf_41 hN (by decide) rfl ?_
      refine mz_sub [2, 3, 4, 5, 1, 0] rfl ?_
      obtain ⟨n9, h⟩ := h
      exact tX9_partsOf_43 F hN (fun k0 h => ih k0 h) n9 kv0 h
def bX9_partsOf_2 : Nat → Nat → Int32 → Int32 → Int32 → mSt → (Int32 → mSt → Prop) → Prop
  | 0, _, _, _, _, _, _ => False
  | n + 1, v0, v1, v2, v3, u, K => (((mI u v0 19) ≤ v3 → (∃ n9, bX9_partsOf_28 n9 v0 v1 (0 : Int32) (0 : Int32) u K)) ∧ (¬ ((mI u v0 19) ≤ v3) → bX9_show v0 v3 v1 v2 u (fun u_2 => (∀ x_3, x_3 = v3 + (1 : Int32) → bX9_partsOf_2 n v0 v1 v2 x_3 u_2 K))))
set_option maxRecDepth 100000 in
set_option maxHeartbeats 4000000 in
theorem tX9_partsOf_2 {X : mCx} {G : mG} {u0 : mSt} {K : Int32 → mSt → Prop} (F : mFx X G cX9_partsOf wsX9_partsOf RX9 "partsOf" 1 29 (some .int) u0 (mPi K)) (hN : X.2.2.2.2.2.2.2.2.2.2.2.2.1 = 9) : ∀ (n : Nat) {v0 : Nat} {v1 : Int32} {v2 : Int32} {v3 : Int32} {u : mSt}, mK u v0 = 10 → bX9_partsOf_2 n v0 v1 v2 v3 u K → mZ X u 2 [(0, .ref (G.1 + v0)), (1, .int v1), (2, .int v2), (3, .int v3)] [] := by
  intro n
  induction n with
  | zero => intro v0 v1 v2 v3 u kv0 h; exact False.elim h
  | succ n ih =>
    intro v0 v1 v2 v3 u kv0 h
    refine mz_iload_n F dX9_partsOf_2 rfl 3 rfl ?_
    refine mz_aload_n F dX9_partsOf_3 rfl 0 rfl ?_
    refine mz_getI F dX9_partsOf_4 fX9_partsOf_177 kv0 ?_
    refine mz_icmp_ge (tgt := 23) F dX9_partsOf_7 (by decide) (fun c_4 => ?_) (fun c_4 => ?_)
    · replace h := h.1 c_4
      refine mz_iconst (v := 0) F dX9_partsOf_23 (by decide) ?_
      refine mz_istore_n (lv2 := [(3, .int (0 : Int32)), (0, .ref (G.1 + v0)), (1, .int v1), (2, .int v2)]) F dX9_partsOf_24 rfl hN (by decide) rfl ?_
      refine mz_iconst (v := 0) F dX9_partsOf_25 (by decide) ?_
      refine mz_istore (lv2 := [(4, .int (0 : Int32)), (3, .int (0 : Int32)), (0, .ref (G.1 + v0)), (1, .int v1), (2, .int v2)]) F dX9_partsOf_26 hN (by decide) rfl ?_
      refine mz_sub [2, 3, 1, 0] rfl ?_
      obtain ⟨n9, h⟩ := h
      exact tX9_partsOf_28 F hN n9 kv0 h
    · replace h := h.2 c_4
      refine mz_aload_n F dX9_partsOf_10 rfl 0 rfl ?_
      refine mz_iload_n F dX9_partsOf_11 rfl 3 rfl ?_
      refine mz_iload_n F dX9_partsOf_12 rfl 1 rfl ?_
      refine mz_iload_n F dX9_partsOf_13 rfl 2 rfl ?_
      refine mz_callV (As := [_, _, _]) (n := 3) F dX9_partsOf_14 rfl kv0 rfl rfl gX9_partsOf_X9_show (by decide +kernel) (by decide) rfl (Nat.le_of_ble_eq_true rfl) (kX9_show _ G kv0 h) (mz_kV fun u_2 h hx_1 => ?_)
      replace kv0 := hx_1.2.2 _ _ (by decide) kv0
      obtain ⟨x_3, ex_3⟩ : ∃ y : Int32, y = v3 + (1 : Int32) := ⟨_, rfl⟩
      replace h := h x_3 ex_3
      refine mz_iinc (v := x_3) (lv2 := [(3, .int x_3), (0, .ref (G.1 + v0)), (1, .int v1), (2, .int v2)]) F dX9_partsOf_17 3 rfl (by rw [ex_3]; rfl) hN (by decide) rfl ?_
      refine mz_goto (tgt := 2) F dX9_partsOf_20 (by decide) ?_
      refine mz_sub [1, 2, 3, 0] rfl ?_
      exact ih kv0 h
def bX9_partsOf (this : Nat) (a1 : Int32) (a2 : Int32) (u : mSt) (K : Int32 → mSt → Prop) : Prop := (∃ n9, bX9_partsOf_2 n9 this a1 a2 (0 : Int32) u K)
set_option maxRecDepth 100000 in
set_option maxHeartbeats 4000000 in
theorem tX9_partsOf {X : mCx} {G : mG} {u0 : mSt} {K : Int32 → mSt → Prop} (F : mFx X G cX9_partsOf wsX9_partsOf RX9 "partsOf" 1 29 (some .int) u0 (mPi K)) (hN : X.2.2.2.2.2.2.2.2.2.2.2.2.1 = 9) {this : Nat} {a1 : Int32} {a2 : Int32} {u : mSt} (kthis : mK u this = 10) (h : bX9_partsOf this a1 a2 u K) : mZ X u 0 [(0, .ref (G.1 + this)), (1, .int a1), (2, .int a2)] [] := by
  refine mz_iconst (v := 0) F dX9_partsOf_0 (by decide) ?_
  refine mz_istore_n (lv2 := [(3, .int (0 : Int32)), (0, .ref (G.1 + this)), (1, .int a1), (2, .int a2)]) F dX9_partsOf_1 rfl hN (by decide) rfl ?_
  refine mz_sub [1, 2, 3, 0] rfl ?_
  obtain ⟨n9, h⟩ := h
  exact tX9_partsOf_2 F hN n9 kthis h
set_option maxRecDepth 100000 in
theorem kX9_partsOf (l : Launch) (G : mG) {u : mSt} {K : Int32 → mSt → Prop} {this : Nat} {a1 : Int32} {a2 : Int32} (kthis : mK u this = 10) (h : bX9_partsOf this a1 a2 u K) : mCt l G yX9_partsOf wsX9_partsOf 1 29 [.ref (G.1 + this), .int a1, .int a2] u (mPi K) := by
  refine mCt.of (cc := cX9_partsOf) (maxL := 9) (ret := (some .int)) (by decide) rfl (Nat.le_of_ble_eq_true rfl) ?_
  intro X hl hN F
  exact tX9_partsOf F hN kthis h
