/-! RoomMapperModel.reached()I -/
theorem wiX9_reached_9 : ∀ w ∈ u_ws RX9 TX9 52, w ∈ wsX9_reached := by decide +kernel
theorem fX9_reached_90 : mFld wsX9_reached RX9 90 10 45 27 (.array .boolean) true := ⟨9, _, RX9, TX9, 52, tyX9, rfl, rfl, rfl, by decide, wiX9_reached_9, tyX9_ok, nmX9, rfl, rfl, Or.inl ⟨by decide +kernel, fun _ => rfl⟩⟩
theorem fX9_reached_112 : mFld wsX9_reached RX9 112 10 0 0 .int false := ⟨9, _, RX9, TX9, 52, tyX9, rfl, rfl, rfl, by decide, wiX9_reached_9, tyX9_ok, nmX9, rfl, rfl, Or.inl ⟨by decide +kernel, fun _ => rfl⟩⟩
theorem fX9_reached_159 : mFld wsX9_reached RX9 159 10 6 0 .boolean false := ⟨9, _, RX9, TX9, 52, tyX9, rfl, rfl, rfl, by decide, wiX9_reached_9, tyX9_ok, nmX9, rfl, rfl, Or.inl ⟨by decide +kernel, fun _ => rfl⟩⟩
def bX9_reached_126 (v0 : Nat) (v1 : Int32) (v2 : Int32) (v3 : Int32) (v4 : Int32) (u : mSt) (K : Int32 → mSt → Prop) (KL54 : Nat → Int32 → Int32 → mSt → Prop) (KL62 : Nat → Int32 → Int32 → Int32 → mSt → Prop) (KL71 : Nat → Int32 → Int32 → Int32 → Int32 → mSt → Prop) : Prop := (∀ x_1, x_1 = v4 + (1 : Int32) → KL71 v0 v1 v2 v3 x_1 u)
set_option maxRecDepth 100000 in
set_option maxHeartbeats 4000000 in
theorem tX9_reached_126 {X : mCx} {G : mG} {u0 : mSt} {K : Int32 → mSt → Prop} {KL54 : Nat → Int32 → Int32 → mSt → Prop} {KL62 : Nat → Int32 → Int32 → Int32 → mSt → Prop} {KL71 : Nat → Int32 → Int32 → Int32 → Int32 → mSt → Prop} (F : mFx X G cX9_reached wsX9_reached RX9 "reached" 2 45 (some .int) u0 (mPi K)) (hN : X.2.2.2.2.2.2.2.2.2.2.2.2.1 = 6) (hL54 : ∀ {v0 : Nat} {v1 : Int32} {v2 : Int32} {u : mSt}, mK u v0 = 10 → KL54 v0 v1 v2 u → mZ X u 54 [(0, .ref (G.1 + v0)), (1, .int v1), (2, .int v2)] []) (hL62 : ∀ {v0 : Nat} {v1 : Int32} {v2 : Int32} {v3 : Int32} {u : mSt}, mK u v0 = 10 → KL62 v0 v1 v2 v3 u → mZ X u 62 [(0, .ref (G.1 + v0)), (1, .int v1), (2, .int v2), (3, .int v3)] []) (hL71 : ∀ {v0 : Nat} {v1 : Int32} {v2 : Int32} {v3 : Int32} {v4 : Int32} {u : mSt}, mK u v0 = 10 → KL71 v0 v1 v2 v3 v4 u → mZ X u 71 [(0, .ref (G.1 + v0)), (1, .int v1), (2, .int v2), (3, .int v3), (4, .int v4)] []) {v0 : Nat} {v1 : Int32} {v2 : Int32} {v3 : Int32} {v4 : Int32} {u : mSt} (kv0 : mK u v0 = 10) (h : bX9_reached_126 v0 v1 v2 v3 v4 u K KL54 KL62 KL71) : mZ X u 126 [(0, .ref (G.1 + v0)), (1, .int v1), (2, .int v2), (3, .int v3), (4, .int v4)] [] := by
  obtain ⟨x_1, ex_1⟩ : ∃ y : Int32, y = v4 + (1 : Int32) := ⟨_, rfl⟩
  replace h := h x_1 ex_1
  refine mz_iinc (v := x_1) (lv2 := [(4, .int x_1), (0, .ref (G.1 + v0)), (1, .int v1), (2, .int v2), (3, .int v3)]) F dX9_reached_126 4 rfl (by rw [ex_1]; rfl) hN (by decide) rfl ?_
  refine mz_goto (tgt := 71) F dX9_reached_129 (by decide) ?_
  refine mz_sub [1, 2, 3, 4, 0] rfl ?_
  exact hL71 kv0 h
def bX9_reached_132 (v0 : Nat) (v1 : Int32) (v2 : Int32) (v3 : Int32) (u : mSt) (K : Int32 → mSt → Prop) (KL54 : Nat → Int32 → Int32 → mSt → Prop) (KL62 : Nat → Int32 → Int32 → Int32 → mSt → Prop) : Prop := (∀ x_1, x_1 = v3 + (1 : Int32) → KL62 v0 v1 v2 x_1 u)
set_option maxRecDepth 100000 in
set_option maxHeartbeats 4000000 in
theorem tX9_reached_132 {X : mCx} {G : mG} {u0 : mSt} {K : Int32 → mSt → Prop} {KL54 : Nat → Int32 → Int32 → mSt → Prop} {KL62 : Nat → Int32 → Int32 → Int32 → mSt → Prop} (F : mFx X G cX9_reached wsX9_reached RX9 "reached" 2 45 (some .int) u0 (mPi K)) (hN : X.2.2.2.2.2.2.2.2.2.2.2.2.1 = 6) (hL54 : ∀ {v0 : Nat} {v1 : Int32} {v2 : Int32} {u : mSt}, mK u v0 = 10 → KL54 v0 v1 v2 u → mZ X u 54 [(0, .ref (G.1 + v0)), (1, .int v1), (2, .int v2)] []) (hL62 : ∀ {v0 : Nat} {v1 : Int32} {v2 : Int32} {v3 : Int32} {u : mSt}, mK u v0 = 10 → KL62 v0 v1 v2 v3 u → mZ X u 62 [(0, .ref (G.1 + v0)), (1, .int v1), (2, .int v2), (3, .int v3)] []) {v0 : Nat} {v1 : Int32} {v2 : Int32} {v3 : Int32} {u : mSt} (kv0 : mK u v0 = 10) (h : bX9_reached_132 v0 v1 v2 v3 u K KL54 KL62) : mZ X u 132 [(0, .ref (G.1 + v0)), (1, .int v1), (2, .int v2), (3, .int v3)] [] := by
  obtain ⟨x_1, ex_1⟩ : ∃ y : Int32, y = v3 + (1 : Int32) := ⟨_, rfl⟩
  replace h := h x_1 ex_1
  refine mz_iinc (v := x_1) (lv2 := [(3, .int x_1), (0, .ref (G.1 + v0)), (1, .int v1), (2, .int v2)]) F dX9_reached_132 3 rfl (by rw [ex_1]; rfl) hN (by decide) rfl ?_
  refine mz_goto (tgt := 62) F dX9_reached_135 (by decide) ?_
  refine mz_sub [1, 2, 3, 0] rfl ?_
  exact hL62 kv0 h
def bX9_reached_71 : Nat → Nat → Int32 → Int32 → Int32 → Int32 → mSt → (Int32 → mSt → Prop) → (Nat → Int32 → Int32 → mSt → Prop) → (Nat → Int32 → Int32 → Int32 → mSt → Prop) → Prop
  | 0, _, _, _, _, _, _, _, _, _ => False
  | n + 1, v0, v1, v2, v3, v4, u, K, KL54, KL62 => (((5 : Int32) ≤ v4 → bX9_reached_132 v0 v1 v2 v3 u K KL54 KL62) ∧ (¬ ((5 : Int32) ≤ v4) → (∃ q_1, mR u v0 45 = some q_1 ∧ (vp_in v3 80 ∧ (((mI u q_1 v3.toNatClampNeg) = 0 → bX9_reached_132 v0 v1 v2 v3 u K KL54 KL62) ∧ (¬ ((mI u q_1 v3.toNatClampNeg) = 0) → bX9_standAt v0 v3 u (fun u_4 => bX9_step v0 v4 u_4 (fun u_6 => bX9_standing v0 u_6 (fun r_9 u_8 => (∃ q_10, mR u_8 v0 45 = some q_10 ∧ (vp_in r_9 80 ∧ (((mI u_8 q_10 r_9.toNatClampNeg) = 0 → (∃ q_12, mR u_8 v0 45 = some q_12 ∧ (vp_in r_9 80 ∧ ∀ u_14, u_14 = mpI u_8 q_12 r_9.toNatClampNeg (vp_nar .boolean (1 : Int32)) → (∀ x_15, x_15 = v1 + (1 : Int32) → bX9_reached_126 v0 x_15 (1 : Int32) v3 v4 u_14 K KL54 KL62 (fun z0 z1 z2 z3 z4 z5 => bX9_reached_71 n z0 z1 z2 z3 z4 z5 K KL54 KL62))))) ∧ (¬ ((mI u_8 q_10 r_9.toNatClampNeg) = 0) → bX9_reached_126 v0 v1 v2 v3 v4 u_8 K KL54 KL62 (fun z0 z1 z2 z3 z4 z5 => bX9_reached_71 n z0 z1 z2 z3 z4 z5 K KL54 KL62))))))))))))))
set_option maxRecDepth 100000 in
set_option maxHeartbeats 4000000 in
theorem tX9_reached_71 {X : mCx} {G : mG} {u0 : mSt} {K : Int32 → mSt → Prop} {KL54 : Nat → Int32 → Int32 → mSt → Prop} {KL62 : Nat → Int32 → Int32 → Int32 → mSt → Prop} (F : mFx X G cX9_reached wsX9_reached RX9 "reached" 2 45 (some .int) u0 (mPi K)) (hN : X.2.2.2.2.2.2.2.2.2.2.2.2.1 = 6) (hL54 : ∀ {v0 : Nat} {v1 : Int32} {v2 : Int32} {u : mSt}, mK u v0 = 10 → KL54 v0 v1 v2 u → mZ X u 54 [(0, .ref (G.1 + v0)), (1, .int v1), (2, .int v2)] []) (hL62 : ∀ {v0 : Nat} {v1 : Int32} {v2 : Int32} {v3 : Int32} {u : mSt}, mK u v0 = 10 → KL62 v0 v1 v2 v3 u → mZ X u 62 [(0, .ref (G.1 + v0)), (1, .int v1), (2, .int v2), (3, .int v3)] []) : ∀ (n : Nat) {v0 : Nat} {v1 : Int32} {v2 : Int32} {v3 : Int32} {v4 : Int32} {u : mSt}, mK u v0 = 10 → bX9_reached_71 n v0 v1 v2 v3 v4 u K KL54 KL62 → mZ X u 71 [(0, .ref (G.1 + v0)), (1, .int v1), (2, .int v2), (3, .int v3), (4, .int v4)] [] := by
  intro n
  induction n with
  | zero => intro v0 v1 v2 v3 v4 u kv0 h; exact False.elim h
  | succ n ih =>
    intro v0 v1 v2 v3 v4 u kv0 h
    refine mz_iload F dX9_reached_71 4 rfl ?_
    refine mz_iconst (v := 5) F dX9_reached_73 (by decide) ?_
    refine mz_icmp_ge (tgt := 132) F dX9_reached_74 (by decide) (fun c_18 => ?_) (fun c_18 => ?_)
    · replace h := h.1 c_18
      refine mz_sub [0, 1, 2, 3] rfl ?_
      exact tX9_reached_132 F hN hL54 hL62 kv0 h
    · replace h := h.2 c_18
      refine mz_aload_n F dX9_reached_77 rfl 0 rfl ?_
      obtain ⟨q_1, eq_1, h⟩ := h
      refine mz_getR F dX9_reached_78 fX9_reached_90 (by decide) kv0 eq_1 (fun kq_1 => ?_)
      refine mz_iload_n F dX9_reached_81 rfl 3 rfl ?_
      obtain ⟨b_2, h⟩ := h
      refine mz_zald F dX9_reached_82 kq_1 rfl b_2 ?_
      refine mz_if_eq (tgt := 132) F dX9_reached_83 (by decide) (fun c_17 => ?_) (fun c_17 => ?_)
      · replace h := h.1 c_17
        refine mz_sub [0, 1, 2, 3] rfl ?_
        exact tX9_reached_132 F hN hL54 hL62 kv0 h
      · replace h := h.2 c_17
        refine mz_aload_n F dX9_reached_86 rfl 0 rfl ?_
        refine mz_iload_n F dX9_reached_87 rfl 3 rfl ?_
        refine mz_callV (As := [_]) (n := 1) F dX9_reached_88 rfl kv0 rfl rfl gX9_reached_X9_standAt (by decide +kernel) (by decide) rfl (Nat.le_of_ble_eq_true rfl) (kX9_standAt _ G kv0 h) (mz_kV fun u_4 h hx_3 => ?_)
        replace kv0 := hx_3.2.2 _ _ (by decide) kv0
        refine mz_aload_n F dX9_reached_91 rfl 0 rfl ?_
        refine mz_iload F dX9_reached_92 4 rfl ?_
        refine mz_callV (As := [_]) (n := 1) F dX9_reached_94 rfl kv0 rfl rfl gX9_reached_X9_step (by decide +kernel) (by decide) rfl (Nat.le_of_ble_eq_true rfl) (kX9_step _ G kv0 h) (mz_kV fun u_6 h hx_5 => ?_)
        replace kv0 := hx_5.2.2 _ _ (by decide) kv0
        refine mz_aload_n F dX9_reached_97 rfl 0 rfl ?_
        refine mz_callV (As := []) (n := 0) F dX9_reached_98 rfl kv0 rfl rfl gX9_reached_X9_standing (by decide +kernel) (by decide) rfl (Nat.le_of_ble_eq_true rfl) (kX9_standing _ G kv0 h) (mz_kI fun r_9 u_8 h hx_7 => ?_)
        replace kv0 := hx_7.2.2 _ _ (by decide) kv0
        refine mz_istore (lv2 := [(5, .int r_9), (0, .ref (G.1 + v0)), (1, .int v1), (2, .int v2), (3, .int v3), (4, .int v4)]) F dX9_reached_101 hN (by decide) rfl ?_
        refine mz_aload_n F dX9_reached_103 rfl 1 rfl ?_
        obtain ⟨q_10, eq_10, h⟩ := h
        refine mz_getR F dX9_reached_104 fX9_reached_90 (by decide) kv0 eq_10 (fun kq_10 => ?_)
        refine mz_iload F dX9_reached_107 0 rfl ?_
        obtain ⟨b_11, h⟩ := h
        refine mz_zald F dX9_reached_109 kq_10 rfl b_11 ?_
        refine mz_if_ne (tgt := 126) F dX9_reached_110 (by decide) (fun c_16 => ?_) (fun c_16 => ?_)
        · replace h := h.2 c_16
          refine mz_sub [1, 2, 3, 4, 5] rfl ?_
          exact tX9_reached_126 F hN hL54 hL62 (fun k0 h => ih k0 h) kv0 h
        · replace h := h.1 c_16
          refine mz_aload_n F dX9_reached_113 rfl 1 rfl ?_
          obtain ⟨q_12, eq_12, h⟩ := h
          refine mz_getR F dX9_reached_114 fX9_reached_90 (by decide) kv0 eq_12 (fun kq_12 => ?_)
          refine mz_iload F dX9_reached_117 0 rfl ?_
          refine mz_iconst (v := 1) F dX9_reached_119 (by decide) ?_
          obtain ⟨b_13, h⟩ := h
          refine mz_zast F dX9_reached_120 kq_12 rfl b_13 (fun u_14 eu_14 hxu_14 => ?_)
          replace h := h u_14 eu_14
          replace kv0 := hxu_14.2.2 _ _ (by decide) kv0
          obtain ⟨x_15, ex_15⟩ : ∃ y : Int32, y = v1 + (1 : Int32) := ⟨_, rfl⟩
          replace h := h x_15 ex_15
          refine mz_iinc (v := x_15) (lv2 := [(1, .int x_15), (5, .int r_9), (0, .ref (G.1 + v0)), (2, .int v2), (3, .int v3), (4, .int v4)]) F dX9_reached_121 2 rfl (by rw [ex_15]; rfl) hN (by decide) rfl ?_
          refine mz_iconst (v := 1) F dX9_reached_124 (by decide) ?_
          refine mz_istore_n (lv2 := [(2, .int (1 : Int32)), (1, .int x_15), (5, .int r_9), (0, .ref (G.1 + v0)), (3, .int v3), (4, .int v4)]) F dX9_reached_125 rfl hN (by decide) rfl ?_
          refine mz_sub [3, 1, 0, 4, 5] rfl ?_
          exact tX9_reached_126 F hN hL54 hL62 (fun k0 h => ih k0 h) kv0 h
def bX9_reached_62 : Nat → Nat → Int32 → Int32 → Int32 → mSt → (Int32 → mSt → Prop) → (Nat → Int32 → Int32 → mSt → Prop) → Prop
  | 0, _, _, _, _, _, _, _ => False
  | n + 1, v0, v1, v2, v3, u, K, KL54 => (((80 : Int32) ≤ v3 → KL54 v0 v1 v2 u) ∧ (¬ ((80 : Int32) ≤ v3) → (∃ n9, bX9_reached_71 n9 v0 v1 v2 v3 (0 : Int32) u K KL54 (fun z0 z1 z2 z3 z4 => bX9_reached_62 n z0 z1 z2 z3 z4 K KL54))))
set_option maxRecDepth 100000 in
set_option maxHeartbeats 4000000 in
theorem tX9_reached_62 {X : mCx} {G : mG} {u0 : mSt} {K : Int32 → mSt → Prop} {KL54 : Nat → Int32 → Int32 → mSt → Prop} (F : mFx X G cX9_reached wsX9_reached RX9 "reached" 2 45 (some .int) u0 (mPi K)) (hN : X.2.2.2.2.2.2.2.2.2.2.2.2.1 = 6) (hL54 : ∀ {v0 : Nat} {v1 : Int32} {v2 : Int32} {u : mSt}, mK u v0 = 10 → KL54 v0 v1 v2 u → mZ X u 54 [(0, .ref (G.1 + v0)), (1, .int v1), (2, .int v2)] []) : ∀ (n : Nat) {v0 : Nat} {v1 : Int32} {v2 : Int32} {v3 : Int32} {u : mSt}, mK u v0 = 10 → bX9_reached_62 n v0 v1 v2 v3 u K KL54 → mZ X u 62 [(0, .ref (G.1 + v0)), (1, .int v1), (2, .int v2), (3, .int v3)] [] := by
  intro n
  induction n with
  | zero => intro v0 v1 v2 v3 u kv0 h; exact False.elim h
  | succ n ih =>
    intro v0 v1 v2 v3 u kv0 h
    refine mz_iload_n F dX9_reached_62 rfl 3 rfl ?_
    refine mz_bipush (v := 80) F dX9_reached_63 (by decide) ?_
    refine mz_icmp_ge (tgt := 138) F dX9_reached_65 (by decide) (fun c_1 => ?_) (fun c_1 => ?_)
    · replace h := h.1 c_1
      refine mz_goto (tgt := 54) F dX9_reached_138 (by decide) ?_
      refine mz_sub [0, 1, 2] rfl ?_
      exact hL54 kv0 h
    · replace h := h.2 c_1
      refine mz_iconst (v := 0) F dX9_reached_68 (by decide) ?_
      refine mz_istore (lv2 := [(4, .int (0 : Int32)), (0, .ref (G.1 + v0)), (1, .int v1), (2, .int v2), (3, .int v3)]) F dX9_reached_69 hN (by decide) rfl ?_
      refine mz_sub [1, 2, 3, 4, 0] rfl ?_
      obtain ⟨n9, h⟩ := h
      exact tX9_reached_71 F hN hL54 (fun k0 h => ih k0 h) n9 kv0 h
def bX9_reached_54 : Nat → Nat → Int32 → Int32 → mSt → (Int32 → mSt → Prop) → Prop
  | 0, _, _, _, _, _ => False
  | n + 1, v0, v1, v2, u, K => ((v2 = 0 → K v1 u) ∧ (¬ (v2 = 0) → (∃ n9, bX9_reached_62 n9 v0 v1 (0 : Int32) (0 : Int32) u K (fun z0 z1 z2 z3 => bX9_reached_54 n z0 z1 z2 z3 K))))
set_option maxRecDepth 100000 in
set_option maxHeartbeats 4000000 in
theorem tX9_reached_54 {X : mCx} {G : mG} {u0 : mSt} {K : Int32 → mSt → Prop} (F : mFx X G cX9_reached wsX9_reached RX9 "reached" 2 45 (some .int) u0 (mPi K)) (hN : X.2.2.2.2.2.2.2.2.2.2.2.2.1 = 6) : ∀ (n : Nat) {v0 : Nat} {v1 : Int32} {v2 : Int32} {u : mSt}, mK u v0 = 10 → bX9_reached_54 n v0 v1 v2 u K → mZ X u 54 [(0, .ref (G.1 + v0)), (1, .int v1), (2, .int v2)] [] := by
  intro n
  induction n with
  | zero => intro v0 v1 v2 u kv0 h; exact False.elim h
  | succ n ih =>
    intro v0 v1 v2 u kv0 h
    refine mz_iload_n F dX9_reached_54 rfl 2 rfl ?_
    refine mz_if_eq (tgt := 141) F dX9_reached_55 (by decide) (fun c_1 => ?_) (fun c_1 => ?_)
    · replace h := h.1 c_1
      refine mz_iload_n F dX9_reached_141 rfl 1 rfl ?_
      exact mz_iret F dX9_reached_142 ⟨_, rfl, h⟩
    · replace h := h.2 c_1
      refine mz_iconst (v := 0) F dX9_reached_58 (by decide) ?_
      refine mz_istore_n (lv2 := [(2, .int (0 : Int32)), (0, .ref (G.1 + v0)), (1, .int v1)]) F dX9_reached_59 rfl hN (by decide) rfl ?_
      refine mz_iconst (v := 0) F dX9_reached_60 (by decide) ?_
      refine mz_istore_n (lv2 := [(3, .int (0 : Int32)), (2, .int (0 : Int32)), (0, .ref (G.1 + v0)), (1, .int v1)]) F dX9_reached_61 rfl hN (by decide) rfl ?_
      refine mz_sub [2, 3, 1, 0] rfl ?_
      obtain ⟨n9, h⟩ := h
      exact tX9_reached_62 F hN (fun k0 h => ih k0 h) n9 kv0 h
def bX9_reached_17 : Nat → Nat → Int32 → mSt → (Int32 → mSt → Prop) → Prop
  | 0, _, _, _, _ => False
  | n + 1, v0, v1, u, K => (((80 : Int32) ≤ v1 → bX9_stand v0 u (fun u_2 => (∃ q_3, mR u_2 v0 45 = some q_3 ∧ bX9_standing v0 u_2 (fun r_6 u_5 => (vp_in r_6 80 ∧ ∀ u_8, u_8 = mpI u_5 q_3 r_6.toNatClampNeg (vp_nar .boolean (1 : Int32)) → (∃ n9, bX9_reached_54 n9 v0 (1 : Int32) (1 : Int32) u_8 K)))))) ∧ (¬ ((80 : Int32) ≤ v1) → (∃ q_9, mR u v0 45 = some q_9 ∧ (vp_in v1 80 ∧ ∀ u_11, u_11 = mpI u q_9 v1.toNatClampNeg (vp_nar .boolean (0 : Int32)) → (∀ x_12, x_12 = v1 + (1 : Int32) → bX9_reached_17 n v0 x_12 u_11 K)))))
set_option maxRecDepth 100000 in
set_option maxHeartbeats 4000000 in
theorem tX9_reached_17 {X : mCx} {G : mG} {u0 : mSt} {K : Int32 → mSt → Prop} (F : mFx X G cX9_reached wsX9_reached RX9 "reached" 2 45 (some .int) u0 (mPi K)) (hN : X.2.2.2.2.2.2.2.2.2.2.2.2.1 = 6) : ∀ (n : Nat) {v0 : Nat} {v1 : Int32} {u : mSt}, mK u v0 = 10 → bX9_reached_17 n v0 v1 u K → mZ X u 17 [(0, .ref (G.1 + v0)), (1, .int v1)] [] := by
  intro n
  induction n with
  | zero => intro v0 v1 u kv0 h; exact False.elim h
  | succ n ih =>
    intro v0 v1 u kv0 h
    refine mz_iload_n F dX9_reached_17 rfl 1 rfl ?_
    refine mz_bipush (v := 80) F dX9_reached_18 (by decide) ?_
    refine mz_icmp_ge (tgt := 36) F dX9_reached_20 (by decide) (fun c_13 => ?_) (fun c_13 => ?_)
    · replace h := h.1 c_13
      refine mz_aload_n F dX9_reached_36 rfl 0 rfl ?_
      refine mz_callV (As := []) (n := 0) F dX9_reached_37 rfl kv0 rfl rfl gX9_reached_X9_stand (by decide +kernel) (by decide) rfl (Nat.le_of_ble_eq_true rfl) (kX9_stand _ G kv0 h) (mz_kV fun u_2 h hx_1 => ?_)
      replace kv0 := hx_1.2.2 _ _ (by decide) kv0
      refine mz_aload_n F dX9_reached_40 rfl 0 rfl ?_
      obtain ⟨q_3, eq_3, h⟩ := h
      refine mz_getR F dX9_reached_41 fX9_reached_90 (by decide) kv0 eq_3 (fun kq_3 => ?_)
      refine mz_aload_n F dX9_reached_44 rfl 0 rfl ?_
      refine mz_callV (As := []) (n := 0) F dX9_reached_45 rfl kv0 rfl rfl gX9_reached_X9_standing (by decide +kernel) (by decide) rfl (Nat.le_of_ble_eq_true rfl) (kX9_standing _ G kv0 h) (mz_kI fun r_6 u_5 h hx_4 => ?_)
      replace kv0 := hx_4.2.2 _ _ (by decide) kv0
      replace kq_3 := hx_4.2.2 _ _ (by decide) kq_3
      refine mz_iconst (v := 1) F dX9_reached_48 (by decide) ?_
      obtain ⟨b_7, h⟩ := h
      refine mz_zast F dX9_reached_49 kq_3 rfl b_7 (fun u_8 eu_8 hxu_8 => ?_)
      replace h := h u_8 eu_8
      replace kv0 := hxu_8.2.2 _ _ (by decide) kv0
      refine mz_iconst (v := 1) F dX9_reached_50 (by decide) ?_
      refine mz_istore_n (lv2 := [(1, .int (1 : Int32)), (0, .ref (G.1 + v0))]) F dX9_reached_51 rfl hN (by decide) rfl ?_
      refine mz_iconst (v := 1) F dX9_reached_52 (by decide) ?_
      refine mz_istore_n (lv2 := [(2, .int (1 : Int32)), (1, .int (1 : Int32)), (0, .ref (G.1 + v0))]) F dX9_reached_53 rfl hN (by decide) rfl ?_
      refine mz_sub [2, 1, 0] rfl ?_
      obtain ⟨n9, h⟩ := h
      exact tX9_reached_54 F hN n9 kv0 h
    · replace h := h.2 c_13
      refine mz_aload_n F dX9_reached_23 rfl 0 rfl ?_
      obtain ⟨q_9, eq_9, h⟩ := h
      refine mz_getR F dX9_reached_24 fX9_reached_90 (by decide) kv0 eq_9 (fun kq_9 => ?_)
      refine mz_iload_n F dX9_reached_27 rfl 1 rfl ?_
      refine mz_iconst (v := 0) F dX9_reached_28 (by decide) ?_
      obtain ⟨b_10, h⟩ := h
      refine mz_zast F dX9_reached_29 kq_9 rfl b_10 (fun u_11 eu_11 hxu_11 => ?_)
      replace h := h u_11 eu_11
      replace kv0 := hxu_11.2.2 _ _ (by decide) kv0
      obtain ⟨x_12, ex_12⟩ : ∃ y : Int32, y = v1 + (1 : Int32) := ⟨_, rfl⟩
      replace h := h x_12 ex_12
      refine mz_iinc (v := x_12) (lv2 := [(1, .int x_12), (0, .ref (G.1 + v0))]) F dX9_reached_30 1 rfl (by rw [ex_12]; rfl) hN (by decide) rfl ?_
      refine mz_goto (tgt := 17) F dX9_reached_33 (by decide) ?_
      refine mz_sub [1, 0] rfl ?_
      exact ih kv0 h
def bX9_reached (this : Nat) (u : mSt) (K : Int32 → mSt → Prop) : Prop := (∀ u_1, u_1 = mpI u this 0 (0 : Int32) → (((mI u_1 this 6) = 0 → K (-2 : Int32) u_1) ∧ (¬ ((mI u_1 this 6) = 0) → (∃ n9, bX9_reached_17 n9 this (0 : Int32) u_1 K))))
set_option maxRecDepth 100000 in
set_option maxHeartbeats 4000000 in
theorem tX9_reached {X : mCx} {G : mG} {u0 : mSt} {K : Int32 → mSt → Prop} (F : mFx X G cX9_reached wsX9_reached RX9 "reached" 2 45 (some .int) u0 (mPi K)) (hN : X.2.2.2.2.2.2.2.2.2.2.2.2.1 = 6) {this : Nat} {u : mSt} (kthis : mK u this = 10) (h : bX9_reached this u K) : mZ X u 0 [(0, .ref (G.1 + this))] [] := by
  refine mz_aload_n F dX9_reached_0 rfl 0 rfl ?_
  refine mz_iconst (v := 0) F dX9_reached_1 (by decide) ?_
  refine mz_putI F dX9_reached_2 fX9_reached_112 kthis rfl rfl (fun u_1 eu_1 hxu_1 => ?_)
  replace h := h u_1 eu_1
  replace kthis := hxu_1.2.2 _ _ (by decide) kthis
  refine mz_aload_n F dX9_reached_5 rfl 0 rfl ?_
  refine mz_getI F dX9_reached_6 fX9_reached_159 kthis ?_
  refine mz_if_ne (tgt := 15) F dX9_reached_9 (by decide) (fun c_2 => ?_) (fun c_2 => ?_)
  · replace h := h.2 c_2
    refine mz_iconst (v := 0) F dX9_reached_15 (by decide) ?_
    refine mz_istore_n (lv2 := [(1, .int (0 : Int32)), (0, .ref (G.1 + this))]) F dX9_reached_16 rfl hN (by decide) rfl ?_
    refine mz_sub [1, 0] rfl ?_
    obtain ⟨n9, h⟩ := h
    exact tX9_reached_17 F hN n9 kthis h
  · replace h := h.1 c_2
    refine mz_bipush (v := (-2)) F dX9_reached_12 (by decide) ?_
    exact mz_iret F dX9_reached_14 ⟨_, rfl, h⟩
set_option maxRecDepth 100000 in
theorem kX9_reached (l : Launch) (G : mG) {u : mSt} {K : Int32 → mSt → Prop} {this : Nat} (kthis : mK u this = 10) (h : bX9_reached this u K) : mCt l G yX9_reached wsX9_reached 2 45 [.ref (G.1 + this)] u (mPi K) := by
  refine mCt.of (cc := cX9_reached) (maxL := 6) (ret := (some .int)) (by decide) rfl (Nat.le_of_ble_eq_true rfl) ?_
  intro X hl hN F
  exact tX9_reached F hN kthis h
/-! RoomMapperModel.isShelf(I)Z -/
def bX9_isShelf (a0 : Int32) (u : mSt) (K : Int32 → mSt → Prop) : Prop := ((a0 < 0 → K (0 : Int32) u) ∧ (¬ (a0 < 0) → (((8 : Int32) ≤ a0 → K (0 : Int32) u) ∧ (¬ ((8 : Int32) ≤ a0) → K (1 : Int32) u))))
set_option maxRecDepth 100000 in
set_option maxHeartbeats 4000000 in
theorem tX9_isShelf {X : mCx} {G : mG} {u0 : mSt} {K : Int32 → mSt → Prop} (F : mFx X G cX9_isShelf wsX9_isShelf RX9 "isShelf" 0 0 (some .boolean) u0 (mPz K)) (hN : X.2.2.2.2.2.2.2.2.2.2.2.2.1 = 1) {a0 : Int32} {u : mSt} (h : bX9_isShelf a0 u K) : mZ X u 0 [(0, .int a0)] [] := by
  refine mz_iload_n F dX9_isShelf_0 rfl 0 rfl ?_
  refine mz_if_lt (tgt := 14) F dX9_isShelf_1 (by decide) (fun c_2 => ?_) (fun c_2 => ?_)
  · replace h := h.1 c_2
    refine mz_iconst (v := 0) F dX9_isShelf_14 (by decide) ?_
    exact mz_zret F dX9_isShelf_15 rfl ⟨_, rfl, by decide, h⟩
  · replace h := h.2 c_2
    refine mz_iload_n F dX9_isShelf_4 rfl 0 rfl ?_
    refine mz_bipush (v := 8) F dX9_isShelf_5 (by decide) ?_
    refine mz_icmp_ge (tgt := 14) F dX9_isShelf_7 (by decide) (fun c_1 => ?_) (fun c_1 => ?_)
    · replace h := h.1 c_1
      refine mz_iconst (v := 0) F dX9_isShelf_14 (by decide) ?_
      exact mz_zret F dX9_isShelf_15 rfl ⟨_, rfl, by decide, h⟩
    · replace h := h.2 c_1
      refine mz_iconst (v := 1) F dX9_isShelf_10 (by decide) ?_
      refine mz_goto (tgt := 15) F dX9_isShelf_11 (by decide) ?_
      exact mz_zret F dX9_isShelf_15 rfl ⟨_, rfl, by decide, h⟩
set_option maxRecDepth 100000 in
theorem kX9_isShelf (l : Launch) (G : mG) {u : mSt} {K : Int32 → mSt → Prop} {a0 : Int32} (h : bX9_isShelf a0 u K) : mCt l G yX9_isShelf wsX9_isShelf 0 0 [.int a0] u (mPz K) := by
  refine mCt.of (cc := cX9_isShelf) (maxL := 1) (ret := (some .boolean)) (by decide) rfl (Nat.le_of_ble_eq_true rfl) ?_
  intro X hl hN F
  exact tX9_isShelf F hN  h
/-! RoomMapperModel.canKeep(II)Z -/
theorem wiX9_canKeep_9 : ∀ w ∈ u_ws RX9 TX9 52, w ∈ wsX9_canKeep := by decide +kernel
theorem fX9_canKeep_159 : mFld wsX9_canKeep RX9 159 10 6 0 .boolean false := ⟨9, _, RX9, TX9, 52, tyX9, rfl, rfl, rfl, by decide, wiX9_canKeep_9, tyX9_ok, nmX9, rfl, rfl, Or.inl ⟨by decide +kernel, fun _ => rfl⟩⟩
def bX9_canKeep (this : Nat) (a1 : Int32) (a2 : Int32) (u : mSt) (K : Int32 → mSt → Prop) : Prop := ((a1 = (0 : Int32) → K (1 : Int32) u) ∧ (¬ a1 = (0 : Int32) → ((a1 = (1 : Int32) → ((a2 < 0 → K (0 : Int32) u) ∧ (¬ (a2 < 0) → bX9_isCell this (a2 / (4 : Int32)) u (fun r_18 u_17 => ((r_18 = 0 → K (0 : Int32) u_17) ∧ (¬ (r_18 = 0) → K (1 : Int32) u_17)))))) ∧ (¬ a1 = (1 : Int32) → ((a1 = (2 : Int32) → ((a1 = (4 : Int32) → bX9_isSheet this a2 u (fun r_13 u_12 => ((r_13 = 0 → K (0 : Int32) u_12) ∧ (¬ (r_13 = 0) → K (1 : Int32) u_12)))) ∧ (¬ (a1 = (4 : Int32)) → K (0 : Int32) u))) ∧ (¬ a1 = (2 : Int32) → ((a1 = (3 : Int32) → ((mI u this 6 = 0 ∨ mI u this 6 = 1) ∧ K (mI u this 6) u)) ∧ (¬ a1 = (3 : Int32) → ((a1 = (4 : Int32) → bX9_isSheet this a2 u (fun r_3 u_2 => ((r_3 = 0 → K (0 : Int32) u_2) ∧ (¬ (r_3 = 0) → K (1 : Int32) u_2)))) ∧ (¬ (a1 = (4 : Int32)) → K (0 : Int32) u))))))))))
set_option maxRecDepth 100000 in
set_option maxHeartbeats 4000000 in
theorem tX9_canKeep {X : mCx} {G : mG} {u0 : mSt} {K : Int32 → mSt → Prop} (F : mFx X G cX9_canKeep wsX9_canKeep RX9 "canKeep" 1 21 (some .boolean) u0 (mPz K)) (hN : X.2.2.2.2.2.2.2.2.2.2.2.2.1 = 3) {this : Nat} {a1 : Int32} {a2 : Int32} {u : mSt} (kthis : mK u this = 10) (h : bX9_canKeep this a1 a2 u K) : mZ X u 0 [(0, .ref (G.1 + this)), (1, .int a1), (2, .int a2)] [] := by
  refine mz_iload_n F dX9_canKeep_0 rfl 1 rfl ?_
  refine Classical.byCases (p := a1 = (0 : Int32)) (fun c_6 => ?_) (fun c_6 => ?_)
  · replace h := h.1 c_6
    have ec_6 := mte (z := 0) rfl c_6
    refine mz_tableIn (off := 31) (tgt := 32) F dX9_canKeep_1 (by omega) (by omega) (by rw [ec_6]; rfl) (by decide) ?_
    refine mz_iconst (v := 1) F dX9_canKeep_32 (by decide) ?_
    exact mz_zret F dX9_canKeep_33 rfl ⟨_, rfl, by decide, h⟩
  · replace h := h.2 c_6
    refine Classical.byCases (p := a1 = (1 : Int32)) (fun c_7 => ?_) (fun c_7 => ?_)
    · replace h := h.1 c_7
      have ec_7 := mte (z := 1) rfl c_7
      refine mz_tableIn (off := 33) (tgt := 34) F dX9_canKeep_1 (by omega) (by omega) (by rw [ec_7]; rfl) (by decide) ?_
      refine mz_iload_n F dX9_canKeep_34 rfl 2 rfl ?_
      refine mz_if_lt (tgt := 52) F dX9_canKeep_35 (by decide) (fun c_20 => ?_) (fun c_20 => ?_)
      · replace h := h.1 c_20
        refine mz_iconst (v := 0) F dX9_canKeep_52 (by decide) ?_
        exact mz_zret F dX9_canKeep_53 rfl ⟨_, rfl, by decide, h⟩
      · replace h := h.2 c_20
        refine mz_aload_n F dX9_canKeep_38 rfl 0 rfl ?_
        refine mz_iload_n F dX9_canKeep_39 rfl 2 rfl ?_
        refine mz_iconst (v := 4) F dX9_canKeep_40 (by decide) ?_
        refine mz_idiv F dX9_canKeep_41 (by decide) ?_
        refine mz_callV (As := [_]) (n := 1) F dX9_canKeep_42 rfl kthis rfl rfl gX9_canKeep_X9_isCell (by decide +kernel) (by decide) rfl (Nat.le_of_ble_eq_true rfl) (kX9_isCell _ G kthis h) (mz_kZ fun r_18 u_17 br_18 h hx_16 => ?_)
        refine mz_if_eq (tgt := 52) F dX9_canKeep_45 (by decide) (fun c_19 => ?_) (fun c_19 => ?_)
        · replace h := h.1 c_19
          refine mz_iconst (v := 0) F dX9_canKeep_52 (by decide) ?_
          exact mz_zret F dX9_canKeep_53 rfl ⟨_, rfl, by decide, h⟩
        · replace h := h.2 c_19
          refine mz_iconst (v := 1) F dX9_canKeep_48 (by decide) ?_
          refine mz_goto (tgt := 53) F dX9_canKeep_49 (by decide) ?_
          exact mz_zret F dX9_canKeep_53 rfl ⟨_, rfl, by decide, h⟩
    · replace h := h.2 c_7
      refine Classical.byCases (p := a1 = (2 : Int32)) (fun c_8 => ?_) (fun c_8 => ?_)
      · replace h := h.1 c_8
        have ec_8 := mte (z := 2) rfl c_8
        refine mz_tableIn (off := 58) (tgt := 59) F dX9_canKeep_1 (by omega) (by omega) (by rw [ec_8]; rfl) (by decide) ?_
        refine mz_iload_n F dX9_canKeep_59 rfl 1 rfl ?_
        refine mz_iconst (v := 4) F dX9_canKeep_60 (by decide) ?_
        refine mz_icmp_ne (tgt := 76) F dX9_canKeep_61 (by decide) (fun c_15 => ?_) (fun c_15 => ?_)
        · replace h := h.2 c_15
          refine mz_iconst (v := 0) F dX9_canKeep_76 (by decide) ?_
          exact mz_zret F dX9_canKeep_77 rfl ⟨_, rfl, by decide, h⟩
        · replace h := h.1 c_15
          refine mz_aload_n F dX9_canKeep_64 rfl 0 rfl ?_
          refine mz_iload_n F dX9_canKeep_65 rfl 2 rfl ?_
          refine mz_callV (As := [_]) (n := 1) F dX9_canKeep_66 rfl kthis rfl rfl gX9_canKeep_X9_isSheet (by decide +kernel) (by decide) rfl (Nat.le_of_ble_eq_true rfl) (kX9_isSheet _ G kthis h) (mz_kZ fun r_13 u_12 br_13 h hx_11 => ?_)
          refine mz_if_eq (tgt := 76) F dX9_canKeep_69 (by decide) (fun c_14 => ?_) (fun c_14 => ?_)
          · replace h := h.1 c_14
            refine mz_iconst (v := 0) F dX9_canKeep_76 (by decide) ?_
            exact mz_zret F dX9_canKeep_77 rfl ⟨_, rfl, by decide, h⟩
          · replace h := h.2 c_14
            refine mz_iconst (v := 1) F dX9_canKeep_72 (by decide) ?_
            refine mz_goto (tgt := 77) F dX9_canKeep_73 (by decide) ?_
            exact mz_zret F dX9_canKeep_77 rfl ⟨_, rfl, by decide, h⟩
      · replace h := h.2 c_8
        refine Classical.byCases (p := a1 = (3 : Int32)) (fun c_9 => ?_) (fun c_9 => ?_)
        · replace h := h.1 c_9
          have ec_9 := mte (z := 3) rfl c_9
          refine mz_tableIn (off := 53) (tgt := 54) F dX9_canKeep_1 (by omega) (by omega) (by rw [ec_9]; rfl) (by decide) ?_
          refine mz_aload_n F dX9_canKeep_54 rfl 0 rfl ?_
          refine mz_getI F dX9_canKeep_55 fX9_canKeep_159 kthis ?_
          obtain ⟨b_10, h⟩ := h
          exact mz_zret F dX9_canKeep_58 (mbn b_10) ⟨_, rfl, b_10, h⟩
        · replace h := h.2 c_9
          have nc_6 := mtn (z := 0) rfl c_6
          have nc_7 := mtn (z := 1) rfl c_7
          have nc_8 := mtn (z := 2) rfl c_8
          have nc_9 := mtn (z := 3) rfl c_9
          refine mz_tableOut (tgt := 59) F dX9_canKeep_1 (by omega) (by decide) ?_
          refine mz_iload_n F dX9_canKeep_59 rfl 1 rfl ?_
          refine mz_iconst (v := 4) F dX9_canKeep_60 (by decide) ?_
          refine mz_icmp_ne (tgt := 76) F dX9_canKeep_61 (by decide) (fun c_5 => ?_) (fun c_5 => ?_)
          · replace h := h.2 c_5
            refine mz_iconst (v := 0) F dX9_canKeep_76 (by decide) ?_
            exact mz_zret F dX9_canKeep_77 rfl ⟨_, rfl, by decide, h⟩
          · replace h := h.1 c_5
            refine mz_aload_n F dX9_canKeep_64 rfl 0 rfl ?_
            refine mz_iload_n F dX9_canKeep_65 rfl 2 rfl ?_
            refine mz_callV (As := [_]) (n := 1) F dX9_canKeep_66 rfl kthis rfl rfl gX9_canKeep_X9_isSheet (by decide +kernel) (by decide) rfl (Nat.le_of_ble_eq_true rfl) (kX9_isSheet _ G kthis h) (mz_kZ fun r_3 u_2 br_3 h hx_1 => ?_)
            refine mz_if_eq (tgt := 76) F dX9_canKeep_69 (by decide) (fun c_4 => ?_) (fun c_4 => ?_)
            · replace h := h.1 c_4
              refine mz_iconst (v := 0) F dX9_canKeep_76 (by decide) ?_
              exact mz_zret F dX9_canKeep_77 rfl ⟨_, rfl, by decide, h⟩
            · replace h := h.2 c_4
              refine mz_iconst (v := 1) F dX9_canKeep_72 (by decide) ?_
              refine mz_goto (tgt := 77) F dX9_canKeep_73 (by decide) ?_
              exact mz_zret F dX9_canKeep_77 rfl ⟨_, rfl, by decide, h⟩
set_option maxRecDepth 100000 in
theorem kX9_canKeep (l : Launch) (G : mG) {u : mSt} {K : Int32 → mSt → Prop} {this : Nat} {a1 : Int32} {a2 : Int32} (kthis : mK u this = 10) (h : bX9_canKeep this a1 a2 u K) : mCt l G yX9_canKeep wsX9_canKeep 1 21 [.ref (G.1 + this), .int a1, .int a2] u (mPz K) := by
  refine mCt.of (cc := cX9_canKeep) (maxL := 3) (ret := (some .boolean)) (by decide) rfl (Nat.le_of_ble_eq_true rfl) ?_
  intro X hl hN F
  exact tX9_canKeep F hN kthis h
/-! RoomMapperModel.weightOf(I)I -/
theorem wiX9_weightOf_9 : ∀ w ∈ u_ws RX9 TX9 52, w ∈ wsX9_weightOf := by decide +kernel
theorem fX9_weightOf_20 : mFld wsX9_weightOf RX9 20 10 5 14 (.array .int) true := ⟨9, _, RX9, TX9, 52, tyX9, rfl, rfl, rfl, by decide, wiX9_weightOf_9, tyX9_ok, nmX9, rfl, rfl, Or.inl ⟨by decide +kernel, fun _ => rfl⟩⟩
theorem fX9_weightOf_17 : mFld wsX9_weightOf RX9 17 10 4 14 (.array .int) true := ⟨9, _, RX9, TX9, 52, tyX9, rfl, rfl, rfl, by decide, wiX9_weightOf_9, tyX9_ok, nmX9, rfl, rfl, Or.inl ⟨by decide +kernel, fun _ => rfl⟩⟩
def bX9_weightOf (this : Nat) (a1 : Int32) (u : mSt) (K : Int32 → mSt → Prop) : Prop := (∃ q_1, mR u this 5 = some q_1 ∧ (vp_in a1 40 ∧ (∀ x_3, x_3 = ((10 : Int32) + (mI u q_1 a1.toNatClampNeg)) → (∃ q_4, mR u this 4 = some q_4 ∧ (vp_in a1 40 ∧ (∀ x_12, x_12 = (mI u q_4 a1.toNatClampNeg) → ((x_12 = (0 : Int32) → K (1 : Int32) u) ∧ (¬ x_12 = (0 : Int32) → ((x_12 = (1 : Int32) → K x_3 u) ∧ (¬ x_12 = (1 : Int32) → ((x_12 = (2 : Int32) → K (x_3 + (100 : Int32)) u) ∧ (¬ x_12 = (2 : Int32) → ((x_12 = (3 : Int32) → K (x_3 + (1000 : Int32)) u) ∧ (¬ x_12 = (3 : Int32) → ((x_12 = (4 : Int32) → K (x_3 + (2000 : Int32)) u) ∧ (¬ x_12 = (4 : Int32) → ((x_12 = (5 : Int32) → K ((2 : Int32) * (x_3 + (100 : Int32))) u) ∧ (¬ x_12 = (5 : Int32) → K x_3 u))))))))))))))))))
set_option maxRecDepth 100000 in
set_option maxHeartbeats 4000000 in
theorem tX9_weightOf {X : mCx} {G : mG} {u0 : mSt} {K : Int32 → mSt → Prop} (F : mFx X G cX9_weightOf wsX9_weightOf RX9 "weightOf" 0 0 (some .int) u0 (mPi K)) (hN : X.2.2.2.2.2.2.2.2.2.2.2.2.1 = 3) {this : Nat} {a1 : Int32} {u : mSt} (kthis : mK u this = 10) (h : bX9_weightOf this a1 u K) : mZ X u 0 [(0, .ref (G.1 + this)), (1, .int a1)] [] := by
  refine mz_bipush (v := 10) F dX9_weightOf_0 (by decide) ?_
  refine mz_aload_n F dX9_weightOf_2 rfl 0 rfl ?_
  obtain ⟨q_1, eq_1, h⟩ := h
  refine mz_getR F dX9_weightOf_3 fX9_weightOf_20 (by decide) kthis eq_1 (fun kq_1 => ?_)
  refine mz_iload_n F dX9_weightOf_6 rfl 1 rfl ?_
  obtain ⟨b_2, h⟩ := h
  refine mz_iald F dX9_weightOf_7 kq_1 rfl b_2 ?_
  refine mz_iadd F dX9_weightOf_8 ?_
  refine mz_topi (fun x_3 ex_3 => ?_)
  replace h := h x_3 ex_3
  refine mz_istore_n (lv2 := [(2, .int x_3), (0, .ref (G.1 + this)), (1, .int a1)]) F dX9_weightOf_9 rfl hN (by decide) rfl ?_
  refine mz_aload_n F dX9_weightOf_10 rfl 1 rfl ?_
  obtain ⟨q_4, eq_4, h⟩ := h
  refine mz_getR F dX9_weightOf_11 fX9_weightOf_17 (by decide) kthis eq_4 (fun kq_4 => ?_)
  refine mz_iload_n F dX9_weightOf_14 rfl 2 rfl ?_
  obtain ⟨b_5, h⟩ := h
  refine mz_iald F dX9_weightOf_15 kq_4 rfl b_5 ?_
  refine mz_topi (fun x_12 ex_12 => ?_)
  replace h := h x_12 ex_12
  refine Classical.byCases (p := x_12 = (0 : Int32)) (fun c_6 => ?_) (fun c_6 => ?_)
  · replace h := h.1 c_6
    have ec_6 := mte (z := 0) rfl c_6
    refine mz_tableIn (off := 40) (tgt := 56) F dX9_weightOf_16 (by omega) (by omega) (by rw [ec_6]; rfl) (by decide) ?_
    refine mz_iconst (v := 1) F dX9_weightOf_56 (by decide) ?_
    exact mz_iret F dX9_weightOf_57 ⟨_, rfl, h⟩
  · replace h := h.2 c_6
    refine Classical.byCases (p := x_12 = (1 : Int32)) (fun c_7 => ?_) (fun c_7 => ?_)
    · replace h := h.1 c_7
      have ec_7 := mte (z := 1) rfl c_7
      refine mz_tableIn (off := 66) (tgt := 82) F dX9_weightOf_16 (by omega) (by omega) (by rw [ec_7]; rfl) (by decide) ?_
      refine mz_iload_n F dX9_weightOf_82 rfl 0 rfl ?_
      exact mz_iret F dX9_weightOf_83 ⟨_, rfl, h⟩
    · replace h := h.2 c_7
      refine Classical.byCases (p := x_12 = (2 : Int32)) (fun c_8 => ?_) (fun c_8 => ?_)
      · replace h := h.1 c_8
        have ec_8 := mte (z := 2) rfl c_8
        refine mz_tableIn (off := 42) (tgt := 58) F dX9_weightOf_16 (by omega) (by omega) (by rw [ec_8]; rfl) (by decide) ?_
        refine mz_iload_n F dX9_weightOf_58 rfl 0 rfl ?_
        refine mz_bipush (v := 100) F dX9_weightOf_59 (by decide) ?_
        refine mz_iadd F dX9_weightOf_61 ?_
        exact mz_iret F dX9_weightOf_62 ⟨_, rfl, h⟩
      · replace h := h.2 c_8
        refine Classical.byCases (p := x_12 = (3 : Int32)) (fun c_9 => ?_) (fun c_9 => ?_)
        · replace h := h.1 c_9
          have ec_9 := mte (z := 3) rfl c_9
          refine mz_tableIn (off := 47) (tgt := 63) F dX9_weightOf_16 (by omega) (by omega) (by rw [ec_9]; rfl) (by decide) ?_
          refine mz_iload_n F dX9_weightOf_63 rfl 0 rfl ?_
          refine mz_sipush (v := 1000) F dX9_weightOf_64 (by decide) ?_
          refine mz_iadd F dX9_weightOf_67 ?_
          exact mz_iret F dX9_weightOf_68 ⟨_, rfl, h⟩
        · replace h := h.2 c_9
          refine Classical.byCases (p := x_12 = (4 : Int32)) (fun c_10 => ?_) (fun c_10 => ?_)
          · replace h := h.1 c_10
            have ec_10 := mte (z := 4) rfl c_10
            refine mz_tableIn (off := 53) (tgt := 69) F dX9_weightOf_16 (by omega) (by omega) (by rw [ec_10]; rfl) (by decide) ?_
            refine mz_iload_n F dX9_weightOf_69 rfl 0 rfl ?_
            refine mz_sipush (v := 2000) F dX9_weightOf_70 (by decide) ?_
            refine mz_iadd F dX9_weightOf_73 ?_
            exact mz_iret F dX9_weightOf_74 ⟨_, rfl, h⟩
          · replace h := h.2 c_10
            refine Classical.byCases (p := x_12 = (5 : Int32)) (fun c_11 => ?_) (fun c_11 => ?_)
            · replace h := h.1 c_11
              have ec_11 := mte (z := 5) rfl c_11
              refine mz_tableIn (off := 59) (tgt := 75) F dX9_weightOf_16 (by omega) (by omega) (by rw [ec_11]; rfl) (by decide) ?_
              refine mz_iconst (v := 2) F dX9_weightOf_75 (by decide) ?_
              refine mz_iload_n F dX9_weightOf_76 rfl 0 rfl ?_
              refine mz_bipush (v := 100) F dX9_weightOf_77 (by decide) ?_
              refine mz_iadd F dX9_weightOf_79 ?_
              refine mz_imul F dX9_weightOf_80 ?_
              exact mz_iret F dX9_weightOf_81 ⟨_, rfl, h⟩
            · replace h := h.2 c_11
              have nc_6 := mtn (z := 0) rfl c_6
              have nc_7 := mtn (z := 1) rfl c_7
              have nc_8 := mtn (z := 2) rfl c_8
              have nc_9 := mtn (z := 3) rfl c_9
              have nc_10 := mtn (z := 4) rfl c_10
              have nc_11 := mtn (z := 5) rfl c_11
              refine mz_tableOut (tgt := 82) F dX9_weightOf_16 (by omega) (by decide) ?_
              refine mz_iload_n F dX9_weightOf_82 rfl 0 rfl ?_
              exact mz_iret F dX9_weightOf_83 ⟨_, rfl, h⟩
set_option maxRecDepth 100000 in
theorem kX9_weightOf (l : Launch) (G : mG) {u : mSt} {K : Int32 → mSt → Prop} {this : Nat} {a1 : Int32} (kthis : mK u this = 10) (h : bX9_weightOf this a1 u K) : mCt l G yX9_weightOf wsX9_weightOf 0 0 [.ref (G.1 + this), .int a1] u (mPi K) := by
  refine mCt.of (cc := cX9_weightOf) (maxL := 3) (ret := (some .int)) (by decide) rfl (Nat.le_of_ble_eq_true rfl) ?_
  intro X hl hN F
  exact tX9_weightOf F hN kthis h
/-! RoomMapperModel.keep(III)I -/
theorem wiX9_keep_9 : ∀ w ∈ u_ws RX9 TX9 52, w ∈ wsX9_keep := by decide +kernel
theorem fX9_keep_96 : mFld wsX9_keep RX9 96 10 47 28 (.array .int) true := ⟨9, _, RX9, TX9, 52, tyX9, rfl, rfl, rfl, by decide, wiX9_keep_9, tyX9_ok, nmX9, rfl, rfl, Or.inl ⟨by decide +kernel, fun _ => rfl⟩⟩
theorem fX9_keep_105 : mFld wsX9_keep RX9 105 10 50 29 (.array .long) true := ⟨9, _, RX9, TX9, 52, tyX9, rfl, rfl, rfl, by decide, wiX9_keep_9, tyX9_ok, nmX9, rfl, rfl, Or.inl ⟨by decide +kernel, fun _ => rfl⟩⟩
theorem fX9_keep_38 : mFld wsX9_keep RX9 38 10 22 24 (.array .int) true := ⟨9, _, RX9, TX9, 52, tyX9, rfl, rfl, rfl, by decide, wiX9_keep_9, tyX9_ok, nmX9, rfl, rfl, Or.inl ⟨by decide +kernel, fun _ => rfl⟩⟩
theorem fX9_keep_23 : mFld wsX9_keep RX9 23 10 13 22 (.array .int) true := ⟨9, _, RX9, TX9, 52, tyX9, rfl, rfl, rfl, by decide, wiX9_keep_9, tyX9_ok, nmX9, rfl, rfl, Or.inl ⟨by decide +kernel, fun _ => rfl⟩⟩
theorem fX9_keep_168 : mFld wsX9_keep RX9 168 10 12 0 .int false := ⟨9, _, RX9, TX9, 52, tyX9, rfl, rfl, rfl, by decide, wiX9_keep_9, tyX9_ok, nmX9, rfl, rfl, Or.inl ⟨by decide +kernel, fun _ => rfl⟩⟩
theorem fX9_keep_99 : mFld wsX9_keep RX9 99 10 48 28 (.array .int) true := ⟨9, _, RX9, TX9, 52, tyX9, rfl, rfl, rfl, by decide, wiX9_keep_9, tyX9_ok, nmX9, rfl, rfl, Or.inl ⟨by decide +kernel, fun _ => rfl⟩⟩
theorem fX9_keep_102 : mFld wsX9_keep RX9 102 10 49 28 (.array .int) true := ⟨9, _, RX9, TX9, 52, tyX9, rfl, rfl, rfl, by decide, wiX9_keep_9, tyX9_ok, nmX9, rfl, rfl, Or.inl ⟨by decide +kernel, fun _ => rfl⟩⟩
theorem fX9_keep_17 : mFld wsX9_keep RX9 17 10 4 14 (.array .int) true := ⟨9, _, RX9, TX9, 52, tyX9, rfl, rfl, rfl, by decide, wiX9_keep_9, tyX9_ok, nmX9, rfl, rfl, Or.inl ⟨by decide +kernel, fun _ => rfl⟩⟩
theorem fX9_keep_20 : mFld wsX9_keep RX9 20 10 5 14 (.array .int) true := ⟨9, _, RX9, TX9, 52, tyX9, rfl, rfl, rfl, by decide, wiX9_keep_9, tyX9_ok, nmX9, rfl, rfl, Or.inl ⟨by decide +kernel, fun _ => rfl⟩⟩
theorem fX9_keep_112 : mFld wsX9_keep RX9 112 10 0 0 .int false := ⟨9, _, RX9, TX9, 52, tyX9, rfl, rfl, rfl, by decide, wiX9_keep_9, tyX9_ok, nmX9, rfl, rfl, Or.inl ⟨by decide +kernel, fun _ => rfl⟩⟩
theorem fX9_keep_93 : mFld wsX9_keep RX9 93 10 46 28 (.array .int) true := ⟨9, _, RX9, TX9, 52, tyX9, rfl, rfl, rfl, by decide, wiX9_keep_9, tyX9_ok, nmX9, rfl, rfl, Or.inl ⟨by decide +kernel, fun _ => rfl⟩⟩
theorem fX9_keep_35 : mFld wsX9_keep RX9 35 10 21 15 (.array .int) true := ⟨9, _, RX9, TX9, 52, tyX9, rfl, rfl, rfl, by decide, wiX9_keep_9, tyX9_ok, nmX9, rfl, rfl, Or.inl ⟨by decide +kernel, fun _ => rfl⟩⟩
def bX9_keep_185 (v0 : Nat) (v1 : Int32) (v2 : Int32) (v3 : Int32) (v4 : Int32) (w0 : Nat) (w1 : Int32) (w2 : Int64) (u : mSt) (K : Int32 → mSt → Prop) (KL122 : Nat → Int32 → Int32 → Int32 → Int32 → mSt → Prop) : Prop := (vp_in w1 480 ∧ ∀ u_2, u_2 = mpL u w0 w1.toNatClampNeg w2 → (∀ x_3, x_3 = v4 + (1 : Int32) → KL122 v0 v1 v2 v3 x_3 u_2))
set_option maxRecDepth 100000 in
set_option maxHeartbeats 4000000 in
theorem tX9_keep_185 {X : mCx} {G : mG} {u0 : mSt} {K : Int32 → mSt → Prop} {KL122 : Nat → Int32 → Int32 → Int32 → Int32 → mSt → Prop} (F : mFx X G cX9_keep wsX9_keep RX9 "keep" 2 43 (some .int) u0 (mPi K)) (hN : X.2.2.2.2.2.2.2.2.2.2.2.2.1 = 5) (hL122 : ∀ {v0 : Nat} {v1 : Int32} {v2 : Int32} {v3 : Int32} {v4 : Int32} {u : mSt}, mK u v0 = 10 → KL122 v0 v1 v2 v3 v4 u → mZ X u 122 [(0, .ref (G.1 + v0)), (1, .int v1), (2, .int v2), (3, .int v3), (4, .int v4)] []) {v0 : Nat} {v1 : Int32} {v2 : Int32} {v3 : Int32} {v4 : Int32} {w0 : Nat} {w1 : Int32} {w2 : Int64} {u : mSt} (kv0 : mK u v0 = 10) (kw0 : mK u w0 = 29) (h : bX9_keep_185 v0 v1 v2 v3 v4 w0 w1 w2 u K KL122) : mZ X u 185 [(0, .ref (G.1 + v0)), (1, .int v1), (2, .int v2), (3, .int v3), (4, .int v4)] [.long w2, .int w1, .ref (G.1 + w0)] := by
  obtain ⟨b_1, h⟩ := h
  refine mz_last F dX9_keep_185 kw0 rfl b_1 (fun u_2 eu_2 hxu_2 => ?_)
  replace h := h u_2 eu_2
  replace kv0 := hxu_2.2.2 _ _ (by decide) kv0
  obtain ⟨x_3, ex_3⟩ : ∃ y : Int32, y = v4 + (1 : Int32) := ⟨_, rfl⟩
  replace h := h x_3 ex_3
  refine mz_iinc (v := x_3) (lv2 := [(4, .int x_3), (0, .ref (G.1 + v0)), (1, .int v1), (2, .int v2), (3, .int v3)]) F dX9_keep_186 4 rfl (by rw [ex_3]; rfl) hN (by decide) rfl ?_
  refine mz_goto (tgt := 122) F dX9_keep_189 (by decide) ?_
  refine mz_sub [1, 2, 3, 4, 0] rfl ?_
  exact hL122 kv0 h
def bX9_keep_122 : Nat → Nat → Int32 → Int32 → Int32 → Int32 → mSt → (Int32 → mSt → Prop) → Prop
  | 0, _, _, _, _, _, _, _ => False
  | n + 1, v0, v1, v2, v3, v4, u, K => (∃ q_1, mR u v0 47 = some q_1 ∧ (vp_in v1 8 ∧ (((mI u q_1 v1.toNatClampNeg) ≤ v4 → K (0 : Int32) u) ∧ (¬ ((mI u q_1 v1.toNatClampNeg) ≤ v4) → (∃ q_3, mR u v0 50 = some q_3 ∧ ((v2 = (3 : Int32) → (∃ q_6, mR u v0 13 = some q_6 ∧ (∃ q_7, mR u v0 47 = some q_7 ∧ (vp_in v1 8 ∧ (vp_in (((mI u v0 12) - (mI u q_7 v1.toNatClampNeg)) + v4) 200 ∧ bX9_keep_185 v0 v1 v2 v3 v4 q_3 (((60 : Int32) * v1) + v4) ((mI u q_6 (((mI u v0 12) - (mI u q_7 v1.toNatClampNeg)) + v4).toNatClampNeg).toInt64) u K (fun z0 z1 z2 z3 z4 z5 => bX9_keep_122 n z0 z1 z2 z3 z4 z5 K)))))) ∧ (¬ (v2 = (3 : Int32)) → (∃ q_4, mR u v0 22 = some q_4 ∧ (vp_in (((6 : Int32) * v3) + v4) 900 ∧ bX9_keep_185 v0 v1 v2 v3 v4 q_3 (((60 : Int32) * v1) + v4) ((mI u q_4 (((6 : Int32) * v3) + v4).toNatClampNeg).toInt64) u K (fun z0 z1 z2 z3 z4 z5 => bX9_keep_122 n z0 z1 z2 z3 z4 z5 K))))))))))
set_option maxRecDepth 100000 in
set_option maxHeartbeats 4000000 in
theorem tX9_keep_122 {X : mCx} {G : mG} {u0 : mSt} {K : Int32 → mSt → Prop} (F : mFx X G cX9_keep wsX9_keep RX9 "keep" 2 43 (some .int) u0 (mPi K)) (hN : X.2.2.2.2.2.2.2.2.2.2.2.2.1 = 5) : ∀ (n : Nat) {v0 : Nat} {v1 : Int32} {v2 : Int32} {v3 : Int32} {v4 : Int32} {u : mSt}, mK u v0 = 10 → bX9_keep_122 n v0 v1 v2 v3 v4 u K → mZ X u 122 [(0, .ref (G.1 + v0)), (1, .int v1), (2, .int v2), (3, .int v3), (4, .int v4)] [] := by
  intro n
  induction n with
  | zero => intro v0 v1 v2 v3 v4 u kv0 h; exact False.elim h
  | succ n ih =>
    intro v0 v1 v2 v3 v4 u kv0 h
    refine mz_iload F dX9_keep_122 4 rfl ?_
    refine mz_aload_n F dX9_keep_124 rfl 0 rfl ?_
    obtain ⟨q_1, eq_1, h⟩ := h
    refine mz_getR F dX9_keep_125 fX9_keep_96 (by decide) kv0 eq_1 (fun kq_1 => ?_)
    refine mz_iload_n F dX9_keep_128 rfl 1 rfl ?_
    obtain ⟨b_2, h⟩ := h
    refine mz_iald F dX9_keep_129 kq_1 rfl b_2 ?_
    refine mz_icmp_ge (tgt := 192) F dX9_keep_130 (by decide) (fun c_11 => ?_) (fun c_11 => ?_)
    · replace h := h.1 c_11
      refine mz_iconst (v := 0) F dX9_keep_192 (by decide) ?_
      exact mz_iret F dX9_keep_193 ⟨_, rfl, h⟩
    · replace h := h.2 c_11
      refine mz_aload_n F dX9_keep_133 rfl 0 rfl ?_
      obtain ⟨q_3, eq_3, h⟩ := h
      refine mz_getR F dX9_keep_134 fX9_keep_105 (by decide) kv0 eq_3 (fun kq_3 => ?_)
      refine mz_bipush (v := 60) F dX9_keep_137 (by decide) ?_
      refine mz_iload_n F dX9_keep_139 rfl 1 rfl ?_
      refine mz_imul F dX9_keep_140 ?_
      refine mz_iload F dX9_keep_141 4 rfl ?_
      refine mz_iadd F dX9_keep_143 ?_
      refine mz_iload_n F dX9_keep_144 rfl 2 rfl ?_
      refine mz_iconst (v := 3) F dX9_keep_145 (by decide) ?_
      refine mz_icmp_ne (tgt := 172) F dX9_keep_146 (by decide) (fun c_10 => ?_) (fun c_10 => ?_)
      · replace h := h.2 c_10
        refine mz_aload_n F dX9_keep_172 rfl 0 rfl ?_
        obtain ⟨q_4, eq_4, h⟩ := h
        refine mz_getR F dX9_keep_173 fX9_keep_38 (by decide) kv0 eq_4 (fun kq_4 => ?_)
        refine mz_bipush (v := 6) F dX9_keep_176 (by decide) ?_
        refine mz_iload_n F dX9_keep_178 rfl 3 rfl ?_
        refine mz_imul F dX9_keep_179 ?_
        refine mz_iload F dX9_keep_180 4 rfl ?_
        refine mz_iadd F dX9_keep_182 ?_
        obtain ⟨b_5, h⟩ := h
        refine mz_iald F dX9_keep_183 kq_4 rfl b_5 ?_
        refine mz_i2l F dX9_keep_184 ?_
        refine mz_sub [0, 1, 2, 3, 4] rfl ?_
        exact tX9_keep_185 F hN (fun k0 h => ih k0 h) kv0 kq_3 h
      · replace h := h.1 c_10
        refine mz_aload_n F dX9_keep_149 rfl 0 rfl ?_
        obtain ⟨q_6, eq_6, h⟩ := h
        refine mz_getR F dX9_keep_150 fX9_keep_23 (by decide) kv0 eq_6 (fun kq_6 => ?_)
        refine mz_aload_n F dX9_keep_153 rfl 0 rfl ?_
        refine mz_getI F dX9_keep_154 fX9_keep_168 kv0 ?_
        refine mz_aload_n F dX9_keep_157 rfl 0 rfl ?_
        obtain ⟨q_7, eq_7, h⟩ := h
        refine mz_getR F dX9_keep_158 fX9_keep_96 (by decide) kv0 eq_7 (fun kq_7 => ?_)
        refine mz_iload_n F dX9_keep_161 rfl 1 rfl ?_
        obtain ⟨b_8, h⟩ := h
        refine mz_iald F dX9_keep_162 kq_7 rfl b_8 ?_
        refine mz_isub F dX9_keep_163 ?_
        refine mz_iload F dX9_keep_164 4 rfl ?_
        refine mz_iadd F dX9_keep_166 ?_
        obtain ⟨b_9, h⟩ := h
        refine mz_iald F dX9_keep_167 kq_6 rfl b_9 ?_
        refine mz_i2l F dX9_keep_168 ?_
        refine mz_goto (tgt := 185) F dX9_keep_169 (by decide) ?_
        refine mz_sub [0, 1, 2, 3, 4] rfl ?_
        exact tX9_keep_185 F hN (fun k0 h => ih k0 h) kv0 kq_3 h
def bX9_keep_119 (v0 : Nat) (v1 : Int32) (v2 : Int32) (v3 : Int32) (u : mSt) (K : Int32 → mSt → Prop) : Prop := (∃ n9, bX9_keep_122 n9 v0 v1 v2 v3 (0 : Int32) u K)
set_option maxRecDepth 100000 in
set_option maxHeartbeats 4000000 in
theorem tX9_keep_119 {X : mCx} {G : mG} {u0 : mSt} {K : Int32 → mSt → Prop} (F : mFx X G cX9_keep wsX9_keep RX9 "keep" 2 43 (some .int) u0 (mPi K)) (hN : X.2.2.2.2.2.2.2.2.2.2.2.2.1 = 5) {v0 : Nat} {v1 : Int32} {v2 : Int32} {v3 : Int32} {u : mSt} (kv0 : mK u v0 = 10) (h : bX9_keep_119 v0 v1 v2 v3 u K) : mZ X u 119 [(0, .ref (G.1 + v0)), (1, .int v1), (2, .int v2), (3, .int v3)] [] := by
  refine mz_iconst (v := 0) F dX9_keep_119 (by decide) ?_
  refine mz_istore (lv2 := [(4, .int (0 : Int32)), (0, .ref (G.1 + v0)), (1, .int v1), (2, .int v2), (3, .int v3)]) F dX9_keep_120 hN (by decide) rfl ?_
  refine mz_sub [1, 2, 3, 4, 0] rfl ?_
  obtain ⟨n9, h⟩ := h
  exact tX9_keep_122 F hN n9 kv0 h
def bX9_keep_118 (v0 : Nat) (v1 : Int32) (v2 : Int32) (v3 : Int32) (w0 : Nat) (w1 : Int32) (w2 : Int32) (u : mSt) (K : Int32 → mSt → Prop) : Prop := (vp_in w1 8 ∧ ∀ u_2, u_2 = mpI u w0 w1.toNatClampNeg w2 → bX9_keep_119 v0 v1 v2 v3 u_2 K)
set_option maxRecDepth 100000 in
set_option maxHeartbeats 4000000 in
theorem tX9_keep_118 {X : mCx} {G : mG} {u0 : mSt} {K : Int32 → mSt → Prop} (F : mFx X G cX9_keep wsX9_keep RX9 "keep" 2 43 (some .int) u0 (mPi K)) (hN : X.2.2.2.2.2.2.2.2.2.2.2.2.1 = 5) {v0 : Nat} {v1 : Int32} {v2 : Int32} {v3 : Int32} {w0 : Nat} {w1 : Int32} {w2 : Int32} {u : mSt} (kv0 : mK u v0 = 10) (kw0 : mK u w0 = 28) (h : bX9_keep_118 v0 v1 v2 v3 w0 w1 w2 u K) : mZ X u 118 [(0, .ref (G.1 + v0)), (1, .int v1), (2, .int v2), (3, .int v3)] [.int w2, .int w1, .ref (G.1 + w0)] := by
  obtain ⟨b_1, h⟩ := h
  refine mz_iast F dX9_keep_118 kw0 rfl b_1 (fun u_2 eu_2 hxu_2 => ?_)
  replace h := h u_2 eu_2
  replace kv0 := hxu_2.2.2 _ _ (by decide) kv0
  refine mz_sub [0, 1, 2, 3] rfl ?_
  exact tX9_keep_119 F hN kv0 h
def bX9_keep_76 (v0 : Nat) (v1 : Int32) (v2 : Int32) (v3 : Int32) (w0 : Nat) (w1 : Int32) (w2 : Int32) (u : mSt) (K : Int32 → mSt → Prop) : Prop := (vp_in w1 8 ∧ ∀ u_2, u_2 = mpI u w0 w1.toNatClampNeg w2 → ((v2 = (1 : Int32) → (∃ q_3, mR u_2 v0 48 = some q_3 ∧ bX9_weightOf v0 v3 u_2 (fun r_6 u_5 => (vp_in v1 8 ∧ ∀ u_8, u_8 = mpI u_5 q_3 v1.toNatClampNeg r_6 → (∃ q_9, mR u_8 v0 49 = some q_9 ∧ (∃ q_10, mR u_8 v0 4 = some q_10 ∧ (vp_in v3 40 ∧ (((mI u_8 q_10 v3.toNatClampNeg) = 0 → bX9_keep_118 v0 v1 v2 v3 q_9 v1 (-15 : Int32) u_8 K) ∧ (¬ ((mI u_8 q_10 v3.toNatClampNeg) = 0) → (∃ q_12, mR u_8 v0 5 = some q_12 ∧ (vp_in v3 40 ∧ bX9_keep_118 v0 v1 v2 v3 q_9 v1 (mI u_8 q_12 v3.toNatClampNeg) u_8 K))))))))))) ∧ (¬ (v2 = (1 : Int32)) → bX9_keep_119 v0 v1 v2 v3 u_2 K)))
set_option maxRecDepth 100000 in
set_option maxHeartbeats 4000000 in
theorem tX9_keep_76 {X : mCx} {G : mG} {u0 : mSt} {K : Int32 → mSt → Prop} (F : mFx X G cX9_keep wsX9_keep RX9 "keep" 2 43 (some .int) u0 (mPi K)) (hN : X.2.2.2.2.2.2.2.2.2.2.2.2.1 = 5) {v0 : Nat} {v1 : Int32} {v2 : Int32} {v3 : Int32} {w0 : Nat} {w1 : Int32} {w2 : Int32} {u : mSt} (kv0 : mK u v0 = 10) (kw0 : mK u w0 = 28) (h : bX9_keep_76 v0 v1 v2 v3 w0 w1 w2 u K) : mZ X u 76 [(0, .ref (G.1 + v0)), (1, .int v1), (2, .int v2), (3, .int v3)] [.int w2, .int w1, .ref (G.1 + w0)] := by
  obtain ⟨b_1, h⟩ := h
  refine mz_iast F dX9_keep_76 kw0 rfl b_1 (fun u_2 eu_2 hxu_2 => ?_)
  replace h := h u_2 eu_2
  replace kv0 := hxu_2.2.2 _ _ (by decide) kv0
  refine mz_iload_n F dX9_keep_77 rfl 2 rfl ?_
  refine mz_iconst (v := 1) F dX9_keep_78 (by decide) ?_
  refine mz_icmp_ne (tgt := 119) F dX9_keep_79 (by decide) (fun c_15 => ?_) (fun c_15 => ?_)
  · replace h := h.2 c_15
    refine mz_sub [0, 1, 2, 3] rfl ?_
    exact tX9_keep_119 F hN kv0 h
  · replace h := h.1 c_15
    refine mz_aload_n F dX9_keep_82 rfl 0 rfl ?_
    obtain ⟨q_3, eq_3, h⟩ := h
    refine mz_getR F dX9_keep_83 fX9_keep_99 (by decide) kv0 eq_3 (fun kq_3 => ?_)
    refine mz_iload_n F dX9_keep_86 rfl 1 rfl ?_
    refine mz_aload_n F dX9_keep_87 rfl 0 rfl ?_
    refine mz_iload_n F dX9_keep_88 rfl 3 rfl ?_
    refine mz_callV (As := [_]) (n := 1) F dX9_keep_89 rfl kv0 rfl rfl gX9_keep_X9_weightOf (by decide +kernel) (by decide) rfl (Nat.le_of_ble_eq_true rfl) (kX9_weightOf _ G kv0 h) (mz_kI fun r_6 u_5 h hx_4 => ?_)
    replace kv0 := hx_4.2.2 _ _ (by decide) kv0
    replace kq_3 := hx_4.2.2 _ _ (by decide) kq_3
    obtain ⟨b_7, h⟩ := h
    refine mz_iast F dX9_keep_92 kq_3 rfl b_7 (fun u_8 eu_8 hxu_8 => ?_)
    replace h := h u_8 eu_8
    replace kv0 := hxu_8.2.2 _ _ (by decide) kv0
    refine mz_aload_n F dX9_keep_93 rfl 0 rfl ?_
    obtain ⟨q_9, eq_9, h⟩ := h
    refine mz_getR F dX9_keep_94 fX9_keep_102 (by decide) kv0 eq_9 (fun kq_9 => ?_)
    refine mz_iload_n F dX9_keep_97 rfl 1 rfl ?_
    refine mz_aload_n F dX9_keep_98 rfl 0 rfl ?_
    obtain ⟨q_10, eq_10, h⟩ := h
    refine mz_getR F dX9_keep_99 fX9_keep_17 (by decide) kv0 eq_10 (fun kq_10 => ?_)
    refine mz_iload_n F dX9_keep_102 rfl 3 rfl ?_
    obtain ⟨b_11, h⟩ := h
    refine mz_iald F dX9_keep_103 kq_10 rfl b_11 ?_
    refine mz_if_ne (tgt := 112) F dX9_keep_104 (by decide) (fun c_14 => ?_) (fun c_14 => ?_)
    · replace h := h.2 c_14
      refine mz_aload_n F dX9_keep_112 rfl 0 rfl ?_
      obtain ⟨q_12, eq_12, h⟩ := h
      refine mz_getR F dX9_keep_113 fX9_keep_20 (by decide) kv0 eq_12 (fun kq_12 => ?_)
      refine mz_iload_n F dX9_keep_116 rfl 3 rfl ?_
      obtain ⟨b_13, h⟩ := h
      refine mz_iald F dX9_keep_117 kq_12 rfl b_13 ?_
      refine mz_sub [0, 1, 2, 3] rfl ?_
      exact tX9_keep_118 F hN kv0 kq_9 h
    · replace h := h.1 c_14
      refine mz_bipush (v := (-15)) F dX9_keep_107 (by decide) ?_
      refine mz_goto (tgt := 118) F dX9_keep_109 (by decide) ?_
      refine mz_sub [0, 1, 2, 3] rfl ?_
      exact tX9_keep_118 F hN kv0 kq_9 h
def bX9_keep (this : Nat) (a1 : Int32) (a2 : Int32) (a3 : Int32) (u : mSt) (K : Int32 → mSt → Prop) : Prop := (∀ u_1, u_1 = mpI u this 0 (0 : Int32) → bX9_isShelf a1 u_1 (fun r_4 u_3 => ((r_4 = 0 → K (-1 : Int32) u_3) ∧ (¬ (r_4 = 0) → bX9_canKeep this a2 a3 u_3 (fun r_7 u_6 => ((r_7 = 0 → K (-1 : Int32) u_6) ∧ (¬ (r_7 = 0) → (∃ q_8, mR u_6 this 46 = some q_8 ∧ (vp_in a1 8 ∧ ∀ u_10, u_10 = mpI u_6 q_8 a1.toNatClampNeg a2 → (∃ q_11, mR u_10 this 47 = some q_11 ∧ ((a2 = (3 : Int32) → (((60 : Int32) ≤ (mI u_10 this 12) → bX9_keep_76 this a1 a2 a3 q_11 a1 (60 : Int32) u_10 K) ∧ (¬ ((60 : Int32) ≤ (mI u_10 this 12)) → bX9_keep_76 this a1 a2 a3 q_11 a1 (mI u_10 this 12) u_10 K))) ∧ (¬ (a2 = (3 : Int32)) → ((a2 = (4 : Int32) → (∃ q_12, mR u_10 this 21 = some q_12 ∧ (vp_in a3 150 ∧ bX9_keep_76 this a1 a2 a3 q_11 a1 (mI u_10 q_12 a3.toNatClampNeg) u_10 K))) ∧ (¬ (a2 = (4 : Int32)) → bX9_keep_76 this a1 a2 a3 q_11 a1 (0 : Int32) u_10 K))))))))))))))
set_option maxRecDepth 100000 in
set_option maxHeartbeats 4000000 in
theorem tX9_keep {X : mCx} {G : mG} {u0 : mSt} {K : Int32 → mSt → Prop} (F : mFx X G cX9_keep wsX9_keep RX9 "keep" 2 43 (some .int) u0 (mPi K)) (hN : X.2.2.2.2.2.2.2.2.2.2.2.2.1 = 5) {this : Nat} {a1 : Int32} {a2 : Int32} {a3 : Int32} {u : mSt} (kthis : mK u this = 10) (h : bX9_keep this a1 a2 a3 u K) : mZ X u 0 [(0, .ref (G.1 + this)), (1, .int a1), (2, .int a2), (3, .int a3)] [] := by
  refine mz_aload_n F dX9_keep_0 rfl 0 rfl ?_
  refine mz_iconst (v := 0) F dX9_keep_1 (by decide) ?_
  refine mz_putI F dX9_keep_2 fX9_keep_112 kthis rfl rfl (fun u_1 eu_1 hxu_1 => ?_)
  replace h := h u_1 eu_1
  replace kthis := hxu_1.2.2 _ _ (by decide) kthis
  refine mz_iload_n F dX9_keep_5 rfl 1 rfl ?_
  refine mz_callS (As := [_]) (n := 1) F dX9_keep_6 rfl gX9_keep_X9_isShelf (by decide +kernel) (by decide) rfl (Nat.le_of_ble_eq_true rfl) (kX9_isShelf _ G h) (mz_kZ fun r_4 u_3 br_4 h hx_2 => ?_)
  replace kthis := hx_2.2.2 _ _ (by decide) kthis
  refine mz_if_eq (tgt := 21) F dX9_keep_9 (by decide) (fun c_18 => ?_) (fun c_18 => ?_)
  · replace h := h.1 c_18
    refine mz_iconst (v := (-1)) F dX9_keep_21 (by decide) ?_
    exact mz_iret F dX9_keep_22 ⟨_, rfl, h⟩
  · replace h := h.2 c_18
    refine mz_aload_n F dX9_keep_12 rfl 0 rfl ?_
    refine mz_iload_n F dX9_keep_13 rfl 2 rfl ?_
    refine mz_iload_n F dX9_keep_14 rfl 3 rfl ?_
    refine mz_callV (As := [_, _]) (n := 2) F dX9_keep_15 rfl kthis rfl rfl gX9_keep_X9_canKeep (by decide +kernel) (by decide) rfl (Nat.le_of_ble_eq_true rfl) (kX9_canKeep _ G kthis h) (mz_kZ fun r_7 u_6 br_7 h hx_5 => ?_)
    replace kthis := hx_5.2.2 _ _ (by decide) kthis
    refine mz_if_ne (tgt := 23) F dX9_keep_18 (by decide) (fun c_17 => ?_) (fun c_17 => ?_)
    · replace h := h.2 c_17
      refine mz_aload_n F dX9_keep_23 rfl 0 rfl ?_
      obtain ⟨q_8, eq_8, h⟩ := h
      refine mz_getR F dX9_keep_24 fX9_keep_93 (by decide) kthis eq_8 (fun kq_8 => ?_)
      refine mz_iload_n F dX9_keep_27 rfl 1 rfl ?_
      refine mz_iload_n F dX9_keep_28 rfl 2 rfl ?_
      obtain ⟨b_9, h⟩ := h
      refine mz_iast F dX9_keep_29 kq_8 rfl b_9 (fun u_10 eu_10 hxu_10 => ?_)
      replace h := h u_10 eu_10
      replace kthis := hxu_10.2.2 _ _ (by decide) kthis
      refine mz_aload_n F dX9_keep_30 rfl 0 rfl ?_
      obtain ⟨q_11, eq_11, h⟩ := h
      refine mz_getR F dX9_keep_31 fX9_keep_96 (by decide) kthis eq_11 (fun kq_11 => ?_)
      refine mz_iload_n F dX9_keep_34 rfl 1 rfl ?_
      refine mz_iload_n F dX9_keep_35 rfl 2 rfl ?_
      refine mz_iconst (v := 3) F dX9_keep_36 (by decide) ?_
      refine mz_icmp_ne (tgt := 61) F dX9_keep_37 (by decide) (fun c_16 => ?_) (fun c_16 => ?_)
      · replace h := h.2 c_16
        refine mz_iload_n F dX9_keep_61 rfl 2 rfl ?_
        refine mz_iconst (v := 4) F dX9_keep_62 (by decide) ?_
        refine mz_icmp_ne (tgt := 75) F dX9_keep_63 (by decide) (fun c_14 => ?_) (fun c_14 => ?_)
        · replace h := h.2 c_14
          refine mz_iconst (v := 0) F dX9_keep_75 (by decide) ?_
          refine mz_sub [0, 1, 2, 3] rfl ?_
          exact tX9_keep_76 F hN kthis kq_11 h
        · replace h := h.1 c_14
          refine mz_aload_n F dX9_keep_66 rfl 0 rfl ?_
          obtain ⟨q_12, eq_12, h⟩ := h
          refine mz_getR F dX9_keep_67 fX9_keep_35 (by decide) kthis eq_12 (fun kq_12 => ?_)
          refine mz_iload_n F dX9_keep_70 rfl 3 rfl ?_
          obtain ⟨b_13, h⟩ := h
          refine mz_iald F dX9_keep_71 kq_12 rfl b_13 ?_
          refine mz_goto (tgt := 76) F dX9_keep_72 (by decide) ?_
          refine mz_sub [0, 1, 2, 3] rfl ?_
          exact tX9_keep_76 F hN kthis kq_11 h
      · replace h := h.1 c_16
        refine mz_aload_n F dX9_keep_40 rfl 0 rfl ?_
        refine mz_getI F dX9_keep_41 fX9_keep_168 kthis ?_
        refine mz_bipush (v := 60) F dX9_keep_44 (by decide) ?_
        refine mz_icmp_ge (tgt := 56) F dX9_keep_46 (by decide) (fun c_15 => ?_) (fun c_15 => ?_)
        · replace h := h.1 c_15
          refine mz_bipush (v := 60) F dX9_keep_56 (by decide) ?_
          refine mz_goto (tgt := 76) F dX9_keep_58 (by decide) ?_
          refine mz_sub [0, 1, 2, 3] rfl ?_
          exact tX9_keep_76 F hN kthis kq_11 h
        · replace h := h.2 c_15
          refine mz_aload_n F dX9_keep_49 rfl 0 rfl ?_
          refine mz_getI F dX9_keep_50 fX9_keep_168 kthis ?_
          refine mz_goto (tgt := 76) F dX9_keep_53 (by decide) ?_
          refine mz_sub [0, 1, 2, 3] rfl ?_
          exact tX9_keep_76 F hN kthis kq_11 h
    · replace h := h.1 c_17
      refine mz_iconst (v := (-1)) F dX9_keep_21 (by decide) ?_
      exact mz_iret F dX9_keep_22 ⟨_, rfl, h⟩
set_option maxRecDepth 100000 in
theorem kX9_keep (l : Launch) (G : mG) {u : mSt} {K : Int32 → mSt → Prop} {this : Nat} {a1 : Int32} {a2 : Int32} {a3 : Int32} (kthis : mK u this = 10) (h : bX9_keep this a1 a2 a3 u K) : mCt l G yX9_keep wsX9_keep 2 43 [.ref (G.1 + this), .int a1, .int a2, .int a3] u (mPi K) := by
  refine mCt.of (cc := cX9_keep) (maxL := 5) (ret := (some .int)) (by decide) rfl (Nat.le_of_ble_eq_true rfl) ?_
  intro X hl hN F
  exact tX9_keep F hN kthis h
/-! RoomMapperModel.make(III)I -/
theorem wiX9_make_9 : ∀ w ∈ u_ws RX9 TX9 52, w ∈ wsX9_make := by decide +kernel
theorem fX9_make_105 : mFld wsX9_make RX9 105 10 50 29 (.array .long) true := ⟨9, _, RX9, TX9, 52, tyX9, rfl, rfl, rfl, by decide, wiX9_make_9, tyX9_ok, nmX9, rfl, rfl, Or.inl ⟨by decide +kernel, fun _ => rfl⟩⟩
theorem fX9_make_112 : mFld wsX9_make RX9 112 10 0 0 .int false := ⟨9, _, RX9, TX9, 52, tyX9, rfl, rfl, rfl, by decide, wiX9_make_9, tyX9_ok, nmX9, rfl, rfl, Or.inl ⟨by decide +kernel, fun _ => rfl⟩⟩
theorem mX9_make_ldcl119 : Cond.constantLong RX9 119 (3) ∈ wsX9_make := by decide +kernel
theorem mX9_make_ldcl226 : Cond.constantLong RX9 226 (4) ∈ wsX9_make := by decide +kernel
theorem fX9_make_93 : mFld wsX9_make RX9 93 10 46 28 (.array .int) true := ⟨9, _, RX9, TX9, 52, tyX9, rfl, rfl, rfl, by decide, wiX9_make_9, tyX9_ok, nmX9, rfl, rfl, Or.inl ⟨by decide +kernel, fun _ => rfl⟩⟩
theorem fX9_make_96 : mFld wsX9_make RX9 96 10 47 28 (.array .int) true := ⟨9, _, RX9, TX9, 52, tyX9, rfl, rfl, rfl, by decide, wiX9_make_9, tyX9_ok, nmX9, rfl, rfl, Or.inl ⟨by decide +kernel, fun _ => rfl⟩⟩
def bX9_make_58 : Nat → Nat → Int32 → Int32 → Int32 → mSt → (Int32 → mSt → Prop) → Prop
  | 0, _, _, _, _, _, _ => False
  | n + 1, v0, v1, v3, v4, u, K => ((v3 ≤ v4 → K (0 : Int32) u) ∧ (¬ (v3 ≤ v4) → (∃ q_1, mR u v0 50 = some q_1 ∧ (vp_in (((60 : Int32) * v1) + v4) 480 ∧ ∀ u_3, u_3 = mpL u q_1 (((60 : Int32) * v1) + v4).toNatClampNeg (0 : Int64) → (∀ x_4, x_4 = v4 + (1 : Int32) → bX9_make_58 n v0 v1 v3 x_4 u_3 K)))))
set_option maxRecDepth 100000 in
set_option maxHeartbeats 4000000 in
theorem tX9_make_58 {X : mCx} {G : mG} {u0 : mSt} {K : Int32 → mSt → Prop} (F : mFx X G cX9_make wsX9_make RX9 "make" 1 25 (some .int) u0 (mPi K)) (hN : X.2.2.2.2.2.2.2.2.2.2.2.2.1 = 5) : ∀ (n : Nat) {v0 : Nat} {v1 : Int32} {v3 : Int32} {v4 : Int32} {u : mSt}, mK u v0 = 10 → bX9_make_58 n v0 v1 v3 v4 u K → mZ X u 58 [(0, .ref (G.1 + v0)), (1, .int v1), (3, .int v3), (4, .int v4)] [] := by
  intro n
  induction n with
  | zero => intro v0 v1 v3 v4 u kv0 h; exact False.elim h
  | succ n ih =>
    intro v0 v1 v3 v4 u kv0 h
    refine mz_iload F dX9_make_58 3 rfl ?_
    refine mz_iload_n F dX9_make_60 rfl 2 rfl ?_
    refine mz_icmp_ge (tgt := 83) F dX9_make_61 (by decide) (fun c_5 => ?_) (fun c_5 => ?_)
    · replace h := h.1 c_5
      refine mz_iconst (v := 0) F dX9_make_83 (by decide) ?_
      exact mz_iret F dX9_make_84 ⟨_, rfl, h⟩
    · replace h := h.2 c_5
      refine mz_aload_n F dX9_make_64 rfl 0 rfl ?_
      obtain ⟨q_1, eq_1, h⟩ := h
      refine mz_getR F dX9_make_65 fX9_make_105 (by decide) kv0 eq_1 (fun kq_1 => ?_)
      refine mz_bipush (v := 60) F dX9_make_68 (by decide) ?_
      refine mz_iload_n F dX9_make_70 rfl 1 rfl ?_
      refine mz_imul F dX9_make_71 ?_
      refine mz_iload F dX9_make_72 3 rfl ?_
      refine mz_iadd F dX9_make_74 ?_
      refine mz_lconst (v := 0) F dX9_make_75 (by decide) ?_
      obtain ⟨b_2, h⟩ := h
      refine mz_last F dX9_make_76 kq_1 rfl b_2 (fun u_3 eu_3 hxu_3 => ?_)
      replace h := h u_3 eu_3
      replace kv0 := hxu_3.2.2 _ _ (by decide) kv0
      obtain ⟨x_4, ex_4⟩ : ∃ y : Int32, y = v4 + (1 : Int32) := ⟨_, rfl⟩
      replace h := h x_4 ex_4
      refine mz_iinc (v := x_4) (lv2 := [(4, .int x_4), (0, .ref (G.1 + v0)), (1, .int v1), (3, .int v3)]) F dX9_make_77 3 rfl (by rw [ex_4]; rfl) hN (by decide) rfl ?_
      refine mz_goto (tgt := 58) F dX9_make_80 (by decide) ?_
      refine mz_sub [1, 2, 3, 0] rfl ?_
      exact ih kv0 h
def bX9_make (this : Nat) (a1 : Int32) (a2 : Int32) (a3 : Int32) (u : mSt) (K : Int32 → mSt → Prop) : Prop := (∀ u_1, u_1 = mpI u this 0 (0 : Int32) → bX9_isShelf a1 u_1 (fun r_4 u_3 => ((r_4 = 0 → K (-1 : Int32) u_3) ∧ (¬ (r_4 = 0) → bX9_isIn a2.toInt64 (3 : Int64) (4 : Int64) u_3 (fun r_7 u_6 => ((r_7 = 0 → K (-1 : Int32) u_6) ∧ (¬ (r_7 = 0) → ((a3 ≤ (60 : Int32) → ((0 ≤ a3 → (∃ q_8, mR u_6 this 46 = some q_8 ∧ (vp_in a1 8 ∧ ∀ u_10, u_10 = mpI u_6 q_8 a1.toNatClampNeg a2 → (∃ q_11, mR u_10 this 47 = some q_11 ∧ (vp_in a1 8 ∧ ∀ u_13, u_13 = mpI u_10 q_11 a1.toNatClampNeg a3 → (∃ n9, bX9_make_58 n9 this a1 a3 (0 : Int32) u_13 K)))))) ∧ (¬ (0 ≤ a3) → K (-14 : Int32) u_6))) ∧ (¬ (a3 ≤ (60 : Int32)) → K (-1 : Int32) u_6)))))))))
set_option maxRecDepth 100000 in
set_option maxHeartbeats 4000000 in
theorem tX9_make {X : mCx} {G : mG} {u0 : mSt} {K : Int32 → mSt → Prop} (F : mFx X G cX9_make wsX9_make RX9 "make" 1 25 (some .int) u0 (mPi K)) (hN : X.2.2.2.2.2.2.2.2.2.2.2.2.1 = 5) {this : Nat} {a1 : Int32} {a2 : Int32} {a3 : Int32} {u : mSt} (kthis : mK u this = 10) (h : bX9_make this a1 a2 a3 u K) : mZ X u 0 [(0, .ref (G.1 + this)), (1, .int a1), (2, .int a2), (3, .int a3)] [] := by
  refine mz_aload_n F dX9_make_0 rfl 0 rfl ?_
  refine mz_iconst (v := 0) F dX9_make_1 (by decide) ?_
  refine mz_putI F dX9_make_2 fX9_make_112 kthis rfl rfl (fun u_1 eu_1 hxu_1 => ?_)
  replace h := h u_1 eu_1
  replace kthis := hxu_1.2.2 _ _ (by decide) kthis
  refine mz_iload_n F dX9_make_5 rfl 1 rfl ?_
  refine mz_callS (As := [_]) (n := 1) F dX9_make_6 rfl gX9_make_X9_isShelf (by decide +kernel) (by decide) rfl (Nat.le_of_ble_eq_true rfl) (kX9_isShelf _ G h) (mz_kZ fun r_4 u_3 br_4 h hx_2 => ?_)
  replace kthis := hx_2.2.2 _ _ (by decide) kthis
  refine mz_if_eq (tgt := 32) F dX9_make_9 (by decide) (fun c_17 => ?_) (fun c_17 => ?_)
  · replace h := h.1 c_17
    refine mz_iconst (v := (-1)) F dX9_make_32 (by decide) ?_
    exact mz_iret F dX9_make_33 ⟨_, rfl, h⟩
  · replace h := h.2 c_17
    refine mz_iload_n F dX9_make_12 rfl 2 rfl ?_
    refine mz_i2l F dX9_make_13 ?_
    refine mz_ldc2 (v := 3) F dX9_make_14 mX9_make_ldcl119 ?_
    refine mz_ldc2 (v := 4) F dX9_make_17 mX9_make_ldcl226 ?_
    refine mz_callS (As := [_, _, _]) (n := 3) F dX9_make_20 rfl gX9_make_X9_isIn (by decide +kernel) (by decide) rfl (Nat.le_of_ble_eq_true rfl) (kX9_isIn _ G h) (mz_kZ fun r_7 u_6 br_7 h hx_5 => ?_)
    replace kthis := hx_5.2.2 _ _ (by decide) kthis
    refine mz_if_eq (tgt := 32) F dX9_make_23 (by decide) (fun c_16 => ?_) (fun c_16 => ?_)
    · replace h := h.1 c_16
      refine mz_iconst (v := (-1)) F dX9_make_32 (by decide) ?_
      exact mz_iret F dX9_make_33 ⟨_, rfl, h⟩
    · replace h := h.2 c_16
      refine mz_iload_n F dX9_make_26 rfl 3 rfl ?_
      refine mz_bipush (v := 60) F dX9_make_27 (by decide) ?_
      refine mz_icmp_le (tgt := 34) F dX9_make_29 (by decide) (fun c_15 => ?_) (fun c_15 => ?_)
      · replace h := h.1 c_15
        refine mz_iload_n F dX9_make_34 rfl 3 rfl ?_
        refine mz_if_ge (tgt := 41) F dX9_make_35 (by decide) (fun c_14 => ?_) (fun c_14 => ?_)
        · replace h := h.1 c_14
          refine mz_aload_n F dX9_make_41 rfl 0 rfl ?_
          obtain ⟨q_8, eq_8, h⟩ := h
          refine mz_getR F dX9_make_42 fX9_make_93 (by decide) kthis eq_8 (fun kq_8 => ?_)
          refine mz_iload_n F dX9_make_45 rfl 1 rfl ?_
          refine mz_iload_n F dX9_make_46 rfl 2 rfl ?_
          obtain ⟨b_9, h⟩ := h
          refine mz_iast F dX9_make_47 kq_8 rfl b_9 (fun u_10 eu_10 hxu_10 => ?_)
          replace h := h u_10 eu_10
          replace kthis := hxu_10.2.2 _ _ (by decide) kthis
          refine mz_aload_n F dX9_make_48 rfl 0 rfl ?_
          obtain ⟨q_11, eq_11, h⟩ := h
          refine mz_getR F dX9_make_49 fX9_make_96 (by decide) kthis eq_11 (fun kq_11 => ?_)
          refine mz_iload_n F dX9_make_52 rfl 1 rfl ?_
          refine mz_iload_n F dX9_make_53 rfl 3 rfl ?_
          obtain ⟨b_12, h⟩ := h
          refine mz_iast F dX9_make_54 kq_11 rfl b_12 (fun u_13 eu_13 hxu_13 => ?_)
          replace h := h u_13 eu_13
          replace kthis := hxu_13.2.2 _ _ (by decide) kthis
          refine mz_iconst (v := 0) F dX9_make_55 (by decide) ?_
          refine mz_istore (lv2 := [(4, .int (0 : Int32)), (0, .ref (G.1 + this)), (1, .int a1), (2, .int a2), (3, .int a3)]) F dX9_make_56 hN (by decide) rfl ?_
          refine mz_sub [1, 2, 4, 0] rfl ?_
          obtain ⟨n9, h⟩ := h
          exact tX9_make_58 F hN n9 kthis h
        · replace h := h.2 c_14
          refine mz_bipush (v := (-14)) F dX9_make_38 (by decide) ?_
          exact mz_iret F dX9_make_40 ⟨_, rfl, h⟩
      · replace h := h.2 c_15
        refine mz_iconst (v := (-1)) F dX9_make_32 (by decide) ?_
        exact mz_iret F dX9_make_33 ⟨_, rfl, h⟩
set_option maxRecDepth 100000 in
theorem kX9_make (l : Launch) (G : mG) {u : mSt} {K : Int32 → mSt → Prop} {this : Nat} {a1 : Int32} {a2 : Int32} {a3 : Int32} (kthis : mK u this = 10) (h : bX9_make this a1 a2 a3 u K) : mCt l G yX9_make wsX9_make 1 25 [.ref (G.1 + this), .int a1, .int a2, .int a3] u (mPi K) := by
  refine mCt.of (cc := cX9_make) (maxL := 5) (ret := (some .int)) (by decide) rfl (Nat.le_of_ble_eq_true rfl) ?_
  intro X hl hN F
  exact tX9_make F hN kthis h
/-! RoomMapperModel.element(II)J -/
theorem wiX9_element_9 : ∀ w ∈ u_ws RX9 TX9 52, w ∈ wsX9_element := by decide +kernel
theorem fX9_element_112 : mFld wsX9_element RX9 112 10 0 0 .int false := ⟨9, _, RX9, TX9, 52, tyX9, rfl, rfl, rfl, by decide, wiX9_element_9, tyX9_ok, nmX9, rfl, rfl, Or.inl ⟨by decide +kernel, fun _ => rfl⟩⟩
theorem fX9_element_105 : mFld wsX9_element RX9 105 10 50 29 (.array .long) true := ⟨9, _, RX9, TX9, 52, tyX9, rfl, rfl, rfl, by decide, wiX9_element_9, tyX9_ok, nmX9, rfl, rfl, Or.inl ⟨by decide +kernel, fun _ => rfl⟩⟩
theorem fX9_element_93 : mFld wsX9_element RX9 93 10 46 28 (.array .int) true := ⟨9, _, RX9, TX9, 52, tyX9, rfl, rfl, rfl, by decide, wiX9_element_9, tyX9_ok, nmX9, rfl, rfl, Or.inl ⟨by decide +kernel, fun _ => rfl⟩⟩
theorem fX9_element_96 : mFld wsX9_element RX9 96 10 47 28 (.array .int) true := ⟨9, _, RX9, TX9, 52, tyX9, rfl, rfl, rfl, by decide, wiX9_element_9, tyX9_ok, nmX9, rfl, rfl, Or.inl ⟨by decide +kernel, fun _ => rfl⟩⟩
def bX9_element_62 (v0 : Nat) (v1 : Int32) (v2 : Int32) (v3 : Int32) (w0 : Nat) (w1 : Int32) (u : mSt) (K : Int64 → mSt → Prop) : Prop := (∀ u_1, u_1 = mpI u w0 0 w1 → ((v3 = 0 → K (0 : Int64) u_1) ∧ (¬ (v3 = 0) → (∃ q_2, mR u_1 v0 50 = some q_2 ∧ (vp_in (((60 : Int32) * v1) + v2) 480 ∧ K (mL u_1 q_2 (((60 : Int32) * v1) + v2).toNatClampNeg) u_1)))))
set_option maxRecDepth 100000 in
set_option maxHeartbeats 4000000 in
theorem tX9_element_62 {X : mCx} {G : mG} {u0 : mSt} {K : Int64 → mSt → Prop} (F : mFx X G cX9_element wsX9_element RX9 "element" 1 25 (some .long) u0 (mPl K)) (hN : X.2.2.2.2.2.2.2.2.2.2.2.2.1 = 4) {v0 : Nat} {v1 : Int32} {v2 : Int32} {v3 : Int32} {w0 : Nat} {w1 : Int32} {u : mSt} (kv0 : mK u v0 = 10) (kw0 : mK u w0 = 10) (h : bX9_element_62 v0 v1 v2 v3 w0 w1 u K) : mZ X u 62 [(0, .ref (G.1 + v0)), (1, .int v1), (2, .int v2), (3, .int v3)] [.int w1, .ref (G.1 + w0)] := by
  refine mz_putI F dX9_element_62 fX9_element_112 kw0 rfl rfl (fun u_1 eu_1 hxu_1 => ?_)
  replace h := h u_1 eu_1
  replace kv0 := hxu_1.2.2 _ _ (by decide) kv0
  refine mz_iload_n F dX9_element_65 rfl 3 rfl ?_
  refine mz_if_eq (tgt := 83) F dX9_element_66 (by decide) (fun c_4 => ?_) (fun c_4 => ?_)
  · replace h := h.1 c_4
    refine mz_lconst (v := 0) F dX9_element_83 (by decide) ?_
    exact mz_lret F dX9_element_84 ⟨_, rfl, h⟩
  · replace h := h.2 c_4
    refine mz_aload_n F dX9_element_69 rfl 0 rfl ?_
    obtain ⟨q_2, eq_2, h⟩ := h
    refine mz_getR F dX9_element_70 fX9_element_105 (by decide) kv0 eq_2 (fun kq_2 => ?_)
    refine mz_bipush (v := 60) F dX9_element_73 (by decide) ?_
    refine mz_iload_n F dX9_element_75 rfl 1 rfl ?_
    refine mz_imul F dX9_element_76 ?_
    refine mz_iload_n F dX9_element_77 rfl 2 rfl ?_
    refine mz_iadd F dX9_element_78 ?_
    obtain ⟨b_3, h⟩ := h
    refine mz_lald F dX9_element_79 kq_2 rfl b_3 ?_
    refine mz_goto (tgt := 84) F dX9_element_80 (by decide) ?_
    exact mz_lret F dX9_element_84 ⟨_, rfl, h⟩
def bX9_element_40 (v0 : Nat) (v1 : Int32) (v2 : Int32) (w0 : Int32) (u : mSt) (K : Int64 → mSt → Prop) : Prop := bX9_isShelf v1 u (fun r_3 u_2 => ((r_3 = 0 → bX9_element_62 v0 v1 v2 w0 v0 (1 : Int32) u_2 K) ∧ (¬ (r_3 = 0) → ((w0 = 0 → bX9_element_62 v0 v1 v2 w0 v0 (2 : Int32) u_2 K) ∧ (¬ (w0 = 0) → bX9_element_62 v0 v1 v2 w0 v0 (0 : Int32) u_2 K)))))
set_option maxRecDepth 100000 in
set_option maxHeartbeats 4000000 in
theorem tX9_element_40 {X : mCx} {G : mG} {u0 : mSt} {K : Int64 → mSt → Prop} (F : mFx X G cX9_element wsX9_element RX9 "element" 1 25 (some .long) u0 (mPl K)) (hN : X.2.2.2.2.2.2.2.2.2.2.2.2.1 = 4) {v0 : Nat} {v1 : Int32} {v2 : Int32} {w0 : Int32} {u : mSt} (kv0 : mK u v0 = 10) (h : bX9_element_40 v0 v1 v2 w0 u K) : mZ X u 40 [(0, .ref (G.1 + v0)), (1, .int v1), (2, .int v2)] [.int w0] := by
  refine mz_istore_n (lv2 := [(3, .int w0), (0, .ref (G.1 + v0)), (1, .int v1), (2, .int v2)]) F dX9_element_40 rfl hN (by decide) rfl ?_
  refine mz_aload_n F dX9_element_41 rfl 1 rfl ?_
  refine mz_iload_n F dX9_element_42 rfl 2 rfl ?_
  refine mz_callS (As := [_]) (n := 1) F dX9_element_43 rfl gX9_element_X9_isShelf (by decide +kernel) (by decide) rfl (Nat.le_of_ble_eq_true rfl) (kX9_isShelf _ G h) (mz_kZ fun r_3 u_2 br_3 h hx_1 => ?_)
  replace kv0 := hx_1.2.2 _ _ (by decide) kv0
  refine mz_if_ne (tgt := 53) F dX9_element_46 (by decide) (fun c_5 => ?_) (fun c_5 => ?_)
  · replace h := h.2 c_5
    refine mz_iload_n F dX9_element_53 rfl 0 rfl ?_
    refine mz_if_eq (tgt := 61) F dX9_element_54 (by decide) (fun c_4 => ?_) (fun c_4 => ?_)
    · replace h := h.1 c_4
      refine mz_iconst (v := 2) F dX9_element_61 (by decide) ?_
      refine mz_sub [1, 2, 3, 0] rfl ?_
      exact tX9_element_62 F hN kv0 kv0 h
    · replace h := h.2 c_4
      refine mz_iconst (v := 0) F dX9_element_57 (by decide) ?_
      refine mz_goto (tgt := 62) F dX9_element_58 (by decide) ?_
      refine mz_sub [1, 2, 3, 0] rfl ?_
      exact tX9_element_62 F hN kv0 kv0 h
  · replace h := h.1 c_5
    refine mz_iconst (v := 1) F dX9_element_49 (by decide) ?_
    refine mz_goto (tgt := 62) F dX9_element_50 (by decide) ?_
    refine mz_sub [1, 2, 3, 0] rfl ?_
    exact tX9_element_62 F hN kv0 kv0 h
def bX9_element_39 (v0 : Nat) (v1 : Int32) (v2 : Int32) (u : mSt) (K : Int64 → mSt → Prop) : Prop := bX9_element_40 v0 v1 v2 (0 : Int32) u K
set_option maxRecDepth 100000 in
set_option maxHeartbeats 4000000 in
theorem tX9_element_39 {X : mCx} {G : mG} {u0 : mSt} {K : Int64 → mSt → Prop} (F : mFx X G cX9_element wsX9_element RX9 "element" 1 25 (some .long) u0 (mPl K)) (hN : X.2.2.2.2.2.2.2.2.2.2.2.2.1 = 4) {v0 : Nat} {v1 : Int32} {v2 : Int32} {u : mSt} (kv0 : mK u v0 = 10) (h : bX9_element_39 v0 v1 v2 u K) : mZ X u 39 [(0, .ref (G.1 + v0)), (1, .int v1), (2, .int v2)] [] := by
  refine mz_iconst (v := 0) F dX9_element_39 (by decide) ?_
  refine mz_sub [0, 1, 2] rfl ?_
  exact tX9_element_40 F hN kv0 h
def bX9_element (this : Nat) (a1 : Int32) (a2 : Int32) (u : mSt) (K : Int64 → mSt → Prop) : Prop := bX9_isShelf a1 u (fun r_3 u_2 => ((r_3 = 0 → bX9_element_39 this a1 a2 u_2 K) ∧ (¬ (r_3 = 0) → (∃ q_4, mR u_2 this 46 = some q_4 ∧ (vp_in a1 8 ∧ (((mI u_2 q_4 a1.toNatClampNeg) ≤ (2 : Int32) → bX9_element_39 this a1 a2 u_2 K) ∧ (¬ ((mI u_2 q_4 a1.toNatClampNeg) ≤ (2 : Int32)) → (∃ q_6, mR u_2 this 47 = some q_6 ∧ (vp_in a1 8 ∧ bX9_isIn a2.toInt64 (0 : Int64) (((mI u_2 q_6 a1.toNatClampNeg) - (1 : Int32)).toInt64) u_2 (fun r_10 u_9 => ((r_10 = 0 → bX9_element_39 this a1 a2 u_9 K) ∧ (¬ (r_10 = 0) → bX9_element_40 this a1 a2 (1 : Int32) u_9 K))))))))))))
set_option maxRecDepth 100000 in
set_option maxHeartbeats 4000000 in
theorem tX9_element {X : mCx} {G : mG} {u0 : mSt} {K : Int64 → mSt → Prop} (F : mFx X G cX9_element wsX9_element RX9 "element" 1 25 (some .long) u0 (mPl K)) (hN : X.2.2.2.2.2.2.2.2.2.2.2.2.1 = 4) {this : Nat} {a1 : Int32} {a2 : Int32} {u : mSt} (kthis : mK u this = 10) (h : bX9_element this a1 a2 u K) : mZ X u 0 [(0, .ref (G.1 + this)), (1, .int a1), (2, .int a2)] [] := by
  refine mz_iload_n F dX9_element_0 rfl 1 rfl ?_
  refine mz_callS (As := [_]) (n := 1) F dX9_element_1 rfl gX9_element_X9_isShelf (by decide +kernel) (by decide) rfl (Nat.le_of_ble_eq_true rfl) (kX9_isShelf _ G h) (mz_kZ fun r_3 u_2 br_3 h hx_1 => ?_)
  replace kthis := hx_1.2.2 _ _ (by decide) kthis
  refine mz_if_eq (tgt := 39) F dX9_element_4 (by decide) (fun c_13 => ?_) (fun c_13 => ?_)
  · replace h := h.1 c_13
    refine mz_sub [0, 1, 2] rfl ?_
    exact tX9_element_39 F hN kthis h
  · replace h := h.2 c_13
    refine mz_aload_n F dX9_element_7 rfl 0 rfl ?_
    obtain ⟨q_4, eq_4, h⟩ := h
    refine mz_getR F dX9_element_8 fX9_element_93 (by decide) kthis eq_4 (fun kq_4 => ?_)
    refine mz_iload_n F dX9_element_11 rfl 1 rfl ?_
    obtain ⟨b_5, h⟩ := h
    refine mz_iald F dX9_element_12 kq_4 rfl b_5 ?_
    refine mz_iconst (v := 2) F dX9_element_13 (by decide) ?_
    refine mz_icmp_le (tgt := 39) F dX9_element_14 (by decide) (fun c_12 => ?_) (fun c_12 => ?_)
    · replace h := h.1 c_12
      refine mz_sub [0, 1, 2] rfl ?_
      exact tX9_element_39 F hN kthis h
    · replace h := h.2 c_12
      refine mz_iload_n F dX9_element_17 rfl 2 rfl ?_
      refine mz_i2l F dX9_element_18 ?_
      refine mz_lconst (v := 0) F dX9_element_19 (by decide) ?_
      refine mz_aload_n F dX9_element_20 rfl 0 rfl ?_
      obtain ⟨q_6, eq_6, h⟩ := h
      refine mz_getR F dX9_element_21 fX9_element_96 (by decide) kthis eq_6 (fun kq_6 => ?_)
      refine mz_iload_n F dX9_element_24 rfl 1 rfl ?_
      obtain ⟨b_7, h⟩ := h
      refine mz_iald F dX9_element_25 kq_6 rfl b_7 ?_
      refine mz_iconst (v := 1) F dX9_element_26 (by decide) ?_
      refine mz_isub F dX9_element_27 ?_
      refine mz_i2l F dX9_element_28 ?_
      refine mz_callS (As := [_, _, _]) (n := 3) F dX9_element_29 rfl gX9_element_X9_isIn (by decide +kernel) (by decide) rfl (Nat.le_of_ble_eq_true rfl) (kX9_isIn _ G h) (mz_kZ fun r_10 u_9 br_10 h hx_8 => ?_)
      replace kthis := hx_8.2.2 _ _ (by decide) kthis
      refine mz_if_eq (tgt := 39) F dX9_element_32 (by decide) (fun c_11 => ?_) (fun c_11 => ?_)
      · replace h := h.1 c_11
        refine mz_sub [0, 1, 2] rfl ?_
        exact tX9_element_39 F hN kthis h
      · replace h := h.2 c_11
        refine mz_iconst (v := 1) F dX9_element_35 (by decide) ?_
        refine mz_goto (tgt := 40) F dX9_element_36 (by decide) ?_
        refine mz_sub [0, 1, 2] rfl ?_
        exact tX9_element_40 F hN kthis h
set_option maxRecDepth 100000 in
theorem kX9_element (l : Launch) (G : mG) {u : mSt} {K : Int64 → mSt → Prop} {this : Nat} {a1 : Int32} {a2 : Int32} (kthis : mK u this = 10) (h : bX9_element this a1 a2 u K) : mCt l G yX9_element wsX9_element 1 25 [.ref (G.1 + this), .int a1, .int a2] u (mPl K) := by
  refine mCt.of (cc := cX9_element) (maxL := 4) (ret := (some .long)) (by decide) rfl (Nat.le_of_ble_eq_true rfl) ?_
  intro X hl hN F
  exact tX9_element F hN kthis h
/-! RoomMapperModel.hasPlaces(III)Z -/
theorem wiX9_hasPlaces_9 : ∀ w ∈ u_ws RX9 TX9 52, w ∈ wsX9_hasPlaces := by decide +kernel
theorem fX9_hasPlaces_96 : mFld wsX9_hasPlaces RX9 96 10 47 28 (.array .int) true := ⟨9, _, RX9, TX9, 52, tyX9, rfl, rfl, rfl, by decide, wiX9_hasPlaces_9, tyX9_ok, nmX9, rfl, rfl, Or.inl ⟨by decide +kernel, fun _ => rfl⟩⟩
def bX9_hasPlaces (this : Nat) (a1 : Int32) (a2 : Int32) (a3 : Int32) (u : mSt) (K : Int32 → mSt → Prop) : Prop := ((a3 < 0 → K (0 : Int32) u) ∧ (¬ (a3 < 0) → ((a2 < 0 → K (0 : Int32) u) ∧ (¬ (a2 < 0) → (∃ q_1, mR u this 47 = some q_1 ∧ (vp_in a1 8 ∧ (((mI u q_1 a1.toNatClampNeg) < a2 → K (0 : Int32) u) ∧ (¬ ((mI u q_1 a1.toNatClampNeg) < a2) → (∃ q_3, mR u this 47 = some q_3 ∧ (vp_in a1 8 ∧ ((((mI u q_3 a1.toNatClampNeg) - a2) < a3 → K (0 : Int32) u) ∧ (¬ (((mI u q_3 a1.toNatClampNeg) - a2) < a3) → K (1 : Int32) u))))))))))))
set_option maxRecDepth 100000 in
set_option maxHeartbeats 4000000 in
theorem tX9_hasPlaces {X : mCx} {G : mG} {u0 : mSt} {K : Int32 → mSt → Prop} (F : mFx X G cX9_hasPlaces wsX9_hasPlaces RX9 "hasPlaces" 0 0 (some .boolean) u0 (mPz K)) (hN : X.2.2.2.2.2.2.2.2.2.2.2.2.1 = 4) {this : Nat} {a1 : Int32} {a2 : Int32} {a3 : Int32} {u : mSt} (kthis : mK u this = 10) (h : bX9_hasPlaces this a1 a2 a3 u K) : mZ X u 0 [(0, .ref (G.1 + this)), (1, .int a1), (2, .int a2), (3, .int a3)] [] := by
  refine mz_iload_n F dX9_hasPlaces_0 rfl 3 rfl ?_
  refine mz_if_lt (tgt := 34) F dX9_hasPlaces_1 (by decide) (fun c_8 => ?_) (fun c_8 => ?_)
  · replace h := h.1 c_8
    refine mz_iconst (v := 0) F dX9_hasPlaces_34 (by decide) ?_
    exact mz_zret F dX9_hasPlaces_35 rfl ⟨_, rfl, by decide, h⟩
  · replace h := h.2 c_8
    refine mz_iload_n F dX9_hasPlaces_4 rfl 2 rfl ?_
    refine mz_if_lt (tgt := 34) F dX9_hasPlaces_5 (by decide) (fun c_7 => ?_) (fun c_7 => ?_)
    · replace h := h.1 c_7
      refine mz_iconst (v := 0) F dX9_hasPlaces_34 (by decide) ?_
      exact mz_zret F dX9_hasPlaces_35 rfl ⟨_, rfl, by decide, h⟩
    · replace h := h.2 c_7
      refine mz_iload_n F dX9_hasPlaces_8 rfl 2 rfl ?_
      refine mz_aload_n F dX9_hasPlaces_9 rfl 0 rfl ?_
      obtain ⟨q_1, eq_1, h⟩ := h
      refine mz_getR F dX9_hasPlaces_10 fX9_hasPlaces_96 (by decide) kthis eq_1 (fun kq_1 => ?_)
      refine mz_iload_n F dX9_hasPlaces_13 rfl 1 rfl ?_
      obtain ⟨b_2, h⟩ := h
      refine mz_iald F dX9_hasPlaces_14 kq_1 rfl b_2 ?_
      refine mz_icmp_gt (tgt := 34) F dX9_hasPlaces_15 (by decide) (fun c_6 => ?_) (fun c_6 => ?_)
      · replace h := h.1 c_6
        refine mz_iconst (v := 0) F dX9_hasPlaces_34 (by decide) ?_
        exact mz_zret F dX9_hasPlaces_35 rfl ⟨_, rfl, by decide, h⟩
      · replace h := h.2 c_6
        refine mz_iload_n F dX9_hasPlaces_18 rfl 3 rfl ?_
        refine mz_aload_n F dX9_hasPlaces_19 rfl 0 rfl ?_
        obtain ⟨q_3, eq_3, h⟩ := h
        refine mz_getR F dX9_hasPlaces_20 fX9_hasPlaces_96 (by decide) kthis eq_3 (fun kq_3 => ?_)
        refine mz_iload_n F dX9_hasPlaces_23 rfl 1 rfl ?_
        obtain ⟨b_4, h⟩ := h
        refine mz_iald F dX9_hasPlaces_24 kq_3 rfl b_4 ?_
        refine mz_iload_n F dX9_hasPlaces_25 rfl 2 rfl ?_
        refine mz_isub F dX9_hasPlaces_26 ?_
        refine mz_icmp_gt (tgt := 34) F dX9_hasPlaces_27 (by decide) (fun c_5 => ?_) (fun c_5 => ?_)
        · replace h := h.1 c_5
          refine mz_iconst (v := 0) F dX9_hasPlaces_34 (by decide) ?_
          exact mz_zret F dX9_hasPlaces_35 rfl ⟨_, rfl, by decide, h⟩
        · replace h := h.2 c_5
          refine mz_iconst (v := 1) F dX9_hasPlaces_30 (by decide) ?_
          refine mz_goto (tgt := 35) F dX9_hasPlaces_31 (by decide) ?_
          exact mz_zret F dX9_hasPlaces_35 rfl ⟨_, rfl, by decide, h⟩
set_option maxRecDepth 100000 in
theorem kX9_hasPlaces (l : Launch) (G : mG) {u : mSt} {K : Int32 → mSt → Prop} {this : Nat} {a1 : Int32} {a2 : Int32} {a3 : Int32} (kthis : mK u this = 10) (h : bX9_hasPlaces this a1 a2 a3 u K) : mCt l G yX9_hasPlaces wsX9_hasPlaces 0 0 [.ref (G.1 + this), .int a1, .int a2, .int a3] u (mPz K) := by
  refine mCt.of (cc := cX9_hasPlaces) (maxL := 4) (ret := (some .boolean)) (by decide) rfl (Nat.le_of_ble_eq_true rfl) ?_
  intro X hl hN F
  exact tX9_hasPlaces F hN kthis h
