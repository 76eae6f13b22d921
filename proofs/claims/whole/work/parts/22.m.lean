/-! RoomMapperModel.comeKnown(II)V -/
theorem wiX9_comeKnown_9 : ∀ w ∈ u_ws RX9 TX9 52, w ∈ wsX9_comeKnown := by decide +kernel
theorem fX9_comeKnown_165 : mFld wsX9_comeKnown RX9 165 10 11 0 .boolean false := ⟨9, _, RX9, TX9, 52, tyX9, rfl, rfl, rfl, by decide, wiX9_comeKnown_9, tyX9_ok, nmX9, rfl, rfl, Or.inl ⟨by decide +kernel, fun _ => rfl⟩⟩
theorem fX9_comeKnown_41 : mFld wsX9_comeKnown RX9 41 10 23 25 (.array .int) true := ⟨9, _, RX9, TX9, 52, tyX9, rfl, rfl, rfl, by decide, wiX9_comeKnown_9, tyX9_ok, nmX9, rfl, rfl, Or.inl ⟨by decide +kernel, fun _ => rfl⟩⟩
theorem fX9_comeKnown_44 : mFld wsX9_comeKnown RX9 44 10 24 15 (.array .int) true := ⟨9, _, RX9, TX9, 52, tyX9, rfl, rfl, rfl, by decide, wiX9_comeKnown_9, tyX9_ok, nmX9, rfl, rfl, Or.inl ⟨by decide +kernel, fun _ => rfl⟩⟩
def bX9_comeKnown_50 (v0 : Nat) (v1 : Int32) (v4 : Int32) (w0 : Int32) (u : mSt) (K : mSt → Prop) : Prop := ((w0 = (mI u v0 11) → bX9_fits v0 v1 v4 u (fun r_3 u_2 => ((r_3 = 0 → K u_2) ∧ (¬ (r_3 = 0) → bX9_come v0 v1 v4 u_2 (fun u_5 => K u_5))))) ∧ (¬ (w0 = (mI u v0 11)) → K u))
set_option maxRecDepth 100000 in
set_option maxHeartbeats 4000000 in
theorem tX9_comeKnown_50 {X : mCx} {G : mG} {u0 : mSt} {K : mSt → Prop} (F : mFx X G cX9_comeKnown wsX9_comeKnown RX9 "comeKnown" 2 42 none u0 (mPv K)) (hN : X.2.2.2.2.2.2.2.2.2.2.2.2.1 = 5) {v0 : Nat} {v1 : Int32} {v4 : Int32} {w0 : Int32} {u : mSt} (kv0 : mK u v0 = 10) (h : bX9_comeKnown_50 v0 v1 v4 w0 u K) : mZ X u 50 [(0, .ref (G.1 + v0)), (1, .int v1), (4, .int v4)] [.int w0] := by
  refine mz_aload_n F dX9_comeKnown_50 rfl 0 rfl ?_
  refine mz_getI F dX9_comeKnown_51 fX9_comeKnown_165 kv0 ?_
  refine mz_icmp_ne (tgt := 74) F dX9_comeKnown_54 (by decide) (fun c_7 => ?_) (fun c_7 => ?_)
  · replace h := h.2 c_7
    exact mz_vret F dX9_comeKnown_74 ⟨rfl, h⟩
  · replace h := h.1 c_7
    refine mz_aload_n F dX9_comeKnown_57 rfl 0 rfl ?_
    refine mz_iload_n F dX9_comeKnown_58 rfl 1 rfl ?_
    refine mz_iload F dX9_comeKnown_59 2 rfl ?_
    refine mz_callV (As := [_, _]) (n := 2) F dX9_comeKnown_61 rfl kv0 rfl rfl gX9_comeKnown_X9_fits (by decide +kernel) (by decide) rfl (Nat.le_of_ble_eq_true rfl) (kX9_fits _ G kv0 h) (mz_kZ fun r_3 u_2 br_3 h hx_1 => ?_)
    replace kv0 := hx_1.2.2 _ _ (by decide) kv0
    refine mz_if_eq (tgt := 74) F dX9_comeKnown_64 (by decide) (fun c_6 => ?_) (fun c_6 => ?_)
    · replace h := h.1 c_6
      exact mz_vret F dX9_comeKnown_74 ⟨rfl, h⟩
    · replace h := h.2 c_6
      refine mz_aload_n F dX9_comeKnown_67 rfl 0 rfl ?_
      refine mz_iload_n F dX9_comeKnown_68 rfl 1 rfl ?_
      refine mz_iload F dX9_comeKnown_69 2 rfl ?_
      refine mz_callV (As := [_, _]) (n := 2) F dX9_comeKnown_71 rfl kv0 rfl rfl gX9_comeKnown_X9_come (by decide +kernel) (by decide) rfl (Nat.le_of_ble_eq_true rfl) (kX9_come _ G kv0 h) (mz_kV fun u_5 h hx_4 => ?_)
      exact mz_vret F dX9_comeKnown_74 ⟨rfl, h⟩
def bX9_comeKnown_37 (v0 : Nat) (v1 : Int32) (v3 : Int32) (w0 : Int32) (u : mSt) (K : mSt → Prop) : Prop := ((v3 = (-2 : Int32) → bX9_comeKnown_50 v0 v1 w0 (1 : Int32) u K) ∧ (¬ (v3 = (-2 : Int32)) → bX9_comeKnown_50 v0 v1 w0 (0 : Int32) u K))
set_option maxRecDepth 100000 in
set_option maxHeartbeats 4000000 in
theorem tX9_comeKnown_37 {X : mCx} {G : mG} {u0 : mSt} {K : mSt → Prop} (F : mFx X G cX9_comeKnown wsX9_comeKnown RX9 "comeKnown" 2 42 none u0 (mPv K)) (hN : X.2.2.2.2.2.2.2.2.2.2.2.2.1 = 5) {v0 : Nat} {v1 : Int32} {v3 : Int32} {w0 : Int32} {u : mSt} (kv0 : mK u v0 = 10) (h : bX9_comeKnown_37 v0 v1 v3 w0 u K) : mZ X u 37 [(0, .ref (G.1 + v0)), (1, .int v1), (3, .int v3)] [.int w0] := by
  refine mz_istore (lv2 := [(4, .int w0), (0, .ref (G.1 + v0)), (1, .int v1), (3, .int v3)]) F dX9_comeKnown_37 hN (by decide) rfl ?_
  refine mz_iload_n F dX9_comeKnown_39 rfl 3 rfl ?_
  refine mz_bipush (v := (-2)) F dX9_comeKnown_40 (by decide) ?_
  refine mz_icmp_ne (tgt := 49) F dX9_comeKnown_42 (by decide) (fun c_1 => ?_) (fun c_1 => ?_)
  · replace h := h.2 c_1
    refine mz_iconst (v := 0) F dX9_comeKnown_49 (by decide) ?_
    refine mz_sub [1, 2, 0] rfl ?_
    exact tX9_comeKnown_50 F hN kv0 h
  · replace h := h.1 c_1
    refine mz_iconst (v := 1) F dX9_comeKnown_45 (by decide) ?_
    refine mz_goto (tgt := 50) F dX9_comeKnown_46 (by decide) ?_
    refine mz_sub [1, 2, 0] rfl ?_
    exact tX9_comeKnown_50 F hN kv0 h
def bX9_comeKnown (this : Nat) (a1 : Int32) (a2 : Int32) (u : mSt) (K : mSt → Prop) : Prop := (∃ q_1, mR u this 23 = some q_1 ∧ (∃ q_2, mR u this 24 = some q_2 ∧ (vp_in a1 150 ∧ (vp_in ((((30 : Int32) * a1) + ((5 : Int32) * (mI u q_2 a1.toNatClampNeg))) + a2) 4500 ∧ (∀ x_5, x_5 = (mI u q_1 ((((30 : Int32) * a1) + ((5 : Int32) * (mI u q_2 a1.toNatClampNeg))) + a2).toNatClampNeg) → ((x_5 = (-2 : Int32) → (∃ q_6, mR u this 24 = some q_6 ∧ (vp_in a1 150 ∧ bX9_comeKnown_37 this a1 x_5 (mI u q_6 a1.toNatClampNeg) u K))) ∧ (¬ (x_5 = (-2 : Int32)) → bX9_comeKnown_37 this a1 x_5 x_5 u K)))))))
set_option maxRecDepth 100000 in
set_option maxHeartbeats 4000000 in
theorem tX9_comeKnown {X : mCx} {G : mG} {u0 : mSt} {K : mSt → Prop} (F : mFx X G cX9_comeKnown wsX9_comeKnown RX9 "comeKnown" 2 42 none u0 (mPv K)) (hN : X.2.2.2.2.2.2.2.2.2.2.2.2.1 = 5) {this : Nat} {a1 : Int32} {a2 : Int32} {u : mSt} (kthis : mK u this = 10) (h : bX9_comeKnown this a1 a2 u K) : mZ X u 0 [(0, .ref (G.1 + this)), (1, .int a1), (2, .int a2)] [] := by
  refine mz_aload_n F dX9_comeKnown_0 rfl 0 rfl ?_
  obtain ⟨q_1, eq_1, h⟩ := h
  refine mz_getR F dX9_comeKnown_1 fX9_comeKnown_41 (by decide) kthis eq_1 (fun kq_1 => ?_)
  refine mz_bipush (v := 30) F dX9_comeKnown_4 (by decide) ?_
  refine mz_iload_n F dX9_comeKnown_6 rfl 1 rfl ?_
  refine mz_imul F dX9_comeKnown_7 ?_
  refine mz_iconst (v := 5) F dX9_comeKnown_8 (by decide) ?_
  refine mz_aload_n F dX9_comeKnown_9 rfl 0 rfl ?_
  obtain ⟨q_2, eq_2, h⟩ := h
  refine mz_getR F dX9_comeKnown_10 fX9_comeKnown_44 (by decide) kthis eq_2 (fun kq_2 => ?_)
  refine mz_iload_n F dX9_comeKnown_13 rfl 1 rfl ?_
  obtain ⟨b_3, h⟩ := h
  refine mz_iald F dX9_comeKnown_14 kq_2 rfl b_3 ?_
  refine mz_imul F dX9_comeKnown_15 ?_
  refine mz_iadd F dX9_comeKnown_16 ?_
  refine mz_iload_n F dX9_comeKnown_17 rfl 2 rfl ?_
  refine mz_iadd F dX9_comeKnown_18 ?_
  obtain ⟨b_4, h⟩ := h
  refine mz_iald F dX9_comeKnown_19 kq_1 rfl b_4 ?_
  refine mz_topi (fun x_5 ex_5 => ?_)
  replace h := h x_5 ex_5
  refine mz_istore_n (lv2 := [(3, .int x_5), (0, .ref (G.1 + this)), (1, .int a1), (2, .int a2)]) F dX9_comeKnown_20 rfl hN (by decide) rfl ?_
  refine mz_iload_n F dX9_comeKnown_21 rfl 0 rfl ?_
  refine mz_bipush (v := (-2)) F dX9_comeKnown_22 (by decide) ?_
  refine mz_icmp_ne (tgt := 36) F dX9_comeKnown_24 (by decide) (fun c_8 => ?_) (fun c_8 => ?_)
  · replace h := h.2 c_8
    refine mz_iload_n F dX9_comeKnown_36 rfl 0 rfl ?_
    refine mz_sub [1, 2, 0] rfl ?_
    exact tX9_comeKnown_37 F hN kthis h
  · replace h := h.1 c_8
    refine mz_aload_n F dX9_comeKnown_27 rfl 1 rfl ?_
    obtain ⟨q_6, eq_6, h⟩ := h
    refine mz_getR F dX9_comeKnown_28 fX9_comeKnown_44 (by decide) kthis eq_6 (fun kq_6 => ?_)
    refine mz_iload_n F dX9_comeKnown_31 rfl 2 rfl ?_
    obtain ⟨b_7, h⟩ := h
    refine mz_iald F dX9_comeKnown_32 kq_6 rfl b_7 ?_
    refine mz_goto (tgt := 37) F dX9_comeKnown_33 (by decide) ?_
    refine mz_sub [1, 2, 0] rfl ?_
    exact tX9_comeKnown_37 F hN kthis h
set_option maxRecDepth 100000 in
theorem kX9_comeKnown (l : Launch) (G : mG) {u : mSt} {K : mSt → Prop} {this : Nat} {a1 : Int32} {a2 : Int32} (kthis : mK u this = 10) (h : bX9_comeKnown this a1 a2 u K) : mCt l G yX9_comeKnown wsX9_comeKnown 2 42 [.ref (G.1 + this), .int a1, .int a2] u (mPv K) := by
  refine mCt.of (cc := cX9_comeKnown) (maxL := 5) (ret := none) (by decide) rfl (Nat.le_of_ble_eq_true rfl) ?_
  intro X hl hN F
  exact tX9_comeKnown F hN kthis h
/-! RoomMapperModel.comeUnknown(II)V -/
theorem wiX9_comeUnknown_9 : ∀ w ∈ u_ws RX9 TX9 52, w ∈ wsX9_comeUnknown := by decide +kernel
theorem fX9_comeUnknown_60 : mFld wsX9_comeUnknown RX9 60 10 30 25 (.array .int) true := ⟨9, _, RX9, TX9, 52, tyX9, rfl, rfl, rfl, by decide, wiX9_comeUnknown_9, tyX9_ok, nmX9, rfl, rfl, Or.inl ⟨by decide +kernel, fun _ => rfl⟩⟩
theorem fX9_comeUnknown_35 : mFld wsX9_comeUnknown RX9 35 10 21 15 (.array .int) true := ⟨9, _, RX9, TX9, 52, tyX9, rfl, rfl, rfl, by decide, wiX9_comeUnknown_9, tyX9_ok, nmX9, rfl, rfl, Or.inl ⟨by decide +kernel, fun _ => rfl⟩⟩
theorem fX9_comeUnknown_174 : mFld wsX9_comeUnknown RX9 174 10 18 0 .int false := ⟨9, _, RX9, TX9, 52, tyX9, rfl, rfl, rfl, by decide, wiX9_comeUnknown_9, tyX9_ok, nmX9, rfl, rfl, Or.inl ⟨by decide +kernel, fun _ => rfl⟩⟩
theorem fX9_comeUnknown_180 : mFld wsX9_comeUnknown RX9 180 10 20 0 .boolean false := ⟨9, _, RX9, TX9, 52, tyX9, rfl, rfl, rfl, by decide, wiX9_comeUnknown_9, tyX9_ok, nmX9, rfl, rfl, Or.inl ⟨by decide +kernel, fun _ => rfl⟩⟩
theorem fX9_comeUnknown_183 : mFld wsX9_comeUnknown RX9 183 10 27 0 .int false := ⟨9, _, RX9, TX9, 52, tyX9, rfl, rfl, rfl, by decide, wiX9_comeUnknown_9, tyX9_ok, nmX9, rfl, rfl, Or.inl ⟨by decide +kernel, fun _ => rfl⟩⟩
theorem fX9_comeUnknown_54 : mFld wsX9_comeUnknown RX9 54 10 28 15 (.array .int) true := ⟨9, _, RX9, TX9, 52, tyX9, rfl, rfl, rfl, by decide, wiX9_comeUnknown_9, tyX9_ok, nmX9, rfl, rfl, Or.inl ⟨by decide +kernel, fun _ => rfl⟩⟩
theorem fX9_comeUnknown_57 : mFld wsX9_comeUnknown RX9 57 10 29 24 (.array .int) true := ⟨9, _, RX9, TX9, 52, tyX9, rfl, rfl, rfl, by decide, wiX9_comeUnknown_9, tyX9_ok, nmX9, rfl, rfl, Or.inl ⟨by decide +kernel, fun _ => rfl⟩⟩
theorem fX9_comeUnknown_7 : mFld wsX9_comeUnknown RX9 7 10 2 12 (.array .int) true := ⟨9, _, RX9, TX9, 52, tyX9, rfl, rfl, rfl, by decide, wiX9_comeUnknown_9, tyX9_ok, nmX9, rfl, rfl, Or.inl ⟨by decide +kernel, fun _ => rfl⟩⟩
theorem fX9_comeUnknown_148 : mFld wsX9_comeUnknown RX9 148 10 7 0 .int false := ⟨9, _, RX9, TX9, 52, tyX9, rfl, rfl, rfl, by decide, wiX9_comeUnknown_9, tyX9_ok, nmX9, rfl, rfl, Or.inl ⟨by decide +kernel, fun _ => rfl⟩⟩
theorem fX9_comeUnknown_44 : mFld wsX9_comeUnknown RX9 44 10 24 15 (.array .int) true := ⟨9, _, RX9, TX9, 52, tyX9, rfl, rfl, rfl, by decide, wiX9_comeUnknown_9, tyX9_ok, nmX9, rfl, rfl, Or.inl ⟨by decide +kernel, fun _ => rfl⟩⟩
theorem fX9_comeUnknown_165 : mFld wsX9_comeUnknown RX9 165 10 11 0 .boolean false := ⟨9, _, RX9, TX9, 52, tyX9, rfl, rfl, rfl, by decide, wiX9_comeUnknown_9, tyX9_ok, nmX9, rfl, rfl, Or.inl ⟨by decide +kernel, fun _ => rfl⟩⟩
def bX9_comeUnknown_75 (v0 : Nat) (v1 : Int32) (v2 : Int32) (v3 : Int32) (v4 : Int32) (u : mSt) (K : mSt → Prop) (KL32 : Nat → Int32 → Int32 → Int32 → Int32 → mSt → Prop) : Prop := (∀ x_1, x_1 = v4 + (1 : Int32) → KL32 v0 v1 v2 v3 x_1 u)
set_option maxRecDepth 100000 in
set_option maxHeartbeats 4000000 in
theorem tX9_comeUnknown_75 {X : mCx} {G : mG} {u0 : mSt} {K : mSt → Prop} {KL32 : Nat → Int32 → Int32 → Int32 → Int32 → mSt → Prop} (F : mFx X G cX9_comeUnknown wsX9_comeUnknown RX9 "comeUnknown" 2 42 none u0 (mPv K)) (hN : X.2.2.2.2.2.2.2.2.2.2.2.2.1 = 7) (hL32 : ∀ {v0 : Nat} {v1 : Int32} {v2 : Int32} {v3 : Int32} {v4 : Int32} {u : mSt}, mK u v0 = 10 → KL32 v0 v1 v2 v3 v4 u → mZ X u 32 [(0, .ref (G.1 + v0)), (1, .int v1), (2, .int v2), (3, .int v3), (4, .int v4)] []) {v0 : Nat} {v1 : Int32} {v2 : Int32} {v3 : Int32} {v4 : Int32} {u : mSt} (kv0 : mK u v0 = 10) (h : bX9_comeUnknown_75 v0 v1 v2 v3 v4 u K KL32) : mZ X u 75 [(0, .ref (G.1 + v0)), (1, .int v1), (2, .int v2), (3, .int v3), (4, .int v4)] [] := by
  obtain ⟨x_1, ex_1⟩ : ∃ y : Int32, y = v4 + (1 : Int32) := ⟨_, rfl⟩
  replace h := h x_1 ex_1
  refine mz_iinc (v := x_1) (lv2 := [(4, .int x_1), (0, .ref (G.1 + v0)), (1, .int v1), (2, .int v2), (3, .int v3)]) F dX9_comeUnknown_75 4 rfl (by rw [ex_1]; rfl) hN (by decide) rfl ?_
  refine mz_goto (tgt := 32) F dX9_comeUnknown_78 (by decide) ?_
  refine mz_sub [1, 2, 3, 4, 0] rfl ?_
  exact hL32 kv0 h
def bX9_comeUnknown_182 : Nat → Nat → Int32 → Int32 → Int32 → mSt → (mSt → Prop) → Prop
  | 0, _, _, _, _, _, _ => False
  | n + 1, v0, v4, v5, v6, u, K => (((5 : Int32) ≤ v6 → K u) ∧ (¬ ((5 : Int32) ≤ v6) → (∃ q_1, mR u v0 30 = some q_1 ∧ (vp_in ((((30 : Int32) * v5) + ((5 : Int32) * v4)) + v6) 4500 ∧ ∀ u_3, u_3 = mpI u q_1 ((((30 : Int32) * v5) + ((5 : Int32) * v4)) + v6).toNatClampNeg (-3 : Int32) → (∀ x_4, x_4 = v6 + (1 : Int32) → bX9_comeUnknown_182 n v0 v4 v5 x_4 u_3 K)))))
set_option maxRecDepth 100000 in
set_option maxHeartbeats 4000000 in
theorem tX9_comeUnknown_182 {X : mCx} {G : mG} {u0 : mSt} {K : mSt → Prop} (F : mFx X G cX9_comeUnknown wsX9_comeUnknown RX9 "comeUnknown" 2 42 none u0 (mPv K)) (hN : X.2.2.2.2.2.2.2.2.2.2.2.2.1 = 7) : ∀ (n : Nat) {v0 : Nat} {v4 : Int32} {v5 : Int32} {v6 : Int32} {u : mSt}, mK u v0 = 10 → bX9_comeUnknown_182 n v0 v4 v5 v6 u K → mZ X u 182 [(0, .ref (G.1 + v0)), (4, .int v4), (5, .int v5), (6, .int v6)] [] := by
  intro n
  induction n with
  | zero => intro v0 v4 v5 v6 u kv0 h; exact False.elim h
  | succ n ih =>
    intro v0 v4 v5 v6 u kv0 h
    refine mz_iload F dX9_comeUnknown_182 3 rfl ?_
    refine mz_iconst (v := 5) F dX9_comeUnknown_184 (by decide) ?_
    refine mz_icmp_ge (tgt := 214) F dX9_comeUnknown_185 (by decide) (fun c_5 => ?_) (fun c_5 => ?_)
    · replace h := h.1 c_5
      exact mz_vret F dX9_comeUnknown_214 ⟨rfl, h⟩
    · replace h := h.2 c_5
      refine mz_aload_n F dX9_comeUnknown_188 rfl 0 rfl ?_
      obtain ⟨q_1, eq_1, h⟩ := h
      refine mz_getR F dX9_comeUnknown_189 fX9_comeUnknown_60 (by decide) kv0 eq_1 (fun kq_1 => ?_)
      refine mz_bipush (v := 30) F dX9_comeUnknown_192 (by decide) ?_
      refine mz_iload F dX9_comeUnknown_194 2 rfl ?_
      refine mz_imul F dX9_comeUnknown_196 ?_
      refine mz_iconst (v := 5) F dX9_comeUnknown_197 (by decide) ?_
      refine mz_iload F dX9_comeUnknown_198 1 rfl ?_
      refine mz_imul F dX9_comeUnknown_200 ?_
      refine mz_iadd F dX9_comeUnknown_201 ?_
      refine mz_iload F dX9_comeUnknown_202 3 rfl ?_
      refine mz_iadd F dX9_comeUnknown_204 ?_
      refine mz_bipush (v := (-3)) F dX9_comeUnknown_205 (by decide) ?_
      obtain ⟨b_2, h⟩ := h
      refine mz_iast F dX9_comeUnknown_207 kq_1 rfl b_2 (fun u_3 eu_3 hxu_3 => ?_)
      replace h := h u_3 eu_3
      replace kv0 := hxu_3.2.2 _ _ (by decide) kv0
      obtain ⟨x_4, ex_4⟩ : ∃ y : Int32, y = v6 + (1 : Int32) := ⟨_, rfl⟩
      replace h := h x_4 ex_4
      refine mz_iinc (v := x_4) (lv2 := [(6, .int x_4), (0, .ref (G.1 + v0)), (4, .int v4), (5, .int v5)]) F dX9_comeUnknown_208 3 rfl (by rw [ex_4]; rfl) hN (by decide) rfl ?_
      refine mz_goto (tgt := 182) F dX9_comeUnknown_211 (by decide) ?_
      refine mz_sub [1, 2, 3, 0] rfl ?_
      exact ih kv0 h
def bX9_comeUnknown_81 (v0 : Nat) (v1 : Int32) (v2 : Int32) (v3 : Int32) (u : mSt) (K : mSt → Prop) : Prop := (∃ q_1, mR u v0 21 = some q_1 ∧ (vp_in v1 150 ∧ (((mI u v0 18) ≤ (mI u q_1 v1.toNatClampNeg) → K u) ∧ (¬ ((mI u v0 18) ≤ (mI u q_1 v1.toNatClampNeg)) → bX9_liesHere v0 u (fun r_5 u_4 => ((r_5 = 0 → (((mI u_4 v0 20) = 0 → (∃ q_6, mR u_4 v0 21 = some q_6 ∧ (vp_in v1 150 ∧ (∀ x_8, x_8 = (mI u_4 q_6 v1.toNatClampNeg) → bX9_come v0 v1 x_8 u_4 (fun u_10 => bX9_learn v0 v3 v2 x_8 u_10 (fun u_12 => (((mI u_12 v0 20) = 0 → (∀ x_13, x_13 = ((mI u_12 v0 27) - (1 : Int32)) → (∃ q_14, mR u_12 v0 28 = some q_14 ∧ (vp_in x_13 150 ∧ ∀ u_16, u_16 = mpI u_12 q_14 x_13.toNatClampNeg (x_8 + (1 : Int32)) → (∃ q_17, mR u_16 v0 29 = some q_17 ∧ (∃ q_18, mR u_16 v0 2 = some q_18 ∧ (vp_in (mI u_16 v0 7) 10 ∧ (vp_in (((6 : Int32) * x_13) + x_8) 900 ∧ ∀ u_21, u_21 = mpI u_16 q_17 (((6 : Int32) * x_13) + x_8).toNatClampNeg (mI u_16 q_18 (mI u_16 v0 7).toNatClampNeg) → (∃ n9, bX9_comeUnknown_182 n9 v0 x_8 x_13 (0 : Int32) u_21 K))))))))) ∧ (¬ ((mI u_12 v0 20) = 0) → K u_12)))))))) ∧ (¬ ((mI u_4 v0 20) = 0) → K u_4))) ∧ (¬ (r_5 = 0) → K u_4)))))))
set_option maxRecDepth 100000 in
set_option maxHeartbeats 4000000 in
theorem tX9_comeUnknown_81 {X : mCx} {G : mG} {u0 : mSt} {K : mSt → Prop} (F : mFx X G cX9_comeUnknown wsX9_comeUnknown RX9 "comeUnknown" 2 42 none u0 (mPv K)) (hN : X.2.2.2.2.2.2.2.2.2.2.2.2.1 = 7) {v0 : Nat} {v1 : Int32} {v2 : Int32} {v3 : Int32} {u : mSt} (kv0 : mK u v0 = 10) (h : bX9_comeUnknown_81 v0 v1 v2 v3 u K) : mZ X u 81 [(0, .ref (G.1 + v0)), (1, .int v1), (2, .int v2), (3, .int v3)] [] := by
  refine mz_aload_n F dX9_comeUnknown_81 rfl 0 rfl ?_
  obtain ⟨q_1, eq_1, h⟩ := h
  refine mz_getR F dX9_comeUnknown_82 fX9_comeUnknown_35 (by decide) kv0 eq_1 (fun kq_1 => ?_)
  refine mz_iload_n F dX9_comeUnknown_85 rfl 1 rfl ?_
  obtain ⟨b_2, h⟩ := h
  refine mz_iald F dX9_comeUnknown_86 kq_1 rfl b_2 ?_
  refine mz_aload_n F dX9_comeUnknown_87 rfl 0 rfl ?_
  refine mz_getI F dX9_comeUnknown_88 fX9_comeUnknown_174 kv0 ?_
  refine mz_icmp_ge (tgt := 214) F dX9_comeUnknown_91 (by decide) (fun c_25 => ?_) (fun c_25 => ?_)
  · replace h := h.1 c_25
    exact mz_vret F dX9_comeUnknown_214 ⟨rfl, h⟩
  · replace h := h.2 c_25
    refine mz_aload_n F dX9_comeUnknown_94 rfl 0 rfl ?_
    refine mz_callV (As := []) (n := 0) F dX9_comeUnknown_95 rfl kv0 rfl rfl gX9_comeUnknown_X9_liesHere (by decide +kernel) (by decide) rfl (Nat.le_of_ble_eq_true rfl) (kX9_liesHere _ G kv0 h) (mz_kZ fun r_5 u_4 br_5 h hx_3 => ?_)
    replace kv0 := hx_3.2.2 _ _ (by decide) kv0
    refine mz_if_ne (tgt := 214) F dX9_comeUnknown_98 (by decide) (fun c_24 => ?_) (fun c_24 => ?_)
    · replace h := h.2 c_24
      exact mz_vret F dX9_comeUnknown_214 ⟨rfl, h⟩
    · replace h := h.1 c_24
      refine mz_aload_n F dX9_comeUnknown_101 rfl 0 rfl ?_
      refine mz_getI F dX9_comeUnknown_102 fX9_comeUnknown_180 kv0 ?_
      refine mz_if_ne (tgt := 214) F dX9_comeUnknown_105 (by decide) (fun c_23 => ?_) (fun c_23 => ?_)
      · replace h := h.2 c_23
        exact mz_vret F dX9_comeUnknown_214 ⟨rfl, h⟩
      · replace h := h.1 c_23
        refine mz_aload_n F dX9_comeUnknown_108 rfl 0 rfl ?_
        obtain ⟨q_6, eq_6, h⟩ := h
        refine mz_getR F dX9_comeUnknown_109 fX9_comeUnknown_35 (by decide) kv0 eq_6 (fun kq_6 => ?_)
        refine mz_iload_n F dX9_comeUnknown_112 rfl 1 rfl ?_
        obtain ⟨b_7, h⟩ := h
        refine mz_iald F dX9_comeUnknown_113 kq_6 rfl b_7 ?_
        refine mz_topi (fun x_8 ex_8 => ?_)
        replace h := h x_8 ex_8
        refine mz_istore (lv2 := [(4, .int x_8), (0, .ref (G.1 + v0)), (1, .int v1), (2, .int v2), (3, .int v3)]) F dX9_comeUnknown_114 hN (by decide) rfl ?_
        refine mz_aload_n F dX9_comeUnknown_116 rfl 1 rfl ?_
        refine mz_iload_n F dX9_comeUnknown_117 rfl 2 rfl ?_
        refine mz_iload F dX9_comeUnknown_118 0 rfl ?_
        refine mz_callV (As := [_, _]) (n := 2) F dX9_comeUnknown_120 rfl kv0 rfl rfl gX9_comeUnknown_X9_come (by decide +kernel) (by decide) rfl (Nat.le_of_ble_eq_true rfl) (kX9_come _ G kv0 h) (mz_kV fun u_10 h hx_9 => ?_)
        replace kv0 := hx_9.2.2 _ _ (by decide) kv0
        refine mz_aload_n F dX9_comeUnknown_123 rfl 1 rfl ?_
        refine mz_iload_n F dX9_comeUnknown_124 rfl 4 rfl ?_
        refine mz_iload_n F dX9_comeUnknown_125 rfl 3 rfl ?_
        refine mz_iload F dX9_comeUnknown_126 0 rfl ?_
        refine mz_callV (As := [_, _, _]) (n := 3) F dX9_comeUnknown_128 rfl kv0 rfl rfl gX9_comeUnknown_X9_learn (by decide +kernel) (by decide) rfl (Nat.le_of_ble_eq_true rfl) (kX9_learn _ G kv0 h) (mz_kV fun u_12 h hx_11 => ?_)
        replace kv0 := hx_11.2.2 _ _ (by decide) kv0
        refine mz_aload_n F dX9_comeUnknown_131 rfl 1 rfl ?_
        refine mz_getI F dX9_comeUnknown_132 fX9_comeUnknown_180 kv0 ?_
        refine mz_if_ne (tgt := 214) F dX9_comeUnknown_135 (by decide) (fun c_22 => ?_) (fun c_22 => ?_)
        · replace h := h.2 c_22
          exact mz_vret F dX9_comeUnknown_214 ⟨rfl, h⟩
        · replace h := h.1 c_22
          refine mz_aload_n F dX9_comeUnknown_138 rfl 1 rfl ?_
          refine mz_getI F dX9_comeUnknown_139 fX9_comeUnknown_183 kv0 ?_
          refine mz_iconst (v := 1) F dX9_comeUnknown_142 (by decide) ?_
          refine mz_isub F dX9_comeUnknown_143 ?_
          refine mz_topi (fun x_13 ex_13 => ?_)
          replace h := h x_13 ex_13
          refine mz_istore (lv2 := [(5, .int x_13), (4, .int x_8), (0, .ref (G.1 + v0)), (1, .int v1), (2, .int v2), (3, .int v3)]) F dX9_comeUnknown_144 hN (by decide) rfl ?_
          refine mz_aload_n F dX9_comeUnknown_146 rfl 2 rfl ?_
          obtain ⟨q_14, eq_14, h⟩ := h
          refine mz_getR F dX9_comeUnknown_147 fX9_comeUnknown_54 (by decide) kv0 eq_14 (fun kq_14 => ?_)
          refine mz_iload F dX9_comeUnknown_150 0 rfl ?_
          refine mz_iload F dX9_comeUnknown_152 1 rfl ?_
          refine mz_iconst (v := 1) F dX9_comeUnknown_154 (by decide) ?_
          refine mz_iadd F dX9_comeUnknown_155 ?_
          obtain ⟨b_15, h⟩ := h
          refine mz_iast F dX9_comeUnknown_156 kq_14 rfl b_15 (fun u_16 eu_16 hxu_16 => ?_)
          replace h := h u_16 eu_16
          replace kv0 := hxu_16.2.2 _ _ (by decide) kv0
          refine mz_aload_n F dX9_comeUnknown_157 rfl 2 rfl ?_
          obtain ⟨q_17, eq_17, h⟩ := h
          refine mz_getR F dX9_comeUnknown_158 fX9_comeUnknown_57 (by decide) kv0 eq_17 (fun kq_17 => ?_)
          refine mz_bipush (v := 6) F dX9_comeUnknown_161 (by decide) ?_
          refine mz_iload F dX9_comeUnknown_163 0 rfl ?_
          refine mz_imul F dX9_comeUnknown_165 ?_
          refine mz_iload F dX9_comeUnknown_166 1 rfl ?_
          refine mz_iadd F dX9_comeUnknown_168 ?_
          refine mz_aload_n F dX9_comeUnknown_169 rfl 2 rfl ?_
          obtain ⟨q_18, eq_18, h⟩ := h
          refine mz_getR F dX9_comeUnknown_170 fX9_comeUnknown_7 (by decide) kv0 eq_18 (fun kq_18 => ?_)
          refine mz_aload_n F dX9_comeUnknown_173 rfl 2 rfl ?_
          refine mz_getI F dX9_comeUnknown_174 fX9_comeUnknown_148 kv0 ?_
          obtain ⟨b_19, h⟩ := h
          refine mz_iald F dX9_comeUnknown_177 kq_18 rfl b_19 ?_
          obtain ⟨b_20, h⟩ := h
          refine mz_iast F dX9_comeUnknown_178 kq_17 rfl b_20 (fun u_21 eu_21 hxu_21 => ?_)
          replace h := h u_21 eu_21
          replace kv0 := hxu_21.2.2 _ _ (by decide) kv0
          refine mz_iconst (v := 0) F dX9_comeUnknown_179 (by decide) ?_
          refine mz_istore (lv2 := [(6, .int (0 : Int32)), (5, .int x_13), (4, .int x_8), (0, .ref (G.1 + v0)), (1, .int v1), (2, .int v2), (3, .int v3)]) F dX9_comeUnknown_180 hN (by decide) rfl ?_
          refine mz_sub [3, 2, 1, 0] rfl ?_
          obtain ⟨n9, h⟩ := h
          exact tX9_comeUnknown_182 F hN n9 kv0 h
def bX9_comeUnknown_32 : Nat → Nat → Int32 → Int32 → Int32 → Int32 → mSt → (mSt → Prop) → Prop
  | 0, _, _, _, _, _, _, _ => False
  | n + 1, v0, v1, v2, v3, v4, u, K => (∃ q_1, mR u v0 21 = some q_1 ∧ (vp_in v1 150 ∧ (((mI u q_1 v1.toNatClampNeg) ≤ v4 → bX9_comeUnknown_81 v0 v1 v2 v3 u K) ∧ (¬ ((mI u q_1 v1.toNatClampNeg) ≤ v4) → (((mI u v0 20) = 0 → bX9_fits v0 v1 v4 u (fun r_5 u_4 => ((r_5 = 0 → bX9_comeUnknown_75 v0 v1 v2 v3 v4 u_4 K (fun z0 z1 z2 z3 z4 z5 => bX9_comeUnknown_32 n z0 z1 z2 z3 z4 z5 K)) ∧ (¬ (r_5 = 0) → bX9_come v0 v1 v4 u_4 (fun u_7 => bX9_learn v0 v3 v2 v4 u_7 (fun u_9 => bX9_comeUnknown_75 v0 v1 v2 v3 v4 u_9 K (fun z0 z1 z2 z3 z4 z5 => bX9_comeUnknown_32 n z0 z1 z2 z3 z4 z5 K))))))) ∧ (¬ ((mI u v0 20) = 0) → bX9_comeUnknown_81 v0 v1 v2 v3 u K))))))
set_option maxRecDepth 100000 in
set_option maxHeartbeats 4000000 in
theorem tX9_comeUnknown_32 {X : mCx} {G : mG} {u0 : mSt} {K : mSt → Prop} (F : mFx X G cX9_comeUnknown wsX9_comeUnknown RX9 "comeUnknown" 2 42 none u0 (mPv K)) (hN : X.2.2.2.2.2.2.2.2.2.2.2.2.1 = 7) : ∀ (n : Nat) {v0 : Nat} {v1 : Int32} {v2 : Int32} {v3 : Int32} {v4 : Int32} {u : mSt}, mK u v0 = 10 → bX9_comeUnknown_32 n v0 v1 v2 v3 v4 u K → mZ X u 32 [(0, .ref (G.1 + v0)), (1, .int v1), (2, .int v2), (3, .int v3), (4, .int v4)] [] := by
  intro n
  induction n with
  | zero => intro v0 v1 v2 v3 v4 u kv0 h; exact False.elim h
  | succ n ih =>
    intro v0 v1 v2 v3 v4 u kv0 h
    refine mz_iload F dX9_comeUnknown_32 4 rfl ?_
    refine mz_aload_n F dX9_comeUnknown_34 rfl 0 rfl ?_
    obtain ⟨q_1, eq_1, h⟩ := h
    refine mz_getR F dX9_comeUnknown_35 fX9_comeUnknown_35 (by decide) kv0 eq_1 (fun kq_1 => ?_)
    refine mz_iload_n F dX9_comeUnknown_38 rfl 1 rfl ?_
    obtain ⟨b_2, h⟩ := h
    refine mz_iald F dX9_comeUnknown_39 kq_1 rfl b_2 ?_
    refine mz_icmp_ge (tgt := 81) F dX9_comeUnknown_40 (by decide) (fun c_12 => ?_) (fun c_12 => ?_)
    · replace h := h.1 c_12
      refine mz_sub [0, 1, 2, 3] rfl ?_
      exact tX9_comeUnknown_81 F hN kv0 h
    · replace h := h.2 c_12
      refine mz_aload_n F dX9_comeUnknown_43 rfl 0 rfl ?_
      refine mz_getI F dX9_comeUnknown_44 fX9_comeUnknown_180 kv0 ?_
      refine mz_if_ne (tgt := 81) F dX9_comeUnknown_47 (by decide) (fun c_11 => ?_) (fun c_11 => ?_)
      · replace h := h.2 c_11
        refine mz_sub [0, 1, 2, 3] rfl ?_
        exact tX9_comeUnknown_81 F hN kv0 h
      · replace h := h.1 c_11
        refine mz_aload_n F dX9_comeUnknown_50 rfl 0 rfl ?_
        refine mz_iload_n F dX9_comeUnknown_51 rfl 1 rfl ?_
        refine mz_iload F dX9_comeUnknown_52 4 rfl ?_
        refine mz_callV (As := [_, _]) (n := 2) F dX9_comeUnknown_54 rfl kv0 rfl rfl gX9_comeUnknown_X9_fits (by decide +kernel) (by decide) rfl (Nat.le_of_ble_eq_true rfl) (kX9_fits _ G kv0 h) (mz_kZ fun r_5 u_4 br_5 h hx_3 => ?_)
        replace kv0 := hx_3.2.2 _ _ (by decide) kv0
        refine mz_if_eq (tgt := 75) F dX9_comeUnknown_57 (by decide) (fun c_10 => ?_) (fun c_10 => ?_)
        · replace h := h.1 c_10
          refine mz_sub [0, 1, 2, 3, 4] rfl ?_
          exact tX9_comeUnknown_75 F hN (fun k0 h => ih k0 h) kv0 h
        · replace h := h.2 c_10
          refine mz_aload_n F dX9_comeUnknown_60 rfl 0 rfl ?_
          refine mz_iload_n F dX9_comeUnknown_61 rfl 1 rfl ?_
          refine mz_iload F dX9_comeUnknown_62 4 rfl ?_
          refine mz_callV (As := [_, _]) (n := 2) F dX9_comeUnknown_64 rfl kv0 rfl rfl gX9_comeUnknown_X9_come (by decide +kernel) (by decide) rfl (Nat.le_of_ble_eq_true rfl) (kX9_come _ G kv0 h) (mz_kV fun u_7 h hx_6 => ?_)
          replace kv0 := hx_6.2.2 _ _ (by decide) kv0
          refine mz_aload_n F dX9_comeUnknown_67 rfl 0 rfl ?_
          refine mz_iload_n F dX9_comeUnknown_68 rfl 3 rfl ?_
          refine mz_iload_n F dX9_comeUnknown_69 rfl 2 rfl ?_
          refine mz_iload F dX9_comeUnknown_70 4 rfl ?_
          refine mz_callV (As := [_, _, _]) (n := 3) F dX9_comeUnknown_72 rfl kv0 rfl rfl gX9_comeUnknown_X9_learn (by decide +kernel) (by decide) rfl (Nat.le_of_ble_eq_true rfl) (kX9_learn _ G kv0 h) (mz_kV fun u_9 h hx_8 => ?_)
          replace kv0 := hx_8.2.2 _ _ (by decide) kv0
          refine mz_sub [0, 1, 2, 3, 4] rfl ?_
          exact tX9_comeUnknown_75 F hN (fun k0 h => ih k0 h) kv0 h
def bX9_comeUnknown (this : Nat) (a1 : Int32) (a2 : Int32) (u : mSt) (K : mSt → Prop) : Prop := (∃ q_1, mR u this 24 = some q_1 ∧ (vp_in a1 150 ∧ (∀ x_3, x_3 = (mI u q_1 a1.toNatClampNeg) → (((mI u this 11) = 0 → (∃ n9, bX9_comeUnknown_32 n9 this a1 a2 x_3 (0 : Int32) u K)) ∧ (¬ ((mI u this 11) = 0) → bX9_come this a1 x_3 u (fun u_5 => bX9_learn this x_3 a2 (-2 : Int32) u_5 (fun u_7 => K u_7)))))))
set_option maxRecDepth 100000 in
set_option maxHeartbeats 4000000 in
theorem tX9_comeUnknown {X : mCx} {G : mG} {u0 : mSt} {K : mSt → Prop} (F : mFx X G cX9_comeUnknown wsX9_comeUnknown RX9 "comeUnknown" 2 42 none u0 (mPv K)) (hN : X.2.2.2.2.2.2.2.2.2.2.2.2.1 = 7) {this : Nat} {a1 : Int32} {a2 : Int32} {u : mSt} (kthis : mK u this = 10) (h : bX9_comeUnknown this a1 a2 u K) : mZ X u 0 [(0, .ref (G.1 + this)), (1, .int a1), (2, .int a2)] [] := by
  refine mz_aload_n F dX9_comeUnknown_0 rfl 0 rfl ?_
  obtain ⟨q_1, eq_1, h⟩ := h
  refine mz_getR F dX9_comeUnknown_1 fX9_comeUnknown_44 (by decide) kthis eq_1 (fun kq_1 => ?_)
  refine mz_iload_n F dX9_comeUnknown_4 rfl 1 rfl ?_
  obtain ⟨b_2, h⟩ := h
  refine mz_iald F dX9_comeUnknown_5 kq_1 rfl b_2 ?_
  refine mz_topi (fun x_3 ex_3 => ?_)
  replace h := h x_3 ex_3
  refine mz_istore_n (lv2 := [(3, .int x_3), (0, .ref (G.1 + this)), (1, .int a1), (2, .int a2)]) F dX9_comeUnknown_6 rfl hN (by decide) rfl ?_
  refine mz_aload_n F dX9_comeUnknown_7 rfl 1 rfl ?_
  refine mz_getI F dX9_comeUnknown_8 fX9_comeUnknown_165 kthis ?_
  refine mz_if_eq (tgt := 29) F dX9_comeUnknown_11 (by decide) (fun c_8 => ?_) (fun c_8 => ?_)
  · replace h := h.1 c_8
    refine mz_iconst (v := 0) F dX9_comeUnknown_29 (by decide) ?_
    refine mz_istore (lv2 := [(4, .int (0 : Int32)), (3, .int x_3), (0, .ref (G.1 + this)), (1, .int a1), (2, .int a2)]) F dX9_comeUnknown_30 hN (by decide) rfl ?_
    refine mz_sub [2, 3, 4, 1, 0] rfl ?_
    obtain ⟨n9, h⟩ := h
    exact tX9_comeUnknown_32 F hN n9 kthis h
  · replace h := h.2 c_8
    refine mz_aload_n F dX9_comeUnknown_14 rfl 1 rfl ?_
    refine mz_iload_n F dX9_comeUnknown_15 rfl 2 rfl ?_
    refine mz_iload_n F dX9_comeUnknown_16 rfl 0 rfl ?_
    refine mz_callV (As := [_, _]) (n := 2) F dX9_comeUnknown_17 rfl kthis rfl rfl gX9_comeUnknown_X9_come (by decide +kernel) (by decide) rfl (Nat.le_of_ble_eq_true rfl) (kX9_come _ G kthis h) (mz_kV fun u_5 h hx_4 => ?_)
    replace kthis := hx_4.2.2 _ _ (by decide) kthis
    refine mz_aload_n F dX9_comeUnknown_20 rfl 1 rfl ?_
    refine mz_iload_n F dX9_comeUnknown_21 rfl 0 rfl ?_
    refine mz_iload_n F dX9_comeUnknown_22 rfl 3 rfl ?_
    refine mz_bipush (v := (-2)) F dX9_comeUnknown_23 (by decide) ?_
    refine mz_callV (As := [_, _, _]) (n := 3) F dX9_comeUnknown_25 rfl kthis rfl rfl gX9_comeUnknown_X9_learn (by decide +kernel) (by decide) rfl (Nat.le_of_ble_eq_true rfl) (kX9_learn _ G kthis h) (mz_kV fun u_7 h hx_6 => ?_)
    exact mz_vret F dX9_comeUnknown_28 ⟨rfl, h⟩
set_option maxRecDepth 100000 in
theorem kX9_comeUnknown (l : Launch) (G : mG) {u : mSt} {K : mSt → Prop} {this : Nat} {a1 : Int32} {a2 : Int32} (kthis : mK u this = 10) (h : bX9_comeUnknown this a1 a2 u K) : mCt l G yX9_comeUnknown wsX9_comeUnknown 2 42 [.ref (G.1 + this), .int a1, .int a2] u (mPv K) := by
  refine mCt.of (cc := cX9_comeUnknown) (maxL := 7) (ret := none) (by decide) rfl (Nat.le_of_ble_eq_true rfl) ?_
  intro X hl hN F
  exact tX9_comeUnknown F hN kthis h
/-! RoomMapperModel.takeCome()V -/
theorem wiX9_takeCome_9 : ∀ w ∈ u_ws RX9 TX9 52, w ∈ wsX9_takeCome := by decide +kernel
theorem fX9_takeCome_168 : mFld wsX9_takeCome RX9 168 10 12 0 .int false := ⟨9, _, RX9, TX9, 52, tyX9, rfl, rfl, rfl, by decide, wiX9_takeCome_9, tyX9_ok, nmX9, rfl, rfl, Or.inl ⟨by decide +kernel, fun _ => rfl⟩⟩
theorem fX9_takeCome_50 : mFld wsX9_takeCome RX9 50 10 26 26 (.array .byte) true := ⟨9, _, RX9, TX9, 52, tyX9, rfl, rfl, rfl, by decide, wiX9_takeCome_9, tyX9_ok, nmX9, rfl, rfl, Or.inl ⟨by decide +kernel, fun _ => rfl⟩⟩
theorem fX9_takeCome_69 : mFld wsX9_takeCome RX9 69 10 33 26 (.array .byte) true := ⟨9, _, RX9, TX9, 52, tyX9, rfl, rfl, rfl, by decide, wiX9_takeCome_9, tyX9_ok, nmX9, rfl, rfl, Or.inl ⟨by decide +kernel, fun _ => rfl⟩⟩
theorem fX9_takeCome_41 : mFld wsX9_takeCome RX9 41 10 23 25 (.array .int) true := ⟨9, _, RX9, TX9, 52, tyX9, rfl, rfl, rfl, by decide, wiX9_takeCome_9, tyX9_ok, nmX9, rfl, rfl, Or.inl ⟨by decide +kernel, fun _ => rfl⟩⟩
theorem fX9_takeCome_60 : mFld wsX9_takeCome RX9 60 10 30 25 (.array .int) true := ⟨9, _, RX9, TX9, 52, tyX9, rfl, rfl, rfl, by decide, wiX9_takeCome_9, tyX9_ok, nmX9, rfl, rfl, Or.inl ⟨by decide +kernel, fun _ => rfl⟩⟩
theorem fX9_takeCome_38 : mFld wsX9_takeCome RX9 38 10 22 24 (.array .int) true := ⟨9, _, RX9, TX9, 52, tyX9, rfl, rfl, rfl, by decide, wiX9_takeCome_9, tyX9_ok, nmX9, rfl, rfl, Or.inl ⟨by decide +kernel, fun _ => rfl⟩⟩
theorem fX9_takeCome_57 : mFld wsX9_takeCome RX9 57 10 29 24 (.array .int) true := ⟨9, _, RX9, TX9, 52, tyX9, rfl, rfl, rfl, by decide, wiX9_takeCome_9, tyX9_ok, nmX9, rfl, rfl, Or.inl ⟨by decide +kernel, fun _ => rfl⟩⟩
theorem fX9_takeCome_177 : mFld wsX9_takeCome RX9 177 10 19 0 .int false := ⟨9, _, RX9, TX9, 52, tyX9, rfl, rfl, rfl, by decide, wiX9_takeCome_9, tyX9_ok, nmX9, rfl, rfl, Or.inl ⟨by decide +kernel, fun _ => rfl⟩⟩
theorem fX9_takeCome_35 : mFld wsX9_takeCome RX9 35 10 21 15 (.array .int) true := ⟨9, _, RX9, TX9, 52, tyX9, rfl, rfl, rfl, by decide, wiX9_takeCome_9, tyX9_ok, nmX9, rfl, rfl, Or.inl ⟨by decide +kernel, fun _ => rfl⟩⟩
theorem fX9_takeCome_54 : mFld wsX9_takeCome RX9 54 10 28 15 (.array .int) true := ⟨9, _, RX9, TX9, 52, tyX9, rfl, rfl, rfl, by decide, wiX9_takeCome_9, tyX9_ok, nmX9, rfl, rfl, Or.inl ⟨by decide +kernel, fun _ => rfl⟩⟩
theorem fX9_takeCome_44 : mFld wsX9_takeCome RX9 44 10 24 15 (.array .int) true := ⟨9, _, RX9, TX9, 52, tyX9, rfl, rfl, rfl, by decide, wiX9_takeCome_9, tyX9_ok, nmX9, rfl, rfl, Or.inl ⟨by decide +kernel, fun _ => rfl⟩⟩
theorem fX9_takeCome_63 : mFld wsX9_takeCome RX9 63 10 31 15 (.array .int) true := ⟨9, _, RX9, TX9, 52, tyX9, rfl, rfl, rfl, by decide, wiX9_takeCome_9, tyX9_ok, nmX9, rfl, rfl, Or.inl ⟨by decide +kernel, fun _ => rfl⟩⟩
theorem fX9_takeCome_47 : mFld wsX9_takeCome RX9 47 10 25 15 (.array .int) true := ⟨9, _, RX9, TX9, 52, tyX9, rfl, rfl, rfl, by decide, wiX9_takeCome_9, tyX9_ok, nmX9, rfl, rfl, Or.inl ⟨by decide +kernel, fun _ => rfl⟩⟩
theorem fX9_takeCome_66 : mFld wsX9_takeCome RX9 66 10 32 15 (.array .int) true := ⟨9, _, RX9, TX9, 52, tyX9, rfl, rfl, rfl, by decide, wiX9_takeCome_9, tyX9_ok, nmX9, rfl, rfl, Or.inl ⟨by decide +kernel, fun _ => rfl⟩⟩
theorem fX9_takeCome_180 : mFld wsX9_takeCome RX9 180 10 20 0 .boolean false := ⟨9, _, RX9, TX9, 52, tyX9, rfl, rfl, rfl, by decide, wiX9_takeCome_9, tyX9_ok, nmX9, rfl, rfl, Or.inl ⟨by decide +kernel, fun _ => rfl⟩⟩
theorem fX9_takeCome_183 : mFld wsX9_takeCome RX9 183 10 27 0 .int false := ⟨9, _, RX9, TX9, 52, tyX9, rfl, rfl, rfl, by decide, wiX9_takeCome_9, tyX9_ok, nmX9, rfl, rfl, Or.inl ⟨by decide +kernel, fun _ => rfl⟩⟩
def bX9_takeCome_139 : Nat → Nat → Int32 → Int32 → mSt → (mSt → Prop) → (Nat → Int32 → mSt → Prop) → Prop
  | 0, _, _, _, _, _, _ => False
  | n + 1, v0, v1, v2, u, K, KL21 => (((mI u v0 12) < v2 → (∀ x_1, x_1 = v1 + (1 : Int32) → KL21 v0 x_1 u)) ∧ (¬ ((mI u v0 12) < v2) → (∃ q_2, mR u v0 26 = some q_2 ∧ (∃ q_3, mR u v0 33 = some q_3 ∧ (vp_in (((201 : Int32) * v1) + v2) 30150 ∧ (vp_in (((201 : Int32) * v1) + v2) 30150 ∧ ∀ u_6, u_6 = mpI u q_2 (((201 : Int32) * v1) + v2).toNatClampNeg (vp_nar .byte (mI u q_3 (((201 : Int32) * v1) + v2).toNatClampNeg)) → (∀ x_7, x_7 = v2 + (1 : Int32) → bX9_takeCome_139 n v0 v1 x_7 u_6 K KL21)))))))
set_option maxRecDepth 100000 in
set_option maxHeartbeats 4000000 in
theorem tX9_takeCome_139 {X : mCx} {G : mG} {u0 : mSt} {K : mSt → Prop} {KL21 : Nat → Int32 → mSt → Prop} (F : mFx X G cX9_takeCome wsX9_takeCome RX9 "takeCome" 0 0 none u0 (mPv K)) (hN : X.2.2.2.2.2.2.2.2.2.2.2.2.1 = 3) (hL21 : ∀ {v0 : Nat} {v1 : Int32} {u : mSt}, mK u v0 = 10 → KL21 v0 v1 u → mZ X u 21 [(0, .ref (G.1 + v0)), (1, .int v1)] []) : ∀ (n : Nat) {v0 : Nat} {v1 : Int32} {v2 : Int32} {u : mSt}, mK u v0 = 10 → bX9_takeCome_139 n v0 v1 v2 u K KL21 → mZ X u 139 [(0, .ref (G.1 + v0)), (1, .int v1), (2, .int v2)] [] := by
  intro n
  induction n with
  | zero => intro v0 v1 v2 u kv0 h; exact False.elim h
  | succ n ih =>
    intro v0 v1 v2 u kv0 h
    refine mz_iload_n F dX9_takeCome_139 rfl 2 rfl ?_
    refine mz_aload_n F dX9_takeCome_140 rfl 0 rfl ?_
    refine mz_getI F dX9_takeCome_141 fX9_takeCome_168 kv0 ?_
    refine mz_icmp_gt (tgt := 177) F dX9_takeCome_144 (by decide) (fun c_8 => ?_) (fun c_8 => ?_)
    · replace h := h.1 c_8
      obtain ⟨x_1, ex_1⟩ : ∃ y : Int32, y = v1 + (1 : Int32) := ⟨_, rfl⟩
      replace h := h x_1 ex_1
      refine mz_iinc (v := x_1) (lv2 := [(1, .int x_1), (0, .ref (G.1 + v0)), (2, .int v2)]) F dX9_takeCome_177 1 rfl (by rw [ex_1]; rfl) hN (by decide) rfl ?_
      refine mz_goto (tgt := 21) F dX9_takeCome_180 (by decide) ?_
      refine mz_sub [1, 0] rfl ?_
      exact hL21 kv0 h
    · replace h := h.2 c_8
      refine mz_aload_n F dX9_takeCome_147 rfl 0 rfl ?_
      obtain ⟨q_2, eq_2, h⟩ := h
      refine mz_getR F dX9_takeCome_148 fX9_takeCome_50 (by decide) kv0 eq_2 (fun kq_2 => ?_)
      refine mz_sipush (v := 201) F dX9_takeCome_151 (by decide) ?_
      refine mz_iload_n F dX9_takeCome_154 rfl 1 rfl ?_
      refine mz_imul F dX9_takeCome_155 ?_
      refine mz_iload_n F dX9_takeCome_156 rfl 2 rfl ?_
      refine mz_iadd F dX9_takeCome_157 ?_
      refine mz_aload_n F dX9_takeCome_158 rfl 0 rfl ?_
      obtain ⟨q_3, eq_3, h⟩ := h
      refine mz_getR F dX9_takeCome_159 fX9_takeCome_69 (by decide) kv0 eq_3 (fun kq_3 => ?_)
      refine mz_sipush (v := 201) F dX9_takeCome_162 (by decide) ?_
      refine mz_iload_n F dX9_takeCome_165 rfl 1 rfl ?_
      refine mz_imul F dX9_takeCome_166 ?_
      refine mz_iload_n F dX9_takeCome_167 rfl 2 rfl ?_
      refine mz_iadd F dX9_takeCome_168 ?_
      obtain ⟨b_4, h⟩ := h
      refine mz_bald F dX9_takeCome_169 kq_3 rfl b_4 ?_
      obtain ⟨b_5, h⟩ := h
      refine mz_bast F dX9_takeCome_170 kq_2 rfl b_5 (fun u_6 eu_6 hxu_6 => ?_)
      replace h := h u_6 eu_6
      replace kv0 := hxu_6.2.2 _ _ (by decide) kv0
      obtain ⟨x_7, ex_7⟩ : ∃ y : Int32, y = v2 + (1 : Int32) := ⟨_, rfl⟩
      replace h := h x_7 ex_7
      refine mz_iinc (v := x_7) (lv2 := [(2, .int x_7), (0, .ref (G.1 + v0)), (1, .int v1)]) F dX9_takeCome_171 2 rfl (by rw [ex_7]; rfl) hN (by decide) rfl ?_
      refine mz_goto (tgt := 139) F dX9_takeCome_174 (by decide) ?_
      refine mz_sub [1, 2, 0] rfl ?_
      exact ih kv0 h
def bX9_takeCome_103 : Nat → Nat → Int32 → Int32 → mSt → (mSt → Prop) → (Nat → Int32 → mSt → Prop) → Prop
  | 0, _, _, _, _, _, _ => False
  | n + 1, v0, v1, v2, u, K, KL21 => (((30 : Int32) ≤ v2 → (∃ n9, bX9_takeCome_139 n9 v0 v1 (0 : Int32) u K KL21)) ∧ (¬ ((30 : Int32) ≤ v2) → (∃ q_1, mR u v0 23 = some q_1 ∧ (∃ q_2, mR u v0 30 = some q_2 ∧ (vp_in (((30 : Int32) * v1) + v2) 4500 ∧ (vp_in (((30 : Int32) * v1) + v2) 4500 ∧ ∀ u_5, u_5 = mpI u q_1 (((30 : Int32) * v1) + v2).toNatClampNeg (mI u q_2 (((30 : Int32) * v1) + v2).toNatClampNeg) → (∀ x_6, x_6 = v2 + (1 : Int32) → bX9_takeCome_103 n v0 v1 x_6 u_5 K KL21)))))))
set_option maxRecDepth 100000 in
set_option maxHeartbeats 4000000 in
theorem tX9_takeCome_103 {X : mCx} {G : mG} {u0 : mSt} {K : mSt → Prop} {KL21 : Nat → Int32 → mSt → Prop} (F : mFx X G cX9_takeCome wsX9_takeCome RX9 "takeCome" 0 0 none u0 (mPv K)) (hN : X.2.2.2.2.2.2.2.2.2.2.2.2.1 = 3) (hL21 : ∀ {v0 : Nat} {v1 : Int32} {u : mSt}, mK u v0 = 10 → KL21 v0 v1 u → mZ X u 21 [(0, .ref (G.1 + v0)), (1, .int v1)] []) : ∀ (n : Nat) {v0 : Nat} {v1 : Int32} {v2 : Int32} {u : mSt}, mK u v0 = 10 → bX9_takeCome_103 n v0 v1 v2 u K KL21 → mZ X u 103 [(0, .ref (G.1 + v0)), (1, .int v1), (2, .int v2)] [] := by
  intro n
  induction n with
  | zero => intro v0 v1 v2 u kv0 h; exact False.elim h
  | succ n ih =>
    intro v0 v1 v2 u kv0 h
    refine mz_iload_n F dX9_takeCome_103 rfl 2 rfl ?_
    refine mz_bipush (v := 30) F dX9_takeCome_104 (by decide) ?_
    refine mz_icmp_ge (tgt := 137) F dX9_takeCome_106 (by decide) (fun c_7 => ?_) (fun c_7 => ?_)
    · replace h := h.1 c_7
      refine mz_iconst (v := 0) F dX9_takeCome_137 (by decide) ?_
      refine mz_istore_n (lv2 := [(2, .int (0 : Int32)), (0, .ref (G.1 + v0)), (1, .int v1)]) F dX9_takeCome_138 rfl hN (by decide) rfl ?_
      refine mz_sub [1, 2, 0] rfl ?_
      obtain ⟨n9, h⟩ := h
      exact tX9_takeCome_139 F hN hL21 n9 kv0 h
    · replace h := h.2 c_7
      refine mz_aload_n F dX9_takeCome_109 rfl 0 rfl ?_
      obtain ⟨q_1, eq_1, h⟩ := h
      refine mz_getR F dX9_takeCome_110 fX9_takeCome_41 (by decide) kv0 eq_1 (fun kq_1 => ?_)
      refine mz_bipush (v := 30) F dX9_takeCome_113 (by decide) ?_
      refine mz_iload_n F dX9_takeCome_115 rfl 1 rfl ?_
      refine mz_imul F dX9_takeCome_116 ?_
      refine mz_iload_n F dX9_takeCome_117 rfl 2 rfl ?_
      refine mz_iadd F dX9_takeCome_118 ?_
      refine mz_aload_n F dX9_takeCome_119 rfl 0 rfl ?_
      obtain ⟨q_2, eq_2, h⟩ := h
      refine mz_getR F dX9_takeCome_120 fX9_takeCome_60 (by decide) kv0 eq_2 (fun kq_2 => ?_)
      refine mz_bipush (v := 30) F dX9_takeCome_123 (by decide) ?_
      refine mz_iload_n F dX9_takeCome_125 rfl 1 rfl ?_
      refine mz_imul F dX9_takeCome_126 ?_
      refine mz_iload_n F dX9_takeCome_127 rfl 2 rfl ?_
      refine mz_iadd F dX9_takeCome_128 ?_
      obtain ⟨b_3, h⟩ := h
      refine mz_iald F dX9_takeCome_129 kq_2 rfl b_3 ?_
      obtain ⟨b_4, h⟩ := h
      refine mz_iast F dX9_takeCome_130 kq_1 rfl b_4 (fun u_5 eu_5 hxu_5 => ?_)
      replace h := h u_5 eu_5
      replace kv0 := hxu_5.2.2 _ _ (by decide) kv0
      obtain ⟨x_6, ex_6⟩ : ∃ y : Int32, y = v2 + (1 : Int32) := ⟨_, rfl⟩
      replace h := h x_6 ex_6
      refine mz_iinc (v := x_6) (lv2 := [(2, .int x_6), (0, .ref (G.1 + v0)), (1, .int v1)]) F dX9_takeCome_131 2 rfl (by rw [ex_6]; rfl) hN (by decide) rfl ?_
      refine mz_goto (tgt := 103) F dX9_takeCome_134 (by decide) ?_
      refine mz_sub [1, 2, 0] rfl ?_
      exact ih kv0 h
def bX9_takeCome_67 : Nat → Nat → Int32 → Int32 → mSt → (mSt → Prop) → (Nat → Int32 → mSt → Prop) → Prop
  | 0, _, _, _, _, _, _ => False
  | n + 1, v0, v1, v2, u, K, KL21 => (((6 : Int32) ≤ v2 → (∃ n9, bX9_takeCome_103 n9 v0 v1 (0 : Int32) u K KL21)) ∧ (¬ ((6 : Int32) ≤ v2) → (∃ q_1, mR u v0 22 = some q_1 ∧ (∃ q_2, mR u v0 29 = some q_2 ∧ (vp_in (((6 : Int32) * v1) + v2) 900 ∧ (vp_in (((6 : Int32) * v1) + v2) 900 ∧ ∀ u_5, u_5 = mpI u q_1 (((6 : Int32) * v1) + v2).toNatClampNeg (mI u q_2 (((6 : Int32) * v1) + v2).toNatClampNeg) → (∀ x_6, x_6 = v2 + (1 : Int32) → bX9_takeCome_67 n v0 v1 x_6 u_5 K KL21)))))))
set_option maxRecDepth 100000 in
set_option maxHeartbeats 4000000 in
theorem tX9_takeCome_67 {X : mCx} {G : mG} {u0 : mSt} {K : mSt → Prop} {KL21 : Nat → Int32 → mSt → Prop} (F : mFx X G cX9_takeCome wsX9_takeCome RX9 "takeCome" 0 0 none u0 (mPv K)) (hN : X.2.2.2.2.2.2.2.2.2.2.2.2.1 = 3) (hL21 : ∀ {v0 : Nat} {v1 : Int32} {u : mSt}, mK u v0 = 10 → KL21 v0 v1 u → mZ X u 21 [(0, .ref (G.1 + v0)), (1, .int v1)] []) : ∀ (n : Nat) {v0 : Nat} {v1 : Int32} {v2 : Int32} {u : mSt}, mK u v0 = 10 → bX9_takeCome_67 n v0 v1 v2 u K KL21 → mZ X u 67 [(0, .ref (G.1 + v0)), (1, .int v1), (2, .int v2)] [] := by
  intro n
  induction n with
  | zero => intro v0 v1 v2 u kv0 h; exact False.elim h
  | succ n ih =>
    intro v0 v1 v2 u kv0 h
    refine mz_iload_n F dX9_takeCome_67 rfl 2 rfl ?_
    refine mz_bipush (v := 6) F dX9_takeCome_68 (by decide) ?_
    refine mz_icmp_ge (tgt := 101) F dX9_takeCome_70 (by decide) (fun c_7 => ?_) (fun c_7 => ?_)
    · replace h := h.1 c_7
      refine mz_iconst (v := 0) F dX9_takeCome_101 (by decide) ?_
      refine mz_istore_n (lv2 := [(2, .int (0 : Int32)), (0, .ref (G.1 + v0)), (1, .int v1)]) F dX9_takeCome_102 rfl hN (by decide) rfl ?_
      refine mz_sub [1, 2, 0] rfl ?_
      obtain ⟨n9, h⟩ := h
      exact tX9_takeCome_103 F hN hL21 n9 kv0 h
    · replace h := h.2 c_7
      refine mz_aload_n F dX9_takeCome_73 rfl 0 rfl ?_
      obtain ⟨q_1, eq_1, h⟩ := h
      refine mz_getR F dX9_takeCome_74 fX9_takeCome_38 (by decide) kv0 eq_1 (fun kq_1 => ?_)
      refine mz_bipush (v := 6) F dX9_takeCome_77 (by decide) ?_
      refine mz_iload_n F dX9_takeCome_79 rfl 1 rfl ?_
      refine mz_imul F dX9_takeCome_80 ?_
      refine mz_iload_n F dX9_takeCome_81 rfl 2 rfl ?_
      refine mz_iadd F dX9_takeCome_82 ?_
      refine mz_aload_n F dX9_takeCome_83 rfl 0 rfl ?_
      obtain ⟨q_2, eq_2, h⟩ := h
      refine mz_getR F dX9_takeCome_84 fX9_takeCome_57 (by decide) kv0 eq_2 (fun kq_2 => ?_)
      refine mz_bipush (v := 6) F dX9_takeCome_87 (by decide) ?_
      refine mz_iload_n F dX9_takeCome_89 rfl 1 rfl ?_
      refine mz_imul F dX9_takeCome_90 ?_
      refine mz_iload_n F dX9_takeCome_91 rfl 2 rfl ?_
      refine mz_iadd F dX9_takeCome_92 ?_
      obtain ⟨b_3, h⟩ := h
      refine mz_iald F dX9_takeCome_93 kq_2 rfl b_3 ?_
      obtain ⟨b_4, h⟩ := h
      refine mz_iast F dX9_takeCome_94 kq_1 rfl b_4 (fun u_5 eu_5 hxu_5 => ?_)
      replace h := h u_5 eu_5
      replace kv0 := hxu_5.2.2 _ _ (by decide) kv0
      obtain ⟨x_6, ex_6⟩ : ∃ y : Int32, y = v2 + (1 : Int32) := ⟨_, rfl⟩
      replace h := h x_6 ex_6
      refine mz_iinc (v := x_6) (lv2 := [(2, .int x_6), (0, .ref (G.1 + v0)), (1, .int v1)]) F dX9_takeCome_95 2 rfl (by rw [ex_6]; rfl) hN (by decide) rfl ?_
      refine mz_goto (tgt := 67) F dX9_takeCome_98 (by decide) ?_
      refine mz_sub [1, 2, 0] rfl ?_
      exact ih kv0 h
def bX9_takeCome_21 : Nat → Nat → Int32 → mSt → (mSt → Prop) → Prop
  | 0, _, _, _, _ => False
  | n + 1, v0, v1, u, K => (((mI u v0 19) ≤ v1 → K u) ∧ (¬ ((mI u v0 19) ≤ v1) → (∃ q_1, mR u v0 21 = some q_1 ∧ (∃ q_2, mR u v0 28 = some q_2 ∧ (vp_in v1 150 ∧ (vp_in v1 150 ∧ ∀ u_5, u_5 = mpI u q_1 v1.toNatClampNeg (mI u q_2 v1.toNatClampNeg) → (∃ q_6, mR u_5 v0 24 = some q_6 ∧ (∃ q_7, mR u_5 v0 31 = some q_7 ∧ (vp_in v1 150 ∧ (vp_in v1 150 ∧ ∀ u_10, u_10 = mpI u_5 q_6 v1.toNatClampNeg (mI u_5 q_7 v1.toNatClampNeg) → (∃ q_11, mR u_10 v0 25 = some q_11 ∧ (∃ q_12, mR u_10 v0 32 = some q_12 ∧ (vp_in v1 150 ∧ (vp_in v1 150 ∧ ∀ u_15, u_15 = mpI u_10 q_11 v1.toNatClampNeg (mI u_10 q_12 v1.toNatClampNeg) → (∃ n9, bX9_takeCome_67 n9 v0 v1 (0 : Int32) u_15 K (fun z0 z1 z2 => bX9_takeCome_21 n z0 z1 z2 K))))))))))))))))
set_option maxRecDepth 100000 in
set_option maxHeartbeats 4000000 in
theorem tX9_takeCome_21 {X : mCx} {G : mG} {u0 : mSt} {K : mSt → Prop} (F : mFx X G cX9_takeCome wsX9_takeCome RX9 "takeCome" 0 0 none u0 (mPv K)) (hN : X.2.2.2.2.2.2.2.2.2.2.2.2.1 = 3) : ∀ (n : Nat) {v0 : Nat} {v1 : Int32} {u : mSt}, mK u v0 = 10 → bX9_takeCome_21 n v0 v1 u K → mZ X u 21 [(0, .ref (G.1 + v0)), (1, .int v1)] [] := by
  intro n
  induction n with
  | zero => intro v0 v1 u kv0 h; exact False.elim h
  | succ n ih =>
    intro v0 v1 u kv0 h
    refine mz_iload_n F dX9_takeCome_21 rfl 1 rfl ?_
    refine mz_aload_n F dX9_takeCome_22 rfl 0 rfl ?_
    refine mz_getI F dX9_takeCome_23 fX9_takeCome_177 kv0 ?_
    refine mz_icmp_ge (tgt := 183) F dX9_takeCome_26 (by decide) (fun c_16 => ?_) (fun c_16 => ?_)
    · replace h := h.1 c_16
      exact mz_vret F dX9_takeCome_183 ⟨rfl, h⟩
    · replace h := h.2 c_16
      refine mz_aload_n F dX9_takeCome_29 rfl 0 rfl ?_
      obtain ⟨q_1, eq_1, h⟩ := h
      refine mz_getR F dX9_takeCome_30 fX9_takeCome_35 (by decide) kv0 eq_1 (fun kq_1 => ?_)
      refine mz_iload_n F dX9_takeCome_33 rfl 1 rfl ?_
      refine mz_aload_n F dX9_takeCome_34 rfl 0 rfl ?_
      obtain ⟨q_2, eq_2, h⟩ := h
      refine mz_getR F dX9_takeCome_35 fX9_takeCome_54 (by decide) kv0 eq_2 (fun kq_2 => ?_)
      refine mz_iload_n F dX9_takeCome_38 rfl 1 rfl ?_
      obtain ⟨b_3, h⟩ := h
      refine mz_iald F dX9_takeCome_39 kq_2 rfl b_3 ?_
      obtain ⟨b_4, h⟩ := h
      refine mz_iast F dX9_takeCome_40 kq_1 rfl b_4 (fun u_5 eu_5 hxu_5 => ?_)
      replace h := h u_5 eu_5
      replace kv0 := hxu_5.2.2 _ _ (by decide) kv0
      refine mz_aload_n F dX9_takeCome_41 rfl 0 rfl ?_
      obtain ⟨q_6, eq_6, h⟩ := h
      refine mz_getR F dX9_takeCome_42 fX9_takeCome_44 (by decide) kv0 eq_6 (fun kq_6 => ?_)
      refine mz_iload_n F dX9_takeCome_45 rfl 1 rfl ?_
      refine mz_aload_n F dX9_takeCome_46 rfl 0 rfl ?_
      obtain ⟨q_7, eq_7, h⟩ := h
      refine mz_getR F dX9_takeCome_47 fX9_takeCome_63 (by decide) kv0 eq_7 (fun kq_7 => ?_)
      refine mz_iload_n F dX9_takeCome_50 rfl 1 rfl ?_
      obtain ⟨b_8, h⟩ := h
      refine mz_iald F dX9_takeCome_51 kq_7 rfl b_8 ?_
      obtain ⟨b_9, h⟩ := h
      refine mz_iast F dX9_takeCome_52 kq_6 rfl b_9 (fun u_10 eu_10 hxu_10 => ?_)
      replace h := h u_10 eu_10
      replace kv0 := hxu_10.2.2 _ _ (by decide) kv0
      refine mz_aload_n F dX9_takeCome_53 rfl 0 rfl ?_
      obtain ⟨q_11, eq_11, h⟩ := h
      refine mz_getR F dX9_takeCome_54 fX9_takeCome_47 (by decide) kv0 eq_11 (fun kq_11 => ?_)
      refine mz_iload_n F dX9_takeCome_57 rfl 1 rfl ?_
      refine mz_aload_n F dX9_takeCome_58 rfl 0 rfl ?_
      obtain ⟨q_12, eq_12, h⟩ := h
      refine mz_getR F dX9_takeCome_59 fX9_takeCome_66 (by decide) kv0 eq_12 (fun kq_12 => ?_)
      refine mz_iload_n F dX9_takeCome_62 rfl 1 rfl ?_
      obtain ⟨b_13, h⟩ := h
      refine mz_iald F dX9_takeCome_63 kq_12 rfl b_13 ?_
      obtain ⟨b_14, h⟩ := h
      refine mz_iast F dX9_takeCome_64 kq_11 rfl b_14 (fun u_15 eu_15 hxu_15 => ?_)
      replace h := h u_15 eu_15
      replace kv0 := hxu_15.2.2 _ _ (by decide) kv0
      refine mz_iconst (v := 0) F dX9_takeCome_65 (by decide) ?_
      refine mz_istore_n (lv2 := [(2, .int (0 : Int32)), (0, .ref (G.1 + v0)), (1, .int v1)]) F dX9_takeCome_66 rfl hN (by decide) rfl ?_
      refine mz_sub [1, 2, 0] rfl ?_
      obtain ⟨n9, h⟩ := h
      exact tX9_takeCome_67 F hN (fun k0 h => ih k0 h) n9 kv0 h
def bX9_takeCome_16 (v0 : Nat) (w0 : Nat) (w1 : Int32) (u : mSt) (K : mSt → Prop) : Prop := (∀ u_1, u_1 = mpI u w0 19 w1 → (∃ n9, bX9_takeCome_21 n9 v0 (0 : Int32) u_1 K))
set_option maxRecDepth 100000 in
set_option maxHeartbeats 4000000 in
theorem tX9_takeCome_16 {X : mCx} {G : mG} {u0 : mSt} {K : mSt → Prop} (F : mFx X G cX9_takeCome wsX9_takeCome RX9 "takeCome" 0 0 none u0 (mPv K)) (hN : X.2.2.2.2.2.2.2.2.2.2.2.2.1 = 3) {v0 : Nat} {w0 : Nat} {w1 : Int32} {u : mSt} (kv0 : mK u v0 = 10) (kw0 : mK u w0 = 10) (h : bX9_takeCome_16 v0 w0 w1 u K) : mZ X u 16 [(0, .ref (G.1 + v0))] [.int w1, .ref (G.1 + w0)] := by
  refine mz_putI F dX9_takeCome_16 fX9_takeCome_177 kw0 rfl rfl (fun u_1 eu_1 hxu_1 => ?_)
  replace h := h u_1 eu_1
  replace kv0 := hxu_1.2.2 _ _ (by decide) kv0
  refine mz_iconst (v := 0) F dX9_takeCome_19 (by decide) ?_
  refine mz_istore_n (lv2 := [(1, .int (0 : Int32)), (0, .ref (G.1 + v0))]) F dX9_takeCome_20 rfl hN (by decide) rfl ?_
  refine mz_sub [1, 0] rfl ?_
  obtain ⟨n9, h⟩ := h
  exact tX9_takeCome_21 F hN n9 kv0 h
def bX9_takeCome (this : Nat) (u : mSt) (K : mSt → Prop) : Prop := (((mI u this 20) = 0 → bX9_takeCome_16 this this (mI u this 27) u K) ∧ (¬ ((mI u this 20) = 0) → bX9_takeCome_16 this this (0 : Int32) u K))
set_option maxRecDepth 100000 in
set_option maxHeartbeats 4000000 in
theorem tX9_takeCome {X : mCx} {G : mG} {u0 : mSt} {K : mSt → Prop} (F : mFx X G cX9_takeCome wsX9_takeCome RX9 "takeCome" 0 0 none u0 (mPv K)) (hN : X.2.2.2.2.2.2.2.2.2.2.2.2.1 = 3) {this : Nat} {u : mSt} (kthis : mK u this = 10) (h : bX9_takeCome this u K) : mZ X u 0 [(0, .ref (G.1 + this))] [] := by
  refine mz_aload_n F dX9_takeCome_0 rfl 0 rfl ?_
  refine mz_aload_n F dX9_takeCome_1 rfl 0 rfl ?_
  refine mz_getI F dX9_takeCome_2 fX9_takeCome_180 kthis ?_
  refine mz_if_eq (tgt := 12) F dX9_takeCome_5 (by decide) (fun c_1 => ?_) (fun c_1 => ?_)
  · replace h := h.1 c_1
    refine mz_aload_n F dX9_takeCome_12 rfl 0 rfl ?_
    refine mz_getI F dX9_takeCome_13 fX9_takeCome_183 kthis ?_
    refine mz_sub [0] rfl ?_
    exact tX9_takeCome_16 F hN kthis kthis h
  · replace h := h.2 c_1
    refine mz_iconst (v := 0) F dX9_takeCome_8 (by decide) ?_
    refine mz_goto (tgt := 16) F dX9_takeCome_9 (by decide) ?_
    refine mz_sub [0] rfl ?_
    exact tX9_takeCome_16 F hN kthis kthis h
set_option maxRecDepth 100000 in
theorem kX9_takeCome (l : Launch) (G : mG) {u : mSt} {K : mSt → Prop} {this : Nat} (kthis : mK u this = 10) (h : bX9_takeCome this u K) : mCt l G yX9_takeCome wsX9_takeCome 0 0 [.ref (G.1 + this)] u (mPv K) := by
  refine mCt.of (cc := cX9_takeCome) (maxL := 3) (ret := none) (by decide) rfl (Nat.le_of_ble_eq_true rfl) ?_
  intro X hl hN F
  exact tX9_takeCome F hN kthis h
/-! RoomMapperModel.movePebble()V -/
theorem wiX9_movePebble_9 : ∀ w ∈ u_ws RX9 TX9 52, w ∈ wsX9_movePebble := by decide +kernel
theorem fX9_movePebble_50 : mFld wsX9_movePebble RX9 50 10 26 26 (.array .byte) true := ⟨9, _, RX9, TX9, 52, tyX9, rfl, rfl, rfl, by decide, wiX9_movePebble_9, tyX9_ok, nmX9, rfl, rfl, Or.inl ⟨by decide +kernel, fun _ => rfl⟩⟩
theorem fX9_movePebble_168 : mFld wsX9_movePebble RX9 168 10 12 0 .int false := ⟨9, _, RX9, TX9, 52, tyX9, rfl, rfl, rfl, by decide, wiX9_movePebble_9, tyX9_ok, nmX9, rfl, rfl, Or.inl ⟨by decide +kernel, fun _ => rfl⟩⟩
theorem fX9_movePebble_44 : mFld wsX9_movePebble RX9 44 10 24 15 (.array .int) true := ⟨9, _, RX9, TX9, 52, tyX9, rfl, rfl, rfl, by decide, wiX9_movePebble_9, tyX9_ok, nmX9, rfl, rfl, Or.inl ⟨by decide +kernel, fun _ => rfl⟩⟩
theorem fX9_movePebble_177 : mFld wsX9_movePebble RX9 177 10 19 0 .int false := ⟨9, _, RX9, TX9, 52, tyX9, rfl, rfl, rfl, by decide, wiX9_movePebble_9, tyX9_ok, nmX9, rfl, rfl, Or.inl ⟨by decide +kernel, fun _ => rfl⟩⟩
theorem fX9_movePebble_47 : mFld wsX9_movePebble RX9 47 10 25 15 (.array .int) true := ⟨9, _, RX9, TX9, 52, tyX9, rfl, rfl, rfl, by decide, wiX9_movePebble_9, tyX9_ok, nmX9, rfl, rfl, Or.inl ⟨by decide +kernel, fun _ => rfl⟩⟩
theorem fX9_movePebble_162 : mFld wsX9_movePebble RX9 162 10 10 0 .int false := ⟨9, _, RX9, TX9, 52, tyX9, rfl, rfl, rfl, by decide, wiX9_movePebble_9, tyX9_ok, nmX9, rfl, rfl, Or.inl ⟨by decide +kernel, fun _ => rfl⟩⟩
theorem fX9_movePebble_148 : mFld wsX9_movePebble RX9 148 10 7 0 .int false := ⟨9, _, RX9, TX9, 52, tyX9, rfl, rfl, rfl, by decide, wiX9_movePebble_9, tyX9_ok, nmX9, rfl, rfl, Or.inl ⟨by decide +kernel, fun _ => rfl⟩⟩
def bX9_movePebble_104 (v0 : Nat) (v1 : Int32) (v2 : Int32) (v3 : Int32) (w0 : Nat) (w1 : Int32) (w2 : Int32) (u : mSt) (K : mSt → Prop) (KL63 : Nat → Int32 → Int32 → Int32 → mSt → Prop) : Prop := (vp_in w1 150 ∧ ∀ u_2, u_2 = mpI u w0 w1.toNatClampNeg w2 → (∃ q_3, mR u_2 v0 26 = some q_3 ∧ (∃ q_4, mR u_2 v0 24 = some q_4 ∧ (vp_in v3 150 ∧ (vp_in (((201 : Int32) * v3) + (mI u_2 v0 12)) 30150 ∧ ∀ u_7, u_7 = mpI u_2 q_3 (((201 : Int32) * v3) + (mI u_2 v0 12)).toNatClampNeg (vp_nar .byte ((mI u_2 q_4 v3.toNatClampNeg).toInt8.toInt32)) → (∀ x_8, x_8 = v3 + (1 : Int32) → KL63 v0 v1 v2 x_8 u_7))))))
set_option maxRecDepth 100000 in
set_option maxHeartbeats 4000000 in
theorem tX9_movePebble_104 {X : mCx} {G : mG} {u0 : mSt} {K : mSt → Prop} {KL63 : Nat → Int32 → Int32 → Int32 → mSt → Prop} (F : mFx X G cX9_movePebble wsX9_movePebble RX9 "movePebble" 1 20 none u0 (mPv K)) (hN : X.2.2.2.2.2.2.2.2.2.2.2.2.1 = 4) (hL63 : ∀ {v0 : Nat} {v1 : Int32} {v2 : Int32} {v3 : Int32} {u : mSt}, mK u v0 = 10 → KL63 v0 v1 v2 v3 u → mZ X u 63 [(0, .ref (G.1 + v0)), (1, .int v1), (2, .int v2), (3, .int v3)] []) {v0 : Nat} {v1 : Int32} {v2 : Int32} {v3 : Int32} {w0 : Nat} {w1 : Int32} {w2 : Int32} {u : mSt} (kv0 : mK u v0 = 10) (kw0 : mK u w0 = 15) (h : bX9_movePebble_104 v0 v1 v2 v3 w0 w1 w2 u K KL63) : mZ X u 104 [(0, .ref (G.1 + v0)), (1, .int v1), (2, .int v2), (3, .int v3)] [.int w2, .int w1, .ref (G.1 + w0)] := by
  obtain ⟨b_1, h⟩ := h
  refine mz_iast F dX9_movePebble_104 kw0 rfl b_1 (fun u_2 eu_2 hxu_2 => ?_)
  replace h := h u_2 eu_2
  replace kv0 := hxu_2.2.2 _ _ (by decide) kv0
  refine mz_aload_n F dX9_movePebble_105 rfl 0 rfl ?_
  obtain ⟨q_3, eq_3, h⟩ := h
  refine mz_getR F dX9_movePebble_106 fX9_movePebble_50 (by decide) kv0 eq_3 (fun kq_3 => ?_)
  refine mz_sipush (v := 201) F dX9_movePebble_109 (by decide) ?_
  refine mz_iload_n F dX9_movePebble_112 rfl 3 rfl ?_
  refine mz_imul F dX9_movePebble_113 ?_
  refine mz_aload_n F dX9_movePebble_114 rfl 0 rfl ?_
  refine mz_getI F dX9_movePebble_115 fX9_movePebble_168 kv0 ?_
  refine mz_iadd F dX9_movePebble_118 ?_
  refine mz_aload_n F dX9_movePebble_119 rfl 0 rfl ?_
  obtain ⟨q_4, eq_4, h⟩ := h
  refine mz_getR F dX9_movePebble_120 fX9_movePebble_44 (by decide) kv0 eq_4 (fun kq_4 => ?_)
  refine mz_iload_n F dX9_movePebble_123 rfl 3 rfl ?_
  obtain ⟨b_5, h⟩ := h
  refine mz_iald F dX9_movePebble_124 kq_4 rfl b_5 ?_
  refine mz_i2b F dX9_movePebble_125 ?_
  obtain ⟨b_6, h⟩ := h
  refine mz_bast F dX9_movePebble_126 kq_3 rfl b_6 (fun u_7 eu_7 hxu_7 => ?_)
  replace h := h u_7 eu_7
  replace kv0 := hxu_7.2.2 _ _ (by decide) kv0
  obtain ⟨x_8, ex_8⟩ : ∃ y : Int32, y = v3 + (1 : Int32) := ⟨_, rfl⟩
  replace h := h x_8 ex_8
  refine mz_iinc (v := x_8) (lv2 := [(3, .int x_8), (0, .ref (G.1 + v0)), (1, .int v1), (2, .int v2)]) F dX9_movePebble_127 3 rfl (by rw [ex_8]; rfl) hN (by decide) rfl ?_
  refine mz_goto (tgt := 63) F dX9_movePebble_130 (by decide) ?_
  refine mz_sub [1, 2, 3, 0] rfl ?_
  exact hL63 kv0 h
def bX9_movePebble_63 : Nat → Nat → Int32 → Int32 → Int32 → mSt → (mSt → Prop) → Prop
  | 0, _, _, _, _, _, _ => False
  | n + 1, v0, v1, v2, v3, u, K => (((mI u v0 19) ≤ v3 → K u) ∧ (¬ ((mI u v0 19) ≤ v3) → (∃ q_1, mR u v0 25 = some q_1 ∧ ((v1 = 0 → ((v2 = 0 → (∃ q_2, mR u v0 25 = some q_2 ∧ (vp_in v3 150 ∧ bX9_movePebble_104 v0 v1 v2 v3 q_1 v3 (mI u q_2 v3.toNatClampNeg) u K (fun z0 z1 z2 z3 z4 => bX9_movePebble_63 n z0 z1 z2 z3 z4 K)))) ∧ (¬ (v2 = 0) → (∃ q_4, mR u v0 24 = some q_4 ∧ (vp_in v3 150 ∧ bX9_movePebble_104 v0 v1 v2 v3 q_1 v3 (mI u q_4 v3.toNatClampNeg) u K (fun z0 z1 z2 z3 z4 => bX9_movePebble_63 n z0 z1 z2 z3 z4 K)))))) ∧ (¬ (v1 = 0) → bX9_movePebble_104 v0 v1 v2 v3 q_1 v3 (-2 : Int32) u K (fun z0 z1 z2 z3 z4 => bX9_movePebble_63 n z0 z1 z2 z3 z4 K))))))
set_option maxRecDepth 100000 in
set_option maxHeartbeats 4000000 in
theorem tX9_movePebble_63 {X : mCx} {G : mG} {u0 : mSt} {K : mSt → Prop} (F : mFx X G cX9_movePebble wsX9_movePebble RX9 "movePebble" 1 20 none u0 (mPv K)) (hN : X.2.2.2.2.2.2.2.2.2.2.2.2.1 = 4) : ∀ (n : Nat) {v0 : Nat} {v1 : Int32} {v2 : Int32} {v3 : Int32} {u : mSt}, mK u v0 = 10 → bX9_movePebble_63 n v0 v1 v2 v3 u K → mZ X u 63 [(0, .ref (G.1 + v0)), (1, .int v1), (2, .int v2), (3, .int v3)] [] := by
  intro n
  induction n with
  | zero => intro v0 v1 v2 v3 u kv0 h; exact False.elim h
  | succ n ih =>
    intro v0 v1 v2 v3 u kv0 h
    refine mz_iload_n F dX9_movePebble_63 rfl 3 rfl ?_
    refine mz_aload_n F dX9_movePebble_64 rfl 0 rfl ?_
    refine mz_getI F dX9_movePebble_65 fX9_movePebble_177 kv0 ?_
    refine mz_icmp_ge (tgt := 133) F dX9_movePebble_68 (by decide) (fun c_8 => ?_) (fun c_8 => ?_)
    · replace h := h.1 c_8
      exact mz_vret F dX9_movePebble_133 ⟨rfl, h⟩
    · replace h := h.2 c_8
      refine mz_aload_n F dX9_movePebble_71 rfl 0 rfl ?_
      obtain ⟨q_1, eq_1, h⟩ := h
      refine mz_getR F dX9_movePebble_72 fX9_movePebble_47 (by decide) kv0 eq_1 (fun kq_1 => ?_)
      refine mz_iload_n F dX9_movePebble_75 rfl 3 rfl ?_
      refine mz_iload_n F dX9_movePebble_76 rfl 1 rfl ?_
      refine mz_if_eq (tgt := 85) F dX9_movePebble_77 (by decide) (fun c_7 => ?_) (fun c_7 => ?_)
      · replace h := h.1 c_7
        refine mz_iload_n F dX9_movePebble_85 rfl 2 rfl ?_
        refine mz_if_eq (tgt := 98) F dX9_movePebble_86 (by decide) (fun c_6 => ?_) (fun c_6 => ?_)
        · replace h := h.1 c_6
          refine mz_aload_n F dX9_movePebble_98 rfl 0 rfl ?_
          obtain ⟨q_2, eq_2, h⟩ := h
          refine mz_getR F dX9_movePebble_99 fX9_movePebble_47 (by decide) kv0 eq_2 (fun kq_2 => ?_)
          refine mz_iload_n F dX9_movePebble_102 rfl 3 rfl ?_
          obtain ⟨b_3, h⟩ := h
          refine mz_iald F dX9_movePebble_103 kq_2 rfl b_3 ?_
          refine mz_sub [0, 1, 2, 3] rfl ?_
          exact tX9_movePebble_104 F hN (fun k0 h => ih k0 h) kv0 kq_1 h
        · replace h := h.2 c_6
          refine mz_aload_n F dX9_movePebble_89 rfl 0 rfl ?_
          obtain ⟨q_4, eq_4, h⟩ := h
          refine mz_getR F dX9_movePebble_90 fX9_movePebble_44 (by decide) kv0 eq_4 (fun kq_4 => ?_)
          refine mz_iload_n F dX9_movePebble_93 rfl 3 rfl ?_
          obtain ⟨b_5, h⟩ := h
          refine mz_iald F dX9_movePebble_94 kq_4 rfl b_5 ?_
          refine mz_goto (tgt := 104) F dX9_movePebble_95 (by decide) ?_
          refine mz_sub [0, 1, 2, 3] rfl ?_
          exact tX9_movePebble_104 F hN (fun k0 h => ih k0 h) kv0 kq_1 h
      · replace h := h.2 c_7
        refine mz_bipush (v := (-2)) F dX9_movePebble_80 (by decide) ?_
        refine mz_goto (tgt := 104) F dX9_movePebble_82 (by decide) ?_
        refine mz_sub [0, 1, 2, 3] rfl ?_
        exact tX9_movePebble_104 F hN (fun k0 h => ih k0 h) kv0 kq_1 h
def bX9_movePebble_58 (v0 : Nat) (v1 : Int32) (v2 : Int32) (w0 : Nat) (w1 : Int32) (u : mSt) (K : mSt → Prop) : Prop := (∀ u_1, u_1 = mpI u w0 10 w1 → (∃ n9, bX9_movePebble_63 n9 v0 v1 v2 (0 : Int32) u_1 K))
set_option maxRecDepth 100000 in
set_option maxHeartbeats 4000000 in
theorem tX9_movePebble_58 {X : mCx} {G : mG} {u0 : mSt} {K : mSt → Prop} (F : mFx X G cX9_movePebble wsX9_movePebble RX9 "movePebble" 1 20 none u0 (mPv K)) (hN : X.2.2.2.2.2.2.2.2.2.2.2.2.1 = 4) {v0 : Nat} {v1 : Int32} {v2 : Int32} {w0 : Nat} {w1 : Int32} {u : mSt} (kv0 : mK u v0 = 10) (kw0 : mK u w0 = 10) (h : bX9_movePebble_58 v0 v1 v2 w0 w1 u K) : mZ X u 58 [(0, .ref (G.1 + v0)), (1, .int v1), (2, .int v2)] [.int w1, .ref (G.1 + w0)] := by
  refine mz_putI F dX9_movePebble_58 fX9_movePebble_162 kw0 rfl rfl (fun u_1 eu_1 hxu_1 => ?_)
  replace h := h u_1 eu_1
  replace kv0 := hxu_1.2.2 _ _ (by decide) kv0
  refine mz_iconst (v := 0) F dX9_movePebble_61 (by decide) ?_
  refine mz_istore_n (lv2 := [(3, .int (0 : Int32)), (0, .ref (G.1 + v0)), (1, .int v1), (2, .int v2)]) F dX9_movePebble_62 rfl hN (by decide) rfl ?_
  refine mz_sub [1, 2, 3, 0] rfl ?_
  obtain ⟨n9, h⟩ := h
  exact tX9_movePebble_63 F hN n9 kv0 h
def bX9_movePebble_32 (v0 : Nat) (v1 : Int32) (w0 : Int32) (u : mSt) (K : mSt → Prop) : Prop := ((v1 = 0 → ((w0 = 0 → bX9_movePebble_58 v0 v1 w0 v0 (mI u v0 10) u K) ∧ (¬ (w0 = 0) → bX9_movePebble_58 v0 v1 w0 v0 (mI u v0 7) u K))) ∧ (¬ (v1 = 0) → bX9_movePebble_58 v0 v1 w0 v0 (-2 : Int32) u K))
set_option maxRecDepth 100000 in
set_option maxHeartbeats 4000000 in
theorem tX9_movePebble_32 {X : mCx} {G : mG} {u0 : mSt} {K : mSt → Prop} (F : mFx X G cX9_movePebble wsX9_movePebble RX9 "movePebble" 1 20 none u0 (mPv K)) (hN : X.2.2.2.2.2.2.2.2.2.2.2.2.1 = 4) {v0 : Nat} {v1 : Int32} {w0 : Int32} {u : mSt} (kv0 : mK u v0 = 10) (h : bX9_movePebble_32 v0 v1 w0 u K) : mZ X u 32 [(0, .ref (G.1 + v0)), (1, .int v1)] [.int w0] := by
  refine mz_istore_n (lv2 := [(2, .int w0), (0, .ref (G.1 + v0)), (1, .int v1)]) F dX9_movePebble_32 rfl hN (by decide) rfl ?_
  refine mz_aload_n F dX9_movePebble_33 rfl 1 rfl ?_
  refine mz_iload_n F dX9_movePebble_34 rfl 2 rfl ?_
  refine mz_if_eq (tgt := 43) F dX9_movePebble_35 (by decide) (fun c_2 => ?_) (fun c_2 => ?_)
  · replace h := h.1 c_2
    refine mz_iload_n F dX9_movePebble_43 rfl 0 rfl ?_
    refine mz_if_eq (tgt := 54) F dX9_movePebble_44 (by decide) (fun c_1 => ?_) (fun c_1 => ?_)
    · replace h := h.1 c_1
      refine mz_aload_n F dX9_movePebble_54 rfl 1 rfl ?_
      refine mz_getI F dX9_movePebble_55 fX9_movePebble_162 kv0 ?_
      refine mz_sub [1, 2, 0] rfl ?_
      exact tX9_movePebble_58 F hN kv0 kv0 h
    · replace h := h.2 c_1
      refine mz_aload_n F dX9_movePebble_47 rfl 1 rfl ?_
      refine mz_getI F dX9_movePebble_48 fX9_movePebble_148 kv0 ?_
      refine mz_goto (tgt := 58) F dX9_movePebble_51 (by decide) ?_
      refine mz_sub [1, 2, 0] rfl ?_
      exact tX9_movePebble_58 F hN kv0 kv0 h
  · replace h := h.2 c_2
    refine mz_bipush (v := (-2)) F dX9_movePebble_38 (by decide) ?_
    refine mz_goto (tgt := 58) F dX9_movePebble_40 (by decide) ?_
    refine mz_sub [1, 2, 0] rfl ?_
    exact tX9_movePebble_58 F hN kv0 kv0 h
def bX9_movePebble_19 (v0 : Nat) (w0 : Int32) (u : mSt) (K : mSt → Prop) : Prop := ((0 ≤ (mI u v0 10) → bX9_movePebble_32 v0 w0 (0 : Int32) u K) ∧ (¬ (0 ≤ (mI u v0 10)) → bX9_movePebble_32 v0 w0 (1 : Int32) u K))
set_option maxRecDepth 100000 in
set_option maxHeartbeats 4000000 in
theorem tX9_movePebble_19 {X : mCx} {G : mG} {u0 : mSt} {K : mSt → Prop} (F : mFx X G cX9_movePebble wsX9_movePebble RX9 "movePebble" 1 20 none u0 (mPv K)) (hN : X.2.2.2.2.2.2.2.2.2.2.2.2.1 = 4) {v0 : Nat} {w0 : Int32} {u : mSt} (kv0 : mK u v0 = 10) (h : bX9_movePebble_19 v0 w0 u K) : mZ X u 19 [(0, .ref (G.1 + v0))] [.int w0] := by
  refine mz_istore_n (lv2 := [(1, .int w0), (0, .ref (G.1 + v0))]) F dX9_movePebble_19 rfl hN (by decide) rfl ?_
  refine mz_aload_n F dX9_movePebble_20 rfl 1 rfl ?_
  refine mz_getI F dX9_movePebble_21 fX9_movePebble_162 kv0 ?_
  refine mz_if_ge (tgt := 31) F dX9_movePebble_24 (by decide) (fun c_1 => ?_) (fun c_1 => ?_)
  · replace h := h.1 c_1
    refine mz_iconst (v := 0) F dX9_movePebble_31 (by decide) ?_
    refine mz_sub [1, 0] rfl ?_
    exact tX9_movePebble_32 F hN kv0 h
  · replace h := h.2 c_1
    refine mz_iconst (v := 1) F dX9_movePebble_27 (by decide) ?_
    refine mz_goto (tgt := 32) F dX9_movePebble_28 (by decide) ?_
    refine mz_sub [1, 0] rfl ?_
    exact tX9_movePebble_32 F hN kv0 h
def bX9_movePebble_18 (v0 : Nat) (u : mSt) (K : mSt → Prop) : Prop := bX9_movePebble_19 v0 (0 : Int32) u K
set_option maxRecDepth 100000 in
set_option maxHeartbeats 4000000 in
theorem tX9_movePebble_18 {X : mCx} {G : mG} {u0 : mSt} {K : mSt → Prop} (F : mFx X G cX9_movePebble wsX9_movePebble RX9 "movePebble" 1 20 none u0 (mPv K)) (hN : X.2.2.2.2.2.2.2.2.2.2.2.2.1 = 4) {v0 : Nat} {u : mSt} (kv0 : mK u v0 = 10) (h : bX9_movePebble_18 v0 u K) : mZ X u 18 [(0, .ref (G.1 + v0))] [] := by
  refine mz_iconst (v := 0) F dX9_movePebble_18 (by decide) ?_
  refine mz_sub [0] rfl ?_
  exact tX9_movePebble_19 F hN kv0 h
def bX9_movePebble (this : Nat) (u : mSt) (K : mSt → Prop) : Prop := (((mI u this 10) < 0 → bX9_movePebble_18 this u K) ∧ (¬ ((mI u this 10) < 0) → bX9_liesHere this u (fun r_3 u_2 => ((r_3 = 0 → bX9_movePebble_18 this u_2 K) ∧ (¬ (r_3 = 0) → bX9_movePebble_19 this (1 : Int32) u_2 K)))))
set_option maxRecDepth 100000 in
set_option maxHeartbeats 4000000 in
theorem tX9_movePebble {X : mCx} {G : mG} {u0 : mSt} {K : mSt → Prop} (F : mFx X G cX9_movePebble wsX9_movePebble RX9 "movePebble" 1 20 none u0 (mPv K)) (hN : X.2.2.2.2.2.2.2.2.2.2.2.2.1 = 4) {this : Nat} {u : mSt} (kthis : mK u this = 10) (h : bX9_movePebble this u K) : mZ X u 0 [(0, .ref (G.1 + this))] [] := by
  refine mz_aload_n F dX9_movePebble_0 rfl 0 rfl ?_
  refine mz_getI F dX9_movePebble_1 fX9_movePebble_162 kthis ?_
  refine mz_if_lt (tgt := 18) F dX9_movePebble_4 (by decide) (fun c_5 => ?_) (fun c_5 => ?_)
  · replace h := h.1 c_5
    refine mz_sub [0] rfl ?_
    exact tX9_movePebble_18 F hN kthis h
  · replace h := h.2 c_5
    refine mz_aload_n F dX9_movePebble_7 rfl 0 rfl ?_
    refine mz_callV (As := []) (n := 0) F dX9_movePebble_8 rfl kthis rfl rfl gX9_movePebble_X9_liesHere (by decide +kernel) (by decide) rfl (Nat.le_of_ble_eq_true rfl) (kX9_liesHere _ G kthis h) (mz_kZ fun r_3 u_2 br_3 h hx_1 => ?_)
    replace kthis := hx_1.2.2 _ _ (by decide) kthis
    refine mz_if_eq (tgt := 18) F dX9_movePebble_11 (by decide) (fun c_4 => ?_) (fun c_4 => ?_)
    · replace h := h.1 c_4
      refine mz_sub [0] rfl ?_
      exact tX9_movePebble_18 F hN kthis h
    · replace h := h.2 c_4
      refine mz_iconst (v := 1) F dX9_movePebble_14 (by decide) ?_
      refine mz_goto (tgt := 19) F dX9_movePebble_15 (by decide) ?_
      refine mz_sub [0] rfl ?_
      exact tX9_movePebble_19 F hN kthis h
set_option maxRecDepth 100000 in
theorem kX9_movePebble (l : Launch) (G : mG) {u : mSt} {K : mSt → Prop} {this : Nat} (kthis : mK u this = 10) (h : bX9_movePebble this u K) : mCt l G yX9_movePebble wsX9_movePebble 1 20 [.ref (G.1 + this)] u (mPv K) := by
  refine mCt.of (cc := cX9_movePebble) (maxL := 4) (ret := none) (by decide) rfl (Nat.le_of_ble_eq_true rfl) ?_
  intro X hl hN F
  exact tX9_movePebble F hN kthis h
