/-! RoomMapperModel.fits()I -/
theorem wiX9_fits__9 : ∀ w ∈ u_ws RX9 TX9 52, w ∈ wsX9_fits_ := by decide +kernel
theorem fX9_fits__32 : mFld wsX9_fits_ RX9 32 10 16 22 (.array .int) true := ⟨9, _, RX9, TX9, 52, tyX9, rfl, rfl, rfl, by decide, wiX9_fits__9, tyX9_ok, nmX9, rfl, rfl, Or.inl ⟨by decide +kernel, fun _ => rfl⟩⟩
theorem fX9_fits__26 : mFld wsX9_fits_ RX9 26 10 14 22 (.array .int) true := ⟨9, _, RX9, TX9, 52, tyX9, rfl, rfl, rfl, by decide, wiX9_fits__9, tyX9_ok, nmX9, rfl, rfl, Or.inl ⟨by decide +kernel, fun _ => rfl⟩⟩
theorem fX9_fits__81 : mFld wsX9_fits_ RX9 81 10 42 17 (.array .int) true := ⟨9, _, RX9, TX9, 52, tyX9, rfl, rfl, rfl, by decide, wiX9_fits__9, tyX9_ok, nmX9, rfl, rfl, Or.inl ⟨by decide +kernel, fun _ => rfl⟩⟩
theorem fX9_fits__29 : mFld wsX9_fits_ RX9 29 10 15 22 (.array .int) true := ⟨9, _, RX9, TX9, 52, tyX9, rfl, rfl, rfl, by decide, wiX9_fits__9, tyX9_ok, nmX9, rfl, rfl, Or.inl ⟨by decide +kernel, fun _ => rfl⟩⟩
theorem fX9_fits__168 : mFld wsX9_fits_ RX9 168 10 12 0 .int false := ⟨9, _, RX9, TX9, 52, tyX9, rfl, rfl, rfl, by decide, wiX9_fits__9, tyX9_ok, nmX9, rfl, rfl, Or.inl ⟨by decide +kernel, fun _ => rfl⟩⟩
theorem fX9_fits__23 : mFld wsX9_fits_ RX9 23 10 13 22 (.array .int) true := ⟨9, _, RX9, TX9, 52, tyX9, rfl, rfl, rfl, by decide, wiX9_fits__9, tyX9_ok, nmX9, rfl, rfl, Or.inl ⟨by decide +kernel, fun _ => rfl⟩⟩
theorem fX9_fits__84 : mFld wsX9_fits_ RX9 84 10 43 18 (.array .int) true := ⟨9, _, RX9, TX9, 52, tyX9, rfl, rfl, rfl, by decide, wiX9_fits__9, tyX9_ok, nmX9, rfl, rfl, Or.inl ⟨by decide +kernel, fun _ => rfl⟩⟩
theorem fX9_fits__112 : mFld wsX9_fits_ RX9 112 10 0 0 .int false := ⟨9, _, RX9, TX9, 52, tyX9, rfl, rfl, rfl, by decide, wiX9_fits__9, tyX9_ok, nmX9, rfl, rfl, Or.inl ⟨by decide +kernel, fun _ => rfl⟩⟩
theorem fX9_fits__159 : mFld wsX9_fits_ RX9 159 10 6 0 .boolean false := ⟨9, _, RX9, TX9, 52, tyX9, rfl, rfl, rfl, by decide, wiX9_fits__9, tyX9_ok, nmX9, rfl, rfl, Or.inl ⟨by decide +kernel, fun _ => rfl⟩⟩
theorem fX9_fits__171 : mFld wsX9_fits_ RX9 171 10 17 0 .int false := ⟨9, _, RX9, TX9, 52, tyX9, rfl, rfl, rfl, by decide, wiX9_fits__9, tyX9_ok, nmX9, rfl, rfl, Or.inl ⟨by decide +kernel, fun _ => rfl⟩⟩
def bX9_fits__188 (v0 : Nat) (v1 : Int32) (v2 : Int32) (v3 : Int32) (w0 : Int32) (u : mSt) (K : Int32 → mSt → Prop) (KL38 : Nat → Int32 → Int32 → Int32 → mSt → Prop) : Prop := (∃ q_1, mR u v0 16 = some q_1 ∧ (vp_in v3 200 ∧ ((w0 = (mI u q_1 v3.toNatClampNeg) → (∀ x_3, x_3 = v3 + (1 : Int32) → KL38 v0 v1 v2 x_3 u)) ∧ (¬ (w0 = (mI u q_1 v3.toNatClampNeg)) → K (v3 + (1 : Int32)) u))))
set_option maxRecDepth 100000 in
set_option maxHeartbeats 4000000 in
theorem tX9_fits__188 {X : mCx} {G : mG} {u0 : mSt} {K : Int32 → mSt → Prop} {KL38 : Nat → Int32 → Int32 → Int32 → mSt → Prop} (F : mFx X G cX9_fits_ wsX9_fits_ RX9 "fits" 0 0 (some .int) u0 (mPi K)) (hN : X.2.2.2.2.2.2.2.2.2.2.2.2.1 = 7) (hL38 : ∀ {v0 : Nat} {v1 : Int32} {v2 : Int32} {v3 : Int32} {u : mSt}, mK u v0 = 10 → KL38 v0 v1 v2 v3 u → mZ X u 38 [(0, .ref (G.1 + v0)), (1, .int v1), (2, .int v2), (3, .int v3)] []) {v0 : Nat} {v1 : Int32} {v2 : Int32} {v3 : Int32} {w0 : Int32} {u : mSt} (kv0 : mK u v0 = 10) (h : bX9_fits__188 v0 v1 v2 v3 w0 u K KL38) : mZ X u 188 [(0, .ref (G.1 + v0)), (1, .int v1), (2, .int v2), (3, .int v3)] [.int w0] := by
  refine mz_aload_n F dX9_fits__188 rfl 0 rfl ?_
  obtain ⟨q_1, eq_1, h⟩ := h
  refine mz_getR F dX9_fits__189 fX9_fits__32 (by decide) kv0 eq_1 (fun kq_1 => ?_)
  refine mz_iload_n F dX9_fits__192 rfl 3 rfl ?_
  obtain ⟨b_2, h⟩ := h
  refine mz_iald F dX9_fits__193 kq_1 rfl b_2 ?_
  refine mz_icmp_eq (tgt := 201) F dX9_fits__194 (by decide) (fun c_4 => ?_) (fun c_4 => ?_)
  · replace h := h.1 c_4
    obtain ⟨x_3, ex_3⟩ : ∃ y : Int32, y = v3 + (1 : Int32) := ⟨_, rfl⟩
    replace h := h x_3 ex_3
    refine mz_iinc (v := x_3) (lv2 := [(3, .int x_3), (0, .ref (G.1 + v0)), (1, .int v1), (2, .int v2)]) F dX9_fits__201 3 rfl (by rw [ex_3]; rfl) hN (by decide) rfl ?_
    refine mz_goto (tgt := 38) F dX9_fits__204 (by decide) ?_
    refine mz_sub [1, 2, 3, 0] rfl ?_
    exact hL38 kv0 h
  · replace h := h.2 c_4
    refine mz_iload_n F dX9_fits__197 rfl 3 rfl ?_
    refine mz_iconst (v := 1) F dX9_fits__198 (by decide) ?_
    refine mz_iadd F dX9_fits__199 ?_
    exact mz_iret F dX9_fits__200 ⟨_, rfl, h⟩
def bX9_fits__154 (v0 : Nat) (v1 : Int32) (v2 : Int32) (v3 : Int32) (w0 : Int32) (u : mSt) (K : Int32 → mSt → Prop) (KL38 : Nat → Int32 → Int32 → Int32 → mSt → Prop) : Prop := (∃ q_1, mR u v0 14 = some q_1 ∧ (vp_in v3 200 ∧ ((w0 = (mI u q_1 v3.toNatClampNeg) → (∃ q_3, mR u v0 42 = some q_3 ∧ (vp_in v1 6 ∧ (∃ q_5, mR u v0 15 = some q_5 ∧ (vp_in v3 200 ∧ (((mI u q_3 v1.toNatClampNeg) = (mI u q_5 v3.toNatClampNeg) → ((v2 = v1 → bX9_fits__188 v0 v1 v2 v3 (1 : Int32) u K KL38) ∧ (¬ (v2 = v1) → bX9_fits__188 v0 v1 v2 v3 (0 : Int32) u K KL38))) ∧ (¬ ((mI u q_3 v1.toNatClampNeg) = (mI u q_5 v3.toNatClampNeg)) → K (v3 + (1 : Int32)) u))))))) ∧ (¬ (w0 = (mI u q_1 v3.toNatClampNeg)) → K (v3 + (1 : Int32)) u))))
set_option maxRecDepth 100000 in
set_option maxHeartbeats 4000000 in
theorem tX9_fits__154 {X : mCx} {G : mG} {u0 : mSt} {K : Int32 → mSt → Prop} {KL38 : Nat → Int32 → Int32 → Int32 → mSt → Prop} (F : mFx X G cX9_fits_ wsX9_fits_ RX9 "fits" 0 0 (some .int) u0 (mPi K)) (hN : X.2.2.2.2.2.2.2.2.2.2.2.2.1 = 7) (hL38 : ∀ {v0 : Nat} {v1 : Int32} {v2 : Int32} {v3 : Int32} {u : mSt}, mK u v0 = 10 → KL38 v0 v1 v2 v3 u → mZ X u 38 [(0, .ref (G.1 + v0)), (1, .int v1), (2, .int v2), (3, .int v3)] []) {v0 : Nat} {v1 : Int32} {v2 : Int32} {v3 : Int32} {w0 : Int32} {u : mSt} (kv0 : mK u v0 = 10) (h : bX9_fits__154 v0 v1 v2 v3 w0 u K KL38) : mZ X u 154 [(0, .ref (G.1 + v0)), (1, .int v1), (2, .int v2), (3, .int v3)] [.int w0] := by
  refine mz_aload_n F dX9_fits__154 rfl 0 rfl ?_
  obtain ⟨q_1, eq_1, h⟩ := h
  refine mz_getR F dX9_fits__155 fX9_fits__26 (by decide) kv0 eq_1 (fun kq_1 => ?_)
  refine mz_iload_n F dX9_fits__158 rfl 3 rfl ?_
  obtain ⟨b_2, h⟩ := h
  refine mz_iald F dX9_fits__159 kq_1 rfl b_2 ?_
  refine mz_icmp_ne (tgt := 197) F dX9_fits__160 (by decide) (fun c_9 => ?_) (fun c_9 => ?_)
  · replace h := h.2 c_9
    refine mz_iload_n F dX9_fits__197 rfl 3 rfl ?_
    refine mz_iconst (v := 1) F dX9_fits__198 (by decide) ?_
    refine mz_iadd F dX9_fits__199 ?_
    exact mz_iret F dX9_fits__200 ⟨_, rfl, h⟩
  · replace h := h.1 c_9
    refine mz_aload_n F dX9_fits__163 rfl 0 rfl ?_
    obtain ⟨q_3, eq_3, h⟩ := h
    refine mz_getR F dX9_fits__164 fX9_fits__81 (by decide) kv0 eq_3 (fun kq_3 => ?_)
    refine mz_iload_n F dX9_fits__167 rfl 1 rfl ?_
    obtain ⟨b_4, h⟩ := h
    refine mz_iald F dX9_fits__168 kq_3 rfl b_4 ?_
    refine mz_aload_n F dX9_fits__169 rfl 0 rfl ?_
    obtain ⟨q_5, eq_5, h⟩ := h
    refine mz_getR F dX9_fits__170 fX9_fits__29 (by decide) kv0 eq_5 (fun kq_5 => ?_)
    refine mz_iload_n F dX9_fits__173 rfl 3 rfl ?_
    obtain ⟨b_6, h⟩ := h
    refine mz_iald F dX9_fits__174 kq_5 rfl b_6 ?_
    refine mz_icmp_ne (tgt := 197) F dX9_fits__175 (by decide) (fun c_8 => ?_) (fun c_8 => ?_)
    · replace h := h.2 c_8
      refine mz_iload_n F dX9_fits__197 rfl 3 rfl ?_
      refine mz_iconst (v := 1) F dX9_fits__198 (by decide) ?_
      refine mz_iadd F dX9_fits__199 ?_
      exact mz_iret F dX9_fits__200 ⟨_, rfl, h⟩
    · replace h := h.1 c_8
      refine mz_iload_n F dX9_fits__178 rfl 2 rfl ?_
      refine mz_iload_n F dX9_fits__179 rfl 1 rfl ?_
      refine mz_icmp_ne (tgt := 187) F dX9_fits__180 (by decide) (fun c_7 => ?_) (fun c_7 => ?_)
      · replace h := h.2 c_7
        refine mz_iconst (v := 0) F dX9_fits__187 (by decide) ?_
        refine mz_sub [0, 1, 2, 3] rfl ?_
        exact tX9_fits__188 F hN hL38 kv0 h
      · replace h := h.1 c_7
        refine mz_iconst (v := 1) F dX9_fits__183 (by decide) ?_
        refine mz_goto (tgt := 188) F dX9_fits__184 (by decide) ?_
        refine mz_sub [0, 1, 2, 3] rfl ?_
        exact tX9_fits__188 F hN hL38 kv0 h
def bX9_fits__144 (v0 : Nat) (v1 : Int32) (v2 : Int32) (v3 : Int32) (v5 : Int32) (u : mSt) (K : Int32 → mSt → Prop) (KL38 : Nat → Int32 → Int32 → Int32 → mSt → Prop) : Prop := ((v5 = 0 → bX9_fits__154 v0 v1 v2 v3 (0 : Int32) u K KL38) ∧ (¬ (v5 = 0) → bX9_fits__154 v0 v1 v2 v3 (1 : Int32) u K KL38))
set_option maxRecDepth 100000 in
set_option maxHeartbeats 4000000 in
theorem tX9_fits__144 {X : mCx} {G : mG} {u0 : mSt} {K : Int32 → mSt → Prop} {KL38 : Nat → Int32 → Int32 → Int32 → mSt → Prop} (F : mFx X G cX9_fits_ wsX9_fits_ RX9 "fits" 0 0 (some .int) u0 (mPi K)) (hN : X.2.2.2.2.2.2.2.2.2.2.2.2.1 = 7) (hL38 : ∀ {v0 : Nat} {v1 : Int32} {v2 : Int32} {v3 : Int32} {u : mSt}, mK u v0 = 10 → KL38 v0 v1 v2 v3 u → mZ X u 38 [(0, .ref (G.1 + v0)), (1, .int v1), (2, .int v2), (3, .int v3)] []) {v0 : Nat} {v1 : Int32} {v2 : Int32} {v3 : Int32} {v5 : Int32} {u : mSt} (kv0 : mK u v0 = 10) (h : bX9_fits__144 v0 v1 v2 v3 v5 u K KL38) : mZ X u 144 [(0, .ref (G.1 + v0)), (1, .int v1), (2, .int v2), (3, .int v3), (5, .int v5)] [] := by
  refine mz_iload F dX9_fits__144 4 rfl ?_
  refine mz_if_eq (tgt := 153) F dX9_fits__146 (by decide) (fun c_1 => ?_) (fun c_1 => ?_)
  · replace h := h.1 c_1
    refine mz_iconst (v := 0) F dX9_fits__153 (by decide) ?_
    refine mz_sub [0, 1, 2, 3] rfl ?_
    exact tX9_fits__154 F hN hL38 kv0 h
  · replace h := h.2 c_1
    refine mz_iconst (v := 1) F dX9_fits__149 (by decide) ?_
    refine mz_goto (tgt := 154) F dX9_fits__150 (by decide) ?_
    refine mz_sub [0, 1, 2, 3] rfl ?_
    exact tX9_fits__154 F hN hL38 kv0 h
def bX9_fits__82 (v0 : Nat) (v1 : Int32) (v3 : Int32) (v5 : Int32) (w0 : Int32) (u : mSt) (K : Int32 → mSt → Prop) (KL38 : Nat → Int32 → Int32 → Int32 → mSt → Prop) : Prop := bX9_fits__144 v0 v1 w0 v3 v5 u K KL38
set_option maxRecDepth 100000 in
set_option maxHeartbeats 4000000 in
theorem tX9_fits__82 {X : mCx} {G : mG} {u0 : mSt} {K : Int32 → mSt → Prop} {KL38 : Nat → Int32 → Int32 → Int32 → mSt → Prop} (F : mFx X G cX9_fits_ wsX9_fits_ RX9 "fits" 0 0 (some .int) u0 (mPi K)) (hN : X.2.2.2.2.2.2.2.2.2.2.2.2.1 = 7) (hL38 : ∀ {v0 : Nat} {v1 : Int32} {v2 : Int32} {v3 : Int32} {u : mSt}, mK u v0 = 10 → KL38 v0 v1 v2 v3 u → mZ X u 38 [(0, .ref (G.1 + v0)), (1, .int v1), (2, .int v2), (3, .int v3)] []) {v0 : Nat} {v1 : Int32} {v3 : Int32} {v5 : Int32} {w0 : Int32} {u : mSt} (kv0 : mK u v0 = 10) (h : bX9_fits__82 v0 v1 v3 v5 w0 u K KL38) : mZ X u 82 [(0, .ref (G.1 + v0)), (1, .int v1), (3, .int v3), (5, .int v5)] [.int w0] := by
  refine mz_istore_n (lv2 := [(2, .int w0), (0, .ref (G.1 + v0)), (1, .int v1), (3, .int v3), (5, .int v5)]) F dX9_fits__82 rfl hN (by decide) rfl ?_
  refine mz_goto (tgt := 144) F dX9_fits__83 (by decide) ?_
  refine mz_sub [1, 2, 0, 3, 4] rfl ?_
  exact tX9_fits__144 F hN hL38 kv0 h
def bX9_fits__143 (v0 : Nat) (v2 : Int32) (v3 : Int32) (v5 : Int32) (w0 : Int32) (u : mSt) (K : Int32 → mSt → Prop) (KL38 : Nat → Int32 → Int32 → Int32 → mSt → Prop) : Prop := bX9_fits__144 v0 w0 v2 v3 v5 u K KL38
set_option maxRecDepth 100000 in
set_option maxHeartbeats 4000000 in
theorem tX9_fits__143 {X : mCx} {G : mG} {u0 : mSt} {K : Int32 → mSt → Prop} {KL38 : Nat → Int32 → Int32 → Int32 → mSt → Prop} (F : mFx X G cX9_fits_ wsX9_fits_ RX9 "fits" 0 0 (some .int) u0 (mPi K)) (hN : X.2.2.2.2.2.2.2.2.2.2.2.2.1 = 7) (hL38 : ∀ {v0 : Nat} {v1 : Int32} {v2 : Int32} {v3 : Int32} {u : mSt}, mK u v0 = 10 → KL38 v0 v1 v2 v3 u → mZ X u 38 [(0, .ref (G.1 + v0)), (1, .int v1), (2, .int v2), (3, .int v3)] []) {v0 : Nat} {v2 : Int32} {v3 : Int32} {v5 : Int32} {w0 : Int32} {u : mSt} (kv0 : mK u v0 = 10) (h : bX9_fits__143 v0 v2 v3 v5 w0 u K KL38) : mZ X u 143 [(0, .ref (G.1 + v0)), (2, .int v2), (3, .int v3), (5, .int v5)] [.int w0] := by
  refine mz_istore_n (lv2 := [(1, .int w0), (0, .ref (G.1 + v0)), (2, .int v2), (3, .int v3), (5, .int v5)]) F dX9_fits__143 rfl hN (by decide) rfl ?_
  refine mz_sub [1, 0, 2, 3, 4] rfl ?_
  exact tX9_fits__144 F hN hL38 kv0 h
def bX9_fits__128 (v0 : Nat) (v1 : Int32) (v2 : Int32) (v3 : Int32) (v6 : Int32) (w0 : Int32) (u : mSt) (K : Int32 → mSt → Prop) (KL38 : Nat → Int32 → Int32 → Int32 → mSt → Prop) : Prop := ((v6 = (6 : Int32) → bX9_fits__143 v0 v2 v3 w0 v1 u K KL38) ∧ (¬ (v6 = (6 : Int32)) → bX9_fits__143 v0 v2 v3 w0 v6 u K KL38))
set_option maxRecDepth 100000 in
set_option maxHeartbeats 4000000 in
theorem tX9_fits__128 {X : mCx} {G : mG} {u0 : mSt} {K : Int32 → mSt → Prop} {KL38 : Nat → Int32 → Int32 → Int32 → mSt → Prop} (F : mFx X G cX9_fits_ wsX9_fits_ RX9 "fits" 0 0 (some .int) u0 (mPi K)) (hN : X.2.2.2.2.2.2.2.2.2.2.2.2.1 = 7) (hL38 : ∀ {v0 : Nat} {v1 : Int32} {v2 : Int32} {v3 : Int32} {u : mSt}, mK u v0 = 10 → KL38 v0 v1 v2 v3 u → mZ X u 38 [(0, .ref (G.1 + v0)), (1, .int v1), (2, .int v2), (3, .int v3)] []) {v0 : Nat} {v1 : Int32} {v2 : Int32} {v3 : Int32} {v6 : Int32} {w0 : Int32} {u : mSt} (kv0 : mK u v0 = 10) (h : bX9_fits__128 v0 v1 v2 v3 v6 w0 u K KL38) : mZ X u 128 [(0, .ref (G.1 + v0)), (1, .int v1), (2, .int v2), (3, .int v3), (6, .int v6)] [.int w0] := by
  refine mz_istore (lv2 := [(5, .int w0), (0, .ref (G.1 + v0)), (1, .int v1), (2, .int v2), (3, .int v3), (6, .int v6)]) F dX9_fits__128 hN (by decide) rfl ?_
  refine mz_iload F dX9_fits__130 5 rfl ?_
  refine mz_bipush (v := 6) F dX9_fits__132 (by decide) ?_
  refine mz_icmp_ne (tgt := 141) F dX9_fits__134 (by decide) (fun c_1 => ?_) (fun c_1 => ?_)
  · replace h := h.2 c_1
    refine mz_iload F dX9_fits__141 5 rfl ?_
    refine mz_sub [1, 3, 4, 0] rfl ?_
    exact tX9_fits__143 F hN hL38 kv0 h
  · replace h := h.1 c_1
    refine mz_iload_n F dX9_fits__137 rfl 2 rfl ?_
    refine mz_goto (tgt := 143) F dX9_fits__138 (by decide) ?_
    refine mz_sub [1, 3, 4, 0] rfl ?_
    exact tX9_fits__143 F hN hL38 kv0 h
def bX9_fits__127 (v0 : Nat) (v1 : Int32) (v2 : Int32) (v3 : Int32) (v6 : Int32) (u : mSt) (K : Int32 → mSt → Prop) (KL38 : Nat → Int32 → Int32 → Int32 → mSt → Prop) : Prop := bX9_fits__128 v0 v1 v2 v3 v6 (0 : Int32) u K KL38
set_option maxRecDepth 100000 in
set_option maxHeartbeats 4000000 in
theorem tX9_fits__127 {X : mCx} {G : mG} {u0 : mSt} {K : Int32 → mSt → Prop} {KL38 : Nat → Int32 → Int32 → Int32 → mSt → Prop} (F : mFx X G cX9_fits_ wsX9_fits_ RX9 "fits" 0 0 (some .int) u0 (mPi K)) (hN : X.2.2.2.2.2.2.2.2.2.2.2.2.1 = 7) (hL38 : ∀ {v0 : Nat} {v1 : Int32} {v2 : Int32} {v3 : Int32} {u : mSt}, mK u v0 = 10 → KL38 v0 v1 v2 v3 u → mZ X u 38 [(0, .ref (G.1 + v0)), (1, .int v1), (2, .int v2), (3, .int v3)] []) {v0 : Nat} {v1 : Int32} {v2 : Int32} {v3 : Int32} {v6 : Int32} {u : mSt} (kv0 : mK u v0 = 10) (h : bX9_fits__127 v0 v1 v2 v3 v6 u K KL38) : mZ X u 127 [(0, .ref (G.1 + v0)), (1, .int v1), (2, .int v2), (3, .int v3), (6, .int v6)] [] := by
  refine mz_iconst (v := 0) F dX9_fits__127 (by decide) ?_
  refine mz_sub [0, 1, 2, 3, 4] rfl ?_
  exact tX9_fits__128 F hN hL38 kv0 h
def bX9_fits__38 : Nat → Nat → Int32 → Int32 → Int32 → mSt → (Int32 → mSt → Prop) → Prop
  | 0, _, _, _, _, _, _ => False
  | n + 1, v0, v1, v2, v3, u, K => (((mI u v0 12) ≤ v3 → K (0 : Int32) u) ∧ (¬ ((mI u v0 12) ≤ v3) → (∃ q_1, mR u v0 13 = some q_1 ∧ (vp_in v3 200 ∧ (∀ x_3, x_3 = (mI u q_1 v3.toNatClampNeg) → ((x_3 = (5 : Int32) → ((0 ≤ v2 → ((v2 = v1 → bX9_fits__82 v0 v1 v3 (0 : Int32) (-2 : Int32) u K (fun z0 z1 z2 z3 z4 => bX9_fits__38 n z0 z1 z2 z3 z4 K)) ∧ (¬ (v2 = v1) → bX9_fits__82 v0 v1 v3 (0 : Int32) v2 u K (fun z0 z1 z2 z3 z4 => bX9_fits__38 n z0 z1 z2 z3 z4 K)))) ∧ (¬ (0 ≤ v2) → bX9_fits__82 v0 v1 v3 (0 : Int32) v1 u K (fun z0 z1 z2 z3 z4 => bX9_fits__38 n z0 z1 z2 z3 z4 K)))) ∧ (¬ (x_3 = (5 : Int32)) → (∃ q_4, mR u v0 43 = some q_4 ∧ (vp_in (((5 : Int32) * v1) + x_3) 30 ∧ (∀ x_6, x_6 = (mI u q_4 (((5 : Int32) * v1) + x_3).toNatClampNeg) → ((x_6 = (7 : Int32) → K (v3 + (1 : Int32)) u) ∧ (¬ (x_6 = (7 : Int32)) → ((x_6 = (6 : Int32) → (((4 : Int32) ≤ x_3 → bX9_fits__127 v0 v1 v2 v3 x_6 u K (fun z0 z1 z2 z3 z4 => bX9_fits__38 n z0 z1 z2 z3 z4 K)) ∧ (¬ ((4 : Int32) ≤ x_3) → bX9_fits__128 v0 v1 v2 v3 x_6 (1 : Int32) u K (fun z0 z1 z2 z3 z4 => bX9_fits__38 n z0 z1 z2 z3 z4 K)))) ∧ (¬ (x_6 = (6 : Int32)) → bX9_fits__127 v0 v1 v2 v3 x_6 u K (fun z0 z1 z2 z3 z4 => bX9_fits__38 n z0 z1 z2 z3 z4 K)))))))))))))))
set_option maxRecDepth 100000 in
set_option maxHeartbeats 4000000 in
theorem tX9_fits__38 {X : mCx} {G : mG} {u0 : mSt} {K : Int32 → mSt → Prop} (F : mFx X G cX9_fits_ wsX9_fits_ RX9 "fits" 0 0 (some .int) u0 (mPi K)) (hN : X.2.2.2.2.2.2.2.2.2.2.2.2.1 = 7) : ∀ (n : Nat) {v0 : Nat} {v1 : Int32} {v2 : Int32} {v3 : Int32} {u : mSt}, mK u v0 = 10 → bX9_fits__38 n v0 v1 v2 v3 u K → mZ X u 38 [(0, .ref (G.1 + v0)), (1, .int v1), (2, .int v2), (3, .int v3)] [] := by
  intro n
  induction n with
  | zero => intro v0 v1 v2 v3 u kv0 h; exact False.elim h
  | succ n ih =>
    intro v0 v1 v2 v3 u kv0 h
    refine mz_iload_n F dX9_fits__38 rfl 3 rfl ?_
    refine mz_aload_n F dX9_fits__39 rfl 0 rfl ?_
    refine mz_getI F dX9_fits__40 fX9_fits__168 kv0 ?_
    refine mz_icmp_ge (tgt := 207) F dX9_fits__43 (by decide) (fun c_13 => ?_) (fun c_13 => ?_)
    · replace h := h.1 c_13
      refine mz_iconst (v := 0) F dX9_fits__207 (by decide) ?_
      exact mz_iret F dX9_fits__208 ⟨_, rfl, h⟩
    · replace h := h.2 c_13
      refine mz_aload_n F dX9_fits__46 rfl 0 rfl ?_
      obtain ⟨q_1, eq_1, h⟩ := h
      refine mz_getR F dX9_fits__47 fX9_fits__23 (by decide) kv0 eq_1 (fun kq_1 => ?_)
      refine mz_iload_n F dX9_fits__50 rfl 3 rfl ?_
      obtain ⟨b_2, h⟩ := h
      refine mz_iald F dX9_fits__51 kq_1 rfl b_2 ?_
      refine mz_topi (fun x_3 ex_3 => ?_)
      replace h := h x_3 ex_3
      refine mz_istore (lv2 := [(4, .int x_3), (0, .ref (G.1 + v0)), (1, .int v1), (2, .int v2), (3, .int v3)]) F dX9_fits__52 hN (by decide) rfl ?_
      refine mz_iconst (v := 0) F dX9_fits__54 (by decide) ?_
      refine mz_istore (lv2 := [(5, .int (0 : Int32)), (4, .int x_3), (0, .ref (G.1 + v0)), (1, .int v1), (2, .int v2), (3, .int v3)]) F dX9_fits__55 hN (by decide) rfl ?_
      refine mz_iload F dX9_fits__57 1 rfl ?_
      refine mz_iconst (v := 5) F dX9_fits__59 (by decide) ?_
      refine mz_icmp_ne (tgt := 86) F dX9_fits__60 (by decide) (fun c_12 => ?_) (fun c_12 => ?_)
      · replace h := h.2 c_12
        refine mz_aload_n F dX9_fits__86 rfl 2 rfl ?_
        obtain ⟨q_4, eq_4, h⟩ := h
        refine mz_getR F dX9_fits__87 fX9_fits__84 (by decide) kv0 eq_4 (fun kq_4 => ?_)
        refine mz_iconst (v := 5) F dX9_fits__90 (by decide) ?_
        refine mz_iload_n F dX9_fits__91 rfl 3 rfl ?_
        refine mz_imul F dX9_fits__92 ?_
        refine mz_iload F dX9_fits__93 1 rfl ?_
        refine mz_iadd F dX9_fits__95 ?_
        obtain ⟨b_5, h⟩ := h
        refine mz_iald F dX9_fits__96 kq_4 rfl b_5 ?_
        refine mz_topi (fun x_6 ex_6 => ?_)
        replace h := h x_6 ex_6
        refine mz_istore (lv2 := [(6, .int x_6), (5, .int (0 : Int32)), (4, .int x_3), (0, .ref (G.1 + v0)), (1, .int v1), (2, .int v2), (3, .int v3)]) F dX9_fits__97 hN (by decide) rfl ?_
        refine mz_iload F dX9_fits__99 0 rfl ?_
        refine mz_bipush (v := 7) F dX9_fits__101 (by decide) ?_
        refine mz_icmp_ne (tgt := 110) F dX9_fits__103 (by decide) (fun c_9 => ?_) (fun c_9 => ?_)
        · replace h := h.2 c_9
          refine mz_iload F dX9_fits__110 0 rfl ?_
          refine mz_bipush (v := 6) F dX9_fits__112 (by decide) ?_
          refine mz_icmp_ne (tgt := 127) F dX9_fits__114 (by decide) (fun c_8 => ?_) (fun c_8 => ?_)
          · replace h := h.2 c_8
            refine mz_sub [3, 4, 5, 6, 0] rfl ?_
            exact tX9_fits__127 F hN (fun k0 h => ih k0 h) kv0 h
          · replace h := h.1 c_8
            refine mz_iload F dX9_fits__117 2 rfl ?_
            refine mz_iconst (v := 4) F dX9_fits__119 (by decide) ?_
            refine mz_icmp_ge (tgt := 127) F dX9_fits__120 (by decide) (fun c_7 => ?_) (fun c_7 => ?_)
            · replace h := h.1 c_7
              refine mz_sub [3, 4, 5, 6, 0] rfl ?_
              exact tX9_fits__127 F hN (fun k0 h => ih k0 h) kv0 h
            · replace h := h.2 c_7
              refine mz_iconst (v := 1) F dX9_fits__123 (by decide) ?_
              refine mz_goto (tgt := 128) F dX9_fits__124 (by decide) ?_
              refine mz_sub [3, 4, 5, 6, 0] rfl ?_
              exact tX9_fits__128 F hN (fun k0 h => ih k0 h) kv0 h
        · replace h := h.1 c_9
          refine mz_iload_n F dX9_fits__106 rfl 6 rfl ?_
          refine mz_iconst (v := 1) F dX9_fits__107 (by decide) ?_
          refine mz_iadd F dX9_fits__108 ?_
          exact mz_iret F dX9_fits__109 ⟨_, rfl, h⟩
      · replace h := h.1 c_12
        refine mz_iload_n F dX9_fits__63 rfl 4 rfl ?_
        refine mz_if_ge (tgt := 71) F dX9_fits__64 (by decide) (fun c_11 => ?_) (fun c_11 => ?_)
        · replace h := h.1 c_11
          refine mz_iload_n F dX9_fits__71 rfl 4 rfl ?_
          refine mz_iload_n F dX9_fits__72 rfl 3 rfl ?_
          refine mz_icmp_ne (tgt := 81) F dX9_fits__73 (by decide) (fun c_10 => ?_) (fun c_10 => ?_)
          · replace h := h.2 c_10
            refine mz_iload_n F dX9_fits__81 rfl 4 rfl ?_
            refine mz_sub [2, 3, 5, 0] rfl ?_
            exact tX9_fits__82 F hN (fun k0 h => ih k0 h) kv0 h
          · replace h := h.1 c_10
            refine mz_bipush (v := (-2)) F dX9_fits__76 (by decide) ?_
            refine mz_goto (tgt := 82) F dX9_fits__78 (by decide) ?_
            refine mz_sub [2, 3, 5, 0] rfl ?_
            exact tX9_fits__82 F hN (fun k0 h => ih k0 h) kv0 h
        · replace h := h.2 c_11
          refine mz_iload_n F dX9_fits__67 rfl 3 rfl ?_
          refine mz_goto (tgt := 82) F dX9_fits__68 (by decide) ?_
          refine mz_sub [2, 3, 5, 0] rfl ?_
          exact tX9_fits__82 F hN (fun k0 h => ih k0 h) kv0 h
def bX9_fits_ (this : Nat) (u : mSt) (K : Int32 → mSt → Prop) : Prop := (∀ u_1, u_1 = mpI u this 0 (0 : Int32) → (((mI u_1 this 6) = 0 → K (-2 : Int32) u_1) ∧ (¬ ((mI u_1 this 6) = 0) → (∃ q_2, mR u_1 this 42 = some q_2 ∧ (vp_in (0 : Int32) 6 ∧ (((mI u_1 q_2 (0 : Int32).toNatClampNeg) = (mI u_1 this 17) → (∃ n9, bX9_fits__38 n9 this (0 : Int32) (-2 : Int32) (0 : Int32) u_1 K)) ∧ (¬ ((mI u_1 q_2 (0 : Int32).toNatClampNeg) = (mI u_1 this 17)) → K (-4 : Int32) u_1)))))))
set_option maxRecDepth 100000 in
set_option maxHeartbeats 4000000 in
theorem tX9_fits_ {X : mCx} {G : mG} {u0 : mSt} {K : Int32 → mSt → Prop} (F : mFx X G cX9_fits_ wsX9_fits_ RX9 "fits" 0 0 (some .int) u0 (mPi K)) (hN : X.2.2.2.2.2.2.2.2.2.2.2.2.1 = 7) {this : Nat} {u : mSt} (kthis : mK u this = 10) (h : bX9_fits_ this u K) : mZ X u 0 [(0, .ref (G.1 + this))] [] := by
  refine mz_aload_n F dX9_fits__0 rfl 0 rfl ?_
  refine mz_iconst (v := 0) F dX9_fits__1 (by decide) ?_
  refine mz_putI F dX9_fits__2 fX9_fits__112 kthis rfl rfl (fun u_1 eu_1 hxu_1 => ?_)
  replace h := h u_1 eu_1
  replace kthis := hxu_1.2.2 _ _ (by decide) kthis
  refine mz_aload_n F dX9_fits__5 rfl 0 rfl ?_
  refine mz_getI F dX9_fits__6 fX9_fits__159 kthis ?_
  refine mz_if_ne (tgt := 15) F dX9_fits__9 (by decide) (fun c_5 => ?_) (fun c_5 => ?_)
  · replace h := h.2 c_5
    refine mz_aload_n F dX9_fits__15 rfl 0 rfl ?_
    obtain ⟨q_2, eq_2, h⟩ := h
    refine mz_getR F dX9_fits__16 fX9_fits__81 (by decide) kthis eq_2 (fun kq_2 => ?_)
    refine mz_iconst (v := 0) F dX9_fits__19 (by decide) ?_
    obtain ⟨b_3, h⟩ := h
    refine mz_iald F dX9_fits__20 kq_2 rfl b_3 ?_
    refine mz_aload_n F dX9_fits__21 rfl 0 rfl ?_
    refine mz_getI F dX9_fits__22 fX9_fits__171 kthis ?_
    refine mz_icmp_eq (tgt := 31) F dX9_fits__25 (by decide) (fun c_4 => ?_) (fun c_4 => ?_)
    · replace h := h.1 c_4
      refine mz_iconst (v := 0) F dX9_fits__31 (by decide) ?_
      refine mz_istore_n (lv2 := [(1, .int (0 : Int32)), (0, .ref (G.1 + this))]) F dX9_fits__32 rfl hN (by decide) rfl ?_
      refine mz_bipush (v := (-2)) F dX9_fits__33 (by decide) ?_
      refine mz_istore_n (lv2 := [(2, .int (-2 : Int32)), (1, .int (0 : Int32)), (0, .ref (G.1 + this))]) F dX9_fits__35 rfl hN (by decide) rfl ?_
      refine mz_iconst (v := 0) F dX9_fits__36 (by decide) ?_
      refine mz_istore_n (lv2 := [(3, .int (0 : Int32)), (2, .int (-2 : Int32)), (1, .int (0 : Int32)), (0, .ref (G.1 + this))]) F dX9_fits__37 rfl hN (by decide) rfl ?_
      refine mz_sub [3, 2, 1, 0] rfl ?_
      obtain ⟨n9, h⟩ := h
      exact tX9_fits__38 F hN n9 kthis h
    · replace h := h.2 c_4
      refine mz_bipush (v := (-4)) F dX9_fits__28 (by decide) ?_
      exact mz_iret F dX9_fits__30 ⟨_, rfl, h⟩
  · replace h := h.1 c_5
    refine mz_bipush (v := (-2)) F dX9_fits__12 (by decide) ?_
    exact mz_iret F dX9_fits__14 ⟨_, rfl, h⟩
set_option maxRecDepth 100000 in
theorem kX9_fits_ (l : Launch) (G : mG) {u : mSt} {K : Int32 → mSt → Prop} {this : Nat} (kthis : mK u this = 10) (h : bX9_fits_ this u K) : mCt l G yX9_fits_ wsX9_fits_ 0 0 [.ref (G.1 + this)] u (mPi K) := by
  refine mCt.of (cc := cX9_fits_) (maxL := 7) (ret := (some .int)) (by decide) rfl (Nat.le_of_ble_eq_true rfl) ?_
  intro X hl hN F
  exact tX9_fits_ F hN kthis h
/-! RoomMapperModel.standing()I -/
theorem wiX9_standing_9 : ∀ w ∈ u_ws RX9 TX9 52, w ∈ wsX9_standing := by decide +kernel
theorem fX9_standing_131 : mFld wsX9_standing RX9 131 10 34 0 .int false := ⟨9, _, RX9, TX9, 52, tyX9, rfl, rfl, rfl, by decide, wiX9_standing_9, tyX9_ok, nmX9, rfl, rfl, Or.inl ⟨by decide +kernel, fun _ => rfl⟩⟩
theorem fX9_standing_141 : mFld wsX9_standing RX9 141 10 35 0 .int false := ⟨9, _, RX9, TX9, 52, tyX9, rfl, rfl, rfl, by decide, wiX9_standing_9, tyX9_ok, nmX9, rfl, rfl, Or.inl ⟨by decide +kernel, fun _ => rfl⟩⟩
theorem fX9_standing_138 : mFld wsX9_standing RX9 138 10 36 0 .boolean false := ⟨9, _, RX9, TX9, 52, tyX9, rfl, rfl, rfl, by decide, wiX9_standing_9, tyX9_ok, nmX9, rfl, rfl, Or.inl ⟨by decide +kernel, fun _ => rfl⟩⟩
def bX9_standing (this : Nat) (u : mSt) (K : Int32 → mSt → Prop) : Prop := (((mI u this 36) = 0 → K ((((8 : Int32) * (mI u this 34)) + ((2 : Int32) * (mI u this 35))) + (0 : Int32)) u) ∧ (¬ ((mI u this 36) = 0) → K ((((8 : Int32) * (mI u this 34)) + ((2 : Int32) * (mI u this 35))) + (1 : Int32)) u))
set_option maxRecDepth 100000 in
set_option maxHeartbeats 4000000 in
theorem tX9_standing {X : mCx} {G : mG} {u0 : mSt} {K : Int32 → mSt → Prop} (F : mFx X G cX9_standing wsX9_standing RX9 "standing" 0 0 (some .int) u0 (mPi K)) (hN : X.2.2.2.2.2.2.2.2.2.2.2.2.1 = 1) {this : Nat} {u : mSt} (kthis : mK u this = 10) (h : bX9_standing this u K) : mZ X u 0 [(0, .ref (G.1 + this))] [] := by
  refine mz_bipush (v := 8) F dX9_standing_0 (by decide) ?_
  refine mz_aload_n F dX9_standing_2 rfl 0 rfl ?_
  refine mz_getI F dX9_standing_3 fX9_standing_131 kthis ?_
  refine mz_imul F dX9_standing_6 ?_
  refine mz_iconst (v := 2) F dX9_standing_7 (by decide) ?_
  refine mz_aload_n F dX9_standing_8 rfl 0 rfl ?_
  refine mz_getI F dX9_standing_9 fX9_standing_141 kthis ?_
  refine mz_imul F dX9_standing_12 ?_
  refine mz_iadd F dX9_standing_13 ?_
  refine mz_aload_n F dX9_standing_14 rfl 0 rfl ?_
  refine mz_getI F dX9_standing_15 fX9_standing_138 kthis ?_
  refine mz_if_eq (tgt := 25) F dX9_standing_18 (by decide) (fun c_1 => ?_) (fun c_1 => ?_)
  · replace h := h.1 c_1
    refine mz_iconst (v := 0) F dX9_standing_25 (by decide) ?_
    refine mz_iadd F dX9_standing_26 ?_
    exact mz_iret F dX9_standing_27 ⟨_, rfl, h⟩
  · replace h := h.2 c_1
    refine mz_iconst (v := 1) F dX9_standing_21 (by decide) ?_
    refine mz_goto (tgt := 26) F dX9_standing_22 (by decide) ?_
    refine mz_iadd F dX9_standing_26 ?_
    exact mz_iret F dX9_standing_27 ⟨_, rfl, h⟩
set_option maxRecDepth 100000 in
theorem kX9_standing (l : Launch) (G : mG) {u : mSt} {K : Int32 → mSt → Prop} {this : Nat} (kthis : mK u this = 10) (h : bX9_standing this u K) : mCt l G yX9_standing wsX9_standing 0 0 [.ref (G.1 + this)] u (mPi K) := by
  refine mCt.of (cc := cX9_standing) (maxL := 1) (ret := (some .int)) (by decide) rfl (Nat.le_of_ble_eq_true rfl) ?_
  intro X hl hN F
  exact tX9_standing F hN kthis h
/-! RoomMapperModel.standAt(I)V -/
theorem wiX9_standAt_9 : ∀ w ∈ u_ws RX9 TX9 52, w ∈ wsX9_standAt := by decide +kernel
theorem fX9_standAt_138 : mFld wsX9_standAt RX9 138 10 36 0 .boolean false := ⟨9, _, RX9, TX9, 52, tyX9, rfl, rfl, rfl, by decide, wiX9_standAt_9, tyX9_ok, nmX9, rfl, rfl, Or.inl ⟨by decide +kernel, fun _ => rfl⟩⟩
theorem fX9_standAt_131 : mFld wsX9_standAt RX9 131 10 34 0 .int false := ⟨9, _, RX9, TX9, 52, tyX9, rfl, rfl, rfl, by decide, wiX9_standAt_9, tyX9_ok, nmX9, rfl, rfl, Or.inl ⟨by decide +kernel, fun _ => rfl⟩⟩
theorem fX9_standAt_141 : mFld wsX9_standAt RX9 141 10 35 0 .int false := ⟨9, _, RX9, TX9, 52, tyX9, rfl, rfl, rfl, by decide, wiX9_standAt_9, tyX9_ok, nmX9, rfl, rfl, Or.inl ⟨by decide +kernel, fun _ => rfl⟩⟩
def bX9_standAt_30 (w0 : Nat) (w1 : Int32) (u : mSt) (K : mSt → Prop) : Prop := ((w1 = 0 ∨ w1 = 1) ∧ (∀ u_1, u_1 = mpI u w0 36 w1 → K u_1))
set_option maxRecDepth 100000 in
set_option maxHeartbeats 4000000 in
theorem tX9_standAt_30 {X : mCx} {G : mG} {u0 : mSt} {K : mSt → Prop} (F : mFx X G cX9_standAt wsX9_standAt RX9 "standAt" 0 0 none u0 (mPv K)) (hN : X.2.2.2.2.2.2.2.2.2.2.2.2.1 = 2) {w0 : Nat} {w1 : Int32} {u : mSt} (kw0 : mK u w0 = 10) (h : bX9_standAt_30 w0 w1 u K) : mZ X u 30 [] [.int w1, .ref (G.1 + w0)] := by
  obtain ⟨b_2, h⟩ := h
  refine mz_putI F dX9_standAt_30 fX9_standAt_138 kw0 (mbn b_2) (mbf b_2) (fun u_1 eu_1 hxu_1 => ?_)
  replace h := h u_1 eu_1
  exact mz_vret F dX9_standAt_33 ⟨rfl, h⟩
def bX9_standAt (this : Nat) (a1 : Int32) (u : mSt) (K : mSt → Prop) : Prop := (∀ u_1, u_1 = mpI u this 34 (a1 / (8 : Int32)) → (∀ u_2, u_2 = mpI u_1 this 35 ((a1 / (2 : Int32)) - (a1 / (2 : Int32)) / (4 : Int32) * (4 : Int32)) → (((a1 - a1 / (2 : Int32) * (2 : Int32)) = (1 : Int32) → bX9_standAt_30 this (1 : Int32) u_2 K) ∧ (¬ ((a1 - a1 / (2 : Int32) * (2 : Int32)) = (1 : Int32)) → bX9_standAt_30 this (0 : Int32) u_2 K))))
set_option maxRecDepth 100000 in
set_option maxHeartbeats 4000000 in
theorem tX9_standAt {X : mCx} {G : mG} {u0 : mSt} {K : mSt → Prop} (F : mFx X G cX9_standAt wsX9_standAt RX9 "standAt" 0 0 none u0 (mPv K)) (hN : X.2.2.2.2.2.2.2.2.2.2.2.2.1 = 2) {this : Nat} {a1 : Int32} {u : mSt} (kthis : mK u this = 10) (h : bX9_standAt this a1 u K) : mZ X u 0 [(0, .ref (G.1 + this)), (1, .int a1)] [] := by
  refine mz_aload_n F dX9_standAt_0 rfl 0 rfl ?_
  refine mz_iload_n F dX9_standAt_1 rfl 1 rfl ?_
  refine mz_bipush (v := 8) F dX9_standAt_2 (by decide) ?_
  refine mz_idiv F dX9_standAt_4 (by decide) ?_
  refine mz_putI F dX9_standAt_5 fX9_standAt_131 kthis rfl rfl (fun u_1 eu_1 hxu_1 => ?_)
  replace h := h u_1 eu_1
  replace kthis := hxu_1.2.2 _ _ (by decide) kthis
  refine mz_aload_n F dX9_standAt_8 rfl 0 rfl ?_
  refine mz_iload_n F dX9_standAt_9 rfl 1 rfl ?_
  refine mz_iconst (v := 2) F dX9_standAt_10 (by decide) ?_
  refine mz_idiv F dX9_standAt_11 (by decide) ?_
  refine mz_iconst (v := 4) F dX9_standAt_12 (by decide) ?_
  refine mz_irem F dX9_standAt_13 (by decide) ?_
  refine mz_putI F dX9_standAt_14 fX9_standAt_141 kthis rfl rfl (fun u_2 eu_2 hxu_2 => ?_)
  replace h := h u_2 eu_2
  replace kthis := hxu_2.2.2 _ _ (by decide) kthis
  refine mz_aload_n F dX9_standAt_17 rfl 0 rfl ?_
  refine mz_iload_n F dX9_standAt_18 rfl 1 rfl ?_
  refine mz_iconst (v := 2) F dX9_standAt_19 (by decide) ?_
  refine mz_irem F dX9_standAt_20 (by decide) ?_
  refine mz_iconst (v := 1) F dX9_standAt_21 (by decide) ?_
  refine mz_icmp_ne (tgt := 29) F dX9_standAt_22 (by decide) (fun c_3 => ?_) (fun c_3 => ?_)
  · replace h := h.2 c_3
    refine mz_iconst (v := 0) F dX9_standAt_29 (by decide) ?_
    refine mz_sub [] rfl ?_
    exact tX9_standAt_30 F hN kthis h
  · replace h := h.1 c_3
    refine mz_iconst (v := 1) F dX9_standAt_25 (by decide) ?_
    refine mz_goto (tgt := 30) F dX9_standAt_26 (by decide) ?_
    refine mz_sub [] rfl ?_
    exact tX9_standAt_30 F hN kthis h
set_option maxRecDepth 100000 in
theorem kX9_standAt (l : Launch) (G : mG) {u : mSt} {K : mSt → Prop} {this : Nat} {a1 : Int32} (kthis : mK u this = 10) (h : bX9_standAt this a1 u K) : mCt l G yX9_standAt wsX9_standAt 0 0 [.ref (G.1 + this), .int a1] u (mPv K) := by
  refine mCt.of (cc := cX9_standAt) (maxL := 2) (ret := none) (by decide) rfl (Nat.le_of_ble_eq_true rfl) ?_
  intro X hl hN F
  exact tX9_standAt F hN kthis h
/-! RoomMapperModel.isTrue(I)I -/
theorem wiX9_isTrue_9 : ∀ w ∈ u_ws RX9 TX9 52, w ∈ wsX9_isTrue := by decide +kernel
theorem fX9_isTrue_87 : mFld wsX9_isTrue RX9 87 10 44 21 (.array .boolean) true := ⟨9, _, RX9, TX9, 52, tyX9, rfl, rfl, rfl, by decide, wiX9_isTrue_9, tyX9_ok, nmX9, rfl, rfl, Or.inl ⟨by decide +kernel, fun _ => rfl⟩⟩
theorem fX9_isTrue_7 : mFld wsX9_isTrue RX9 7 10 2 12 (.array .int) true := ⟨9, _, RX9, TX9, 52, tyX9, rfl, rfl, rfl, by decide, wiX9_isTrue_9, tyX9_ok, nmX9, rfl, rfl, Or.inl ⟨by decide +kernel, fun _ => rfl⟩⟩
theorem fX9_isTrue_131 : mFld wsX9_isTrue RX9 131 10 34 0 .int false := ⟨9, _, RX9, TX9, 52, tyX9, rfl, rfl, rfl, by decide, wiX9_isTrue_9, tyX9_ok, nmX9, rfl, rfl, Or.inl ⟨by decide +kernel, fun _ => rfl⟩⟩
theorem fX9_isTrue_38 : mFld wsX9_isTrue RX9 38 10 22 24 (.array .int) true := ⟨9, _, RX9, TX9, 52, tyX9, rfl, rfl, rfl, by decide, wiX9_isTrue_9, tyX9_ok, nmX9, rfl, rfl, Or.inl ⟨by decide +kernel, fun _ => rfl⟩⟩
theorem fX9_isTrue_134 : mFld wsX9_isTrue RX9 134 10 37 0 .boolean false := ⟨9, _, RX9, TX9, 52, tyX9, rfl, rfl, rfl, by decide, wiX9_isTrue_9, tyX9_ok, nmX9, rfl, rfl, Or.inl ⟨by decide +kernel, fun _ => rfl⟩⟩
theorem fX9_isTrue_41 : mFld wsX9_isTrue RX9 41 10 23 25 (.array .int) true := ⟨9, _, RX9, TX9, 52, tyX9, rfl, rfl, rfl, by decide, wiX9_isTrue_9, tyX9_ok, nmX9, rfl, rfl, Or.inl ⟨by decide +kernel, fun _ => rfl⟩⟩
theorem fX9_isTrue_44 : mFld wsX9_isTrue RX9 44 10 24 15 (.array .int) true := ⟨9, _, RX9, TX9, 52, tyX9, rfl, rfl, rfl, by decide, wiX9_isTrue_9, tyX9_ok, nmX9, rfl, rfl, Or.inl ⟨by decide +kernel, fun _ => rfl⟩⟩
theorem fX9_isTrue_112 : mFld wsX9_isTrue RX9 112 10 0 0 .int false := ⟨9, _, RX9, TX9, 52, tyX9, rfl, rfl, rfl, by decide, wiX9_isTrue_9, tyX9_ok, nmX9, rfl, rfl, Or.inl ⟨by decide +kernel, fun _ => rfl⟩⟩
def bX9_isTrue_274 (v0 : Nat) (v1 : Int32) (v2 : Int32) (v3 : Int32) (v4 : Int32) (u : mSt) (K : Int32 → mSt → Prop) (KL93 : Nat → Int32 → Int32 → mSt → Prop) (KL101 : Nat → Int32 → Int32 → Int32 → mSt → Prop) (KL111 : Nat → Int32 → Int32 → Int32 → Int32 → mSt → Prop) : Prop := (∀ x_1, x_1 = v4 + (1 : Int32) → KL111 v0 v1 v2 v3 x_1 u)
set_option maxRecDepth 100000 in
set_option maxHeartbeats 4000000 in
theorem tX9_isTrue_274 {X : mCx} {G : mG} {u0 : mSt} {K : Int32 → mSt → Prop} {KL93 : Nat → Int32 → Int32 → mSt → Prop} {KL101 : Nat → Int32 → Int32 → Int32 → mSt → Prop} {KL111 : Nat → Int32 → Int32 → Int32 → Int32 → mSt → Prop} (F : mFx X G cX9_isTrue wsX9_isTrue RX9 "isTrue" 2 45 (some .int) u0 (mPi K)) (hN : X.2.2.2.2.2.2.2.2.2.2.2.2.1 = 8) (hL93 : ∀ {v0 : Nat} {v1 : Int32} {v2 : Int32} {u : mSt}, mK u v0 = 10 → KL93 v0 v1 v2 u → mZ X u 93 [(0, .ref (G.1 + v0)), (1, .int v1), (2, .int v2)] []) (hL101 : ∀ {v0 : Nat} {v1 : Int32} {v2 : Int32} {v3 : Int32} {u : mSt}, mK u v0 = 10 → KL101 v0 v1 v2 v3 u → mZ X u 101 [(0, .ref (G.1 + v0)), (1, .int v1), (2, .int v2), (3, .int v3)] []) (hL111 : ∀ {v0 : Nat} {v1 : Int32} {v2 : Int32} {v3 : Int32} {v4 : Int32} {u : mSt}, mK u v0 = 10 → KL111 v0 v1 v2 v3 v4 u → mZ X u 111 [(0, .ref (G.1 + v0)), (1, .int v1), (2, .int v2), (3, .int v3), (4, .int v4)] []) {v0 : Nat} {v1 : Int32} {v2 : Int32} {v3 : Int32} {v4 : Int32} {u : mSt} (kv0 : mK u v0 = 10) (h : bX9_isTrue_274 v0 v1 v2 v3 v4 u K KL93 KL101 KL111) : mZ X u 274 [(0, .ref (G.1 + v0)), (1, .int v1), (2, .int v2), (3, .int v3), (4, .int v4)] [] := by
  obtain ⟨x_1, ex_1⟩ : ∃ y : Int32, y = v4 + (1 : Int32) := ⟨_, rfl⟩
  replace h := h x_1 ex_1
  refine mz_iinc (v := x_1) (lv2 := [(4, .int x_1), (0, .ref (G.1 + v0)), (1, .int v1), (2, .int v2), (3, .int v3)]) F dX9_isTrue_274 4 rfl (by rw [ex_1]; rfl) hN (by decide) rfl ?_
  refine mz_goto (tgt := 111) F dX9_isTrue_277 (by decide) ?_
  refine mz_sub [1, 2, 3, 4, 0] rfl ?_
  exact hL111 kv0 h
def bX9_isTrue_265 (v0 : Nat) (v1 : Int32) (v3 : Int32) (v4 : Int32) (v7 : Int32) (w0 : Int32) (u : mSt) (K : Int32 → mSt → Prop) (KL93 : Nat → Int32 → Int32 → mSt → Prop) (KL101 : Nat → Int32 → Int32 → Int32 → mSt → Prop) (KL111 : Nat → Int32 → Int32 → Int32 → Int32 → mSt → Prop) : Prop := (∃ q_1, mR u v0 44 = some q_1 ∧ (vp_in v7 480 ∧ ∀ u_3, u_3 = mpI u q_1 v7.toNatClampNeg (vp_nar .boolean (1 : Int32)) → bX9_isTrue_274 v0 v1 w0 v3 v4 u_3 K KL93 KL101 KL111))
set_option maxRecDepth 100000 in
set_option maxHeartbeats 4000000 in
theorem tX9_isTrue_265 {X : mCx} {G : mG} {u0 : mSt} {K : Int32 → mSt → Prop} {KL93 : Nat → Int32 → Int32 → mSt → Prop} {KL101 : Nat → Int32 → Int32 → Int32 → mSt → Prop} {KL111 : Nat → Int32 → Int32 → Int32 → Int32 → mSt → Prop} (F : mFx X G cX9_isTrue wsX9_isTrue RX9 "isTrue" 2 45 (some .int) u0 (mPi K)) (hN : X.2.2.2.2.2.2.2.2.2.2.2.2.1 = 8) (hL93 : ∀ {v0 : Nat} {v1 : Int32} {v2 : Int32} {u : mSt}, mK u v0 = 10 → KL93 v0 v1 v2 u → mZ X u 93 [(0, .ref (G.1 + v0)), (1, .int v1), (2, .int v2)] []) (hL101 : ∀ {v0 : Nat} {v1 : Int32} {v2 : Int32} {v3 : Int32} {u : mSt}, mK u v0 = 10 → KL101 v0 v1 v2 v3 u → mZ X u 101 [(0, .ref (G.1 + v0)), (1, .int v1), (2, .int v2), (3, .int v3)] []) (hL111 : ∀ {v0 : Nat} {v1 : Int32} {v2 : Int32} {v3 : Int32} {v4 : Int32} {u : mSt}, mK u v0 = 10 → KL111 v0 v1 v2 v3 v4 u → mZ X u 111 [(0, .ref (G.1 + v0)), (1, .int v1), (2, .int v2), (3, .int v3), (4, .int v4)] []) {v0 : Nat} {v1 : Int32} {v3 : Int32} {v4 : Int32} {v7 : Int32} {w0 : Int32} {u : mSt} (kv0 : mK u v0 = 10) (h : bX9_isTrue_265 v0 v1 v3 v4 v7 w0 u K KL93 KL101 KL111) : mZ X u 265 [(0, .ref (G.1 + v0)), (1, .int v1), (3, .int v3), (4, .int v4), (7, .int v7)] [.int w0] := by
  refine mz_istore_n (lv2 := [(2, .int w0), (0, .ref (G.1 + v0)), (1, .int v1), (3, .int v3), (4, .int v4), (7, .int v7)]) F dX9_isTrue_265 rfl hN (by decide) rfl ?_
  refine mz_aload_n F dX9_isTrue_266 rfl 1 rfl ?_
  obtain ⟨q_1, eq_1, h⟩ := h
  refine mz_getR F dX9_isTrue_267 fX9_isTrue_87 (by decide) kv0 eq_1 (fun kq_1 => ?_)
  refine mz_iload F dX9_isTrue_270 5 rfl ?_
  refine mz_iconst (v := 1) F dX9_isTrue_272 (by decide) ?_
  obtain ⟨b_2, h⟩ := h
  refine mz_zast F dX9_isTrue_273 kq_1 rfl b_2 (fun u_3 eu_3 hxu_3 => ?_)
  replace h := h u_3 eu_3
  replace kv0 := hxu_3.2.2 _ _ (by decide) kv0
  refine mz_sub [1, 2, 0, 3, 4] rfl ?_
  exact tX9_isTrue_274 F hN hL93 hL101 hL111 kv0 h
def bX9_isTrue_260 (v0 : Nat) (v1 : Int32) (v3 : Int32) (v4 : Int32) (v7 : Int32) (u : mSt) (K : Int32 → mSt → Prop) (KL93 : Nat → Int32 → Int32 → mSt → Prop) (KL101 : Nat → Int32 → Int32 → Int32 → mSt → Prop) (KL111 : Nat → Int32 → Int32 → Int32 → Int32 → mSt → Prop) : Prop := bX9_isTrue_265 v0 v1 v3 v4 v7 (1 : Int32) u K KL93 KL101 KL111
set_option maxRecDepth 100000 in
set_option maxHeartbeats 4000000 in
theorem tX9_isTrue_260 {X : mCx} {G : mG} {u0 : mSt} {K : Int32 → mSt → Prop} {KL93 : Nat → Int32 → Int32 → mSt → Prop} {KL101 : Nat → Int32 → Int32 → Int32 → mSt → Prop} {KL111 : Nat → Int32 → Int32 → Int32 → Int32 → mSt → Prop} (F : mFx X G cX9_isTrue wsX9_isTrue RX9 "isTrue" 2 45 (some .int) u0 (mPi K)) (hN : X.2.2.2.2.2.2.2.2.2.2.2.2.1 = 8) (hL93 : ∀ {v0 : Nat} {v1 : Int32} {v2 : Int32} {u : mSt}, mK u v0 = 10 → KL93 v0 v1 v2 u → mZ X u 93 [(0, .ref (G.1 + v0)), (1, .int v1), (2, .int v2)] []) (hL101 : ∀ {v0 : Nat} {v1 : Int32} {v2 : Int32} {v3 : Int32} {u : mSt}, mK u v0 = 10 → KL101 v0 v1 v2 v3 u → mZ X u 101 [(0, .ref (G.1 + v0)), (1, .int v1), (2, .int v2), (3, .int v3)] []) (hL111 : ∀ {v0 : Nat} {v1 : Int32} {v2 : Int32} {v3 : Int32} {v4 : Int32} {u : mSt}, mK u v0 = 10 → KL111 v0 v1 v2 v3 v4 u → mZ X u 111 [(0, .ref (G.1 + v0)), (1, .int v1), (2, .int v2), (3, .int v3), (4, .int v4)] []) {v0 : Nat} {v1 : Int32} {v3 : Int32} {v4 : Int32} {v7 : Int32} {u : mSt} (kv0 : mK u v0 = 10) (h : bX9_isTrue_260 v0 v1 v3 v4 v7 u K KL93 KL101 KL111) : mZ X u 260 [(0, .ref (G.1 + v0)), (1, .int v1), (3, .int v3), (4, .int v4), (7, .int v7)] [] := by
  refine mz_iconst (v := 1) F dX9_isTrue_260 (by decide) ?_
  refine mz_goto (tgt := 265) F dX9_isTrue_261 (by decide) ?_
  refine mz_sub [0, 1, 2, 3, 4] rfl ?_
  exact tX9_isTrue_265 F hN hL93 hL101 hL111 kv0 h
def bX9_isTrue_205 (v0 : Nat) (v1 : Int32) (v2 : Int32) (v3 : Int32) (v4 : Int32) (v6 : Int32) (w0 : Int32) (w1 : Int32) (u : mSt) (K : Int32 → mSt → Prop) (KL93 : Nat → Int32 → Int32 → mSt → Prop) (KL101 : Nat → Int32 → Int32 → Int32 → mSt → Prop) (KL111 : Nat → Int32 → Int32 → Int32 → Int32 → mSt → Prop) : Prop := ((w0 = w1 → (∃ q_1, mR u v0 2 = some q_1 ∧ (vp_in (mI u v0 34) 10 ∧ (∃ q_3, mR u v0 22 = some q_3 ∧ (vp_in (((6 : Int32) * v1) + v6) 900 ∧ (((mI u q_1 (mI u v0 34).toNatClampNeg) = (mI u q_3 (((6 : Int32) * v1) + v6).toNatClampNeg) → bX9_standing v0 u (fun r_7 u_6 => (∀ x_8, x_8 = (((80 : Int32) * v6) + r_7) → ((v2 = 0 → (∃ q_9, mR u_6 v0 44 = some q_9 ∧ (vp_in x_8 480 ∧ (((mI u_6 q_9 x_8.toNatClampNeg) = 0 → bX9_isTrue_260 v0 v1 v3 v4 x_8 u_6 K KL93 KL101 KL111) ∧ (¬ ((mI u_6 q_9 x_8.toNatClampNeg) = 0) → bX9_isTrue_265 v0 v1 v3 v4 x_8 (0 : Int32) u_6 K KL93 KL101 KL111))))) ∧ (¬ (v2 = 0) → bX9_isTrue_260 v0 v1 v3 v4 x_8 u_6 K KL93 KL101 KL111))))) ∧ (¬ ((mI u q_1 (mI u v0 34).toNatClampNeg) = (mI u q_3 (((6 : Int32) * v1) + v6).toNatClampNeg)) → K (0 : Int32) u))))))) ∧ (¬ (w0 = w1) → K (0 : Int32) u))
set_option maxRecDepth 100000 in
set_option maxHeartbeats 4000000 in
theorem tX9_isTrue_205 {X : mCx} {G : mG} {u0 : mSt} {K : Int32 → mSt → Prop} {KL93 : Nat → Int32 → Int32 → mSt → Prop} {KL101 : Nat → Int32 → Int32 → Int32 → mSt → Prop} {KL111 : Nat → Int32 → Int32 → Int32 → Int32 → mSt → Prop} (F : mFx X G cX9_isTrue wsX9_isTrue RX9 "isTrue" 2 45 (some .int) u0 (mPi K)) (hN : X.2.2.2.2.2.2.2.2.2.2.2.2.1 = 8) (hL93 : ∀ {v0 : Nat} {v1 : Int32} {v2 : Int32} {u : mSt}, mK u v0 = 10 → KL93 v0 v1 v2 u → mZ X u 93 [(0, .ref (G.1 + v0)), (1, .int v1), (2, .int v2)] []) (hL101 : ∀ {v0 : Nat} {v1 : Int32} {v2 : Int32} {v3 : Int32} {u : mSt}, mK u v0 = 10 → KL101 v0 v1 v2 v3 u → mZ X u 101 [(0, .ref (G.1 + v0)), (1, .int v1), (2, .int v2), (3, .int v3)] []) (hL111 : ∀ {v0 : Nat} {v1 : Int32} {v2 : Int32} {v3 : Int32} {v4 : Int32} {u : mSt}, mK u v0 = 10 → KL111 v0 v1 v2 v3 v4 u → mZ X u 111 [(0, .ref (G.1 + v0)), (1, .int v1), (2, .int v2), (3, .int v3), (4, .int v4)] []) {v0 : Nat} {v1 : Int32} {v2 : Int32} {v3 : Int32} {v4 : Int32} {v6 : Int32} {w0 : Int32} {w1 : Int32} {u : mSt} (kv0 : mK u v0 = 10) (h : bX9_isTrue_205 v0 v1 v2 v3 v4 v6 w0 w1 u K KL93 KL101 KL111) : mZ X u 205 [(0, .ref (G.1 + v0)), (1, .int v1), (2, .int v2), (3, .int v3), (4, .int v4), (6, .int v6)] [.int w1, .int w0] := by
  refine mz_icmp_ne (tgt := 232) F dX9_isTrue_205 (by decide) (fun c_14 => ?_) (fun c_14 => ?_)
  · replace h := h.2 c_14
    refine mz_iconst (v := 0) F dX9_isTrue_232 (by decide) ?_
    exact mz_iret F dX9_isTrue_233 ⟨_, rfl, h⟩
  · replace h := h.1 c_14
    refine mz_aload_n F dX9_isTrue_208 rfl 0 rfl ?_
    obtain ⟨q_1, eq_1, h⟩ := h
    refine mz_getR F dX9_isTrue_209 fX9_isTrue_7 (by decide) kv0 eq_1 (fun kq_1 => ?_)
    refine mz_aload_n F dX9_isTrue_212 rfl 0 rfl ?_
    refine mz_getI F dX9_isTrue_213 fX9_isTrue_131 kv0 ?_
    obtain ⟨b_2, h⟩ := h
    refine mz_iald F dX9_isTrue_216 kq_1 rfl b_2 ?_
    refine mz_aload_n F dX9_isTrue_217 rfl 0 rfl ?_
    obtain ⟨q_3, eq_3, h⟩ := h
    refine mz_getR F dX9_isTrue_218 fX9_isTrue_38 (by decide) kv0 eq_3 (fun kq_3 => ?_)
    refine mz_bipush (v := 6) F dX9_isTrue_221 (by decide) ?_
    refine mz_iload_n F dX9_isTrue_223 rfl 1 rfl ?_
    refine mz_imul F dX9_isTrue_224 ?_
    refine mz_iload F dX9_isTrue_225 5 rfl ?_
    refine mz_iadd F dX9_isTrue_227 ?_
    obtain ⟨b_4, h⟩ := h
    refine mz_iald F dX9_isTrue_228 kq_3 rfl b_4 ?_
    refine mz_icmp_eq (tgt := 234) F dX9_isTrue_229 (by decide) (fun c_13 => ?_) (fun c_13 => ?_)
    · replace h := h.1 c_13
      refine mz_bipush (v := 80) F dX9_isTrue_234 (by decide) ?_
      refine mz_iload F dX9_isTrue_236 5 rfl ?_
      refine mz_imul F dX9_isTrue_238 ?_
      refine mz_aload_n F dX9_isTrue_239 rfl 0 rfl ?_
      refine mz_callV (As := []) (n := 0) F dX9_isTrue_240 rfl kv0 rfl rfl gX9_isTrue_X9_standing (by decide +kernel) (by decide) rfl (Nat.le_of_ble_eq_true rfl) (kX9_standing _ G kv0 h) (mz_kI fun r_7 u_6 h hx_5 => ?_)
      replace kv0 := hx_5.2.2 _ _ (by decide) kv0
      refine mz_iadd F dX9_isTrue_243 ?_
      refine mz_topi (fun x_8 ex_8 => ?_)
      replace h := h x_8 ex_8
      refine mz_istore (lv2 := [(7, .int x_8), (0, .ref (G.1 + v0)), (1, .int v1), (2, .int v2), (3, .int v3), (4, .int v4), (6, .int v6)]) F dX9_isTrue_244 hN (by decide) rfl ?_
      refine mz_iload_n F dX9_isTrue_246 rfl 3 rfl ?_
      refine mz_if_ne (tgt := 260) F dX9_isTrue_247 (by decide) (fun c_12 => ?_) (fun c_12 => ?_)
      · replace h := h.2 c_12
        refine mz_sub [1, 2, 4, 5, 0] rfl ?_
        exact tX9_isTrue_260 F hN hL93 hL101 hL111 kv0 h
      · replace h := h.1 c_12
        refine mz_aload_n F dX9_isTrue_250 rfl 1 rfl ?_
        obtain ⟨q_9, eq_9, h⟩ := h
        refine mz_getR F dX9_isTrue_251 fX9_isTrue_87 (by decide) kv0 eq_9 (fun kq_9 => ?_)
        refine mz_iload F dX9_isTrue_254 0 rfl ?_
        obtain ⟨b_10, h⟩ := h
        refine mz_zald F dX9_isTrue_256 kq_9 rfl b_10 ?_
        refine mz_if_ne (tgt := 264) F dX9_isTrue_257 (by decide) (fun c_11 => ?_) (fun c_11 => ?_)
        · replace h := h.2 c_11
          refine mz_iconst (v := 0) F dX9_isTrue_264 (by decide) ?_
          refine mz_sub [1, 2, 4, 5, 0] rfl ?_
          exact tX9_isTrue_265 F hN hL93 hL101 hL111 kv0 h
        · replace h := h.1 c_11
          refine mz_sub [1, 2, 4, 5, 0] rfl ?_
          exact tX9_isTrue_260 F hN hL93 hL101 hL111 kv0 h
    · replace h := h.2 c_13
      refine mz_iconst (v := 0) F dX9_isTrue_232 (by decide) ?_
      exact mz_iret F dX9_isTrue_233 ⟨_, rfl, h⟩
def bX9_isTrue_187 (v0 : Nat) (v1 : Int32) (v2 : Int32) (v3 : Int32) (v4 : Int32) (v5 : Int32) (w0 : Int32) (u : mSt) (K : Int32 → mSt → Prop) (KL93 : Nat → Int32 → Int32 → mSt → Prop) (KL101 : Nat → Int32 → Int32 → Int32 → mSt → Prop) (KL111 : Nat → Int32 → Int32 → Int32 → Int32 → mSt → Prop) : Prop := ((v5 = (-2 : Int32) → bX9_isTrue_205 v0 v1 v2 v3 v4 w0 (mI u v0 37) (1 : Int32) u K KL93 KL101 KL111) ∧ (¬ (v5 = (-2 : Int32)) → bX9_isTrue_205 v0 v1 v2 v3 v4 w0 (mI u v0 37) (0 : Int32) u K KL93 KL101 KL111))
set_option maxRecDepth 100000 in
set_option maxHeartbeats 4000000 in
theorem tX9_isTrue_187 {X : mCx} {G : mG} {u0 : mSt} {K : Int32 → mSt → Prop} {KL93 : Nat → Int32 → Int32 → mSt → Prop} {KL101 : Nat → Int32 → Int32 → Int32 → mSt → Prop} {KL111 : Nat → Int32 → Int32 → Int32 → Int32 → mSt → Prop} (F : mFx X G cX9_isTrue wsX9_isTrue RX9 "isTrue" 2 45 (some .int) u0 (mPi K)) (hN : X.2.2.2.2.2.2.2.2.2.2.2.2.1 = 8) (hL93 : ∀ {v0 : Nat} {v1 : Int32} {v2 : Int32} {u : mSt}, mK u v0 = 10 → KL93 v0 v1 v2 u → mZ X u 93 [(0, .ref (G.1 + v0)), (1, .int v1), (2, .int v2)] []) (hL101 : ∀ {v0 : Nat} {v1 : Int32} {v2 : Int32} {v3 : Int32} {u : mSt}, mK u v0 = 10 → KL101 v0 v1 v2 v3 u → mZ X u 101 [(0, .ref (G.1 + v0)), (1, .int v1), (2, .int v2), (3, .int v3)] []) (hL111 : ∀ {v0 : Nat} {v1 : Int32} {v2 : Int32} {v3 : Int32} {v4 : Int32} {u : mSt}, mK u v0 = 10 → KL111 v0 v1 v2 v3 v4 u → mZ X u 111 [(0, .ref (G.1 + v0)), (1, .int v1), (2, .int v2), (3, .int v3), (4, .int v4)] []) {v0 : Nat} {v1 : Int32} {v2 : Int32} {v3 : Int32} {v4 : Int32} {v5 : Int32} {w0 : Int32} {u : mSt} (kv0 : mK u v0 = 10) (h : bX9_isTrue_187 v0 v1 v2 v3 v4 v5 w0 u K KL93 KL101 KL111) : mZ X u 187 [(0, .ref (G.1 + v0)), (1, .int v1), (2, .int v2), (3, .int v3), (4, .int v4), (5, .int v5)] [.int w0] := by
  refine mz_istore (lv2 := [(6, .int w0), (0, .ref (G.1 + v0)), (1, .int v1), (2, .int v2), (3, .int v3), (4, .int v4), (5, .int v5)]) F dX9_isTrue_187 hN (by decide) rfl ?_
  refine mz_aload_n F dX9_isTrue_189 rfl 1 rfl ?_
  refine mz_getI F dX9_isTrue_190 fX9_isTrue_134 kv0 ?_
  refine mz_iload F dX9_isTrue_193 6 rfl ?_
  refine mz_bipush (v := (-2)) F dX9_isTrue_195 (by decide) ?_
  refine mz_icmp_ne (tgt := 204) F dX9_isTrue_197 (by decide) (fun c_1 => ?_) (fun c_1 => ?_)
  · replace h := h.2 c_1
    refine mz_iconst (v := 0) F dX9_isTrue_204 (by decide) ?_
    refine mz_sub [1, 2, 3, 4, 5, 0] rfl ?_
    exact tX9_isTrue_205 F hN hL93 hL101 hL111 kv0 h
  · replace h := h.1 c_1
    refine mz_iconst (v := 1) F dX9_isTrue_200 (by decide) ?_
    refine mz_goto (tgt := 205) F dX9_isTrue_201 (by decide) ?_
    refine mz_sub [1, 2, 3, 4, 5, 0] rfl ?_
    exact tX9_isTrue_205 F hN hL93 hL101 hL111 kv0 h
def bX9_isTrue_280 (v0 : Nat) (v1 : Int32) (v2 : Int32) (v3 : Int32) (u : mSt) (K : Int32 → mSt → Prop) (KL93 : Nat → Int32 → Int32 → mSt → Prop) (KL101 : Nat → Int32 → Int32 → Int32 → mSt → Prop) : Prop := (∀ x_1, x_1 = v3 + (1 : Int32) → KL101 v0 v1 v2 x_1 u)
set_option maxRecDepth 100000 in
set_option maxHeartbeats 4000000 in
theorem tX9_isTrue_280 {X : mCx} {G : mG} {u0 : mSt} {K : Int32 → mSt → Prop} {KL93 : Nat → Int32 → Int32 → mSt → Prop} {KL101 : Nat → Int32 → Int32 → Int32 → mSt → Prop} (F : mFx X G cX9_isTrue wsX9_isTrue RX9 "isTrue" 2 45 (some .int) u0 (mPi K)) (hN : X.2.2.2.2.2.2.2.2.2.2.2.2.1 = 8) (hL93 : ∀ {v0 : Nat} {v1 : Int32} {v2 : Int32} {u : mSt}, mK u v0 = 10 → KL93 v0 v1 v2 u → mZ X u 93 [(0, .ref (G.1 + v0)), (1, .int v1), (2, .int v2)] []) (hL101 : ∀ {v0 : Nat} {v1 : Int32} {v2 : Int32} {v3 : Int32} {u : mSt}, mK u v0 = 10 → KL101 v0 v1 v2 v3 u → mZ X u 101 [(0, .ref (G.1 + v0)), (1, .int v1), (2, .int v2), (3, .int v3)] []) {v0 : Nat} {v1 : Int32} {v2 : Int32} {v3 : Int32} {u : mSt} (kv0 : mK u v0 = 10) (h : bX9_isTrue_280 v0 v1 v2 v3 u K KL93 KL101) : mZ X u 280 [(0, .ref (G.1 + v0)), (1, .int v1), (2, .int v2), (3, .int v3)] [] := by
  obtain ⟨x_1, ex_1⟩ : ∃ y : Int32, y = v3 + (1 : Int32) := ⟨_, rfl⟩
  replace h := h x_1 ex_1
  refine mz_iinc (v := x_1) (lv2 := [(3, .int x_1), (0, .ref (G.1 + v0)), (1, .int v1), (2, .int v2)]) F dX9_isTrue_280 3 rfl (by rw [ex_1]; rfl) hN (by decide) rfl ?_
  refine mz_goto (tgt := 101) F dX9_isTrue_283 (by decide) ?_
  refine mz_sub [1, 2, 3, 0] rfl ?_
  exact hL101 kv0 h
def bX9_isTrue_111 : Nat → Nat → Int32 → Int32 → Int32 → Int32 → mSt → (Int32 → mSt → Prop) → (Nat → Int32 → Int32 → mSt → Prop) → (Nat → Int32 → Int32 → Int32 → mSt → Prop) → Prop
  | 0, _, _, _, _, _, _, _, _, _ => False
  | n + 1, v0, v1, v2, v3, v4, u, K, KL93, KL101 => (((5 : Int32) ≤ v4 → bX9_isTrue_280 v0 v1 v2 v3 u K KL93 KL101) ∧ (¬ ((5 : Int32) ≤ v4) → (∃ q_1, mR u v0 44 = some q_1 ∧ (vp_in v3 480 ∧ (((mI u q_1 v3.toNatClampNeg) = 0 → bX9_isTrue_280 v0 v1 v2 v3 u K KL93 KL101) ∧ (¬ ((mI u q_1 v3.toNatClampNeg) = 0) → (∃ q_3, mR u v0 23 = some q_3 ∧ (vp_in ((((30 : Int32) * v1) + ((5 : Int32) * (v3 / (80 : Int32)))) + v4) 4500 ∧ (∀ x_5, x_5 = (mI u q_3 ((((30 : Int32) * v1) + ((5 : Int32) * (v3 / (80 : Int32)))) + v4).toNatClampNeg) → ((x_5 = (-3 : Int32) → bX9_isTrue_274 v0 v1 v2 v3 v4 u K KL93 KL101 (fun z0 z1 z2 z3 z4 z5 => bX9_isTrue_111 n z0 z1 z2 z3 z4 z5 K KL93 KL101)) ∧ (¬ (x_5 = (-3 : Int32)) → bX9_standAt v0 (v3 - v3 / (80 : Int32) * (80 : Int32)) u (fun u_7 => bX9_step v0 v4 u_7 (fun u_9 => ((x_5 = (-2 : Int32) → bX9_isTrue_187 v0 v1 v2 v3 v4 x_5 (v3 / (80 : Int32)) u_9 K KL93 KL101 (fun z0 z1 z2 z3 z4 z5 => bX9_isTrue_111 n z0 z1 z2 z3 z4 z5 K KL93 KL101)) ∧ (¬ (x_5 = (-2 : Int32)) → bX9_isTrue_187 v0 v1 v2 v3 v4 x_5 x_5 u_9 K KL93 KL101 (fun z0 z1 z2 z3 z4 z5 => bX9_isTrue_111 n z0 z1 z2 z3 z4 z5 K KL93 KL101))))))))))))))))
set_option maxRecDepth 100000 in
set_option maxHeartbeats 4000000 in
theorem tX9_isTrue_111 {X : mCx} {G : mG} {u0 : mSt} {K : Int32 → mSt → Prop} {KL93 : Nat → Int32 → Int32 → mSt → Prop} {KL101 : Nat → Int32 → Int32 → Int32 → mSt → Prop} (F : mFx X G cX9_isTrue wsX9_isTrue RX9 "isTrue" 2 45 (some .int) u0 (mPi K)) (hN : X.2.2.2.2.2.2.2.2.2.2.2.2.1 = 8) (hL93 : ∀ {v0 : Nat} {v1 : Int32} {v2 : Int32} {u : mSt}, mK u v0 = 10 → KL93 v0 v1 v2 u → mZ X u 93 [(0, .ref (G.1 + v0)), (1, .int v1), (2, .int v2)] []) (hL101 : ∀ {v0 : Nat} {v1 : Int32} {v2 : Int32} {v3 : Int32} {u : mSt}, mK u v0 = 10 → KL101 v0 v1 v2 v3 u → mZ X u 101 [(0, .ref (G.1 + v0)), (1, .int v1), (2, .int v2), (3, .int v3)] []) : ∀ (n : Nat) {v0 : Nat} {v1 : Int32} {v2 : Int32} {v3 : Int32} {v4 : Int32} {u : mSt}, mK u v0 = 10 → bX9_isTrue_111 n v0 v1 v2 v3 v4 u K KL93 KL101 → mZ X u 111 [(0, .ref (G.1 + v0)), (1, .int v1), (2, .int v2), (3, .int v3), (4, .int v4)] [] := by
  intro n
  induction n with
  | zero => intro v0 v1 v2 v3 v4 u kv0 h; exact False.elim h
  | succ n ih =>
    intro v0 v1 v2 v3 v4 u kv0 h
    refine mz_iload F dX9_isTrue_111 4 rfl ?_
    refine mz_iconst (v := 5) F dX9_isTrue_113 (by decide) ?_
    refine mz_icmp_ge (tgt := 280) F dX9_isTrue_114 (by decide) (fun c_13 => ?_) (fun c_13 => ?_)
    · replace h := h.1 c_13
      refine mz_sub [0, 1, 2, 3] rfl ?_
      exact tX9_isTrue_280 F hN hL93 hL101 kv0 h
    · replace h := h.2 c_13
      refine mz_aload_n F dX9_isTrue_117 rfl 0 rfl ?_
      obtain ⟨q_1, eq_1, h⟩ := h
      refine mz_getR F dX9_isTrue_118 fX9_isTrue_87 (by decide) kv0 eq_1 (fun kq_1 => ?_)
      refine mz_iload_n F dX9_isTrue_121 rfl 3 rfl ?_
      obtain ⟨b_2, h⟩ := h
      refine mz_zald F dX9_isTrue_122 kq_1 rfl b_2 ?_
      refine mz_if_eq (tgt := 280) F dX9_isTrue_123 (by decide) (fun c_12 => ?_) (fun c_12 => ?_)
      · replace h := h.1 c_12
        refine mz_sub [0, 1, 2, 3] rfl ?_
        exact tX9_isTrue_280 F hN hL93 hL101 kv0 h
      · replace h := h.2 c_12
        refine mz_aload_n F dX9_isTrue_126 rfl 0 rfl ?_
        obtain ⟨q_3, eq_3, h⟩ := h
        refine mz_getR F dX9_isTrue_127 fX9_isTrue_41 (by decide) kv0 eq_3 (fun kq_3 => ?_)
        refine mz_bipush (v := 30) F dX9_isTrue_130 (by decide) ?_
        refine mz_iload_n F dX9_isTrue_132 rfl 1 rfl ?_
        refine mz_imul F dX9_isTrue_133 ?_
        refine mz_iconst (v := 5) F dX9_isTrue_134 (by decide) ?_
        refine mz_iload_n F dX9_isTrue_135 rfl 3 rfl ?_
        refine mz_bipush (v := 80) F dX9_isTrue_136 (by decide) ?_
        refine mz_idiv F dX9_isTrue_138 (by decide) ?_
        refine mz_imul F dX9_isTrue_139 ?_
        refine mz_iadd F dX9_isTrue_140 ?_
        refine mz_iload F dX9_isTrue_141 4 rfl ?_
        refine mz_iadd F dX9_isTrue_143 ?_
        obtain ⟨b_4, h⟩ := h
        refine mz_iald F dX9_isTrue_144 kq_3 rfl b_4 ?_
        refine mz_topi (fun x_5 ex_5 => ?_)
        replace h := h x_5 ex_5
        refine mz_istore (lv2 := [(5, .int x_5), (0, .ref (G.1 + v0)), (1, .int v1), (2, .int v2), (3, .int v3), (4, .int v4)]) F dX9_isTrue_145 hN (by decide) rfl ?_
        refine mz_iload F dX9_isTrue_147 0 rfl ?_
        refine mz_bipush (v := (-3)) F dX9_isTrue_149 (by decide) ?_
        refine mz_icmp_ne (tgt := 157) F dX9_isTrue_151 (by decide) (fun c_11 => ?_) (fun c_11 => ?_)
        · replace h := h.2 c_11
          refine mz_aload_n F dX9_isTrue_157 rfl 1 rfl ?_
          refine mz_iload_n F dX9_isTrue_158 rfl 4 rfl ?_
          refine mz_bipush (v := 80) F dX9_isTrue_159 (by decide) ?_
          refine mz_irem F dX9_isTrue_161 (by decide) ?_
          refine mz_callV (As := [_]) (n := 1) F dX9_isTrue_162 rfl kv0 rfl rfl gX9_isTrue_X9_standAt (by decide +kernel) (by decide) rfl (Nat.le_of_ble_eq_true rfl) (kX9_standAt _ G kv0 h) (mz_kV fun u_7 h hx_6 => ?_)
          replace kv0 := hx_6.2.2 _ _ (by decide) kv0
          refine mz_aload_n F dX9_isTrue_165 rfl 1 rfl ?_
          refine mz_iload F dX9_isTrue_166 5 rfl ?_
          refine mz_callV (As := [_]) (n := 1) F dX9_isTrue_168 rfl kv0 rfl rfl gX9_isTrue_X9_step (by decide +kernel) (by decide) rfl (Nat.le_of_ble_eq_true rfl) (kX9_step _ G kv0 h) (mz_kV fun u_9 h hx_8 => ?_)
          replace kv0 := hx_8.2.2 _ _ (by decide) kv0
          refine mz_iload F dX9_isTrue_171 0 rfl ?_
          refine mz_bipush (v := (-2)) F dX9_isTrue_173 (by decide) ?_
          refine mz_icmp_ne (tgt := 185) F dX9_isTrue_175 (by decide) (fun c_10 => ?_) (fun c_10 => ?_)
          · replace h := h.2 c_10
            refine mz_iload F dX9_isTrue_185 0 rfl ?_
            refine mz_sub [1, 2, 3, 4, 5, 0] rfl ?_
            exact tX9_isTrue_187 F hN hL93 hL101 (fun k0 h => ih k0 h) kv0 h
          · replace h := h.1 c_10
            refine mz_iload_n F dX9_isTrue_178 rfl 4 rfl ?_
            refine mz_bipush (v := 80) F dX9_isTrue_179 (by decide) ?_
            refine mz_idiv F dX9_isTrue_181 (by decide) ?_
            refine mz_goto (tgt := 187) F dX9_isTrue_182 (by decide) ?_
            refine mz_sub [1, 2, 3, 4, 5, 0] rfl ?_
            exact tX9_isTrue_187 F hN hL93 hL101 (fun k0 h => ih k0 h) kv0 h
        · replace h := h.1 c_11
          refine mz_goto (tgt := 274) F dX9_isTrue_154 (by decide) ?_
          refine mz_sub [1, 2, 3, 4, 5] rfl ?_
          exact tX9_isTrue_274 F hN hL93 hL101 (fun k0 h => ih k0 h) kv0 h
def bX9_isTrue_101 : Nat → Nat → Int32 → Int32 → Int32 → mSt → (Int32 → mSt → Prop) → (Nat → Int32 → Int32 → mSt → Prop) → Prop
  | 0, _, _, _, _, _, _, _ => False
  | n + 1, v0, v1, v2, v3, u, K, KL93 => (((480 : Int32) ≤ v3 → KL93 v0 v1 v2 u) ∧ (¬ ((480 : Int32) ≤ v3) → (∃ n9, bX9_isTrue_111 n9 v0 v1 v2 v3 (0 : Int32) u K KL93 (fun z0 z1 z2 z3 z4 => bX9_isTrue_101 n z0 z1 z2 z3 z4 K KL93))))
set_option maxRecDepth 100000 in
set_option maxHeartbeats 4000000 in
theorem tX9_isTrue_101 {X : mCx} {G : mG} {u0 : mSt} {K : Int32 → mSt → Prop} {KL93 : Nat → Int32 → Int32 → mSt → Prop} (F : mFx X G cX9_isTrue wsX9_isTrue RX9 "isTrue" 2 45 (some .int) u0 (mPi K)) (hN : X.2.2.2.2.2.2.2.2.2.2.2.2.1 = 8) (hL93 : ∀ {v0 : Nat} {v1 : Int32} {v2 : Int32} {u : mSt}, mK u v0 = 10 → KL93 v0 v1 v2 u → mZ X u 93 [(0, .ref (G.1 + v0)), (1, .int v1), (2, .int v2)] []) : ∀ (n : Nat) {v0 : Nat} {v1 : Int32} {v2 : Int32} {v3 : Int32} {u : mSt}, mK u v0 = 10 → bX9_isTrue_101 n v0 v1 v2 v3 u K KL93 → mZ X u 101 [(0, .ref (G.1 + v0)), (1, .int v1), (2, .int v2), (3, .int v3)] [] := by
  intro n
  induction n with
  | zero => intro v0 v1 v2 v3 u kv0 h; exact False.elim h
  | succ n ih =>
    intro v0 v1 v2 v3 u kv0 h
    refine mz_iload_n F dX9_isTrue_101 rfl 3 rfl ?_
    refine mz_sipush (v := 480) F dX9_isTrue_102 (by decide) ?_
    refine mz_icmp_ge (tgt := 286) F dX9_isTrue_105 (by decide) (fun c_1 => ?_) (fun c_1 => ?_)
    · replace h := h.1 c_1
      refine mz_goto (tgt := 93) F dX9_isTrue_286 (by decide) ?_
      refine mz_sub [0, 1, 2] rfl ?_
      exact hL93 kv0 h
    · replace h := h.2 c_1
      refine mz_iconst (v := 0) F dX9_isTrue_108 (by decide) ?_
      refine mz_istore (lv2 := [(4, .int (0 : Int32)), (0, .ref (G.1 + v0)), (1, .int v1), (2, .int v2), (3, .int v3)]) F dX9_isTrue_109 hN (by decide) rfl ?_
      refine mz_sub [1, 2, 3, 4, 0] rfl ?_
      obtain ⟨n9, h⟩ := h
      exact tX9_isTrue_111 F hN hL93 (fun k0 h => ih k0 h) n9 kv0 h
def bX9_isTrue_93 : Nat → Nat → Int32 → Int32 → mSt → (Int32 → mSt → Prop) → Prop
  | 0, _, _, _, _, _ => False
  | n + 1, v0, v1, v2, u, K => ((v2 = 0 → K (1 : Int32) u) ∧ (¬ (v2 = 0) → (∃ n9, bX9_isTrue_101 n9 v0 v1 (0 : Int32) (0 : Int32) u K (fun z0 z1 z2 z3 => bX9_isTrue_93 n z0 z1 z2 z3 K))))
set_option maxRecDepth 100000 in
set_option maxHeartbeats 4000000 in
theorem tX9_isTrue_93 {X : mCx} {G : mG} {u0 : mSt} {K : Int32 → mSt → Prop} (F : mFx X G cX9_isTrue wsX9_isTrue RX9 "isTrue" 2 45 (some .int) u0 (mPi K)) (hN : X.2.2.2.2.2.2.2.2.2.2.2.2.1 = 8) : ∀ (n : Nat) {v0 : Nat} {v1 : Int32} {v2 : Int32} {u : mSt}, mK u v0 = 10 → bX9_isTrue_93 n v0 v1 v2 u K → mZ X u 93 [(0, .ref (G.1 + v0)), (1, .int v1), (2, .int v2)] [] := by
  intro n
  induction n with
  | zero => intro v0 v1 v2 u kv0 h; exact False.elim h
  | succ n ih =>
    intro v0 v1 v2 u kv0 h
    refine mz_iload_n F dX9_isTrue_93 rfl 2 rfl ?_
    refine mz_if_eq (tgt := 289) F dX9_isTrue_94 (by decide) (fun c_1 => ?_) (fun c_1 => ?_)
    · replace h := h.1 c_1
      refine mz_iconst (v := 1) F dX9_isTrue_289 (by decide) ?_
      exact mz_iret F dX9_isTrue_290 ⟨_, rfl, h⟩
    · replace h := h.2 c_1
      refine mz_iconst (v := 0) F dX9_isTrue_97 (by decide) ?_
      refine mz_istore_n (lv2 := [(2, .int (0 : Int32)), (0, .ref (G.1 + v0)), (1, .int v1)]) F dX9_isTrue_98 rfl hN (by decide) rfl ?_
      refine mz_iconst (v := 0) F dX9_isTrue_99 (by decide) ?_
      refine mz_istore_n (lv2 := [(3, .int (0 : Int32)), (2, .int (0 : Int32)), (0, .ref (G.1 + v0)), (1, .int v1)]) F dX9_isTrue_100 rfl hN (by decide) rfl ?_
      refine mz_sub [2, 3, 1, 0] rfl ?_
      obtain ⟨n9, h⟩ := h
      exact tX9_isTrue_101 F hN (fun k0 h => ih k0 h) n9 kv0 h
def bX9_isTrue_17 : Nat → Nat → Int32 → Int32 → mSt → (Int32 → mSt → Prop) → Prop
  | 0, _, _, _, _, _ => False
  | n + 1, v0, v1, v2, u, K => (((480 : Int32) ≤ v2 → bX9_stand v0 u (fun u_2 => (∃ q_3, mR u_2 v0 2 = some q_3 ∧ (vp_in (mI u_2 v0 34) 10 ∧ (∃ q_5, mR u_2 v0 22 = some q_5 ∧ (∃ q_6, mR u_2 v0 24 = some q_6 ∧ (vp_in v1 150 ∧ (vp_in (((6 : Int32) * v1) + (mI u_2 q_6 v1.toNatClampNeg)) 900 ∧ (((mI u_2 q_3 (mI u_2 v0 34).toNatClampNeg) = (mI u_2 q_5 (((6 : Int32) * v1) + (mI u_2 q_6 v1.toNatClampNeg)).toNatClampNeg) → (∃ q_9, mR u_2 v0 44 = some q_9 ∧ (∃ q_10, mR u_2 v0 24 = some q_10 ∧ (vp_in v1 150 ∧ bX9_standing v0 u_2 (fun r_14 u_13 => (vp_in (((80 : Int32) * (mI u_2 q_10 v1.toNatClampNeg)) + r_14) 480 ∧ ∀ u_16, u_16 = mpI u_13 q_9 (((80 : Int32) * (mI u_2 q_10 v1.toNatClampNeg)) + r_14).toNatClampNeg (vp_nar .boolean (1 : Int32)) → (∃ n9, bX9_isTrue_93 n9 v0 v1 (1 : Int32) u_16 K))))))) ∧ (¬ ((mI u_2 q_3 (mI u_2 v0 34).toNatClampNeg) = (mI u_2 q_5 (((6 : Int32) * v1) + (mI u_2 q_6 v1.toNatClampNeg)).toNatClampNeg)) → K (0 : Int32) u_2)))))))))) ∧ (¬ ((480 : Int32) ≤ v2) → (∃ q_18, mR u v0 44 = some q_18 ∧ (vp_in v2 480 ∧ ∀ u_20, u_20 = mpI u q_18 v2.toNatClampNeg (vp_nar .boolean (0 : Int32)) → (∀ x_21, x_21 = v2 + (1 : Int32) → bX9_isTrue_17 n v0 v1 x_21 u_20 K)))))
set_option maxRecDepth 100000 in
set_option maxHeartbeats 4000000 in
theorem tX9_isTrue_17 {X : mCx} {G : mG} {u0 : mSt} {K : Int32 → mSt → Prop} (F : mFx X G cX9_isTrue wsX9_isTrue RX9 "isTrue" 2 45 (some .int) u0 (mPi K)) (hN : X.2.2.2.2.2.2.2.2.2.2.2.2.1 = 8) : ∀ (n : Nat) {v0 : Nat} {v1 : Int32} {v2 : Int32} {u : mSt}, mK u v0 = 10 → bX9_isTrue_17 n v0 v1 v2 u K → mZ X u 17 [(0, .ref (G.1 + v0)), (1, .int v1), (2, .int v2)] [] := by
  intro n
  induction n with
  | zero => intro v0 v1 v2 u kv0 h; exact False.elim h
  | succ n ih =>
    intro v0 v1 v2 u kv0 h
    refine mz_iload_n F dX9_isTrue_17 rfl 2 rfl ?_
    refine mz_sipush (v := 480) F dX9_isTrue_18 (by decide) ?_
    refine mz_icmp_ge (tgt := 37) F dX9_isTrue_21 (by decide) (fun c_22 => ?_) (fun c_22 => ?_)
    · replace h := h.1 c_22
      refine mz_aload_n F dX9_isTrue_37 rfl 0 rfl ?_
      refine mz_callV (As := []) (n := 0) F dX9_isTrue_38 rfl kv0 rfl rfl gX9_isTrue_X9_stand (by decide +kernel) (by decide) rfl (Nat.le_of_ble_eq_true rfl) (kX9_stand _ G kv0 h) (mz_kV fun u_2 h hx_1 => ?_)
      replace kv0 := hx_1.2.2 _ _ (by decide) kv0
      refine mz_aload_n F dX9_isTrue_41 rfl 0 rfl ?_
      obtain ⟨q_3, eq_3, h⟩ := h
      refine mz_getR F dX9_isTrue_42 fX9_isTrue_7 (by decide) kv0 eq_3 (fun kq_3 => ?_)
      refine mz_aload_n F dX9_isTrue_45 rfl 0 rfl ?_
      refine mz_getI F dX9_isTrue_46 fX9_isTrue_131 kv0 ?_
      obtain ⟨b_4, h⟩ := h
      refine mz_iald F dX9_isTrue_49 kq_3 rfl b_4 ?_
      refine mz_aload_n F dX9_isTrue_50 rfl 0 rfl ?_
      obtain ⟨q_5, eq_5, h⟩ := h
      refine mz_getR F dX9_isTrue_51 fX9_isTrue_38 (by decide) kv0 eq_5 (fun kq_5 => ?_)
      refine mz_bipush (v := 6) F dX9_isTrue_54 (by decide) ?_
      refine mz_iload_n F dX9_isTrue_56 rfl 1 rfl ?_
      refine mz_imul F dX9_isTrue_57 ?_
      refine mz_aload_n F dX9_isTrue_58 rfl 0 rfl ?_
      obtain ⟨q_6, eq_6, h⟩ := h
      refine mz_getR F dX9_isTrue_59 fX9_isTrue_44 (by decide) kv0 eq_6 (fun kq_6 => ?_)
      refine mz_iload_n F dX9_isTrue_62 rfl 1 rfl ?_
      obtain ⟨b_7, h⟩ := h
      refine mz_iald F dX9_isTrue_63 kq_6 rfl b_7 ?_
      refine mz_iadd F dX9_isTrue_64 ?_
      obtain ⟨b_8, h⟩ := h
      refine mz_iald F dX9_isTrue_65 kq_5 rfl b_8 ?_
      refine mz_icmp_eq (tgt := 71) F dX9_isTrue_66 (by decide) (fun c_17 => ?_) (fun c_17 => ?_)
      · replace h := h.1 c_17
        refine mz_aload_n F dX9_isTrue_71 rfl 0 rfl ?_
        obtain ⟨q_9, eq_9, h⟩ := h
        refine mz_getR F dX9_isTrue_72 fX9_isTrue_87 (by decide) kv0 eq_9 (fun kq_9 => ?_)
        refine mz_bipush (v := 80) F dX9_isTrue_75 (by decide) ?_
        refine mz_aload_n F dX9_isTrue_77 rfl 0 rfl ?_
        obtain ⟨q_10, eq_10, h⟩ := h
        refine mz_getR F dX9_isTrue_78 fX9_isTrue_44 (by decide) kv0 eq_10 (fun kq_10 => ?_)
        refine mz_iload_n F dX9_isTrue_81 rfl 1 rfl ?_
        obtain ⟨b_11, h⟩ := h
        refine mz_iald F dX9_isTrue_82 kq_10 rfl b_11 ?_
        refine mz_imul F dX9_isTrue_83 ?_
        refine mz_aload_n F dX9_isTrue_84 rfl 0 rfl ?_
        refine mz_callV (As := []) (n := 0) F dX9_isTrue_85 rfl kv0 rfl rfl gX9_isTrue_X9_standing (by decide +kernel) (by decide) rfl (Nat.le_of_ble_eq_true rfl) (kX9_standing _ G kv0 h) (mz_kI fun r_14 u_13 h hx_12 => ?_)
        replace kv0 := hx_12.2.2 _ _ (by decide) kv0
        replace kq_9 := hx_12.2.2 _ _ (by decide) kq_9
        refine mz_iadd F dX9_isTrue_88 ?_
        refine mz_iconst (v := 1) F dX9_isTrue_89 (by decide) ?_
        obtain ⟨b_15, h⟩ := h
        refine mz_zast F dX9_isTrue_90 kq_9 rfl b_15 (fun u_16 eu_16 hxu_16 => ?_)
        replace h := h u_16 eu_16
        replace kv0 := hxu_16.2.2 _ _ (by decide) kv0
        refine mz_iconst (v := 1) F dX9_isTrue_91 (by decide) ?_
        refine mz_istore_n (lv2 := [(2, .int (1 : Int32)), (0, .ref (G.1 + v0)), (1, .int v1)]) F dX9_isTrue_92 rfl hN (by decide) rfl ?_
        refine mz_sub [1, 2, 0] rfl ?_
        obtain ⟨n9, h⟩ := h
        exact tX9_isTrue_93 F hN n9 kv0 h
      · replace h := h.2 c_17
        refine mz_iconst (v := 0) F dX9_isTrue_69 (by decide) ?_
        exact mz_iret F dX9_isTrue_70 ⟨_, rfl, h⟩
    · replace h := h.2 c_22
      refine mz_aload_n F dX9_isTrue_24 rfl 0 rfl ?_
      obtain ⟨q_18, eq_18, h⟩ := h
      refine mz_getR F dX9_isTrue_25 fX9_isTrue_87 (by decide) kv0 eq_18 (fun kq_18 => ?_)
      refine mz_iload_n F dX9_isTrue_28 rfl 2 rfl ?_
      refine mz_iconst (v := 0) F dX9_isTrue_29 (by decide) ?_
      obtain ⟨b_19, h⟩ := h
      refine mz_zast F dX9_isTrue_30 kq_18 rfl b_19 (fun u_20 eu_20 hxu_20 => ?_)
      replace h := h u_20 eu_20
      replace kv0 := hxu_20.2.2 _ _ (by decide) kv0
      obtain ⟨x_21, ex_21⟩ : ∃ y : Int32, y = v2 + (1 : Int32) := ⟨_, rfl⟩
      replace h := h x_21 ex_21
      refine mz_iinc (v := x_21) (lv2 := [(2, .int x_21), (0, .ref (G.1 + v0)), (1, .int v1)]) F dX9_isTrue_31 2 rfl (by rw [ex_21]; rfl) hN (by decide) rfl ?_
      refine mz_goto (tgt := 17) F dX9_isTrue_34 (by decide) ?_
      refine mz_sub [1, 2, 0] rfl ?_
      exact ih kv0 h
def bX9_isTrue (this : Nat) (a1 : Int32) (u : mSt) (K : Int32 → mSt → Prop) : Prop := (∀ u_1, u_1 = mpI u this 0 (0 : Int32) → bX9_isSheet this a1 u_1 (fun r_4 u_3 => ((r_4 = 0 → K (-1 : Int32) u_3) ∧ (¬ (r_4 = 0) → (∃ n9, bX9_isTrue_17 n9 this a1 (0 : Int32) u_3 K)))))
set_option maxRecDepth 100000 in
set_option maxHeartbeats 4000000 in
theorem tX9_isTrue {X : mCx} {G : mG} {u0 : mSt} {K : Int32 → mSt → Prop} (F : mFx X G cX9_isTrue wsX9_isTrue RX9 "isTrue" 2 45 (some .int) u0 (mPi K)) (hN : X.2.2.2.2.2.2.2.2.2.2.2.2.1 = 8) {this : Nat} {a1 : Int32} {u : mSt} (kthis : mK u this = 10) (h : bX9_isTrue this a1 u K) : mZ X u 0 [(0, .ref (G.1 + this)), (1, .int a1)] [] := by
  refine mz_aload_n F dX9_isTrue_0 rfl 0 rfl ?_
  refine mz_iconst (v := 0) F dX9_isTrue_1 (by decide) ?_
  refine mz_putI F dX9_isTrue_2 fX9_isTrue_112 kthis rfl rfl (fun u_1 eu_1 hxu_1 => ?_)
  replace h := h u_1 eu_1
  replace kthis := hxu_1.2.2 _ _ (by decide) kthis
  refine mz_aload_n F dX9_isTrue_5 rfl 0 rfl ?_
  refine mz_iload_n F dX9_isTrue_6 rfl 1 rfl ?_
  refine mz_callV (As := [_]) (n := 1) F dX9_isTrue_7 rfl kthis rfl rfl gX9_isTrue_X9_isSheet (by decide +kernel) (by decide) rfl (Nat.le_of_ble_eq_true rfl) (kX9_isSheet _ G kthis h) (mz_kZ fun r_4 u_3 br_4 h hx_2 => ?_)
  replace kthis := hx_2.2.2 _ _ (by decide) kthis
  refine mz_if_ne (tgt := 15) F dX9_isTrue_10 (by decide) (fun c_5 => ?_) (fun c_5 => ?_)
  · replace h := h.2 c_5
    refine mz_iconst (v := 0) F dX9_isTrue_15 (by decide) ?_
    refine mz_istore_n (lv2 := [(2, .int (0 : Int32)), (0, .ref (G.1 + this)), (1, .int a1)]) F dX9_isTrue_16 rfl hN (by decide) rfl ?_
    refine mz_sub [1, 2, 0] rfl ?_
    obtain ⟨n9, h⟩ := h
    exact tX9_isTrue_17 F hN n9 kthis h
  · replace h := h.1 c_5
    refine mz_iconst (v := (-1)) F dX9_isTrue_13 (by decide) ?_
    exact mz_iret F dX9_isTrue_14 ⟨_, rfl, h⟩
set_option maxRecDepth 100000 in
theorem kX9_isTrue (l : Launch) (G : mG) {u : mSt} {K : Int32 → mSt → Prop} {this : Nat} {a1 : Int32} (kthis : mK u this = 10) (h : bX9_isTrue this a1 u K) : mCt l G yX9_isTrue wsX9_isTrue 2 45 [.ref (G.1 + this), .int a1] u (mPi K) := by
  refine mCt.of (cc := cX9_isTrue) (maxL := 8) (ret := (some .int)) (by decide) rfl (Nat.le_of_ble_eq_true rfl) ?_
  intro X hl hN F
  exact tX9_isTrue F hN kthis h
/-! RoomMapperModel.count(I)I -/
theorem wiX9_count_9 : ∀ w ∈ u_ws RX9 TX9 52, w ∈ wsX9_count := by decide +kernel
theorem fX9_count_112 : mFld wsX9_count RX9 112 10 0 0 .int false := ⟨9, _, RX9, TX9, 52, tyX9, rfl, rfl, rfl, by decide, wiX9_count_9, tyX9_ok, nmX9, rfl, rfl, Or.inl ⟨by decide +kernel, fun _ => rfl⟩⟩
theorem mX9_count_ldcl129 : Cond.constantLong RX9 129 (5) ∈ wsX9_count := by decide +kernel
theorem fX9_count_159 : mFld wsX9_count RX9 159 10 6 0 .boolean false := ⟨9, _, RX9, TX9, 52, tyX9, rfl, rfl, rfl, by decide, wiX9_count_9, tyX9_ok, nmX9, rfl, rfl, Or.inl ⟨by decide +kernel, fun _ => rfl⟩⟩
theorem fX9_count_162 : mFld wsX9_count RX9 162 10 10 0 .int false := ⟨9, _, RX9, TX9, 52, tyX9, rfl, rfl, rfl, by decide, wiX9_count_9, tyX9_ok, nmX9, rfl, rfl, Or.inl ⟨by decide +kernel, fun _ => rfl⟩⟩
theorem fX9_count_168 : mFld wsX9_count RX9 168 10 12 0 .int false := ⟨9, _, RX9, TX9, 52, tyX9, rfl, rfl, rfl, by decide, wiX9_count_9, tyX9_ok, nmX9, rfl, rfl, Or.inl ⟨by decide +kernel, fun _ => rfl⟩⟩
theorem fX9_count_154 : mFld wsX9_count RX9 154 10 9 0 .boolean false := ⟨9, _, RX9, TX9, 52, tyX9, rfl, rfl, rfl, by decide, wiX9_count_9, tyX9_ok, nmX9, rfl, rfl, Or.inl ⟨by decide +kernel, fun _ => rfl⟩⟩
theorem fX9_count_151 : mFld wsX9_count RX9 151 10 8 0 .int false := ⟨9, _, RX9, TX9, 52, tyX9, rfl, rfl, rfl, by decide, wiX9_count_9, tyX9_ok, nmX9, rfl, rfl, Or.inl ⟨by decide +kernel, fun _ => rfl⟩⟩
theorem fX9_count_148 : mFld wsX9_count RX9 148 10 7 0 .int false := ⟨9, _, RX9, TX9, 52, tyX9, rfl, rfl, rfl, by decide, wiX9_count_9, tyX9_ok, nmX9, rfl, rfl, Or.inl ⟨by decide +kernel, fun _ => rfl⟩⟩
theorem fX9_count_116 : mFld wsX9_count RX9 116 10 1 0 .int false := ⟨9, _, RX9, TX9, 52, tyX9, rfl, rfl, rfl, by decide, wiX9_count_9, tyX9_ok, nmX9, rfl, rfl, Or.inl ⟨by decide +kernel, fun _ => rfl⟩⟩
def bX9_count (this : Nat) (a1 : Int32) (u : mSt) (K : Int32 → mSt → Prop) : Prop := (∀ u_1, u_1 = mpI u this 0 (0 : Int32) → bX9_isIn a1.toInt64 (0 : Int64) (5 : Int64) u_1 (fun r_4 u_3 => ((r_4 = 0 → K (-1 : Int32) u_3) ∧ (¬ (r_4 = 0) → ((a1 = 0 → K (mI u_3 this 1) u_3) ∧ (¬ (a1 = 0) → (((mI u_3 this 6) = 0 → K (-2 : Int32) u_3) ∧ (¬ ((mI u_3 this 6) = 0) → ((a1 = (1 : Int32) → K (mI u_3 this 7) u_3) ∧ (¬ a1 = (1 : Int32) → ((a1 = (2 : Int32) → K (mI u_3 this 8) u_3) ∧ (¬ a1 = (2 : Int32) → ((a1 = (3 : Int32) → (((mI u_3 this 9) = 0 → K (0 : Int32) u_3) ∧ (¬ ((mI u_3 this 9) = 0) → K (1 : Int32) u_3))) ∧ (¬ a1 = (3 : Int32) → ((a1 = (4 : Int32) → K (mI u_3 this 12) u_3) ∧ (¬ a1 = (4 : Int32) → K (mI u_3 this 10) u_3))))))))))))))))
set_option maxRecDepth 100000 in
set_option maxHeartbeats 4000000 in
theorem tX9_count {X : mCx} {G : mG} {u0 : mSt} {K : Int32 → mSt → Prop} (F : mFx X G cX9_count wsX9_count RX9 "count" 1 25 (some .int) u0 (mPi K)) (hN : X.2.2.2.2.2.2.2.2.2.2.2.2.1 = 2) {this : Nat} {a1 : Int32} {u : mSt} (kthis : mK u this = 10) (h : bX9_count this a1 u K) : mZ X u 0 [(0, .ref (G.1 + this)), (1, .int a1)] [] := by
  refine mz_aload_n F dX9_count_0 rfl 0 rfl ?_
  refine mz_iconst (v := 0) F dX9_count_1 (by decide) ?_
  refine mz_putI F dX9_count_2 fX9_count_112 kthis rfl rfl (fun u_1 eu_1 hxu_1 => ?_)
  replace h := h u_1 eu_1
  replace kthis := hxu_1.2.2 _ _ (by decide) kthis
  refine mz_iload_n F dX9_count_5 rfl 1 rfl ?_
  refine mz_i2l F dX9_count_6 ?_
  refine mz_lconst (v := 0) F dX9_count_7 (by decide) ?_
  refine mz_ldc2 (v := 5) F dX9_count_8 mX9_count_ldcl129 ?_
  refine mz_callS (As := [_, _, _]) (n := 3) F dX9_count_11 rfl gX9_count_X9_isIn (by decide +kernel) (by decide) rfl (Nat.le_of_ble_eq_true rfl) (kX9_isIn _ G h) (mz_kZ fun r_4 u_3 br_4 h hx_2 => ?_)
  replace kthis := hx_2.2.2 _ _ (by decide) kthis
  refine mz_if_ne (tgt := 19) F dX9_count_14 (by decide) (fun c_13 => ?_) (fun c_13 => ?_)
  · replace h := h.2 c_13
    refine mz_iload_n F dX9_count_19 rfl 1 rfl ?_
    refine mz_if_ne (tgt := 28) F dX9_count_20 (by decide) (fun c_12 => ?_) (fun c_12 => ?_)
    · replace h := h.2 c_12
      refine mz_aload_n F dX9_count_28 rfl 0 rfl ?_
      refine mz_getI F dX9_count_29 fX9_count_159 kthis ?_
      refine mz_if_ne (tgt := 38) F dX9_count_32 (by decide) (fun c_11 => ?_) (fun c_11 => ?_)
      · replace h := h.2 c_11
        refine mz_iload_n F dX9_count_38 rfl 1 rfl ?_
        refine Classical.byCases (p := a1 = (1 : Int32)) (fun c_5 => ?_) (fun c_5 => ?_)
        · replace h := h.1 c_5
          have ec_5 := mte (z := 1) rfl c_5
          refine mz_tableIn (off := 29) (tgt := 68) F dX9_count_39 (by omega) (by omega) (by rw [ec_5]; rfl) (by decide) ?_
          refine mz_aload_n F dX9_count_68 rfl 0 rfl ?_
          refine mz_getI F dX9_count_69 fX9_count_148 kthis ?_
          exact mz_iret F dX9_count_72 ⟨_, rfl, h⟩
        · replace h := h.2 c_5
          refine Classical.byCases (p := a1 = (2 : Int32)) (fun c_6 => ?_) (fun c_6 => ?_)
          · replace h := h.1 c_6
            have ec_6 := mte (z := 2) rfl c_6
            refine mz_tableIn (off := 34) (tgt := 73) F dX9_count_39 (by omega) (by omega) (by rw [ec_6]; rfl) (by decide) ?_
            refine mz_aload_n F dX9_count_73 rfl 0 rfl ?_
            refine mz_getI F dX9_count_74 fX9_count_151 kthis ?_
            exact mz_iret F dX9_count_77 ⟨_, rfl, h⟩
          · replace h := h.2 c_6
            refine Classical.byCases (p := a1 = (3 : Int32)) (fun c_7 => ?_) (fun c_7 => ?_)
            · replace h := h.1 c_7
              have ec_7 := mte (z := 3) rfl c_7
              refine mz_tableIn (off := 39) (tgt := 78) F dX9_count_39 (by omega) (by omega) (by rw [ec_7]; rfl) (by decide) ?_
              refine mz_aload_n F dX9_count_78 rfl 0 rfl ?_
              refine mz_getI F dX9_count_79 fX9_count_154 kthis ?_
              refine mz_if_eq (tgt := 89) F dX9_count_82 (by decide) (fun c_9 => ?_) (fun c_9 => ?_)
              · replace h := h.1 c_9
                refine mz_iconst (v := 0) F dX9_count_89 (by decide) ?_
                exact mz_iret F dX9_count_90 ⟨_, rfl, h⟩
              · replace h := h.2 c_9
                refine mz_iconst (v := 1) F dX9_count_85 (by decide) ?_
                refine mz_goto (tgt := 90) F dX9_count_86 (by decide) ?_
                exact mz_iret F dX9_count_90 ⟨_, rfl, h⟩
            · replace h := h.2 c_7
              refine Classical.byCases (p := a1 = (4 : Int32)) (fun c_8 => ?_) (fun c_8 => ?_)
              · replace h := h.1 c_8
                have ec_8 := mte (z := 4) rfl c_8
                refine mz_tableIn (off := 52) (tgt := 91) F dX9_count_39 (by omega) (by omega) (by rw [ec_8]; rfl) (by decide) ?_
                refine mz_aload_n F dX9_count_91 rfl 0 rfl ?_
                refine mz_getI F dX9_count_92 fX9_count_168 kthis ?_
                exact mz_iret F dX9_count_95 ⟨_, rfl, h⟩
              · replace h := h.2 c_8
                have nc_5 := mtn (z := 1) rfl c_5
                have nc_6 := mtn (z := 2) rfl c_6
                have nc_7 := mtn (z := 3) rfl c_7
                have nc_8 := mtn (z := 4) rfl c_8
                refine mz_tableOut (tgt := 96) F dX9_count_39 (by omega) (by decide) ?_
                refine mz_aload_n F dX9_count_96 rfl 0 rfl ?_
                refine mz_getI F dX9_count_97 fX9_count_162 kthis ?_
                exact mz_iret F dX9_count_100 ⟨_, rfl, h⟩
      · replace h := h.1 c_11
        refine mz_bipush (v := (-2)) F dX9_count_35 (by decide) ?_
        exact mz_iret F dX9_count_37 ⟨_, rfl, h⟩
    · replace h := h.1 c_12
      refine mz_aload_n F dX9_count_23 rfl 0 rfl ?_
      refine mz_getI F dX9_count_24 fX9_count_116 kthis ?_
      exact mz_iret F dX9_count_27 ⟨_, rfl, h⟩
  · replace h := h.1 c_13
    refine mz_iconst (v := (-1)) F dX9_count_17 (by decide) ?_
    exact mz_iret F dX9_count_18 ⟨_, rfl, h⟩
set_option maxRecDepth 100000 in
theorem kX9_count (l : Launch) (G : mG) {u : mSt} {K : Int32 → mSt → Prop} {this : Nat} {a1 : Int32} (kthis : mK u this = 10) (h : bX9_count this a1 u K) : mCt l G yX9_count wsX9_count 1 25 [.ref (G.1 + this), .int a1] u (mPi K) := by
  refine mCt.of (cc := cX9_count) (maxL := 2) (ret := (some .int)) (by decide) rfl (Nat.le_of_ble_eq_true rfl) ?_
  intro X hl hN F
  exact tX9_count F hN kthis h
