/-! RoomMapperModel.act(I)I -/
theorem wiX9_act_9 : ∀ w ∈ u_ws RX9 TX9 52, w ∈ wsX9_act := by decide +kernel
theorem fX9_act_165 : mFld wsX9_act RX9 165 10 11 0 .boolean false := ⟨9, _, RX9, TX9, 52, tyX9, rfl, rfl, rfl, by decide, wiX9_act_9, tyX9_ok, nmX9, rfl, rfl, Or.inl ⟨by decide +kernel, fun _ => rfl⟩⟩
theorem fX9_act_29 : mFld wsX9_act RX9 29 10 15 22 (.array .int) true := ⟨9, _, RX9, TX9, 52, tyX9, rfl, rfl, rfl, by decide, wiX9_act_9, tyX9_ok, nmX9, rfl, rfl, Or.inl ⟨by decide +kernel, fun _ => rfl⟩⟩
theorem fX9_act_168 : mFld wsX9_act RX9 168 10 12 0 .int false := ⟨9, _, RX9, TX9, 52, tyX9, rfl, rfl, rfl, by decide, wiX9_act_9, tyX9_ok, nmX9, rfl, rfl, Or.inl ⟨by decide +kernel, fun _ => rfl⟩⟩
theorem fX9_act_7 : mFld wsX9_act RX9 7 10 2 12 (.array .int) true := ⟨9, _, RX9, TX9, 52, tyX9, rfl, rfl, rfl, by decide, wiX9_act_9, tyX9_ok, nmX9, rfl, rfl, Or.inl ⟨by decide +kernel, fun _ => rfl⟩⟩
theorem fX9_act_148 : mFld wsX9_act RX9 148 10 7 0 .int false := ⟨9, _, RX9, TX9, 52, tyX9, rfl, rfl, rfl, by decide, wiX9_act_9, tyX9_ok, nmX9, rfl, rfl, Or.inl ⟨by decide +kernel, fun _ => rfl⟩⟩
theorem fX9_act_32 : mFld wsX9_act RX9 32 10 16 22 (.array .int) true := ⟨9, _, RX9, TX9, 52, tyX9, rfl, rfl, rfl, by decide, wiX9_act_9, tyX9_ok, nmX9, rfl, rfl, Or.inl ⟨by decide +kernel, fun _ => rfl⟩⟩
theorem fX9_act_23 : mFld wsX9_act RX9 23 10 13 22 (.array .int) true := ⟨9, _, RX9, TX9, 52, tyX9, rfl, rfl, rfl, by decide, wiX9_act_9, tyX9_ok, nmX9, rfl, rfl, Or.inl ⟨by decide +kernel, fun _ => rfl⟩⟩
theorem fX9_act_26 : mFld wsX9_act RX9 26 10 14 22 (.array .int) true := ⟨9, _, RX9, TX9, 52, tyX9, rfl, rfl, rfl, by decide, wiX9_act_9, tyX9_ok, nmX9, rfl, rfl, Or.inl ⟨by decide +kernel, fun _ => rfl⟩⟩
theorem fX9_act_177 : mFld wsX9_act RX9 177 10 19 0 .int false := ⟨9, _, RX9, TX9, 52, tyX9, rfl, rfl, rfl, by decide, wiX9_act_9, tyX9_ok, nmX9, rfl, rfl, Or.inl ⟨by decide +kernel, fun _ => rfl⟩⟩
theorem fX9_act_180 : mFld wsX9_act RX9 180 10 20 0 .boolean false := ⟨9, _, RX9, TX9, 52, tyX9, rfl, rfl, rfl, by decide, wiX9_act_9, tyX9_ok, nmX9, rfl, rfl, Or.inl ⟨by decide +kernel, fun _ => rfl⟩⟩
theorem fX9_act_41 : mFld wsX9_act RX9 41 10 23 25 (.array .int) true := ⟨9, _, RX9, TX9, 52, tyX9, rfl, rfl, rfl, by decide, wiX9_act_9, tyX9_ok, nmX9, rfl, rfl, Or.inl ⟨by decide +kernel, fun _ => rfl⟩⟩
theorem fX9_act_44 : mFld wsX9_act RX9 44 10 24 15 (.array .int) true := ⟨9, _, RX9, TX9, 52, tyX9, rfl, rfl, rfl, by decide, wiX9_act_9, tyX9_ok, nmX9, rfl, rfl, Or.inl ⟨by decide +kernel, fun _ => rfl⟩⟩
theorem fX9_act_112 : mFld wsX9_act RX9 112 10 0 0 .int false := ⟨9, _, RX9, TX9, 52, tyX9, rfl, rfl, rfl, by decide, wiX9_act_9, tyX9_ok, nmX9, rfl, rfl, Or.inl ⟨by decide +kernel, fun _ => rfl⟩⟩
theorem mX9_act_ldcl129 : Cond.constantLong RX9 129 (5) ∈ wsX9_act := by decide +kernel
theorem fX9_act_159 : mFld wsX9_act RX9 159 10 6 0 .boolean false := ⟨9, _, RX9, TX9, 52, tyX9, rfl, rfl, rfl, by decide, wiX9_act_9, tyX9_ok, nmX9, rfl, rfl, Or.inl ⟨by decide +kernel, fun _ => rfl⟩⟩
theorem fX9_act_131 : mFld wsX9_act RX9 131 10 34 0 .int false := ⟨9, _, RX9, TX9, 52, tyX9, rfl, rfl, rfl, by decide, wiX9_act_9, tyX9_ok, nmX9, rfl, rfl, Or.inl ⟨by decide +kernel, fun _ => rfl⟩⟩
theorem fX9_act_141 : mFld wsX9_act RX9 141 10 35 0 .int false := ⟨9, _, RX9, TX9, 52, tyX9, rfl, rfl, rfl, by decide, wiX9_act_9, tyX9_ok, nmX9, rfl, rfl, Or.inl ⟨by decide +kernel, fun _ => rfl⟩⟩
theorem fX9_act_151 : mFld wsX9_act RX9 151 10 8 0 .int false := ⟨9, _, RX9, TX9, 52, tyX9, rfl, rfl, rfl, by decide, wiX9_act_9, tyX9_ok, nmX9, rfl, rfl, Or.inl ⟨by decide +kernel, fun _ => rfl⟩⟩
theorem fX9_act_138 : mFld wsX9_act RX9 138 10 36 0 .boolean false := ⟨9, _, RX9, TX9, 52, tyX9, rfl, rfl, rfl, by decide, wiX9_act_9, tyX9_ok, nmX9, rfl, rfl, Or.inl ⟨by decide +kernel, fun _ => rfl⟩⟩
theorem fX9_act_154 : mFld wsX9_act RX9 154 10 9 0 .boolean false := ⟨9, _, RX9, TX9, 52, tyX9, rfl, rfl, rfl, by decide, wiX9_act_9, tyX9_ok, nmX9, rfl, rfl, Or.inl ⟨by decide +kernel, fun _ => rfl⟩⟩
theorem fX9_act_134 : mFld wsX9_act RX9 134 10 37 0 .boolean false := ⟨9, _, RX9, TX9, 52, tyX9, rfl, rfl, rfl, by decide, wiX9_act_9, tyX9_ok, nmX9, rfl, rfl, Or.inl ⟨by decide +kernel, fun _ => rfl⟩⟩
theorem fX9_act_183 : mFld wsX9_act RX9 183 10 27 0 .int false := ⟨9, _, RX9, TX9, 52, tyX9, rfl, rfl, rfl, by decide, wiX9_act_9, tyX9_ok, nmX9, rfl, rfl, Or.inl ⟨by decide +kernel, fun _ => rfl⟩⟩
def bX9_act_172 (v0 : Nat) (v1 : Int32) (v2 : Int32) (u : mSt) (K : Int32 → mSt → Prop) (KL117 : Nat → Int32 → Int32 → mSt → Prop) : Prop := (∀ x_1, x_1 = v2 + (1 : Int32) → KL117 v0 v1 x_1 u)
set_option maxRecDepth 100000 in
set_option maxHeartbeats 4000000 in
theorem tX9_act_172 {X : mCx} {G : mG} {u0 : mSt} {K : Int32 → mSt → Prop} {KL117 : Nat → Int32 → Int32 → mSt → Prop} (F : mFx X G cX9_act wsX9_act RX9 "act" 3 68 (some .int) u0 (mPi K)) (hN : X.2.2.2.2.2.2.2.2.2.2.2.2.1 = 3) (hL117 : ∀ {v0 : Nat} {v1 : Int32} {v2 : Int32} {u : mSt}, mK u v0 = 10 → KL117 v0 v1 v2 u → mZ X u 117 [(0, .ref (G.1 + v0)), (1, .int v1), (2, .int v2)] []) {v0 : Nat} {v1 : Int32} {v2 : Int32} {u : mSt} (kv0 : mK u v0 = 10) (h : bX9_act_172 v0 v1 v2 u K KL117) : mZ X u 172 [(0, .ref (G.1 + v0)), (1, .int v1), (2, .int v2)] [] := by
  obtain ⟨x_1, ex_1⟩ : ∃ y : Int32, y = v2 + (1 : Int32) := ⟨_, rfl⟩
  replace h := h x_1 ex_1
  refine mz_iinc (v := x_1) (lv2 := [(2, .int x_1), (0, .ref (G.1 + v0)), (1, .int v1)]) F dX9_act_172 2 rfl (by rw [ex_1]; rfl) hN (by decide) rfl ?_
  refine mz_goto (tgt := 117) F dX9_act_175 (by decide) ?_
  refine mz_sub [1, 2, 0] rfl ?_
  exact hL117 kv0 h
def bX9_act_259 (v0 : Nat) (w0 : Nat) (w1 : Int32) (w2 : Int32) (u : mSt) (K : Int32 → mSt → Prop) : Prop := (vp_in w1 200 ∧ ∀ u_2, u_2 = mpI u w0 w1.toNatClampNeg w2 → (((mI u_2 v0 11) = 0 → K (0 : Int32) u_2) ∧ (¬ ((mI u_2 v0 11) = 0) → K (1 : Int32) u_2)))
set_option maxRecDepth 100000 in
set_option maxHeartbeats 4000000 in
theorem tX9_act_259 {X : mCx} {G : mG} {u0 : mSt} {K : Int32 → mSt → Prop} (F : mFx X G cX9_act wsX9_act RX9 "act" 3 68 (some .int) u0 (mPi K)) (hN : X.2.2.2.2.2.2.2.2.2.2.2.2.1 = 3) {v0 : Nat} {w0 : Nat} {w1 : Int32} {w2 : Int32} {u : mSt} (kv0 : mK u v0 = 10) (kw0 : mK u w0 = 22) (h : bX9_act_259 v0 w0 w1 w2 u K) : mZ X u 259 [(0, .ref (G.1 + v0))] [.int w2, .int w1, .ref (G.1 + w0)] := by
  obtain ⟨b_1, h⟩ := h
  refine mz_iast F dX9_act_259 kw0 rfl b_1 (fun u_2 eu_2 hxu_2 => ?_)
  replace h := h u_2 eu_2
  replace kv0 := hxu_2.2.2 _ _ (by decide) kv0
  refine mz_aload_n F dX9_act_260 rfl 0 rfl ?_
  refine mz_getI F dX9_act_261 fX9_act_165 kv0 ?_
  refine mz_if_eq (tgt := 271) F dX9_act_264 (by decide) (fun c_3 => ?_) (fun c_3 => ?_)
  · replace h := h.1 c_3
    refine mz_iconst (v := 0) F dX9_act_271 (by decide) ?_
    exact mz_iret F dX9_act_272 ⟨_, rfl, h⟩
  · replace h := h.2 c_3
    refine mz_iconst (v := 1) F dX9_act_267 (by decide) ?_
    refine mz_goto (tgt := 272) F dX9_act_268 (by decide) ?_
    exact mz_iret F dX9_act_272 ⟨_, rfl, h⟩
def bX9_act_216 (v0 : Nat) (w0 : Nat) (w1 : Int32) (w2 : Int32) (u : mSt) (K : Int32 → mSt → Prop) : Prop := (vp_in w1 200 ∧ ∀ u_2, u_2 = mpI u w0 w1.toNatClampNeg w2 → (∃ q_3, mR u_2 v0 15 = some q_3 ∧ (∃ q_4, mR u_2 v0 2 = some q_4 ∧ (vp_in (mI u_2 v0 7) 10 ∧ (vp_in ((mI u_2 v0 12) - (1 : Int32)) 200 ∧ ∀ u_7, u_7 = mpI u_2 q_3 ((mI u_2 v0 12) - (1 : Int32)).toNatClampNeg (mI u_2 q_4 (mI u_2 v0 7).toNatClampNeg) → (∃ q_8, mR u_7 v0 16 = some q_8 ∧ bX9_liesHere v0 u_7 (fun r_11 u_10 => ((r_11 = 0 → bX9_act_259 v0 q_8 ((mI u_7 v0 12) - (1 : Int32)) (0 : Int32) u_10 K) ∧ (¬ (r_11 = 0) → bX9_act_259 v0 q_8 ((mI u_7 v0 12) - (1 : Int32)) (1 : Int32) u_10 K)))))))))
set_option maxRecDepth 100000 in
set_option maxHeartbeats 4000000 in
theorem tX9_act_216 {X : mCx} {G : mG} {u0 : mSt} {K : Int32 → mSt → Prop} (F : mFx X G cX9_act wsX9_act RX9 "act" 3 68 (some .int) u0 (mPi K)) (hN : X.2.2.2.2.2.2.2.2.2.2.2.2.1 = 3) {v0 : Nat} {w0 : Nat} {w1 : Int32} {w2 : Int32} {u : mSt} (kv0 : mK u v0 = 10) (kw0 : mK u w0 = 22) (h : bX9_act_216 v0 w0 w1 w2 u K) : mZ X u 216 [(0, .ref (G.1 + v0))] [.int w2, .int w1, .ref (G.1 + w0)] := by
  obtain ⟨b_1, h⟩ := h
  refine mz_iast F dX9_act_216 kw0 rfl b_1 (fun u_2 eu_2 hxu_2 => ?_)
  replace h := h u_2 eu_2
  replace kv0 := hxu_2.2.2 _ _ (by decide) kv0
  refine mz_aload_n F dX9_act_217 rfl 0 rfl ?_
  obtain ⟨q_3, eq_3, h⟩ := h
  refine mz_getR F dX9_act_218 fX9_act_29 (by decide) kv0 eq_3 (fun kq_3 => ?_)
  refine mz_aload_n F dX9_act_221 rfl 0 rfl ?_
  refine mz_getI F dX9_act_222 fX9_act_168 kv0 ?_
  refine mz_iconst (v := 1) F dX9_act_225 (by decide) ?_
  refine mz_isub F dX9_act_226 ?_
  refine mz_aload_n F dX9_act_227 rfl 0 rfl ?_
  obtain ⟨q_4, eq_4, h⟩ := h
  refine mz_getR F dX9_act_228 fX9_act_7 (by decide) kv0 eq_4 (fun kq_4 => ?_)
  refine mz_aload_n F dX9_act_231 rfl 0 rfl ?_
  refine mz_getI F dX9_act_232 fX9_act_148 kv0 ?_
  obtain ⟨b_5, h⟩ := h
  refine mz_iald F dX9_act_235 kq_4 rfl b_5 ?_
  obtain ⟨b_6, h⟩ := h
  refine mz_iast F dX9_act_236 kq_3 rfl b_6 (fun u_7 eu_7 hxu_7 => ?_)
  replace h := h u_7 eu_7
  replace kv0 := hxu_7.2.2 _ _ (by decide) kv0
  refine mz_aload_n F dX9_act_237 rfl 0 rfl ?_
  obtain ⟨q_8, eq_8, h⟩ := h
  refine mz_getR F dX9_act_238 fX9_act_32 (by decide) kv0 eq_8 (fun kq_8 => ?_)
  refine mz_aload_n F dX9_act_241 rfl 0 rfl ?_
  refine mz_getI F dX9_act_242 fX9_act_168 kv0 ?_
  refine mz_iconst (v := 1) F dX9_act_245 (by decide) ?_
  refine mz_isub F dX9_act_246 ?_
  refine mz_aload_n F dX9_act_247 rfl 0 rfl ?_
  refine mz_callV (As := []) (n := 0) F dX9_act_248 rfl kv0 rfl rfl gX9_act_X9_liesHere (by decide +kernel) (by decide) rfl (Nat.le_of_ble_eq_true rfl) (kX9_liesHere _ G kv0 h) (mz_kZ fun r_11 u_10 br_11 h hx_9 => ?_)
  replace kv0 := hx_9.2.2 _ _ (by decide) kv0
  replace kq_8 := hx_9.2.2 _ _ (by decide) kq_8
  refine mz_if_eq (tgt := 258) F dX9_act_251 (by decide) (fun c_12 => ?_) (fun c_12 => ?_)
  · replace h := h.1 c_12
    refine mz_iconst (v := 0) F dX9_act_258 (by decide) ?_
    refine mz_sub [0] rfl ?_
    exact tX9_act_259 F hN kv0 kq_8 h
  · replace h := h.2 c_12
    refine mz_iconst (v := 1) F dX9_act_254 (by decide) ?_
    refine mz_goto (tgt := 259) F dX9_act_255 (by decide) ?_
    refine mz_sub [0] rfl ?_
    exact tX9_act_259 F hN kv0 kq_8 h
def bX9_act_182 (v0 : Nat) (v1 : Int32) (u : mSt) (K : Int32 → mSt → Prop) : Prop := (∃ q_1, mR u v0 13 = some q_1 ∧ (vp_in ((mI u v0 12) - (1 : Int32)) 200 ∧ ∀ u_3, u_3 = mpI u q_1 ((mI u v0 12) - (1 : Int32)).toNatClampNeg v1 → (∃ q_4, mR u_3 v0 14 = some q_4 ∧ (((mI u_3 v0 11) = 0 → bX9_act_216 v0 q_4 ((mI u_3 v0 12) - (1 : Int32)) (0 : Int32) u_3 K) ∧ (¬ ((mI u_3 v0 11) = 0) → bX9_act_216 v0 q_4 ((mI u_3 v0 12) - (1 : Int32)) (1 : Int32) u_3 K)))))
set_option maxRecDepth 100000 in
set_option maxHeartbeats 4000000 in
theorem tX9_act_182 {X : mCx} {G : mG} {u0 : mSt} {K : Int32 → mSt → Prop} (F : mFx X G cX9_act wsX9_act RX9 "act" 3 68 (some .int) u0 (mPi K)) (hN : X.2.2.2.2.2.2.2.2.2.2.2.2.1 = 3) {v0 : Nat} {v1 : Int32} {u : mSt} (kv0 : mK u v0 = 10) (h : bX9_act_182 v0 v1 u K) : mZ X u 182 [(0, .ref (G.1 + v0)), (1, .int v1)] [] := by
  refine mz_aload_n F dX9_act_182 rfl 0 rfl ?_
  obtain ⟨q_1, eq_1, h⟩ := h
  refine mz_getR F dX9_act_183 fX9_act_23 (by decide) kv0 eq_1 (fun kq_1 => ?_)
  refine mz_aload_n F dX9_act_186 rfl 0 rfl ?_
  refine mz_getI F dX9_act_187 fX9_act_168 kv0 ?_
  refine mz_iconst (v := 1) F dX9_act_190 (by decide) ?_
  refine mz_isub F dX9_act_191 ?_
  refine mz_iload_n F dX9_act_192 rfl 1 rfl ?_
  obtain ⟨b_2, h⟩ := h
  refine mz_iast F dX9_act_193 kq_1 rfl b_2 (fun u_3 eu_3 hxu_3 => ?_)
  replace h := h u_3 eu_3
  replace kv0 := hxu_3.2.2 _ _ (by decide) kv0
  refine mz_aload_n F dX9_act_194 rfl 0 rfl ?_
  obtain ⟨q_4, eq_4, h⟩ := h
  refine mz_getR F dX9_act_195 fX9_act_26 (by decide) kv0 eq_4 (fun kq_4 => ?_)
  refine mz_aload_n F dX9_act_198 rfl 0 rfl ?_
  refine mz_getI F dX9_act_199 fX9_act_168 kv0 ?_
  refine mz_iconst (v := 1) F dX9_act_202 (by decide) ?_
  refine mz_isub F dX9_act_203 ?_
  refine mz_aload_n F dX9_act_204 rfl 0 rfl ?_
  refine mz_getI F dX9_act_205 fX9_act_165 kv0 ?_
  refine mz_if_eq (tgt := 215) F dX9_act_208 (by decide) (fun c_5 => ?_) (fun c_5 => ?_)
  · replace h := h.1 c_5
    refine mz_iconst (v := 0) F dX9_act_215 (by decide) ?_
    refine mz_sub [0] rfl ?_
    exact tX9_act_216 F hN kv0 kq_4 h
  · replace h := h.2 c_5
    refine mz_iconst (v := 1) F dX9_act_211 (by decide) ?_
    refine mz_goto (tgt := 216) F dX9_act_212 (by decide) ?_
    refine mz_sub [0] rfl ?_
    exact tX9_act_216 F hN kv0 kq_4 h
def bX9_act_178 (v0 : Nat) (v1 : Int32) (u : mSt) (K : Int32 → mSt → Prop) : Prop := bX9_takeCome v0 u (fun u_2 => bX9_act_182 v0 v1 u_2 K)
set_option maxRecDepth 100000 in
set_option maxHeartbeats 4000000 in
theorem tX9_act_178 {X : mCx} {G : mG} {u0 : mSt} {K : Int32 → mSt → Prop} (F : mFx X G cX9_act wsX9_act RX9 "act" 3 68 (some .int) u0 (mPi K)) (hN : X.2.2.2.2.2.2.2.2.2.2.2.2.1 = 3) {v0 : Nat} {v1 : Int32} {u : mSt} (kv0 : mK u v0 = 10) (h : bX9_act_178 v0 v1 u K) : mZ X u 178 [(0, .ref (G.1 + v0)), (1, .int v1)] [] := by
  refine mz_aload_n F dX9_act_178 rfl 0 rfl ?_
  refine mz_callV (As := []) (n := 0) F dX9_act_179 rfl kv0 rfl rfl gX9_act_X9_takeCome (by decide +kernel) (by decide) rfl (Nat.le_of_ble_eq_true rfl) (kX9_takeCome _ G kv0 h) (mz_kV fun u_2 h hx_1 => ?_)
  replace kv0 := hx_1.2.2 _ _ (by decide) kv0
  refine mz_sub [0, 1] rfl ?_
  exact tX9_act_182 F hN kv0 h
def bX9_act_117 : Nat → Nat → Int32 → Int32 → mSt → (Int32 → mSt → Prop) → Prop
  | 0, _, _, _, _, _ => False
  | n + 1, v0, v1, v2, u, K => (((mI u v0 19) ≤ v2 → bX9_act_178 v0 v1 u K) ∧ (¬ ((mI u v0 19) ≤ v2) → (((mI u v0 20) = 0 → (∃ q_1, mR u v0 23 = some q_1 ∧ (∃ q_2, mR u v0 24 = some q_2 ∧ (vp_in v2 150 ∧ (vp_in ((((30 : Int32) * v2) + ((5 : Int32) * (mI u q_2 v2.toNatClampNeg))) + v1) 4500 ∧ (((mI u q_1 ((((30 : Int32) * v2) + ((5 : Int32) * (mI u q_2 v2.toNatClampNeg))) + v1).toNatClampNeg) = (-3 : Int32) → bX9_comeUnknown v0 v2 v1 u (fun u_8 => bX9_act_172 v0 v1 v2 u_8 K (fun z0 z1 z2 z3 => bX9_act_117 n z0 z1 z2 z3 K))) ∧ (¬ ((mI u q_1 ((((30 : Int32) * v2) + ((5 : Int32) * (mI u q_2 v2.toNatClampNeg))) + v1).toNatClampNeg) = (-3 : Int32)) → bX9_comeKnown v0 v2 v1 u (fun u_6 => bX9_act_172 v0 v1 v2 u_6 K (fun z0 z1 z2 z3 => bX9_act_117 n z0 z1 z2 z3 K))))))))) ∧ (¬ ((mI u v0 20) = 0) → bX9_act_178 v0 v1 u K))))
set_option maxRecDepth 100000 in
set_option maxHeartbeats 4000000 in
theorem tX9_act_117 {X : mCx} {G : mG} {u0 : mSt} {K : Int32 → mSt → Prop} (F : mFx X G cX9_act wsX9_act RX9 "act" 3 68 (some .int) u0 (mPi K)) (hN : X.2.2.2.2.2.2.2.2.2.2.2.2.1 = 3) : ∀ (n : Nat) {v0 : Nat} {v1 : Int32} {v2 : Int32} {u : mSt}, mK u v0 = 10 → bX9_act_117 n v0 v1 v2 u K → mZ X u 117 [(0, .ref (G.1 + v0)), (1, .int v1), (2, .int v2)] [] := by
  intro n
  induction n with
  | zero => intro v0 v1 v2 u kv0 h; exact False.elim h
  | succ n ih =>
    intro v0 v1 v2 u kv0 h
    refine mz_iload_n F dX9_act_117 rfl 2 rfl ?_
    refine mz_aload_n F dX9_act_118 rfl 0 rfl ?_
    refine mz_getI F dX9_act_119 fX9_act_177 kv0 ?_
    refine mz_icmp_ge (tgt := 178) F dX9_act_122 (by decide) (fun c_11 => ?_) (fun c_11 => ?_)
    · replace h := h.1 c_11
      refine mz_sub [0, 1] rfl ?_
      exact tX9_act_178 F hN kv0 h
    · replace h := h.2 c_11
      refine mz_aload_n F dX9_act_125 rfl 0 rfl ?_
      refine mz_getI F dX9_act_126 fX9_act_180 kv0 ?_
      refine mz_if_ne (tgt := 178) F dX9_act_129 (by decide) (fun c_10 => ?_) (fun c_10 => ?_)
      · replace h := h.2 c_10
        refine mz_sub [0, 1] rfl ?_
        exact tX9_act_178 F hN kv0 h
      · replace h := h.1 c_10
        refine mz_aload_n F dX9_act_132 rfl 0 rfl ?_
        obtain ⟨q_1, eq_1, h⟩ := h
        refine mz_getR F dX9_act_133 fX9_act_41 (by decide) kv0 eq_1 (fun kq_1 => ?_)
        refine mz_bipush (v := 30) F dX9_act_136 (by decide) ?_
        refine mz_iload_n F dX9_act_138 rfl 2 rfl ?_
        refine mz_imul F dX9_act_139 ?_
        refine mz_iconst (v := 5) F dX9_act_140 (by decide) ?_
        refine mz_aload_n F dX9_act_141 rfl 0 rfl ?_
        obtain ⟨q_2, eq_2, h⟩ := h
        refine mz_getR F dX9_act_142 fX9_act_44 (by decide) kv0 eq_2 (fun kq_2 => ?_)
        refine mz_iload_n F dX9_act_145 rfl 2 rfl ?_
        obtain ⟨b_3, h⟩ := h
        refine mz_iald F dX9_act_146 kq_2 rfl b_3 ?_
        refine mz_imul F dX9_act_147 ?_
        refine mz_iadd F dX9_act_148 ?_
        refine mz_iload_n F dX9_act_149 rfl 1 rfl ?_
        refine mz_iadd F dX9_act_150 ?_
        obtain ⟨b_4, h⟩ := h
        refine mz_iald F dX9_act_151 kq_1 rfl b_4 ?_
        refine mz_bipush (v := (-3)) F dX9_act_152 (by decide) ?_
        refine mz_icmp_ne (tgt := 166) F dX9_act_154 (by decide) (fun c_9 => ?_) (fun c_9 => ?_)
        · replace h := h.2 c_9
          refine mz_aload_n F dX9_act_166 rfl 0 rfl ?_
          refine mz_iload_n F dX9_act_167 rfl 2 rfl ?_
          refine mz_iload_n F dX9_act_168 rfl 1 rfl ?_
          refine mz_callV (As := [_, _]) (n := 2) F dX9_act_169 rfl kv0 rfl rfl gX9_act_X9_comeKnown (by decide +kernel) (by decide) rfl (Nat.le_of_ble_eq_true rfl) (kX9_comeKnown _ G kv0 h) (mz_kV fun u_6 h hx_5 => ?_)
          replace kv0 := hx_5.2.2 _ _ (by decide) kv0
          refine mz_sub [0, 1, 2] rfl ?_
          exact tX9_act_172 F hN (fun k0 h => ih k0 h) kv0 h
        · replace h := h.1 c_9
          refine mz_aload_n F dX9_act_157 rfl 0 rfl ?_
          refine mz_iload_n F dX9_act_158 rfl 2 rfl ?_
          refine mz_iload_n F dX9_act_159 rfl 1 rfl ?_
          refine mz_callV (As := [_, _]) (n := 2) F dX9_act_160 rfl kv0 rfl rfl gX9_act_X9_comeUnknown (by decide +kernel) (by decide) rfl (Nat.le_of_ble_eq_true rfl) (kX9_comeUnknown _ G kv0 h) (mz_kV fun u_8 h hx_7 => ?_)
          replace kv0 := hx_7.2.2 _ _ (by decide) kv0
          refine mz_goto (tgt := 172) F dX9_act_163 (by decide) ?_
          refine mz_sub [0, 1, 2] rfl ?_
          exact tX9_act_172 F hN (fun k0 h => ih k0 h) kv0 h
def bX9_act (this : Nat) (a1 : Int32) (u : mSt) (K : Int32 → mSt → Prop) : Prop := (∀ u_1, u_1 = mpI u this 0 (0 : Int32) → bX9_isIn a1.toInt64 (0 : Int64) (5 : Int64) u_1 (fun r_4 u_3 => ((r_4 = 0 → K (-1 : Int32) u_3) ∧ (¬ (r_4 = 0) → (((mI u_3 this 6) = 0 → K (-2 : Int32) u_3) ∧ (¬ ((mI u_3 this 6) = 0) → (((mI u_3 this 12) = (200 : Int32) → K (-3 : Int32) u_3) ∧ (¬ ((mI u_3 this 12) = (200 : Int32)) → (∀ u_5, u_5 = mpI u_3 this 12 ((mI u_3 this 12) + (1 : Int32)) → (∀ u_6, u_6 = mpI u_5 this 11 (0 : Int32) → ((a1 = (5 : Int32) → bX9_movePebble this u_6 (fun u_19 => bX9_act_182 this a1 u_19 K)) ∧ (¬ (a1 = (5 : Int32)) → bX9_stand this u_6 (fun u_8 => bX9_step this a1 u_8 (fun u_10 => (∀ u_11, u_11 = mpI u_10 this 7 (mI u_10 this 34) → (∀ u_12, u_12 = mpI u_11 this 8 (mI u_11 this 35) → ((mI u_12 this 36 = 0 ∨ mI u_12 this 36 = 1) ∧ (∀ u_13, u_13 = mpI u_12 this 9 (mI u_12 this 36) → ((mI u_13 this 37 = 0 ∨ mI u_13 this 37 = 1) ∧ (∀ u_15, u_15 = mpI u_13 this 11 (mI u_13 this 37) → (∀ u_17, u_17 = mpI u_15 this 27 (0 : Int32) → (∃ n9, bX9_act_117 n9 this a1 (0 : Int32) u_17 K))))))))))))))))))))))
set_option maxRecDepth 100000 in
set_option maxHeartbeats 4000000 in
theorem tX9_act {X : mCx} {G : mG} {u0 : mSt} {K : Int32 → mSt → Prop} (F : mFx X G cX9_act wsX9_act RX9 "act" 3 68 (some .int) u0 (mPi K)) (hN : X.2.2.2.2.2.2.2.2.2.2.2.2.1 = 3) {this : Nat} {a1 : Int32} {u : mSt} (kthis : mK u this = 10) (h : bX9_act this a1 u K) : mZ X u 0 [(0, .ref (G.1 + this)), (1, .int a1)] [] := by
  refine mz_aload_n F dX9_act_0 rfl 0 rfl ?_
  refine mz_iconst (v := 0) F dX9_act_1 (by decide) ?_
  refine mz_putI F dX9_act_2 fX9_act_112 kthis rfl rfl (fun u_1 eu_1 hxu_1 => ?_)
  replace h := h u_1 eu_1
  replace kthis := hxu_1.2.2 _ _ (by decide) kthis
  refine mz_iload_n F dX9_act_5 rfl 1 rfl ?_
  refine mz_i2l F dX9_act_6 ?_
  refine mz_lconst (v := 0) F dX9_act_7 (by decide) ?_
  refine mz_ldc2 (v := 5) F dX9_act_8 mX9_act_ldcl129 ?_
  refine mz_callS (As := [_, _, _]) (n := 3) F dX9_act_11 rfl gX9_act_X9_isIn (by decide +kernel) (by decide) rfl (Nat.le_of_ble_eq_true rfl) (kX9_isIn _ G h) (mz_kZ fun r_4 u_3 br_4 h hx_2 => ?_)
  replace kthis := hx_2.2.2 _ _ (by decide) kthis
  refine mz_if_ne (tgt := 19) F dX9_act_14 (by decide) (fun c_23 => ?_) (fun c_23 => ?_)
  · replace h := h.2 c_23
    refine mz_aload_n F dX9_act_19 rfl 0 rfl ?_
    refine mz_getI F dX9_act_20 fX9_act_159 kthis ?_
    refine mz_if_ne (tgt := 29) F dX9_act_23 (by decide) (fun c_22 => ?_) (fun c_22 => ?_)
    · replace h := h.2 c_22
      refine mz_aload_n F dX9_act_29 rfl 0 rfl ?_
      refine mz_getI F dX9_act_30 fX9_act_168 kthis ?_
      refine mz_sipush (v := 200) F dX9_act_33 (by decide) ?_
      refine mz_icmp_ne (tgt := 42) F dX9_act_36 (by decide) (fun c_21 => ?_) (fun c_21 => ?_)
      · replace h := h.2 c_21
        refine mz_aload_n F dX9_act_42 rfl 0 rfl ?_
        refine mz_dup F dX9_act_43 rfl ?_
        refine mz_getI F dX9_act_44 fX9_act_168 kthis ?_
        refine mz_iconst (v := 1) F dX9_act_47 (by decide) ?_
        refine mz_iadd F dX9_act_48 ?_
        refine mz_putI F dX9_act_49 fX9_act_168 kthis rfl rfl (fun u_5 eu_5 hxu_5 => ?_)
        replace h := h u_5 eu_5
        replace kthis := hxu_5.2.2 _ _ (by decide) kthis
        refine mz_aload_n F dX9_act_52 rfl 0 rfl ?_
        refine mz_iconst (v := 0) F dX9_act_53 (by decide) ?_
        refine mz_putI F dX9_act_54 fX9_act_165 kthis rfl rfl (fun u_6 eu_6 hxu_6 => ?_)
        replace h := h u_6 eu_6
        replace kthis := hxu_6.2.2 _ _ (by decide) kthis
        refine mz_iload_n F dX9_act_57 rfl 1 rfl ?_
        refine mz_iconst (v := 5) F dX9_act_58 (by decide) ?_
        refine mz_icmp_ne (tgt := 69) F dX9_act_59 (by decide) (fun c_20 => ?_) (fun c_20 => ?_)
        · replace h := h.2 c_20
          refine mz_aload_n F dX9_act_69 rfl 0 rfl ?_
          refine mz_callV (As := []) (n := 0) F dX9_act_70 rfl kthis rfl rfl gX9_act_X9_stand (by decide +kernel) (by decide) rfl (Nat.le_of_ble_eq_true rfl) (kX9_stand _ G kthis h) (mz_kV fun u_8 h hx_7 => ?_)
          replace kthis := hx_7.2.2 _ _ (by decide) kthis
          refine mz_aload_n F dX9_act_73 rfl 0 rfl ?_
          refine mz_iload_n F dX9_act_74 rfl 1 rfl ?_
          refine mz_callV (As := [_]) (n := 1) F dX9_act_75 rfl kthis rfl rfl gX9_act_X9_step (by decide +kernel) (by decide) rfl (Nat.le_of_ble_eq_true rfl) (kX9_step _ G kthis h) (mz_kV fun u_10 h hx_9 => ?_)
          replace kthis := hx_9.2.2 _ _ (by decide) kthis
          refine mz_aload_n F dX9_act_78 rfl 0 rfl ?_
          refine mz_aload_n F dX9_act_79 rfl 0 rfl ?_
          refine mz_getI F dX9_act_80 fX9_act_131 kthis ?_
          refine mz_putI F dX9_act_83 fX9_act_148 kthis rfl rfl (fun u_11 eu_11 hxu_11 => ?_)
          replace h := h u_11 eu_11
          replace kthis := hxu_11.2.2 _ _ (by decide) kthis
          refine mz_aload_n F dX9_act_86 rfl 0 rfl ?_
          refine mz_aload_n F dX9_act_87 rfl 0 rfl ?_
          refine mz_getI F dX9_act_88 fX9_act_141 kthis ?_
          refine mz_putI F dX9_act_91 fX9_act_151 kthis rfl rfl (fun u_12 eu_12 hxu_12 => ?_)
          replace h := h u_12 eu_12
          replace kthis := hxu_12.2.2 _ _ (by decide) kthis
          refine mz_aload_n F dX9_act_94 rfl 0 rfl ?_
          refine mz_aload_n F dX9_act_95 rfl 0 rfl ?_
          refine mz_getI F dX9_act_96 fX9_act_138 kthis ?_
          obtain ⟨b_14, h⟩ := h
          refine mz_putI F dX9_act_99 fX9_act_154 kthis (mbn b_14) (mbf b_14) (fun u_13 eu_13 hxu_13 => ?_)
          replace h := h u_13 eu_13
          replace kthis := hxu_13.2.2 _ _ (by decide) kthis
          refine mz_aload_n F dX9_act_102 rfl 0 rfl ?_
          refine mz_aload_n F dX9_act_103 rfl 0 rfl ?_
          refine mz_getI F dX9_act_104 fX9_act_134 kthis ?_
          obtain ⟨b_16, h⟩ := h
          refine mz_putI F dX9_act_107 fX9_act_165 kthis (mbn b_16) (mbf b_16) (fun u_15 eu_15 hxu_15 => ?_)
          replace h := h u_15 eu_15
          replace kthis := hxu_15.2.2 _ _ (by decide) kthis
          refine mz_aload_n F dX9_act_110 rfl 0 rfl ?_
          refine mz_iconst (v := 0) F dX9_act_111 (by decide) ?_
          refine mz_putI F dX9_act_112 fX9_act_183 kthis rfl rfl (fun u_17 eu_17 hxu_17 => ?_)
          replace h := h u_17 eu_17
          replace kthis := hxu_17.2.2 _ _ (by decide) kthis
          refine mz_iconst (v := 0) F dX9_act_115 (by decide) ?_
          refine mz_istore_n (lv2 := [(2, .int (0 : Int32)), (0, .ref (G.1 + this)), (1, .int a1)]) F dX9_act_116 rfl hN (by decide) rfl ?_
          refine mz_sub [1, 2, 0] rfl ?_
          obtain ⟨n9, h⟩ := h
          exact tX9_act_117 F hN n9 kthis h
        · replace h := h.1 c_20
          refine mz_aload_n F dX9_act_62 rfl 0 rfl ?_
          refine mz_callV (As := []) (n := 0) F dX9_act_63 rfl kthis rfl rfl gX9_act_X9_movePebble (by decide +kernel) (by decide) rfl (Nat.le_of_ble_eq_true rfl) (kX9_movePebble _ G kthis h) (mz_kV fun u_19 h hx_18 => ?_)
          replace kthis := hx_18.2.2 _ _ (by decide) kthis
          refine mz_goto (tgt := 182) F dX9_act_66 (by decide) ?_
          refine mz_sub [0, 1] rfl ?_
          exact tX9_act_182 F hN kthis h
      · replace h := h.1 c_21
        refine mz_bipush (v := (-3)) F dX9_act_39 (by decide) ?_
        exact mz_iret F dX9_act_41 ⟨_, rfl, h⟩
    · replace h := h.1 c_22
      refine mz_bipush (v := (-2)) F dX9_act_26 (by decide) ?_
      exact mz_iret F dX9_act_28 ⟨_, rfl, h⟩
  · replace h := h.1 c_23
    refine mz_iconst (v := (-1)) F dX9_act_17 (by decide) ?_
    exact mz_iret F dX9_act_18 ⟨_, rfl, h⟩
set_option maxRecDepth 100000 in
theorem kX9_act (l : Launch) (G : mG) {u : mSt} {K : Int32 → mSt → Prop} {this : Nat} {a1 : Int32} (kthis : mK u this = 10) (h : bX9_act this a1 u K) : mCt l G yX9_act wsX9_act 3 68 [.ref (G.1 + this), .int a1] u (mPi K) := by
  refine mCt.of (cc := cX9_act) (maxL := 3) (ret := (some .int)) (by decide) rfl (Nat.le_of_ble_eq_true rfl) ?_
  intro X hl hN F
  exact tX9_act F hN kthis h
/-! RoomMapperModel.seen(I)I -/
theorem wiX9_seen_9 : ∀ w ∈ u_ws RX9 TX9 52, w ∈ wsX9_seen := by decide +kernel
theorem fX9_seen_7 : mFld wsX9_seen RX9 7 10 2 12 (.array .int) true := ⟨9, _, RX9, TX9, 52, tyX9, rfl, rfl, rfl, by decide, wiX9_seen_9, tyX9_ok, nmX9, rfl, rfl, Or.inl ⟨by decide +kernel, fun _ => rfl⟩⟩
theorem fX9_seen_148 : mFld wsX9_seen RX9 148 10 7 0 .int false := ⟨9, _, RX9, TX9, 52, tyX9, rfl, rfl, rfl, by decide, wiX9_seen_9, tyX9_ok, nmX9, rfl, rfl, Or.inl ⟨by decide +kernel, fun _ => rfl⟩⟩
theorem fX9_seen_112 : mFld wsX9_seen RX9 112 10 0 0 .int false := ⟨9, _, RX9, TX9, 52, tyX9, rfl, rfl, rfl, by decide, wiX9_seen_9, tyX9_ok, nmX9, rfl, rfl, Or.inl ⟨by decide +kernel, fun _ => rfl⟩⟩
theorem mX9_seen_ldcl119 : Cond.constantLong RX9 119 (3) ∈ wsX9_seen := by decide +kernel
theorem fX9_seen_159 : mFld wsX9_seen RX9 159 10 6 0 .boolean false := ⟨9, _, RX9, TX9, 52, tyX9, rfl, rfl, rfl, by decide, wiX9_seen_9, tyX9_ok, nmX9, rfl, rfl, Or.inl ⟨by decide +kernel, fun _ => rfl⟩⟩
theorem fX9_seen_162 : mFld wsX9_seen RX9 162 10 10 0 .int false := ⟨9, _, RX9, TX9, 52, tyX9, rfl, rfl, rfl, by decide, wiX9_seen_9, tyX9_ok, nmX9, rfl, rfl, Or.inl ⟨by decide +kernel, fun _ => rfl⟩⟩
theorem fX9_seen_165 : mFld wsX9_seen RX9 165 10 11 0 .boolean false := ⟨9, _, RX9, TX9, 52, tyX9, rfl, rfl, rfl, by decide, wiX9_seen_9, tyX9_ok, nmX9, rfl, rfl, Or.inl ⟨by decide +kernel, fun _ => rfl⟩⟩
def bX9_seen_65 (v0 : Nat) (v1 : Int32) (w0 : Int32) (u : mSt) (K : Int32 → mSt → Prop) : Prop := ((v1 = 0 → (∃ q_2, mR u v0 2 = some q_2 ∧ (vp_in (mI u v0 7) 10 ∧ K (mI u q_2 (mI u v0 7).toNatClampNeg) u))) ∧ (¬ (v1 = 0) → ((w0 = 0 → K (0 : Int32) u) ∧ (¬ (w0 = 0) → K (1 : Int32) u))))
set_option maxRecDepth 100000 in
set_option maxHeartbeats 4000000 in
theorem tX9_seen_65 {X : mCx} {G : mG} {u0 : mSt} {K : Int32 → mSt → Prop} (F : mFx X G cX9_seen wsX9_seen RX9 "seen" 1 25 (some .int) u0 (mPi K)) (hN : X.2.2.2.2.2.2.2.2.2.2.2.2.1 = 3) {v0 : Nat} {v1 : Int32} {w0 : Int32} {u : mSt} (kv0 : mK u v0 = 10) (h : bX9_seen_65 v0 v1 w0 u K) : mZ X u 65 [(0, .ref (G.1 + v0)), (1, .int v1)] [.int w0] := by
  refine mz_istore_n (lv2 := [(2, .int w0), (0, .ref (G.1 + v0)), (1, .int v1)]) F dX9_seen_65 rfl hN (by decide) rfl ?_
  refine mz_iload_n F dX9_seen_66 rfl 2 rfl ?_
  refine mz_if_ne (tgt := 82) F dX9_seen_67 (by decide) (fun c_4 => ?_) (fun c_4 => ?_)
  · replace h := h.2 c_4
    refine mz_iload_n F dX9_seen_82 rfl 0 rfl ?_
    refine mz_if_eq (tgt := 90) F dX9_seen_83 (by decide) (fun c_1 => ?_) (fun c_1 => ?_)
    · replace h := h.1 c_1
      refine mz_iconst (v := 0) F dX9_seen_90 (by decide) ?_
      exact mz_iret F dX9_seen_91 ⟨_, rfl, h⟩
    · replace h := h.2 c_1
      refine mz_iconst (v := 1) F dX9_seen_86 (by decide) ?_
      refine mz_goto (tgt := 91) F dX9_seen_87 (by decide) ?_
      exact mz_iret F dX9_seen_91 ⟨_, rfl, h⟩
  · replace h := h.1 c_4
    refine mz_aload_n F dX9_seen_70 rfl 1 rfl ?_
    obtain ⟨q_2, eq_2, h⟩ := h
    refine mz_getR F dX9_seen_71 fX9_seen_7 (by decide) kv0 eq_2 (fun kq_2 => ?_)
    refine mz_aload_n F dX9_seen_74 rfl 1 rfl ?_
    refine mz_getI F dX9_seen_75 fX9_seen_148 kv0 ?_
    obtain ⟨b_3, h⟩ := h
    refine mz_iald F dX9_seen_78 kq_2 rfl b_3 ?_
    refine mz_goto (tgt := 91) F dX9_seen_79 (by decide) ?_
    exact mz_iret F dX9_seen_91 ⟨_, rfl, h⟩
def bX9_seen (this : Nat) (a1 : Int32) (u : mSt) (K : Int32 → mSt → Prop) : Prop := (∀ u_1, u_1 = mpI u this 0 (0 : Int32) → bX9_isIn a1.toInt64 (0 : Int64) (3 : Int64) u_1 (fun r_4 u_3 => ((r_4 = 0 → K (-1 : Int32) u_3) ∧ (¬ (r_4 = 0) → (((mI u_3 this 6) = 0 → K (-2 : Int32) u_3) ∧ (¬ ((mI u_3 this 6) = 0) → ((a1 = (1 : Int32) → bX9_liesHere this u_3 (fun r_9 u_8 => bX9_seen_65 this a1 r_9 u_8 K)) ∧ (¬ (a1 = (1 : Int32)) → ((a1 = (2 : Int32) → bX9_seen_65 this a1 (mI u_3 this 11) u_3 K) ∧ (¬ (a1 = (2 : Int32)) → ((0 ≤ (mI u_3 this 10) → bX9_seen_65 this a1 (0 : Int32) u_3 K) ∧ (¬ (0 ≤ (mI u_3 this 10)) → bX9_seen_65 this a1 (1 : Int32) u_3 K))))))))))))
set_option maxRecDepth 100000 in
set_option maxHeartbeats 4000000 in
theorem tX9_seen {X : mCx} {G : mG} {u0 : mSt} {K : Int32 → mSt → Prop} (F : mFx X G cX9_seen wsX9_seen RX9 "seen" 1 25 (some .int) u0 (mPi K)) (hN : X.2.2.2.2.2.2.2.2.2.2.2.2.1 = 3) {this : Nat} {a1 : Int32} {u : mSt} (kthis : mK u this = 10) (h : bX9_seen this a1 u K) : mZ X u 0 [(0, .ref (G.1 + this)), (1, .int a1)] [] := by
  refine mz_aload_n F dX9_seen_0 rfl 0 rfl ?_
  refine mz_iconst (v := 0) F dX9_seen_1 (by decide) ?_
  refine mz_putI F dX9_seen_2 fX9_seen_112 kthis rfl rfl (fun u_1 eu_1 hxu_1 => ?_)
  replace h := h u_1 eu_1
  replace kthis := hxu_1.2.2 _ _ (by decide) kthis
  refine mz_iload_n F dX9_seen_5 rfl 1 rfl ?_
  refine mz_i2l F dX9_seen_6 ?_
  refine mz_lconst (v := 0) F dX9_seen_7 (by decide) ?_
  refine mz_ldc2 (v := 3) F dX9_seen_8 mX9_seen_ldcl119 ?_
  refine mz_callS (As := [_, _, _]) (n := 3) F dX9_seen_11 rfl gX9_seen_X9_isIn (by decide +kernel) (by decide) rfl (Nat.le_of_ble_eq_true rfl) (kX9_isIn _ G h) (mz_kZ fun r_4 u_3 br_4 h hx_2 => ?_)
  replace kthis := hx_2.2.2 _ _ (by decide) kthis
  refine mz_if_ne (tgt := 19) F dX9_seen_14 (by decide) (fun c_12 => ?_) (fun c_12 => ?_)
  · replace h := h.2 c_12
    refine mz_aload_n F dX9_seen_19 rfl 0 rfl ?_
    refine mz_getI F dX9_seen_20 fX9_seen_159 kthis ?_
    refine mz_if_ne (tgt := 29) F dX9_seen_23 (by decide) (fun c_11 => ?_) (fun c_11 => ?_)
    · replace h := h.2 c_11
      refine mz_iload_n F dX9_seen_29 rfl 1 rfl ?_
      refine mz_iconst (v := 1) F dX9_seen_30 (by decide) ?_
      refine mz_icmp_ne (tgt := 41) F dX9_seen_31 (by decide) (fun c_10 => ?_) (fun c_10 => ?_)
      · replace h := h.2 c_10
        refine mz_iload_n F dX9_seen_41 rfl 1 rfl ?_
        refine mz_iconst (v := 2) F dX9_seen_42 (by decide) ?_
        refine mz_icmp_ne (tgt := 53) F dX9_seen_43 (by decide) (fun c_6 => ?_) (fun c_6 => ?_)
        · replace h := h.2 c_6
          refine mz_aload_n F dX9_seen_53 rfl 0 rfl ?_
          refine mz_getI F dX9_seen_54 fX9_seen_162 kthis ?_
          refine mz_if_ge (tgt := 64) F dX9_seen_57 (by decide) (fun c_5 => ?_) (fun c_5 => ?_)
          · replace h := h.1 c_5
            refine mz_iconst (v := 0) F dX9_seen_64 (by decide) ?_
            refine mz_sub [0, 1] rfl ?_
            exact tX9_seen_65 F hN kthis h
          · replace h := h.2 c_5
            refine mz_iconst (v := 1) F dX9_seen_60 (by decide) ?_
            refine mz_goto (tgt := 65) F dX9_seen_61 (by decide) ?_
            refine mz_sub [0, 1] rfl ?_
            exact tX9_seen_65 F hN kthis h
        · replace h := h.1 c_6
          refine mz_aload_n F dX9_seen_46 rfl 0 rfl ?_
          refine mz_getI F dX9_seen_47 fX9_seen_165 kthis ?_
          refine mz_goto (tgt := 65) F dX9_seen_50 (by decide) ?_
          refine mz_sub [0, 1] rfl ?_
          exact tX9_seen_65 F hN kthis h
      · replace h := h.1 c_10
        refine mz_aload_n F dX9_seen_34 rfl 0 rfl ?_
        refine mz_callV (As := []) (n := 0) F dX9_seen_35 rfl kthis rfl rfl gX9_seen_X9_liesHere (by decide +kernel) (by decide) rfl (Nat.le_of_ble_eq_true rfl) (kX9_liesHere _ G kthis h) (mz_kZ fun r_9 u_8 br_9 h hx_7 => ?_)
        replace kthis := hx_7.2.2 _ _ (by decide) kthis
        refine mz_goto (tgt := 65) F dX9_seen_38 (by decide) ?_
        refine mz_sub [0, 1] rfl ?_
        exact tX9_seen_65 F hN kthis h
    · replace h := h.1 c_11
      refine mz_bipush (v := (-2)) F dX9_seen_26 (by decide) ?_
      exact mz_iret F dX9_seen_28 ⟨_, rfl, h⟩
  · replace h := h.1 c_12
    refine mz_iconst (v := (-1)) F dX9_seen_17 (by decide) ?_
    exact mz_iret F dX9_seen_18 ⟨_, rfl, h⟩
set_option maxRecDepth 100000 in
theorem kX9_seen (l : Launch) (G : mG) {u : mSt} {K : Int32 → mSt → Prop} {this : Nat} {a1 : Int32} (kthis : mK u this = 10) (h : bX9_seen this a1 u K) : mCt l G yX9_seen wsX9_seen 1 25 [.ref (G.1 + this), .int a1] u (mPi K) := by
  refine mCt.of (cc := cX9_seen) (maxL := 3) (ret := (some .int)) (by decide) rfl (Nat.le_of_ble_eq_true rfl) ?_
  intro X hl hN F
  exact tX9_seen F hN kthis h
/-! RoomMapperModel.walk(II)I -/
theorem wiX9_walk_9 : ∀ w ∈ u_ws RX9 TX9 52, w ∈ wsX9_walk := by decide +kernel
theorem fX9_walk_112 : mFld wsX9_walk RX9 112 10 0 0 .int false := ⟨9, _, RX9, TX9, 52, tyX9, rfl, rfl, rfl, by decide, wiX9_walk_9, tyX9_ok, nmX9, rfl, rfl, Or.inl ⟨by decide +kernel, fun _ => rfl⟩⟩
theorem fX9_walk_159 : mFld wsX9_walk RX9 159 10 6 0 .boolean false := ⟨9, _, RX9, TX9, 52, tyX9, rfl, rfl, rfl, by decide, wiX9_walk_9, tyX9_ok, nmX9, rfl, rfl, Or.inl ⟨by decide +kernel, fun _ => rfl⟩⟩
theorem fX9_walk_168 : mFld wsX9_walk RX9 168 10 12 0 .int false := ⟨9, _, RX9, TX9, 52, tyX9, rfl, rfl, rfl, by decide, wiX9_walk_9, tyX9_ok, nmX9, rfl, rfl, Or.inl ⟨by decide +kernel, fun _ => rfl⟩⟩
theorem mX9_walk_ldcl119 : Cond.constantLong RX9 119 (3) ∈ wsX9_walk := by decide +kernel
theorem fX9_walk_32 : mFld wsX9_walk RX9 32 10 16 22 (.array .int) true := ⟨9, _, RX9, TX9, 52, tyX9, rfl, rfl, rfl, by decide, wiX9_walk_9, tyX9_ok, nmX9, rfl, rfl, Or.inl ⟨by decide +kernel, fun _ => rfl⟩⟩
theorem fX9_walk_29 : mFld wsX9_walk RX9 29 10 15 22 (.array .int) true := ⟨9, _, RX9, TX9, 52, tyX9, rfl, rfl, rfl, by decide, wiX9_walk_9, tyX9_ok, nmX9, rfl, rfl, Or.inl ⟨by decide +kernel, fun _ => rfl⟩⟩
theorem fX9_walk_26 : mFld wsX9_walk RX9 26 10 14 22 (.array .int) true := ⟨9, _, RX9, TX9, 52, tyX9, rfl, rfl, rfl, by decide, wiX9_walk_9, tyX9_ok, nmX9, rfl, rfl, Or.inl ⟨by decide +kernel, fun _ => rfl⟩⟩
theorem fX9_walk_23 : mFld wsX9_walk RX9 23 10 13 22 (.array .int) true := ⟨9, _, RX9, TX9, 52, tyX9, rfl, rfl, rfl, by decide, wiX9_walk_9, tyX9_ok, nmX9, rfl, rfl, Or.inl ⟨by decide +kernel, fun _ => rfl⟩⟩
def bX9_walk (this : Nat) (a1 : Int32) (a2 : Int32) (u : mSt) (K : Int32 → mSt → Prop) : Prop := (∀ u_1, u_1 = mpI u this 0 (0 : Int32) → (((mI u_1 this 6) = 0 → K (-1 : Int32) u_1) ∧ (¬ ((mI u_1 this 6) = 0) → ((a1 < 0 → K (-1 : Int32) u_1) ∧ (¬ (a1 < 0) → (((mI u_1 this 12) ≤ a1 → K (-1 : Int32) u_1) ∧ (¬ ((mI u_1 this 12) ≤ a1) → bX9_isIn a2.toInt64 (0 : Int64) (3 : Int64) u_1 (fun r_4 u_3 => ((r_4 = 0 → K (-1 : Int32) u_3) ∧ (¬ (r_4 = 0) → ((a2 = 0 → (∃ q_13, mR u_3 this 13 = some q_13 ∧ (vp_in a1 200 ∧ K (mI u_3 q_13 a1.toNatClampNeg) u_3))) ∧ (¬ (a2 = 0) → ((a2 = (1 : Int32) → (∃ q_10, mR u_3 this 14 = some q_10 ∧ (vp_in a1 200 ∧ K (mI u_3 q_10 a1.toNatClampNeg) u_3))) ∧ (¬ (a2 = (1 : Int32)) → ((a2 = (2 : Int32) → (∃ q_7, mR u_3 this 15 = some q_7 ∧ (vp_in a1 200 ∧ K (mI u_3 q_7 a1.toNatClampNeg) u_3))) ∧ (¬ (a2 = (2 : Int32)) → (∃ q_5, mR u_3 this 16 = some q_5 ∧ (vp_in a1 200 ∧ K (mI u_3 q_5 a1.toNatClampNeg) u_3))))))))))))))))))
set_option maxRecDepth 100000 in
set_option maxHeartbeats 4000000 in
theorem tX9_walk {X : mCx} {G : mG} {u0 : mSt} {K : Int32 → mSt → Prop} (F : mFx X G cX9_walk wsX9_walk RX9 "walk" 1 25 (some .int) u0 (mPi K)) (hN : X.2.2.2.2.2.2.2.2.2.2.2.2.1 = 3) {this : Nat} {a1 : Int32} {a2 : Int32} {u : mSt} (kthis : mK u this = 10) (h : bX9_walk this a1 a2 u K) : mZ X u 0 [(0, .ref (G.1 + this)), (1, .int a1), (2, .int a2)] [] := by
  refine mz_aload_n F dX9_walk_0 rfl 0 rfl ?_
  refine mz_iconst (v := 0) F dX9_walk_1 (by decide) ?_
  refine mz_putI F dX9_walk_2 fX9_walk_112 kthis rfl rfl (fun u_1 eu_1 hxu_1 => ?_)
  replace h := h u_1 eu_1
  replace kthis := hxu_1.2.2 _ _ (by decide) kthis
  refine mz_aload_n F dX9_walk_5 rfl 0 rfl ?_
  refine mz_getI F dX9_walk_6 fX9_walk_159 kthis ?_
  refine mz_if_eq (tgt := 36) F dX9_walk_9 (by decide) (fun c_19 => ?_) (fun c_19 => ?_)
  · replace h := h.1 c_19
    refine mz_iconst (v := (-1)) F dX9_walk_36 (by decide) ?_
    exact mz_iret F dX9_walk_37 ⟨_, rfl, h⟩
  · replace h := h.2 c_19
    refine mz_iload_n F dX9_walk_12 rfl 1 rfl ?_
    refine mz_if_lt (tgt := 36) F dX9_walk_13 (by decide) (fun c_18 => ?_) (fun c_18 => ?_)
    · replace h := h.1 c_18
      refine mz_iconst (v := (-1)) F dX9_walk_36 (by decide) ?_
      exact mz_iret F dX9_walk_37 ⟨_, rfl, h⟩
    · replace h := h.2 c_18
      refine mz_iload_n F dX9_walk_16 rfl 1 rfl ?_
      refine mz_aload_n F dX9_walk_17 rfl 0 rfl ?_
      refine mz_getI F dX9_walk_18 fX9_walk_168 kthis ?_
      refine mz_icmp_ge (tgt := 36) F dX9_walk_21 (by decide) (fun c_17 => ?_) (fun c_17 => ?_)
      · replace h := h.1 c_17
        refine mz_iconst (v := (-1)) F dX9_walk_36 (by decide) ?_
        exact mz_iret F dX9_walk_37 ⟨_, rfl, h⟩
      · replace h := h.2 c_17
        refine mz_iload_n F dX9_walk_24 rfl 2 rfl ?_
        refine mz_i2l F dX9_walk_25 ?_
        refine mz_lconst (v := 0) F dX9_walk_26 (by decide) ?_
        refine mz_ldc2 (v := 3) F dX9_walk_27 mX9_walk_ldcl119 ?_
        refine mz_callS (As := [_, _, _]) (n := 3) F dX9_walk_30 rfl gX9_walk_X9_isIn (by decide +kernel) (by decide) rfl (Nat.le_of_ble_eq_true rfl) (kX9_isIn _ G h) (mz_kZ fun r_4 u_3 br_4 h hx_2 => ?_)
        replace kthis := hx_2.2.2 _ _ (by decide) kthis
        refine mz_if_ne (tgt := 38) F dX9_walk_33 (by decide) (fun c_16 => ?_) (fun c_16 => ?_)
        · replace h := h.2 c_16
          refine mz_iload_n F dX9_walk_38 rfl 2 rfl ?_
          refine mz_if_ne (tgt := 51) F dX9_walk_39 (by decide) (fun c_15 => ?_) (fun c_15 => ?_)
          · replace h := h.2 c_15
            refine mz_iload_n F dX9_walk_51 rfl 2 rfl ?_
            refine mz_iconst (v := 1) F dX9_walk_52 (by decide) ?_
            refine mz_icmp_ne (tgt := 65) F dX9_walk_53 (by decide) (fun c_12 => ?_) (fun c_12 => ?_)
            · replace h := h.2 c_12
              refine mz_iload_n F dX9_walk_65 rfl 2 rfl ?_
              refine mz_iconst (v := 2) F dX9_walk_66 (by decide) ?_
              refine mz_icmp_ne (tgt := 79) F dX9_walk_67 (by decide) (fun c_9 => ?_) (fun c_9 => ?_)
              · replace h := h.2 c_9
                refine mz_aload_n F dX9_walk_79 rfl 0 rfl ?_
                obtain ⟨q_5, eq_5, h⟩ := h
                refine mz_getR F dX9_walk_80 fX9_walk_32 (by decide) kthis eq_5 (fun kq_5 => ?_)
                refine mz_iload_n F dX9_walk_83 rfl 1 rfl ?_
                obtain ⟨b_6, h⟩ := h
                refine mz_iald F dX9_walk_84 kq_5 rfl b_6 ?_
                exact mz_iret F dX9_walk_85 ⟨_, rfl, h⟩
              · replace h := h.1 c_9
                refine mz_aload_n F dX9_walk_70 rfl 0 rfl ?_
                obtain ⟨q_7, eq_7, h⟩ := h
                refine mz_getR F dX9_walk_71 fX9_walk_29 (by decide) kthis eq_7 (fun kq_7 => ?_)
                refine mz_iload_n F dX9_walk_74 rfl 1 rfl ?_
                obtain ⟨b_8, h⟩ := h
                refine mz_iald F dX9_walk_75 kq_7 rfl b_8 ?_
                refine mz_goto (tgt := 85) F dX9_walk_76 (by decide) ?_
                exact mz_iret F dX9_walk_85 ⟨_, rfl, h⟩
            · replace h := h.1 c_12
              refine mz_aload_n F dX9_walk_56 rfl 0 rfl ?_
              obtain ⟨q_10, eq_10, h⟩ := h
              refine mz_getR F dX9_walk_57 fX9_walk_26 (by decide) kthis eq_10 (fun kq_10 => ?_)
              refine mz_iload_n F dX9_walk_60 rfl 1 rfl ?_
              obtain ⟨b_11, h⟩ := h
              refine mz_iald F dX9_walk_61 kq_10 rfl b_11 ?_
              refine mz_goto (tgt := 85) F dX9_walk_62 (by decide) ?_
              exact mz_iret F dX9_walk_85 ⟨_, rfl, h⟩
          · replace h := h.1 c_15
            refine mz_aload_n F dX9_walk_42 rfl 0 rfl ?_
            obtain ⟨q_13, eq_13, h⟩ := h
            refine mz_getR F dX9_walk_43 fX9_walk_23 (by decide) kthis eq_13 (fun kq_13 => ?_)
            refine mz_iload_n F dX9_walk_46 rfl 1 rfl ?_
            obtain ⟨b_14, h⟩ := h
            refine mz_iald F dX9_walk_47 kq_13 rfl b_14 ?_
            refine mz_goto (tgt := 85) F dX9_walk_48 (by decide) ?_
            exact mz_iret F dX9_walk_85 ⟨_, rfl, h⟩
        · replace h := h.1 c_16
          refine mz_iconst (v := (-1)) F dX9_walk_36 (by decide) ?_
          exact mz_iret F dX9_walk_37 ⟨_, rfl, h⟩
set_option maxRecDepth 100000 in
theorem kX9_walk (l : Launch) (G : mG) {u : mSt} {K : Int32 → mSt → Prop} {this : Nat} {a1 : Int32} {a2 : Int32} (kthis : mK u this = 10) (h : bX9_walk this a1 a2 u K) : mCt l G yX9_walk wsX9_walk 1 25 [.ref (G.1 + this), .int a1, .int a2] u (mPi K) := by
  refine mCt.of (cc := cX9_walk) (maxL := 3) (ret := (some .int)) (by decide) rfl (Nat.le_of_ble_eq_true rfl) ?_
  intro X hl hN F
  exact tX9_walk F hN kthis h
/-! RoomMapperModel.sheets()I -/
theorem wiX9_sheets_9 : ∀ w ∈ u_ws RX9 TX9 52, w ∈ wsX9_sheets := by decide +kernel
theorem fX9_sheets_112 : mFld wsX9_sheets RX9 112 10 0 0 .int false := ⟨9, _, RX9, TX9, 52, tyX9, rfl, rfl, rfl, by decide, wiX9_sheets_9, tyX9_ok, nmX9, rfl, rfl, Or.inl ⟨by decide +kernel, fun _ => rfl⟩⟩
theorem fX9_sheets_159 : mFld wsX9_sheets RX9 159 10 6 0 .boolean false := ⟨9, _, RX9, TX9, 52, tyX9, rfl, rfl, rfl, by decide, wiX9_sheets_9, tyX9_ok, nmX9, rfl, rfl, Or.inl ⟨by decide +kernel, fun _ => rfl⟩⟩
theorem fX9_sheets_180 : mFld wsX9_sheets RX9 180 10 20 0 .boolean false := ⟨9, _, RX9, TX9, 52, tyX9, rfl, rfl, rfl, by decide, wiX9_sheets_9, tyX9_ok, nmX9, rfl, rfl, Or.inl ⟨by decide +kernel, fun _ => rfl⟩⟩
theorem fX9_sheets_177 : mFld wsX9_sheets RX9 177 10 19 0 .int false := ⟨9, _, RX9, TX9, 52, tyX9, rfl, rfl, rfl, by decide, wiX9_sheets_9, tyX9_ok, nmX9, rfl, rfl, Or.inl ⟨by decide +kernel, fun _ => rfl⟩⟩
def bX9_sheets (this : Nat) (u : mSt) (K : Int32 → mSt → Prop) : Prop := (∀ u_1, u_1 = mpI u this 0 (0 : Int32) → (((mI u_1 this 6) = 0 → K (-2 : Int32) u_1) ∧ (¬ ((mI u_1 this 6) = 0) → (((mI u_1 this 20) = 0 → K (mI u_1 this 19) u_1) ∧ (¬ ((mI u_1 this 20) = 0) → K (-3 : Int32) u_1)))))
set_option maxRecDepth 100000 in
set_option maxHeartbeats 4000000 in
theorem tX9_sheets {X : mCx} {G : mG} {u0 : mSt} {K : Int32 → mSt → Prop} (F : mFx X G cX9_sheets wsX9_sheets RX9 "sheets" 0 0 (some .int) u0 (mPi K)) (hN : X.2.2.2.2.2.2.2.2.2.2.2.2.1 = 1) {this : Nat} {u : mSt} (kthis : mK u this = 10) (h : bX9_sheets this u K) : mZ X u 0 [(0, .ref (G.1 + this))] [] := by
  refine mz_aload_n F dX9_sheets_0 rfl 0 rfl ?_
  refine mz_iconst (v := 0) F dX9_sheets_1 (by decide) ?_
  refine mz_putI F dX9_sheets_2 fX9_sheets_112 kthis rfl rfl (fun u_1 eu_1 hxu_1 => ?_)
  replace h := h u_1 eu_1
  replace kthis := hxu_1.2.2 _ _ (by decide) kthis
  refine mz_aload_n F dX9_sheets_5 rfl 0 rfl ?_
  refine mz_getI F dX9_sheets_6 fX9_sheets_159 kthis ?_
  refine mz_if_ne (tgt := 17) F dX9_sheets_9 (by decide) (fun c_3 => ?_) (fun c_3 => ?_)
  · replace h := h.2 c_3
    refine mz_aload_n F dX9_sheets_17 rfl 0 rfl ?_
    refine mz_getI F dX9_sheets_18 fX9_sheets_180 kthis ?_
    refine mz_if_eq (tgt := 29) F dX9_sheets_21 (by decide) (fun c_2 => ?_) (fun c_2 => ?_)
    · replace h := h.1 c_2
      refine mz_aload_n F dX9_sheets_29 rfl 0 rfl ?_
      refine mz_getI F dX9_sheets_30 fX9_sheets_177 kthis ?_
      exact mz_iret F dX9_sheets_33 ⟨_, rfl, h⟩
    · replace h := h.2 c_2
      refine mz_bipush (v := (-3)) F dX9_sheets_24 (by decide) ?_
      refine mz_goto (tgt := 33) F dX9_sheets_26 (by decide) ?_
      exact mz_iret F dX9_sheets_33 ⟨_, rfl, h⟩
  · replace h := h.1 c_3
    refine mz_bipush (v := (-2)) F dX9_sheets_12 (by decide) ?_
    refine mz_goto (tgt := 33) F dX9_sheets_14 (by decide) ?_
    exact mz_iret F dX9_sheets_33 ⟨_, rfl, h⟩
set_option maxRecDepth 100000 in
theorem kX9_sheets (l : Launch) (G : mG) {u : mSt} {K : Int32 → mSt → Prop} {this : Nat} (kthis : mK u this = 10) (h : bX9_sheets this u K) : mCt l G yX9_sheets wsX9_sheets 0 0 [.ref (G.1 + this)] u (mPi K) := by
  refine mCt.of (cc := cX9_sheets) (maxL := 1) (ret := (some .int)) (by decide) rfl (Nat.le_of_ble_eq_true rfl) ?_
  intro X hl hN F
  exact tX9_sheets F hN kthis h
/-! RoomMapperModel.isSheet(I)Z -/
theorem wiX9_isSheet_9 : ∀ w ∈ u_ws RX9 TX9 52, w ∈ wsX9_isSheet := by decide +kernel
theorem fX9_isSheet_159 : mFld wsX9_isSheet RX9 159 10 6 0 .boolean false := ⟨9, _, RX9, TX9, 52, tyX9, rfl, rfl, rfl, by decide, wiX9_isSheet_9, tyX9_ok, nmX9, rfl, rfl, Or.inl ⟨by decide +kernel, fun _ => rfl⟩⟩
theorem fX9_isSheet_177 : mFld wsX9_isSheet RX9 177 10 19 0 .int false := ⟨9, _, RX9, TX9, 52, tyX9, rfl, rfl, rfl, by decide, wiX9_isSheet_9, tyX9_ok, nmX9, rfl, rfl, Or.inl ⟨by decide +kernel, fun _ => rfl⟩⟩
def bX9_isSheet (this : Nat) (a1 : Int32) (u : mSt) (K : Int32 → mSt → Prop) : Prop := (((mI u this 6) = 0 → K (0 : Int32) u) ∧ (¬ ((mI u this 6) = 0) → ((a1 < 0 → K (0 : Int32) u) ∧ (¬ (a1 < 0) → (((mI u this 19) ≤ a1 → K (0 : Int32) u) ∧ (¬ ((mI u this 19) ≤ a1) → K (1 : Int32) u))))))
set_option maxRecDepth 100000 in
set_option maxHeartbeats 4000000 in
theorem tX9_isSheet {X : mCx} {G : mG} {u0 : mSt} {K : Int32 → mSt → Prop} (F : mFx X G cX9_isSheet wsX9_isSheet RX9 "isSheet" 0 0 (some .boolean) u0 (mPz K)) (hN : X.2.2.2.2.2.2.2.2.2.2.2.2.1 = 2) {this : Nat} {a1 : Int32} {u : mSt} (kthis : mK u this = 10) (h : bX9_isSheet this a1 u K) : mZ X u 0 [(0, .ref (G.1 + this)), (1, .int a1)] [] := by
  refine mz_aload_n F dX9_isSheet_0 rfl 0 rfl ?_
  refine mz_getI F dX9_isSheet_1 fX9_isSheet_159 kthis ?_
  refine mz_if_eq (tgt := 23) F dX9_isSheet_4 (by decide) (fun c_3 => ?_) (fun c_3 => ?_)
  · replace h := h.1 c_3
    refine mz_iconst (v := 0) F dX9_isSheet_23 (by decide) ?_
    exact mz_zret F dX9_isSheet_24 rfl ⟨_, rfl, by decide, h⟩
  · replace h := h.2 c_3
    refine mz_iload_n F dX9_isSheet_7 rfl 1 rfl ?_
    refine mz_if_lt (tgt := 23) F dX9_isSheet_8 (by decide) (fun c_2 => ?_) (fun c_2 => ?_)
    · replace h := h.1 c_2
      refine mz_iconst (v := 0) F dX9_isSheet_23 (by decide) ?_
      exact mz_zret F dX9_isSheet_24 rfl ⟨_, rfl, by decide, h⟩
    · replace h := h.2 c_2
      refine mz_iload_n F dX9_isSheet_11 rfl 1 rfl ?_
      refine mz_aload_n F dX9_isSheet_12 rfl 0 rfl ?_
      refine mz_getI F dX9_isSheet_13 fX9_isSheet_177 kthis ?_
      refine mz_icmp_ge (tgt := 23) F dX9_isSheet_16 (by decide) (fun c_1 => ?_) (fun c_1 => ?_)
      · replace h := h.1 c_1
        refine mz_iconst (v := 0) F dX9_isSheet_23 (by decide) ?_
        exact mz_zret F dX9_isSheet_24 rfl ⟨_, rfl, by decide, h⟩
      · replace h := h.2 c_1
        refine mz_iconst (v := 1) F dX9_isSheet_19 (by decide) ?_
        refine mz_goto (tgt := 24) F dX9_isSheet_20 (by decide) ?_
        exact mz_zret F dX9_isSheet_24 rfl ⟨_, rfl, by decide, h⟩
set_option maxRecDepth 100000 in
theorem kX9_isSheet (l : Launch) (G : mG) {u : mSt} {K : Int32 → mSt → Prop} {this : Nat} {a1 : Int32} (kthis : mK u this = 10) (h : bX9_isSheet this a1 u K) : mCt l G yX9_isSheet wsX9_isSheet 0 0 [.ref (G.1 + this), .int a1] u (mPz K) := by
  refine mCt.of (cc := cX9_isSheet) (maxL := 2) (ret := (some .boolean)) (by decide) rfl (Nat.le_of_ble_eq_true rfl) ?_
  intro X hl hN F
  exact tX9_isSheet F hN kthis h
/-! RoomMapperModel.isPlace(II)Z -/
theorem wiX9_isPlace_9 : ∀ w ∈ u_ws RX9 TX9 52, w ∈ wsX9_isPlace := by decide +kernel
theorem fX9_isPlace_35 : mFld wsX9_isPlace RX9 35 10 21 15 (.array .int) true := ⟨9, _, RX9, TX9, 52, tyX9, rfl, rfl, rfl, by decide, wiX9_isPlace_9, tyX9_ok, nmX9, rfl, rfl, Or.inl ⟨by decide +kernel, fun _ => rfl⟩⟩
def bX9_isPlace (this : Nat) (a1 : Int32) (a2 : Int32) (u : mSt) (K : Int32 → mSt → Prop) : Prop := bX9_isSheet this a1 u (fun r_3 u_2 => ((r_3 = 0 → K (0 : Int32) u_2) ∧ (¬ (r_3 = 0) → ((a2 < 0 → K (0 : Int32) u_2) ∧ (¬ (a2 < 0) → (∃ q_4, mR u_2 this 21 = some q_4 ∧ (vp_in a1 150 ∧ (((mI u_2 q_4 a1.toNatClampNeg) ≤ a2 → K (0 : Int32) u_2) ∧ (¬ ((mI u_2 q_4 a1.toNatClampNeg) ≤ a2) → K (1 : Int32) u_2)))))))))
set_option maxRecDepth 100000 in
set_option maxHeartbeats 4000000 in
theorem tX9_isPlace {X : mCx} {G : mG} {u0 : mSt} {K : Int32 → mSt → Prop} (F : mFx X G cX9_isPlace wsX9_isPlace RX9 "isPlace" 1 21 (some .boolean) u0 (mPz K)) (hN : X.2.2.2.2.2.2.2.2.2.2.2.2.1 = 3) {this : Nat} {a1 : Int32} {a2 : Int32} {u : mSt} (kthis : mK u this = 10) (h : bX9_isPlace this a1 a2 u K) : mZ X u 0 [(0, .ref (G.1 + this)), (1, .int a1), (2, .int a2)] [] := by
  refine mz_aload_n F dX9_isPlace_0 rfl 0 rfl ?_
  refine mz_iload_n F dX9_isPlace_1 rfl 1 rfl ?_
  refine mz_callV (As := [_]) (n := 1) F dX9_isPlace_2 rfl kthis rfl rfl gX9_isPlace_X9_isSheet (by decide +kernel) (by decide) rfl (Nat.le_of_ble_eq_true rfl) (kX9_isSheet _ G kthis h) (mz_kZ fun r_3 u_2 br_3 h hx_1 => ?_)
  replace kthis := hx_1.2.2 _ _ (by decide) kthis
  refine mz_if_eq (tgt := 26) F dX9_isPlace_5 (by decide) (fun c_8 => ?_) (fun c_8 => ?_)
  · replace h := h.1 c_8
    refine mz_iconst (v := 0) F dX9_isPlace_26 (by decide) ?_
    exact mz_zret F dX9_isPlace_27 rfl ⟨_, rfl, by decide, h⟩
  · replace h := h.2 c_8
    refine mz_iload_n F dX9_isPlace_8 rfl 2 rfl ?_
    refine mz_if_lt (tgt := 26) F dX9_isPlace_9 (by decide) (fun c_7 => ?_) (fun c_7 => ?_)
    · replace h := h.1 c_7
      refine mz_iconst (v := 0) F dX9_isPlace_26 (by decide) ?_
      exact mz_zret F dX9_isPlace_27 rfl ⟨_, rfl, by decide, h⟩
    · replace h := h.2 c_7
      refine mz_iload_n F dX9_isPlace_12 rfl 2 rfl ?_
      refine mz_aload_n F dX9_isPlace_13 rfl 0 rfl ?_
      obtain ⟨q_4, eq_4, h⟩ := h
      refine mz_getR F dX9_isPlace_14 fX9_isPlace_35 (by decide) kthis eq_4 (fun kq_4 => ?_)
      refine mz_iload_n F dX9_isPlace_17 rfl 1 rfl ?_
      obtain ⟨b_5, h⟩ := h
      refine mz_iald F dX9_isPlace_18 kq_4 rfl b_5 ?_
      refine mz_icmp_ge (tgt := 26) F dX9_isPlace_19 (by decide) (fun c_6 => ?_) (fun c_6 => ?_)
      · replace h := h.1 c_6
        refine mz_iconst (v := 0) F dX9_isPlace_26 (by decide) ?_
        exact mz_zret F dX9_isPlace_27 rfl ⟨_, rfl, by decide, h⟩
      · replace h := h.2 c_6
        refine mz_iconst (v := 1) F dX9_isPlace_22 (by decide) ?_
        refine mz_goto (tgt := 27) F dX9_isPlace_23 (by decide) ?_
        exact mz_zret F dX9_isPlace_27 rfl ⟨_, rfl, by decide, h⟩
set_option maxRecDepth 100000 in
theorem kX9_isPlace (l : Launch) (G : mG) {u : mSt} {K : Int32 → mSt → Prop} {this : Nat} {a1 : Int32} {a2 : Int32} (kthis : mK u this = 10) (h : bX9_isPlace this a1 a2 u K) : mCt l G yX9_isPlace wsX9_isPlace 1 21 [.ref (G.1 + this), .int a1, .int a2] u (mPz K) := by
  refine mCt.of (cc := cX9_isPlace) (maxL := 3) (ret := (some .boolean)) (by decide) rfl (Nat.le_of_ble_eq_true rfl) ?_
  intro X hl hN F
  exact tX9_isPlace F hN kthis h
/-! RoomMapperModel.sheet(II)I -/
theorem wiX9_sheet_9 : ∀ w ∈ u_ws RX9 TX9 52, w ∈ wsX9_sheet := by decide +kernel
theorem fX9_sheet_35 : mFld wsX9_sheet RX9 35 10 21 15 (.array .int) true := ⟨9, _, RX9, TX9, 52, tyX9, rfl, rfl, rfl, by decide, wiX9_sheet_9, tyX9_ok, nmX9, rfl, rfl, Or.inl ⟨by decide +kernel, fun _ => rfl⟩⟩
theorem fX9_sheet_41 : mFld wsX9_sheet RX9 41 10 23 25 (.array .int) true := ⟨9, _, RX9, TX9, 52, tyX9, rfl, rfl, rfl, by decide, wiX9_sheet_9, tyX9_ok, nmX9, rfl, rfl, Or.inl ⟨by decide +kernel, fun _ => rfl⟩⟩
theorem fX9_sheet_112 : mFld wsX9_sheet RX9 112 10 0 0 .int false := ⟨9, _, RX9, TX9, 52, tyX9, rfl, rfl, rfl, by decide, wiX9_sheet_9, tyX9_ok, nmX9, rfl, rfl, Or.inl ⟨by decide +kernel, fun _ => rfl⟩⟩
theorem mX9_sheet_ldcl119 : Cond.constantLong RX9 119 (3) ∈ wsX9_sheet := by decide +kernel
theorem fX9_sheet_47 : mFld wsX9_sheet RX9 47 10 25 15 (.array .int) true := ⟨9, _, RX9, TX9, 52, tyX9, rfl, rfl, rfl, by decide, wiX9_sheet_9, tyX9_ok, nmX9, rfl, rfl, Or.inl ⟨by decide +kernel, fun _ => rfl⟩⟩
theorem fX9_sheet_44 : mFld wsX9_sheet RX9 44 10 24 15 (.array .int) true := ⟨9, _, RX9, TX9, 52, tyX9, rfl, rfl, rfl, by decide, wiX9_sheet_9, tyX9_ok, nmX9, rfl, rfl, Or.inl ⟨by decide +kernel, fun _ => rfl⟩⟩
def bX9_sheet_107 (v0 : Nat) (v1 : Int32) (v4 : Int32) (w0 : Int32) (w1 : Int32) (u : mSt) (K : Int32 → mSt → Prop) (KL71 : Nat → Int32 → Int32 → Int32 → mSt → Prop) : Prop := (∀ x_1, x_1 = (w0 + w1) → (∀ x_2, x_2 = v4 + (1 : Int32) → KL71 v0 v1 x_1 x_2 u))
set_option maxRecDepth 100000 in
set_option maxHeartbeats 4000000 in
theorem tX9_sheet_107 {X : mCx} {G : mG} {u0 : mSt} {K : Int32 → mSt → Prop} {KL71 : Nat → Int32 → Int32 → Int32 → mSt → Prop} (F : mFx X G cX9_sheet wsX9_sheet RX9 "sheet" 1 25 (some .int) u0 (mPi K)) (hN : X.2.2.2.2.2.2.2.2.2.2.2.2.1 = 5) (hL71 : ∀ {v0 : Nat} {v1 : Int32} {v3 : Int32} {v4 : Int32} {u : mSt}, mK u v0 = 10 → KL71 v0 v1 v3 v4 u → mZ X u 71 [(0, .ref (G.1 + v0)), (1, .int v1), (3, .int v3), (4, .int v4)] []) {v0 : Nat} {v1 : Int32} {v4 : Int32} {w0 : Int32} {w1 : Int32} {u : mSt} (kv0 : mK u v0 = 10) (h : bX9_sheet_107 v0 v1 v4 w0 w1 u K KL71) : mZ X u 107 [(0, .ref (G.1 + v0)), (1, .int v1), (4, .int v4)] [.int w1, .int w0] := by
  refine mz_iadd F dX9_sheet_107 ?_
  refine mz_topi (fun x_1 ex_1 => ?_)
  replace h := h x_1 ex_1
  refine mz_istore_n (lv2 := [(3, .int x_1), (0, .ref (G.1 + v0)), (1, .int v1), (4, .int v4)]) F dX9_sheet_108 rfl hN (by decide) rfl ?_
  obtain ⟨x_2, ex_2⟩ : ∃ y : Int32, y = v4 + (1 : Int32) := ⟨_, rfl⟩
  replace h := h x_2 ex_2
  refine mz_iinc (v := x_2) (lv2 := [(4, .int x_2), (3, .int x_1), (0, .ref (G.1 + v0)), (1, .int v1)]) F dX9_sheet_109 3 rfl (by rw [ex_2]; rfl) hN (by decide) rfl ?_
  refine mz_goto (tgt := 71) F dX9_sheet_112 (by decide) ?_
  refine mz_sub [2, 3, 1, 0] rfl ?_
  exact hL71 kv0 h
def bX9_sheet_71 : Nat → Nat → Int32 → Int32 → Int32 → mSt → (Int32 → mSt → Prop) → Prop
  | 0, _, _, _, _, _, _ => False
  | n + 1, v0, v1, v3, v4, u, K => (∃ q_1, mR u v0 21 = some q_1 ∧ (vp_in v1 150 ∧ ((((5 : Int32) * (mI u q_1 v1.toNatClampNeg)) ≤ v4 → K v3 u) ∧ (¬ (((5 : Int32) * (mI u q_1 v1.toNatClampNeg)) ≤ v4) → (∃ q_3, mR u v0 23 = some q_3 ∧ (vp_in (((30 : Int32) * v1) + v4) 4500 ∧ (((mI u q_3 (((30 : Int32) * v1) + v4).toNatClampNeg) = (-3 : Int32) → bX9_sheet_107 v0 v1 v4 v3 (0 : Int32) u K (fun z0 z1 z2 z3 z4 => bX9_sheet_71 n z0 z1 z2 z3 z4 K)) ∧ (¬ ((mI u q_3 (((30 : Int32) * v1) + v4).toNatClampNeg) = (-3 : Int32)) → bX9_sheet_107 v0 v1 v4 v3 (1 : Int32) u K (fun z0 z1 z2 z3 z4 => bX9_sheet_71 n z0 z1 z2 z3 z4 K)))))))))
set_option maxRecDepth 100000 in
set_option maxHeartbeats 4000000 in
theorem tX9_sheet_71 {X : mCx} {G : mG} {u0 : mSt} {K : Int32 → mSt → Prop} (F : mFx X G cX9_sheet wsX9_sheet RX9 "sheet" 1 25 (some .int) u0 (mPi K)) (hN : X.2.2.2.2.2.2.2.2.2.2.2.2.1 = 5) : ∀ (n : Nat) {v0 : Nat} {v1 : Int32} {v3 : Int32} {v4 : Int32} {u : mSt}, mK u v0 = 10 → bX9_sheet_71 n v0 v1 v3 v4 u K → mZ X u 71 [(0, .ref (G.1 + v0)), (1, .int v1), (3, .int v3), (4, .int v4)] [] := by
  intro n
  induction n with
  | zero => intro v0 v1 v3 v4 u kv0 h; exact False.elim h
  | succ n ih =>
    intro v0 v1 v3 v4 u kv0 h
    refine mz_iload F dX9_sheet_71 3 rfl ?_
    refine mz_iconst (v := 5) F dX9_sheet_73 (by decide) ?_
    refine mz_aload_n F dX9_sheet_74 rfl 0 rfl ?_
    obtain ⟨q_1, eq_1, h⟩ := h
    refine mz_getR F dX9_sheet_75 fX9_sheet_35 (by decide) kv0 eq_1 (fun kq_1 => ?_)
    refine mz_iload_n F dX9_sheet_78 rfl 1 rfl ?_
    obtain ⟨b_2, h⟩ := h
    refine mz_iald F dX9_sheet_79 kq_1 rfl b_2 ?_
    refine mz_imul F dX9_sheet_80 ?_
    refine mz_icmp_ge (tgt := 115) F dX9_sheet_81 (by decide) (fun c_6 => ?_) (fun c_6 => ?_)
    · replace h := h.1 c_6
      refine mz_iload_n F dX9_sheet_115 rfl 2 rfl ?_
      exact mz_iret F dX9_sheet_116 ⟨_, rfl, h⟩
    · replace h := h.2 c_6
      refine mz_iload_n F dX9_sheet_84 rfl 2 rfl ?_
      refine mz_aload_n F dX9_sheet_85 rfl 0 rfl ?_
      obtain ⟨q_3, eq_3, h⟩ := h
      refine mz_getR F dX9_sheet_86 fX9_sheet_41 (by decide) kv0 eq_3 (fun kq_3 => ?_)
      refine mz_bipush (v := 30) F dX9_sheet_89 (by decide) ?_
      refine mz_iload_n F dX9_sheet_91 rfl 1 rfl ?_
      refine mz_imul F dX9_sheet_92 ?_
      refine mz_iload F dX9_sheet_93 3 rfl ?_
      refine mz_iadd F dX9_sheet_95 ?_
      obtain ⟨b_4, h⟩ := h
      refine mz_iald F dX9_sheet_96 kq_3 rfl b_4 ?_
      refine mz_bipush (v := (-3)) F dX9_sheet_97 (by decide) ?_
      refine mz_icmp_eq (tgt := 106) F dX9_sheet_99 (by decide) (fun c_5 => ?_) (fun c_5 => ?_)
      · replace h := h.1 c_5
        refine mz_iconst (v := 0) F dX9_sheet_106 (by decide) ?_
        refine mz_sub [0, 1, 3] rfl ?_
        exact tX9_sheet_107 F hN (fun k0 h => ih k0 h) kv0 h
      · replace h := h.2 c_5
        refine mz_iconst (v := 1) F dX9_sheet_102 (by decide) ?_
        refine mz_goto (tgt := 107) F dX9_sheet_103 (by decide) ?_
        refine mz_sub [0, 1, 3] rfl ?_
        exact tX9_sheet_107 F hN (fun k0 h => ih k0 h) kv0 h
def bX9_sheet (this : Nat) (a1 : Int32) (a2 : Int32) (u : mSt) (K : Int32 → mSt → Prop) : Prop := (∀ u_1, u_1 = mpI u this 0 (0 : Int32) → bX9_isSheet this a1 u_1 (fun r_4 u_3 => ((r_4 = 0 → K (-1 : Int32) u_3) ∧ (¬ (r_4 = 0) → bX9_isIn a2.toInt64 (0 : Int64) (3 : Int64) u_3 (fun r_7 u_6 => ((r_7 = 0 → K (-1 : Int32) u_6) ∧ (¬ (r_7 = 0) → (((3 : Int32) ≤ a2 → (∃ n9, bX9_sheet_71 n9 this a1 (0 : Int32) (0 : Int32) u_6 K)) ∧ (¬ ((3 : Int32) ≤ a2) → ((a2 = 0 → (∃ q_13, mR u_6 this 21 = some q_13 ∧ (vp_in a1 150 ∧ K (mI u_6 q_13 a1.toNatClampNeg) u_6))) ∧ (¬ (a2 = 0) → ((a2 = (1 : Int32) → (∃ q_10, mR u_6 this 24 = some q_10 ∧ (vp_in a1 150 ∧ K (mI u_6 q_10 a1.toNatClampNeg) u_6))) ∧ (¬ (a2 = (1 : Int32)) → (∃ q_8, mR u_6 this 25 = some q_8 ∧ (vp_in a1 150 ∧ K (mI u_6 q_8 a1.toNatClampNeg) u_6)))))))))))))))
set_option maxRecDepth 100000 in
set_option maxHeartbeats 4000000 in
theorem tX9_sheet {X : mCx} {G : mG} {u0 : mSt} {K : Int32 → mSt → Prop} (F : mFx X G cX9_sheet wsX9_sheet RX9 "sheet" 1 25 (some .int) u0 (mPi K)) (hN : X.2.2.2.2.2.2.2.2.2.2.2.2.1 = 5) {this : Nat} {a1 : Int32} {a2 : Int32} {u : mSt} (kthis : mK u this = 10) (h : bX9_sheet this a1 a2 u K) : mZ X u 0 [(0, .ref (G.1 + this)), (1, .int a1), (2, .int a2)] [] := by
  refine mz_aload_n F dX9_sheet_0 rfl 0 rfl ?_
  refine mz_iconst (v := 0) F dX9_sheet_1 (by decide) ?_
  refine mz_putI F dX9_sheet_2 fX9_sheet_112 kthis rfl rfl (fun u_1 eu_1 hxu_1 => ?_)
  replace h := h u_1 eu_1
  replace kthis := hxu_1.2.2 _ _ (by decide) kthis
  refine mz_aload_n F dX9_sheet_5 rfl 0 rfl ?_
  refine mz_iload_n F dX9_sheet_6 rfl 1 rfl ?_
  refine mz_callV (As := [_]) (n := 1) F dX9_sheet_7 rfl kthis rfl rfl gX9_sheet_X9_isSheet (by decide +kernel) (by decide) rfl (Nat.le_of_ble_eq_true rfl) (kX9_isSheet _ G kthis h) (mz_kZ fun r_4 u_3 br_4 h hx_2 => ?_)
  replace kthis := hx_2.2.2 _ _ (by decide) kthis
  refine mz_if_eq (tgt := 25) F dX9_sheet_10 (by decide) (fun c_18 => ?_) (fun c_18 => ?_)
  · replace h := h.1 c_18
    refine mz_iconst (v := (-1)) F dX9_sheet_25 (by decide) ?_
    exact mz_iret F dX9_sheet_26 ⟨_, rfl, h⟩
  · replace h := h.2 c_18
    refine mz_iload_n F dX9_sheet_13 rfl 2 rfl ?_
    refine mz_i2l F dX9_sheet_14 ?_
    refine mz_lconst (v := 0) F dX9_sheet_15 (by decide) ?_
    refine mz_ldc2 (v := 3) F dX9_sheet_16 mX9_sheet_ldcl119 ?_
    refine mz_callS (As := [_, _, _]) (n := 3) F dX9_sheet_19 rfl gX9_sheet_X9_isIn (by decide +kernel) (by decide) rfl (Nat.le_of_ble_eq_true rfl) (kX9_isIn _ G h) (mz_kZ fun r_7 u_6 br_7 h hx_5 => ?_)
    replace kthis := hx_5.2.2 _ _ (by decide) kthis
    refine mz_if_ne (tgt := 27) F dX9_sheet_22 (by decide) (fun c_17 => ?_) (fun c_17 => ?_)
    · replace h := h.2 c_17
      refine mz_iload_n F dX9_sheet_27 rfl 2 rfl ?_
      refine mz_iconst (v := 3) F dX9_sheet_28 (by decide) ?_
      refine mz_icmp_ge (tgt := 66) F dX9_sheet_29 (by decide) (fun c_16 => ?_) (fun c_16 => ?_)
      · replace h := h.1 c_16
        refine mz_iconst (v := 0) F dX9_sheet_66 (by decide) ?_
        refine mz_istore_n (lv2 := [(3, .int (0 : Int32)), (0, .ref (G.1 + this)), (1, .int a1), (2, .int a2)]) F dX9_sheet_67 rfl hN (by decide) rfl ?_
        refine mz_iconst (v := 0) F dX9_sheet_68 (by decide) ?_
        refine mz_istore (lv2 := [(4, .int (0 : Int32)), (3, .int (0 : Int32)), (0, .ref (G.1 + this)), (1, .int a1), (2, .int a2)]) F dX9_sheet_69 hN (by decide) rfl ?_
        refine mz_sub [2, 3, 1, 0] rfl ?_
        obtain ⟨n9, h⟩ := h
        exact tX9_sheet_71 F hN n9 kthis h
      · replace h := h.2 c_16
        refine mz_iload_n F dX9_sheet_32 rfl 2 rfl ?_
        refine mz_if_ne (tgt := 45) F dX9_sheet_33 (by decide) (fun c_15 => ?_) (fun c_15 => ?_)
        · replace h := h.2 c_15
          refine mz_iload_n F dX9_sheet_45 rfl 2 rfl ?_
          refine mz_iconst (v := 1) F dX9_sheet_46 (by decide) ?_
          refine mz_icmp_ne (tgt := 59) F dX9_sheet_47 (by decide) (fun c_12 => ?_) (fun c_12 => ?_)
          · replace h := h.2 c_12
            refine mz_aload_n F dX9_sheet_59 rfl 0 rfl ?_
            obtain ⟨q_8, eq_8, h⟩ := h
            refine mz_getR F dX9_sheet_60 fX9_sheet_47 (by decide) kthis eq_8 (fun kq_8 => ?_)
            refine mz_iload_n F dX9_sheet_63 rfl 1 rfl ?_
            obtain ⟨b_9, h⟩ := h
            refine mz_iald F dX9_sheet_64 kq_8 rfl b_9 ?_
            exact mz_iret F dX9_sheet_65 ⟨_, rfl, h⟩
          · replace h := h.1 c_12
            refine mz_aload_n F dX9_sheet_50 rfl 0 rfl ?_
            obtain ⟨q_10, eq_10, h⟩ := h
            refine mz_getR F dX9_sheet_51 fX9_sheet_44 (by decide) kthis eq_10 (fun kq_10 => ?_)
            refine mz_iload_n F dX9_sheet_54 rfl 1 rfl ?_
            obtain ⟨b_11, h⟩ := h
            refine mz_iald F dX9_sheet_55 kq_10 rfl b_11 ?_
            refine mz_goto (tgt := 65) F dX9_sheet_56 (by decide) ?_
            exact mz_iret F dX9_sheet_65 ⟨_, rfl, h⟩
        · replace h := h.1 c_15
          refine mz_aload_n F dX9_sheet_36 rfl 0 rfl ?_
          obtain ⟨q_13, eq_13, h⟩ := h
          refine mz_getR F dX9_sheet_37 fX9_sheet_35 (by decide) kthis eq_13 (fun kq_13 => ?_)
          refine mz_iload_n F dX9_sheet_40 rfl 1 rfl ?_
          obtain ⟨b_14, h⟩ := h
          refine mz_iald F dX9_sheet_41 kq_13 rfl b_14 ?_
          refine mz_goto (tgt := 65) F dX9_sheet_42 (by decide) ?_
          exact mz_iret F dX9_sheet_65 ⟨_, rfl, h⟩
    · replace h := h.1 c_17
      refine mz_iconst (v := (-1)) F dX9_sheet_25 (by decide) ?_
      exact mz_iret F dX9_sheet_26 ⟨_, rfl, h⟩
set_option maxRecDepth 100000 in
theorem kX9_sheet (l : Launch) (G : mG) {u : mSt} {K : Int32 → mSt → Prop} {this : Nat} {a1 : Int32} {a2 : Int32} (kthis : mK u this = 10) (h : bX9_sheet this a1 a2 u K) : mCt l G yX9_sheet wsX9_sheet 1 25 [.ref (G.1 + this), .int a1, .int a2] u (mPi K) := by
  refine mCt.of (cc := cX9_sheet) (maxL := 5) (ret := (some .int)) (by decide) rfl (Nat.le_of_ble_eq_true rfl) ?_
  intro X hl hN F
  exact tX9_sheet F hN kthis h
/-! RoomMapperModel.leads(III)I -/
theorem wiX9_leads_9 : ∀ w ∈ u_ws RX9 TX9 52, w ∈ wsX9_leads := by decide +kernel
theorem fX9_leads_112 : mFld wsX9_leads RX9 112 10 0 0 .int false := ⟨9, _, RX9, TX9, 52, tyX9, rfl, rfl, rfl, by decide, wiX9_leads_9, tyX9_ok, nmX9, rfl, rfl, Or.inl ⟨by decide +kernel, fun _ => rfl⟩⟩
theorem mX9_leads_ldcl226 : Cond.constantLong RX9 226 (4) ∈ wsX9_leads := by decide +kernel
theorem fX9_leads_41 : mFld wsX9_leads RX9 41 10 23 25 (.array .int) true := ⟨9, _, RX9, TX9, 52, tyX9, rfl, rfl, rfl, by decide, wiX9_leads_9, tyX9_ok, nmX9, rfl, rfl, Or.inl ⟨by decide +kernel, fun _ => rfl⟩⟩
def bX9_leads (this : Nat) (a1 : Int32) (a2 : Int32) (a3 : Int32) (u : mSt) (K : Int32 → mSt → Prop) : Prop := (∀ u_1, u_1 = mpI u this 0 (0 : Int32) → bX9_isPlace this a1 a2 u_1 (fun r_4 u_3 => ((r_4 = 0 → K (-1 : Int32) u_3) ∧ (¬ (r_4 = 0) → bX9_isIn a3.toInt64 (0 : Int64) (4 : Int64) u_3 (fun r_7 u_6 => ((r_7 = 0 → K (-1 : Int32) u_6) ∧ (¬ (r_7 = 0) → (∃ q_8, mR u_6 this 23 = some q_8 ∧ (vp_in ((((30 : Int32) * a1) + ((5 : Int32) * a2)) + a3) 4500 ∧ K (mI u_6 q_8 ((((30 : Int32) * a1) + ((5 : Int32) * a2)) + a3).toNatClampNeg) u_6)))))))))
set_option maxRecDepth 100000 in
set_option maxHeartbeats 4000000 in
theorem tX9_leads {X : mCx} {G : mG} {u0 : mSt} {K : Int32 → mSt → Prop} (F : mFx X G cX9_leads wsX9_leads RX9 "leads" 2 43 (some .int) u0 (mPi K)) (hN : X.2.2.2.2.2.2.2.2.2.2.2.2.1 = 4) {this : Nat} {a1 : Int32} {a2 : Int32} {a3 : Int32} {u : mSt} (kthis : mK u this = 10) (h : bX9_leads this a1 a2 a3 u K) : mZ X u 0 [(0, .ref (G.1 + this)), (1, .int a1), (2, .int a2), (3, .int a3)] [] := by
  refine mz_aload_n F dX9_leads_0 rfl 0 rfl ?_
  refine mz_iconst (v := 0) F dX9_leads_1 (by decide) ?_
  refine mz_putI F dX9_leads_2 fX9_leads_112 kthis rfl rfl (fun u_1 eu_1 hxu_1 => ?_)
  replace h := h u_1 eu_1
  replace kthis := hxu_1.2.2 _ _ (by decide) kthis
  refine mz_aload_n F dX9_leads_5 rfl 0 rfl ?_
  refine mz_iload_n F dX9_leads_6 rfl 1 rfl ?_
  refine mz_iload_n F dX9_leads_7 rfl 2 rfl ?_
  refine mz_callV (As := [_, _]) (n := 2) F dX9_leads_8 rfl kthis rfl rfl gX9_leads_X9_isPlace (by decide +kernel) (by decide) rfl (Nat.le_of_ble_eq_true rfl) (kX9_isPlace _ G kthis h) (mz_kZ fun r_4 u_3 br_4 h hx_2 => ?_)
  replace kthis := hx_2.2.2 _ _ (by decide) kthis
  refine mz_if_eq (tgt := 26) F dX9_leads_11 (by decide) (fun c_11 => ?_) (fun c_11 => ?_)
  · replace h := h.1 c_11
    refine mz_iconst (v := (-1)) F dX9_leads_26 (by decide) ?_
    refine mz_goto (tgt := 45) F dX9_leads_27 (by decide) ?_
    exact mz_iret F dX9_leads_45 ⟨_, rfl, h⟩
  · replace h := h.2 c_11
    refine mz_iload_n F dX9_leads_14 rfl 3 rfl ?_
    refine mz_i2l F dX9_leads_15 ?_
    refine mz_lconst (v := 0) F dX9_leads_16 (by decide) ?_
    refine mz_ldc2 (v := 4) F dX9_leads_17 mX9_leads_ldcl226 ?_
    refine mz_callS (As := [_, _, _]) (n := 3) F dX9_leads_20 rfl gX9_leads_X9_isIn (by decide +kernel) (by decide) rfl (Nat.le_of_ble_eq_true rfl) (kX9_isIn _ G h) (mz_kZ fun r_7 u_6 br_7 h hx_5 => ?_)
    replace kthis := hx_5.2.2 _ _ (by decide) kthis
    refine mz_if_ne (tgt := 30) F dX9_leads_23 (by decide) (fun c_10 => ?_) (fun c_10 => ?_)
    · replace h := h.2 c_10
      refine mz_aload_n F dX9_leads_30 rfl 0 rfl ?_
      obtain ⟨q_8, eq_8, h⟩ := h
      refine mz_getR F dX9_leads_31 fX9_leads_41 (by decide) kthis eq_8 (fun kq_8 => ?_)
      refine mz_bipush (v := 30) F dX9_leads_34 (by decide) ?_
      refine mz_iload_n F dX9_leads_36 rfl 1 rfl ?_
      refine mz_imul F dX9_leads_37 ?_
      refine mz_iconst (v := 5) F dX9_leads_38 (by decide) ?_
      refine mz_iload_n F dX9_leads_39 rfl 2 rfl ?_
      refine mz_imul F dX9_leads_40 ?_
      refine mz_iadd F dX9_leads_41 ?_
      refine mz_iload_n F dX9_leads_42 rfl 3 rfl ?_
      refine mz_iadd F dX9_leads_43 ?_
      obtain ⟨b_9, h⟩ := h
      refine mz_iald F dX9_leads_44 kq_8 rfl b_9 ?_
      exact mz_iret F dX9_leads_45 ⟨_, rfl, h⟩
    · replace h := h.1 c_10
      refine mz_iconst (v := (-1)) F dX9_leads_26 (by decide) ?_
      refine mz_goto (tgt := 45) F dX9_leads_27 (by decide) ?_
      exact mz_iret F dX9_leads_45 ⟨_, rfl, h⟩
set_option maxRecDepth 100000 in
theorem kX9_leads (l : Launch) (G : mG) {u : mSt} {K : Int32 → mSt → Prop} {this : Nat} {a1 : Int32} {a2 : Int32} {a3 : Int32} (kthis : mK u this = 10) (h : bX9_leads this a1 a2 a3 u K) : mCt l G yX9_leads wsX9_leads 2 43 [.ref (G.1 + this), .int a1, .int a2, .int a3] u (mPi K) := by
  refine mCt.of (cc := cX9_leads) (maxL := 4) (ret := (some .int)) (by decide) rfl (Nat.le_of_ble_eq_true rfl) ?_
  intro X hl hN F
  exact tX9_leads F hN kthis h
/-! RoomMapperModel.sign(II)I -/
theorem wiX9_sign_9 : ∀ w ∈ u_ws RX9 TX9 52, w ∈ wsX9_sign := by decide +kernel
theorem fX9_sign_112 : mFld wsX9_sign RX9 112 10 0 0 .int false := ⟨9, _, RX9, TX9, 52, tyX9, rfl, rfl, rfl, by decide, wiX9_sign_9, tyX9_ok, nmX9, rfl, rfl, Or.inl ⟨by decide +kernel, fun _ => rfl⟩⟩
theorem fX9_sign_38 : mFld wsX9_sign RX9 38 10 22 24 (.array .int) true := ⟨9, _, RX9, TX9, 52, tyX9, rfl, rfl, rfl, by decide, wiX9_sign_9, tyX9_ok, nmX9, rfl, rfl, Or.inl ⟨by decide +kernel, fun _ => rfl⟩⟩
def bX9_sign (this : Nat) (a1 : Int32) (a2 : Int32) (u : mSt) (K : Int32 → mSt → Prop) : Prop := (∀ u_1, u_1 = mpI u this 0 (0 : Int32) → bX9_isPlace this a1 a2 u_1 (fun r_4 u_3 => ((r_4 = 0 → K (-1 : Int32) u_3) ∧ (¬ (r_4 = 0) → (∃ q_5, mR u_3 this 22 = some q_5 ∧ (vp_in (((6 : Int32) * a1) + a2) 900 ∧ K (mI u_3 q_5 (((6 : Int32) * a1) + a2).toNatClampNeg) u_3))))))
set_option maxRecDepth 100000 in
set_option maxHeartbeats 4000000 in
theorem tX9_sign {X : mCx} {G : mG} {u0 : mSt} {K : Int32 → mSt → Prop} (F : mFx X G cX9_sign wsX9_sign RX9 "sign" 2 43 (some .int) u0 (mPi K)) (hN : X.2.2.2.2.2.2.2.2.2.2.2.2.1 = 3) {this : Nat} {a1 : Int32} {a2 : Int32} {u : mSt} (kthis : mK u this = 10) (h : bX9_sign this a1 a2 u K) : mZ X u 0 [(0, .ref (G.1 + this)), (1, .int a1), (2, .int a2)] [] := by
  refine mz_aload_n F dX9_sign_0 rfl 0 rfl ?_
  refine mz_iconst (v := 0) F dX9_sign_1 (by decide) ?_
  refine mz_putI F dX9_sign_2 fX9_sign_112 kthis rfl rfl (fun u_1 eu_1 hxu_1 => ?_)
  replace h := h u_1 eu_1
  replace kthis := hxu_1.2.2 _ _ (by decide) kthis
  refine mz_aload_n F dX9_sign_5 rfl 0 rfl ?_
  refine mz_iload_n F dX9_sign_6 rfl 1 rfl ?_
  refine mz_iload_n F dX9_sign_7 rfl 2 rfl ?_
  refine mz_callV (As := [_, _]) (n := 2) F dX9_sign_8 rfl kthis rfl rfl gX9_sign_X9_isPlace (by decide +kernel) (by decide) rfl (Nat.le_of_ble_eq_true rfl) (kX9_isPlace _ G kthis h) (mz_kZ fun r_4 u_3 br_4 h hx_2 => ?_)
  replace kthis := hx_2.2.2 _ _ (by decide) kthis
  refine mz_if_eq (tgt := 28) F dX9_sign_11 (by decide) (fun c_7 => ?_) (fun c_7 => ?_)
  · replace h := h.1 c_7
    refine mz_iconst (v := (-1)) F dX9_sign_28 (by decide) ?_
    exact mz_iret F dX9_sign_29 ⟨_, rfl, h⟩
  · replace h := h.2 c_7
    refine mz_aload_n F dX9_sign_14 rfl 0 rfl ?_
    obtain ⟨q_5, eq_5, h⟩ := h
    refine mz_getR F dX9_sign_15 fX9_sign_38 (by decide) kthis eq_5 (fun kq_5 => ?_)
    refine mz_bipush (v := 6) F dX9_sign_18 (by decide) ?_
    refine mz_iload_n F dX9_sign_20 rfl 1 rfl ?_
    refine mz_imul F dX9_sign_21 ?_
    refine mz_iload_n F dX9_sign_22 rfl 2 rfl ?_
    refine mz_iadd F dX9_sign_23 ?_
    obtain ⟨b_6, h⟩ := h
    refine mz_iald F dX9_sign_24 kq_5 rfl b_6 ?_
    refine mz_goto (tgt := 29) F dX9_sign_25 (by decide) ?_
    exact mz_iret F dX9_sign_29 ⟨_, rfl, h⟩
set_option maxRecDepth 100000 in
theorem kX9_sign (l : Launch) (G : mG) {u : mSt} {K : Int32 → mSt → Prop} {this : Nat} {a1 : Int32} {a2 : Int32} (kthis : mK u this = 10) (h : bX9_sign this a1 a2 u K) : mCt l G yX9_sign wsX9_sign 2 43 [.ref (G.1 + this), .int a1, .int a2] u (mPi K) := by
  refine mCt.of (cc := cX9_sign) (maxL := 3) (ret := (some .int)) (by decide) rfl (Nat.le_of_ble_eq_true rfl) ?_
  intro X hl hN F
  exact tX9_sign F hN kthis h
