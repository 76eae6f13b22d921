theorem mL_law_cl8 : Cond.classLink RL 8 RX8 ∈ wsL_law := by decide +kernel
theorem mL_law_in8 : Cond.instantiable RX8 9 ∈ wsL_law := by decide +kernel
theorem mL_law_it8 : Cond.initialized RX8 ∈ wsL_law := by decide +kernel
theorem mL_law_iniX8_init : Cond.initialized yX8_init.cls ∈ wsL_law := by decide +kernel
theorem mL_law_ml17 : Cond.methodLink RL 17 yX8_init ∈ wsL_law := by decide +kernel
theorem mL_law_imX8_init : Cond.instanceMethod yX8_init ∈ wsL_law := by decide +kernel
theorem mL_law_cl18 : Cond.classLink RL 18 RX9 ∈ wsL_law := by decide +kernel
theorem mL_law_in9 : Cond.instantiable RX9 52 ∈ wsL_law := by decide +kernel
theorem mL_law_it9 : Cond.initialized RX9 ∈ wsL_law := by decide +kernel
theorem mL_law_iniX9_init : Cond.initialized yX9_init.cls ∈ wsL_law := by decide +kernel
theorem mL_law_ml20 : Cond.methodLink RL 20 yX9_init ∈ wsL_law := by decide +kernel
theorem mL_law_imX9_init : Cond.instanceMethod yX9_init ∈ wsL_law := by decide +kernel
theorem mL_law_acJ : Cond.arrayClass .long ∈ wsL_law := by decide +kernel
theorem wiL_law_9 : ∀ w ∈ u_ws RX9 TX9 52, w ∈ wsL_law := by decide +kernel
theorem wiL_law_8 : ∀ w ∈ u_ws RX8 TX8 9, w ∈ wsL_law := by decide +kernel
def bL_law_1113 (L : Nat) (xs : Nat → Int32) (v1 : Nat) (v2 : Nat) (v3 : Nat) (v4 : Int32) (u : mSt) (K : Int32 → mSt → Prop) (KL23 : Nat → Nat → Nat → Int32 → mSt → Prop) : Prop := (∀ x_1, x_1 = v4 + (6 : Int32) → KL23 v1 v2 v3 x_1 u)
set_option maxRecDepth 100000 in
set_option maxHeartbeats 4000000 in
theorem tL_law_1113 {X : mCx} {G : mG} {u0 : mSt} {K : Int32 → mSt → Prop} {KL23 : Nat → Nat → Nat → Int32 → mSt → Prop} (F : mFx X G cL_law wsL_law RL "law" 2048 84000 (some .boolean) u0 (mPz K)) (hN : X.2.2.2.2.2.2.2.2.2.2.2.2.1 = 8) {b L : Nat} {xs : Nat → Int32} (hX : mScr X b L xs) (hLT : X.2.1.stackTraces = false) (hL23 : ∀ {v1 : Nat} {v2 : Nat} {v3 : Nat} {v4 : Int32} {u : mSt}, mK u v1 = 9 → mK u v2 = 10 → mK u v3 = 30 → KL23 v1 v2 v3 v4 u → mZ X u 23 [(0, .ref b), (1, .ref (G.1 + v1)), (2, .ref (G.1 + v2)), (3, .ref (G.1 + v3)), (4, .int v4)] []) {v1 : Nat} {v2 : Nat} {v3 : Nat} {v4 : Int32} {u : mSt} (kv1 : mK u v1 = 9) (kv2 : mK u v2 = 10) (kv3 : mK u v3 = 30) (h : bL_law_1113 L xs v1 v2 v3 v4 u K KL23) : mZ X u 1113 [(0, .ref b), (1, .ref (G.1 + v1)), (2, .ref (G.1 + v2)), (3, .ref (G.1 + v3)), (4, .int v4)] [] := by
  obtain ⟨x_1, ex_1⟩ : ∃ y : Int32, y = v4 + (6 : Int32) := ⟨_, rfl⟩
  replace h := h x_1 ex_1
  refine mz_iinc (v := x_1) (lv2 := [(4, .int x_1), (0, .ref b), (1, .ref (G.1 + v1)), (2, .ref (G.1 + v2)), (3, .ref (G.1 + v3))]) F dL_law_1113 4 rfl (by rw [ex_1]; rfl) hN (by decide) rfl ?_
  refine mz_goto (tgt := 23) F dL_law_1116 (by decide) ?_
  refine mz_sub [1, 2, 3, 4, 0] rfl ?_
  exact hL23 kv1 kv2 kv3 h
def bL_law_209 (L : Nat) (xs : Nat → Int32) (v1 : Nat) (v2 : Nat) (v3 : Nat) (v4 : Int32) (w0 : Int32) (w1 : Nat) (w2 : Int32) (w3 : Int32) (u : mSt) (K : Int32 → mSt → Prop) (KL23 : Nat → Nat → Nat → Int32 → mSt → Prop) : Prop := bX9_cell w1 w2 w3 u (fun r_3 u_2 => ((w0 = r_3 → bL_law_1113 L xs v1 v2 v3 v4 u_2 K KL23) ∧ (¬ (w0 = r_3) → K (0 : Int32) u_2)))
set_option maxRecDepth 100000 in
set_option maxHeartbeats 4000000 in
theorem tL_law_209 {X : mCx} {G : mG} {u0 : mSt} {K : Int32 → mSt → Prop} {KL23 : Nat → Nat → Nat → Int32 → mSt → Prop} (F : mFx X G cL_law wsL_law RL "law" 2048 84000 (some .boolean) u0 (mPz K)) (hN : X.2.2.2.2.2.2.2.2.2.2.2.2.1 = 8) {b L : Nat} {xs : Nat → Int32} (hX : mScr X b L xs) (hLT : X.2.1.stackTraces = false) (hL23 : ∀ {v1 : Nat} {v2 : Nat} {v3 : Nat} {v4 : Int32} {u : mSt}, mK u v1 = 9 → mK u v2 = 10 → mK u v3 = 30 → KL23 v1 v2 v3 v4 u → mZ X u 23 [(0, .ref b), (1, .ref (G.1 + v1)), (2, .ref (G.1 + v2)), (3, .ref (G.1 + v3)), (4, .int v4)] []) {v1 : Nat} {v2 : Nat} {v3 : Nat} {v4 : Int32} {w0 : Int32} {w1 : Nat} {w2 : Int32} {w3 : Int32} {u : mSt} (kv1 : mK u v1 = 9) (kv2 : mK u v2 = 10) (kv3 : mK u v3 = 30) (kw1 : mK u w1 = 10) (h : bL_law_209 L xs v1 v2 v3 v4 w0 w1 w2 w3 u K KL23) : mZ X u 209 [(0, .ref b), (1, .ref (G.1 + v1)), (2, .ref (G.1 + v2)), (3, .ref (G.1 + v3)), (4, .int v4)] [.int w3, .int w2, .ref (G.1 + w1), .int w0] := by
  refine mz_callV (As := [_, _]) (n := 2) F dL_law_209 rfl kw1 rfl rfl gL_law_X9_cell (by decide +kernel) (by decide) rfl (Nat.le_of_ble_eq_true rfl) (kX9_cell _ G kw1 h) (mz_kI fun r_3 u_2 h hx_1 => ?_)
  replace kv1 := hx_1.2.2 _ _ (by decide) kv1
  replace kv2 := hx_1.2.2 _ _ (by decide) kv2
  replace kv3 := hx_1.2.2 _ _ (by decide) kv3
  refine mz_icmp_eq (tgt := 1113) F dL_law_212 (by decide) (fun c_4 => ?_) (fun c_4 => ?_)
  · replace h := h.1 c_4
    refine mz_sub [0, 1, 2, 3, 4] rfl ?_
    exact tL_law_1113 F hN hX hLT hL23 kv1 kv2 kv3 h
  · replace h := h.2 c_4
    refine mz_iconst (v := 0) F dL_law_215 (by decide) ?_
    exact mz_zret F dL_law_216 rfl ⟨_, rfl, by decide, h⟩
def bL_law_185 (L : Nat) (xs : Nat → Int32) (v1 : Nat) (v2 : Nat) (v3 : Nat) (v4 : Int32) (w0 : Nat) (w1 : Int32) (w2 : Int32) (u : mSt) (K : Int32 → mSt → Prop) (KL23 : Nat → Nat → Nat → Int32 → mSt → Prop) : Prop := bX8_cell w0 w1 w2 u (fun r_3 u_2 => (vp_in (v4 + (1 : Int32)) L ∧ (vp_in (v4 + (2 : Int32)) L ∧ (((xs (v4 + (2 : Int32)).toNatClampNeg) = 0 → bL_law_209 L xs v1 v2 v3 v4 r_3 v2 (xs (v4 + (1 : Int32)).toNatClampNeg) (0 : Int32) u_2 K KL23) ∧ (¬ ((xs (v4 + (2 : Int32)).toNatClampNeg) = 0) → bL_law_209 L xs v1 v2 v3 v4 r_3 v2 (xs (v4 + (1 : Int32)).toNatClampNeg) (1 : Int32) u_2 K KL23)))))
set_option maxRecDepth 100000 in
set_option maxHeartbeats 4000000 in
theorem tL_law_185 {X : mCx} {G : mG} {u0 : mSt} {K : Int32 → mSt → Prop} {KL23 : Nat → Nat → Nat → Int32 → mSt → Prop} (F : mFx X G cL_law wsL_law RL "law" 2048 84000 (some .boolean) u0 (mPz K)) (hN : X.2.2.2.2.2.2.2.2.2.2.2.2.1 = 8) {b L : Nat} {xs : Nat → Int32} (hX : mScr X b L xs) (hLT : X.2.1.stackTraces = false) (hL23 : ∀ {v1 : Nat} {v2 : Nat} {v3 : Nat} {v4 : Int32} {u : mSt}, mK u v1 = 9 → mK u v2 = 10 → mK u v3 = 30 → KL23 v1 v2 v3 v4 u → mZ X u 23 [(0, .ref b), (1, .ref (G.1 + v1)), (2, .ref (G.1 + v2)), (3, .ref (G.1 + v3)), (4, .int v4)] []) {v1 : Nat} {v2 : Nat} {v3 : Nat} {v4 : Int32} {w0 : Nat} {w1 : Int32} {w2 : Int32} {u : mSt} (kv1 : mK u v1 = 9) (kv2 : mK u v2 = 10) (kv3 : mK u v3 = 30) (kw0 : mK u w0 = 9) (h : bL_law_185 L xs v1 v2 v3 v4 w0 w1 w2 u K KL23) : mZ X u 185 [(0, .ref b), (1, .ref (G.1 + v1)), (2, .ref (G.1 + v2)), (3, .ref (G.1 + v3)), (4, .int v4)] [.int w2, .int w1, .ref (G.1 + w0)] := by
  refine mz_callV (As := [_, _]) (n := 2) F dL_law_185 rfl kw0 rfl rfl gL_law_X8_cell (by decide +kernel) (by decide) rfl (Nat.le_of_ble_eq_true rfl) (kX8_cell _ G kw0 h) (mz_kI fun r_3 u_2 h hx_1 => ?_)
  replace kv1 := hx_1.2.2 _ _ (by decide) kv1
  replace kv2 := hx_1.2.2 _ _ (by decide) kv2
  replace kv3 := hx_1.2.2 _ _ (by decide) kv3
  refine mz_aload_n F dL_law_188 rfl 2 rfl ?_
  refine mz_aload_n F dL_law_189 rfl 0 rfl ?_
  refine mz_iload F dL_law_190 4 rfl ?_
  refine mz_iconst (v := 1) F dL_law_192 (by decide) ?_
  refine mz_iadd F dL_law_193 ?_
  obtain ⟨b_4, h⟩ := h
  refine mz_sld F hX dL_law_194 b_4 ?_
  refine mz_aload_n F dL_law_195 rfl 0 rfl ?_
  refine mz_iload F dL_law_196 4 rfl ?_
  refine mz_iconst (v := 2) F dL_law_198 (by decide) ?_
  refine mz_iadd F dL_law_199 ?_
  obtain ⟨b_5, h⟩ := h
  refine mz_sld F hX dL_law_200 b_5 ?_
  refine mz_if_eq (tgt := 208) F dL_law_201 (by decide) (fun c_6 => ?_) (fun c_6 => ?_)
  · replace h := h.1 c_6
    refine mz_iconst (v := 0) F dL_law_208 (by decide) ?_
    refine mz_sub [0, 1, 2, 3, 4] rfl ?_
    exact tL_law_209 F hN hX hLT hL23 kv1 kv2 kv3 kv2 h
  · replace h := h.2 c_6
    refine mz_iconst (v := 1) F dL_law_204 (by decide) ?_
    refine mz_goto (tgt := 209) F dL_law_205 (by decide) ?_
    refine mz_sub [0, 1, 2, 3, 4] rfl ?_
    exact tL_law_209 F hN hX hLT hL23 kv1 kv2 kv3 kv2 h
def bL_law_987 (L : Nat) (xs : Nat → Int32) (v1 : Nat) (v2 : Nat) (v3 : Nat) (v4 : Int32) (u : mSt) (K : Int32 → mSt → Prop) (KL23 : Nat → Nat → Nat → Int32 → mSt → Prop) : Prop := bL_law_1113 L xs v1 v2 v3 v4 u K KL23
set_option maxRecDepth 100000 in
set_option maxHeartbeats 4000000 in
theorem tL_law_987 {X : mCx} {G : mG} {u0 : mSt} {K : Int32 → mSt → Prop} {KL23 : Nat → Nat → Nat → Int32 → mSt → Prop} (F : mFx X G cL_law wsL_law RL "law" 2048 84000 (some .boolean) u0 (mPz K)) (hN : X.2.2.2.2.2.2.2.2.2.2.2.2.1 = 8) {b L : Nat} {xs : Nat → Int32} (hX : mScr X b L xs) (hLT : X.2.1.stackTraces = false) (hL23 : ∀ {v1 : Nat} {v2 : Nat} {v3 : Nat} {v4 : Int32} {u : mSt}, mK u v1 = 9 → mK u v2 = 10 → mK u v3 = 30 → KL23 v1 v2 v3 v4 u → mZ X u 23 [(0, .ref b), (1, .ref (G.1 + v1)), (2, .ref (G.1 + v2)), (3, .ref (G.1 + v3)), (4, .int v4)] []) {v1 : Nat} {v2 : Nat} {v3 : Nat} {v4 : Int32} {u : mSt} (kv1 : mK u v1 = 9) (kv2 : mK u v2 = 10) (kv3 : mK u v3 = 30) (h : bL_law_987 L xs v1 v2 v3 v4 u K KL23) : mZ X u 987 [(0, .ref b), (1, .ref (G.1 + v1)), (2, .ref (G.1 + v2)), (3, .ref (G.1 + v3)), (4, .int v4)] [] := by
  refine mz_goto (tgt := 1113) F dL_law_987 (by decide) ?_
  refine mz_sub [0, 1, 2, 3, 4] rfl ?_
  exact tL_law_1113 F hN hX hLT hL23 kv1 kv2 kv3 h
def bL_law_23 (L : Nat) (xs : Nat → Int32) : Nat → Nat → Nat → Nat → Int32 → mSt → (Int32 → mSt → Prop) → Prop
  | 0, _, _, _, _, _, _ => False
  | n + 1, v1, v2, v3, v4, u, K => ((((nI L) - (6 : Int32)) < v4 → K (1 : Int32) u) ∧ (¬ (((nI L) - (6 : Int32)) < v4) → (vp_in v4 L ∧ (∀ x_308, x_308 = ((xs v4.toNatClampNeg) &&& (31 : Int32)) → ((x_308 = (0 : Int32) → (vp_in (v4 + (1 : Int32)) L ∧ (vp_in (v4 + (2 : Int32)) L ∧ (((xs (v4 + (2 : Int32)).toNatClampNeg) = 0 → bL_law_185 L xs v1 v2 v3 v4 v1 (xs (v4 + (1 : Int32)).toNatClampNeg) (0 : Int32) u K (fun z0 z1 z2 z3 z4 => bL_law_23 L xs n z0 z1 z2 z3 z4 K)) ∧ (¬ ((xs (v4 + (2 : Int32)).toNatClampNeg) = 0) → bL_law_185 L xs v1 v2 v3 v4 v1 (xs (v4 + (1 : Int32)).toNatClampNeg) (1 : Int32) u K (fun z0 z1 z2 z3 z4 => bL_law_23 L xs n z0 z1 z2 z3 z4 K)))))) ∧ (¬ x_308 = (0 : Int32) → ((x_308 = (1 : Int32) → (vp_in (v4 + (1 : Int32)) L ∧ (vp_in (v4 + (2 : Int32)) L ∧ (vp_in (v4 + (3 : Int32)) L ∧ (vp_in (v4 + (4 : Int32)) L ∧ bX8_lead v1 (xs (v4 + (1 : Int32)).toNatClampNeg) (xs (v4 + (2 : Int32)).toNatClampNeg) (xs (v4 + (3 : Int32)).toNatClampNeg) (xs (v4 + (4 : Int32)).toNatClampNeg) u (fun r_296 u_295 => (vp_in (v4 + (1 : Int32)) L ∧ (vp_in (v4 + (2 : Int32)) L ∧ (vp_in (v4 + (3 : Int32)) L ∧ (vp_in (v4 + (4 : Int32)) L ∧ bX9_lead v2 (xs (v4 + (1 : Int32)).toNatClampNeg) (xs (v4 + (2 : Int32)).toNatClampNeg) (xs (v4 + (3 : Int32)).toNatClampNeg) (xs (v4 + (4 : Int32)).toNatClampNeg) u_295 (fun r_303 u_302 => ((r_296 = r_303 → bL_law_1113 L xs v1 v2 v3 v4 u_302 K (fun z0 z1 z2 z3 z4 => bL_law_23 L xs n z0 z1 z2 z3 z4 K)) ∧ (¬ (r_296 = r_303) → K (0 : Int32) u_302))))))))))))) ∧ (¬ x_308 = (1 : Int32) → ((x_308 = (2 : Int32) → (vp_in (v4 + (1 : Int32)) L ∧ bX8_start v1 (xs (v4 + (1 : Int32)).toNatClampNeg) u (fun r_284 u_283 => (vp_in (v4 + (1 : Int32)) L ∧ bX9_start v2 (xs (v4 + (1 : Int32)).toNatClampNeg) u_283 (fun r_288 u_287 => ((r_284 = r_288 → bL_law_1113 L xs v1 v2 v3 v4 u_287 K (fun z0 z1 z2 z3 z4 => bL_law_23 L xs n z0 z1 z2 z3 z4 K)) ∧ (¬ (r_284 = r_288) → K (0 : Int32) u_287))))))) ∧ (¬ x_308 = (2 : Int32) → ((x_308 = (3 : Int32) → (vp_in (v4 + (1 : Int32)) L ∧ bX8_act v1 (xs (v4 + (1 : Int32)).toNatClampNeg) u (fun r_275 u_274 => (vp_in (v4 + (1 : Int32)) L ∧ bX9_act v2 (xs (v4 + (1 : Int32)).toNatClampNeg) u_274 (fun r_279 u_278 => ((r_275 = r_279 → bL_law_1113 L xs v1 v2 v3 v4 u_278 K (fun z0 z1 z2 z3 z4 => bL_law_23 L xs n z0 z1 z2 z3 z4 K)) ∧ (¬ (r_275 = r_279) → K (0 : Int32) u_278))))))) ∧ (¬ x_308 = (3 : Int32) → ((x_308 = (4 : Int32) → (vp_in (v4 + (1 : Int32)) L ∧ bX8_seen v1 (xs (v4 + (1 : Int32)).toNatClampNeg) u (fun r_266 u_265 => (vp_in (v4 + (1 : Int32)) L ∧ bX9_seen v2 (xs (v4 + (1 : Int32)).toNatClampNeg) u_265 (fun r_270 u_269 => ((r_266 = r_270 → bL_law_1113 L xs v1 v2 v3 v4 u_269 K (fun z0 z1 z2 z3 z4 => bL_law_23 L xs n z0 z1 z2 z3 z4 K)) ∧ (¬ (r_266 = r_270) → K (0 : Int32) u_269))))))) ∧ (¬ x_308 = (4 : Int32) → ((x_308 = (5 : Int32) → (vp_in (v4 + (1 : Int32)) L ∧ (vp_in (v4 + (2 : Int32)) L ∧ bX8_walk v1 (xs (v4 + (1 : Int32)).toNatClampNeg) (xs (v4 + (2 : Int32)).toNatClampNeg) u (fun r_256 u_255 => (vp_in (v4 + (1 : Int32)) L ∧ (vp_in (v4 + (2 : Int32)) L ∧ bX9_walk v2 (xs (v4 + (1 : Int32)).toNatClampNeg) (xs (v4 + (2 : Int32)).toNatClampNeg) u_255 (fun r_261 u_260 => ((r_256 = r_261 → bL_law_1113 L xs v1 v2 v3 v4 u_260 K (fun z0 z1 z2 z3 z4 => bL_law_23 L xs n z0 z1 z2 z3 z4 K)) ∧ (¬ (r_256 = r_261) → K (0 : Int32) u_260))))))))) ∧ (¬ x_308 = (5 : Int32) → ((x_308 = (6 : Int32) → bX8_sheets v1 u (fun r_247 u_246 => bX9_sheets v2 u_246 (fun r_250 u_249 => ((r_247 = r_250 → bL_law_1113 L xs v1 v2 v3 v4 u_249 K (fun z0 z1 z2 z3 z4 => bL_law_23 L xs n z0 z1 z2 z3 z4 K)) ∧ (¬ (r_247 = r_250) → K (0 : Int32) u_249))))) ∧ (¬ x_308 = (6 : Int32) → ((x_308 = (7 : Int32) → (vp_in (v4 + (1 : Int32)) L ∧ (vp_in (v4 + (2 : Int32)) L ∧ bX8_sheet v1 (xs (v4 + (1 : Int32)).toNatClampNeg) (xs (v4 + (2 : Int32)).toNatClampNeg) u (fun r_238 u_237 => (vp_in (v4 + (1 : Int32)) L ∧ (vp_in (v4 + (2 : Int32)) L ∧ bX9_sheet v2 (xs (v4 + (1 : Int32)).toNatClampNeg) (xs (v4 + (2 : Int32)).toNatClampNeg) u_237 (fun r_243 u_242 => ((r_238 = r_243 → bL_law_1113 L xs v1 v2 v3 v4 u_242 K (fun z0 z1 z2 z3 z4 => bL_law_23 L xs n z0 z1 z2 z3 z4 K)) ∧ (¬ (r_238 = r_243) → K (0 : Int32) u_242))))))))) ∧ (¬ x_308 = (7 : Int32) → ((x_308 = (8 : Int32) → (vp_in (v4 + (1 : Int32)) L ∧ (vp_in (v4 + (2 : Int32)) L ∧ (vp_in (v4 + (3 : Int32)) L ∧ bX8_leads v1 (xs (v4 + (1 : Int32)).toNatClampNeg) (xs (v4 + (2 : Int32)).toNatClampNeg) (xs (v4 + (3 : Int32)).toNatClampNeg) u (fun r_226 u_225 => (vp_in (v4 + (1 : Int32)) L ∧ (vp_in (v4 + (2 : Int32)) L ∧ (vp_in (v4 + (3 : Int32)) L ∧ bX9_leads v2 (xs (v4 + (1 : Int32)).toNatClampNeg) (xs (v4 + (2 : Int32)).toNatClampNeg) (xs (v4 + (3 : Int32)).toNatClampNeg) u_225 (fun r_232 u_231 => ((r_226 = r_232 → bL_law_1113 L xs v1 v2 v3 v4 u_231 K (fun z0 z1 z2 z3 z4 => bL_law_23 L xs n z0 z1 z2 z3 z4 K)) ∧ (¬ (r_226 = r_232) → K (0 : Int32) u_231))))))))))) ∧ (¬ x_308 = (8 : Int32) → ((x_308 = (9 : Int32) → (vp_in (v4 + (1 : Int32)) L ∧ (vp_in (v4 + (2 : Int32)) L ∧ bX8_sign v1 (xs (v4 + (1 : Int32)).toNatClampNeg) (xs (v4 + (2 : Int32)).toNatClampNeg) u (fun r_214 u_213 => (vp_in (v4 + (1 : Int32)) L ∧ (vp_in (v4 + (2 : Int32)) L ∧ bX9_sign v2 (xs (v4 + (1 : Int32)).toNatClampNeg) (xs (v4 + (2 : Int32)).toNatClampNeg) u_213 (fun r_219 u_218 => ((r_214 = r_219 → bL_law_1113 L xs v1 v2 v3 v4 u_218 K (fun z0 z1 z2 z3 z4 => bL_law_23 L xs n z0 z1 z2 z3 z4 K)) ∧ (¬ (r_214 = r_219) → K (0 : Int32) u_218))))))))) ∧ (¬ x_308 = (9 : Int32) → ((x_308 = (10 : Int32) → bX8_known v1 u (fun r_205 u_204 => bX9_known v2 u_204 (fun r_208 u_207 => ((r_205 = r_208 → bL_law_1113 L xs v1 v2 v3 v4 u_207 K (fun z0 z1 z2 z3 z4 => bL_law_23 L xs n z0 z1 z2 z3 z4 K)) ∧ (¬ (r_205 = r_208) → K (0 : Int32) u_207))))) ∧ (¬ x_308 = (10 : Int32) → ((x_308 = (11 : Int32) → (vp_in (v4 + (1 : Int32)) L ∧ (vp_in (v4 + (2 : Int32)) L ∧ bX8_one v1 (xs (v4 + (1 : Int32)).toNatClampNeg) (xs (v4 + (2 : Int32)).toNatClampNeg) u (fun r_196 u_195 => (vp_in (v4 + (1 : Int32)) L ∧ (vp_in (v4 + (2 : Int32)) L ∧ bX9_one v2 (xs (v4 + (1 : Int32)).toNatClampNeg) (xs (v4 + (2 : Int32)).toNatClampNeg) u_195 (fun r_201 u_200 => ((r_196 = r_201 → bL_law_1113 L xs v1 v2 v3 v4 u_200 K (fun z0 z1 z2 z3 z4 => bL_law_23 L xs n z0 z1 z2 z3 z4 K)) ∧ (¬ (r_196 = r_201) → K (0 : Int32) u_200))))))))) ∧ (¬ x_308 = (11 : Int32) → ((x_308 = (12 : Int32) → (vp_in (v4 + (1 : Int32)) L ∧ (vp_in (v4 + (2 : Int32)) L ∧ bX8_part v1 (xs (v4 + (1 : Int32)).toNatClampNeg) (xs (v4 + (2 : Int32)).toNatClampNeg) u (fun r_185 u_184 => (vp_in (v4 + (1 : Int32)) L ∧ (vp_in (v4 + (2 : Int32)) L ∧ bX9_part v2 (xs (v4 + (1 : Int32)).toNatClampNeg) (xs (v4 + (2 : Int32)).toNatClampNeg) u_184 (fun r_190 u_189 => ((r_185 = r_190 → bL_law_1113 L xs v1 v2 v3 v4 u_189 K (fun z0 z1 z2 z3 z4 => bL_law_23 L xs n z0 z1 z2 z3 z4 K)) ∧ (¬ (r_185 = r_190) → K (0 : Int32) u_189))))))))) ∧ (¬ x_308 = (12 : Int32) → ((x_308 = (13 : Int32) → (vp_in (v4 + (1 : Int32)) L ∧ bX8_next v1 (xs (v4 + (1 : Int32)).toNatClampNeg) u (fun r_175 u_174 => (vp_in (v4 + (1 : Int32)) L ∧ bX9_next v2 (xs (v4 + (1 : Int32)).toNatClampNeg) u_174 (fun r_179 u_178 => ((r_175 = r_179 → bL_law_1113 L xs v1 v2 v3 v4 u_178 K (fun z0 z1 z2 z3 z4 => bL_law_23 L xs n z0 z1 z2 z3 z4 K)) ∧ (¬ (r_175 = r_179) → K (0 : Int32) u_178))))))) ∧ (¬ x_308 = (13 : Int32) → ((x_308 = (14 : Int32) → (vp_in (v4 + (1 : Int32)) L ∧ (vp_in (v4 + (2 : Int32)) L ∧ bX8_go v1 (xs (v4 + (1 : Int32)).toNatClampNeg) (xs (v4 + (2 : Int32)).toNatClampNeg) u (fun r_165 u_164 => (vp_in (v4 + (1 : Int32)) L ∧ (vp_in (v4 + (2 : Int32)) L ∧ bX9_go v2 (xs (v4 + (1 : Int32)).toNatClampNeg) (xs (v4 + (2 : Int32)).toNatClampNeg) u_164 (fun r_170 u_169 => ((r_165 = r_170 → bL_law_1113 L xs v1 v2 v3 v4 u_169 K (fun z0 z1 z2 z3 z4 => bL_law_23 L xs n z0 z1 z2 z3 z4 K)) ∧ (¬ (r_165 = r_170) → K (0 : Int32) u_169))))))))) ∧ (¬ x_308 = (14 : Int32) → ((x_308 = (15 : Int32) → (vp_in (v4 + (1 : Int32)) L ∧ bX8_way v1 (xs (v4 + (1 : Int32)).toNatClampNeg) u (fun r_155 u_154 => (vp_in (v4 + (1 : Int32)) L ∧ bX9_way v2 (xs (v4 + (1 : Int32)).toNatClampNeg) u_154 (fun r_159 u_158 => ((r_155 = r_159 → bL_law_1113 L xs v1 v2 v3 v4 u_158 K (fun z0 z1 z2 z3 z4 => bL_law_23 L xs n z0 z1 z2 z3 z4 K)) ∧ (¬ (r_155 = r_159) → K (0 : Int32) u_158))))))) ∧ (¬ x_308 = (15 : Int32) → ((x_308 = (16 : Int32) → (vp_in (v4 + (1 : Int32)) L ∧ (vp_in (v4 + (2 : Int32)) L ∧ (vp_in (v4 + (3 : Int32)) L ∧ bX8_hand v1 (xs (v4 + (1 : Int32)).toNatClampNeg) (xs (v4 + (2 : Int32)).toNatClampNeg) (xs (v4 + (3 : Int32)).toNatClampNeg) u (fun r_144 u_143 => (vp_in (v4 + (1 : Int32)) L ∧ (vp_in (v4 + (2 : Int32)) L ∧ (vp_in (v4 + (3 : Int32)) L ∧ bX9_hand v2 (xs (v4 + (1 : Int32)).toNatClampNeg) (xs (v4 + (2 : Int32)).toNatClampNeg) (xs (v4 + (3 : Int32)).toNatClampNeg) u_143 (fun r_150 u_149 => ((r_144 = r_150 → bL_law_1113 L xs v1 v2 v3 v4 u_149 K (fun z0 z1 z2 z3 z4 => bL_law_23 L xs n z0 z1 z2 z3 z4 K)) ∧ (¬ (r_144 = r_150) → K (0 : Int32) u_149))))))))))) ∧ (¬ x_308 = (16 : Int32) → ((x_308 = (17 : Int32) → bX8_fits v1 u (fun r_134 u_133 => bX9_fits_ v2 u_133 (fun r_137 u_136 => ((r_134 = r_137 → bL_law_1113 L xs v1 v2 v3 v4 u_136 K (fun z0 z1 z2 z3 z4 => bL_law_23 L xs n z0 z1 z2 z3 z4 K)) ∧ (¬ (r_134 = r_137) → K (0 : Int32) u_136))))) ∧ (¬ x_308 = (17 : Int32) → ((x_308 = (18 : Int32) → (vp_in (v4 + (1 : Int32)) L ∧ bX8_isTrue v1 (xs (v4 + (1 : Int32)).toNatClampNeg) u (fun r_126 u_125 => (vp_in (v4 + (1 : Int32)) L ∧ bX9_isTrue v2 (xs (v4 + (1 : Int32)).toNatClampNeg) u_125 (fun r_130 u_129 => ((r_126 = r_130 → bL_law_1113 L xs v1 v2 v3 v4 u_129 K (fun z0 z1 z2 z3 z4 => bL_law_23 L xs n z0 z1 z2 z3 z4 K)) ∧ (¬ (r_126 = r_130) → K (0 : Int32) u_129))))))) ∧ (¬ x_308 = (18 : Int32) → ((x_308 = (19 : Int32) → (vp_in (v4 + (1 : Int32)) L ∧ bX8_count v1 (xs (v4 + (1 : Int32)).toNatClampNeg) u (fun r_117 u_116 => (vp_in (v4 + (1 : Int32)) L ∧ bX9_count v2 (xs (v4 + (1 : Int32)).toNatClampNeg) u_116 (fun r_121 u_120 => ((r_117 = r_121 → bL_law_1113 L xs v1 v2 v3 v4 u_120 K (fun z0 z1 z2 z3 z4 => bL_law_23 L xs n z0 z1 z2 z3 z4 K)) ∧ (¬ (r_117 = r_121) → K (0 : Int32) u_120))))))) ∧ (¬ x_308 = (19 : Int32) → ((x_308 = (20 : Int32) → bX8_reached v1 u (fun r_109 u_108 => bX9_reached v2 u_108 (fun r_112 u_111 => ((r_109 = r_112 → bL_law_1113 L xs v1 v2 v3 v4 u_111 K (fun z0 z1 z2 z3 z4 => bL_law_23 L xs n z0 z1 z2 z3 z4 K)) ∧ (¬ (r_109 = r_112) → K (0 : Int32) u_111))))) ∧ (¬ x_308 = (20 : Int32) → ((x_308 = (21 : Int32) → (vp_in (v4 + (1 : Int32)) L ∧ (vp_in (v4 + (2 : Int32)) L ∧ (vp_in (v4 + (3 : Int32)) L ∧ bX8_keep v1 (xs (v4 + (1 : Int32)).toNatClampNeg) (xs (v4 + (2 : Int32)).toNatClampNeg) (xs (v4 + (3 : Int32)).toNatClampNeg) u (fun r_99 u_98 => (vp_in (v4 + (1 : Int32)) L ∧ (vp_in (v4 + (2 : Int32)) L ∧ (vp_in (v4 + (3 : Int32)) L ∧ bX9_keep v2 (xs (v4 + (1 : Int32)).toNatClampNeg) (xs (v4 + (2 : Int32)).toNatClampNeg) (xs (v4 + (3 : Int32)).toNatClampNeg) u_98 (fun r_105 u_104 => ((r_99 = r_105 → bL_law_1113 L xs v1 v2 v3 v4 u_104 K (fun z0 z1 z2 z3 z4 => bL_law_23 L xs n z0 z1 z2 z3 z4 K)) ∧ (¬ (r_99 = r_105) → K (0 : Int32) u_104))))))))))) ∧ (¬ x_308 = (21 : Int32) → ((x_308 = (22 : Int32) → (vp_in (v4 + (1 : Int32)) L ∧ (vp_in (v4 + (2 : Int32)) L ∧ (vp_in (v4 + (3 : Int32)) L ∧ bX8_make v1 (xs (v4 + (1 : Int32)).toNatClampNeg) (xs (v4 + (2 : Int32)).toNatClampNeg) (xs (v4 + (3 : Int32)).toNatClampNeg) u (fun r_86 u_85 => (vp_in (v4 + (1 : Int32)) L ∧ (vp_in (v4 + (2 : Int32)) L ∧ (vp_in (v4 + (3 : Int32)) L ∧ bX9_make v2 (xs (v4 + (1 : Int32)).toNatClampNeg) (xs (v4 + (2 : Int32)).toNatClampNeg) (xs (v4 + (3 : Int32)).toNatClampNeg) u_85 (fun r_92 u_91 => ((r_86 = r_92 → bL_law_1113 L xs v1 v2 v3 v4 u_91 K (fun z0 z1 z2 z3 z4 => bL_law_23 L xs n z0 z1 z2 z3 z4 K)) ∧ (¬ (r_86 = r_92) → K (0 : Int32) u_91))))))))))) ∧ (¬ x_308 = (22 : Int32) → ((x_308 = (23 : Int32) → (vp_in (v4 + (1 : Int32)) L ∧ (vp_in (v4 + (2 : Int32)) L ∧ bL_element v1 (xs (v4 + (1 : Int32)).toNatClampNeg) (xs (v4 + (2 : Int32)).toNatClampNeg) v3 u (fun r_68 u_67 => (vp_in (v4 + (1 : Int32)) L ∧ (vp_in (v4 + (2 : Int32)) L ∧ bX9_element v2 (xs (v4 + (1 : Int32)).toNatClampNeg) (xs (v4 + (2 : Int32)).toNatClampNeg) u_67 (fun r_73 u_72 => bX9_thrown v2 u_72 (fun r_76 u_75 => ((r_76 = r_68 → ((r_68 = 0 → (vp_in (0 : Int32) 1 ∧ (((lg_cmp (mL u_75 v3 (0 : Int32).toNatClampNeg) r_73) = 0 → bL_law_987 L xs v1 v2 v3 v4 u_75 K (fun z0 z1 z2 z3 z4 => bL_law_23 L xs n z0 z1 z2 z3 z4 K)) ∧ (¬ ((lg_cmp (mL u_75 v3 (0 : Int32).toNatClampNeg) r_73) = 0) → K (0 : Int32) u_75)))) ∧ (¬ (r_68 = 0) → bL_law_987 L xs v1 v2 v3 v4 u_75 K (fun z0 z1 z2 z3 z4 => bL_law_23 L xs n z0 z1 z2 z3 z4 K)))) ∧ (¬ (r_76 = r_68) → K (0 : Int32) u_75)))))))))) ∧ (¬ x_308 = (23 : Int32) → ((x_308 = (24 : Int32) → (vp_in (v4 + (1 : Int32)) L ∧ (vp_in (v4 + (2 : Int32)) L ∧ (vp_in (v4 + (3 : Int32)) L ∧ (vp_in (v4 + (4 : Int32)) L ∧ (vp_in (v4 + (5 : Int32)) L ∧ bX8_copy v1 (xs (v4 + (1 : Int32)).toNatClampNeg) (xs (v4 + (2 : Int32)).toNatClampNeg) (xs (v4 + (3 : Int32)).toNatClampNeg) (xs (v4 + (4 : Int32)).toNatClampNeg) (xs (v4 + (5 : Int32)).toNatClampNeg) u (fun r_54 u_53 => (vp_in (v4 + (1 : Int32)) L ∧ (vp_in (v4 + (2 : Int32)) L ∧ (vp_in (v4 + (3 : Int32)) L ∧ (vp_in (v4 + (4 : Int32)) L ∧ (vp_in (v4 + (5 : Int32)) L ∧ bX9_copy v2 (xs (v4 + (1 : Int32)).toNatClampNeg) (xs (v4 + (2 : Int32)).toNatClampNeg) (xs (v4 + (3 : Int32)).toNatClampNeg) (xs (v4 + (4 : Int32)).toNatClampNeg) (xs (v4 + (5 : Int32)).toNatClampNeg) u_53 (fun r_62 u_61 => ((r_54 = r_62 → bL_law_1113 L xs v1 v2 v3 v4 u_61 K (fun z0 z1 z2 z3 z4 => bL_law_23 L xs n z0 z1 z2 z3 z4 K)) ∧ (¬ (r_54 = r_62) → K (0 : Int32) u_61))))))))))))))) ∧ (¬ x_308 = (24 : Int32) → ((x_308 = (25 : Int32) → (vp_in (v4 + (1 : Int32)) L ∧ bX8_weight v1 (xs (v4 + (1 : Int32)).toNatClampNeg) u (fun r_41 u_40 => (vp_in (v4 + (1 : Int32)) L ∧ bX9_weight v2 (xs (v4 + (1 : Int32)).toNatClampNeg) u_40 (fun r_45 u_44 => ((r_41 = r_45 → bL_law_1113 L xs v1 v2 v3 v4 u_44 K (fun z0 z1 z2 z3 z4 => bL_law_23 L xs n z0 z1 z2 z3 z4 K)) ∧ (¬ (r_41 = r_45) → K (0 : Int32) u_44))))))) ∧ (¬ x_308 = (25 : Int32) → ((x_308 = (26 : Int32) → (vp_in (v4 + (1 : Int32)) L ∧ bX8_toss v1 (xs (v4 + (1 : Int32)).toNatClampNeg) u (fun r_32 u_31 => (vp_in (v4 + (1 : Int32)) L ∧ bX9_toss v2 (xs (v4 + (1 : Int32)).toNatClampNeg) u_31 (fun r_36 u_35 => ((r_32 = r_36 → bL_law_1113 L xs v1 v2 v3 v4 u_35 K (fun z0 z1 z2 z3 z4 => bL_law_23 L xs n z0 z1 z2 z3 z4 K)) ∧ (¬ (r_32 = r_36) → K (0 : Int32) u_35))))))) ∧ (¬ x_308 = (26 : Int32) → bL_law_1113 L xs v1 v2 v3 v4 u K (fun z0 z1 z2 z3 z4 => bL_law_23 L xs n z0 z1 z2 z3 z4 K)))))))))))))))))))))))))))))))))))))))))))))))))))))))))))
set_option maxRecDepth 100000 in
set_option maxHeartbeats 4000000 in
theorem tL_law_23 {X : mCx} {G : mG} {u0 : mSt} {K : Int32 → mSt → Prop} (F : mFx X G cL_law wsL_law RL "law" 2048 84000 (some .boolean) u0 (mPz K)) (hN : X.2.2.2.2.2.2.2.2.2.2.2.2.1 = 8) {b L : Nat} {xs : Nat → Int32} (hX : mScr X b L xs) (hLT : X.2.1.stackTraces = false) : ∀ (n : Nat) {v1 : Nat} {v2 : Nat} {v3 : Nat} {v4 : Int32} {u : mSt}, mK u v1 = 9 → mK u v2 = 10 → mK u v3 = 30 → bL_law_23 L xs n v1 v2 v3 v4 u K → mZ X u 23 [(0, .ref b), (1, .ref (G.1 + v1)), (2, .ref (G.1 + v2)), (3, .ref (G.1 + v3)), (4, .int v4)] [] := by
  intro n
  induction n with
  | zero => intro v1 v2 v3 v4 u kv1 kv2 kv3 h; exact False.elim h
  | succ n ih =>
    intro v1 v2 v3 v4 u kv1 kv2 kv3 h
    refine mz_iload F dL_law_23 4 rfl ?_
    refine mz_aload_n F dL_law_25 rfl 0 rfl ?_
    refine mz_slen F hX dL_law_26 ?_
    refine mz_bipush (v := 6) F dL_law_27 (by decide) ?_
    refine mz_isub F dL_law_29 ?_
    refine mz_icmp_gt (tgt := 1119) F dL_law_30 (by decide) (fun c_309 => ?_) (fun c_309 => ?_)
    · replace h := h.1 c_309
      refine mz_iconst (v := 1) F dL_law_1119 (by decide) ?_
      exact mz_zret F dL_law_1120 rfl ⟨_, rfl, by decide, h⟩
    · replace h := h.2 c_309
      refine mz_aload_n F dL_law_33 rfl 0 rfl ?_
      refine mz_iload F dL_law_34 4 rfl ?_
      obtain ⟨b_1, h⟩ := h
      refine mz_sld F hX dL_law_36 b_1 ?_
      refine mz_bipush (v := 31) F dL_law_37 (by decide) ?_
      refine mz_iand F dL_law_39 ?_
      refine mz_topi (fun x_308 ex_308 => ?_)
      replace h := h x_308 ex_308
      refine Classical.byCases (p := x_308 = (0 : Int32)) (fun c_2 => ?_) (fun c_2 => ?_)
      · replace h := h.1 c_2
        have ec_2 := mte (z := 0) rfl c_2
        refine mz_tableIn (off := 124) (tgt := 164) F dL_law_40 (by omega) (by omega) (by rw [ec_2]; rfl) (by decide) ?_
        refine mz_aload_n F dL_law_164 rfl 1 rfl ?_
        refine mz_aload_n F dL_law_165 rfl 0 rfl ?_
        refine mz_iload F dL_law_166 4 rfl ?_
        refine mz_iconst (v := 1) F dL_law_168 (by decide) ?_
        refine mz_iadd F dL_law_169 ?_
        obtain ⟨b_305, h⟩ := h
        refine mz_sld F hX dL_law_170 b_305 ?_
        refine mz_aload_n F dL_law_171 rfl 0 rfl ?_
        refine mz_iload F dL_law_172 4 rfl ?_
        refine mz_iconst (v := 2) F dL_law_174 (by decide) ?_
        refine mz_iadd F dL_law_175 ?_
        obtain ⟨b_306, h⟩ := h
        refine mz_sld F hX dL_law_176 b_306 ?_
        refine mz_if_eq (tgt := 184) F dL_law_177 (by decide) (fun c_307 => ?_) (fun c_307 => ?_)
        · replace h := h.1 c_307
          refine mz_iconst (v := 0) F dL_law_184 (by decide) ?_
          refine mz_sub [0, 1, 2, 3, 4] rfl ?_
          exact tL_law_185 F hN hX hLT (fun k0 k1 k2 h => ih k0 k1 k2 h) kv1 kv2 kv3 kv1 h
        · replace h := h.2 c_307
          refine mz_iconst (v := 1) F dL_law_180 (by decide) ?_
          refine mz_goto (tgt := 185) F dL_law_181 (by decide) ?_
          refine mz_sub [0, 1, 2, 3, 4] rfl ?_
          exact tL_law_185 F hN hX hLT (fun k0 k1 k2 h => ih k0 k1 k2 h) kv1 kv2 kv3 kv1 h
      · replace h := h.2 c_2
        refine Classical.byCases (p := x_308 = (1 : Int32)) (fun c_3 => ?_) (fun c_3 => ?_)
        · replace h := h.1 c_3
          have ec_3 := mte (z := 1) rfl c_3
          refine mz_tableIn (off := 177) (tgt := 217) F dL_law_40 (by omega) (by omega) (by rw [ec_3]; rfl) (by decide) ?_
          refine mz_aload_n F dL_law_217 rfl 1 rfl ?_
          refine mz_aload_n F dL_law_218 rfl 0 rfl ?_
          refine mz_iload F dL_law_219 4 rfl ?_
          refine mz_iconst (v := 1) F dL_law_221 (by decide) ?_
          refine mz_iadd F dL_law_222 ?_
          obtain ⟨b_290, h⟩ := h
          refine mz_sld F hX dL_law_223 b_290 ?_
          refine mz_aload_n F dL_law_224 rfl 0 rfl ?_
          refine mz_iload F dL_law_225 4 rfl ?_
          refine mz_iconst (v := 2) F dL_law_227 (by decide) ?_
          refine mz_iadd F dL_law_228 ?_
          obtain ⟨b_291, h⟩ := h
          refine mz_sld F hX dL_law_229 b_291 ?_
          refine mz_aload_n F dL_law_230 rfl 0 rfl ?_
          refine mz_iload F dL_law_231 4 rfl ?_
          refine mz_iconst (v := 3) F dL_law_233 (by decide) ?_
          refine mz_iadd F dL_law_234 ?_
          obtain ⟨b_292, h⟩ := h
          refine mz_sld F hX dL_law_235 b_292 ?_
          refine mz_aload_n F dL_law_236 rfl 0 rfl ?_
          refine mz_iload F dL_law_237 4 rfl ?_
          refine mz_iconst (v := 4) F dL_law_239 (by decide) ?_
          refine mz_iadd F dL_law_240 ?_
          obtain ⟨b_293, h⟩ := h
          refine mz_sld F hX dL_law_241 b_293 ?_
          refine mz_callV (As := [_, _, _, _]) (n := 4) F dL_law_242 rfl kv1 rfl rfl gL_law_X8_lead (by decide +kernel) (by decide) rfl (Nat.le_of_ble_eq_true rfl) (kX8_lead _ G kv1 h) (mz_kI fun r_296 u_295 h hx_294 => ?_)
          replace kv1 := hx_294.2.2 _ _ (by decide) kv1
          replace kv2 := hx_294.2.2 _ _ (by decide) kv2
          replace kv3 := hx_294.2.2 _ _ (by decide) kv3
          refine mz_aload_n F dL_law_245 rfl 2 rfl ?_
          refine mz_aload_n F dL_law_246 rfl 0 rfl ?_
          refine mz_iload F dL_law_247 4 rfl ?_
          refine mz_iconst (v := 1) F dL_law_249 (by decide) ?_
          refine mz_iadd F dL_law_250 ?_
          obtain ⟨b_297, h⟩ := h
          refine mz_sld F hX dL_law_251 b_297 ?_
          refine mz_aload_n F dL_law_252 rfl 0 rfl ?_
          refine mz_iload F dL_law_253 4 rfl ?_
          refine mz_iconst (v := 2) F dL_law_255 (by decide) ?_
          refine mz_iadd F dL_law_256 ?_
          obtain ⟨b_298, h⟩ := h
          refine mz_sld F hX dL_law_257 b_298 ?_
          refine mz_aload_n F dL_law_258 rfl 0 rfl ?_
          refine mz_iload F dL_law_259 4 rfl ?_
          refine mz_iconst (v := 3) F dL_law_261 (by decide) ?_
          refine mz_iadd F dL_law_262 ?_
          obtain ⟨b_299, h⟩ := h
          refine mz_sld F hX dL_law_263 b_299 ?_
          refine mz_aload_n F dL_law_264 rfl 0 rfl ?_
          refine mz_iload F dL_law_265 4 rfl ?_
          refine mz_iconst (v := 4) F dL_law_267 (by decide) ?_
          refine mz_iadd F dL_law_268 ?_
          obtain ⟨b_300, h⟩ := h
          refine mz_sld F hX dL_law_269 b_300 ?_
          refine mz_callV (As := [_, _, _, _]) (n := 4) F dL_law_270 rfl kv2 rfl rfl gL_law_X9_lead (by decide +kernel) (by decide) rfl (Nat.le_of_ble_eq_true rfl) (kX9_lead _ G kv2 h) (mz_kI fun r_303 u_302 h hx_301 => ?_)
          replace kv1 := hx_301.2.2 _ _ (by decide) kv1
          replace kv2 := hx_301.2.2 _ _ (by decide) kv2
          replace kv3 := hx_301.2.2 _ _ (by decide) kv3
          refine mz_icmp_eq (tgt := 1113) F dL_law_273 (by decide) (fun c_304 => ?_) (fun c_304 => ?_)
          · replace h := h.1 c_304
            refine mz_sub [0, 1, 2, 3, 4] rfl ?_
            exact tL_law_1113 F hN hX hLT (fun k0 k1 k2 h => ih k0 k1 k2 h) kv1 kv2 kv3 h
          · replace h := h.2 c_304
            refine mz_iconst (v := 0) F dL_law_276 (by decide) ?_
            exact mz_zret F dL_law_277 rfl ⟨_, rfl, by decide, h⟩
        · replace h := h.2 c_3
          refine Classical.byCases (p := x_308 = (2 : Int32)) (fun c_4 => ?_) (fun c_4 => ?_)
          · replace h := h.1 c_4
            have ec_4 := mte (z := 2) rfl c_4
            refine mz_tableIn (off := 238) (tgt := 278) F dL_law_40 (by omega) (by omega) (by rw [ec_4]; rfl) (by decide) ?_
            refine mz_aload_n F dL_law_278 rfl 1 rfl ?_
            refine mz_aload_n F dL_law_279 rfl 0 rfl ?_
            refine mz_iload F dL_law_280 4 rfl ?_
            refine mz_iconst (v := 1) F dL_law_282 (by decide) ?_
            refine mz_iadd F dL_law_283 ?_
            obtain ⟨b_281, h⟩ := h
            refine mz_sld F hX dL_law_284 b_281 ?_
            refine mz_callV (As := [_]) (n := 1) F dL_law_285 rfl kv1 rfl rfl gL_law_X8_start (by decide +kernel) (by decide) rfl (Nat.le_of_ble_eq_true rfl) (kX8_start _ G kv1 h) (mz_kI fun r_284 u_283 h hx_282 => ?_)
            replace kv1 := hx_282.2.2 _ _ (by decide) kv1
            replace kv2 := hx_282.2.2 _ _ (by decide) kv2
            replace kv3 := hx_282.2.2 _ _ (by decide) kv3
            refine mz_aload_n F dL_law_288 rfl 2 rfl ?_
            refine mz_aload_n F dL_law_289 rfl 0 rfl ?_
            refine mz_iload F dL_law_290 4 rfl ?_
            refine mz_iconst (v := 1) F dL_law_292 (by decide) ?_
            refine mz_iadd F dL_law_293 ?_
            obtain ⟨b_285, h⟩ := h
            refine mz_sld F hX dL_law_294 b_285 ?_
            refine mz_callV (As := [_]) (n := 1) F dL_law_295 rfl kv2 rfl rfl gL_law_X9_start (by decide +kernel) (by decide) rfl (Nat.le_of_ble_eq_true rfl) (kX9_start _ G kv2 h) (mz_kI fun r_288 u_287 h hx_286 => ?_)
            replace kv1 := hx_286.2.2 _ _ (by decide) kv1
            replace kv2 := hx_286.2.2 _ _ (by decide) kv2
            replace kv3 := hx_286.2.2 _ _ (by decide) kv3
            refine mz_icmp_eq (tgt := 1113) F dL_law_298 (by decide) (fun c_289 => ?_) (fun c_289 => ?_)
            · replace h := h.1 c_289
              refine mz_sub [0, 1, 2, 3, 4] rfl ?_
              exact tL_law_1113 F hN hX hLT (fun k0 k1 k2 h => ih k0 k1 k2 h) kv1 kv2 kv3 h
            · replace h := h.2 c_289
              refine mz_iconst (v := 0) F dL_law_301 (by decide) ?_
              exact mz_zret F dL_law_302 rfl ⟨_, rfl, by decide, h⟩
          · replace h := h.2 c_4
            refine Classical.byCases (p := x_308 = (3 : Int32)) (fun c_5 => ?_) (fun c_5 => ?_)
            · replace h := h.1 c_5
              have ec_5 := mte (z := 3) rfl c_5
              refine mz_tableIn (off := 263) (tgt := 303) F dL_law_40 (by omega) (by omega) (by rw [ec_5]; rfl) (by decide) ?_
              refine mz_aload_n F dL_law_303 rfl 1 rfl ?_
              refine mz_aload_n F dL_law_304 rfl 0 rfl ?_
              refine mz_iload F dL_law_305 4 rfl ?_
              refine mz_iconst (v := 1) F dL_law_307 (by decide) ?_
              refine mz_iadd F dL_law_308 ?_
              obtain ⟨b_272, h⟩ := h
              refine mz_sld F hX dL_law_309 b_272 ?_
              refine mz_callV (As := [_]) (n := 1) F dL_law_310 rfl kv1 rfl rfl gL_law_X8_act (by decide +kernel) (by decide) rfl (Nat.le_of_ble_eq_true rfl) (kX8_act _ G kv1 h) (mz_kI fun r_275 u_274 h hx_273 => ?_)
              replace kv1 := hx_273.2.2 _ _ (by decide) kv1
              replace kv2 := hx_273.2.2 _ _ (by decide) kv2
              replace kv3 := hx_273.2.2 _ _ (by decide) kv3
              refine mz_aload_n F dL_law_313 rfl 2 rfl ?_
              refine mz_aload_n F dL_law_314 rfl 0 rfl ?_
              refine mz_iload F dL_law_315 4 rfl ?_
              refine mz_iconst (v := 1) F dL_law_317 (by decide) ?_
              refine mz_iadd F dL_law_318 ?_
              obtain ⟨b_276, h⟩ := h
              refine mz_sld F hX dL_law_319 b_276 ?_
              refine mz_callV (As := [_]) (n := 1) F dL_law_320 rfl kv2 rfl rfl gL_law_X9_act (by decide +kernel) (by decide) rfl (Nat.le_of_ble_eq_true rfl) (kX9_act _ G kv2 h) (mz_kI fun r_279 u_278 h hx_277 => ?_)
              replace kv1 := hx_277.2.2 _ _ (by decide) kv1
              replace kv2 := hx_277.2.2 _ _ (by decide) kv2
              replace kv3 := hx_277.2.2 _ _ (by decide) kv3
              refine mz_icmp_eq (tgt := 1113) F dL_law_323 (by decide) (fun c_280 => ?_) (fun c_280 => ?_)
              · replace h := h.1 c_280
                refine mz_sub [0, 1, 2, 3, 4] rfl ?_
                exact tL_law_1113 F hN hX hLT (fun k0 k1 k2 h => ih k0 k1 k2 h) kv1 kv2 kv3 h
              · replace h := h.2 c_280
                refine mz_iconst (v := 0) F dL_law_326 (by decide) ?_
                exact mz_zret F dL_law_327 rfl ⟨_, rfl, by decide, h⟩
            · replace h := h.2 c_5
              refine Classical.byCases (p := x_308 = (4 : Int32)) (fun c_6 => ?_) (fun c_6 => ?_)
              · replace h := h.1 c_6
                have ec_6 := mte (z := 4) rfl c_6
                refine mz_tableIn (off := 288) (tgt := 328) F dL_law_40 (by omega) (by omega) (by rw [ec_6]; rfl) (by decide) ?_
                refine mz_aload_n F dL_law_328 rfl 1 rfl ?_
                refine mz_aload_n F dL_law_329 rfl 0 rfl ?_
                refine mz_iload F dL_law_330 4 rfl ?_
                refine mz_iconst (v := 1) F dL_law_332 (by decide) ?_
                refine mz_iadd F dL_law_333 ?_
                obtain ⟨b_263, h⟩ := h
                refine mz_sld F hX dL_law_334 b_263 ?_
                refine mz_callV (As := [_]) (n := 1) F dL_law_335 rfl kv1 rfl rfl gL_law_X8_seen (by decide +kernel) (by decide) rfl (Nat.le_of_ble_eq_true rfl) (kX8_seen _ G kv1 h) (mz_kI fun r_266 u_265 h hx_264 => ?_)
                replace kv1 := hx_264.2.2 _ _ (by decide) kv1
                replace kv2 := hx_264.2.2 _ _ (by decide) kv2
                replace kv3 := hx_264.2.2 _ _ (by decide) kv3
                refine mz_aload_n F dL_law_338 rfl 2 rfl ?_
                refine mz_aload_n F dL_law_339 rfl 0 rfl ?_
                refine mz_iload F dL_law_340 4 rfl ?_
                refine mz_iconst (v := 1) F dL_law_342 (by decide) ?_
                refine mz_iadd F dL_law_343 ?_
                obtain ⟨b_267, h⟩ := h
                refine mz_sld F hX dL_law_344 b_267 ?_
                refine mz_callV (As := [_]) (n := 1) F dL_law_345 rfl kv2 rfl rfl gL_law_X9_seen (by decide +kernel) (by decide) rfl (Nat.le_of_ble_eq_true rfl) (kX9_seen _ G kv2 h) (mz_kI fun r_270 u_269 h hx_268 => ?_)
                replace kv1 := hx_268.2.2 _ _ (by decide) kv1
                replace kv2 := hx_268.2.2 _ _ (by decide) kv2
                replace kv3 := hx_268.2.2 _ _ (by decide) kv3
                refine mz_icmp_eq (tgt := 1113) F dL_law_348 (by decide) (fun c_271 => ?_) (fun c_271 => ?_)
                · replace h := h.1 c_271
                  refine mz_sub [0, 1, 2, 3, 4] rfl ?_
                  exact tL_law_1113 F hN hX hLT (fun k0 k1 k2 h => ih k0 k1 k2 h) kv1 kv2 kv3 h
                · replace h := h.2 c_271
                  refine mz_iconst (v := 0) F dL_law_351 (by decide) ?_
                  exact mz_zret F dL_law_352 rfl ⟨_, rfl, by decide, h⟩
              · replace h := h.2 c_6
                refine Classical.byCases (p := x_308 = (5 : Int32)) (fun c_7 => ?_) (fun c_7 => ?_)
                · replace h := h.1 c_7
                  have ec_7 := mte (z := 5) rfl c_7
                  refine mz_tableIn (off := 313) (tgt := 353) F dL_law_40 (by omega) (by omega) (by rw [ec_7]; rfl) (by decide) ?_
                  refine mz_aload_n F dL_law_353 rfl 1 rfl ?_
                  refine mz_aload_n F dL_law_354 rfl 0 rfl ?_
                  refine mz_iload F dL_law_355 4 rfl ?_
                  refine mz_iconst (v := 1) F dL_law_357 (by decide) ?_
                  refine mz_iadd F dL_law_358 ?_
                  obtain ⟨b_252, h⟩ := h
                  refine mz_sld F hX dL_law_359 b_252 ?_
                  refine mz_aload_n F dL_law_360 rfl 0 rfl ?_
                  refine mz_iload F dL_law_361 4 rfl ?_
                  refine mz_iconst (v := 2) F dL_law_363 (by decide) ?_
                  refine mz_iadd F dL_law_364 ?_
                  obtain ⟨b_253, h⟩ := h
                  refine mz_sld F hX dL_law_365 b_253 ?_
                  refine mz_callV (As := [_, _]) (n := 2) F dL_law_366 rfl kv1 rfl rfl gL_law_X8_walk (by decide +kernel) (by decide) rfl (Nat.le_of_ble_eq_true rfl) (kX8_walk _ G kv1 h) (mz_kI fun r_256 u_255 h hx_254 => ?_)
                  replace kv1 := hx_254.2.2 _ _ (by decide) kv1
                  replace kv2 := hx_254.2.2 _ _ (by decide) kv2
                  replace kv3 := hx_254.2.2 _ _ (by decide) kv3
                  refine mz_aload_n F dL_law_369 rfl 2 rfl ?_
                  refine mz_aload_n F dL_law_370 rfl 0 rfl ?_
                  refine mz_iload F dL_law_371 4 rfl ?_
                  refine mz_iconst (v := 1) F dL_law_373 (by decide) ?_
                  refine mz_iadd F dL_law_374 ?_
                  obtain ⟨b_257, h⟩ := h
                  refine mz_sld F hX dL_law_375 b_257 ?_
                  refine mz_aload_n F dL_law_376 rfl 0 rfl ?_
                  refine mz_iload F dL_law_377 4 rfl ?_
                  refine mz_iconst (v := 2) F dL_law_379 (by decide) ?_
                  refine mz_iadd F dL_law_380 ?_
                  obtain ⟨b_258, h⟩ := h
                  refine mz_sld F hX dL_law_381 b_258 ?_
                  refine mz_callV (As := [_, _]) (n := 2) F dL_law_382 rfl kv2 rfl rfl gL_law_X9_walk (by decide +kernel) (by decide) rfl (Nat.le_of_ble_eq_true rfl) (kX9_walk _ G kv2 h) (mz_kI fun r_261 u_260 h hx_259 => ?_)
                  replace kv1 := hx_259.2.2 _ _ (by decide) kv1
                  replace kv2 := hx_259.2.2 _ _ (by decide) kv2
                  replace kv3 := hx_259.2.2 _ _ (by decide) kv3
                  refine mz_icmp_eq (tgt := 1113) F dL_law_385 (by decide) (fun c_262 => ?_) (fun c_262 => ?_)
                  · replace h := h.1 c_262
                    refine mz_sub [0, 1, 2, 3, 4] rfl ?_
                    exact tL_law_1113 F hN hX hLT (fun k0 k1 k2 h => ih k0 k1 k2 h) kv1 kv2 kv3 h
                  · replace h := h.2 c_262
                    refine mz_iconst (v := 0) F dL_law_388 (by decide) ?_
                    exact mz_zret F dL_law_389 rfl ⟨_, rfl, by decide, h⟩
                · replace h := h.2 c_7
                  refine Classical.byCases (p := x_308 = (6 : Int32)) (fun c_8 => ?_) (fun c_8 => ?_)
                  · replace h := h.1 c_8
                    have ec_8 := mte (z := 6) rfl c_8
                    refine mz_tableIn (off := 350) (tgt := 390) F dL_law_40 (by omega) (by omega) (by rw [ec_8]; rfl) (by decide) ?_
                    refine mz_aload_n F dL_law_390 rfl 1 rfl ?_
                    refine mz_callV (As := []) (n := 0) F dL_law_391 rfl kv1 rfl rfl gL_law_X8_sheets (by decide +kernel) (by decide) rfl (Nat.le_of_ble_eq_true rfl) (kX8_sheets _ G kv1 h) (mz_kI fun r_247 u_246 h hx_245 => ?_)
                    replace kv1 := hx_245.2.2 _ _ (by decide) kv1
                    replace kv2 := hx_245.2.2 _ _ (by decide) kv2
                    replace kv3 := hx_245.2.2 _ _ (by decide) kv3
                    refine mz_aload_n F dL_law_394 rfl 2 rfl ?_
                    refine mz_callV (As := []) (n := 0) F dL_law_395 rfl kv2 rfl rfl gL_law_X9_sheets (by decide +kernel) (by decide) rfl (Nat.le_of_ble_eq_true rfl) (kX9_sheets _ G kv2 h) (mz_kI fun r_250 u_249 h hx_248 => ?_)
                    replace kv1 := hx_248.2.2 _ _ (by decide) kv1
                    replace kv2 := hx_248.2.2 _ _ (by decide) kv2
                    replace kv3 := hx_248.2.2 _ _ (by decide) kv3
                    refine mz_icmp_eq (tgt := 1113) F dL_law_398 (by decide) (fun c_251 => ?_) (fun c_251 => ?_)
                    · replace h := h.1 c_251
                      refine mz_sub [0, 1, 2, 3, 4] rfl ?_
                      exact tL_law_1113 F hN hX hLT (fun k0 k1 k2 h => ih k0 k1 k2 h) kv1 kv2 kv3 h
                    · replace h := h.2 c_251
                      refine mz_iconst (v := 0) F dL_law_401 (by decide) ?_
                      exact mz_zret F dL_law_402 rfl ⟨_, rfl, by decide, h⟩
                  · replace h := h.2 c_8
                    refine Classical.byCases (p := x_308 = (7 : Int32)) (fun c_9 => ?_) (fun c_9 => ?_)
                    · replace h := h.1 c_9
                      have ec_9 := mte (z := 7) rfl c_9
                      refine mz_tableIn (off := 363) (tgt := 403) F dL_law_40 (by omega) (by omega) (by rw [ec_9]; rfl) (by decide) ?_
                      refine mz_aload_n F dL_law_403 rfl 1 rfl ?_
                      refine mz_aload_n F dL_law_404 rfl 0 rfl ?_
                      refine mz_iload F dL_law_405 4 rfl ?_
                      refine mz_iconst (v := 1) F dL_law_407 (by decide) ?_
                      refine mz_iadd F dL_law_408 ?_
                      obtain ⟨b_234, h⟩ := h
                      refine mz_sld F hX dL_law_409 b_234 ?_
                      refine mz_aload_n F dL_law_410 rfl 0 rfl ?_
                      refine mz_iload F dL_law_411 4 rfl ?_
                      refine mz_iconst (v := 2) F dL_law_413 (by decide) ?_
                      refine mz_iadd F dL_law_414 ?_
                      obtain ⟨b_235, h⟩ := h
                      refine mz_sld F hX dL_law_415 b_235 ?_
                      refine mz_callV (As := [_, _]) (n := 2) F dL_law_416 rfl kv1 rfl rfl gL_law_X8_sheet (by decide +kernel) (by decide) rfl (Nat.le_of_ble_eq_true rfl) (kX8_sheet _ G kv1 h) (mz_kI fun r_238 u_237 h hx_236 => ?_)
                      replace kv1 := hx_236.2.2 _ _ (by decide) kv1
                      replace kv2 := hx_236.2.2 _ _ (by decide) kv2
                      replace kv3 := hx_236.2.2 _ _ (by decide) kv3
                      refine mz_aload_n F dL_law_419 rfl 2 rfl ?_
                      refine mz_aload_n F dL_law_420 rfl 0 rfl ?_
                      refine mz_iload F dL_law_421 4 rfl ?_
                      refine mz_iconst (v := 1) F dL_law_423 (by decide) ?_
                      refine mz_iadd F dL_law_424 ?_
                      obtain ⟨b_239, h⟩ := h
                      refine mz_sld F hX dL_law_425 b_239 ?_
                      refine mz_aload_n F dL_law_426 rfl 0 rfl ?_
                      refine mz_iload F dL_law_427 4 rfl ?_
                      refine mz_iconst (v := 2) F dL_law_429 (by decide) ?_
                      refine mz_iadd F dL_law_430 ?_
                      obtain ⟨b_240, h⟩ := h
                      refine mz_sld F hX dL_law_431 b_240 ?_
                      refine mz_callV (As := [_, _]) (n := 2) F dL_law_432 rfl kv2 rfl rfl gL_law_X9_sheet (by decide +kernel) (by decide) rfl (Nat.le_of_ble_eq_true rfl) (kX9_sheet _ G kv2 h) (mz_kI fun r_243 u_242 h hx_241 => ?_)
                      replace kv1 := hx_241.2.2 _ _ (by decide) kv1
                      replace kv2 := hx_241.2.2 _ _ (by decide) kv2
                      replace kv3 := hx_241.2.2 _ _ (by decide) kv3
                      refine mz_icmp_eq (tgt := 1113) F dL_law_435 (by decide) (fun c_244 => ?_) (fun c_244 => ?_)
                      · replace h := h.1 c_244
                        refine mz_sub [0, 1, 2, 3, 4] rfl ?_
                        exact tL_law_1113 F hN hX hLT (fun k0 k1 k2 h => ih k0 k1 k2 h) kv1 kv2 kv3 h
                      · replace h := h.2 c_244
                        refine mz_iconst (v := 0) F dL_law_438 (by decide) ?_
                        exact mz_zret F dL_law_439 rfl ⟨_, rfl, by decide, h⟩
                    · replace h := h.2 c_9
                      refine Classical.byCases (p := x_308 = (8 : Int32)) (fun c_10 => ?_) (fun c_10 => ?_)
                      · replace h := h.1 c_10
                        have ec_10 := mte (z := 8) rfl c_10
                        refine mz_tableIn (off := 400) (tgt := 440) F dL_law_40 (by omega) (by omega) (by rw [ec_10]; rfl) (by decide) ?_
                        refine mz_aload_n F dL_law_440 rfl 1 rfl ?_
                        refine mz_aload_n F dL_law_441 rfl 0 rfl ?_
                        refine mz_iload F dL_law_442 4 rfl ?_
                        refine mz_iconst (v := 1) F dL_law_444 (by decide) ?_
                        refine mz_iadd F dL_law_445 ?_
                        obtain ⟨b_221, h⟩ := h
                        refine mz_sld F hX dL_law_446 b_221 ?_
                        refine mz_aload_n F dL_law_447 rfl 0 rfl ?_
                        refine mz_iload F dL_law_448 4 rfl ?_
                        refine mz_iconst (v := 2) F dL_law_450 (by decide) ?_
                        refine mz_iadd F dL_law_451 ?_
                        obtain ⟨b_222, h⟩ := h
                        refine mz_sld F hX dL_law_452 b_222 ?_
                        refine mz_aload_n F dL_law_453 rfl 0 rfl ?_
                        refine mz_iload F dL_law_454 4 rfl ?_
                        refine mz_iconst (v := 3) F dL_law_456 (by decide) ?_
                        refine mz_iadd F dL_law_457 ?_
                        obtain ⟨b_223, h⟩ := h
                        refine mz_sld F hX dL_law_458 b_223 ?_
                        refine mz_callV (As := [_, _, _]) (n := 3) F dL_law_459 rfl kv1 rfl rfl gL_law_X8_leads (by decide +kernel) (by decide) rfl (Nat.le_of_ble_eq_true rfl) (kX8_leads _ G kv1 h) (mz_kI fun r_226 u_225 h hx_224 => ?_)
                        replace kv1 := hx_224.2.2 _ _ (by decide) kv1
                        replace kv2 := hx_224.2.2 _ _ (by decide) kv2
                        replace kv3 := hx_224.2.2 _ _ (by decide) kv3
                        refine mz_aload_n F dL_law_462 rfl 2 rfl ?_
                        refine mz_aload_n F dL_law_463 rfl 0 rfl ?_
                        refine mz_iload F dL_law_464 4 rfl ?_
                        refine mz_iconst (v := 1) F dL_law_466 (by decide) ?_
                        refine mz_iadd F dL_law_467 ?_
                        obtain ⟨b_227, h⟩ := h
                        refine mz_sld F hX dL_law_468 b_227 ?_
                        refine mz_aload_n F dL_law_469 rfl 0 rfl ?_
                        refine mz_iload F dL_law_470 4 rfl ?_
                        refine mz_iconst (v := 2) F dL_law_472 (by decide) ?_
                        refine mz_iadd F dL_law_473 ?_
                        obtain ⟨b_228, h⟩ := h
                        refine mz_sld F hX dL_law_474 b_228 ?_
                        refine mz_aload_n F dL_law_475 rfl 0 rfl ?_
                        refine mz_iload F dL_law_476 4 rfl ?_
                        refine mz_iconst (v := 3) F dL_law_478 (by decide) ?_
                        refine mz_iadd F dL_law_479 ?_
                        obtain ⟨b_229, h⟩ := h
                        refine mz_sld F hX dL_law_480 b_229 ?_
                        refine mz_callV (As := [_, _, _]) (n := 3) F dL_law_481 rfl kv2 rfl rfl gL_law_X9_leads (by decide +kernel) (by decide) rfl (Nat.le_of_ble_eq_true rfl) (kX9_leads _ G kv2 h) (mz_kI fun r_232 u_231 h hx_230 => ?_)
                        replace kv1 := hx_230.2.2 _ _ (by decide) kv1
                        replace kv2 := hx_230.2.2 _ _ (by decide) kv2
                        replace kv3 := hx_230.2.2 _ _ (by decide) kv3
                        refine mz_icmp_eq (tgt := 1113) F dL_law_484 (by decide) (fun c_233 => ?_) (fun c_233 => ?_)
                        · replace h := h.1 c_233
                          refine mz_sub [0, 1, 2, 3, 4] rfl ?_
                          exact tL_law_1113 F hN hX hLT (fun k0 k1 k2 h => ih k0 k1 k2 h) kv1 kv2 kv3 h
                        · replace h := h.2 c_233
                          refine mz_iconst (v := 0) F dL_law_487 (by decide) ?_
                          exact mz_zret F dL_law_488 rfl ⟨_, rfl, by decide, h⟩
                      · replace h := h.2 c_10
                        refine Classical.byCases (p := x_308 = (9 : Int32)) (fun c_11 => ?_) (fun c_11 => ?_)
                        · replace h := h.1 c_11
                          have ec_11 := mte (z := 9) rfl c_11
                          refine mz_tableIn (off := 449) (tgt := 489) F dL_law_40 (by omega) (by omega) (by rw [ec_11]; rfl) (by decide) ?_
                          refine mz_aload_n F dL_law_489 rfl 1 rfl ?_
                          refine mz_aload_n F dL_law_490 rfl 0 rfl ?_
                          refine mz_iload F dL_law_491 4 rfl ?_
                          refine mz_iconst (v := 1) F dL_law_493 (by decide) ?_
                          refine mz_iadd F dL_law_494 ?_
                          obtain ⟨b_210, h⟩ := h
                          refine mz_sld F hX dL_law_495 b_210 ?_
                          refine mz_aload_n F dL_law_496 rfl 0 rfl ?_
                          refine mz_iload F dL_law_497 4 rfl ?_
                          refine mz_iconst (v := 2) F dL_law_499 (by decide) ?_
                          refine mz_iadd F dL_law_500 ?_
                          obtain ⟨b_211, h⟩ := h
                          refine mz_sld F hX dL_law_501 b_211 ?_
                          refine mz_callV (As := [_, _]) (n := 2) F dL_law_502 rfl kv1 rfl rfl gL_law_X8_sign (by decide +kernel) (by decide) rfl (Nat.le_of_ble_eq_true rfl) (kX8_sign _ G kv1 h) (mz_kI fun r_214 u_213 h hx_212 => ?_)
                          replace kv1 := hx_212.2.2 _ _ (by decide) kv1
                          replace kv2 := hx_212.2.2 _ _ (by decide) kv2
                          replace kv3 := hx_212.2.2 _ _ (by decide) kv3
                          refine mz_aload_n F dL_law_505 rfl 2 rfl ?_
                          refine mz_aload_n F dL_law_506 rfl 0 rfl ?_
                          refine mz_iload F dL_law_507 4 rfl ?_
                          refine mz_iconst (v := 1) F dL_law_509 (by decide) ?_
                          refine mz_iadd F dL_law_510 ?_
                          obtain ⟨b_215, h⟩ := h
                          refine mz_sld F hX dL_law_511 b_215 ?_
                          refine mz_aload_n F dL_law_512 rfl 0 rfl ?_
                          refine mz_iload F dL_law_513 4 rfl ?_
                          refine mz_iconst (v := 2) F dL_law_515 (by decide) ?_
                          refine mz_iadd F dL_law_516 ?_
                          obtain ⟨b_216, h⟩ := h
                          refine mz_sld F hX dL_law_517 b_216 ?_
                          refine mz_callV (As := [_, _]) (n := 2) F dL_law_518 rfl kv2 rfl rfl gL_law_X9_sign (by decide +kernel) (by decide) rfl (Nat.le_of_ble_eq_true rfl) (kX9_sign _ G kv2 h) (mz_kI fun r_219 u_218 h hx_217 => ?_)
                          replace kv1 := hx_217.2.2 _ _ (by decide) kv1
                          replace kv2 := hx_217.2.2 _ _ (by decide) kv2
                          replace kv3 := hx_217.2.2 _ _ (by decide) kv3
                          refine mz_icmp_eq (tgt := 1113) F dL_law_521 (by decide) (fun c_220 => ?_) (fun c_220 => ?_)
                          · replace h := h.1 c_220
                            refine mz_sub [0, 1, 2, 3, 4] rfl ?_
                            exact tL_law_1113 F hN hX hLT (fun k0 k1 k2 h => ih k0 k1 k2 h) kv1 kv2 kv3 h
                          · replace h := h.2 c_220
                            refine mz_iconst (v := 0) F dL_law_524 (by decide) ?_
                            exact mz_zret F dL_law_525 rfl ⟨_, rfl, by decide, h⟩
                        · replace h := h.2 c_11
                          refine Classical.byCases (p := x_308 = (10 : Int32)) (fun c_12 => ?_) (fun c_12 => ?_)
                          · replace h := h.1 c_12
                            have ec_12 := mte (z := 10) rfl c_12
                            refine mz_tableIn (off := 486) (tgt := 526) F dL_law_40 (by omega) (by omega) (by rw [ec_12]; rfl) (by decide) ?_
                            refine mz_aload_n F dL_law_526 rfl 1 rfl ?_
                            refine mz_callV (As := []) (n := 0) F dL_law_527 rfl kv1 rfl rfl gL_law_X8_known (by decide +kernel) (by decide) rfl (Nat.le_of_ble_eq_true rfl) (kX8_known _ G kv1 h) (mz_kI fun r_205 u_204 h hx_203 => ?_)
                            replace kv1 := hx_203.2.2 _ _ (by decide) kv1
                            replace kv2 := hx_203.2.2 _ _ (by decide) kv2
                            replace kv3 := hx_203.2.2 _ _ (by decide) kv3
                            refine mz_aload_n F dL_law_530 rfl 2 rfl ?_
                            refine mz_callV (As := []) (n := 0) F dL_law_531 rfl kv2 rfl rfl gL_law_X9_known (by decide +kernel) (by decide) rfl (Nat.le_of_ble_eq_true rfl) (kX9_known _ G kv2 h) (mz_kI fun r_208 u_207 h hx_206 => ?_)
                            replace kv1 := hx_206.2.2 _ _ (by decide) kv1
                            replace kv2 := hx_206.2.2 _ _ (by decide) kv2
                            replace kv3 := hx_206.2.2 _ _ (by decide) kv3
                            refine mz_icmp_eq (tgt := 1113) F dL_law_534 (by decide) (fun c_209 => ?_) (fun c_209 => ?_)
                            · replace h := h.1 c_209
                              refine mz_sub [0, 1, 2, 3, 4] rfl ?_
                              exact tL_law_1113 F hN hX hLT (fun k0 k1 k2 h => ih k0 k1 k2 h) kv1 kv2 kv3 h
                            · replace h := h.2 c_209
                              refine mz_iconst (v := 0) F dL_law_537 (by decide) ?_
                              exact mz_zret F dL_law_538 rfl ⟨_, rfl, by decide, h⟩
                          · replace h := h.2 c_12
                            refine Classical.byCases (p := x_308 = (11 : Int32)) (fun c_13 => ?_) (fun c_13 => ?_)
                            · replace h := h.1 c_13
                              have ec_13 := mte (z := 11) rfl c_13
                              refine mz_tableIn (off := 499) (tgt := 539) F dL_law_40 (by omega) (by omega) (by rw [ec_13]; rfl) (by decide) ?_
                              refine mz_aload_n F dL_law_539 rfl 1 rfl ?_
                              refine mz_aload_n F dL_law_540 rfl 0 rfl ?_
                              refine mz_iload F dL_law_541 4 rfl ?_
                              refine mz_iconst (v := 1) F dL_law_543 (by decide) ?_
                              refine mz_iadd F dL_law_544 ?_
                              obtain ⟨b_192, h⟩ := h
                              refine mz_sld F hX dL_law_545 b_192 ?_
                              refine mz_aload_n F dL_law_546 rfl 0 rfl ?_
                              refine mz_iload F dL_law_547 4 rfl ?_
                              refine mz_iconst (v := 2) F dL_law_549 (by decide) ?_
                              refine mz_iadd F dL_law_550 ?_
                              obtain ⟨b_193, h⟩ := h
                              refine mz_sld F hX dL_law_551 b_193 ?_
                              refine mz_callV (As := [_, _]) (n := 2) F dL_law_552 rfl kv1 rfl rfl gL_law_X8_one (by decide +kernel) (by decide) rfl (Nat.le_of_ble_eq_true rfl) (kX8_one _ G kv1 h) (mz_kI fun r_196 u_195 h hx_194 => ?_)
                              replace kv1 := hx_194.2.2 _ _ (by decide) kv1
                              replace kv2 := hx_194.2.2 _ _ (by decide) kv2
                              replace kv3 := hx_194.2.2 _ _ (by decide) kv3
                              refine mz_aload_n F dL_law_555 rfl 2 rfl ?_
                              refine mz_aload_n F dL_law_556 rfl 0 rfl ?_
                              refine mz_iload F dL_law_557 4 rfl ?_
                              refine mz_iconst (v := 1) F dL_law_559 (by decide) ?_
                              refine mz_iadd F dL_law_560 ?_
                              obtain ⟨b_197, h⟩ := h
                              refine mz_sld F hX dL_law_561 b_197 ?_
                              refine mz_aload_n F dL_law_562 rfl 0 rfl ?_
                              refine mz_iload F dL_law_563 4 rfl ?_
                              refine mz_iconst (v := 2) F dL_law_565 (by decide) ?_
                              refine mz_iadd F dL_law_566 ?_
                              obtain ⟨b_198, h⟩ := h
                              refine mz_sld F hX dL_law_567 b_198 ?_
                              refine mz_callV (As := [_, _]) (n := 2) F dL_law_568 rfl kv2 rfl rfl gL_law_X9_one (by decide +kernel) (by decide) rfl (Nat.le_of_ble_eq_true rfl) (kX9_one _ G kv2 h) (mz_kI fun r_201 u_200 h hx_199 => ?_)
                              replace kv1 := hx_199.2.2 _ _ (by decide) kv1
                              replace kv2 := hx_199.2.2 _ _ (by decide) kv2
                              replace kv3 := hx_199.2.2 _ _ (by decide) kv3
                              refine mz_icmp_eq (tgt := 1113) F dL_law_571 (by decide) (fun c_202 => ?_) (fun c_202 => ?_)
                              · replace h := h.1 c_202
                                refine mz_sub [0, 1, 2, 3, 4] rfl ?_
                                exact tL_law_1113 F hN hX hLT (fun k0 k1 k2 h => ih k0 k1 k2 h) kv1 kv2 kv3 h
                              · replace h := h.2 c_202
                                refine mz_iconst (v := 0) F dL_law_574 (by decide) ?_
                                exact mz_zret F dL_law_575 rfl ⟨_, rfl, by decide, h⟩
                            · replace h := h.2 c_13
                              refine Classical.byCases (p := x_308 = (12 : Int32)) (fun c_14 => ?_) (fun c_14 => ?_)
                              · replace h := h.1 c_14
                                have ec_14 := mte (z := 12) rfl c_14
                                refine mz_tableIn (off := 536) (tgt := 576) F dL_law_40 (by omega) (by omega) (by rw [ec_14]; rfl) (by decide) ?_
                                refine mz_aload_n F dL_law_576 rfl 1 rfl ?_
                                refine mz_aload_n F dL_law_577 rfl 0 rfl ?_
                                refine mz_iload F dL_law_578 4 rfl ?_
                                refine mz_iconst (v := 1) F dL_law_580 (by decide) ?_
                                refine mz_iadd F dL_law_581 ?_
                                obtain ⟨b_181, h⟩ := h
                                refine mz_sld F hX dL_law_582 b_181 ?_
                                refine mz_aload_n F dL_law_583 rfl 0 rfl ?_
                                refine mz_iload F dL_law_584 4 rfl ?_
                                refine mz_iconst (v := 2) F dL_law_586 (by decide) ?_
                                refine mz_iadd F dL_law_587 ?_
                                obtain ⟨b_182, h⟩ := h
                                refine mz_sld F hX dL_law_588 b_182 ?_
                                refine mz_callV (As := [_, _]) (n := 2) F dL_law_589 rfl kv1 rfl rfl gL_law_X8_part (by decide +kernel) (by decide) rfl (Nat.le_of_ble_eq_true rfl) (kX8_part _ G kv1 h) (mz_kI fun r_185 u_184 h hx_183 => ?_)
                                replace kv1 := hx_183.2.2 _ _ (by decide) kv1
                                replace kv2 := hx_183.2.2 _ _ (by decide) kv2
                                replace kv3 := hx_183.2.2 _ _ (by decide) kv3
                                refine mz_aload_n F dL_law_592 rfl 2 rfl ?_
                                refine mz_aload_n F dL_law_593 rfl 0 rfl ?_
                                refine mz_iload F dL_law_594 4 rfl ?_
                                refine mz_iconst (v := 1) F dL_law_596 (by decide) ?_
                                refine mz_iadd F dL_law_597 ?_
                                obtain ⟨b_186, h⟩ := h
                                refine mz_sld F hX dL_law_598 b_186 ?_
                                refine mz_aload_n F dL_law_599 rfl 0 rfl ?_
                                refine mz_iload F dL_law_600 4 rfl ?_
                                refine mz_iconst (v := 2) F dL_law_602 (by decide) ?_
                                refine mz_iadd F dL_law_603 ?_
                                obtain ⟨b_187, h⟩ := h
                                refine mz_sld F hX dL_law_604 b_187 ?_
                                refine mz_callV (As := [_, _]) (n := 2) F dL_law_605 rfl kv2 rfl rfl gL_law_X9_part (by decide +kernel) (by decide) rfl (Nat.le_of_ble_eq_true rfl) (kX9_part _ G kv2 h) (mz_kI fun r_190 u_189 h hx_188 => ?_)
                                replace kv1 := hx_188.2.2 _ _ (by decide) kv1
                                replace kv2 := hx_188.2.2 _ _ (by decide) kv2
                                replace kv3 := hx_188.2.2 _ _ (by decide) kv3
                                refine mz_icmp_eq (tgt := 1113) F dL_law_608 (by decide) (fun c_191 => ?_) (fun c_191 => ?_)
                                · replace h := h.1 c_191
                                  refine mz_sub [0, 1, 2, 3, 4] rfl ?_
                                  exact tL_law_1113 F hN hX hLT (fun k0 k1 k2 h => ih k0 k1 k2 h) kv1 kv2 kv3 h
                                · replace h := h.2 c_191
                                  refine mz_iconst (v := 0) F dL_law_611 (by decide) ?_
                                  exact mz_zret F dL_law_612 rfl ⟨_, rfl, by decide, h⟩
                              · replace h := h.2 c_14
                                refine Classical.byCases (p := x_308 = (13 : Int32)) (fun c_15 => ?_) (fun c_15 => ?_)
                                · replace h := h.1 c_15
                                  have ec_15 := mte (z := 13) rfl c_15
                                  refine mz_tableIn (off := 573) (tgt := 613) F dL_law_40 (by omega) (by omega) (by rw [ec_15]; rfl) (by decide) ?_
                                  refine mz_aload_n F dL_law_613 rfl 1 rfl ?_
                                  refine mz_aload_n F dL_law_614 rfl 0 rfl ?_
                                  refine mz_iload F dL_law_615 4 rfl ?_
                                  refine mz_iconst (v := 1) F dL_law_617 (by decide) ?_
                                  refine mz_iadd F dL_law_618 ?_
                                  obtain ⟨b_172, h⟩ := h
                                  refine mz_sld F hX dL_law_619 b_172 ?_
                                  refine mz_callV (As := [_]) (n := 1) F dL_law_620 rfl kv1 rfl rfl gL_law_X8_next (by decide +kernel) (by decide) rfl (Nat.le_of_ble_eq_true rfl) (kX8_next _ G kv1 h) (mz_kI fun r_175 u_174 h hx_173 => ?_)
                                  replace kv1 := hx_173.2.2 _ _ (by decide) kv1
                                  replace kv2 := hx_173.2.2 _ _ (by decide) kv2
                                  replace kv3 := hx_173.2.2 _ _ (by decide) kv3
                                  refine mz_aload_n F dL_law_623 rfl 2 rfl ?_
                                  refine mz_aload_n F dL_law_624 rfl 0 rfl ?_
                                  refine mz_iload F dL_law_625 4 rfl ?_
                                  refine mz_iconst (v := 1) F dL_law_627 (by decide) ?_
                                  refine mz_iadd F dL_law_628 ?_
                                  obtain ⟨b_176, h⟩ := h
                                  refine mz_sld F hX dL_law_629 b_176 ?_
                                  refine mz_callV (As := [_]) (n := 1) F dL_law_630 rfl kv2 rfl rfl gL_law_X9_next (by decide +kernel) (by decide) rfl (Nat.le_of_ble_eq_true rfl) (kX9_next _ G kv2 h) (mz_kI fun r_179 u_178 h hx_177 => ?_)
                                  replace kv1 := hx_177.2.2 _ _ (by decide) kv1
                                  replace kv2 := hx_177.2.2 _ _ (by decide) kv2
                                  replace kv3 := hx_177.2.2 _ _ (by decide) kv3
                                  refine mz_icmp_eq (tgt := 1113) F dL_law_633 (by decide) (fun c_180 => ?_) (fun c_180 => ?_)
                                  · replace h := h.1 c_180
                                    refine mz_sub [0, 1, 2, 3, 4] rfl ?_
                                    exact tL_law_1113 F hN hX hLT (fun k0 k1 k2 h => ih k0 k1 k2 h) kv1 kv2 kv3 h
                                  · replace h := h.2 c_180
                                    refine mz_iconst (v := 0) F dL_law_636 (by decide) ?_
                                    exact mz_zret F dL_law_637 rfl ⟨_, rfl, by decide, h⟩
                                · replace h := h.2 c_15
                                  refine Classical.byCases (p := x_308 = (14 : Int32)) (fun c_16 => ?_) (fun c_16 => ?_)
                                  · replace h := h.1 c_16
                                    have ec_16 := mte (z := 14) rfl c_16
                                    refine mz_tableIn (off := 598) (tgt := 638) F dL_law_40 (by omega) (by omega) (by rw [ec_16]; rfl) (by decide) ?_
                                    refine mz_aload_n F dL_law_638 rfl 1 rfl ?_
                                    refine mz_aload_n F dL_law_639 rfl 0 rfl ?_
                                    refine mz_iload F dL_law_640 4 rfl ?_
                                    refine mz_iconst (v := 1) F dL_law_642 (by decide) ?_
                                    refine mz_iadd F dL_law_643 ?_
                                    obtain ⟨b_161, h⟩ := h
                                    refine mz_sld F hX dL_law_644 b_161 ?_
                                    refine mz_aload_n F dL_law_645 rfl 0 rfl ?_
                                    refine mz_iload F dL_law_646 4 rfl ?_
                                    refine mz_iconst (v := 2) F dL_law_648 (by decide) ?_
                                    refine mz_iadd F dL_law_649 ?_
                                    obtain ⟨b_162, h⟩ := h
                                    refine mz_sld F hX dL_law_650 b_162 ?_
                                    refine mz_callV (As := [_, _]) (n := 2) F dL_law_651 rfl kv1 rfl rfl gL_law_X8_go (by decide +kernel) (by decide) rfl (Nat.le_of_ble_eq_true rfl) (kX8_go _ G kv1 h) (mz_kI fun r_165 u_164 h hx_163 => ?_)
                                    replace kv1 := hx_163.2.2 _ _ (by decide) kv1
                                    replace kv2 := hx_163.2.2 _ _ (by decide) kv2
                                    replace kv3 := hx_163.2.2 _ _ (by decide) kv3
                                    refine mz_aload_n F dL_law_654 rfl 2 rfl ?_
                                    refine mz_aload_n F dL_law_655 rfl 0 rfl ?_
                                    refine mz_iload F dL_law_656 4 rfl ?_
                                    refine mz_iconst (v := 1) F dL_law_658 (by decide) ?_
                                    refine mz_iadd F dL_law_659 ?_
                                    obtain ⟨b_166, h⟩ := h
                                    refine mz_sld F hX dL_law_660 b_166 ?_
                                    refine mz_aload_n F dL_law_661 rfl 0 rfl ?_
                                    refine mz_iload F dL_law_662 4 rfl ?_
                                    refine mz_iconst (v := 2) F dL_law_664 (by decide) ?_
                                    refine mz_iadd F dL_law_665 ?_
                                    obtain ⟨b_167, h⟩ := h
                                    refine mz_sld F hX dL_law_666 b_167 ?_
                                    refine mz_callV (As := [_, _]) (n := 2) F dL_law_667 rfl kv2 rfl rfl gL_law_X9_go (by decide +kernel) (by decide) rfl (Nat.le_of_ble_eq_true rfl) (kX9_go _ G kv2 h) (mz_kI fun r_170 u_169 h hx_168 => ?_)
                                    replace kv1 := hx_168.2.2 _ _ (by decide) kv1
                                    replace kv2 := hx_168.2.2 _ _ (by decide) kv2
                                    replace kv3 := hx_168.2.2 _ _ (by decide) kv3
                                    refine mz_icmp_eq (tgt := 1113) F dL_law_670 (by decide) (fun c_171 => ?_) (fun c_171 => ?_)
                                    · replace h := h.1 c_171
                                      refine mz_sub [0, 1, 2, 3, 4] rfl ?_
                                      exact tL_law_1113 F hN hX hLT (fun k0 k1 k2 h => ih k0 k1 k2 h) kv1 kv2 kv3 h
                                    · replace h := h.2 c_171
                                      refine mz_iconst (v := 0) F dL_law_673 (by decide) ?_
                                      exact mz_zret F dL_law_674 rfl ⟨_, rfl, by decide, h⟩
                                  · replace h := h.2 c_16
                                    refine Classical.byCases (p := x_308 = (15 : Int32)) (fun c_17 => ?_) (fun c_17 => ?_)
                                    · replace h := h.1 c_17
                                      have ec_17 := mte (z := 15) rfl c_17
                                      refine mz_tableIn (off := 635) (tgt := 675) F dL_law_40 (by omega) (by omega) (by rw [ec_17]; rfl) (by decide) ?_
                                      refine mz_aload_n F dL_law_675 rfl 1 rfl ?_
                                      refine mz_aload_n F dL_law_676 rfl 0 rfl ?_
                                      refine mz_iload F dL_law_677 4 rfl ?_
                                      refine mz_iconst (v := 1) F dL_law_679 (by decide) ?_
                                      refine mz_iadd F dL_law_680 ?_
                                      obtain ⟨b_152, h⟩ := h
                                      refine mz_sld F hX dL_law_681 b_152 ?_
                                      refine mz_callV (As := [_]) (n := 1) F dL_law_682 rfl kv1 rfl rfl gL_law_X8_way (by decide +kernel) (by decide) rfl (Nat.le_of_ble_eq_true rfl) (kX8_way _ G kv1 h) (mz_kI fun r_155 u_154 h hx_153 => ?_)
                                      replace kv1 := hx_153.2.2 _ _ (by decide) kv1
                                      replace kv2 := hx_153.2.2 _ _ (by decide) kv2
                                      replace kv3 := hx_153.2.2 _ _ (by decide) kv3
                                      refine mz_aload_n F dL_law_685 rfl 2 rfl ?_
                                      refine mz_aload_n F dL_law_686 rfl 0 rfl ?_
                                      refine mz_iload F dL_law_687 4 rfl ?_
                                      refine mz_iconst (v := 1) F dL_law_689 (by decide) ?_
                                      refine mz_iadd F dL_law_690 ?_
                                      obtain ⟨b_156, h⟩ := h
                                      refine mz_sld F hX dL_law_691 b_156 ?_
                                      refine mz_callV (As := [_]) (n := 1) F dL_law_692 rfl kv2 rfl rfl gL_law_X9_way (by decide +kernel) (by decide) rfl (Nat.le_of_ble_eq_true rfl) (kX9_way _ G kv2 h) (mz_kI fun r_159 u_158 h hx_157 => ?_)
                                      replace kv1 := hx_157.2.2 _ _ (by decide) kv1
                                      replace kv2 := hx_157.2.2 _ _ (by decide) kv2
                                      replace kv3 := hx_157.2.2 _ _ (by decide) kv3
                                      refine mz_icmp_eq (tgt := 1113) F dL_law_695 (by decide) (fun c_160 => ?_) (fun c_160 => ?_)
                                      · replace h := h.1 c_160
                                        refine mz_sub [0, 1, 2, 3, 4] rfl ?_
                                        exact tL_law_1113 F hN hX hLT (fun k0 k1 k2 h => ih k0 k1 k2 h) kv1 kv2 kv3 h
                                      · replace h := h.2 c_160
                                        refine mz_iconst (v := 0) F dL_law_698 (by decide) ?_
                                        exact mz_zret F dL_law_699 rfl ⟨_, rfl, by decide, h⟩
                                    · replace h := h.2 c_17
                                      refine Classical.byCases (p := x_308 = (16 : Int32)) (fun c_18 => ?_) (fun c_18 => ?_)
                                      · replace h := h.1 c_18
                                        have ec_18 := mte (z := 16) rfl c_18
                                        refine mz_tableIn (off := 660) (tgt := 700) F dL_law_40 (by omega) (by omega) (by rw [ec_18]; rfl) (by decide) ?_
                                        refine mz_aload_n F dL_law_700 rfl 1 rfl ?_
                                        refine mz_aload_n F dL_law_701 rfl 0 rfl ?_
                                        refine mz_iload F dL_law_702 4 rfl ?_
                                        refine mz_iconst (v := 1) F dL_law_704 (by decide) ?_
                                        refine mz_iadd F dL_law_705 ?_
                                        obtain ⟨b_139, h⟩ := h
                                        refine mz_sld F hX dL_law_706 b_139 ?_
                                        refine mz_aload_n F dL_law_707 rfl 0 rfl ?_
                                        refine mz_iload F dL_law_708 4 rfl ?_
                                        refine mz_iconst (v := 2) F dL_law_710 (by decide) ?_
                                        refine mz_iadd F dL_law_711 ?_
                                        obtain ⟨b_140, h⟩ := h
                                        refine mz_sld F hX dL_law_712 b_140 ?_
                                        refine mz_aload_n F dL_law_713 rfl 0 rfl ?_
                                        refine mz_iload F dL_law_714 4 rfl ?_
                                        refine mz_iconst (v := 3) F dL_law_716 (by decide) ?_
                                        refine mz_iadd F dL_law_717 ?_
                                        obtain ⟨b_141, h⟩ := h
                                        refine mz_sld F hX dL_law_718 b_141 ?_
                                        refine mz_callV (As := [_, _, _]) (n := 3) F dL_law_719 rfl kv1 rfl rfl gL_law_X8_hand (by decide +kernel) (by decide) rfl (Nat.le_of_ble_eq_true rfl) (kX8_hand _ G kv1 h) (mz_kI fun r_144 u_143 h hx_142 => ?_)
                                        replace kv1 := hx_142.2.2 _ _ (by decide) kv1
                                        replace kv2 := hx_142.2.2 _ _ (by decide) kv2
                                        replace kv3 := hx_142.2.2 _ _ (by decide) kv3
                                        refine mz_aload_n F dL_law_722 rfl 2 rfl ?_
                                        refine mz_aload_n F dL_law_723 rfl 0 rfl ?_
                                        refine mz_iload F dL_law_724 4 rfl ?_
                                        refine mz_iconst (v := 1) F dL_law_726 (by decide) ?_
                                        refine mz_iadd F dL_law_727 ?_
                                        obtain ⟨b_145, h⟩ := h
                                        refine mz_sld F hX dL_law_728 b_145 ?_
                                        refine mz_aload_n F dL_law_729 rfl 0 rfl ?_
                                        refine mz_iload F dL_law_730 4 rfl ?_
                                        refine mz_iconst (v := 2) F dL_law_732 (by decide) ?_
                                        refine mz_iadd F dL_law_733 ?_
                                        obtain ⟨b_146, h⟩ := h
                                        refine mz_sld F hX dL_law_734 b_146 ?_
                                        refine mz_aload_n F dL_law_735 rfl 0 rfl ?_
                                        refine mz_iload F dL_law_736 4 rfl ?_
                                        refine mz_iconst (v := 3) F dL_law_738 (by decide) ?_
                                        refine mz_iadd F dL_law_739 ?_
                                        obtain ⟨b_147, h⟩ := h
                                        refine mz_sld F hX dL_law_740 b_147 ?_
                                        refine mz_callV (As := [_, _, _]) (n := 3) F dL_law_741 rfl kv2 rfl rfl gL_law_X9_hand (by decide +kernel) (by decide) rfl (Nat.le_of_ble_eq_true rfl) (kX9_hand _ G kv2 h) (mz_kI fun r_150 u_149 h hx_148 => ?_)
                                        replace kv1 := hx_148.2.2 _ _ (by decide) kv1
                                        replace kv2 := hx_148.2.2 _ _ (by decide) kv2
                                        replace kv3 := hx_148.2.2 _ _ (by decide) kv3
                                        refine mz_icmp_eq (tgt := 1113) F dL_law_744 (by decide) (fun c_151 => ?_) (fun c_151 => ?_)
                                        · replace h := h.1 c_151
                                          refine mz_sub [0, 1, 2, 3, 4] rfl ?_
                                          exact tL_law_1113 F hN hX hLT (fun k0 k1 k2 h => ih k0 k1 k2 h) kv1 kv2 kv3 h
                                        · replace h := h.2 c_151
                                          refine mz_iconst (v := 0) F dL_law_747 (by decide) ?_
                                          exact mz_zret F dL_law_748 rfl ⟨_, rfl, by decide, h⟩
                                      · replace h := h.2 c_18
                                        refine Classical.byCases (p := x_308 = (17 : Int32)) (fun c_19 => ?_) (fun c_19 => ?_)
                                        · replace h := h.1 c_19
                                          have ec_19 := mte (z := 17) rfl c_19
                                          refine mz_tableIn (off := 709) (tgt := 749) F dL_law_40 (by omega) (by omega) (by rw [ec_19]; rfl) (by decide) ?_
                                          refine mz_aload_n F dL_law_749 rfl 1 rfl ?_
                                          refine mz_callV (As := []) (n := 0) F dL_law_750 rfl kv1 rfl rfl gL_law_X8_fits (by decide +kernel) (by decide) rfl (Nat.le_of_ble_eq_true rfl) (kX8_fits _ G kv1 h) (mz_kI fun r_134 u_133 h hx_132 => ?_)
                                          replace kv1 := hx_132.2.2 _ _ (by decide) kv1
                                          replace kv2 := hx_132.2.2 _ _ (by decide) kv2
                                          replace kv3 := hx_132.2.2 _ _ (by decide) kv3
                                          refine mz_aload_n F dL_law_753 rfl 2 rfl ?_
                                          refine mz_callV (As := []) (n := 0) F dL_law_754 rfl kv2 rfl rfl gL_law_X9_fits_ (by decide +kernel) (by decide) rfl (Nat.le_of_ble_eq_true rfl) (kX9_fits_ _ G kv2 h) (mz_kI fun r_137 u_136 h hx_135 => ?_)
                                          replace kv1 := hx_135.2.2 _ _ (by decide) kv1
                                          replace kv2 := hx_135.2.2 _ _ (by decide) kv2
                                          replace kv3 := hx_135.2.2 _ _ (by decide) kv3
                                          refine mz_icmp_eq (tgt := 1113) F dL_law_757 (by decide) (fun c_138 => ?_) (fun c_138 => ?_)
                                          · replace h := h.1 c_138
                                            refine mz_sub [0, 1, 2, 3, 4] rfl ?_
                                            exact tL_law_1113 F hN hX hLT (fun k0 k1 k2 h => ih k0 k1 k2 h) kv1 kv2 kv3 h
                                          · replace h := h.2 c_138
                                            refine mz_iconst (v := 0) F dL_law_760 (by decide) ?_
                                            exact mz_zret F dL_law_761 rfl ⟨_, rfl, by decide, h⟩
                                        · replace h := h.2 c_19
                                          refine Classical.byCases (p := x_308 = (18 : Int32)) (fun c_20 => ?_) (fun c_20 => ?_)
                                          · replace h := h.1 c_20
                                            have ec_20 := mte (z := 18) rfl c_20
                                            refine mz_tableIn (off := 722) (tgt := 762) F dL_law_40 (by omega) (by omega) (by rw [ec_20]; rfl) (by decide) ?_
                                            refine mz_aload_n F dL_law_762 rfl 1 rfl ?_
                                            refine mz_aload_n F dL_law_763 rfl 0 rfl ?_
                                            refine mz_iload F dL_law_764 4 rfl ?_
                                            refine mz_iconst (v := 1) F dL_law_766 (by decide) ?_
                                            refine mz_iadd F dL_law_767 ?_
                                            obtain ⟨b_123, h⟩ := h
                                            refine mz_sld F hX dL_law_768 b_123 ?_
                                            refine mz_callV (As := [_]) (n := 1) F dL_law_769 rfl kv1 rfl rfl gL_law_X8_isTrue (by decide +kernel) (by decide) rfl (Nat.le_of_ble_eq_true rfl) (kX8_isTrue _ G kv1 h) (mz_kI fun r_126 u_125 h hx_124 => ?_)
                                            replace kv1 := hx_124.2.2 _ _ (by decide) kv1
                                            replace kv2 := hx_124.2.2 _ _ (by decide) kv2
                                            replace kv3 := hx_124.2.2 _ _ (by decide) kv3
                                            refine mz_aload_n F dL_law_772 rfl 2 rfl ?_
                                            refine mz_aload_n F dL_law_773 rfl 0 rfl ?_
                                            refine mz_iload F dL_law_774 4 rfl ?_
                                            refine mz_iconst (v := 1) F dL_law_776 (by decide) ?_
                                            refine mz_iadd F dL_law_777 ?_
                                            obtain ⟨b_127, h⟩ := h
                                            refine mz_sld F hX dL_law_778 b_127 ?_
                                            refine mz_callV (As := [_]) (n := 1) F dL_law_779 rfl kv2 rfl rfl gL_law_X9_isTrue (by decide +kernel) (by decide) rfl (Nat.le_of_ble_eq_true rfl) (kX9_isTrue _ G kv2 h) (mz_kI fun r_130 u_129 h hx_128 => ?_)
                                            replace kv1 := hx_128.2.2 _ _ (by decide) kv1
                                            replace kv2 := hx_128.2.2 _ _ (by decide) kv2
                                            replace kv3 := hx_128.2.2 _ _ (by decide) kv3
                                            refine mz_icmp_eq (tgt := 1113) F dL_law_782 (by decide) (fun c_131 => ?_) (fun c_131 => ?_)
                                            · replace h := h.1 c_131
                                              refine mz_sub [0, 1, 2, 3, 4] rfl ?_
                                              exact tL_law_1113 F hN hX hLT (fun k0 k1 k2 h => ih k0 k1 k2 h) kv1 kv2 kv3 h
                                            · replace h := h.2 c_131
                                              refine mz_iconst (v := 0) F dL_law_785 (by decide) ?_
                                              exact mz_zret F dL_law_786 rfl ⟨_, rfl, by decide, h⟩
                                          · replace h := h.2 c_20
                                            refine Classical.byCases (p := x_308 = (19 : Int32)) (fun c_21 => ?_) (fun c_21 => ?_)
                                            · replace h := h.1 c_21
                                              have ec_21 := mte (z := 19) rfl c_21
                                              refine mz_tableIn (off := 747) (tgt := 787) F dL_law_40 (by omega) (by omega) (by rw [ec_21]; rfl) (by decide) ?_
                                              refine mz_aload_n F dL_law_787 rfl 1 rfl ?_
                                              refine mz_aload_n F dL_law_788 rfl 0 rfl ?_
                                              refine mz_iload F dL_law_789 4 rfl ?_
                                              refine mz_iconst (v := 1) F dL_law_791 (by decide) ?_
                                              refine mz_iadd F dL_law_792 ?_
                                              obtain ⟨b_114, h⟩ := h
                                              refine mz_sld F hX dL_law_793 b_114 ?_
                                              refine mz_callV (As := [_]) (n := 1) F dL_law_794 rfl kv1 rfl rfl gL_law_X8_count (by decide +kernel) (by decide) rfl (Nat.le_of_ble_eq_true rfl) (kX8_count _ G kv1 h) (mz_kI fun r_117 u_116 h hx_115 => ?_)
                                              replace kv1 := hx_115.2.2 _ _ (by decide) kv1
                                              replace kv2 := hx_115.2.2 _ _ (by decide) kv2
                                              replace kv3 := hx_115.2.2 _ _ (by decide) kv3
                                              refine mz_aload_n F dL_law_797 rfl 2 rfl ?_
                                              refine mz_aload_n F dL_law_798 rfl 0 rfl ?_
                                              refine mz_iload F dL_law_799 4 rfl ?_
                                              refine mz_iconst (v := 1) F dL_law_801 (by decide) ?_
                                              refine mz_iadd F dL_law_802 ?_
                                              obtain ⟨b_118, h⟩ := h
                                              refine mz_sld F hX dL_law_803 b_118 ?_
                                              refine mz_callV (As := [_]) (n := 1) F dL_law_804 rfl kv2 rfl rfl gL_law_X9_count (by decide +kernel) (by decide) rfl (Nat.le_of_ble_eq_true rfl) (kX9_count _ G kv2 h) (mz_kI fun r_121 u_120 h hx_119 => ?_)
                                              replace kv1 := hx_119.2.2 _ _ (by decide) kv1
                                              replace kv2 := hx_119.2.2 _ _ (by decide) kv2
                                              replace kv3 := hx_119.2.2 _ _ (by decide) kv3
                                              refine mz_icmp_eq (tgt := 1113) F dL_law_807 (by decide) (fun c_122 => ?_) (fun c_122 => ?_)
                                              · replace h := h.1 c_122
                                                refine mz_sub [0, 1, 2, 3, 4] rfl ?_
                                                exact tL_law_1113 F hN hX hLT (fun k0 k1 k2 h => ih k0 k1 k2 h) kv1 kv2 kv3 h
                                              · replace h := h.2 c_122
                                                refine mz_iconst (v := 0) F dL_law_810 (by decide) ?_
                                                exact mz_zret F dL_law_811 rfl ⟨_, rfl, by decide, h⟩
                                            · replace h := h.2 c_21
                                              refine Classical.byCases (p := x_308 = (20 : Int32)) (fun c_22 => ?_) (fun c_22 => ?_)
                                              · replace h := h.1 c_22
                                                have ec_22 := mte (z := 20) rfl c_22
                                                refine mz_tableIn (off := 772) (tgt := 812) F dL_law_40 (by omega) (by omega) (by rw [ec_22]; rfl) (by decide) ?_
                                                refine mz_aload_n F dL_law_812 rfl 1 rfl ?_
                                                refine mz_callV (As := []) (n := 0) F dL_law_813 rfl kv1 rfl rfl gL_law_X8_reached (by decide +kernel) (by decide) rfl (Nat.le_of_ble_eq_true rfl) (kX8_reached _ G kv1 h) (mz_kI fun r_109 u_108 h hx_107 => ?_)
                                                replace kv1 := hx_107.2.2 _ _ (by decide) kv1
                                                replace kv2 := hx_107.2.2 _ _ (by decide) kv2
                                                replace kv3 := hx_107.2.2 _ _ (by decide) kv3
                                                refine mz_aload_n F dL_law_816 rfl 2 rfl ?_
                                                refine mz_callV (As := []) (n := 0) F dL_law_817 rfl kv2 rfl rfl gL_law_X9_reached (by decide +kernel) (by decide) rfl (Nat.le_of_ble_eq_true rfl) (kX9_reached _ G kv2 h) (mz_kI fun r_112 u_111 h hx_110 => ?_)
                                                replace kv1 := hx_110.2.2 _ _ (by decide) kv1
                                                replace kv2 := hx_110.2.2 _ _ (by decide) kv2
                                                replace kv3 := hx_110.2.2 _ _ (by decide) kv3
                                                refine mz_icmp_eq (tgt := 1113) F dL_law_820 (by decide) (fun c_113 => ?_) (fun c_113 => ?_)
                                                · replace h := h.1 c_113
                                                  refine mz_sub [0, 1, 2, 3, 4] rfl ?_
                                                  exact tL_law_1113 F hN hX hLT (fun k0 k1 k2 h => ih k0 k1 k2 h) kv1 kv2 kv3 h
                                                · replace h := h.2 c_113
                                                  refine mz_iconst (v := 0) F dL_law_823 (by decide) ?_
                                                  exact mz_zret F dL_law_824 rfl ⟨_, rfl, by decide, h⟩
                                              · replace h := h.2 c_22
                                                refine Classical.byCases (p := x_308 = (21 : Int32)) (fun c_23 => ?_) (fun c_23 => ?_)
                                                · replace h := h.1 c_23
                                                  have ec_23 := mte (z := 21) rfl c_23
                                                  refine mz_tableIn (off := 785) (tgt := 825) F dL_law_40 (by omega) (by omega) (by rw [ec_23]; rfl) (by decide) ?_
                                                  refine mz_aload_n F dL_law_825 rfl 1 rfl ?_
                                                  refine mz_aload_n F dL_law_826 rfl 0 rfl ?_
                                                  refine mz_iload F dL_law_827 4 rfl ?_
                                                  refine mz_iconst (v := 1) F dL_law_829 (by decide) ?_
                                                  refine mz_iadd F dL_law_830 ?_
                                                  obtain ⟨b_94, h⟩ := h
                                                  refine mz_sld F hX dL_law_831 b_94 ?_
                                                  refine mz_aload_n F dL_law_832 rfl 0 rfl ?_
                                                  refine mz_iload F dL_law_833 4 rfl ?_
                                                  refine mz_iconst (v := 2) F dL_law_835 (by decide) ?_
                                                  refine mz_iadd F dL_law_836 ?_
                                                  obtain ⟨b_95, h⟩ := h
                                                  refine mz_sld F hX dL_law_837 b_95 ?_
                                                  refine mz_aload_n F dL_law_838 rfl 0 rfl ?_
                                                  refine mz_iload F dL_law_839 4 rfl ?_
                                                  refine mz_iconst (v := 3) F dL_law_841 (by decide) ?_
                                                  refine mz_iadd F dL_law_842 ?_
                                                  obtain ⟨b_96, h⟩ := h
                                                  refine mz_sld F hX dL_law_843 b_96 ?_
                                                  refine mz_callV (As := [_, _, _]) (n := 3) F dL_law_844 rfl kv1 rfl rfl gL_law_X8_keep (by decide +kernel) (by decide) rfl (Nat.le_of_ble_eq_true rfl) (kX8_keep _ G kv1 h) (mz_kI fun r_99 u_98 h hx_97 => ?_)
                                                  replace kv1 := hx_97.2.2 _ _ (by decide) kv1
                                                  replace kv2 := hx_97.2.2 _ _ (by decide) kv2
                                                  replace kv3 := hx_97.2.2 _ _ (by decide) kv3
                                                  refine mz_aload_n F dL_law_847 rfl 2 rfl ?_
                                                  refine mz_aload_n F dL_law_848 rfl 0 rfl ?_
                                                  refine mz_iload F dL_law_849 4 rfl ?_
                                                  refine mz_iconst (v := 1) F dL_law_851 (by decide) ?_
                                                  refine mz_iadd F dL_law_852 ?_
                                                  obtain ⟨b_100, h⟩ := h
                                                  refine mz_sld F hX dL_law_853 b_100 ?_
                                                  refine mz_aload_n F dL_law_854 rfl 0 rfl ?_
                                                  refine mz_iload F dL_law_855 4 rfl ?_
                                                  refine mz_iconst (v := 2) F dL_law_857 (by decide) ?_
                                                  refine mz_iadd F dL_law_858 ?_
                                                  obtain ⟨b_101, h⟩ := h
                                                  refine mz_sld F hX dL_law_859 b_101 ?_
                                                  refine mz_aload_n F dL_law_860 rfl 0 rfl ?_
                                                  refine mz_iload F dL_law_861 4 rfl ?_
                                                  refine mz_iconst (v := 3) F dL_law_863 (by decide) ?_
                                                  refine mz_iadd F dL_law_864 ?_
                                                  obtain ⟨b_102, h⟩ := h
                                                  refine mz_sld F hX dL_law_865 b_102 ?_
                                                  refine mz_callV (As := [_, _, _]) (n := 3) F dL_law_866 rfl kv2 rfl rfl gL_law_X9_keep (by decide +kernel) (by decide) rfl (Nat.le_of_ble_eq_true rfl) (kX9_keep _ G kv2 h) (mz_kI fun r_105 u_104 h hx_103 => ?_)
                                                  replace kv1 := hx_103.2.2 _ _ (by decide) kv1
                                                  replace kv2 := hx_103.2.2 _ _ (by decide) kv2
                                                  replace kv3 := hx_103.2.2 _ _ (by decide) kv3
                                                  refine mz_icmp_eq (tgt := 1113) F dL_law_869 (by decide) (fun c_106 => ?_) (fun c_106 => ?_)
                                                  · replace h := h.1 c_106
                                                    refine mz_sub [0, 1, 2, 3, 4] rfl ?_
                                                    exact tL_law_1113 F hN hX hLT (fun k0 k1 k2 h => ih k0 k1 k2 h) kv1 kv2 kv3 h
                                                  · replace h := h.2 c_106
                                                    refine mz_iconst (v := 0) F dL_law_872 (by decide) ?_
                                                    exact mz_zret F dL_law_873 rfl ⟨_, rfl, by decide, h⟩
                                                · replace h := h.2 c_23
                                                  refine Classical.byCases (p := x_308 = (22 : Int32)) (fun c_24 => ?_) (fun c_24 => ?_)
                                                  · replace h := h.1 c_24
                                                    have ec_24 := mte (z := 22) rfl c_24
                                                    refine mz_tableIn (off := 834) (tgt := 874) F dL_law_40 (by omega) (by omega) (by rw [ec_24]; rfl) (by decide) ?_
                                                    refine mz_aload_n F dL_law_874 rfl 1 rfl ?_
                                                    refine mz_aload_n F dL_law_875 rfl 0 rfl ?_
                                                    refine mz_iload F dL_law_876 4 rfl ?_
                                                    refine mz_iconst (v := 1) F dL_law_878 (by decide) ?_
                                                    refine mz_iadd F dL_law_879 ?_
                                                    obtain ⟨b_81, h⟩ := h
                                                    refine mz_sld F hX dL_law_880 b_81 ?_
                                                    refine mz_aload_n F dL_law_881 rfl 0 rfl ?_
                                                    refine mz_iload F dL_law_882 4 rfl ?_
                                                    refine mz_iconst (v := 2) F dL_law_884 (by decide) ?_
                                                    refine mz_iadd F dL_law_885 ?_
                                                    obtain ⟨b_82, h⟩ := h
                                                    refine mz_sld F hX dL_law_886 b_82 ?_
                                                    refine mz_aload_n F dL_law_887 rfl 0 rfl ?_
                                                    refine mz_iload F dL_law_888 4 rfl ?_
                                                    refine mz_iconst (v := 3) F dL_law_890 (by decide) ?_
                                                    refine mz_iadd F dL_law_891 ?_
                                                    obtain ⟨b_83, h⟩ := h
                                                    refine mz_sld F hX dL_law_892 b_83 ?_
                                                    refine mz_callV (As := [_, _, _]) (n := 3) F dL_law_893 rfl kv1 rfl rfl gL_law_X8_make (by decide +kernel) (by decide) rfl (Nat.le_of_ble_eq_true rfl) (kX8_make _ G kv1 h) (mz_kI fun r_86 u_85 h hx_84 => ?_)
                                                    replace kv1 := hx_84.2.2 _ _ (by decide) kv1
                                                    replace kv2 := hx_84.2.2 _ _ (by decide) kv2
                                                    replace kv3 := hx_84.2.2 _ _ (by decide) kv3
                                                    refine mz_aload_n F dL_law_896 rfl 2 rfl ?_
                                                    refine mz_aload_n F dL_law_897 rfl 0 rfl ?_
                                                    refine mz_iload F dL_law_898 4 rfl ?_
                                                    refine mz_iconst (v := 1) F dL_law_900 (by decide) ?_
                                                    refine mz_iadd F dL_law_901 ?_
                                                    obtain ⟨b_87, h⟩ := h
                                                    refine mz_sld F hX dL_law_902 b_87 ?_
                                                    refine mz_aload_n F dL_law_903 rfl 0 rfl ?_
                                                    refine mz_iload F dL_law_904 4 rfl ?_
                                                    refine mz_iconst (v := 2) F dL_law_906 (by decide) ?_
                                                    refine mz_iadd F dL_law_907 ?_
                                                    obtain ⟨b_88, h⟩ := h
                                                    refine mz_sld F hX dL_law_908 b_88 ?_
                                                    refine mz_aload_n F dL_law_909 rfl 0 rfl ?_
                                                    refine mz_iload F dL_law_910 4 rfl ?_
                                                    refine mz_iconst (v := 3) F dL_law_912 (by decide) ?_
                                                    refine mz_iadd F dL_law_913 ?_
                                                    obtain ⟨b_89, h⟩ := h
                                                    refine mz_sld F hX dL_law_914 b_89 ?_
                                                    refine mz_callV (As := [_, _, _]) (n := 3) F dL_law_915 rfl kv2 rfl rfl gL_law_X9_make (by decide +kernel) (by decide) rfl (Nat.le_of_ble_eq_true rfl) (kX9_make _ G kv2 h) (mz_kI fun r_92 u_91 h hx_90 => ?_)
                                                    replace kv1 := hx_90.2.2 _ _ (by decide) kv1
                                                    replace kv2 := hx_90.2.2 _ _ (by decide) kv2
                                                    replace kv3 := hx_90.2.2 _ _ (by decide) kv3
                                                    refine mz_icmp_eq (tgt := 1113) F dL_law_918 (by decide) (fun c_93 => ?_) (fun c_93 => ?_)
                                                    · replace h := h.1 c_93
                                                      refine mz_sub [0, 1, 2, 3, 4] rfl ?_
                                                      exact tL_law_1113 F hN hX hLT (fun k0 k1 k2 h => ih k0 k1 k2 h) kv1 kv2 kv3 h
                                                    · replace h := h.2 c_93
                                                      refine mz_iconst (v := 0) F dL_law_921 (by decide) ?_
                                                      exact mz_zret F dL_law_922 rfl ⟨_, rfl, by decide, h⟩
                                                  · replace h := h.2 c_24
                                                    refine Classical.byCases (p := x_308 = (23 : Int32)) (fun c_25 => ?_) (fun c_25 => ?_)
                                                    · replace h := h.1 c_25
                                                      have ec_25 := mte (z := 23) rfl c_25
                                                      refine mz_tableIn (off := 883) (tgt := 923) F dL_law_40 (by omega) (by omega) (by rw [ec_25]; rfl) (by decide) ?_
                                                      refine mz_aload_n F dL_law_923 rfl 1 rfl ?_
                                                      refine mz_aload_n F dL_law_924 rfl 0 rfl ?_
                                                      refine mz_iload F dL_law_925 4 rfl ?_
                                                      refine mz_iconst (v := 1) F dL_law_927 (by decide) ?_
                                                      refine mz_iadd F dL_law_928 ?_
                                                      obtain ⟨b_64, h⟩ := h
                                                      refine mz_sld F hX dL_law_929 b_64 ?_
                                                      refine mz_aload_n F dL_law_930 rfl 0 rfl ?_
                                                      refine mz_iload F dL_law_931 4 rfl ?_
                                                      refine mz_iconst (v := 2) F dL_law_933 (by decide) ?_
                                                      refine mz_iadd F dL_law_934 ?_
                                                      obtain ⟨b_65, h⟩ := h
                                                      refine mz_sld F hX dL_law_935 b_65 ?_
                                                      refine mz_aload_n F dL_law_936 rfl 3 rfl ?_
                                                      refine mz_callSW (As := [_, _, _, _]) (n := 4) F dL_law_937 rfl gL_law_L_element (by decide +kernel) (by decide) rfl (Nat.le_of_ble_eq_true rfl) (kL_element _ hLT G kv1 kv3 h) (mz_kI fun r_68 u_67 h hx_66 => ?_)
                                                      replace kv1 := hx_66.2.2 _ _ (by decide) kv1
                                                      replace kv2 := hx_66.2.2 _ _ (by decide) kv2
                                                      replace kv3 := hx_66.2.2 _ _ (by decide) kv3
                                                      refine mz_istore (lv2 := [(5, .int r_68), (0, .ref b), (1, .ref (G.1 + v1)), (2, .ref (G.1 + v2)), (3, .ref (G.1 + v3)), (4, .int v4)]) F dL_law_940 hN (by decide) rfl ?_
                                                      refine mz_aload_n F dL_law_942 rfl 3 rfl ?_
                                                      refine mz_aload_n F dL_law_943 rfl 1 rfl ?_
                                                      refine mz_iload F dL_law_944 5 rfl ?_
                                                      refine mz_iconst (v := 1) F dL_law_946 (by decide) ?_
                                                      refine mz_iadd F dL_law_947 ?_
                                                      obtain ⟨b_69, h⟩ := h
                                                      refine mz_sld F hX dL_law_948 b_69 ?_
                                                      refine mz_aload_n F dL_law_949 rfl 1 rfl ?_
                                                      refine mz_iload F dL_law_950 5 rfl ?_
                                                      refine mz_iconst (v := 2) F dL_law_952 (by decide) ?_
                                                      refine mz_iadd F dL_law_953 ?_
                                                      obtain ⟨b_70, h⟩ := h
                                                      refine mz_sld F hX dL_law_954 b_70 ?_
                                                      refine mz_callV (As := [_, _]) (n := 2) F dL_law_955 rfl kv2 rfl rfl gL_law_X9_element (by decide +kernel) (by decide) rfl (Nat.le_of_ble_eq_true rfl) (kX9_element _ G kv2 h) (mz_kL fun r_73 u_72 h hx_71 => ?_)
                                                      replace kv1 := hx_71.2.2 _ _ (by decide) kv1
                                                      replace kv2 := hx_71.2.2 _ _ (by decide) kv2
                                                      replace kv3 := hx_71.2.2 _ _ (by decide) kv3
                                                      refine mz_lstore (lv2 := [(6, .long r_73), (5, .int r_68), (0, .ref b), (1, .ref (G.1 + v1)), (2, .ref (G.1 + v2)), (3, .ref (G.1 + v3)), (4, .int v4)]) F dL_law_958 hN (by decide) rfl ?_
                                                      refine mz_aload_n F dL_law_960 rfl 4 rfl ?_
                                                      refine mz_callV (As := []) (n := 0) F dL_law_961 rfl kv2 rfl rfl gL_law_X9_thrown (by decide +kernel) (by decide) rfl (Nat.le_of_ble_eq_true rfl) (kX9_thrown _ G kv2 h) (mz_kI fun r_76 u_75 h hx_74 => ?_)
                                                      replace kv1 := hx_74.2.2 _ _ (by decide) kv1
                                                      replace kv2 := hx_74.2.2 _ _ (by decide) kv2
                                                      replace kv3 := hx_74.2.2 _ _ (by decide) kv3
                                                      refine mz_iload F dL_law_964 1 rfl ?_
                                                      refine mz_icmp_eq (tgt := 971) F dL_law_966 (by decide) (fun c_80 => ?_) (fun c_80 => ?_)
                                                      · replace h := h.1 c_80
                                                        refine mz_iload F dL_law_971 1 rfl ?_
                                                        refine mz_if_ne (tgt := 987) F dL_law_973 (by decide) (fun c_79 => ?_) (fun c_79 => ?_)
                                                        · replace h := h.2 c_79
                                                          refine mz_sub [2, 3, 4, 5, 6] rfl ?_
                                                          exact tL_law_987 F hN hX hLT (fun k0 k1 k2 h => ih k0 k1 k2 h) kv1 kv2 kv3 h
                                                        · replace h := h.1 c_79
                                                          refine mz_aload_n F dL_law_976 rfl 5 rfl ?_
                                                          refine mz_iconst (v := 0) F dL_law_977 (by decide) ?_
                                                          obtain ⟨b_77, h⟩ := h
                                                          refine mz_lald F dL_law_978 kv3 rfl b_77 ?_
                                                          refine mz_lload F dL_law_979 0 rfl ?_
                                                          refine mz_lcmp F dL_law_981 ?_
                                                          refine mz_if_eq (tgt := 987) F dL_law_982 (by decide) (fun c_78 => ?_) (fun c_78 => ?_)
                                                          · replace h := h.1 c_78
                                                            refine mz_sub [2, 3, 4, 5, 6] rfl ?_
                                                            exact tL_law_987 F hN hX hLT (fun k0 k1 k2 h => ih k0 k1 k2 h) kv1 kv2 kv3 h
                                                          · replace h := h.2 c_78
                                                            refine mz_iconst (v := 0) F dL_law_985 (by decide) ?_
                                                            exact mz_zret F dL_law_986 rfl ⟨_, rfl, by decide, h⟩
                                                      · replace h := h.2 c_80
                                                        refine mz_iconst (v := 0) F dL_law_969 (by decide) ?_
                                                        exact mz_zret F dL_law_970 rfl ⟨_, rfl, by decide, h⟩
                                                    · replace h := h.2 c_25
                                                      refine Classical.byCases (p := x_308 = (24 : Int32)) (fun c_26 => ?_) (fun c_26 => ?_)
                                                      · replace h := h.1 c_26
                                                        have ec_26 := mte (z := 24) rfl c_26
                                                        refine mz_tableIn (off := 950) (tgt := 990) F dL_law_40 (by omega) (by omega) (by rw [ec_26]; rfl) (by decide) ?_
                                                        refine mz_aload_n F dL_law_990 rfl 1 rfl ?_
                                                        refine mz_aload_n F dL_law_991 rfl 0 rfl ?_
                                                        refine mz_iload F dL_law_992 4 rfl ?_
                                                        refine mz_iconst (v := 1) F dL_law_994 (by decide) ?_
                                                        refine mz_iadd F dL_law_995 ?_
                                                        obtain ⟨b_47, h⟩ := h
                                                        refine mz_sld F hX dL_law_996 b_47 ?_
                                                        refine mz_aload_n F dL_law_997 rfl 0 rfl ?_
                                                        refine mz_iload F dL_law_998 4 rfl ?_
                                                        refine mz_iconst (v := 2) F dL_law_1000 (by decide) ?_
                                                        refine mz_iadd F dL_law_1001 ?_
                                                        obtain ⟨b_48, h⟩ := h
                                                        refine mz_sld F hX dL_law_1002 b_48 ?_
                                                        refine mz_aload_n F dL_law_1003 rfl 0 rfl ?_
                                                        refine mz_iload F dL_law_1004 4 rfl ?_
                                                        refine mz_iconst (v := 3) F dL_law_1006 (by decide) ?_
                                                        refine mz_iadd F dL_law_1007 ?_
                                                        obtain ⟨b_49, h⟩ := h
                                                        refine mz_sld F hX dL_law_1008 b_49 ?_
                                                        refine mz_aload_n F dL_law_1009 rfl 0 rfl ?_
                                                        refine mz_iload F dL_law_1010 4 rfl ?_
                                                        refine mz_iconst (v := 4) F dL_law_1012 (by decide) ?_
                                                        refine mz_iadd F dL_law_1013 ?_
                                                        obtain ⟨b_50, h⟩ := h
                                                        refine mz_sld F hX dL_law_1014 b_50 ?_
                                                        refine mz_aload_n F dL_law_1015 rfl 0 rfl ?_
                                                        refine mz_iload F dL_law_1016 4 rfl ?_
                                                        refine mz_iconst (v := 5) F dL_law_1018 (by decide) ?_
                                                        refine mz_iadd F dL_law_1019 ?_
                                                        obtain ⟨b_51, h⟩ := h
                                                        refine mz_sld F hX dL_law_1020 b_51 ?_
                                                        refine mz_callV (As := [_, _, _, _, _]) (n := 5) F dL_law_1021 rfl kv1 rfl rfl gL_law_X8_copy (by decide +kernel) (by decide) rfl (Nat.le_of_ble_eq_true rfl) (kX8_copy _ G kv1 h) (mz_kI fun r_54 u_53 h hx_52 => ?_)
                                                        replace kv1 := hx_52.2.2 _ _ (by decide) kv1
                                                        replace kv2 := hx_52.2.2 _ _ (by decide) kv2
                                                        replace kv3 := hx_52.2.2 _ _ (by decide) kv3
                                                        refine mz_aload_n F dL_law_1024 rfl 2 rfl ?_
                                                        refine mz_aload_n F dL_law_1025 rfl 0 rfl ?_
                                                        refine mz_iload F dL_law_1026 4 rfl ?_
                                                        refine mz_iconst (v := 1) F dL_law_1028 (by decide) ?_
                                                        refine mz_iadd F dL_law_1029 ?_
                                                        obtain ⟨b_55, h⟩ := h
                                                        refine mz_sld F hX dL_law_1030 b_55 ?_
                                                        refine mz_aload_n F dL_law_1031 rfl 0 rfl ?_
                                                        refine mz_iload F dL_law_1032 4 rfl ?_
                                                        refine mz_iconst (v := 2) F dL_law_1034 (by decide) ?_
                                                        refine mz_iadd F dL_law_1035 ?_
                                                        obtain ⟨b_56, h⟩ := h
                                                        refine mz_sld F hX dL_law_1036 b_56 ?_
                                                        refine mz_aload_n F dL_law_1037 rfl 0 rfl ?_
                                                        refine mz_iload F dL_law_1038 4 rfl ?_
                                                        refine mz_iconst (v := 3) F dL_law_1040 (by decide) ?_
                                                        refine mz_iadd F dL_law_1041 ?_
                                                        obtain ⟨b_57, h⟩ := h
                                                        refine mz_sld F hX dL_law_1042 b_57 ?_
                                                        refine mz_aload_n F dL_law_1043 rfl 0 rfl ?_
                                                        refine mz_iload F dL_law_1044 4 rfl ?_
                                                        refine mz_iconst (v := 4) F dL_law_1046 (by decide) ?_
                                                        refine mz_iadd F dL_law_1047 ?_
                                                        obtain ⟨b_58, h⟩ := h
                                                        refine mz_sld F hX dL_law_1048 b_58 ?_
                                                        refine mz_aload_n F dL_law_1049 rfl 0 rfl ?_
                                                        refine mz_iload F dL_law_1050 4 rfl ?_
                                                        refine mz_iconst (v := 5) F dL_law_1052 (by decide) ?_
                                                        refine mz_iadd F dL_law_1053 ?_
                                                        obtain ⟨b_59, h⟩ := h
                                                        refine mz_sld F hX dL_law_1054 b_59 ?_
                                                        refine mz_callV (As := [_, _, _, _, _]) (n := 5) F dL_law_1055 rfl kv2 rfl rfl gL_law_X9_copy (by decide +kernel) (by decide) rfl (Nat.le_of_ble_eq_true rfl) (kX9_copy _ G kv2 h) (mz_kI fun r_62 u_61 h hx_60 => ?_)
                                                        replace kv1 := hx_60.2.2 _ _ (by decide) kv1
                                                        replace kv2 := hx_60.2.2 _ _ (by decide) kv2
                                                        replace kv3 := hx_60.2.2 _ _ (by decide) kv3
                                                        refine mz_icmp_eq (tgt := 1113) F dL_law_1058 (by decide) (fun c_63 => ?_) (fun c_63 => ?_)
                                                        · replace h := h.1 c_63
                                                          refine mz_sub [0, 1, 2, 3, 4] rfl ?_
                                                          exact tL_law_1113 F hN hX hLT (fun k0 k1 k2 h => ih k0 k1 k2 h) kv1 kv2 kv3 h
                                                        · replace h := h.2 c_63
                                                          refine mz_iconst (v := 0) F dL_law_1061 (by decide) ?_
                                                          exact mz_zret F dL_law_1062 rfl ⟨_, rfl, by decide, h⟩
                                                      · replace h := h.2 c_26
                                                        refine Classical.byCases (p := x_308 = (25 : Int32)) (fun c_27 => ?_) (fun c_27 => ?_)
                                                        · replace h := h.1 c_27
                                                          have ec_27 := mte (z := 25) rfl c_27
                                                          refine mz_tableIn (off := 1023) (tgt := 1063) F dL_law_40 (by omega) (by omega) (by rw [ec_27]; rfl) (by decide) ?_
                                                          refine mz_aload_n F dL_law_1063 rfl 1 rfl ?_
                                                          refine mz_aload_n F dL_law_1064 rfl 0 rfl ?_
                                                          refine mz_iload F dL_law_1065 4 rfl ?_
                                                          refine mz_iconst (v := 1) F dL_law_1067 (by decide) ?_
                                                          refine mz_iadd F dL_law_1068 ?_
                                                          obtain ⟨b_38, h⟩ := h
                                                          refine mz_sld F hX dL_law_1069 b_38 ?_
                                                          refine mz_callV (As := [_]) (n := 1) F dL_law_1070 rfl kv1 rfl rfl gL_law_X8_weight (by decide +kernel) (by decide) rfl (Nat.le_of_ble_eq_true rfl) (kX8_weight _ G kv1 h) (mz_kI fun r_41 u_40 h hx_39 => ?_)
                                                          replace kv1 := hx_39.2.2 _ _ (by decide) kv1
                                                          replace kv2 := hx_39.2.2 _ _ (by decide) kv2
                                                          replace kv3 := hx_39.2.2 _ _ (by decide) kv3
                                                          refine mz_aload_n F dL_law_1073 rfl 2 rfl ?_
                                                          refine mz_aload_n F dL_law_1074 rfl 0 rfl ?_
                                                          refine mz_iload F dL_law_1075 4 rfl ?_
                                                          refine mz_iconst (v := 1) F dL_law_1077 (by decide) ?_
                                                          refine mz_iadd F dL_law_1078 ?_
                                                          obtain ⟨b_42, h⟩ := h
                                                          refine mz_sld F hX dL_law_1079 b_42 ?_
                                                          refine mz_callV (As := [_]) (n := 1) F dL_law_1080 rfl kv2 rfl rfl gL_law_X9_weight (by decide +kernel) (by decide) rfl (Nat.le_of_ble_eq_true rfl) (kX9_weight _ G kv2 h) (mz_kI fun r_45 u_44 h hx_43 => ?_)
                                                          replace kv1 := hx_43.2.2 _ _ (by decide) kv1
                                                          replace kv2 := hx_43.2.2 _ _ (by decide) kv2
                                                          replace kv3 := hx_43.2.2 _ _ (by decide) kv3
                                                          refine mz_icmp_eq (tgt := 1113) F dL_law_1083 (by decide) (fun c_46 => ?_) (fun c_46 => ?_)
                                                          · replace h := h.1 c_46
                                                            refine mz_sub [0, 1, 2, 3, 4] rfl ?_
                                                            exact tL_law_1113 F hN hX hLT (fun k0 k1 k2 h => ih k0 k1 k2 h) kv1 kv2 kv3 h
                                                          · replace h := h.2 c_46
                                                            refine mz_iconst (v := 0) F dL_law_1086 (by decide) ?_
                                                            exact mz_zret F dL_law_1087 rfl ⟨_, rfl, by decide, h⟩
                                                        · replace h := h.2 c_27
                                                          refine Classical.byCases (p := x_308 = (26 : Int32)) (fun c_28 => ?_) (fun c_28 => ?_)
                                                          · replace h := h.1 c_28
                                                            have ec_28 := mte (z := 26) rfl c_28
                                                            refine mz_tableIn (off := 1048) (tgt := 1088) F dL_law_40 (by omega) (by omega) (by rw [ec_28]; rfl) (by decide) ?_
                                                            refine mz_aload_n F dL_law_1088 rfl 1 rfl ?_
                                                            refine mz_aload_n F dL_law_1089 rfl 0 rfl ?_
                                                            refine mz_iload F dL_law_1090 4 rfl ?_
                                                            refine mz_iconst (v := 1) F dL_law_1092 (by decide) ?_
                                                            refine mz_iadd F dL_law_1093 ?_
                                                            obtain ⟨b_29, h⟩ := h
                                                            refine mz_sld F hX dL_law_1094 b_29 ?_
                                                            refine mz_callVW (As := [_]) (n := 1) F dL_law_1095 rfl kv1 rfl rfl gL_law_X8_toss (by decide +kernel) (by decide) rfl (Nat.le_of_ble_eq_true rfl) (kX8_toss _ hLT G kv1 h) (mz_kI fun r_32 u_31 h hx_30 => ?_)
                                                            replace kv1 := hx_30.2.2 _ _ (by decide) kv1
                                                            replace kv2 := hx_30.2.2 _ _ (by decide) kv2
                                                            replace kv3 := hx_30.2.2 _ _ (by decide) kv3
                                                            refine mz_aload_n F dL_law_1098 rfl 2 rfl ?_
                                                            refine mz_aload_n F dL_law_1099 rfl 0 rfl ?_
                                                            refine mz_iload F dL_law_1100 4 rfl ?_
                                                            refine mz_iconst (v := 1) F dL_law_1102 (by decide) ?_
                                                            refine mz_iadd F dL_law_1103 ?_
                                                            obtain ⟨b_33, h⟩ := h
                                                            refine mz_sld F hX dL_law_1104 b_33 ?_
                                                            refine mz_callV (As := [_]) (n := 1) F dL_law_1105 rfl kv2 rfl rfl gL_law_X9_toss (by decide +kernel) (by decide) rfl (Nat.le_of_ble_eq_true rfl) (kX9_toss _ G kv2 h) (mz_kI fun r_36 u_35 h hx_34 => ?_)
                                                            replace kv1 := hx_34.2.2 _ _ (by decide) kv1
                                                            replace kv2 := hx_34.2.2 _ _ (by decide) kv2
                                                            replace kv3 := hx_34.2.2 _ _ (by decide) kv3
                                                            refine mz_icmp_eq (tgt := 1113) F dL_law_1108 (by decide) (fun c_37 => ?_) (fun c_37 => ?_)
                                                            · replace h := h.1 c_37
                                                              refine mz_sub [0, 1, 2, 3, 4] rfl ?_
                                                              exact tL_law_1113 F hN hX hLT (fun k0 k1 k2 h => ih k0 k1 k2 h) kv1 kv2 kv3 h
                                                            · replace h := h.2 c_37
                                                              refine mz_iconst (v := 0) F dL_law_1111 (by decide) ?_
                                                              exact mz_zret F dL_law_1112 rfl ⟨_, rfl, by decide, h⟩
                                                          · replace h := h.2 c_28
                                                            have nc_2 := mtn (z := 0) rfl c_2
                                                            have nc_3 := mtn (z := 1) rfl c_3
                                                            have nc_4 := mtn (z := 2) rfl c_4
                                                            have nc_5 := mtn (z := 3) rfl c_5
                                                            have nc_6 := mtn (z := 4) rfl c_6
                                                            have nc_7 := mtn (z := 5) rfl c_7
                                                            have nc_8 := mtn (z := 6) rfl c_8
                                                            have nc_9 := mtn (z := 7) rfl c_9
                                                            have nc_10 := mtn (z := 8) rfl c_10
                                                            have nc_11 := mtn (z := 9) rfl c_11
                                                            have nc_12 := mtn (z := 10) rfl c_12
                                                            have nc_13 := mtn (z := 11) rfl c_13
                                                            have nc_14 := mtn (z := 12) rfl c_14
                                                            have nc_15 := mtn (z := 13) rfl c_15
                                                            have nc_16 := mtn (z := 14) rfl c_16
                                                            have nc_17 := mtn (z := 15) rfl c_17
                                                            have nc_18 := mtn (z := 16) rfl c_18
                                                            have nc_19 := mtn (z := 17) rfl c_19
                                                            have nc_20 := mtn (z := 18) rfl c_20
                                                            have nc_21 := mtn (z := 19) rfl c_21
                                                            have nc_22 := mtn (z := 20) rfl c_22
                                                            have nc_23 := mtn (z := 21) rfl c_23
                                                            have nc_24 := mtn (z := 22) rfl c_24
                                                            have nc_25 := mtn (z := 23) rfl c_25
                                                            have nc_26 := mtn (z := 24) rfl c_26
                                                            have nc_27 := mtn (z := 25) rfl c_27
                                                            have nc_28 := mtn (z := 26) rfl c_28
                                                            refine mz_tableOut (tgt := 1113) F dL_law_40 (by omega) (by decide) ?_
                                                            refine mz_sub [0, 1, 2, 3, 4] rfl ?_
                                                            exact tL_law_1113 F hN hX hLT (fun k0 k1 k2 h => ih k0 k1 k2 h) kv1 kv2 kv3 h
def bL_law (L : Nat) (xs : Nat → Int32)  (u : mSt) (K : Int32 → mSt → Prop) : Prop := ((mN u + 1 ≤ mCapC ∧ mT u + 9 ≤ mCapS) ∧ ∀ p_4 u_2, p_4 = mN u → u_2 = mnw u 9 9 → bX8_init p_4 u_2 (fun u_6 => ((mN u_6 + 1 ≤ mCapC ∧ mT u_6 + 52 ≤ mCapS) ∧ ∀ p_10 u_8, p_10 = mN u_6 → u_8 = mnw u_6 10 52 → bX9_init p_10 u_8 (fun u_12 => ((mN u_12 + 1 ≤ mCapC ∧ mT u_12 + 1 ≤ mCapS) ∧ ∀ p_16 u_14, p_16 = mN u_12 → u_14 = mnw u_12 30 1 → (∃ n9, bL_law_23 L xs n9 p_4 p_10 p_16 (0 : Int32) u_14 K))))))
set_option maxRecDepth 100000 in
set_option maxHeartbeats 4000000 in
theorem tL_law {X : mCx} {G : mG} {u0 : mSt} {K : Int32 → mSt → Prop} (F : mFx X G cL_law wsL_law RL "law" 2048 84000 (some .boolean) u0 (mPz K)) (hN : X.2.2.2.2.2.2.2.2.2.2.2.2.1 = 8) {b L : Nat} {xs : Nat → Int32} (hX : mScr X b L xs) (hLT : X.2.1.stackTraces = false)  {u : mSt} (h : bL_law L xs u K) : mZ X u 0 [(0, .ref b)] [] := by
  obtain ⟨b_1, h⟩ := h
  refine mz_new (c := 9) F dL_law_0 rfl rfl tyX8 tyX8_ok wiL_law_8 (by decide +kernel) mL_law_cl8 mL_law_in8 mL_law_it8 b_1 (fun p_4 u_2 ep_4 eu_2 hx_3 kp_4 => ?_)
  replace h := h p_4 u_2 ep_4 eu_2
  refine mz_dup F dL_law_3 rfl ?_
  refine mz_callI (As := []) (n := 0) F dL_law_4 rfl gL_law_X8_init mL_law_iniX8_init mL_law_ml17 mL_law_imX8_init rfl (by decide +kernel) (by decide) rfl (Nat.le_of_ble_eq_true rfl) (kX8_init _ G kp_4 h) (mz_kV fun u_6 h hx_5 => ?_)
  replace kp_4 := hx_5.2.2 _ _ (by decide) kp_4
  refine mz_astore_n (lv2 := [(1, .ref (G.1 + p_4)), (0, .ref b)]) F dL_law_7 rfl hN (by decide) rfl ?_
  obtain ⟨b_7, h⟩ := h
  refine mz_new (c := 10) F dL_law_8 rfl rfl tyX9 tyX9_ok wiL_law_9 (by decide +kernel) mL_law_cl18 mL_law_in9 mL_law_it9 b_7 (fun p_10 u_8 ep_10 eu_8 hx_9 kp_10 => ?_)
  replace h := h p_10 u_8 ep_10 eu_8
  replace kp_4 := hx_9.2.2 _ _ (by decide) kp_4
  refine mz_dup F dL_law_11 rfl ?_
  refine mz_callI (As := []) (n := 0) F dL_law_12 rfl gL_law_X9_init mL_law_iniX9_init mL_law_ml20 mL_law_imX9_init rfl (by decide +kernel) (by decide) rfl (Nat.le_of_ble_eq_true rfl) (kX9_init _ G kp_10 h) (mz_kV fun u_12 h hx_11 => ?_)
  replace kp_4 := hx_11.2.2 _ _ (by decide) kp_4
  replace kp_10 := hx_11.2.2 _ _ (by decide) kp_10
  refine mz_astore_n (lv2 := [(2, .ref (G.1 + p_10)), (1, .ref (G.1 + p_4)), (0, .ref b)]) F dL_law_15 rfl hN (by decide) rfl ?_
  refine mz_iconst (v := 1) F dL_law_16 (by decide) ?_
  obtain ⟨b_13, h⟩ := h
  refine mz_newaJ (c := 30) F dL_law_17 mL_law_acJ rfl (by decide) b_13 (fun p_16 u_14 ep_16 eu_14 hx_15 kp_16 => ?_)
  replace h := h p_16 u_14 ep_16 eu_14
  replace kp_10 := hx_15.2.2 _ _ (by decide) kp_10
  replace kp_4 := hx_15.2.2 _ _ (by decide) kp_4
  refine mz_astore_n (lv2 := [(3, .ref (G.1 + p_16)), (2, .ref (G.1 + p_10)), (1, .ref (G.1 + p_4)), (0, .ref b)]) F dL_law_19 rfl hN (by decide) rfl ?_
  refine mz_iconst (v := 0) F dL_law_20 (by decide) ?_
  refine mz_istore (lv2 := [(4, .int (0 : Int32)), (3, .ref (G.1 + p_16)), (2, .ref (G.1 + p_10)), (1, .ref (G.1 + p_4)), (0, .ref b)]) F dL_law_21 hN (by decide) rfl ?_
  refine mz_sub [4, 3, 2, 1, 0] rfl ?_
  obtain ⟨n9, h⟩ := h
  exact tL_law_23 F hN hX hLT n9 kp_4 kp_10 kp_16 h
