/-! THE LAW'S LOOP -/
theorem lg_self (x : Int64) : lg_cmp x x = 0 := by
  unfold lg_cmp
  rw [if_neg (fun h => Int64.lt_irrefl h), if_pos rfl]
theorem lt6 {L i : Nat} (hL : L ≤ 4000) (hi : i ≤ 4000) : nI L - 6 < nI i ↔ L < i + 6 := by
  by_cases z : 6 ≤ L
  · rw [k6, pk_sub z, nI_ltI (by omega) (by omega)]; omega
  · have h0 : 0 ≤ nI i := by rw [k0]; exact nI_le (by omega) (by omega)
    have h1 : nI L - 6 < 0 := by
      rcases (show L = 0 ∨ L = 1 ∨ L = 2 ∨ L = 3 ∨ L = 4 ∨ L = 5 by omega) with rfl | rfl | rfl | rfl | rfl | rfl <;> decide
    exact ⟨fun _ => by omega, fun _ => Int32.lt_of_lt_of_le h1 h0⟩
set_option maxRecDepth 4000 in
theorem law_loop {L : Nat} {xs : Nat → Int32} {K : Int32 → mSt → Prop} (hL : L ≤ 3072) (k : ∀ u, K 1 u) : ∀ m j u, L < 6 * (j + m) + 6 → 6 * j ≤ 3078 → Inv j u → bL_law_23 L xs (m + 1) 0 42 76 (nI (6 * j)) u K := by
  intro m
  induction m with
  | zero =>
    intro j u hm hj6 I
    unfold bL_law_23
    rw [lt6 (by omega) (by omega)]
    exact br_t (by omega) (k u)
  | succ m ih =>
    intro j u hm hj6 I
    unfold bL_law_23
    rw [lt6 (by omega) (by omega)]
    refine br_c (fun _ => k u) (fun hlt => ?_)
    have hj : j ≤ 600 := by omega
    have v0 : vp_in (nI (6 * j)) L := vp_in_nI (by omega) (by omega)
    have v1 : vp_in (nI (6 * j) + (1 : Int32)) L := by rw [k1, nI_add]; exact vp_in_nI (by omega) (by omega)
    have v2 : vp_in (nI (6 * j) + (2 : Int32)) L := by rw [k2, nI_add]; exact vp_in_nI (by omega) (by omega)
    have v3 : vp_in (nI (6 * j) + (3 : Int32)) L := by rw [k3, nI_add]; exact vp_in_nI (by omega) (by omega)
    have v4 : vp_in (nI (6 * j) + (4 : Int32)) L := by rw [k4, nI_add]; exact vp_in_nI (by omega) (by omega)
    have v5 : vp_in (nI (6 * j) + (5 : Int32)) L := by rw [k5, nI_add]; exact vp_in_nI (by omega) (by omega)
    have nx : ∀ u, Inv (j + 1) u → bL_law_1113 L xs 0 42 76 (nI (6 * j)) u K (fun z0 z1 z2 z3 z4 => bL_law_23 L xs (m + 1) z0 z1 z2 z3 z4 K) := by
      intro u I'
      unfold bL_law_1113
      rintro _ rfl
      rw [k6, nI_add, show 6 * j + 6 = 6 * (j + 1) by omega]
      exact ih (j + 1) u (by omega) (by omega) I'
    refine ⟨v0, ?_⟩
    intro x _
    have cl : ∀ (a : Int32) (f : Int32), (f = 0 ∨ f = 1) → (xs (nI (6 * j) + (2 : Int32)).toNatClampNeg = 0 ↔ f = 0) → bL_law_185 L xs 0 42 76 (nI (6 * j)) 0 (xs (nI (6 * j) + (1 : Int32)).toNatClampNeg) f u K (fun z0 z1 z2 z3 z4 => bL_law_23 L xs (m + 1) z0 z1 z2 z3 z4 K) := by
      intro a f hf hx
      unfold bL_law_185
      refine J_cell hf I (fun r u1 mid => ⟨v1, v2, br_c (fun z => ?_) (fun z => ?_)⟩)
      · rw [hx.mp z] at mid
        unfold bL_law_209
        exact mid _ (fun u2 I2 => br_t rfl (nx u2 I2.up))
      · have e : f = 1 := by rcases hf with h | h
                             · exact absurd (hx.mpr h) z
                             · exact h
        rw [e] at mid
        unfold bL_law_209
        exact mid _ (fun u2 I2 => br_t rfl (nx u2 I2.up))
    refine br_c (fun _ => ⟨v1, v2, br_c (fun z => cl 0 0 (Or.inl rfl) (by simp [z])) (fun z => cl 0 1 (Or.inr rfl) (by simp [z]))⟩) (fun _ => ?_)
    refine br_c (fun _ => ⟨v1, v2, v3, v4, J_lead I (fun r u1 mid => ⟨v1, v2, v3, v4, mid _ (fun u2 I2 => br_t rfl (nx u2 I2.up))⟩)⟩) (fun _ => ?_)
    refine br_c (fun _ => ⟨v1, J_start hj I (fun r u1 mid => ⟨v1, mid _ (fun u2 I2 => br_t rfl (nx u2 I2.up))⟩)⟩) (fun _ => ?_)
    refine br_c (fun _ => ⟨v1, J_act hj I (fun r u1 mid => ⟨v1, mid _ (fun u2 I2 => br_t rfl (nx u2 I2.up))⟩)⟩) (fun _ => ?_)
    refine br_c (fun _ => ⟨v1, J_seen I (fun r u1 mid => ⟨v1, mid _ (fun u2 I2 => br_t rfl (nx u2 I2.up))⟩)⟩) (fun _ => ?_)
    refine br_c (fun _ => ⟨v1, v2, J_walk I (fun r u1 mid => ⟨v1, v2, mid _ (fun u2 I2 => br_t rfl (nx u2 I2.up))⟩)⟩) (fun _ => ?_)
    refine br_c (fun _ => J_sheets I (fun r u1 mid => mid _ (fun u2 I2 => br_t rfl (nx u2 I2.up)))) (fun _ => ?_)
    refine br_c (fun _ => ⟨v1, v2, J_sheet I (fun r u1 mid => ⟨v1, v2, mid _ (fun u2 I2 => br_t rfl (nx u2 I2.up))⟩)⟩) (fun _ => ?_)
    refine br_c (fun _ => ⟨v1, v2, v3, J_leads I (fun r u1 mid => ⟨v1, v2, v3, mid _ (fun u2 I2 => br_t rfl (nx u2 I2.up))⟩)⟩) (fun _ => ?_)
    refine br_c (fun _ => ⟨v1, v2, J_sign I (fun r u1 mid => ⟨v1, v2, mid _ (fun u2 I2 => br_t rfl (nx u2 I2.up))⟩)⟩) (fun _ => ?_)
    refine br_c (fun _ => J_known I (fun r u1 mid => mid _ (fun u2 I2 => br_t rfl (nx u2 I2.up)))) (fun _ => ?_)
    refine br_c (fun _ => ⟨v1, v2, J_one I (fun r u1 mid => ⟨v1, v2, mid _ (fun u2 I2 => br_t rfl (nx u2 I2.up))⟩)⟩) (fun _ => ?_)
    refine br_c (fun _ => ⟨v1, v2, J_part I (fun r u1 mid => ⟨v1, v2, mid _ (fun u2 I2 => br_t rfl (nx u2 I2.up))⟩)⟩) (fun _ => ?_)
    refine br_c (fun _ => ⟨v1, J_next I (fun r u1 mid => ⟨v1, mid _ (fun u2 I2 => br_t rfl (nx u2 I2.up))⟩)⟩) (fun _ => ?_)
    refine br_c (fun _ => ⟨v1, v2, J_go I (fun r u1 mid => ⟨v1, v2, mid _ (fun u2 I2 => br_t rfl (nx u2 I2.up))⟩)⟩) (fun _ => ?_)
    refine br_c (fun _ => ⟨v1, J_way I (fun r u1 mid => ⟨v1, mid _ (fun u2 I2 => br_t rfl (nx u2 I2.up))⟩)⟩) (fun _ => ?_)
    refine br_c (fun _ => ⟨v1, v2, v3, J_hand I (fun r u1 mid => ⟨v1, v2, v3, mid _ (fun u2 I2 => br_t rfl (nx u2 I2.up))⟩)⟩) (fun _ => ?_)
    refine br_c (fun _ => J_fits I (fun r u1 mid => mid _ (fun u2 I2 => br_t rfl (nx u2 I2.up)))) (fun _ => ?_)
    refine br_c (fun _ => ⟨v1, J_isTrue I (fun r u1 mid => ⟨v1, mid _ (fun u2 I2 => br_t rfl (nx u2 I2.up))⟩)⟩) (fun _ => ?_)
    refine br_c (fun _ => ⟨v1, J_count I (fun r u1 mid => ⟨v1, mid _ (fun u2 I2 => br_t rfl (nx u2 I2.up))⟩)⟩) (fun _ => ?_)
    refine br_c (fun _ => J_reached I (fun r u1 mid => mid _ (fun u2 I2 => br_t rfl (nx u2 I2.up)))) (fun _ => ?_)
    refine br_c (fun _ => ⟨v1, v2, v3, J_keep I (fun r u1 mid => ⟨v1, v2, v3, mid _ (fun u2 I2 => br_t rfl (nx u2 I2.up))⟩)⟩) (fun _ => ?_)
    refine br_c (fun _ => ⟨v1, v2, v3, J_make I (fun r u1 mid => ⟨v1, v2, v3, mid _ (fun u2 I2 => br_t rfl (nx u2 I2.up))⟩)⟩) (fun _ => ?_)
    refine br_c (fun _ => ⟨v1, v2, J_element hj I (fun e u1 mid => ⟨v1, v2, mid _ (fun b u2 h1 h2 I2 => ?_)⟩)⟩) (fun _ => ?_)
    · unfold bX9_thrown bL_law_987
      refine br_t h1 ⟨fun h0 => ⟨by unfold vp_in; decide, br_t ?_ (nx u2 I2)⟩, fun _ => nx u2 I2⟩
      rw [show (0 : Int32).toNatClampNeg = 0 by decide, h2 h0]
      exact lg_self _
    refine br_c (fun _ => ⟨v1, v2, v3, v4, v5, J_copy I (fun r u1 mid => ⟨v1, v2, v3, v4, v5, mid _ (fun u2 I2 => br_t rfl (nx u2 I2.up))⟩)⟩) (fun _ => ?_)
    refine br_c (fun _ => ⟨v1, J_weight I (fun r u1 mid => ⟨v1, mid _ (fun u2 I2 => br_t rfl (nx u2 I2.up))⟩)⟩) (fun _ => ?_)
    refine br_c (fun _ => ⟨v1, J_toss hj I (fun r u1 mid => ⟨v1, mid _ (fun u2 I2 => br_t rfl (nx u2 I2))⟩)⟩) (fun _ => ?_)
    exact nx u I.up
def x00 : aAll := ((0, fun _ => 0, fun _ => false, fun _ => 0, fun _ => 0), (false, (0, 0, false), none, []), (0, false, []), [], (fun _ => 0, fun _ => 7), fun _ => (0, 0, 0, 0, fun _ => 0))
theorem o00 : oInv x00 := by
  refine ⟨⟨by decide, fun i hi => absurd hi (by show ¬ i < 0; omega), fun i hi => ⟨by show 0 < 6; omega, fun h => absurd rfl h⟩⟩, ⟨fun h => (by cases h), fun _ => rfl, by show 0 ≤ 200; omega, fun e he => (by cases he)⟩, ⟨fun h => (by cases h), fun _ => rfl, fun _ => rfl, by show 0 ≤ 150; omega, fun s hs => (by cases hs)⟩, fun s hs => (by cases hs), fun s hs => (by cases hs), ⟨by show 0 ≤ 5; omega, fun a ha => (by cases ha)⟩, ⟨fun p hp => by show 0 < 4; omega, fun y hy => by show 7 < 8; omega⟩, fun d hd => ⟨Or.inl rfl, fun h => absurd h (by show ¬ 3 ≤ 0; omega), fun h => absurd h (by show ¬ 0 = 1; omega)⟩⟩
theorem cTab_ok : ∀ t ∈ cTab, t.1 < 76 ∧ lkR BM t.1 t.2.1 = some t.2.2 := by decide
theorem rTab_ok : ∀ t ∈ rTab, t.1 < 76 ∧ lkR BM t.1 t.2.1 = some t.2.2 := by decide
theorem law_start {L : Nat} {xs : Nat → Int32} {u : mSt} {K : Int32 → mSt → Prop} (hL : L ≤ 3072) (hN : mN u = 0) (hT : mT u = 0) (k : ∀ u, K 1 u) : bL_law L xs u K := by
  have s : iS 0 0 [] [] u := ⟨hN, hT, fun p hp => by omega, fun p hp => by omega, fun p hp => by omega⟩
  unfold bL_law
  refine nw_step (m := 1) (z' := 9) s rfl rfl rfl rfl (by decide) (fun u s => ?_)
  refine s_initC s (fun u s => ?_)
  refine nw_step (m := 43) (z' := 5280) s rfl rfl rfl rfl (by decide) (fun u s => ?_)
  refine s_initM s (fun u s => ?_)
  refine nw_step (m := 77) (z' := 80261) s rfl rfl rfl rfl (by decide) (fun u s => ?_)
  have g0 : ∀ p i, p < 77 → lkI AM p i = 0 → mI u p i = 0 := fun p i hp e => s.gI hp e
  have z0 : ∀ p i, p < 77 → AM.all (fun t => decide (t.1 ≠ p)) = true → mI u p i = 0 := fun p i hp e => s.gI hp (lkI_no e i)
  have I : Inv 0 u := by
    refine ⟨x00, o00, ⟨10, 11, fun _ _ => none, [], fun t ht => s.gR (by have := (cTab_ok t ht).1; omega) (cTab_ok t ht).2, ?_, ?_, ?_, ?_, ?_, ?_, ?_, oTd_nil, ?_⟩, fun t ht => s.gR (by have := (rTab_ok t ht).1; omega) (rTab_ok t ht).2, ?_, ?_, ?_, ?_, ?_, ?_⟩
    · exact ⟨by rw [g0 1 4 (by decide) rfl]; exact k0, fun i hi => absurd hi (by show ¬ i < 0; omega), fun i hi => ⟨by rw [z0 4 i (by decide) (by decide)]; exact k0, fun h => absurd rfl h⟩⟩
    · exact ⟨by rw [g0 0 8 (by decide) rfl]; rfl, by rw [g0 6 2 (by decide) rfl]; exact k0, fun h => (by cases h), fun i e he => by simp [x00] at he⟩
    · refine ⟨⟨Or.inl ⟨rfl, rfl⟩, s.gR (by decide) rfl, s.gR (by decide) rfl, fun i kk hi _ => ?_, fun i kk q _ _ h => (by cases h), fun i kk q i' k' q' _ _ _ _ h => (by cases h)⟩, by rw [g0 9 2 (by decide) rfl]; exact k0, by rw [g0 9 4 (by decide) rfl]; exact k0, by rw [g0 9 5 (by decide) rfl]; rfl, fun kk s hs => by simp [x00] at hs⟩
      rcases hi with rfl | rfl
      · rw [s.2.2.2.1 10 (by decide)]; exact lkR_no (by decide) kk
      · rw [s.2.2.2.1 11 (by decide)]; exact lkR_no (by decide) kk
    · exact ⟨by rw [s.1]; exact Nat.le_refl _, by rw [s.1]; omega, by rw [s.2.1]; omega⟩
    · exact ⟨by rw [g0 16 2 (by decide) rfl]; exact k0, fun i a hi => by simp [x00] at hi⟩
    · refine ⟨fun p hp => by rw [z0 20 p (by decide) (by decide)]; exact k0, fun y hy => ?_⟩
      have : ∀ y, y < 30 → lkI AM 21 y = -3 := by decide
      exact s.gI (by decide) (this y hy)
    · intro d hd
      have : ∀ d, d < 8 → lkI AM (26 + 2 * d) 1 = 0 := by decide
      exact ⟨by rw [g0 (26 + 2 * d) 1 (by omega) (this d hd)]; exact k0, fun h => absurd h (by show ¬ 0 = 1; omega), fun h => absurd h (by show ¬ 3 ≤ 0; omega)⟩
    · exact ⟨by rw [g0 22 2 (by decide) rfl]; exact k0, fun i a hi => by simp at hi, fun y hy => by rw [z0 24 y (by decide) (by decide)]; simp [b2i]⟩
    · exact ⟨by rw [g0 42 1 (by decide) rfl]; exact k0, fun i hi => absurd hi (by show ¬ i < 0; omega), fun i hi => ⟨by rw [z0 45 i (by decide) (by decide)]; exact k0, fun h => absurd rfl h⟩⟩
    · exact ⟨by rw [g0 42 6 (by decide) rfl]; rfl, by rw [g0 42 12 (by decide) rfl]; exact k0, fun h => (by cases h), fun i e he => by simp [x00] at he⟩
    · exact ⟨⟨by rw [g0 42 18 (by decide) rfl]; exact k0, by rw [g0 42 19 (by decide) rfl]; exact k0, by rw [g0 42 20 (by decide) rfl]; rfl, fun kk s hs => by simp [x00] at hs⟩, fun kk s hs => by simp [x00] at hs⟩
    · exact ⟨by rw [g0 42 40 (by decide) rfl]; exact k0, fun i a hi => by simp [x00] at hi⟩
    · refine ⟨fun p hp => by rw [z0 66 p (by decide) (by decide)]; exact k0, fun y hy => ?_⟩
      have : ∀ y, y < 30 → lkI AM 67 y = 7 := by decide
      exact s.gI (by decide) (this y hy)
    · intro d hd
      exact ⟨by rw [z0 70 d (by decide) (by decide)]; exact k0, fun h => absurd h (by show ¬ 0 = 1; omega), fun h => absurd h (by show ¬ 3 ≤ 0; omega)⟩
  have := law_loop (xs := xs) hL k (L / 6 + 1) 0 u (by omega) (by omega) I
  rw [show nI (6 * 0) = 0 by decide] at this
  exact ⟨_, this⟩
