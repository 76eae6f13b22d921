/-! THE SHELVES: what is held (0 nothing, 1 a lead, 3 bytes, 4 longs); a lead's kind and where it goes; a row's size and what it holds -/
abbrev aSv : Type := Nat → Nat × Nat × Nat × Nat × (Nat → Int64)
def wt (d t : Nat) : Nat := if d = 0 then 1 else if d = 2 then 10 + t + 100 else if d = 3 then 10 + t + 1000 else if d = 4 then 10 + t + 2000 else if d = 5 then 2 * (10 + t + 100) else 10 + t
def oSv (v : aSv) : Prop := ∀ d, d < 8 → ((v d).1 = 0 ∨ (v d).1 = 1 ∨ (v d).1 = 3 ∨ (v d).1 = 4) ∧ (3 ≤ (v d).1 → (v d).2.2.2.1 ≤ 60) ∧ ((v d).1 = 1 → (v d).2.1 < 6 ∧ (v d).2.2.1 < 10)
def cSv (v : aSv) (u : mSt) : Prop := ∀ d, d < 8 → mI u (26 + 2 * d) 1 = nI (v d).1 ∧ ((v d).1 = 1 → mI u (26 + 2 * d) 2 = nI (v d).2.1 ∧ ((v d).2.1 ≠ 0 → mI u (26 + 2 * d) 3 = nI (v d).2.2.1)) ∧ (3 ≤ (v d).1 → mI u (26 + 2 * d) 4 = nI (v d).2.2.2.1 ∧ ∀ i, i < (v d).2.2.2.1 → mL u (27 + 2 * d) i = (v d).2.2.2.2 i)
def rSv (v : aSv) (u : mSt) : Prop := ∀ d, d < 8 → mI u 70 d = nI (v d).1 ∧ ((v d).1 = 1 → mI u 72 d = nI (wt (v d).2.1 (v d).2.2.1) ∧ mI u 73 d = if (v d).2.1 = 0 then -15 else nI (v d).2.2.1) ∧ (3 ≤ (v d).1 → mI u 71 d = nI (v d).2.2.2.1 ∧ ∀ i, i < (v d).2.2.2.1 → mL u 74 (60 * d + i) = (v d).2.2.2.2 i)
theorem shelf_at {u : mSt} (hr : cRf u) {d : Nat} (hd : d < 8) : mR u 25 d = some (26 + 2 * d) ∧ mR u (26 + 2 * d) 0 = some (27 + 2 * d) := by
  rcases (show d = 0 ∨ d = 1 ∨ d = 2 ∨ d = 3 ∨ d = 4 ∨ d = 5 ∨ d = 6 ∨ d = 7 by omega) with rfl | rfl | rfl | rfl | rfl | rfl | rfl | rfl <;> exact ⟨hr.get _ _ _ (by decide), hr.get _ _ _ (by decide)⟩
theorem s_isShelfN {u : mSt} {a : Int32} {K : Int32 → mSt → Prop} (h1 : ∀ j, j < 8 → a = nI j → K 1 u) (h0 : (∀ j, j < 8 → a ≠ nI j) → K 0 u) : bX9_isShelf a u K := by
  unfold bX9_isShelf
  rw [k8]
  rcases pk_ix a (n := 8) (by decide) with h | h | ⟨j, hj, rfl⟩
  · exact br_t h (h0 (fun j hj e => by subst e; exact absurd h (nI_pos (by omega))))
  · have h3 : ∀ j, j < 8 → a ≠ nI j := fun j hj e => by subst e; exact absurd h (nI_ge hj (by decide))
    exact br_c (fun _ => h0 h3) (fun _ => br_t h (h0 h3))
  · exact br_f (nI_pos (by omega)) (br_f (nI_ge hj (by decide)) (h1 j hj rfl))
/-- the refusals of calls that want a lead -/
def xDen (v : aSv) (a : Int32) : Int32 := match dec a 8 with
  | none => -1
  | some d => if (v d).1 = 0 then -11 else if (v d).1 = 1 then 0 else -12
theorem s_leadless {v : aSv} {u : mSt} {a : Int32} {K : Int32 → mSt → Prop} (hr : cRf u) (ho : oSv v) (hc : cSv v u) (h1 : ∀ d, d < 8 → a = nI d → (v d).1 = 1 → K 0 u) (h0 : xDen v a ≠ 0 → K (xDen v a) u) : bX8_leadless 0 a u K := by
  have r7 := hr.get 0 7 25 (by decide)
  unfold bX8_leadless
  unfold xDen at h0
  refine s_withinN (N := 8) rfl (by decide) _ _ (fun d hd e => br_f (by decide) ?_) (fun e => br_t rfl ?_)
  · simp only [dec_some (n := 8) (by decide) hd e] at h0
    obtain ⟨z1, -⟩ := shelf_at hr hd
    have ht := (ho d hd).1
    have e0 : nI (v d).1 = 0 ↔ (v d).1 = 0 := by rw [k0]; exact nI_eq (by omega) (by decide)
    have e1 : nI (v d).1 = 1 ↔ (v d).1 = 1 := by rw [k1]; exact nI_eq (by omega) (by decide)
    refine ⟨25, r7, ?_⟩
    rw [e, nI_clamp (by omega)]
    refine ⟨vp_in_nI hd (by decide), 26 + 2 * d, z1, ?_⟩
    rw [(hc d hd).1, e0]
    refine br_c (fun z => ?_) (fun z => ⟨25, r7, vp_in_nI hd (by decide), 26 + 2 * d, z1, ?_⟩)
    · simp only [z, if_true] at h0; exact h0 (by decide)
    · rw [(hc d hd).1, e1]
      refine br_c (fun z2 => h1 d hd e z2) (fun z2 => ?_)
      simp only [z, z2, if_false] at h0; exact h0 (by decide)
  · simp only [dec_none (n := 8) (by decide) e] at h0
    exact h0 (by decide)
theorem s_denied {v : aSv} {u : mSt} {a : Int32} {K : Int32 → mSt → Prop} (hr : rRf u) (ho : oSv v) (hc : ∀ d, d < 8 → mI u 70 d = nI (v d).1) (h1 : ∀ d, d < 8 → a = nI d → (v d).1 = 1 → K 0 u) (h0 : xDen v a ≠ 0 → K (xDen v a) u) : bX9_denied 42 a u K := by
  have r7 := hr.get 42 46 70 (by decide)
  unfold bX9_denied
  unfold xDen at h0
  refine s_isShelfN (fun d hd e => br_f (by decide) ?_) (fun e => br_t rfl ?_)
  · simp only [dec_some (n := 8) (by decide) hd e] at h0
    have ht := (ho d hd).1
    have e0 : nI (v d).1 = 0 ↔ (v d).1 = 0 := by rw [k0]; exact nI_eq (by omega) (by decide)
    have e1 : nI (v d).1 ≤ 1 ↔ (v d).1 ≤ 1 := by rw [k1]; exact nI_leI (by omega) (by decide)
    refine ⟨70, r7, ?_⟩
    rw [e, nI_clamp (by omega), hc d hd, e0]
    refine ⟨vp_in_nI hd (by decide), br_c (fun z => ?_) (fun z => ⟨70, r7, vp_in_nI hd (by decide), ?_⟩)⟩
    · simp only [z, if_true] at h0; exact h0 (by decide)
    · rw [hc d hd, e1]
      refine br_c (fun z2 => h1 d hd e (by omega)) (fun z2 => ?_)
      simp only [z, if_false, show ¬ (v d).1 = 1 by omega] at h0; exact h0 (by decide)
  · simp only [dec_none (n := 8) (by decide) e] at h0
    exact h0 (by decide)
theorem s_wt {d t : Nat} (hd : d < 6) {x : Int32} (hx : d ≠ 0 → x = nI t) {u : mSt} {K : Int32 → mSt → Prop} (k : K (nI (wt d t)) u) : bX8_weightOf (nI d) x u K := by
  have e : ∀ c : Nat, (nI d = nI c ↔ d = c) ∨ 2 ^ 31 ≤ c := fun c => by
    rcases Nat.lt_or_ge c (2 ^ 31) with h | h
    · exact Or.inl (nI_eq (by omega) h)
    · exact Or.inr h
  unfold bX8_weightOf
  rintro _ rfl
  rcases (show d = 0 ∨ d = 1 ∨ d = 2 ∨ d = 3 ∨ d = 4 ∨ d = 5 by omega) with rfl | rfl | rfl | rfl | rfl | rfl
  · exact br_t (by decide) k
  all_goals rw [hx (by decide), show (10 : Int32) = nI 10 by decide, nI_add]
  · exact br_f (by decide) (br_t (by decide) k)
  · refine br_f (by decide) (br_f (by decide) (br_t (by decide) ?_))
    rw [show (100 : Int32) = nI 100 by decide, nI_add]; exact k
  · refine br_f (by decide) (br_f (by decide) (br_f (by decide) (br_t (by decide) ?_)))
    rw [show (1000 : Int32) = nI 1000 by decide, nI_add]; exact k
  · refine br_f (by decide) (br_f (by decide) (br_f (by decide) (br_f (by decide) (br_t (by decide) ?_))))
    rw [show (2000 : Int32) = nI 2000 by decide, nI_add]; exact k
  · refine br_f (by decide) (br_f (by decide) (br_f (by decide) (br_f (by decide) (br_f (by decide) (br_t (by decide) ?_)))))
    rw [show (100 : Int32) = nI 100 by decide, nI_add, k2, pk_mul]; exact k
/-- weight -/
def xWeight (v : aSv) (a : Int32) : Int32 := match dec a 8 with
  | none => -1
  | some d => if (v d).1 = 0 then -11 else if (v d).1 = 1 then nI (wt (v d).2.1 (v d).2.2.1) else -12
theorem xWeight_den {v : aSv} {a : Int32} (h : xDen v a ≠ 0) : xWeight v a = xDen v a := by
  unfold xWeight xDen at *
  cases hd : dec a 8 with
  | none => rfl
  | some d =>
    simp only [hd] at h ⊢
    by_cases h0 : (v d).1 = 0
    · simp [h0]
    · by_cases h1 : (v d).1 = 1
      · simp [h1] at h
      · simp [h0, h1]
theorem xDen_neg {v : aSv} {a : Int32} (h : xDen v a ≠ 0) : ¬ 0 ≤ xDen v a := by
  unfold xDen at *
  cases hd : dec a 8 with
  | none => simp
  | some d =>
    simp only [hd] at h ⊢
    by_cases h0 : (v d).1 = 0
    · simp [h0]
    · by_cases h1 : (v d).1 = 1
      · simp [h1] at h
      · simp [h0, h1]
theorem C_weight {v : aSv} {u : mSt} {a : Int32} {K : Int32 → mSt → Prop} (hr : cRf u) (ho : oSv v) (hc : cSv v u) (k : K (xWeight v a) u) : bX8_weight 0 a u K := by
  have r7 := hr.get 0 7 25 (by decide)
  unfold bX8_weight
  refine s_leadless hr ho hc (fun d hd e h1 => br_t rfl ?_) (fun h => br_f h (by rw [← xWeight_den h]; exact k))
  obtain ⟨z1, -⟩ := shelf_at hr hd
  unfold xWeight at k
  simp only [dec_some (n := 8) (by decide) hd e, h1, if_true, show ¬ (1 : Nat) = 0 by decide, if_false] at k
  have hcd := (hc d hd).2.1 h1
  have hod := (ho d hd).2.2 h1
  refine ⟨25, r7, ?_⟩
  rw [e, nI_clamp (by omega)]
  refine ⟨vp_in_nI hd (by decide), 26 + 2 * d, z1, 25, r7, vp_in_nI hd (by decide), 26 + 2 * d, z1, ?_⟩
  rw [hcd.1]
  exact s_wt hod.1 hcd.2 k
theorem M_weight {v : aSv} {u : mSt} {a : Int32} {K : Int32 → mSt → Prop} (hr : rRf u) (ho : oSv v) (hc : rSv v u) (k : K (xWeight v a) (mpI u 42 0 0)) : bX9_weight 42 a u K := by
  have r7 : mR (mpI u 42 0 0) 42 48 = some 72 := hr.get 42 48 72 (by decide)
  unfold bX9_weight
  rintro _ rfl
  refine s_denied (v := v) (hr.of rfl) ho (fun d hd => by rw [th_ne u (by decide)]; exact (hc d hd).1) (fun d hd e h1 => br_t (by decide) ?_) (fun h => br_f (xDen_neg h) (by rw [← xWeight_den h]; exact k))
  unfold xWeight at k
  simp only [dec_some (n := 8) (by decide) hd e, h1, if_true, show ¬ (1 : Nat) = 0 by decide, if_false] at k
  refine ⟨72, r7, ?_⟩
  rw [e, nI_clamp (by omega), th_ne u (by decide), ((hc d hd).2.1 h1).1]
  exact ⟨vp_in_nI hd (by decide), k⟩
/-- make -/
def xMake (v : aSv) (a1 a2 a3 : Int32) : Int32 × aSv := match dec a1 8 with
  | none => (-1, v)
  | some d => if a2 = 3 ∨ a2 = 4 then (if 60 < a3 then (-1, v) else if a3 < 0 then (-14, v) else (0, va_up v d (a2.toNatClampNeg, 0, 0, a3.toNatClampNeg, fun _ => 0))) else (-1, v)
theorem xMake_ok {v : aSv} (ho : oSv v) (a1 a2 a3 : Int32) : oSv (xMake v a1 a2 a3).2 := by
  unfold xMake
  rcases dec_cases a1 (n := 8) (by decide) with ⟨d, hd, -, e⟩ | ⟨-, e⟩ <;> simp only [e]
  · by_cases h2 : a2 = 3 ∨ a2 = 4
    · simp only [h2, if_true]
      by_cases h3 : 60 < a3
      · simp only [h3, if_true]; exact ho
      · simp only [h3, if_false]
        by_cases h4 : a3 < 0
        · simp only [h4, if_true]; exact ho
        · simp only [h4, if_false]
          intro d' hd'
          obtain ⟨n, hn, rfl⟩ := nI_of2 (M := 60) (n := 60) (by decide) h4 (Int32.not_lt.mp h3)
          unfold va_up
          by_cases h : d' = d
          · simp only [h, if_true]
            rw [nI_clamp (by omega)]
            rcases h2 with rfl | rfl
            · exact ⟨Or.inr (Or.inr (Or.inl (by decide))), fun _ => hn, fun z => absurd z (by decide)⟩
            · exact ⟨Or.inr (Or.inr (Or.inr (by decide))), fun _ => hn, fun z => absurd z (by decide)⟩
          · simp only [h, if_false]; exact ho d' hd'
    · simp only [h2, if_false]; exact ho
  · exact ho
theorem cSv_up {v : aSv} {u w : mSt} {d : Nat} {e : Nat × Nat × Nat × Nat × (Nat → Int64)} (hc : cSv v u) (hI : ∀ p, p ≠ 26 + 2 * d → mI w p = mI u p) (hL : ∀ p, p ≠ 27 + 2 * d → mL w p = mL u p)
    (he : mI w (26 + 2 * d) 1 = nI e.1 ∧ (e.1 = 1 → mI w (26 + 2 * d) 2 = nI e.2.1 ∧ (e.2.1 ≠ 0 → mI w (26 + 2 * d) 3 = nI e.2.2.1)) ∧ (3 ≤ e.1 → mI w (26 + 2 * d) 4 = nI e.2.2.2.1 ∧ ∀ i, i < e.2.2.2.1 → mL w (27 + 2 * d) i = e.2.2.2.2 i)) : cSv (va_up v d e) w := by
  intro d' hd'
  by_cases h : d' = d
  · subst h
    simp only [va_up, if_true]
    exact he
  · simp only [va_up, h, if_false]
    rw [hI _ (by omega), hL _ (by omega)]
    exact hc d' hd'
theorem rSv_up {v : aSv} {u w : mSt} {d : Nat} {e : Nat × Nat × Nat × Nat × (Nat → Int64)} (hc : rSv v u) (hd : d < 8) (h0 : ∀ i, i ≠ d → mI w 70 i = mI u 70 i) (h1 : ∀ i, i ≠ d → mI w 71 i = mI u 71 i) (h2 : ∀ i, i ≠ d → mI w 72 i = mI u 72 i) (h3 : ∀ i, i ≠ d → mI w 73 i = mI u 73 i) (h4 : ∀ i, (i < 60 * d ∨ 60 * d + 60 ≤ i) → mL w 74 i = mL u 74 i) (ho : oSv v)
    (he : mI w 70 d = nI e.1 ∧ (e.1 = 1 → mI w 72 d = nI (wt e.2.1 e.2.2.1) ∧ mI w 73 d = if e.2.1 = 0 then -15 else nI e.2.2.1) ∧ (3 ≤ e.1 → mI w 71 d = nI e.2.2.2.1 ∧ ∀ i, i < e.2.2.2.1 → mL w 74 (60 * d + i) = e.2.2.2.2 i)) : rSv (va_up v d e) w := by
  intro d' hd'
  by_cases h : d' = d
  · subst h
    simp only [va_up, if_true]
    exact he
  · simp only [va_up, h, if_false]
    rw [h0 _ h, h1 _ h, h2 _ h, h3 _ h]
    obtain ⟨g1, g2, g3⟩ := hc d' hd'
    refine ⟨g1, g2, fun z => ⟨(g3 z).1, fun i hi => ?_⟩⟩
    have := (ho d' hd').2.1 z
    rw [h4 _ (by omega)]
    exact (g3 z).2 i hi
theorem s_holdRow {v : aSv} {u : mSt} {d n tg : Nat} {a : Int32} {K : mSt → Prop} (hr : cRf u) (hc : cSv v u) (hd : d < 8) (hn : n ≤ 60) (ht : tg = 3 ∨ tg = 4) (ha : a = nI tg)
    (k : ∀ w, cSv (va_up v d (tg, 0, 0, n, fun _ => 0)) w → mR w = mR u → mN w = mN u → mT w = mT u → (∀ p, p ≠ 26 + 2 * d → mI w p = mI u p) → (∀ p, p ≠ 27 + 2 * d → mL w p = mL u p) → (∀ i, i < 60 → mL w (27 + 2 * d) i = 0) → K w) : bX5_holdRow (26 + 2 * d) a (nI n) u K := by
  obtain ⟨z1, z2⟩ := shelf_at hr hd
  unfold bX5_holdRow
  rintro _ rfl _ rfl
  refine ⟨27 + 2 * d, z2, ?_⟩
  unfold bJ7_fill_d0a16
  have hI : ∀ p, p ≠ 26 + 2 * d → mI (mrL (mpI (mpI u (26 + 2 * d) 1 a) (26 + 2 * d) 4 (nI n)) (27 + 2 * d) (fun j => if j < 60 then 0 else mL (mpI (mpI u (26 + 2 * d) 1 a) (26 + 2 * d) 4 (nI n)) (27 + 2 * d) j)) p = mI u p := fun p hp => by
    simp only [s13, s1]; rw [mup_ne _ hp, mup_ne _ hp]
  have hL : ∀ p, p ≠ 27 + 2 * d → mL (mrL (mpI (mpI u (26 + 2 * d) 1 a) (26 + 2 * d) 4 (nI n)) (27 + 2 * d) (fun j => if j < 60 then 0 else mL (mpI (mpI u (26 + 2 * d) 1 a) (26 + 2 * d) 4 (nI n)) (27 + 2 * d) j)) p = mL u p := fun p hp => by
    simp only [s15, s3]; rw [mrow_ne _ hp]
  have hz : ∀ i, i < 60 → mL (mrL (mpI (mpI u (26 + 2 * d) 1 a) (26 + 2 * d) 4 (nI n)) (27 + 2 * d) (fun j => if j < 60 then 0 else mL (mpI (mpI u (26 + 2 * d) 1 a) (26 + 2 * d) 4 (nI n)) (27 + 2 * d) j)) (27 + 2 * d) i = 0 := fun i hi => by
    simp only [s15]; rw [mrow_self]; simp [hi]
  refine k _ (cSv_up hc hI hL ⟨?_, fun z => by simp only at z; omega, fun _ => ⟨?_, fun i hi => hz i (by simp only at hi; omega)⟩⟩) rfl rfl rfl hI hL hz
  · simp [s13, s1, mup_at, ha]
  · simp [s13, s1, mup_at]
theorem C_make {v : aSv} {u : mSt} {a1 a2 a3 : Int32} {K : Int32 → mSt → Prop} (hr : cRf u) (hc : cSv v u) (k : ∀ w, cSv (xMake v a1 a2 a3).2 w → mR w = mR u → mN w = mN u → mT w = mT u → (∀ p, (p < 26 ∨ 42 ≤ p) → mI w p = mI u p ∧ mL w p = mL u p) → K (xMake v a1 a2 a3).1 w) : bX8_make 0 a1 a2 a3 u K := by
  have r7 := hr.get 0 7 25 (by decide)
  have kr : ∀ r, xMake v a1 a2 a3 = (r, v) → K r u := by
    intro r e
    rw [e] at k
    exact k u hc rfl rfl rfl (fun _ _ => ⟨rfl, rfl⟩)
  unfold bX8_make
  refine s_withinN (N := 8) rfl (by decide) _ _ (fun d hd e => br_f (by decide) ?_) (fun e => br_t rfl (kr (-1) (by unfold xMake; simp only [dec_none (n := 8) (by decide) e])))
  have ed := dec_some (n := 8) (by decide) hd e
  have go : ∀ tg, (tg = 3 ∨ tg = 4) → a2 = nI tg → bX8_make_19 0 a1 a2 a3 u K := by
    intro tg ht ha
    have h2 : a2 = 3 ∨ a2 = 4 := ht.elim (fun z => Or.inl (by rw [ha, z]; decide)) (fun z => Or.inr (by rw [ha, z]; decide))
    unfold bX8_make_19
    refine br_c (fun z => br_c (fun z2 => ?_) (fun z2 => ?_)) (fun z => ?_)
    · obtain ⟨n, hn, rfl⟩ := nI_of2 (M := 60) (n := 60) (by decide) (Int32.not_lt.mpr z2) z
      have hx : xMake v a1 a2 (nI n) = (0, va_up v d (tg, 0, 0, n, fun _ => 0)) := by
        unfold xMake
        simp only [ed, h2, if_true, if_neg (Int32.not_lt.mpr z), if_neg (Int32.not_lt.mpr z2)]
        rw [ha, nI_clamp (by omega), nI_clamp (by omega)]
      rw [hx] at k
      obtain ⟨z3, -⟩ := shelf_at hr hd
      refine ⟨25, r7, ?_⟩
      rw [e, nI_clamp (by omega)]
      refine ⟨vp_in_nI hd (by decide), 26 + 2 * d, z3, s_holdRow hr hc hd hn ht ha (fun w w1 w2 w3 w4 w5 w6 _ => k w w1 w2 w3 w4 (fun p hp => ⟨w5 p (by omega), w6 p (by omega)⟩))⟩
    · exact kr (-14) (by unfold xMake; simp only [ed, h2, if_true, if_neg (Int32.not_lt.mpr z), if_pos (Int32.not_le.mp z2)])
    · exact kr (-1) (by unfold xMake; simp only [ed, h2, if_true, if_pos (Int32.not_le.mp z)])
  refine br_c (fun z => go 3 (Or.inl rfl) z) (fun z => br_c (fun z2 => go 4 (Or.inr rfl) z2) (fun z2 => kr (-1) ?_))
  unfold xMake
  simp only [ed, z, z2, or_self, if_false]
theorem M_make {v : aSv} {u : mSt} {a1 a2 a3 : Int32} {K : Int32 → mSt → Prop} (hr : rRf u) (ho : oSv v) (hc : rSv v u) (k : ∀ w, rSv (xMake v a1 a2 a3).2 w → fM u w → (∀ p, p ≠ 42 → p ≠ 70 → p ≠ 71 → mI w p = mI u p) → (∀ i, i ≠ 0 → mI w 42 i = mI u 42 i) → K (xMake v a1 a2 a3).1 w) : bX9_make 42 a1 a2 a3 u K := by
  have f0 : fM u (mpI u 42 0 0) := fM.pI u (by decide)
  have hc' : rSv v (mpI u 42 0 0) := by
    intro d hd
    rw [th_ne u (by decide), th_ne u (by decide), th_ne u (by decide), th_ne u (by decide)]
    exact hc d hd
  have kr : ∀ r, xMake v a1 a2 a3 = (r, v) → K r (mpI u 42 0 0) := by
    intro r e
    rw [e] at k
    exact k _ hc' f0 (fun p p1 _ _ => th_ne u p1 0) (fun i hi => th_at u hi 0)
  unfold bX9_make
  rintro _ rfl
  refine s_isShelfN (fun d hd e => br_f (by decide) ?_) (fun e => br_t rfl (kr (-1) (by unfold xMake; simp only [dec_none (n := 8) (by decide) e])))
  have ed := dec_some (n := 8) (by decide) hd e
  refine s_isInN (lo := 3) (hi := 4) (by decide) (by decide) (by decide) (by decide) _ _ (fun tg t1 t2 ha => br_f (by decide) ?_) (fun ha => br_t rfl (kr (-1) ?_))
  · have ht : tg = 3 ∨ tg = 4 := by omega
    have h2 : a2 = 3 ∨ a2 = 4 := ht.elim (fun z => Or.inl (by rw [ha, z]; decide)) (fun z => Or.inr (by rw [ha, z]; decide))
    refine br_c (fun z => br_c (fun z2 => ?_) (fun z2 => ?_)) (fun z => ?_)
    · obtain ⟨n, hn, rfl⟩ := nI_of2 (M := 60) (n := 60) (by decide) (Int32.not_lt.mpr z2) z
      have hx : xMake v a1 a2 (nI n) = (0, va_up v d (tg, 0, 0, n, fun _ => 0)) := by
        unfold xMake
        simp only [ed, h2, if_true, if_neg (Int32.not_lt.mpr z), if_neg (Int32.not_lt.mpr z2)]
        rw [ha, nI_clamp (by omega), nI_clamp (by omega)]
      rw [hx] at k
      refine ⟨70, hr.get 42 46 70 (by decide), ?_⟩
      rw [e, nI_clamp (by omega)]
      refine ⟨vp_in_nI hd (by decide), ?_⟩
      rintro _ rfl
      refine ⟨71, hr.get 42 47 71 (by decide), vp_in_nI hd (by decide), ?_⟩
      rintro _ rfl
      have f2 : fM u (mpI (mpI (mpI u 42 0 0) 70 d a2) 71 d (nI n)) := (f0.tr (fM.pI _ (by decide))).tr (fM.pI _ (by decide))
      have loop : ∀ m i w, i + m = n → fM u w → mI w = mI (mpI (mpI (mpI u 42 0 0) 70 d a2) 71 d (nI n)) → (∀ j, j < i → mL w 74 (60 * d + j) = 0) → (∀ j, (j < 60 * d ∨ 60 * d + 60 ≤ j) → mL w 74 j = mL u 74 j) → bX9_make_58 (m + 1) 42 (nI d) (nI n) (nI i) w K := by
        intro m
        induction m with
        | zero =>
          intro i w hm w1 w2 w3 w4
          unfold bX9_make_58
          refine br_t (nI_le (by omega) (by omega)) ?_
          refine k w (rSv_up hc hd (fun j hj => ?_) (fun j hj => ?_) (fun j hj => ?_) (fun j hj => ?_) w4 ho ⟨?_, fun z => by simp only at z; omega, fun _ => ⟨?_, fun j hj => w3 j (by simp only at hj; omega)⟩⟩) w1 (fun p p1 p2 p3 => ?_) (fun j hj => ?_)
          · rw [w2]; simp [s1, mup_at, hj]
          · rw [w2]; simp [s1, mup_at, hj]
          · rw [w2]; simp [s1, mup_at]
          · rw [w2]; simp [s1, mup_at]
          · rw [w2]; simp [s1, mup_at, ha]
          · rw [w2]; simp [s1, mup_at]
          · rw [w2]; simp only [s1]; rw [mup_ne _ p3, mup_ne _ p2, mup_ne _ p1]
          · rw [w2]; simp [s1, mup_at, hj]
        | succ m ih =>
          intro i w hm w1 w2 w3 w4
          unfold bX9_make_58
          have hix : 60 * nI d + nI i = nI (60 * d + i) := by rw [show (60 : Int32) = nI 60 by decide, pk_mul, nI_add]
          refine br_f (nI_ge (by omega) (by omega)) ⟨74, by rw [w1.2.1]; exact hr.get 42 50 74 (by decide), ?_⟩
          rw [hix, nI_clamp (by omega)]
          refine ⟨vp_in_nI (by omega) (by decide), ?_⟩
          rintro _ rfl _ rfl
          rw [nI_1]
          refine ih (i + 1) _ (by omega) (w1.tr (fM.pL w (by decide))) w2 (fun j hj => ?_) (fun j hj => ?_)
          · simp only [s9, mup_at]
            by_cases h : j = i
            · simp [h]
            · rw [if_neg (by omega)]; exact w3 j (by omega)
          · simp only [s9, mup_at]
            rw [if_neg (by omega)]; exact w4 j hj
      have h0 := loop n 0 _ (by omega) f2 rfl (fun j hj => absurd hj (by omega)) (fun j _ => rfl)
      exact ⟨n + 1, by simpa [nI_0] using h0⟩
    · exact kr (-14) (by unfold xMake; simp only [ed, h2, if_true, if_neg (Int32.not_lt.mpr z), if_pos (Int32.not_le.mp z2)])
    · exact kr (-1) (by unfold xMake; simp only [ed, h2, if_true, if_pos (Int32.not_le.mp z)])
  · unfold xMake
    have h3 : ¬ (a2 = 3 ∨ a2 = 4) := by
      rintro (h | h)
      · exact ha 3 (by decide) (by decide) (by rw [h]; decide)
      · exact ha 4 (by decide) (by decide) (by rw [h]; decide)
    simp only [ed, h3, if_false]
