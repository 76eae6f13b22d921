/-- a stretch of n from i on in a row of z, by numbers -/
def hasN (z : Nat) (a b : Int32) : Option (Nat × Nat) := match dec a (z + 1) with
  | none => none
  | some i => match dec b (z - i + 1) with
    | none => none
    | some n => some (i, n)
theorem hasN_cases (a b : Int32) {z : Nat} (hz : z ≤ 60) : (∃ i n, i + n ≤ z ∧ a = nI i ∧ b = nI n ∧ hasN z a b = some (i, n)) ∨ (hasN z a b = none ∧ ∀ i n, i + n ≤ z → ¬ (a = nI i ∧ b = nI n)) := by
  unfold hasN
  rcases dec_cases a (n := z + 1) (by omega) with ⟨i, hi, e, d⟩ | ⟨hno, d⟩
  · rcases dec_cases b (n := z - i + 1) (by omega) with ⟨n, hn, e2, d2⟩ | ⟨hno, d2⟩
    · exact Or.inl ⟨i, n, by omega, e, e2, by simp only [d, d2]⟩
    · refine Or.inr ⟨by simp only [d, d2], fun i' n' h ⟨q1, q2⟩ => ?_⟩
      have : i = i' := (nI_eq (by omega) (by omega)).mp (e.symm.trans q1)
      subst this
      exact hno n' (by omega) q2
  · exact Or.inr ⟨by simp only [d], fun i' n' h ⟨q1, q2⟩ => hno i' (by omega) q1⟩
theorem hasN_some {a b : Int32} {z i n : Nat} (hz : z ≤ 60) (h : i + n ≤ z) (e1 : a = nI i) (e2 : b = nI n) : hasN z a b = some (i, n) := by
  rcases hasN_cases a b hz with ⟨i', n', h', q1, q2, q⟩ | ⟨-, hno⟩
  · rw [q, (nI_eq (by omega) (by omega)).mp (e1.symm.trans q1), (nI_eq (by omega) (by omega)).mp (e2.symm.trans q2)]
  · exact absurd ⟨e1, e2⟩ (hno i n h)
theorem hasN_none {a b : Int32} {z : Nat} (hz : z ≤ 60) (h : ∀ i n, i + n ≤ z → ¬ (a = nI i ∧ b = nI n)) : hasN z a b = none := by
  rcases hasN_cases a b hz with ⟨i, n, h', q1, q2, q⟩ | ⟨q, -⟩
  · exact absurd ⟨q1, q2⟩ (h i n h')
  · exact q
theorem s_stretch {s z : Nat} {a b : Int32} {u : mSt} {K : Int32 → mSt → Prop} (hz : z ≤ 60) (hs : mI u s 4 = nI z) (h1 : ∀ i n, i + n ≤ z → a = nI i → b = nI n → K 1 u) (h0 : (∀ i n, i + n ≤ z → ¬ (a = nI i ∧ b = nI n)) → K 0 u) : bX5_hasStretch s a b u K := by
  unfold bX5_hasStretch
  rw [hs]
  refine br_c (fun c => h0 (fun i n _ q => by rw [q.1] at c; exact absurd c (nI_pos (by omega)))) (fun c => ?_)
  refine br_c (fun c2 => h0 (fun i n _ q => by rw [q.2] at c2; exact absurd c2 (nI_pos (by omega)))) (fun c2 => ?_)
  obtain ⟨i, hi, rfl⟩ := nI_of c
  obtain ⟨n, hn, rfl⟩ := nI_of c2
  rw [nI_ltI (by omega) hi]
  refine br_c (fun c3 => h0 (fun i' n' h q => by have := (nI_eq hi (by omega)).mp q.1; omega)) (fun c3 => ?_)
  rw [pk_sub (by omega), nI_ltI (by omega) hn]
  refine br_c (fun c4 => h0 (fun i' n' h q => by have := (nI_eq hi (by omega)).mp q.1; have := (nI_eq hn (by omega)).mp q.2; omega)) (fun c4 => h1 i n (by omega) rfl rfl)
theorem s_hasPlaces {d z : Nat} {a b : Int32} {u : mSt} {K : Int32 → mSt → Prop} (hr : rRf u) (hd : d < 8) (hz : z ≤ 60) (hs : mI u 71 d = nI z) (h1 : ∀ i n, i + n ≤ z → a = nI i → b = nI n → K 1 u) (h0 : (∀ i n, i + n ≤ z → ¬ (a = nI i ∧ b = nI n)) → K 0 u) : bX9_hasPlaces 42 (nI d) a b u K := by
  have r := hr.get 42 47 71 (by decide)
  have hin : vp_in (nI d) 8 := vp_in_nI hd (by decide)
  unfold bX9_hasPlaces
  rw [nI_clamp (by omega)]
  refine br_c (fun c2 => h0 (fun i n _ q => by rw [q.2] at c2; exact absurd c2 (nI_pos (by omega)))) (fun c2 => ?_)
  refine br_c (fun c => h0 (fun i n _ q => by rw [q.1] at c; exact absurd c (nI_pos (by omega)))) (fun c => ?_)
  obtain ⟨i, hi, rfl⟩ := nI_of c
  obtain ⟨n, hn, rfl⟩ := nI_of c2
  refine ⟨71, r, hin, ?_⟩
  rw [hs, nI_ltI (by omega) hi]
  refine br_c (fun c3 => h0 (fun i' n' h q => by have := (nI_eq hi (by omega)).mp q.1; omega)) (fun c3 => ⟨71, r, hin, ?_⟩)
  rw [hs, pk_sub (by omega), nI_ltI (by omega) hn]
  refine br_c (fun c4 => h0 (fun i' n' h q => by have := (nI_eq hi (by omega)).mp q.1; have := (nI_eq hn (by omega)).mp q.2; omega)) (fun c4 => h1 i n (by omega) rfl rfl)
/-- copy -/
def xCopy (v : aSv) (a1 a2 a3 a4 a5 : Int32) : Int32 × aSv := match dec a1 8 with
  | none => (-1, v)
  | some d => match dec a3 8 with
    | none => (-1, v)
    | some e => if (v d).1 = 0 ∨ (v e).1 = 0 then (-11, v) else if (v d).1 < 3 ∨ (v d).1 ≠ (v e).1 then (-12, v) else match hasN (v d).2.2.2.1 a2 a5 with
      | none => (-13, v)
      | some (i, n) => match hasN (v e).2.2.2.1 a4 a5 with
        | none => (-13, v)
        | some (j, _) => (nI n, va_up v e ((v e).1, 0, 0, (v e).2.2.2.1, va_cpy (v d).2.2.2.2 (v e).2.2.2.2 i j n))
theorem xCopy_ok {v : aSv} (ho : oSv v) (a1 a2 a3 a4 a5 : Int32) : oSv (xCopy v a1 a2 a3 a4 a5).2 := by
  unfold xCopy
  rcases dec_cases a1 (n := 8) (by decide) with ⟨d, hd, -, e1⟩ | ⟨-, e1⟩ <;> simp only [e1]
  · rcases dec_cases a3 (n := 8) (by decide) with ⟨e, he, -, e3⟩ | ⟨-, e3⟩ <;> simp only [e3]
    · by_cases h1 : (v d).1 = 0 ∨ (v e).1 = 0
      · simp only [h1, if_true]; exact ho
      · simp only [h1, if_false]
        by_cases h2 : (v d).1 < 3 ∨ (v d).1 ≠ (v e).1
        · simp only [h2, if_true]; exact ho
        · simp only [h2, if_false]
          cases hasN (v d).2.2.2.1 a2 a5 with
          | none => exact ho
          | some q =>
            cases hasN (v e).2.2.2.1 a4 a5 with
            | none => exact ho
            | some q2 =>
              intro d' hd'
              show _ ∧ _
              unfold va_up
              by_cases h : d' = e
              · simp only [h, if_true]
                exact ⟨(ho e he).1, (ho e he).2.1, fun z => by omega⟩
              · simp only [h, if_false]; exact ho d' hd'
    · exact ho
  · exact ho
theorem s_isRow {s t : Nat} {u : mSt} {K : Int32 → mSt → Prop} (ht : t = 0 ∨ t = 1 ∨ t = 3 ∨ t = 4) (hs : mI u s 1 = nI t) (k : K (if 3 ≤ t then 1 else 0) u) : bX5_isRow s u K := by
  unfold bX5_isRow
  rw [hs]
  rcases ht with rfl | rfl | rfl | rfl
  · exact br_f (by decide) (br_f (by decide) k)
  · exact br_f (by decide) (br_f (by decide) k)
  · exact br_t (by decide) k
  · exact br_f (by decide) (br_t (by decide) k)
theorem C_copy {v : aSv} {u : mSt} {a1 a2 a3 a4 a5 : Int32} {K : Int32 → mSt → Prop} (hr : cRf u) (ho : oSv v) (hc : cSv v u) (k : ∀ w, cSv (xCopy v a1 a2 a3 a4 a5).2 w → mR w = mR u → mN w = mN u → mT w = mT u → mI w = mI u → (∀ p, (p < 26 ∨ 42 ≤ p) → mL w p = mL u p) → K (xCopy v a1 a2 a3 a4 a5).1 w) : bX8_copy 0 a1 a2 a3 a4 a5 u K := by
  have r7 := hr.get 0 7 25 (by decide)
  have kr : ∀ r, xCopy v a1 a2 a3 a4 a5 = (r, v) → K r u := by
    intro r e
    rw [e] at k
    exact k u hc rfl rfl rfl rfl (fun _ _ => rfl)
  unfold bX8_copy
  refine s_withinN (N := 8) rfl (by decide) _ _ (fun d hd e1 => br_f (by decide) ?_) (fun e => br_t rfl (kr (-1) (by unfold xCopy; simp only [dec_none (n := 8) (by decide) e])))
  have ed := dec_some (n := 8) (by decide) hd e1
  refine s_withinN (N := 8) rfl (by decide) _ _ (fun e he e3 => br_f (by decide) ?_) (fun e => br_t rfl (kr (-1) (by unfold xCopy; simp only [ed, dec_none (n := 8) (by decide) e])))
  have ee := dec_some (n := 8) (by decide) he e3
  obtain ⟨y1, y2⟩ := shelf_at hr hd
  obtain ⟨z1, z2⟩ := shelf_at hr he
  have td := (ho d hd).1
  have te := (ho e he).1
  have cd := hc d hd
  have ce := hc e he
  have d0 : nI (v d).1 = 0 ↔ (v d).1 = 0 := by rw [k0]; exact nI_eq (by omega) (by decide)
  have e0 : nI (v e).1 = 0 ↔ (v e).1 = 0 := by rw [k0]; exact nI_eq (by omega) (by decide)
  have de : nI (v d).1 = nI (v e).1 ↔ (v d).1 = (v e).1 := nI_eq (by omega) (by omega)
  refine ⟨25, r7, ?_⟩
  rw [e1, e3, nI_clamp (show d < 2 ^ 31 by omega), nI_clamp (show e < 2 ^ 31 by omega)]
  refine ⟨vp_in_nI hd (by decide), 26 + 2 * d, y1, 25, r7, vp_in_nI he (by decide), 26 + 2 * e, z1, ?_⟩
  rw [cd.1, ce.1, d0, e0]
  refine br_c (fun q => kr (-11) (by unfold xCopy; simp only [ed, ee, q, true_or, if_true])) (fun q => ?_)
  refine br_c (fun q2 => kr (-11) (by unfold xCopy; simp only [ed, ee, q2, or_true, if_true])) (fun q2 => ?_)
  refine s_isRow td cd.1 ?_
  by_cases h3 : 3 ≤ (v d).1
  · rw [if_pos h3]
    refine br_f (by decide) ?_
    rw [cd.1, ce.1, de]
    refine br_c (fun q3 => ?_) (fun q3 => kr (-12) (by unfold xCopy; simp only [ed, ee, q, q2, or_self, if_false, q3, ne_eq, not_false_eq_true, or_true, if_true]))
    have hx0 : ∀ r, (match hasN (v d).2.2.2.1 a2 a5 with
        | none => (-13, v)
        | some (i, n) => match hasN (v e).2.2.2.1 a4 a5 with
          | none => (-13, v)
          | some (j, _) => (nI n, va_up v e ((v e).1, 0, 0, (v e).2.2.2.1, va_cpy (v d).2.2.2.2 (v e).2.2.2.2 i j n))) = r → xCopy v a1 a2 a3 a4 a5 = r := by
      intro r hr'
      unfold xCopy
      simp only [ed, ee, q, q2, or_self, if_false, show ¬ ((v d).1 < 3 ∨ (v d).1 ≠ (v e).1) by omega]
      exact hr'
    have zd := (ho d hd).2.1 h3
    have ze := (ho e he).2.1 (by omega)
    have sd := cd.2.2 h3
    have se := ce.2.2 (by omega)
    refine s_stretch zd sd.1 (fun i n hin ei en => br_f (by decide) ?_) (fun hno => br_t rfl (kr (-13) (hx0 _ (by rw [hasN_none zd hno]))))
    refine s_stretch ze se.1 (fun j n' hjn ej en' => br_f (by decide) ?_) (fun hno => br_t rfl (kr (-13) (hx0 _ (by rw [hasN_some zd hin ei en]; simp only [hasN_none ze hno]))))
    have hnn : n' = n := (nI_eq (by omega) (by omega)).mp (en'.symm.trans en)
    subst hnn
    have hx : xCopy v a1 a2 a3 a4 a5 = (nI n', va_up v e ((v e).1, 0, 0, (v e).2.2.2.1, va_cpy (v d).2.2.2.2 (v e).2.2.2.2 i j n')) := hx0 _ (by rw [hasN_some zd hin ei en]; simp only [hasN_some ze hjn ej en])
    rw [hx] at k
    refine ⟨27 + 2 * d, y2, 27 + 2 * e, z2, ?_⟩
    rw [ei, ej, en, nI_clamp (by omega), nI_clamp (by omega), nI_clamp (by omega)]
    refine ⟨⟨nI_pos (by omega), nI_pos (by omega), nI_pos (by omega), by omega, by omega⟩, ?_⟩
    rintro _ rfl
    refine k _ ?_ rfl rfl rfl rfl (fun p hp => by simp only [s15]; rw [mrow_ne _ (by omega)])
    refine cSv_up hc (fun p _ => rfl) (fun p hp => by simp only [s15]; rw [mrow_ne _ hp]) ⟨ce.1, fun z => ?_, fun _ => ⟨se.1, fun x hx => ?_⟩⟩
    · replace z : (v e).1 = 1 := z
      omega
    replace hx : x < (v e).2.2.2.1 := hx
    show _ = va_cpy (v d).2.2.2.2 (v e).2.2.2.2 i j n' x
    simp only [s15]
    rw [mrow_self]
    unfold va_cpy
    by_cases hq : j ≤ x ∧ x < j + n'
    · rw [if_pos hq, if_pos hq]
      exact sd.2 _ (by omega)
    · rw [if_neg hq, if_neg hq]
      exact se.2 x hx
  · rw [if_neg h3]
    exact br_t rfl (kr (-12) (by unfold xCopy; simp only [ed, ee, q, q2, or_self, if_false, show (v d).1 < 3 ∨ (v d).1 ≠ (v e).1 by omega, if_true]))
theorem M_copy {v : aSv} {u : mSt} {a1 a2 a3 a4 a5 : Int32} {K : Int32 → mSt → Prop} (hr : rRf u) (ho : oSv v) (hc : rSv v u) (k : ∀ w, rSv (xCopy v a1 a2 a3 a4 a5).2 w → fM u w → (∀ p, p ≠ 42 → mI w p = mI u p) → (∀ i, i ≠ 0 → mI w 42 i = mI u 42 i) → K (xCopy v a1 a2 a3 a4 a5).1 w) : bX9_copy 42 a1 a2 a3 a4 a5 u K := by
  have f0 : fM u (mpI u 42 0 0) := fM.pI u (by decide)
  have hr' : rRf (mpI u 42 0 0) := hr.of rfl
  have hc' : rSv v (mpI u 42 0 0) := by
    intro d hd
    rw [th_ne u (by decide), th_ne u (by decide), th_ne u (by decide), th_ne u (by decide)]
    exact hc d hd
  have kr : ∀ r, xCopy v a1 a2 a3 a4 a5 = (r, v) → K r (mpI u 42 0 0) := by
    intro r e
    rw [e] at k
    exact k _ hc' f0 (fun p p1 => th_ne u p1 0) (fun i hi => th_at u hi 0)
  have r70 := hr'.get 42 46 70 (by decide)
  unfold bX9_copy
  rintro _ rfl
  refine s_isShelfN (fun d hd e1 => br_f (by decide) ?_) (fun e => br_t rfl (kr (-1) (by unfold xCopy; simp only [dec_none (n := 8) (by decide) e])))
  have ed := dec_some (n := 8) (by decide) hd e1
  refine s_isShelfN (fun e he e3 => br_f (by decide) ?_) (fun e => br_t rfl (kr (-1) (by unfold xCopy; simp only [ed, dec_none (n := 8) (by decide) e])))
  have ee := dec_some (n := 8) (by decide) he e3
  have td := (ho d hd).1
  have te := (ho e he).1
  have cd := hc' d hd
  have ce := hc' e he
  have d0 : nI (v d).1 = 0 ↔ (v d).1 = 0 := by rw [k0]; exact nI_eq (by omega) (by decide)
  have e0 : nI (v e).1 = 0 ↔ (v e).1 = 0 := by rw [k0]; exact nI_eq (by omega) (by decide)
  have d3 : nI (v d).1 < 3 ↔ (v d).1 < 3 := by rw [show (3 : Int32) = nI 3 by decide]; exact nI_ltI (by omega) (by decide)
  have de : nI (v d).1 = nI (v e).1 ↔ (v d).1 = (v e).1 := nI_eq (by omega) (by omega)
  have ind : vp_in (nI d) 8 := vp_in_nI hd (by decide)
  have ine : vp_in (nI e) 8 := vp_in_nI he (by decide)
  refine ⟨70, r70, ?_⟩
  rw [e1, e3, nI_clamp (show d < 2 ^ 31 by omega), nI_clamp (show e < 2 ^ 31 by omega)]
  refine ⟨ind, ?_⟩
  rw [cd.1, d0]
  refine br_c (fun q => kr (-11) (by unfold xCopy; simp only [ed, ee, q, true_or, if_true])) (fun q => ⟨70, r70, ine, ?_⟩)
  rw [ce.1, e0]
  refine br_c (fun q2 => kr (-11) (by unfold xCopy; simp only [ed, ee, q2, or_true, if_true])) (fun q2 => ⟨70, r70, ind, ?_⟩)
  rw [cd.1, d3]
  refine br_c (fun h3 => kr (-12) (by unfold xCopy; simp only [ed, ee, q, q2, or_self, if_false, h3, true_or, if_true])) (fun h3 => ⟨70, r70, ind, 70, r70, ine, ?_⟩)
  rw [cd.1, ce.1, de]
  refine br_c (fun q3 => ?_) (fun q3 => kr (-12) (by unfold xCopy; simp only [ed, ee, q, q2, or_self, if_false, q3, ne_eq, not_false_eq_true, or_true, if_true]))
  have hx0 : ∀ r, (match hasN (v d).2.2.2.1 a2 a5 with
      | none => (-13, v)
      | some (i, n) => match hasN (v e).2.2.2.1 a4 a5 with
        | none => (-13, v)
        | some (j, _) => (nI n, va_up v e ((v e).1, 0, 0, (v e).2.2.2.1, va_cpy (v d).2.2.2.2 (v e).2.2.2.2 i j n))) = r → xCopy v a1 a2 a3 a4 a5 = r := by
    intro r hr'
    unfold xCopy
    simp only [ed, ee, q, q2, or_self, if_false, show ¬ ((v d).1 < 3 ∨ (v d).1 ≠ (v e).1) by omega]
    exact hr'
  have zd := (ho d hd).2.1 (by omega)
  have ze := (ho e he).2.1 (by omega)
  have sd := cd.2.2 (by omega)
  have se := ce.2.2 (by omega)
  refine s_hasPlaces hr' hd zd sd.1 (fun i n hin ei en => br_f (by decide) ?_) (fun hno => br_t rfl (kr (-13) (hx0 _ (by rw [hasN_none zd hno]))))
  refine s_hasPlaces hr' he ze se.1 (fun j n' hjn ej en' => br_f (by decide) ?_) (fun hno => br_t rfl (kr (-13) (hx0 _ (by rw [hasN_some zd hin ei en]; simp only [hasN_none ze hno]))))
  have hnn : n' = n := (nI_eq (by omega) (by omega)).mp (en'.symm.trans en)
  subst hnn
  have hx : xCopy v a1 a2 a3 a4 a5 = (nI n', va_up v e ((v e).1, 0, 0, (v e).2.2.2.1, va_cpy (v d).2.2.2.2 (v e).2.2.2.2 i j n')) := hx0 _ (by rw [hasN_some zd hin ei en]; simp only [hasN_some ze hjn ej en])
  rw [hx] at k
  rw [ei, ej, en]
  have hixd : ∀ x, 60 * nI d + nI i + nI x = nI (60 * d + i + x) := fun x => by rw [show (60 : Int32) = nI 60 by decide, pk_mul, nI_add, nI_add]
  have hixe : ∀ x, 60 * nI e + nI j + nI x = nI (60 * e + j + x) := fun x => by rw [show (60 : Int32) = nI 60 by decide, pk_mul, nI_add, nI_add]
  have loop2 : ∀ m x w, x + m = n' → fM u w → mI w = mI (mpI u 42 0 0) → (∀ y, y < n' → mL w 75 y = mL u 74 (60 * d + i + y)) → (∀ y, mL w 74 y = if 60 * e + j ≤ y ∧ y < 60 * e + j + x then mL u 74 (60 * d + i + (y - (60 * e + j))) else mL u 74 y) → bX9_copy_136 (m + 1) 42 (nI e) (nI j) (nI n') (nI x) w K := by
    intro m
    induction m with
    | zero =>
      intro x w hm w1 w2 w3 w4
      unfold bX9_copy_136
      refine br_t (nI_le (by omega) (by omega)) ?_
      have hxn : x = n' := by omega
      refine k w (rSv_up hc he (fun y _ => ?_) (fun y _ => ?_) (fun y _ => ?_) (fun y _ => ?_) (fun y hy => ?_) ho ⟨?_, fun z => ?_, fun _ => ⟨?_, fun y hy => ?_⟩⟩) w1 (fun p hp => by rw [w2]; exact th_ne u hp 0) (fun y hy => by rw [w2]; exact th_at u hy 0)
      · rw [w2, th_ne u (by decide)]
      · rw [w2, th_ne u (by decide)]
      · rw [w2, th_ne u (by decide)]
      · rw [w2, th_ne u (by decide)]
      · rw [w4, if_neg (by omega)]
      · rw [w2]; exact ce.1
      · replace z : (v e).1 = 1 := z
        omega
      · rw [w2]; exact se.1
      · replace hy : y < (v e).2.2.2.1 := hy
        show _ = va_cpy (v d).2.2.2.2 (v e).2.2.2.2 i j n' y
        rw [w4]
        unfold va_cpy
        by_cases hq : j ≤ y ∧ y < j + n'
        · rw [if_pos (by omega), if_pos hq, ← sd.2 _ (show i + (y - j) < _ by omega)]
          show mL u 74 _ = mL u 74 _
          congr 1
          omega
        · rw [if_neg (by omega), if_neg hq, ← se.2 _ hy]
          rfl
    | succ m ih =>
      intro x w hm w1 w2 w3 w4
      unfold bX9_copy_136
      refine br_f (nI_ge (by omega) (by omega)) ⟨74, by rw [w1.2.1]; exact hr.get 42 50 74 (by decide), 75, by rw [w1.2.1]; exact hr.get 42 51 75 (by decide), vp_in_nI (by omega) (by decide), ?_⟩
      rw [hixe, nI_clamp (by omega), nI_clamp (by omega)]
      refine ⟨vp_in_nI (by omega) (by decide), ?_⟩
      rintro _ rfl _ rfl
      rw [nI_1]
      refine ih (x + 1) _ (by omega) (w1.tr (fM.pL w (by decide))) w2 (fun y hy => ?_) (fun y => ?_)
      · simp only [s9, mup_at]
        rw [if_neg (by omega)]
        exact w3 y hy
      · simp only [s9, mup_at]
        by_cases hq : y = 60 * e + j + x
        · rw [if_pos ⟨trivial, hq⟩, if_pos (by omega), w3 x (by omega)]
          congr 1
          omega
        · rw [if_neg (by omega), w4]
          by_cases h2 : 60 * e + j ≤ y ∧ y < 60 * e + j + x
          · rw [if_pos h2, if_pos (by omega)]
          · rw [if_neg h2, if_neg (by omega)]
  have loop1 : ∀ m x w, x + m = n' → fM u w → mI w = mI (mpI u 42 0 0) → (∀ y, y < x → mL w 75 y = mL u 74 (60 * d + i + y)) → mL w 74 = mL u 74 → bX9_copy_99 (m + 1) 42 (nI d) (nI i) (nI e) (nI j) (nI n') (nI x) w K := by
    intro m
    induction m with
    | zero =>
      intro x w hm w1 w2 w3 w4
      unfold bX9_copy_99
      refine br_t (nI_le (by omega) (by omega)) ⟨n' + 1, ?_⟩
      have hxn : x = n' := by omega
      have h2 := loop2 n' 0 w (by omega) w1 w2 (fun y hy => w3 y (by omega)) (fun y => by rw [w4, if_neg (by omega)])
      simpa [nI_0] using h2
    | succ m ih =>
      intro x w hm w1 w2 w3 w4
      unfold bX9_copy_99
      refine br_f (nI_ge (by omega) (by omega)) ⟨75, by rw [w1.2.1]; exact hr.get 42 51 75 (by decide), 74, by rw [w1.2.1]; exact hr.get 42 50 74 (by decide), ?_⟩
      rw [hixd, nI_clamp (by omega), nI_clamp (by omega)]
      refine ⟨vp_in_nI (by omega) (by decide), vp_in_nI (by omega) (by decide), ?_⟩
      rintro _ rfl _ rfl
      rw [nI_1]
      refine ih (x + 1) _ (by omega) (w1.tr (fM.pL w (by decide))) w2 (fun y hy => ?_) ?_
      · simp only [s9, mup_at]
        by_cases hq : y = x
        · rw [if_pos ⟨trivial, hq⟩, w4, hq]
        · rw [if_neg (by omega)]
          exact w3 y (by omega)
      · simp only [s9]
        rw [mup_ne _ (by decide)]
        exact w4
  have h1 := loop1 n' 0 _ (by omega) f0 rfl (fun y hy => absurd hy (by omega)) rfl
  exact ⟨n' + 1, by simpa [nI_0] using h1⟩
