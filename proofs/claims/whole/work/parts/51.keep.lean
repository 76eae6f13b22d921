/-- the acts that a row of bytes takes: the latest z of them -/
def lateA (w : List aEv) (z i : Nat) : Int64 := match w[w.length - z + i]? with
  | none => 0
  | some e => (nI e.1).toInt64
/-- keep -/
def xKeep (h : aHo) (w : aWk) (t : aAt) (v : aSv) (a1 a2 a3 : Int32) : Int32 × aSv := match dec a1 8 with
  | none => (-1, v)
  | some d => if a2 = 0 then (0, va_up v d (0, 0, 0, 0, fun _ => 0)) else if a2 = 1 then (match dec a3 (h.1 * 4) with
      | none => (-1, v)
      | some x => (0, va_up v d (1, h.2.2.2.1 x, if h.2.2.2.1 x = 0 then 0 else h.2.2.2.2 x, 0, fun _ => 0)))
    else if a2 = 3 then (if w.1 = false then (-1, v) else (0, va_up v d (3, 0, 0, min 60 w.2.2.2.length, lateA w.2.2.2 (min 60 w.2.2.2.length))))
    else if a2 = 4 then (match dec a3 t.2.2.length with
      | none => (-1, v)
      | some k => match t.2.2[k]? with
        | none => (-1, v)
        | some s => (0, va_up v d (4, 0, 0, s.1, fun i => (nI (s.2.2.2.1 i)).toInt64)))
    else (-1, v)
theorem oSv_up {v : aSv} (ho : oSv v) {d : Nat} {e : Nat × Nat × Nat × Nat × (Nat → Int64)} (he : (e.1 = 0 ∨ e.1 = 1 ∨ e.1 = 3 ∨ e.1 = 4) ∧ (3 ≤ e.1 → e.2.2.2.1 ≤ 60) ∧ (e.1 = 1 → e.2.1 < 6 ∧ e.2.2.1 < 10)) : oSv (va_up v d e) := by
  intro d' hd'
  unfold va_up
  by_cases h : d' = d
  · simp only [h, if_true]; exact he
  · simp only [h, if_false]; exact ho d' hd'
theorem xKeep_ok {h : aHo} {w : aWk} {t : aAt} {v : aSv} (hh : oHo h) (ht : oAt w t) (ho : oSv v) (a1 a2 a3 : Int32) : oSv (xKeep h w t v a1 a2 a3).2 := by
  have h10 := hh.1
  unfold xKeep
  rcases dec_cases a1 (n := 8) (by decide) with ⟨d, hd, -, e1⟩ | ⟨-, e1⟩ <;> simp only [e1]
  · by_cases q0 : a2 = 0
    · simp only [q0, if_true]
      exact oSv_up ho ⟨Or.inl rfl, fun z => by simp at z, fun z => by simp at z⟩
    · simp only [q0, if_false]
      by_cases q1 : a2 = 1
      · simp only [q1, if_true]
        rcases dec_cases a3 (n := h.1 * 4) (by omega) with ⟨x, hx, -, e3⟩ | ⟨-, e3⟩ <;> simp only [e3]
        · refine oSv_up ho ⟨Or.inr (Or.inl rfl), fun z => by simp at z, fun _ => ⟨(hh.2.2 x (by omega)).1, ?_⟩⟩
          by_cases z : h.2.2.2.1 x = 0
          · simp only [z, if_true]; decide
          · simp only [z, if_false]; have := ((hh.2.2 x (by omega)).2 z).1; omega
        · exact ho
      · simp only [q1, if_false]
        by_cases q3 : a2 = 3
        · simp only [q3, if_true]
          by_cases z : w.1 = false
          · simp only [z, if_true]; exact ho
          · simp only [z, if_false]
            exact oSv_up ho ⟨Or.inr (Or.inr (Or.inl rfl)), fun _ => Nat.min_le_left _ _, fun z => by simp at z⟩
        · simp only [q3, if_false]
          by_cases q4 : a2 = 4
          · simp only [q4, if_true]
            have hl := ht.2.2.2.1
            rcases dec_cases a3 (n := t.2.2.length) (by omega) with ⟨k, hk, -, e3⟩ | ⟨-, e3⟩ <;> simp only [e3]
            · simp only [List.getElem?_eq_getElem hk]
              have hs := (ht.2.2.2.2 _ (List.getElem_mem hk)).1.1.2.1
              exact oSv_up ho ⟨Or.inr (Or.inr (Or.inr rfl)), fun _ => by show (t.2.2[k]).1 ≤ 60; omega, fun z => by simp at z⟩
            · exact ho
          · simp only [q4, if_false]; exact ho
  · exact ho
theorem xK0 {h : aHo} {w : aWk} {t : aAt} {v : aSv} {a1 a2 a3 : Int32} {d : Nat} (ed : dec a1 8 = some d) (q0 : a2 = 0) : xKeep h w t v a1 a2 a3 = (0, va_up v d (0, 0, 0, 0, fun _ => 0)) := by
  unfold xKeep; rw [ed]; dsimp only; rw [if_pos q0]
theorem xK1 {h : aHo} {w : aWk} {t : aAt} {v : aSv} {a1 a2 a3 : Int32} {d x : Nat} (ed : dec a1 8 = some d) (q0 : a2 = 1) (e3 : dec a3 (h.1 * 4) = some x) : xKeep h w t v a1 a2 a3 = (0, va_up v d (1, h.2.2.2.1 x, if h.2.2.2.1 x = 0 then 0 else h.2.2.2.2 x, 0, fun _ => 0)) := by
  unfold xKeep; rw [ed]; dsimp only; rw [if_neg (by rw [q0]; decide), if_pos q0, e3]
theorem xK1n {h : aHo} {w : aWk} {t : aAt} {v : aSv} {a1 a2 a3 : Int32} {d : Nat} (ed : dec a1 8 = some d) (q0 : a2 = 1) (e3 : dec a3 (h.1 * 4) = none) : xKeep h w t v a1 a2 a3 = (-1, v) := by
  unfold xKeep; rw [ed]; dsimp only; rw [if_neg (by rw [q0]; decide), if_pos q0, e3]
theorem xK3 {h : aHo} {w : aWk} {t : aAt} {v : aSv} {a1 a2 a3 : Int32} {d : Nat} (ed : dec a1 8 = some d) (q0 : a2 = 3) (q : ¬ w.1 = false) : xKeep h w t v a1 a2 a3 = (0, va_up v d (3, 0, 0, min 60 w.2.2.2.length, lateA w.2.2.2 (min 60 w.2.2.2.length))) := by
  unfold xKeep; rw [ed]; dsimp only; rw [if_neg (by rw [q0]; decide), if_neg (by rw [q0]; decide), if_pos q0, if_neg q]
theorem xK3n {h : aHo} {w : aWk} {t : aAt} {v : aSv} {a1 a2 a3 : Int32} {d : Nat} (ed : dec a1 8 = some d) (q0 : a2 = 3) (q : w.1 = false) : xKeep h w t v a1 a2 a3 = (-1, v) := by
  unfold xKeep; rw [ed]; dsimp only; rw [if_neg (by rw [q0]; decide), if_neg (by rw [q0]; decide), if_pos q0, if_pos q]
theorem xK4 {h : aHo} {w : aWk} {t : aAt} {v : aSv} {a1 a2 a3 : Int32} {d k : Nat} {s : aSh} (ed : dec a1 8 = some d) (q0 : a2 = 4) (e3 : dec a3 t.2.2.length = some k) (hk : t.2.2[k]? = some s) : xKeep h w t v a1 a2 a3 = (0, va_up v d (4, 0, 0, s.1, fun i => (nI (s.2.2.2.1 i)).toInt64)) := by
  unfold xKeep; rw [ed]; dsimp only; rw [if_neg (by rw [q0]; decide), if_neg (by rw [q0]; decide), if_neg (by rw [q0]; decide), if_pos q0, e3]; dsimp only; rw [hk]
theorem xK4n {h : aHo} {w : aWk} {t : aAt} {v : aSv} {a1 a2 a3 : Int32} {d : Nat} (ed : dec a1 8 = some d) (q0 : a2 = 4) (e3 : dec a3 t.2.2.length = none) : xKeep h w t v a1 a2 a3 = (-1, v) := by
  unfold xKeep; rw [ed]; dsimp only; rw [if_neg (by rw [q0]; decide), if_neg (by rw [q0]; decide), if_neg (by rw [q0]; decide), if_pos q0, e3]
theorem xKx {h : aHo} {w : aWk} {t : aAt} {v : aSv} {a1 a2 a3 : Int32} (ed : dec a1 8 = none ∨ (a2 ≠ 0 ∧ a2 ≠ 1 ∧ a2 ≠ 3 ∧ a2 ≠ 4)) : xKeep h w t v a1 a2 a3 = (-1, v) := by
  unfold xKeep
  cases hd : dec a1 8 with
  | none => rfl
  | some d =>
    rcases ed with e | ⟨h0, h1, h3, h4⟩
    · rw [hd] at e; cases e
    · dsimp only; rw [if_neg h0, if_neg h1, if_neg h3, if_neg h4]
/-- a row is filled, place by place, behind holdRow -/
def fillC (u y0 : mSt) (d i : Nat) (f : Nat → Int64) (y : mSt) : Prop := mR y = mR u ∧ mN y = mN u ∧ mT y = mT u ∧ mI y = mI y0 ∧ (∀ p, p ≠ 27 + 2 * d → mL y p = mL u p) ∧ ∀ x, x < i → mL y (27 + 2 * d) x = f x
theorem fillC_step {u y0 : mSt} {d i : Nat} {f : Nat → Int64} {y : mSt} {a : Int64} (h : fillC u y0 d i f y) (ha : a = f i) : fillC u y0 d (i + 1) f (mpL y (27 + 2 * d) i a) := by
  obtain ⟨h1, h2, h3, h4, h5, h6⟩ := h
  refine ⟨h1, h2, h3, h4, fun p hp => by simp only [s9]; rw [mup_ne _ hp]; exact h5 p hp, fun x hx => ?_⟩
  simp only [s9, mup_at]
  by_cases q : x = i
  · rw [if_pos ⟨trivial, q⟩, ha, q]
  · rw [if_neg (by omega)]; exact h6 x (by omega)
theorem fillC_end {v : aSv} {u y0 : mSt} {d z tg : Nat} {f g : Nat → Int64} {y : mSt} (hc : cSv v u) (hd : d < 8) (ht : tg = 3 ∨ tg = 4) (h0 : cSv (va_up v d (tg, 0, 0, z, g)) y0) (hI : ∀ p, p ≠ 26 + 2 * d → mI y0 p = mI u p) (h : fillC u y0 d z f y) : cSv (va_up v d (tg, 0, 0, z, f)) y ∧ (∀ p, (p < 26 ∨ 42 ≤ p) → mI y p = mI u p ∧ mL y p = mL u p) := by
  obtain ⟨h1, h2, h3, h4, h5, h6⟩ := h
  have hd0 := h0 d hd
  simp only [va_up, if_true] at hd0
  refine ⟨cSv_up hc (fun p hp => by rw [h4]; exact hI p hp) h5 ⟨by rw [h4]; exact hd0.1, fun z => ?_, fun _ => ⟨by rw [h4]; exact (hd0.2.2 (by omega)).1, h6⟩⟩, fun p hp => ⟨by rw [h4]; exact hI p (by omega), h5 p (by omega)⟩⟩
  replace z : tg = 1 := z
  omega
theorem C_keep {h : aHo} {w : aWk} {t : aAt} {pn ps : Nat} {g : Nat → Nat → Option Nat} {v : aSv} {u : mSt} {a1 a2 a3 : Int32} {K : Int32 → mSt → Prop} (hr : cRf u) (hh : oHo h) (hw : oWk h w) (hot : oAt w t) (hch : cHo h u) (hcw : cWk w u) (hct : cAt t pn ps g u) (hc : cSv v u)
    (k : ∀ y, cSv (xKeep h w t v a1 a2 a3).2 y → mR y = mR u → mN y = mN u → mT y = mT u → (∀ p, (p < 26 ∨ 42 ≤ p) → mI y p = mI u p ∧ mL y p = mL u p) → K (xKeep h w t v a1 a2 a3).1 y) : bX8_keep 0 a1 a2 a3 u K := by
  have r7 := hr.get 0 7 25 (by decide)
  have r0 := hr.get 0 0 1 (by decide)
  have r1 := hr.get 0 1 6 (by decide)
  have r2 := hr.get 0 2 9 (by decide)
  have r60 := hr.get 6 0 7 (by decide)
  have r12 := hr.get 1 2 4 (by decide)
  have r13 := hr.get 1 3 5 (by decide)
  have h10 := hh.1
  have hpn : pn = 10 ∨ pn = 11 := by rcases hct.1.1 with ⟨q, -⟩ | ⟨q, -⟩ <;> omega
  have kr : xKeep h w t v a1 a2 a3 = (-1, v) → K (-1) u := by
    intro e
    rw [e] at k
    exact k u hc rfl rfl rfl (fun _ _ => ⟨rfl, rfl⟩)
  unfold bX8_keep
  refine s_withinN (N := 8) rfl (by decide) _ _ (fun d hd e1 => br_f (by decide) ?_) (fun e => br_t rfl (kr (xKx (Or.inl (dec_none (n := 8) (by decide) e)))))
  have ed := dec_some (n := 8) (by decide) hd e1
  obtain ⟨z1, z2⟩ := shelf_at hr hd
  have ind : vp_in a1 8 := by rw [e1]; exact vp_in_nI hd (by decide)
  have hcl : a1.toNatClampNeg = d := by rw [e1]; exact nI_clamp (by omega)
  rw [hcl]
  refine br_c (fun q0 => ⟨25, r7, ind, 26 + 2 * d, z1, ?_⟩) (fun q0 => ?_)
  · rw [xK0 ed q0] at k
    rintro _ rfl
    refine k _ (cSv_up hc (fun p hp => mup_ne _ hp) (fun p _ => rfl) ⟨?_, fun z => by simp at z, fun z => by simp at z⟩) rfl rfl rfl (fun p hp => ⟨mup_ne _ (by omega), rfl⟩)
    simp [s1, mup_at, nI_0]
  refine br_c (fun q1 => ⟨25, r7, ind, 26 + 2 * d, z1, ?_⟩) (fun q1 => ?_)
  · unfold bX8_keepLead
    refine ⟨1, r0, s_withinN (N := h.1 * 4) (by rw [hch.1, k4, pk_mul]) (by omega) _ _ (fun x hx e3 => br_f (by decide) ?_) (fun e => br_t rfl (kr (xK1n ed q1 (dec_none (n := h.1 * 4) (by omega) e))))⟩
    rw [xK1 ed q1 (dec_some (n := h.1 * 4) (by omega) hx e3)] at k
    have inx : vp_in (nI x) 40 := vp_in_nI (by omega) (by decide)
    rw [e3, nI_clamp (show x < 2 ^ 31 by omega)]
    refine ⟨1, r0, 4, r12, inx, 1, r0, 5, r13, inx, ?_⟩
    unfold bX5_holdLead
    rintro _ rfl _ rfl _ rfl
    refine k _ (cSv_up hc (fun p hp => by simp only [s1]; rw [mup_ne _ hp, mup_ne _ hp, mup_ne _ hp]) (fun p _ => rfl) ⟨?_, fun _ => ⟨?_, fun z => ?_⟩, fun z => by simp at z⟩) rfl rfl rfl (fun p hp => ⟨by simp only [s1]; rw [mup_ne _ (by omega), mup_ne _ (by omega), mup_ne _ (by omega)], rfl⟩)
    · simp [s1, mup_at]; decide
    · simp [s1, mup_at]; exact (hch.2.2 x (by omega)).1
    · replace z : h.2.2.2.1 x ≠ 0 := z
      simp only [s1, mup_at, z, if_false]
      simp
      exact (hch.2.2 x (by omega)).2 z
  refine br_c (fun q2 => kr (xKx (Or.inr ⟨q0, q1, by rw [q2]; decide, by rw [q2]; decide⟩))) (fun q2 => ?_)
  refine br_c (fun q3 => ⟨25, r7, ind, 26 + 2 * d, z1, ?_⟩) (fun q3 => ?_)
  · unfold bX8_keepActs
    rw [hcw.1, b2i_0]
    refine br_c (fun q => kr (xK3n ed q3 q)) (fun q => ⟨6, r1, ?_⟩)
    rw [xK3 ed q3 q] at k
    have hl := hw.2.2.1
    have hmin : (if (60 : Int32) < mI u 6 2 then (60 : Int32) else mI u 6 2) = nI (min 60 w.2.2.2.length) := by
      rw [hcw.2.1, show (60 : Int32) = nI 60 by decide]
      by_cases c : 60 < w.2.2.2.length
      · rw [if_pos (nI_lt c (by omega)), Nat.min_eq_left (by omega)]
      · rw [if_neg (nI_nlt (by omega) (by omega)), Nat.min_eq_right (by omega)]
    rw [hmin]
    rintro _ rfl
    have hz60 : min 60 w.2.2.2.length ≤ 60 := Nat.min_le_left _ _
    have hzl : min 60 w.2.2.2.length ≤ w.2.2.2.length := Nat.min_le_right _ _
    generalize min 60 w.2.2.2.length = z at *
    refine s_holdRow hr hc hd hz60 (Or.inl rfl) (by decide) (fun y0 y1 y2 y3 y4 y5 y6 y7 => ?_)
    have loop : ∀ m i y, i + m = z → fillC u y0 d i (lateA w.2.2.2 z) y → bX8_keepActs_30 (m + 1) 0 (26 + 2 * d) (nI z) (nI i) y K := by
      intro m
      induction m with
      | zero =>
        intro i y hm hy
        unfold bX8_keepActs_30
        refine br_t (nI_le (by omega) (by omega)) ?_
        rw [show i = z by omega] at hy
        obtain ⟨w1, w2⟩ := fillC_end hc hd (Or.inl rfl) y1 y5 hy
        exact k y w1 hy.1 hy.2.1 hy.2.2.1 w2
      | succ m ih =>
        intro i y hm hy
        have hI : ∀ p, p ≠ 26 + 2 * d → mI y p = mI u p := fun p hp => by rw [hy.2.2.2.1]; exact y5 p hp
        have hlen : mI y 6 2 = nI w.2.2.2.length := by rw [hI 6 (by omega)]; exact hcw.2.1
        have hix : nI w.2.2.2.length - nI z + nI i = nI (w.2.2.2.length - z + i) := by rw [pk_sub hzl, nI_add]
        have hlt : w.2.2.2.length - z + i < w.2.2.2.length := by omega
        unfold bX8_keepActs_30
        refine br_f (nI_ge (by omega) (by omega)) ⟨27 + 2 * d, by rw [hy.1]; exact z2, 6, by rw [hy.1]; exact r1, 7, by rw [hy.1]; exact r60, 6, by rw [hy.1]; exact r1, ?_⟩
        rw [hlen, hix, nI_clamp (by omega), nI_clamp (by omega), hI 7 (by omega), (hcw.2.2.2 _ _ (List.getElem?_eq_getElem hlt)).1]
        refine ⟨vp_in_nI (by omega) (by decide), vp_in_nI (by omega) (by decide), ?_⟩
        rintro _ rfl _ rfl
        rw [nI_1]
        exact ih (i + 1) _ (by omega) (fillC_step hy (by unfold lateA; rw [List.getElem?_eq_getElem hlt]))
    have h0 := loop z 0 y0 (by omega) ⟨y2, y3, y4, rfl, y6, fun x hx => absurd hx (by omega)⟩
    exact ⟨z + 1, by simpa [nI_0] using h0⟩
  refine br_c (fun q4 => ⟨25, r7, ind, 26 + 2 * d, z1, ?_⟩) (fun q4 => kr (xKx (Or.inr ⟨q0, q1, q3, q4⟩)))
  have hl := hot.2.2.2.1
  unfold bX8_keepSigns
  refine ⟨9, r2, s_withinN (N := t.2.2.length) hct.2.1 (by omega) _ _ (fun kk hk e3 => br_f (by decide) ?_) (fun e => br_t rfl (kr (xK4n ed q4 (dec_none (n := t.2.2.length) (by omega) e))))⟩
  rw [xK4 ed q4 (dec_some (n := t.2.2.length) (by omega) hk e3) (List.getElem?_eq_getElem hk)] at k
  obtain ⟨q, hq, hcq⟩ := hct.2.2.2.2 kk _ (List.getElem?_eq_getElem hk)
  have hs := (hot.2.2.2.2 _ (List.getElem_mem hk)).1
  have h6 := hs.1.2.1
  obtain ⟨x1, x2, x3, x4⟩ := hct.1.2.2.2.2.1 pn kk q hpn (by omega) hq
  refine ⟨9, r2, pn, hct.1.2.1, by rw [e3]; exact vp_in_nI (by omega) (by decide), q, ?_, ?_⟩
  · rw [e3, nI_clamp (by omega), hct.1.2.2.2.1 pn kk hpn (by omega)]; exact hq
  rw [hcq.1]
  refine s_holdRow hr hc hd (by omega) (Or.inr rfl) (by decide) (fun y0 y1 y2 y3 y4 y5 y6 y7 => ?_)
  have loop : ∀ m i y, i + m = (t.2.2[kk]).1 → fillC u y0 d i (fun i => (nI ((t.2.2[kk]).2.2.2.1 i)).toInt64) y → bX8_keepSigns_38 (m + 1) (26 + 2 * d) q (nI i) y K := by
    intro m
    induction m with
    | zero =>
      intro i y hm hy
      have hI : ∀ p, p ≠ 26 + 2 * d → mI y p = mI u p := fun p hp => by rw [hy.2.2.2.1]; exact y5 p hp
      unfold bX8_keepSigns_38
      rw [hI q (by omega), hcq.1]
      refine br_t (nI_le (by omega) (by omega)) ?_
      rw [show i = (t.2.2[kk]).1 by omega] at hy
      obtain ⟨w1, w2⟩ := fillC_end hc hd (Or.inr rfl) y1 y5 hy
      exact k y w1 hy.1 hy.2.1 hy.2.2.1 w2
    | succ m ih =>
      intro i y hm hy
      have hI : ∀ p, p ≠ 26 + 2 * d → mI y p = mI u p := fun p hp => by rw [hy.2.2.2.1]; exact y5 p hp
      unfold bX8_keepSigns_38
      rw [hI q (by omega), hcq.1]
      refine br_f (nI_ge (by omega) (by omega)) ⟨27 + 2 * d, by rw [hy.1]; exact z2, q + 1, by rw [hy.1]; exact x3, vp_in_nI (by omega) (by decide), vp_in_nI (by omega) (by decide), ?_⟩
      rw [nI_clamp (by omega), hI (q + 1) (by omega), hcq.2.2.2.1 i (by omega)]
      rintro _ rfl _ rfl
      rw [nI_1]
      exact ih (i + 1) _ (by omega) (fillC_step hy rfl)
  have h0 := loop (t.2.2[kk]).1 0 y0 (by omega) ⟨y2, y3, y4, rfl, y6, fun x hx => absurd hx (by omega)⟩
  exact ⟨(t.2.2[kk]).1 + 1, by simpa [nI_0] using h0⟩
