theorem k6 : (6 : Int32) = nI 6 := by decide
theorem k30 : (30 : Int32) = nI 30 := by decide
/-- a place asked for: sheet and place, or none -/
def fPl (t : aAt) (a1 a2 : Int32) : Option (Nat × aSh × Nat) := match dec a1 t.2.2.length with
  | none => none
  | some k => match t.2.2[k]? with
    | none => none
    | some s => match dec a2 s.1 with
      | none => none
      | some p => some (k, s, p)
theorem fPl_some {w : aWk} {t : aAt} (ho : oAt w t) {a1 a2 : Int32} {k p : Nat} {s : aSh} (hk : t.2.2[k]? = some s) (hp : p < s.1) (e1 : a1 = nI k) (e2 : a2 = nI p) : fPl t a1 a2 = some (k, s, p) := by
  have hl := ho.2.2.2.1
  have hk2 : k < t.2.2.length := (List.getElem?_eq_some_iff.mp hk).1
  have hs := (ho.2.2.2.2 s (List.mem_of_getElem? hk)).1.1.2.1
  unfold fPl
  rw [dec_some (n := t.2.2.length) (by omega) hk2 e1]
  simp only [hk]
  rw [dec_some (n := s.1) (by omega) hp e2]
theorem fPl_none {w : aWk} {t : aAt} (ho : oAt w t) {a1 a2 : Int32} (h : ∀ k s p, t.2.2[k]? = some s → p < s.1 → ¬ (a1 = nI k ∧ a2 = nI p)) : fPl t a1 a2 = none := by
  have hl := ho.2.2.2.1
  unfold fPl
  rcases dec_cases a1 (n := t.2.2.length) (by omega) with ⟨k, hk, e1, d1⟩ | ⟨-, d1⟩
  · rw [d1]
    simp only [List.getElem?_eq_getElem hk]
    have hs := (ho.2.2.2.2 _ (List.getElem_mem hk)).1.1.2.1
    rcases dec_cases a2 (n := (t.2.2[k]).1) (by omega) with ⟨p, hp, e2, d2⟩ | ⟨-, d2⟩
    · exact absurd ⟨e1, e2⟩ (h k _ p (List.getElem?_eq_getElem hk) hp)
    · rw [d2]
  · rw [d1]
/-- sign -/
def xSign (t : aAt) (a1 a2 : Int32) : Int32 := match fPl t a1 a2 with
  | none => -1
  | some (_, s, p) => nI (s.2.2.2.1 p)
theorem C_sign {w : aWk} {t : aAt} {pn ps : Nat} {g : Nat → Nat → Option Nat} {u : mSt} {a1 a2 : Int32} {K : Int32 → mSt → Prop} (hr : cRf u) (ho : oAt w t) (ht : cAt t pn ps g u) (k : K (xSign t a1 a2) u) : bX8_sign 0 a1 a2 u K := by
  have r2 := hr.get 0 2 9 (by decide)
  have hpn : pn = 10 ∨ pn = 11 := by rcases ht.1.1 with ⟨q, -⟩ | ⟨q, -⟩ <;> omega
  unfold bX8_sign
  refine s_isPlaceC hr ho ht (fun i s p hk hi hp e1 e2 => br_f (by decide) ?_) (fun h0 => br_t rfl ?_)
  · unfold xSign at k
    rw [fPl_some ho hk hp e1 e2] at k
    obtain ⟨q, hq, hc⟩ := ht.2.2.2.2 i s hk
    have hs := (ho.2.2.2.2 s (List.mem_of_getElem? hk)).1.1.2.1
    obtain ⟨z1, z2, z3, z4⟩ := ht.1.2.2.2.2.1 pn i q hpn (by omega) hq
    refine ⟨9, r2, pn, ht.1.2.1, ?_⟩
    rw [e1, e2, nI_clamp (by omega), nI_clamp (by omega), ht.1.2.2.2.1 pn i hpn (by omega)]
    refine ⟨vp_in_nI (by omega) (by decide), q, hq, q + 1, z3, vp_in_nI (by omega) (by decide), ?_⟩
    rw [hc.2.2.2.1 p hp]; exact k
  · unfold xSign at k
    rw [fPl_none ho h0] at k
    exact k
theorem rOne_th {s : aSh} {k : Nat} {u : mSt} (v : Int32) (h : rOne s k u) : rOne s k (mpI u 42 0 v) := by
  unfold rOne
  rw [th_ne u (by decide), th_ne u (by decide), th_ne u (by decide), th_ne u (by decide), th_ne u (by decide)]
  exact h
theorem M_sign {h : aHo} {w : aWk} {t : aAt} {u : mSt} {a1 a2 : Int32} {K : Int32 → mSt → Prop} (hr : rRf u) (ho : oAt w t) (hw : rWk h w u) (ht : rAt t u) (k : K (xSign t a1 a2) (mpI u 42 0 0)) : bX9_sign 42 a1 a2 u K := by
  have hr' : rRf (mpI u 42 0 0) := hr.of rfl
  have r2 : mR (mpI u 42 0 0) 42 22 = some 52 := hr.get 42 22 52 (by decide)
  unfold bX9_sign
  rintro _ rfl
  refine s_isPlaceM hr' ho (by rw [th_at u (by decide)]; exact hw.1) (by rw [th_at u (by decide)]; exact ht.2.1) (fun k s hk => rOne_th 0 (ht.2.2.2 k s hk)) (fun i s p hk hi hp e1 e2 => br_f (by decide) ?_) (fun h0 => br_t rfl ?_)
  · unfold xSign at k
    rw [fPl_some ho hk hp e1 e2] at k
    have hc := ht.2.2.2 i s hk
    have hs := (ho.2.2.2.2 s (List.mem_of_getElem? hk)).1.1.2.1
    have hix : 6 * a1 + a2 = nI (6 * i + p) := by rw [e1, e2, k6, pk_mul, nI_add]
    refine ⟨52, r2, ?_⟩
    rw [hix, nI_clamp (by omega), th_ne u (by decide), hc.2.2.2.1 p hp]
    exact ⟨vp_in_nI (by omega) (by decide), k⟩
  · unfold xSign at k
    rw [fPl_none ho h0] at k
    exact k
/-- leads -/
def xLeads (t : aAt) (a1 a2 a3 : Int32) : Int32 := match fPl t a1 a2 with
  | none => -1
  | some (_, s, p) => match dec a3 5 with
    | none => -1
    | some a => lI (s.2.2.2.2 (5 * p + a))
theorem s_leadFrom {s : aSh} {q p a : Nat} {u : mSt} {K : Int32 → mSt → Prop} (hs : s.1 ≤ 6) (r1 : mR u q 1 = some (q + 2)) (hc : cOne s q u) (hp : p < s.1) (ha : a < 5) (k : K (lI (s.2.2.2.2 (5 * p + a))) u) : bX4_leadFrom q (nI p) (nI a) u K := by
  have hix : nI p * 5 + nI a = nI (5 * p + a) := by rw [k5, pk_mul, nI_add, Nat.mul_comm]
  unfold bX4_leadFrom
  refine ⟨q + 2, r1, ?_⟩
  rw [hix, nI_clamp (by omega), hc.2.2.2.2.1 _ (by omega)]
  exact ⟨vp_in_nI (by omega) (by decide), k⟩
theorem C_leads {w : aWk} {t : aAt} {pn ps : Nat} {g : Nat → Nat → Option Nat} {u : mSt} {a1 a2 a3 : Int32} {K : Int32 → mSt → Prop} (hr : cRf u) (ho : oAt w t) (ht : cAt t pn ps g u) (k : K (xLeads t a1 a2 a3) u) : bX8_leads 0 a1 a2 a3 u K := by
  have r2 := hr.get 0 2 9 (by decide)
  have hpn : pn = 10 ∨ pn = 11 := by rcases ht.1.1 with ⟨q, -⟩ | ⟨q, -⟩ <;> omega
  unfold bX8_leads
  refine s_isPlaceC hr ho ht (fun i s p hk hi hp e1 e2 => br_f (by decide) ?_) (fun h0 => br_t rfl ?_)
  · unfold xLeads at k
    rw [fPl_some ho hk hp e1 e2] at k
    obtain ⟨q, hq, hc⟩ := ht.2.2.2.2 i s hk
    have hs := (ho.2.2.2.2 s (List.mem_of_getElem? hk)).1.1.2.1
    obtain ⟨z1, z2, z3, z4⟩ := ht.1.2.2.2.2.1 pn i q hpn (by omega) hq
    refine s_withinN (N := 5) rfl (by decide) _ _ (fun a ha e3 => br_f (by decide) ?_) (fun e3 => br_t rfl ?_)
    · simp only [dec_some (n := 5) (by decide) ha e3] at k
      refine ⟨9, r2, pn, ht.1.2.1, ?_⟩
      rw [e1, e2, e3, nI_clamp (by omega), ht.1.2.2.2.1 pn i hpn (by omega)]
      exact ⟨vp_in_nI (by omega) (by decide), q, hq, s_leadFrom hs z4 hc hp ha k⟩
    · simp only [dec_none (n := 5) (by decide) e3] at k
      exact k
  · unfold xLeads at k
    rw [fPl_none ho h0] at k
    exact k
theorem M_leads {h : aHo} {w : aWk} {t : aAt} {u : mSt} {a1 a2 a3 : Int32} {K : Int32 → mSt → Prop} (hr : rRf u) (ho : oAt w t) (hw : rWk h w u) (ht : rAt t u) (k : K (xLeads t a1 a2 a3) (mpI u 42 0 0)) : bX9_leads 42 a1 a2 a3 u K := by
  have hr' : rRf (mpI u 42 0 0) := hr.of rfl
  have r2 : mR (mpI u 42 0 0) 42 23 = some 53 := hr.get 42 23 53 (by decide)
  unfold bX9_leads
  rintro _ rfl
  refine s_isPlaceM hr' ho (by rw [th_at u (by decide)]; exact hw.1) (by rw [th_at u (by decide)]; exact ht.2.1) (fun k s hk => rOne_th 0 (ht.2.2.2 k s hk)) (fun i s p hk hi hp e1 e2 => br_f (by decide) ?_) (fun h0 => br_t rfl ?_)
  · unfold xLeads at k
    rw [fPl_some ho hk hp e1 e2] at k
    have hc := ht.2.2.2 i s hk
    have hs := (ho.2.2.2.2 s (List.mem_of_getElem? hk)).1.1.2.1
    refine s_isInN (lo := 0) (hi := 4) (by decide) (by decide) (by decide) (by decide) _ _ (fun a _ ha e3 => br_f (by decide) ?_) (fun e3 => br_t rfl ?_)
    · simp only [dec_some (n := 5) (by decide) (show a < 5 by omega) e3] at k
      have hix : 30 * a1 + 5 * a2 + a3 = nI (30 * i + (5 * p + a)) := by rw [e1, e2, e3, k30, k5, pk_mul, pk_mul, nI_add, nI_add]; congr 1; omega
      refine ⟨53, r2, ?_⟩
      rw [hix, nI_clamp (by omega), th_ne u (by decide), hc.2.2.2.2 _ (by omega)]
      exact ⟨vp_in_nI (by omega) (by decide), k⟩
    · simp only [dec_none (n := 5) (by decide) (fun j hj => e3 j (Nat.zero_le _) (by omega))] at k
      exact k
  · unfold xLeads at k
    rw [fPl_none ho h0] at k
    exact k
/-- how many of the first n hold -/
def cnt (f : Nat → Bool) : Nat → Nat
  | 0 => 0
  | n + 1 => cnt f n + b2n (f n)
theorem cnt_le (f : Nat → Bool) : ∀ n, cnt f n ≤ n
  | 0 => Nat.le_refl _
  | n + 1 => by have := cnt_le f n; have := b2n_lt (f n); simp only [cnt]; omega
def knw (s : aSh) : Nat := cnt (fun x => s.2.2.2.2 x != 0) (5 * s.1)
theorem s_countKnown {s : aSh} {m q : Nat} {u : mSt} {K : Int32 → mSt → Prop} (hs : oSh m s) (hm : m ≤ 6) (r1 : mR u q 1 = some (q + 2)) (hc : cOne s q u) (k : K (nI (knw s)) u) : bX4_countKnown q u K := by
  have h6 := hs.1.2.1
  have loop : ∀ j i, i + j = 5 * s.1 → bX4_countKnown_4 (j + 1) q (nI (cnt (fun x => s.2.2.2.2 x != 0) i)) (nI i) u K := by
    intro j
    induction j with
    | zero =>
      intro i hi
      unfold bX4_countKnown_4
      rw [hc.1, k5, pk_mul]
      refine br_t (nI_le (by omega) (by omega)) ?_
      rw [show i = 5 * s.1 by omega]; exact k
    | succ j ih =>
      intro i hi
      unfold bX4_countKnown_4
      rw [hc.1, k5, pk_mul]
      refine br_f (nI_ge (by omega) (by omega)) ⟨q + 2, r1, vp_in_nI (by omega) (by decide), ?_⟩
      have hx := hs.2.2 i (by omega)
      rw [nI_clamp (by omega), hc.2.2.2.2.1 i (by omega), lI_m3 (by omega)]
      have ih2 := ih (i + 1) (by omega)
      have hcl := cnt_le (fun x => s.2.2.2.2 x != 0) i
      unfold bX4_countKnown_28
      refine br_c (fun z => ?_) (fun z => ?_)
      · rintro _ rfl
        rw [nI_1]
        simpa [cnt, z, b2n] using ih2
      · rintro _ rfl _ rfl
        rw [nI_1, nI_1]
        simpa [cnt, z, b2n] using ih2
  exact ⟨5 * s.1 + 1, by have := loop (5 * s.1) 0 (by omega); simpa [cnt, nI_0] using this⟩
/-- sheet -/
def xSheet (t : aAt) (a1 a2 : Int32) : Int32 := match dec a1 t.2.2.length with
  | none => -1
  | some k => match dec a2 4 with
    | none => -1
    | some n => match t.2.2[k]? with
      | none => -1
      | some s => if n = 0 then nI s.1 else if n = 1 then nI s.2.1 else if n = 2 then pbI s.2.2.1 else nI (knw s)
theorem C_sheet {w : aWk} {t : aAt} {pn ps : Nat} {g : Nat → Nat → Option Nat} {u : mSt} {a1 a2 : Int32} {K : Int32 → mSt → Prop} (hr : cRf u) (ho : oAt w t) (ht : cAt t pn ps g u) (k : K (xSheet t a1 a2) u) : bX8_sheet 0 a1 a2 u K := by
  have r2 := hr.get 0 2 9 (by decide)
  have hl := ho.2.2.2.1
  have hpn : pn = 10 ∨ pn = 11 := by rcases ht.1.1 with ⟨q, -⟩ | ⟨q, -⟩ <;> omega
  unfold bX8_sheet
  unfold xSheet at k
  refine ⟨9, r2, s_withinN (N := t.2.2.length) ht.2.1 (by omega) _ _ (fun i hi e => br_f (by decide) ?_) (fun e => br_t rfl ?_)⟩
  · simp only [dec_some (n := t.2.2.length) (by omega) hi e] at k
    refine s_withinN (N := 4) rfl (by decide) _ _ (fun j hj e2 => br_f (by decide) ?_) (fun e2 => br_t rfl ?_)
    · simp only [dec_some (n := 4) (by decide) hj e2, List.getElem?_eq_getElem hi] at k
      obtain ⟨q, hq, hc⟩ := ht.2.2.2.2 i _ (List.getElem?_eq_getElem hi)
      have hs := (ho.2.2.2.2 _ (List.getElem_mem hi)).1
      obtain ⟨z1, z2, z3, z4⟩ := ht.1.2.2.2.2.1 pn i q hpn (by omega) hq
      refine ⟨9, r2, pn, ht.1.2.1, ?_⟩
      rw [e, nI_clamp (by omega), ht.1.2.2.2.1 pn i hpn (by omega)]
      refine ⟨vp_in_nI (by omega) (by decide), q, hq, ?_⟩
      subst e2
      rcases (show j = 0 ∨ j = 1 ∨ j = 2 ∨ j = 3 by omega) with rfl | rfl | rfl | rfl
      · refine br_t (by decide) ?_
        rw [hc.1]; exact k
      · refine br_f (by decide) (br_t (by decide) ?_)
        rw [hc.2.1]; exact k
      · refine br_f (by decide) (br_f (by decide) (br_t (by decide) ?_))
        rw [hc.2.2.1]; exact k
      · exact br_f (by decide) (br_f (by decide) (br_f (by decide) (s_countKnown hs (Nat.le_refl 6) z4 hc k)))
    · simp only [dec_none (n := 4) (by decide) e2] at k
      exact k
  · simp only [dec_none (n := t.2.2.length) (by omega) e] at k
    exact k
theorem M_sheet {h : aHo} {w : aWk} {t : aAt} {u : mSt} {a1 a2 : Int32} {K : Int32 → mSt → Prop} (hr : rRf u) (ho : oAt w t) (hw : rWk h w u) (ht : rAt t u) (k : K (xSheet t a1 a2) (mpI u 42 0 0)) : bX9_sheet 42 a1 a2 u K := by
  have hl := ho.2.2.2.1
  have r21 : mR (mpI u 42 0 0) 42 21 = some 51 := hr.get 42 21 51 (by decide)
  have r23 : mR (mpI u 42 0 0) 42 23 = some 53 := hr.get 42 23 53 (by decide)
  have r24 : mR (mpI u 42 0 0) 42 24 = some 54 := hr.get 42 24 54 (by decide)
  have r25 : mR (mpI u 42 0 0) 42 25 = some 55 := hr.get 42 25 55 (by decide)
  unfold bX9_sheet
  unfold xSheet at k
  rintro _ rfl
  refine s_isSheetN (h := h) ho (by rw [th_at u (by decide)]; exact hw.1) (by rw [th_at u (by decide)]; exact ht.2.1) (fun i hi e => br_f (by decide) ?_) (fun e => br_t rfl ?_)
  · simp only [dec_some (n := t.2.2.length) (by omega) hi e] at k
    refine s_isInN (lo := 0) (hi := 3) (by decide) (by decide) (by decide) (by decide) _ _ (fun j _ hj e2 => br_f (by decide) ?_) (fun e2 => br_t rfl ?_)
    · simp only [dec_some (n := 4) (by decide) (show j < 4 by omega) e2, List.getElem?_eq_getElem hi] at k
      have hc := ht.2.2.2 i _ (List.getElem?_eq_getElem hi)
      have hs := (ho.2.2.2.2 _ (List.getElem_mem hi)).1
      have h6 := hs.1.2.1
      have hin : vp_in (nI i) 150 := vp_in_nI (by omega) (by decide)
      have hcl : (nI i).toNatClampNeg = i := nI_clamp (by omega)
      subst e2
      rw [e, hcl]
      rcases (show j = 0 ∨ j = 1 ∨ j = 2 ∨ j = 3 by omega) with rfl | rfl | rfl | rfl
      · refine br_f (by decide) (br_t (by decide) ⟨51, r21, hin, ?_⟩)
        rw [th_ne u (by decide), hc.1]; exact k
      · refine br_f (by decide) (br_f (by decide) (br_t (by decide) ⟨54, r24, hin, ?_⟩))
        rw [th_ne u (by decide), hc.2.1]; exact k
      · refine br_f (by decide) (br_f (by decide) (br_f (by decide) ⟨55, r25, hin, ?_⟩))
        rw [th_ne u (by decide), hc.2.2.1]; exact k
      · refine br_t (by decide) ?_
        have loop : ∀ m x, x + m = 5 * (t.2.2[i]).1 → bX9_sheet_71 (m + 1) 42 (nI i) (nI (cnt (fun x => (t.2.2[i]).2.2.2.2 x != 0) x)) (nI x) (mpI u 42 0 0) K := by
          intro m
          induction m with
          | zero =>
            intro x hx
            unfold bX9_sheet_71
            refine ⟨51, r21, hin, ?_⟩
            rw [hcl, th_ne u (by decide), hc.1, k5, pk_mul]
            refine br_t (nI_le (by omega) (by omega)) ?_
            rw [show x = 5 * (t.2.2[i]).1 by omega]; exact k
          | succ m ih =>
            intro x hx
            unfold bX9_sheet_71
            refine ⟨51, r21, hin, ?_⟩
            rw [hcl, th_ne u (by decide), hc.1, k5, pk_mul]
            have hix : 30 * nI i + nI x = nI (30 * i + x) := by rw [k30, pk_mul, nI_add]
            refine br_f (nI_ge (by omega) (by omega)) ⟨53, r23, ?_⟩
            have hxx := hs.2.2 x (by omega)
            rw [hix, nI_clamp (by omega), th_ne u (by decide), hc.2.2.2.2 x (by omega), lI_m3 (by omega)]
            refine ⟨vp_in_nI (by omega) (by decide), ?_⟩
            have ih2 := ih (x + 1) (by omega)
            unfold bX9_sheet_107
            refine br_c (fun z => ?_) (fun z => ?_)
            · rintro _ rfl _ rfl
              rw [nI_1, Int32.add_zero]
              simpa [cnt, z, b2n] using ih2
            · rintro _ rfl _ rfl
              rw [nI_1, nI_1]
              simpa [cnt, z, b2n] using ih2
        exact ⟨5 * (t.2.2[i]).1 + 1, by have := loop (5 * (t.2.2[i]).1) 0 (by omega); simpa [cnt, nI_0] using this⟩
    · simp only [dec_none (n := 4) (by decide) (fun j hj => e2 j (Nat.zero_le _) (by omega))] at k
      exact k
  · simp only [dec_none (n := t.2.2.length) (by omega) e] at k
    exact k
