theorem th_ne (u : mSt) {p : Nat} (h : p ≠ 42) (v : Int32) : mI (mpI u 42 0 v) p = mI u p := by rw [s1, mup_ne _ h]
theorem th_at (u : mSt) {i : Nat} (h : i ≠ 0) (v : Int32) : mI (mpI u 42 0 v) 42 i = mI u 42 i := by simp [s1, mup_at, h]
theorem s_bumpedLast {h : aHo} {w : aWk} {u : mSt} {K : Int32 → mSt → Prop} (hr : cRf u) (hw : oWk h w) (hk : cWk w u) (k : K (b2i (lastB w.2.2.2)) u) : bX7_bumpedLast 6 u K := by
  have r1 := hr.get 6 1 8 (by decide)
  unfold bX7_bumpedLast
  rw [hk.2.1]
  have hle : nI w.2.2.2.length ≤ 0 ↔ w.2.2.2.length = 0 := by
    rw [k0, nI_leI (by have := hw.2.2.1; omega) (by decide)]; omega
  rw [hle]
  unfold lastB at k
  rw [List.getLast?_eq_getElem?] at k
  refine br_c (fun q => ?_) (fun q => ?_)
  · rw [List.getElem?_eq_none (by omega)] at k; exact k
  · have hlt : w.2.2.2.length - 1 < w.2.2.2.length := by omega
    have hm1 : nI w.2.2.2.length - 1 = nI (w.2.2.2.length - 1) := by rw [k1, pk_sub (by omega)]
    have hl := hw.2.2.1
    rw [List.getElem?_eq_getElem hlt] at k
    have he := hk.2.2.2 _ _ (List.getElem?_eq_getElem hlt)
    have hm := hw.2.2.2 _ (List.getElem_mem hlt)
    refine ⟨8, r1, ?_⟩
    rw [hm1, nI_clamp (by omega), he.2]
    refine ⟨vp_in_nI (by omega) (by decide), s_bumpOf _ _ hm.2 ?_⟩
    replace k : K (b2i (w.2.2.2[w.2.2.2.length - 1]).2.1) u := k
    cases hb : (w.2.2.2[w.2.2.2.length - 1]).2.1
    · rw [hb] at k; exact br_f (by decide) k
    · rw [hb] at k; exact br_t (by decide) k
theorem s_sight {h : aHo} {w : aWk} {u : mSt} {K : Int32 → mSt → Prop} (hr : cRf u) (ho : oHo h) (hw : oWk h w) (hc : cHo h u) (hk : cWk w u) (q : w.1 = true) (b : Bool) (k : K (nI (sgI b (h.2.1 w.2.1.1) (decide (w.2.2.1 = some w.2.1.1)))) u) : bX1_sight 1 (b2i b) u K := by
  have r0 := hr.get 1 0 2 (by decide)
  obtain ⟨hs, hp⟩ := hk.2.2.1 q
  obtain ⟨o1, o2, o3, o4⟩ := hw.1 q
  have hst := st_lt ho.1 o2 o3
  have h10 := ho.1
  unfold bX1_sight
  rw [hs]
  refine s_cellOf (by omega) o3 ⟨2, r0, vp_in_nI (by omega) (by decide), ?_⟩
  rw [nI_clamp (by omega), (hc.2.1 _ o2).1, hp, pb_eq (fun d hd => by have := o4 d hd; omega) (by omega)]
  unfold bX1_sight_28
  refine br_c (fun z => ?_) (fun z => ?_)
  · have := s_sightOf b (s := h.2.1 w.2.1.1) true (u := u) (K := fun r u => K r u) (by simpa [z] using k)
    exact this
  · have := s_sightOf b (s := h.2.1 w.2.1.1) false (u := u) (K := fun r u => K r u) (by simpa [z] using k)
    exact this
/-- seen -/
def xSeen (h : aHo) (w : aWk) (a : Int32) : Int32 := match dec a 4 with
  | none => -1
  | some n => if w.1 = false then -2 else if n = 0 then nI (h.2.1 w.2.1.1) else if n = 1 then b2i (decide (w.2.2.1 = some w.2.1.1)) else if n = 2 then b2i (lastB w.2.2.2) else b2i (decide (w.2.2.1 = none))
theorem C_seen {h : aHo} {w : aWk} {u : mSt} {a : Int32} {K : Int32 → mSt → Prop} (hr : cRf u) (ho : oHo h) (hw : oWk h w) (hc : cHo h u) (hk : cWk w u) (k : K (xSeen h w a) u) : bX8_seen 0 a u K := by
  have r0 := hr.get 0 0 1 (by decide)
  have r1 := hr.get 0 1 6 (by decide)
  unfold bX8_seen
  refine s_withinN (N := 4) rfl (by decide) _ _ (fun j hj e => br_f (by decide) ?_) (fun e => br_t rfl ?_)
  · have ed := dec_some (n := 4) (by decide) hj e
    unfold xSeen at k
    rw [ed] at k
    subst e
    rw [hk.1, b2i_0]
    refine br_c (fun q => by simp only [q, if_true] at k; exact k) (fun q => ?_)
    have q : w.1 = true := by simpa using q
    simp only [q, Bool.true_eq_false, if_false] at k
    obtain ⟨hs, hp⟩ := hk.2.2.1 q
    obtain ⟨o1, o2, o3, o4⟩ := hw.1 q
    have h4 := ho.2.1 _ o2
    refine ⟨1, r0, 6, r1, s_bumpedLast hr hw hk (s_sight hr ho hw hc hk q _ ?_)⟩
    rcases (show j = 0 ∨ j = 1 ∨ j = 2 ∨ j = 3 by omega) with rfl | rfl | rfl | rfl
    · exact br_t (by decide) (s_signOf _ _ h4 k)
    · exact br_f (by decide) (br_t (by decide) (s_pebbleOf _ _ h4 k))
    · exact br_f (by decide) (br_f (by decide) (br_t (by decide) (s_bumpOf _ _ h4 k)))
    · refine br_f (by decide) (br_f (by decide) (br_f (by decide) ⟨1, r0, ?_⟩))
      have h10 := ho.1
      rw [hp, pb_m2 (fun d hd => by have := o4 d hd; omega)]
      refine br_c (fun z => ?_) (fun z => ?_)
      · simpa [z, b2i] using k
      · simpa [z, b2i] using k
  · have ed := dec_none (n := 4) (by decide) e
    unfold xSeen at k
    rw [ed] at k
    exact k
theorem M_seen {h : aHo} {w : aWk} {u : mSt} {a : Int32} {K : Int32 → mSt → Prop} (hr : rRf u) (ho : oHo h) (hw : oWk h w) (hc : rHo h u) (hk : rWk h w u) (k : K (xSeen h w a) (mpI u 42 0 0)) : bX9_seen 42 a u K := by
  have e : ∀ i, i ≠ 0 → mI (mpI u 42 0 0) 42 i = mI u 42 i := fun i hi => by simp [s1, mup_at, hi]
  have r2 : mR (mpI u 42 0 0) 42 2 = some 43 := hr.get 42 2 43 (by decide)
  have e43 : mI (mpI u 42 0 0) 43 = mI u 43 := th_ne u (by decide) 0
  unfold bX9_seen
  rintro _ rfl
  refine s_isInN (lo := 0) (hi := 3) (by decide) (by decide) (by decide) (by decide) _ _ (fun j _ hj ej => br_f (by decide) ?_) (fun ej => br_t rfl ?_)
  · have ed := dec_some (n := 4) (by decide) (by omega) ej
    unfold xSeen at k
    rw [ed] at k
    subst ej
    rw [e 6 (by decide), e 10 (by decide), e 11 (by decide), hk.1, b2i_0]
    refine br_c (fun q => by simp only [q, if_true] at k; exact k) (fun q => ?_)
    have q : w.1 = true := by simpa using q
    simp only [q, Bool.true_eq_false, if_false] at k
    obtain ⟨g1, g2, g3, g4, g5, g6⟩ := hk.2.2.1 q
    obtain ⟨o1, o2, o3, o4⟩ := hw.1 q
    have h10 := ho.1
    have hpb : ∀ d, w.2.2.1 = some d → d < 2 ^ 31 := fun d hd => by have := o4 d hd; omega
    have fin : ∀ b : Bool, j ≠ 0 → K (b2i b) (mpI u 42 0 0) → bX9_seen_65 42 (nI j) (b2i b) (mpI u 42 0 0) K := by
      intro b hj0 kb
      unfold bX9_seen_65
      refine br_f (fun z => hj0 ?_) ?_
      · rw [k0, nI_eq (by omega) (by decide)] at z; exact z
      · rw [b2i_0]
        cases b
        · exact br_t rfl kb
        · exact br_f (by decide) kb
    rcases (show j = 0 ∨ j = 1 ∨ j = 2 ∨ j = 3 by omega) with rfl | rfl | rfl | rfl
    · have z : ∀ x, bX9_seen_65 42 (nI 0) x (mpI u 42 0 0) K := by
        intro x
        unfold bX9_seen_65
        refine br_t (by decide) ⟨43, r2, ?_⟩
        rw [e 7 (by decide), g1, e43, nI_clamp (by omega), (hc.2.1 _ o2).1]
        exact ⟨vp_in_nI (by omega) (by decide), k⟩
      exact br_f (by decide) (br_f (by decide) (br_c (fun _ => z _) (fun _ => z _)))
    · refine br_t (by decide) ?_
      unfold bX9_liesHere
      rw [e 10 (by decide), e 7 (by decide), g4, g1, pb_eq hpb (by omega)]
      exact br_c (fun z => fin true (by decide) (by simpa [z] using k)) (fun z => fin false (by decide) (by simpa [z] using k))
    · refine br_f (by decide) (br_t (by decide) ?_)
      rw [g5]; exact fin _ (by decide) k
    · refine br_f (by decide) (br_f (by decide) ?_)
      rw [g4, pb_neg hpb]
      refine br_c (fun z => fin false (by decide) (by simpa [z] using k)) (fun z => fin true (by decide) ?_)
      have z : w.2.2.1 = none := Classical.not_not.mp z
      simpa [z] using k
  · have ed := dec_none (n := 4) (by decide) (fun j hj => ej j (Nat.zero_le _) (by omega))
    unfold xSeen at k
    rw [ed] at k
    exact k
/-- walk -/
def xWalk (w : aWk) (a1 a2 : Int32) : Int32 := match dec a1 w.2.2.2.length with
  | none => -1
  | some i => match dec a2 4 with
    | none => -1
    | some n => match w.2.2.2[i]? with
      | none => -1
      | some e => if n = 0 then nI e.1 else if n = 1 then b2i e.2.1 else if n = 2 then nI e.2.2.1 else b2i e.2.2.2
theorem C_walk {h : aHo} {w : aWk} {u : mSt} {a1 a2 : Int32} {K : Int32 → mSt → Prop} (hr : cRf u) (hw : oWk h w) (hk : cWk w u) (k : K (xWalk w a1 a2) u) : bX8_walk 0 a1 a2 u K := by
  have r0 := hr.get 0 1 6 (by decide)
  have r1 := hr.get 6 1 8 (by decide)
  have r2 := hr.get 6 0 7 (by decide)
  have hl := hw.2.2.1
  unfold bX8_walk
  refine ⟨6, r0, s_withinN (N := w.2.2.2.length) hk.2.1 (by omega) _ _ (fun i hi e => br_f (by decide) ?_) (fun e => br_t rfl ?_)⟩
  · have ed := dec_some (n := w.2.2.2.length) (by omega) hi e
    unfold xWalk at k
    rw [ed] at k
    subst e
    refine s_withinN (N := 4) rfl (by decide) _ _ (fun j hj e => br_f (by decide) ?_) (fun e => br_t rfl ?_)
    · have ed2 := dec_some (n := 4) (by decide) hj e
      simp only [ed2] at k
      subst e
      have he := hk.2.2.2 _ _ (List.getElem?_eq_getElem hi)
      have hm := hw.2.2.2 _ (List.getElem_mem hi)
      simp only [List.getElem?_eq_getElem hi] at k
      refine ⟨6, r0, 8, r1, vp_in_nI (by omega) (by decide), ?_⟩
      rw [nI_clamp (by omega), he.2]
      rintro _ rfl
      rcases (show j = 0 ∨ j = 1 ∨ j = 2 ∨ j = 3 by omega) with rfl | rfl | rfl | rfl
      · refine br_t (by decide) ⟨6, r0, 7, r2, vp_in_nI (by omega) (by decide), ?_⟩
        rw [he.1]; exact k
      · exact br_f (by decide) (br_t (by decide) (s_bumpOf _ _ hm.2 k))
      · exact br_f (by decide) (br_f (by decide) (br_t (by decide) (s_signOf _ _ hm.2 k)))
      · exact br_f (by decide) (br_f (by decide) (br_f (by decide) (s_pebbleOf _ _ hm.2 k)))
    · have ed2 := dec_none (n := 4) (by decide) e
      simp only [ed2] at k
      exact k
  · have ed := dec_none (n := w.2.2.2.length) (by omega) e
    unfold xWalk at k
    rw [ed] at k
    exact k
theorem M_walk {h : aHo} {w : aWk} {u : mSt} {a1 a2 : Int32} {K : Int32 → mSt → Prop} (hr : rRf u) (hw : oWk h w) (hk : rWk h w u) (k : K (xWalk w a1 a2) (mpI u 42 0 0)) : bX9_walk 42 a1 a2 u K := by
  have e : ∀ i, i ≠ 0 → mI (mpI u 42 0 0) 42 i = mI u 42 i := fun i hi => by simp [s1, mup_at, hi]
  have er : ∀ p, p ≠ 42 → mI (mpI u 42 0 0) p = mI u p := fun p hp => th_ne u hp 0
  have r2 : mR (mpI u 42 0 0) = mR u := rfl
  have hl := hw.2.2.1
  unfold bX9_walk
  rintro _ rfl
  rw [e 6 (by decide), e 12 (by decide), hk.1, b2i_0, hk.2.1]
  refine br_c (fun q => ?_) (fun q => ?_)
  · have hn := hw.2.1 q
    unfold xWalk at k
    rw [hn] at k
    have : dec a1 ([] : List aEv).length = none := dec_none (by decide) (fun j hj => absurd hj (by simp))
    rw [this] at k
    exact k
  · rcases dec_cases a1 (n := w.2.2.2.length) (by omega) with ⟨i, hi, rfl, ed⟩ | ⟨hno, ed⟩
    · unfold xWalk at k
      rw [ed] at k
      refine br_f (nI_pos (by omega)) (br_f (nI_ge hi (by omega)) ?_)
      refine s_isInN (lo := 0) (hi := 3) (by decide) (by decide) (by decide) (by decide) _ _ (fun j _ hj ej => br_f (by decide) ?_) (fun ej => br_t rfl ?_)
      · have ed2 := dec_some (n := 4) (by decide) (by omega) ej
        simp only [ed2] at k
        subst ej
        have he := hk.2.2.2 _ _ (List.getElem?_eq_getElem hi)
        simp only [List.getElem?_eq_getElem hi] at k
        have hin : vp_in (nI i) 200 := vp_in_nI (by omega) (by decide)
        have hcl : (nI i).toNatClampNeg = i := nI_clamp (by omega)
        rcases (show j = 0 ∨ j = 1 ∨ j = 2 ∨ j = 3 by omega) with rfl | rfl | rfl | rfl
        · refine br_t (by decide) ⟨47, hr.get 42 13 47 (by decide), hin, ?_⟩
          rw [hcl, er 47 (by decide), he.1]; exact k
        · refine br_f (by decide) (br_t (by decide) ⟨48, hr.get 42 14 48 (by decide), hin, ?_⟩)
          rw [hcl, er 48 (by decide), he.2.1]; exact k
        · refine br_f (by decide) (br_f (by decide) (br_t (by decide) ⟨49, hr.get 42 15 49 (by decide), hin, ?_⟩))
          rw [hcl, er 49 (by decide), he.2.2.1]; exact k
        · refine br_f (by decide) (br_f (by decide) (br_f (by decide) ⟨50, hr.get 42 16 50 (by decide), hin, ?_⟩))
          rw [hcl, er 50 (by decide), he.2.2.2]; exact k
      · have ed2 := dec_none (n := 4) (by decide) (fun j hj => ej j (Nat.zero_le _) (by omega))
        simp only [ed2] at k
        exact k
    · unfold xWalk at k
      rw [ed] at k
      refine br_c (fun _ => k) (fun z => br_c (fun _ => k) (fun z2 => ?_))
      obtain ⟨j, hj, rfl⟩ := nI_of z
      exact absurd rfl (hno j (by
        rcases Nat.lt_or_ge j w.2.2.2.length with h1 | h1
        · exact h1
        · exact absurd (nI_le h1 hj) z2))
