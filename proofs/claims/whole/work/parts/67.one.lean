/-! ONE -/
def nxt (s : aSh) (p a : Nat) : Nat := match s.2.2.2.2 (5 * p + a) with
  | 0 => p
  | 1 => p
  | q + 2 => q
theorem nxt_lt {s : aSh} {m p a : Nat} (hs : oSh m s) (hp : p < s.1) (ha : a < 5) : nxt s p a < s.1 := by
  have := (hs.2.2 (5 * p + a) (by omega)).1
  unfold nxt
  split <;> omega
theorem s_placeAfter {s : aSh} {q p a : Nat} {u : mSt} {K : Int32 → mSt → Prop} (hs : oSh 6 s) (r1 : mR u q 1 = some (q + 2)) (hc : cOne s q u) (hp : p < s.1) (ha : a < 5) (k : K (nI (nxt s p a)) u) : bX4_placeAfter q (nI p) (nI a) u K := by
  have h6 := hs.1.2.1
  have hl := (hs.2.2 (5 * p + a) (by omega)).1
  unfold bX4_placeAfter
  refine s_leadFrom h6 r1 hc hp ha ?_
  rw [lI_neg (by omega)]
  unfold nxt at k
  generalize s.2.2.2.2 (5 * p + a) = l at *
  match l with
  | 0 => exact br_f (by omega) k
  | 1 => exact br_f (by omega) k
  | l + 2 => exact br_t (by omega) k
theorem s_placeBehind {s : aSh} {w : aWk} {q I : Nat} {u : mSt} {K : Int32 → mSt → Prop} (hr : cRf u) (hw : cWk w u) (hev : ∀ e ∈ w.2.2.2, e.1 < 6) (hl : w.2.2.2.length ≤ 200) (hs : oSh 6 s) (hi : oHi s w.2.2.2) (r1 : mR u q 1 = some (q + 2)) (hc : cOne s q u) (hI : I ≤ w.2.2.2.length) (k : K (nI (xPl s w.2.2.2 I)) u) : bX8_placeBehind 0 q (nI I) u K := by
  have rw1 := hr.get 0 1 6 (by decide)
  have rw2 := hr.get 6 0 7 (by decide)
  have loop : ∀ n i, i + n = I → bX8_placeBehind_5 (n + 1) 0 q (nI I) (nI (xPl s w.2.2.2 i)) (nI i) u K := by
    intro n
    induction n with
    | zero =>
      intro i hn
      unfold bX8_placeBehind_5
      have : i = I := by omega
      subst this
      exact br_t (nI_le (by omega) (by omega)) k
    | succ n ih =>
      intro i hn
      have hil : i < w.2.2.2.length := by omega
      have hge := List.getElem?_eq_getElem hil
      generalize w.2.2.2[i] = e at hge
      have he := hev e (List.mem_of_getElem? hge)
      have hp := (hi.1 i e hge).1
      have j : vp_in (nI i) 200 := vp_in_nI (by omega) (by decide)
      unfold bX8_placeBehind_5
      refine br_f (nI_ge (by omega) (by omega)) ⟨6, rw1, 7, rw2, j, ?_⟩
      have ih' := ih (i + 1) (by omega)
      rw [xPl_s hge] at ih'
      unfold stp at ih'
      rw [nI_clamp (by omega), (hw.2.2.2 i e hge).1]
      refine pk_eq e.1 5 (fun z => ?_) (fun z => ⟨6, rw1, 7, rw2, j, ?_⟩) rfl k5
      · rw [if_pos z] at ih'
        unfold bX8_placeBehind_41
        rintro _ rfl
        rw [nI_1]; exact ih'
      · rw [if_neg z] at ih'
        rw [(hw.2.2.2 i e hge).1]
        refine s_placeAfter hs r1 hc hp (by omega) ?_
        unfold bX8_placeBehind_41
        rintro _ rfl
        rw [nI_1]; exact ih'
  have := loop I 0 (by omega)
  rw [xPl_0, nI_0] at this
  exact ⟨_, this⟩
def alk (w : aWk) (t : aAt) (i j : Nat) : Nat → Bool := fun k => match t.2.2[k]? with
  | none => false
  | some s => decide (xPl s w.2.2.2 i = xPl s w.2.2.2 j)
def xOne (w : aWk) (t : aAt) (a1 a2 : Int32) : Int32 := if w.1 = false then -2 else if t.2.1 = true then -3 else if t.2.2.length = 0 then -1 else match dec a1 (w.2.2.2.length + 1) with
  | none => -1
  | some i => match dec a2 (w.2.2.2.length + 1) with
    | none => -1
    | some j => if cnt (alk w t i j) t.2.2.length = 0 then 0 else if cnt (alk w t i j) t.2.2.length = t.2.2.length then 1 else 2
theorem s_unsheeted {w : aWk} {t : aAt} {pn ps : Nat} {g : Nat → Nat → Option Nat} {u : mSt} {K : Int32 → mSt → Prop} (hr : cRf u) (hk : cWk w u) (hl : t.2.2.length ≤ 150) (ht : cAt t pn ps g u) (k : K (if w.1 = false then -2 else if t.2.1 = true then -3 else if t.2.2.length = 0 then -1 else 0) u) : bX8_unsheeted 0 u K := by
  have r2 := hr.get 0 2 9 (by decide)
  unfold bX8_unsheeted
  refine s_unmapped hr hk ht ?_
  by_cases q : w.1 = false
  · simp only [q, if_true] at k ⊢; exact br_f (by decide) k
  · simp only [q, if_false] at k ⊢
    by_cases z : t.2.1 = true
    · simp only [z, if_true] at k ⊢; exact br_f (by decide) k
    · simp only [z, if_false] at k ⊢
      refine br_t rfl ⟨9, r2, ?_⟩
      rw [ht.2.1]
      refine pk_eq t.2.2.length 0 (fun z => ?_) (fun z => ?_) rfl k0
      · rw [if_pos z] at k; exact k
      · rw [if_neg z] at k; exact k
theorem C_one {h : aHo} {w : aWk} {t : aAt} {pn ps : Nat} {g : Nat → Nat → Option Nat} {u : mSt} {a1 a2 : Int32} {K : Int32 → mSt → Prop} (hr : cRf u) (hw : oWk h w) (ho : oAt w t) (htr : oTr w t) (hk : cWk w u) (ht : cAt t pn ps g u) (k : K (xOne w t a1 a2) u) : bX8_one 0 a1 a2 u K := by
  have r1 := hr.get 0 1 6 (by decide)
  have r2 := hr.get 0 2 9 (by decide)
  have hl := ho.2.2.2.1
  have hwl := hw.2.2.1
  have hpn : pn = 10 ∨ pn = 11 := by rcases ht.1.1 with ⟨q, -⟩ | ⟨q, -⟩ <;> omega
  have loop : ∀ I J, I ≤ w.2.2.2.length → J ≤ w.2.2.2.length → 0 < t.2.2.length → K (if cnt (alk w t I J) t.2.2.length = 0 then 0 else if cnt (alk w t I J) t.2.2.length = t.2.2.length then 1 else 2) u → ∀ n i, i + n = t.2.2.length → bX8_one_51 (n + 1) 0 (nI I) (nI J) (nI (cnt (alk w t I J) i)) (nI i) u K := by
    intro I J hI hJ h0 kk n
    induction n with
    | zero =>
      intro i hn
      have : i = t.2.2.length := by omega
      subst this
      have hc := cnt_le (alk w t I J) t.2.2.length
      unfold bX8_one_51
      refine ⟨9, r2, ?_⟩
      rw [ht.2.1]
      refine br_t (nI_le (by omega) (by omega)) (pk_eq (cnt (alk w t I J) t.2.2.length) 0 (fun z => ?_) (fun z => ⟨9, r2, ?_⟩) rfl k0)
      · rw [if_pos z] at kk; exact kk
      · rw [if_neg z] at kk
        rw [ht.2.1]
        refine pk_eq (cnt (alk w t I J) t.2.2.length) t.2.2.length (fun z => ?_) (fun z => ?_) rfl rfl
        · rw [if_pos z] at kk; exact kk
        · rw [if_neg z] at kk; exact kk
    | succ n ih =>
      intro i hn
      have hil : i < t.2.2.length := by omega
      have hge := List.getElem?_eq_getElem hil
      generalize t.2.2[i] = s at hge
      have hm := List.mem_of_getElem? hge
      obtain ⟨q, q1, q2⟩ := ht.2.2.2.2 i s hge
      obtain ⟨x1, x2, x3, x4⟩ := ht.1.2.2.2.2.1 pn i q hpn (by omega) q1
      have os := (ho.2.2.2.2 s hm).1
      have h6 := os.1.2.1
      have hpl := fun I hI => xPl_lt os (htr s hm) (i := I) hI
      have p1 := hpl I hI
      have p2 := hpl J hJ
      unfold bX8_one_51
      refine ⟨9, r2, ?_⟩
      rw [ht.2.1]
      refine br_f (nI_ge (by omega) (by omega)) ⟨9, r2, pn, ht.1.2.1, vp_in_nI (by omega) (by decide), q, ?_, ?_⟩
      · rw [nI_clamp (by omega), ht.1.2.2.2.1 pn i hpn (by omega)]; exact q1
      · refine s_placeBehind hr hk (fun e he => (hw.2.2.2 e he).1) hwl os (htr s hm) x4 q2 hI ?_
        refine s_placeBehind hr hk (fun e he => (hw.2.2.2 e he).1) hwl os (htr s hm) x4 q2 hJ ?_
        have ih' := ih (i + 1) (by omega)
        simp only [cnt, alk, hge] at ih'
        refine pk_eq (xPl s w.2.2.2 I) (xPl s w.2.2.2 J) (fun z => ?_) (fun z => ?_) rfl rfl
        · rintro _ rfl
          unfold bX8_one_95
          rintro _ rfl
          rw [nI_1, nI_1]
          simp only [z, decide_true, b2n, if_true] at ih'
          exact ih'
        · unfold bX8_one_95
          rintro _ rfl
          rw [nI_1]
          simp only [z, decide_false, b2n] at ih'
          exact ih'
  unfold bX8_one
  refine s_unsheeted hr hk hl ht ?_
  unfold xOne at k
  by_cases q : w.1 = false
  · simp only [q, if_true] at k ⊢; exact br_f (by decide) k
  · simp only [q, if_false] at k ⊢
    by_cases z : t.2.1 = true
    · simp only [z, if_true] at k ⊢; exact br_f (by decide) k
    · simp only [z, if_false] at k ⊢
      by_cases z2 : t.2.2.length = 0
      · rw [if_pos z2] at k ⊢; exact br_f (by decide) k
      · rw [if_neg z2] at k ⊢
        refine br_t rfl ⟨6, r1, ?_⟩
        rw [hk.2.1, nI_1]
        refine s_withinN rfl (by omega) _ _ (fun i hi e1 => br_f (by decide) ⟨6, r1, ?_⟩) (fun e => br_t rfl ?_)
        · rw [dec_some (n := w.2.2.2.length + 1) (by omega) hi e1] at k
          rw [hk.2.1, nI_1]
          refine s_withinN rfl (by omega) _ _ (fun j hj e2 => br_f (by decide) ?_) (fun e => br_t rfl ?_)
          · simp only [dec_some (n := w.2.2.2.length + 1) (by omega) hj e2] at k
            subst e1 e2
            have := loop i j (by omega) (by omega) (by omega) k t.2.2.length 0 (by omega)
            simp only [cnt, nI_0] at this
            exact ⟨_, this⟩
          · simp only [dec_none (n := w.2.2.2.length + 1) (by omega) e] at k
            exact k
        · rw [dec_none (n := w.2.2.2.length + 1) (by omega) e] at k
          exact k
theorem M_one {h : aHo} {w : aWk} {t : aAt} {u : mSt} {a1 a2 : Int32} {K : Int32 → mSt → Prop} (hr : rRf u) (hw : oWk h w) (ho : oAt w t) (htr : oTr w t) (hrw : rWk h w u) (hrt : rAt t u) (hhi : ∀ k s, t.2.2[k]? = some s → rHi s w.2.2.2 k u) (k : K (xOne w t a1 a2) (mpI u 42 0 0)) : bX9_one 42 a1 a2 u K := by
  have hl := ho.2.2.2.1
  have hwl := hw.2.2.1
  have i19 : mI (mpI u 42 0 0) 42 19 = nI t.2.2.length := by rw [up_ne _ _ (by omega)]; exact hrt.2.1
  have hR : mR (mpI u 42 0 0) 42 26 = some 56 := hr.get 42 26 56 (by decide)
  have loop : ∀ I J, I ≤ w.2.2.2.length → J ≤ w.2.2.2.length → 0 < t.2.2.length → K (if cnt (alk w t I J) t.2.2.length = 0 then 0 else if cnt (alk w t I J) t.2.2.length = t.2.2.length then 1 else 2) (mpI u 42 0 0) → ∀ n i, i + n = t.2.2.length → bX9_one_76 (n + 1) 42 (nI I) (nI J) (nI (cnt (alk w t I J) i)) (nI i) (mpI u 42 0 0) K := by
    intro I J hI hJ h0 kk n
    induction n with
    | zero =>
      intro i hn
      have : i = t.2.2.length := by omega
      subst this
      have hc := cnt_le (alk w t I J) t.2.2.length
      unfold bX9_one_76
      rw [i19]
      refine br_t (nI_le (by omega) (by omega)) (pk_eq (cnt (alk w t I J) t.2.2.length) t.2.2.length (fun z => ?_) (fun z => pk_eq (cnt (alk w t I J) t.2.2.length) 0 (fun z2 => ?_) (fun z2 => ?_) rfl k0) rfl rfl)
      · rw [if_neg (by omega), if_pos z] at kk; exact kk
      · rw [if_pos z2] at kk; exact kk
      · rw [if_neg z2, if_neg z] at kk; exact kk
    | succ n ih =>
      intro i hn
      have hil : i < t.2.2.length := by omega
      have hge := List.getElem?_eq_getElem hil
      generalize t.2.2[i] = s at hge
      have hm := List.mem_of_getElem? hge
      have os := (ho.2.2.2.2 s hm).1
      have h6 := os.1.2.1
      have hpl := fun I hI => xPl_lt os (htr s hm) (i := I) hI
      have p1 := hpl I hI
      have p2 := hpl J hJ
      have ih' := ih (i + 1) (by omega)
      simp only [cnt, alk, hge] at ih'
      unfold bX9_one_76
      rw [i19]
      refine br_f (nI_ge (by omega) (by omega)) ⟨56, hR, ?_⟩
      rw [k201n, k201n, nI_clamp (by omega), nI_clamp (by omega), up_ne _ _ (by omega), hhi i s hge I hI]
      refine ⟨vp_in_nI (by omega) (by decide), 56, hR, vp_in_nI (by omega) (by decide), ?_⟩
      rw [up_ne _ _ (by omega), hhi i s hge J hJ]
      refine pk_eq (xPl s w.2.2.2 I) (xPl s w.2.2.2 J) (fun z => ?_) (fun z => ?_) rfl rfl
      · unfold bX9_one_120
        rintro _ rfl _ rfl
        rw [nI_1, nI_1]
        simp only [z, decide_true, b2n, if_true] at ih'
        exact ih'
      · unfold bX9_one_120
        rintro _ rfl _ rfl
        rw [nI_1, k0, nI_add, Nat.add_zero]
        simp only [z, decide_false, b2n] at ih'
        exact ih'
  unfold bX9_one
  rintro _ rfl
  unfold xOne at k
  rw [up_ne _ _ (by omega), hrw.1, b2i_0]
  refine br_c (fun q => ?_) (fun q => ?_)
  · unfold bX9_one_19
    rw [if_pos q] at k
    rw [up_ne _ _ (by omega), hrw.1, b2i_0]
    exact br_t q k
  · rw [if_neg q] at k
    rw [up_ne _ _ (by omega), hrt.2.2.1, b2i_0]
    refine br_c (fun z => ?_) (fun z => ?_)
    · rw [if_neg (by simp [z])] at k
      rw [up_ne _ _ (by omega), hrw.2.1]
      refine s_isInN (lo := 0) (hi := w.2.2.2.length) (by rw [nI_0]; rfl) rfl (by omega) (by omega) _ _ (fun i _ hi e1 => br_f (by decide) ?_) (fun e => br_t rfl ?_)
      · rw [dec_some (n := w.2.2.2.length + 1) (by omega) (by omega) e1] at k
        rw [up_ne _ _ (by omega), hrw.2.1]
        refine s_isInN (lo := 0) (hi := w.2.2.2.length) (by rw [nI_0]; rfl) rfl (by omega) (by omega) _ _ (fun j _ hj e2 => br_f (by decide) ?_) (fun e => br_t rfl ?_)
        · simp only [dec_some (n := w.2.2.2.length + 1) (by omega) (show j < w.2.2.2.length + 1 by omega) e2] at k
          rw [i19]
          refine pk_eq t.2.2.length 0 (fun z0 => ?_) (fun z0 => ?_) rfl k0
          · rw [if_pos z0] at k; exact k
          · rw [if_neg z0] at k
            subst e1 e2
            have := loop i j hi hj (by omega) k t.2.2.length 0 (by omega)
            simp only [cnt, nI_0] at this
            exact ⟨_, this⟩
        · simp only [dec_none (n := w.2.2.2.length + 1) (by omega) (fun j hj => e j (by omega) (by omega))] at k
          split at k <;> exact k
      · rw [dec_none (n := w.2.2.2.length + 1) (by omega) (fun j hj => e j (by omega) (by omega))] at k
        split at k <;> exact k
    · have z : t.2.1 = true := by simpa using z
      rw [if_pos z] at k
      unfold bX9_one_19
      rw [up_ne _ _ (by omega), hrw.1, b2i_0]
      exact br_f q k
