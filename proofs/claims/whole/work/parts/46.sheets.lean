/-! THE SHEETS: a sheet has places, the walker's, the pebble's (none: it is carried), signs, and where act a of place p leads at 5 p + a: 0 unknown, 1 a bump, q + 2 place q -/
abbrev aSh : Type := Nat × Nat × Option Nat × (Nat → Nat) × (Nat → Nat)
abbrev aAt : Type := Nat × Bool × List aSh
def lI (n : Nat) : Int32 := match n with
  | 0 => -3
  | 1 => -2
  | q + 2 => nI q
def oSh (m : Nat) (s : aSh) : Prop := (0 < s.1 ∧ s.1 ≤ m ∧ s.2.1 < s.1 ∧ ∀ q, s.2.2.1 = some q → q < s.1) ∧ (∀ p, p < s.1 → s.2.2.2.1 p < 4) ∧ ∀ x, x < 5 * s.1 → s.2.2.2.2 x < s.1 + 2 ∧ (x % 5 = 4 → s.2.2.2.2 x ≠ 1)
def oAt (w : aWk) (t : aAt) : Prop := (w.1 = true → 0 < t.1 ∧ t.1 ≤ 6) ∧ (w.1 = false → t.2.2 = []) ∧ (t.2.1 = true → t.2.2 = []) ∧ t.2.2.length ≤ 150 ∧ ∀ s ∈ t.2.2, oSh 6 s ∧ (w.1 = true → s.1 ≤ t.1)
/-- a sheet of the class at place q -/
def cOne (s : aSh) (q : Nat) (u : mSt) : Prop := mI u q 2 = nI s.1 ∧ mI u q 3 = nI s.2.1 ∧ mI u q 4 = pbI s.2.2.1 ∧ (∀ p, p < s.1 → mI u (q + 1) p = nI (s.2.2.2.1 p)) ∧ (∀ x, x < 5 * s.1 → mI u (q + 2) x = lI (s.2.2.2.2 x)) ∧ ∀ x, 5 * s.1 ≤ x → x < 30 → mI u (q + 2) x = -3
/-- the two arrays of sheets, which of them is now, and the sheets that they hold: g i k is sheet k of array i -/
def cPile (pn ps : Nat) (g : Nat → Nat → Option Nat) (u : mSt) : Prop := ((pn = 10 ∧ ps = 11) ∨ (pn = 11 ∧ ps = 10)) ∧ mR u 9 0 = some pn ∧ mR u 9 1 = some ps ∧ (∀ i k, (i = 10 ∨ i = 11) → k < 151 → mR u i k = g i k) ∧
  (∀ i k q, (i = 10 ∨ i = 11) → k < 151 → g i k = some q → 77 ≤ q ∧ q + 2 < mN u ∧ mR u q 0 = some (q + 1) ∧ mR u q 1 = some (q + 2)) ∧
  ∀ i k q i' k' q', (i = 10 ∨ i = 11) → (i' = 10 ∨ i' = 11) → k < 151 → k' < 151 → g i k = some q → g i' k' = some q' → (i = i' ∧ k = k') ∨ q + 2 < q' ∨ q' + 2 < q
def cAt (t : aAt) (pn ps : Nat) (g : Nat → Nat → Option Nat) (u : mSt) : Prop := cPile pn ps g u ∧ mI u 9 2 = nI t.2.2.length ∧ mI u 9 4 = nI t.1 ∧ mI u 9 5 = b2i t.2.1 ∧ ∀ k s, t.2.2[k]? = some s → ∃ q, g pn k = some q ∧ cOne s q u
def rOne (s : aSh) (k : Nat) (u : mSt) : Prop := mI u 51 k = nI s.1 ∧ mI u 54 k = nI s.2.1 ∧ mI u 55 k = pbI s.2.2.1 ∧ (∀ p, p < s.1 → mI u 52 (6 * k + p) = nI (s.2.2.2.1 p)) ∧ ∀ x, x < 5 * s.1 → mI u 53 (30 * k + x) = lI (s.2.2.2.2 x)
def rAt (t : aAt) (u : mSt) : Prop := mI u 42 18 = nI t.1 ∧ mI u 42 19 = nI t.2.2.length ∧ mI u 42 20 = b2i t.2.1 ∧ ∀ k s, t.2.2[k]? = some s → rOne s k u
theorem lI_m3 {n : Nat} (h : n < 2 ^ 30) : lI n = -3 ↔ n = 0 := by
  match n, h with
  | 0, _ => simp [lI]
  | 1, _ => simp [lI]
  | q + 2, h =>
    simp only [lI, Nat.add_eq_zero_iff, reduceCtorEq, and_false, iff_false]
    intro e
    have h1 : ¬ nI q < 0 := nI_pos (by omega)
    rw [e] at h1
    exact h1 (by decide)
/-- sheets -/
def xSheets (w : aWk) (t : aAt) : Int32 := if w.1 = false then -2 else if t.2.1 = true then -3 else nI t.2.2.length
theorem s_unmapped {w : aWk} {t : aAt} {pn ps : Nat} {g : Nat → Nat → Option Nat} {u : mSt} {K : Int32 → mSt → Prop} (hr : cRf u) (hk : cWk w u) (ht : cAt t pn ps g u) (k : K (if w.1 = false then -2 else if t.2.1 = true then -3 else 0) u) : bX8_unmapped 0 u K := by
  have r2 := hr.get 0 2 9 (by decide)
  unfold bX8_unmapped
  rw [hk.1, b2i_0]
  refine br_c (fun q => by simpa [q] using k) (fun q => ⟨9, r2, ?_⟩)
  rw [ht.2.2.2.1, b2i_0]
  refine br_c (fun z => ?_) (fun z => ?_)
  · simpa [q, z] using k
  · have z : t.2.1 = true := by simpa using z
    simpa [q, z] using k
theorem C_sheets {w : aWk} {t : aAt} {pn ps : Nat} {g : Nat → Nat → Option Nat} {u : mSt} {K : Int32 → mSt → Prop} (hr : cRf u) (hk : cWk w u) (ht : cAt t pn ps g u) (k : K (xSheets w t) u) : bX8_sheets 0 u K := by
  have r2 := hr.get 0 2 9 (by decide)
  unfold bX8_sheets
  refine s_unmapped hr hk ht ?_
  unfold xSheets at k
  by_cases q : w.1 = false
  · simp only [q, if_true] at k ⊢; exact br_f (by decide) k
  · simp only [q, if_false] at k ⊢
    by_cases z : t.2.1 = true
    · simp only [z, if_true] at k ⊢; exact br_f (by decide) k
    · simp only [z, if_false] at k ⊢
      refine br_t rfl ⟨9, r2, ?_⟩
      rw [ht.2.1]; exact k
theorem M_sheets {h : aHo} {w : aWk} {t : aAt} {u : mSt} {K : Int32 → mSt → Prop} (hk : rWk h w u) (ht : rAt t u) (k : K (xSheets w t) (mpI u 42 0 0)) : bX9_sheets 42 u K := by
  unfold bX9_sheets
  rintro _ rfl
  rw [th_at u (by decide), th_at u (by decide), th_at u (by decide), hk.1, b2i_0, ht.2.2.1, b2i_0, ht.2.1]
  unfold xSheets at k
  refine br_c (fun q => by simpa [q] using k) (fun q => br_c (fun z => by simpa [q, z] using k) (fun z => ?_))
  have z : t.2.1 = true := by simpa using z
  simpa [q, z] using k
/-- is there a sheet k -/
theorem s_isSheetN {h : aHo} {w : aWk} {t : aAt} {u : mSt} {a : Int32} {K : Int32 → mSt → Prop} (ho : oAt w t) (hk : mI u 42 6 = b2i w.1) (ht : mI u 42 19 = nI t.2.2.length) (h1 : ∀ j, j < t.2.2.length → a = nI j → K 1 u) (h0 : (∀ j, j < t.2.2.length → a ≠ nI j) → K 0 u) : bX9_isSheet 42 a u K := by
  have hl := ho.2.2.2.1
  unfold bX9_isSheet
  rw [hk, b2i_0, ht]
  refine br_c (fun q => ?_) (fun q => ?_)
  · rw [ho.2.1 q] at h0
    exact h0 (fun j hj => absurd hj (by simp))
  · rcases pk_ix a (n := t.2.2.length) (by omega) with z | z | ⟨j, hj, rfl⟩
    · exact br_t z (h0 (fun j hj e => by subst e; exact absurd z (nI_pos (by omega))))
    · have h3 : ∀ j, j < t.2.2.length → a ≠ nI j := fun j hj e => by subst e; exact absurd z (nI_ge hj (by omega))
      exact br_c (fun _ => h0 h3) (fun _ => br_t z (h0 h3))
    · exact br_f (nI_pos (by omega)) (br_f (nI_ge hj (by omega)) (h1 j hj rfl))
theorem s_isPlaceC {w : aWk} {t : aAt} {pn ps : Nat} {g : Nat → Nat → Option Nat} {u : mSt} {a1 a2 : Int32} {K : Int32 → mSt → Prop} (hr : cRf u) (ho : oAt w t) (ht : cAt t pn ps g u) (h1 : ∀ k s p, t.2.2[k]? = some s → k < 150 → p < s.1 → a1 = nI k → a2 = nI p → K 1 u) (h0 : (∀ k s p, t.2.2[k]? = some s → p < s.1 → ¬ (a1 = nI k ∧ a2 = nI p)) → K 0 u) : bX8_isPlace 0 a1 a2 u K := by
  have r2 := hr.get 0 2 9 (by decide)
  have hl := ho.2.2.2.1
  have hpn : pn = 10 ∨ pn = 11 := by rcases ht.1.1 with ⟨q, -⟩ | ⟨q, -⟩ <;> omega
  unfold bX8_isPlace
  refine ⟨9, r2, s_withinN (N := t.2.2.length) ht.2.1 (by omega) _ _ (fun k hk e => br_f (by decide) ?_) (fun e => br_t rfl ?_)⟩
  · obtain ⟨q, hq, hc⟩ := ht.2.2.2.2 k _ (List.getElem?_eq_getElem hk)
    have hs := (ho.2.2.2.2 _ (List.getElem_mem hk)).1
    have h6 := hs.1.2.1
    subst e
    refine ⟨9, r2, pn, ht.1.2.1, vp_in_nI (by omega) (by decide), q, ?_, ?_⟩
    · rw [nI_clamp (by omega), ht.1.2.2.2.1 pn k hpn (by omega)]; exact hq
    · refine s_withinN (N := (t.2.2[k]).1) hc.1 (by omega) _ _ (fun p hp e2 => br_f (by decide) ?_) (fun e2 => br_t rfl ?_)
      · exact h1 k _ p (List.getElem?_eq_getElem hk) (by omega) hp rfl e2
      · refine h0 (fun k' s' p' hk' hp' ⟨e1, e3⟩ => ?_)
        have hk2 : k' < t.2.2.length := (List.getElem?_eq_some_iff.mp hk').1
        have : k = k' := (nI_eq (by omega) (by omega)).mp e1
        subst this
        rw [List.getElem?_eq_getElem hk] at hk'
        cases hk'
        exact e2 p' hp' e3
  · refine h0 (fun k' s' p' hk' hp' ⟨e1, e3⟩ => ?_)
    exact e k' (List.getElem?_eq_some_iff.mp hk').1 e1
theorem s_isPlaceM {w : aWk} {t : aAt} {u : mSt} {a1 a2 : Int32} {K : Int32 → mSt → Prop} (hr : rRf u) (ho : oAt w t) (hk : mI u 42 6 = b2i w.1) (ht : mI u 42 19 = nI t.2.2.length) (hone : ∀ k s, t.2.2[k]? = some s → rOne s k u) (h1 : ∀ k s p, t.2.2[k]? = some s → k < 150 → p < s.1 → a1 = nI k → a2 = nI p → K 1 u) (h0 : (∀ k s p, t.2.2[k]? = some s → p < s.1 → ¬ (a1 = nI k ∧ a2 = nI p)) → K 0 u) : bX9_isPlace 42 a1 a2 u K := by
  have r2 := hr.get 42 21 51 (by decide)
  have hl := ho.2.2.2.1
  unfold bX9_isPlace
  refine s_isSheetN (h := (0, fun _ => 0, fun _ => false, fun _ => 0, fun _ => 0)) ho hk ht (fun k hk2 e => br_f (by decide) ?_) (fun e => br_t rfl ?_)
  · have hc := hone k _ (List.getElem?_eq_getElem hk2)
    have hs := (ho.2.2.2.2 _ (List.getElem_mem hk2)).1
    have h6 := hs.1.2.1
    have no : (∀ p, p < (t.2.2[k]).1 → a2 ≠ nI p) → K 0 u := fun hno => h0 (fun k' s' p' hk' hp' ⟨e1, e3⟩ => by
      have hk3 : k' < t.2.2.length := (List.getElem?_eq_some_iff.mp hk').1
      have : k = k' := (nI_eq (by omega) (by omega)).mp (e.symm.trans e1)
      subst this
      rw [List.getElem?_eq_getElem hk2] at hk'
      cases hk'
      exact hno p' hp' e3)
    rcases pk_ix a2 (n := (t.2.2[k]).1) (by omega) with z | z | ⟨p, hp, rfl⟩
    · exact br_t z (no (fun p hp e => by subst e; exact absurd z (nI_pos (by omega))))
    · have h3 : ∀ p, p < (t.2.2[k]).1 → a2 ≠ nI p := fun p hp e => by subst e; exact absurd z (nI_ge hp (by omega))
      refine br_c (fun _ => no h3) (fun _ => ⟨51, r2, ?_⟩)
      rw [e, nI_clamp (by omega), hc.1]
      exact ⟨vp_in_nI (by omega) (by decide), br_t z (no h3)⟩
    · refine br_f (nI_pos (by omega)) ⟨51, r2, ?_⟩
      rw [e, nI_clamp (by omega), hc.1]
      exact ⟨vp_in_nI (by omega) (by decide), br_f (nI_ge hp (by omega)) (h1 k _ p (List.getElem?_eq_getElem hk2) (by omega) hp e rfl)⟩
  · refine h0 (fun k' s' p' hk' hp' ⟨e1, e3⟩ => ?_)
    exact e k' (List.getElem?_eq_some_iff.mp hk').1 e1
