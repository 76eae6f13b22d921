/-- an argument read as a number below n -/
def dec (a : Int32) (n : Nat) : Option Nat := if 0 ≤ a ∧ a < nI n then some a.toNatClampNeg else none
theorem dec_cases (a : Int32) {n : Nat} (hn : n < 2 ^ 31) : (∃ j, j < n ∧ a = nI j ∧ dec a n = some j) ∨ ((∀ j, j < n → a ≠ nI j) ∧ dec a n = none) := by
  rcases pk_ix a hn with h | h | ⟨j, hj, rfl⟩
  · refine Or.inr ⟨fun j hj e => ?_, ?_⟩
    · subst e; exact absurd h (nI_pos (by omega))
    · unfold dec; rw [if_neg (fun q => absurd h (Int32.not_lt.mpr q.1))]
  · refine Or.inr ⟨fun j hj e => ?_, ?_⟩
    · subst e; exact absurd h (nI_ge hj hn)
    · unfold dec; rw [if_neg (fun q => absurd q.2 (Int32.not_lt.mpr h))]
  · refine Or.inl ⟨j, hj, rfl, ?_⟩
    unfold dec
    rw [if_pos ⟨nI_pos' (by omega), nI_lt hj hn⟩, nI_clamp (by omega)]
/-- the references that never change: the class's, the reference's -/
def cTab : List (Nat × Nat × Nat) := [(0, 0, 1), (0, 1, 6), (0, 2, 9), (0, 3, 12), (0, 4, 16), (0, 5, 19), (0, 6, 22), (0, 7, 25), (1, 0, 2), (1, 1, 3), (1, 2, 4), (1, 3, 5), (6, 0, 7), (6, 1, 8), (12, 0, 13), (12, 1, 14), (12, 2, 15), (16, 0, 17), (16, 1, 18), (19, 0, 20), (19, 1, 21), (22, 0, 23), (22, 1, 24), (25, 0, 26), (25, 1, 28), (25, 2, 30), (25, 3, 32), (25, 4, 34), (25, 5, 36), (25, 6, 38), (25, 7, 40), (26, 0, 27), (28, 0, 29), (30, 0, 31), (32, 0, 33), (34, 0, 35), (36, 0, 37), (38, 0, 39), (40, 0, 41)]
def rTab : List (Nat × Nat × Nat) := [(42, 2, 43), (42, 3, 44), (42, 4, 45), (42, 5, 46), (42, 13, 47), (42, 14, 48), (42, 15, 49), (42, 16, 50), (42, 21, 51), (42, 22, 52), (42, 23, 53), (42, 24, 54), (42, 25, 55), (42, 26, 56), (42, 28, 57), (42, 29, 58), (42, 30, 59), (42, 31, 60), (42, 32, 61), (42, 33, 62), (42, 38, 63), (42, 39, 64), (42, 41, 65), (42, 42, 66), (42, 43, 67), (42, 44, 68), (42, 45, 69), (42, 46, 70), (42, 47, 71), (42, 48, 72), (42, 49, 73), (42, 50, 74), (42, 51, 75)]
def cRf (u : mSt) : Prop := ∀ t ∈ cTab, mR u t.1 t.2.1 = some t.2.2
def rRf (u : mSt) : Prop := ∀ t ∈ rTab, mR u t.1 t.2.1 = some t.2.2
theorem cRf.get {u : mSt} (h : cRf u) (p i q : Nat) (hm : (p, i, q) ∈ cTab) : mR u p i = some q := h (p, i, q) hm
theorem rRf.get {u : mSt} (h : rRf u) (p i q : Nat) (hm : (p, i, q) ∈ rTab) : mR u p i = some q := h (p, i, q) hm
theorem cRf.of {u v : mSt} (h : cRf u) (e : mR v = mR u) : cRf v := fun t ht => by rw [e]; exact h t ht
theorem rRf.of {u v : mSt} (h : rRf u) (e : mR v = mR u) : rRf v := fun t ht => by rw [e]; exact h t ht
/-- what an operation of the class leaves as it is, what one of the reference leaves -/
def fC (u v : mSt) : Prop := ∀ p, 42 ≤ p → p < 77 → mI v p = mI u p ∧ mR v p = mR u p ∧ mL v p = mL u p
def fM (u v : mSt) : Prop := (∀ p, (p < 42 ∨ 76 ≤ p) → mI v p = mI u p ∧ mL v p = mL u p) ∧ mR v = mR u ∧ mN v = mN u ∧ mT v = mT u
theorem fC.rf (u : mSt) : fC u u := fun _ _ _ => ⟨rfl, rfl, rfl⟩
theorem fC.tr {u v w : mSt} (h : fC u v) (k : fC v w) : fC u w := fun p h1 h2 => ⟨(k p h1 h2).1.trans (h p h1 h2).1, (k p h1 h2).2.1.trans (h p h1 h2).2.1, (k p h1 h2).2.2.trans (h p h1 h2).2.2⟩
theorem fC.pI (u : mSt) {q i : Nat} {x : Int32} (h : q < 42 ∨ 77 ≤ q) : fC u (mpI u q i x) := fun p h1 h2 => ⟨mup_ne _ (by omega), rfl, rfl⟩
theorem fC.pL (u : mSt) {q i : Nat} {x : Int64} (h : q < 42 ∨ 77 ≤ q) : fC u (mpL u q i x) := fun p h1 h2 => ⟨rfl, rfl, mup_ne _ (by omega)⟩
theorem fM.rf (u : mSt) : fM u u := ⟨fun _ _ => ⟨rfl, rfl⟩, rfl, rfl, rfl⟩
theorem fM.tr {u v w : mSt} (h : fM u v) (k : fM v w) : fM u w := ⟨fun p hp => ⟨(k.1 p hp).1.trans (h.1 p hp).1, (k.1 p hp).2.trans (h.1 p hp).2⟩, k.2.1.trans h.2.1, k.2.2.1.trans h.2.2.1, k.2.2.2.trans h.2.2.2⟩
theorem fM.pI (u : mSt) {q i : Nat} {x : Int32} (h : 42 ≤ q ∧ q < 76) : fM u (mpI u q i x) := ⟨fun p hp => ⟨mup_ne _ (by omega), rfl⟩, rfl, rfl, rfl⟩
theorem fM.pL (u : mSt) {q i : Nat} {x : Int64} (h : 42 ≤ q ∧ q < 76) : fM u (mpL u q i x) := ⟨fun p hp => ⟨rfl, mup_ne _ (by omega)⟩, rfl, rfl, rfl⟩
/-! THE HOUSE: how many cells, their signs and plates, the kinds of the leads and where they go -/
abbrev aHo : Type := Nat × (Nat → Nat) × (Nat → Bool) × (Nat → Nat) × (Nat → Nat)
def oHo (h : aHo) : Prop := h.1 ≤ 10 ∧ (∀ i, i < h.1 → h.2.1 i < 4) ∧ ∀ i, i < 40 → h.2.2.2.1 i < 6 ∧ (h.2.2.2.1 i ≠ 0 → h.2.2.2.2 i < h.1 ∧ i < 4 * h.1)
/-- the house in the rows: the number of cells, and four rows -/
def gHo (h : aHo) (n : Int32) (f1 f2 f3 f4 : Nat → Int32) : Prop := n = nI h.1 ∧ (∀ i, i < h.1 → f1 i = nI (h.2.1 i) ∧ f2 i = b2i (h.2.2.1 i)) ∧ ∀ i, i < 40 → f3 i = nI (h.2.2.2.1 i) ∧ (h.2.2.2.1 i ≠ 0 → f4 i = nI (h.2.2.2.2 i))
def cHo (h : aHo) (u : mSt) : Prop := gHo h (mI u 1 4) (mI u 2) (mI u 3) (mI u 4) (mI u 5)
def rHo (h : aHo) (u : mSt) : Prop := gHo h (mI u 42 1) (mI u 43) (mI u 44) (mI u 45) (mI u 46)
/-- cell: the answer and the house behind it -/
def xCell (h : aHo) (a1 a2 : Int32) : Int32 × aHo := match dec a1 4 with
  | none => (-1, h)
  | some j => if h.1 = 10 then (-2, h) else (nI h.1, (h.1 + 1, va_up h.2.1 h.1 j, va_up h.2.2.1 h.1 (a2 != 0), h.2.2.2.1, h.2.2.2.2))
theorem nar_b2i {a : Int32} (h : a = 0 ∨ a = 1) : vp_nar .boolean a = b2i (a != 0) := by rcases h with rfl | rfl <;> decide
theorem xCell_ok {h : aHo} (ho : oHo h) (a1 a2 : Int32) : oHo (xCell h a1 a2).2 := by
  unfold xCell
  rcases dec_cases a1 (n := 4) (by decide) with ⟨j, hj, -, e⟩ | ⟨-, e⟩
  · rw [e]
    by_cases hc : h.1 = 10
    · simp only [hc, if_true]; exact ho
    · simp only [hc, if_false]
      obtain ⟨h1, h2, h3⟩ := ho
      refine ⟨by show h.1 + 1 ≤ 10; omega, fun i hi => ?_, fun i hi => ⟨(h3 i hi).1, fun q => ?_⟩⟩
      · show va_up h.2.1 h.1 j i < 4
        have hi' : i < h.1 + 1 := hi
        unfold va_up
        by_cases q : i = h.1
        · rw [if_pos q]; exact hj
        · rw [if_neg q]; exact h2 i (by omega)
      · have := (h3 i hi).2 q
        exact ⟨Nat.lt_succ_of_lt this.1, by show i < 4 * (h.1 + 1); omega⟩
  · rw [e]; exact ho
theorem gHo_cell {h : aHo} {f1 f2 f3 f4 : Nat → Int32} {n a2 : Int32} {j : Nat} (g : gHo h n f1 f2 f3 f4) (hb : a2 = 0 ∨ a2 = 1) : gHo (h.1 + 1, va_up h.2.1 h.1 j, va_up h.2.2.1 h.1 (a2 != 0), h.2.2.2.1, h.2.2.2.2) (n + 1) (fun i => if i = h.1 then nI j else f1 i) (fun i => if i = h.1 then vp_nar .boolean a2 else f2 i) f3 f4 := by
  obtain ⟨g1, g2, g3⟩ := g
  refine ⟨by rw [g1]; exact nI_1 _, fun i hi => ?_, g3⟩
  have hi' : i < h.1 + 1 := hi
  show (if i = h.1 then nI j else f1 i) = nI (va_up h.2.1 h.1 j i) ∧ (if i = h.1 then vp_nar .boolean a2 else f2 i) = b2i (va_up h.2.2.1 h.1 (a2 != 0) i)
  unfold va_up
  by_cases q : i = h.1
  · simp only [q, if_true]; exact ⟨trivial, nar_b2i hb⟩
  · simp only [q, if_false]; exact g2 i (by omega)
theorem C_cell {h : aHo} {u : mSt} {a1 a2 : Int32} {K : Int32 → mSt → Prop} (hr : cRf u) (ho : oHo h) (hc : cHo h u) (hb : a2 = 0 ∨ a2 = 1) (k : ∀ v, cHo (xCell h a1 a2).2 v → mR v = mR u → mL v = mL u → mN v = mN u → mT v = mT u → (∀ p, p ≠ 1 → p ≠ 2 → p ≠ 3 → mI v p = mI u p) → (∀ i, i ≠ 4 → mI v 1 i = mI u 1 i) → K (xCell h a1 a2).1 v) : bX8_cell 0 a1 a2 u K := by
  have r0 := hr.get 0 0 1 (by decide)
  have r1 := hr.get 1 0 2 (by decide)
  have r2 := hr.get 1 1 3 (by decide)
  unfold bX8_cell
  refine s_withinN (N := 4) rfl (by decide) _ _ (fun j hj e => ?_) (fun e => ?_)
  · refine ⟨fun q => absurd q (by decide), fun _ => ⟨1, r0, ?_⟩⟩
    have ed : dec a1 4 = some j := by
      rcases dec_cases a1 (n := 4) (by decide) with ⟨j', hj', e', d⟩ | ⟨e', -⟩
      · rw [d]; rw [e] at e'; rw [(nI_eq (by omega) (by omega)).mp e']
      · exact absurd e (e' j hj)
    have hlt : mI u 1 4 < 10 ↔ h.1 < 10 := by rw [hc.1]; exact nI_ltI (by have := ho.1; omega) (by decide)
    rw [hlt]
    refine ⟨fun q => ⟨1, r0, ?_⟩, fun q => ?_⟩
    · unfold bX1_addCell
      intro x hx
      rw [hc.1] at hx
      subst hx
      have hn : ¬ h.1 = 10 := by omega
      have hcl : (nI h.1).toNatClampNeg = h.1 := nI_clamp (by omega)
      refine ⟨2, r1, vp_in_nI q (by decide), ?_⟩
      rw [hcl]
      rintro _ rfl
      refine ⟨3, r2, vp_in_nI q (by decide), ?_⟩
      rintro _ rfl _ rfl
      have hx : xCell h a1 a2 = (nI h.1, (h.1 + 1, va_up h.2.1 h.1 j, va_up h.2.2.1 h.1 (a2 != 0), h.2.2.2.1, h.2.2.2.2)) := by unfold xCell; rw [ed]; simp only [hn, if_false]
      have k' := k
      rw [hx] at k'
      refine k' _ ?_ rfl rfl rfl rfl (fun p p1 p2 p3 => ?_) (fun i hi => ?_)
      · have g := gHo_cell (j := j) hc hb
        rw [e]
        unfold cHo
        simp only [s1]
        have f1 : mup (mup (mup (mI u) 2 h.1 (nI j)) 3 h.1 (vp_nar .boolean a2)) 1 4 (mup (mup (mI u) 2 h.1 (nI j)) 3 h.1 (vp_nar .boolean a2) 1 4 + 1) 2 = (fun i => if i = h.1 then nI j else mI u 2 i) := by funext i; simp [mup_at]
        have f2 : mup (mup (mup (mI u) 2 h.1 (nI j)) 3 h.1 (vp_nar .boolean a2)) 1 4 (mup (mup (mI u) 2 h.1 (nI j)) 3 h.1 (vp_nar .boolean a2) 1 4 + 1) 3 = (fun i => if i = h.1 then vp_nar .boolean a2 else mI u 3 i) := by funext i; simp [mup_at]
        have f3 : mup (mup (mup (mI u) 2 h.1 (nI j)) 3 h.1 (vp_nar .boolean a2)) 1 4 (mup (mup (mI u) 2 h.1 (nI j)) 3 h.1 (vp_nar .boolean a2) 1 4 + 1) 4 = mI u 4 := by funext i; simp [mup_at]
        have f4 : mup (mup (mup (mI u) 2 h.1 (nI j)) 3 h.1 (vp_nar .boolean a2)) 1 4 (mup (mup (mI u) 2 h.1 (nI j)) 3 h.1 (vp_nar .boolean a2) 1 4 + 1) 5 = mI u 5 := by funext i; simp [mup_at]
        rw [f1, f2, f3, f4]
        simpa [mup_at] using g
      · simp only [s1]; rw [mup_ne _ p1, mup_ne _ p3, mup_ne _ p2]
      · simp only [s1]; simp [mup_at, hi]
    · have hx : xCell h a1 a2 = (-2, h) := by unfold xCell; rw [ed]; simp only [show h.1 = 10 by have := ho.1; omega, if_true]
      have k' := k
      rw [hx] at k'
      exact k' u hc rfl rfl rfl rfl (fun _ _ _ _ => rfl) (fun _ _ => rfl)
  · refine ⟨fun _ => ?_, fun q => absurd rfl q⟩
    have ed : dec a1 4 = none := by
      rcases dec_cases a1 (n := 4) (by decide) with ⟨j', hj', e', d⟩ | ⟨-, d⟩
      · exact absurd e' (e j' hj')
      · exact d
    have hx : xCell h a1 a2 = (-1, h) := by unfold xCell; rw [ed]
    have k' := k
    rw [hx] at k'
    exact k' u hc rfl rfl rfl rfl (fun _ _ _ _ => rfl) (fun _ _ => rfl)
