theorem mup_row {α : Type} (f : Nat → Nat → α) (p i : Nat) (v : α) (q : Nat) : mup f p i v q = if q = p then (fun j => if j = i then v else f p j) else f q := by
  by_cases h : q = p
  · rw [if_pos h, h, mup_self]
  · rw [if_neg h, mup_ne _ h]
theorem dec_some {a : Int32} {n j : Nat} (hn : n < 2 ^ 31) (hj : j < n) (e : a = nI j) : dec a n = some j := by
  rcases dec_cases a hn with ⟨j', hj', e', d⟩ | ⟨e', -⟩
  · rw [d]; rw [e] at e'; rw [(nI_eq (by omega) (by omega)).mp e']
  · exact absurd e (e' j hj)
theorem dec_none {a : Int32} {n : Nat} (hn : n < 2 ^ 31) (e : ∀ j, j < n → a ≠ nI j) : dec a n = none := by
  rcases dec_cases a hn with ⟨j', hj', e', d⟩ | ⟨-, d⟩
  · exact absurd e' (e j' hj')
  · exact d
theorem M_cell {h : aHo} {u : mSt} {a1 a2 : Int32} {K : Int32 → mSt → Prop} (hr : rRf u) (ho : oHo h) (hc : rHo h u) (hb : a2 = 0 ∨ a2 = 1) (k : ∀ v, rHo (xCell h a1 a2).2 v → mR v = mR u → mL v = mL u → mN v = mN u → mT v = mT u → (∀ p, p ≠ 42 → p ≠ 43 → p ≠ 44 → mI v p = mI u p) → (∀ i, i ≠ 0 → i ≠ 1 → mI v 42 i = mI u 42 i) → K (xCell h a1 a2).1 v) : bX9_cell 42 a1 a2 u K := by
  have r1 := hr.get 42 2 43 (by decide)
  have r2 := hr.get 42 3 44 (by decide)
  have e1 : mI (mpI u 42 0 0) 42 1 = mI u 42 1 := by simp [s1, mup_at]
  unfold bX9_cell
  rintro _ rfl
  refine s_isInN (lo := 0) (hi := 3) (by decide) (by decide) (by decide) (by decide) _ _ (fun j _ hj e => ?_) (fun e => ?_)
  · refine ⟨fun q => absurd q (by decide), fun _ => ?_⟩
    have ed : dec a1 4 = some j := dec_some (by decide) (by omega) e
    have hlt : mI u 42 1 = 10 ↔ h.1 = 10 := by rw [hc.1]; exact nI_eq (by have := ho.1; omega) (by decide)
    rw [e1, hlt]
    refine ⟨fun q => ?_, fun q => ?_⟩
    · have hx : xCell h a1 a2 = (-2, h) := by unfold xCell; rw [ed]; simp only [q, if_true]
      have k' := k
      rw [hx] at k'
      refine k' _ ?_ rfl rfl rfl rfl (fun p p1 _ _ => mup_ne _ p1) (fun i hi _ => by simp [s1, mup_at, hi])
      simpa [rHo, s1, mup_row] using hc
    · have hq : h.1 < 10 := by have := ho.1; omega
      have hcl : (nI h.1).toNatClampNeg = h.1 := nI_clamp (by omega)
      have e2 : mI u 42 1 = nI h.1 := hc.1
      refine ⟨43, r1, by rw [e2]; exact vp_in_nI hq (by decide), ?_⟩
      rintro _ rfl
      refine ⟨44, r2, by simp only [s1, mup_at]; simp [e2]; exact vp_in_nI hq (by decide), ?_⟩
      rintro _ rfl _ rfl
      have hx : xCell h a1 a2 = (nI h.1, (h.1 + 1, va_up h.2.1 h.1 j, va_up h.2.2.1 h.1 (a2 != 0), h.2.2.2.1, h.2.2.2.2)) := by unfold xCell; rw [ed]; simp only [q, if_false]
      have k' := k
      rw [hx] at k'
      have g := gHo_cell (j := j) hc hb
      have hv : mI (mpI (mpI (mpI (mpI u 42 0 0) 43 (mI u 42 1).toNatClampNeg a1) 44 (mI (mpI (mpI u 42 0 0) 43 (mI u 42 1).toNatClampNeg a1) 42 1).toNatClampNeg (vp_nar .boolean a2)) 42 1 (mI (mpI (mpI (mpI u 42 0 0) 43 (mI u 42 1).toNatClampNeg a1) 44 (mI (mpI (mpI u 42 0 0) 43 (mI u 42 1).toNatClampNeg a1) 42 1).toNatClampNeg (vp_nar .boolean a2)) 42 1 + 1)) 42 1 - 1 = nI h.1 := by
        simp [s1, mup_at, e2]
      rw [hv]
      refine k' _ ?_ rfl rfl rfl rfl (fun p p1 p2 p3 => ?_) (fun i h0 h1 => ?_)
      · rw [e]
        simp only [rHo, s1, mup_row]
        simp [e2, hcl] at g ⊢
        exact g
      · simp only [s1]; rw [mup_ne _ p1, mup_ne _ p3, mup_ne _ p2, mup_ne _ p1]
      · simp [s1, mup_at, h0, h1]
  · refine ⟨fun _ => ?_, fun q => absurd rfl q⟩
    have ed : dec a1 4 = none := dec_none (by decide) (fun j hj => e j (Nat.zero_le _) (by omega))
    have hx : xCell h a1 a2 = (-1, h) := by unfold xCell; rw [ed]
    have k' := k
    rw [hx] at k'
    refine k' _ ?_ rfl rfl rfl rfl (fun p p1 _ _ => mup_ne _ p1) (fun i hi _ => by simp [s1, mup_at, hi])
    simpa [rHo, s1, mup_row] using hc
