set_option maxHeartbeats 1000000 in
theorem M_start {h : aHo} {u : mSt} {a : Int32} {K : Int32 → mSt → Prop} (hr : rRf u) (hh : oHo h) (hch : rHo h u)
    (k1a : xStart h a = none → K (-1) (mpI u 42 0 0)) (k2 : ∀ m, xStart h a = some m → h.1 = 0 → K (-2) (mpI u 42 0 0))
    (k : ∀ m y, xStart h a = some m → 0 < m → m ≤ 6 → 0 < h.1 → rWk h wk0 y → rAt (at0 h m) y → mI y 56 0 = 0 → fM u y → (∀ p, p ≠ 42 → p ≠ 51 → p ≠ 52 → p ≠ 53 → p ≠ 54 → p ≠ 55 → p ≠ 56 → mI y p = mI u p) → (∀ i, i ≠ 0 → (i < 6 ∨ 20 < i) → mI y 42 i = mI u 42 i) → K 0 y) : bX9_start 42 a u K := by
  have h10 := hh.1
  have f0 : fM u (mpI u 42 0 0) := fM.pI u (by decide)
  have i0 : ∀ n, 0 < n → n < 2 ^ 31 → vp_in (0 : Int32) n := fun n h1 h2 => by rw [k0]; exact vp_in_nI h1 h2
  have c0 : (0 : Int32).toNatClampNeg = 0 := by decide
  have P42 : 42 ≤ 42 ∧ 42 < 76 := by decide
  unfold bX9_start
  rintro _ rfl
  refine s_isInN (lo := 1) (hi := 6) (by decide) (by decide) (by decide) (by decide) _ _ (fun m m1 m6 e => br_f (by decide) ?_) (fun e => br_t rfl (k1a (xStart_none (fun m h1 h6 => e m h1 h6))))
  have hx : xStart h a = some m := xStart_some (by omega) m6 e
  have hz : mI u 42 1 = 0 ↔ h.1 = 0 := by rw [hch.1, k0]; exact nI_eq (by omega) (by decide)
  rw [th_at u (by decide), hz]
  refine br_c (fun z => k2 m hx z) (fun z => ?_)
  rintro _ rfl _ rfl _ rfl _ rfl _ rfl _ rfl _ rfl
  refine ⟨43, by simp only [s2]; exact hr.get 42 2 43 (by decide), i0 _ (by decide) (by decide), ?_⟩
  rintro _ rfl _ rfl _ rfl _ rfl
  refine ⟨51, by simp only [s2]; exact hr.get 42 21 51 (by decide), i0 _ (by decide) (by decide), ?_⟩
  rintro _ rfl
  refine ⟨52, by simp only [s2]; exact hr.get 42 22 52 (by decide), 43, by simp only [s2]; exact hr.get 42 2 43 (by decide), i0 _ (by decide) (by decide), i0 _ (by decide) (by decide), ?_⟩
  rintro _ rfl
  rw [c0]
  have hs0 : mI u 43 0 = nI (h.2.1 0) := (hch.2.1 0 (by omega)).1
  generalize hW : mpI (mpI (mpI (mpI (mpI (mpI (mpI (mpI (mpI (mpI (mpI (mpI (mpI (mpI u 42 0 0) 42 6 1) 42 7 0) 42 8 0) 42 9 0) 42 10 (-2)) 42 11 0) 42 12 0) 42 17 (mI (mpI (mpI (mpI (mpI (mpI (mpI (mpI (mpI u 42 0 0) 42 6 1) 42 7 0) 42 8 0) 42 9 0) 42 10 (-2)) 42 11 0) 42 12 0) 43 0)) 42 18 a) 42 19 1) 42 20 0) 51 0 1) 52 0 (mI (mpI (mpI (mpI (mpI (mpI (mpI (mpI (mpI (mpI (mpI (mpI (mpI (mpI u 42 0 0) 42 6 1) 42 7 0) 42 8 0) 42 9 0) 42 10 (-2)) 42 11 0) 42 12 0) 42 17 (mI (mpI (mpI (mpI (mpI (mpI (mpI (mpI (mpI u 42 0 0) 42 6 1) 42 7 0) 42 8 0) 42 9 0) 42 10 (-2)) 42 11 0) 42 12 0) 43 0)) 42 18 a) 42 19 1) 42 20 0) 51 0 1) 43 0) = W
  have wf : fM u W := by
    rw [← hW]
    exact ((((((((((((f0.tr (fM.pI _ P42)).tr (fM.pI _ P42)).tr (fM.pI _ P42)).tr (fM.pI _ P42)).tr (fM.pI _ P42)).tr (fM.pI _ P42)).tr (fM.pI _ P42)).tr (fM.pI _ P42)).tr (fM.pI _ P42)).tr (fM.pI _ P42)).tr (fM.pI _ P42)).tr (fM.pI _ (by decide))).tr (fM.pI _ (by decide))
  have w42 : mI W 42 6 = 1 ∧ mI W 42 7 = 0 ∧ mI W 42 8 = 0 ∧ mI W 42 9 = 0 ∧ mI W 42 10 = -2 ∧ mI W 42 11 = 0 ∧ mI W 42 12 = 0 ∧ mI W 42 17 = nI (h.2.1 0) ∧ mI W 42 18 = a ∧ mI W 42 19 = 1 ∧ mI W 42 20 = 0 ∧ mI W 51 0 = 1 ∧ mI W 52 0 = nI (h.2.1 0) := by
    rw [← hW]; simp [s1, mup_at, hs0]
  have wo : ∀ p, p ≠ 42 → p ≠ 51 → p ≠ 52 → mI W p = mI u p := fun p p1 p2 p3 => by
    rw [← hW]; simp only [s1]
    rw [mup_ne _ p3, mup_ne _ p2, mup_ne _ p1, mup_ne _ p1, mup_ne _ p1, mup_ne _ p1, mup_ne _ p1, mup_ne _ p1, mup_ne _ p1, mup_ne _ p1, mup_ne _ p1, mup_ne _ p1, mup_ne _ p1, mup_ne _ p1]
  have wi : ∀ i, i ≠ 0 → (i < 6 ∨ 20 < i) → mI W 42 i = mI u 42 i := fun i h0 h6 => by
    rw [← hW]
    simp only [s1, mup_at]
    simp [show ¬ i = 6 by omega, show ¬ i = 7 by omega, show ¬ i = 8 by omega, show ¬ i = 9 by omega, show ¬ i = 10 by omega, show ¬ i = 11 by omega, show ¬ i = 12 by omega, show ¬ i = 17 by omega, show ¬ i = 18 by omega, show ¬ i = 19 by omega, show ¬ i = 20 by omega, h0]
  have loop : ∀ n x y, x + n = 5 → fM u y → (∀ p, p ≠ 53 → mI y p = mI W p) → (∀ i, i < x → mI y 53 i = -3) → bX9_start_111 (n + 1) 42 (nI x) y K := by
    intro n
    induction n with
    | zero =>
      intro x y hn y1 y2 y3
      unfold bX9_start_111
      refine br_t (by rw [k5]; exact nI_le (by omega) (by omega)) ⟨54, by rw [y1.2.1]; exact hr.get 42 24 54 (by decide), i0 _ (by decide) (by decide), ?_⟩
      rw [c0]
      rintro _ rfl
      refine ⟨55, by show mR y 42 25 = _; rw [y1.2.1]; exact hr.get 42 25 55 (by decide), i0 _ (by decide) (by decide), ?_⟩
      rintro _ rfl
      refine ⟨56, by show mR y 42 26 = _; rw [y1.2.1]; exact hr.get 42 26 56 (by decide), i0 _ (by decide) (by decide), ?_⟩
      rintro _ rfl
      obtain ⟨g6, g7, g8, g9, g10, g11, g12, g17, g18, g19, g20, g51, g52⟩ := w42
      have hI : ∀ p, p ≠ 53 → p ≠ 54 → p ≠ 55 → p ≠ 56 → mI (mpI (mpI (mpI y 54 0 0) 55 0 (-2)) 56 0 (vp_nar .byte 0)) p = mI W p := fun p p3 p4 p5 p6 => by
        simp only [s1]; rw [mup_ne _ p6, mup_ne _ p5, mup_ne _ p4]; exact y2 p p3
      refine k m _ hx (by omega) m6 (by omega) ⟨?_, ?_, fun _ => ⟨?_, ?_, ?_, ?_, ?_, ?_⟩, fun i e he => ?_⟩ ⟨?_, ?_, ?_, fun i s hi => ?_⟩ ?_ (((y1.tr (fM.pI _ (by decide))).tr (fM.pI _ (by decide))).tr (fM.pI _ (by decide))) (fun p p1 p2 p3 p4 p5 p6 p7 => ?_) (fun i h0 h6 => ?_)
      · rw [hI 42 (by decide) (by decide) (by decide) (by decide), g6]; rfl
      · rw [hI 42 (by decide) (by decide) (by decide) (by decide), g12]; rfl
      · rw [hI 42 (by decide) (by decide) (by decide) (by decide), g7]; rfl
      · rw [hI 42 (by decide) (by decide) (by decide) (by decide), g8]; rfl
      · rw [hI 42 (by decide) (by decide) (by decide) (by decide), g9]; rfl
      · rw [hI 42 (by decide) (by decide) (by decide) (by decide), g10]; rfl
      · rw [hI 42 (by decide) (by decide) (by decide) (by decide), g11]; rfl
      · rw [hI 42 (by decide) (by decide) (by decide) (by decide), g17]
      · simp [wk0] at he
      · rw [hI 42 (by decide) (by decide) (by decide) (by decide), g18, e]; rfl
      · rw [hI 42 (by decide) (by decide) (by decide) (by decide), g19]; simp [at0]; decide
      · rw [hI 42 (by decide) (by decide) (by decide) (by decide), g20]; rfl
      · have h1 : i < 1 := (List.getElem?_eq_some_iff.mp hi).1
        have : i = 0 := by omega
        subst this
        cases hi
        refine ⟨?_, ?_, ?_, fun p hp => ?_, fun x hx => ?_⟩
        · rw [hI 51 (by decide) (by decide) (by decide) (by decide), g51]; exact k1
        · simp [s1, mup_at, nI_0]
        · simp [s1, mup_at, pbI]
        · replace hp : p < 1 := hp
          rw [show 6 * 0 + p = 0 by omega, hI 52 (by decide) (by decide) (by decide) (by decide), g52]
        · replace hx : x < 5 * 1 := hx
          rw [show 30 * 0 + x = x by omega]
          simp only [s1]
          rw [mup_ne _ (by decide), mup_ne _ (by decide), mup_ne _ (by decide), y3 x (by omega)]
          rfl
      · simp only [s1, mup_at]; simp; decide
      · rw [hI p p4 p5 p6 p7, wo p p1 p2 p3]
      · rw [hI 42 (by decide) (by decide) (by decide) (by decide), wi i h0 h6]
    | succ n ih =>
      intro x y hn y1 y2 y3
      unfold bX9_start_111
      refine br_f (by rw [k5]; exact nI_ge (by omega) (by omega)) ⟨53, by rw [y1.2.1]; exact hr.get 42 23 53 (by decide), vp_in_nI (by omega) (by decide), ?_⟩
      rw [nI_clamp (by omega)]
      rintro _ rfl _ rfl
      rw [nI_1]
      refine ih (x + 1) _ (by omega) (y1.tr (fM.pI _ (by decide))) (fun p hp => by rw [s1, mup_ne _ hp]; exact y2 p hp) (fun i hi => ?_)
      simp only [s1, mup_at]
      by_cases q : i = x
      · simp [q]
      · simp only [q, and_false, if_false]; exact y3 i (by omega)
  have h0 := loop 5 0 W (by omega) wf (fun _ _ => rfl) (fun i hi => absurd hi (by omega))
  exact ⟨6, by simpa [nI_0] using h0⟩
