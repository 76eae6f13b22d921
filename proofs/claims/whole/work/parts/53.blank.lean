theorem t1 (u : mSt) (c z : Nat) : mI (mnw u c z) = mrow (mI u) (mN u) (fun _ => 0) := rfl
theorem t2 (u : mSt) (c z : Nat) : mR (mnw u c z) = mrow (mR u) (mN u) (fun _ => none) := rfl
theorem t3 (u : mSt) (c z : Nat) : mL (mnw u c z) = mrow (mL u) (mN u) (fun _ => 0) := rfl
theorem t4 (u : mSt) (c z : Nat) : mN (mnw u c z) = mN u + 1 := rfl
theorem t5 (u : mSt) (c z : Nat) : mT (mnw u c z) = mT u + z := rfl
theorem t6 (u : mSt) (p i : Nat) (v : Option Nat) : mN (mpR u p i v) = mN u := rfl
theorem t7 (u : mSt) (p i : Nat) (v : Option Nat) : mT (mpR u p i v) = mT u := rfl
/-- a new sheet's constructor: two rows; what lay below stays -/
theorem s_sheetInit {p : Nat} {u : mSt} {K : mSt → Prop} (hp : p + 1 = mN u) (hcap : mN u + 2 ≤ mCapC ∧ mT u + 36 ≤ mCapS)
    (k : ∀ y, mN y = mN u + 2 → mT y = mT u + 36 → (∀ q, q < p → mI y q = mI u q ∧ mL y q = mL u q ∧ mR y q = mR u q) → mR y p 0 = some (p + 1) → mR y p 1 = some (p + 2) → K y) : bX4_init p u K := by
  unfold bX4_init
  refine ⟨⟨by omega, by omega⟩, ?_⟩
  rintro p4 u2 e4 rfl u5 rfl
  refine ⟨⟨by rw [t6, t4]; omega, by rw [t7, t5]; omega⟩, ?_⟩
  rintro p9 u7 e9 rfl u10 rfl u11 rfl
  have h4 : p4 = p + 1 := by omega
  have h9 : p9 = p + 2 := by rw [t6, t4] at e9; omega
  subst h4
  subst h9
  refine ⟨p + 2, by simp [s2, s5, mup_at], ?_⟩
  unfold bJ7_fill_53178
  refine k _ rfl rfl (fun q hq => ⟨?_, ?_, ?_⟩) ?_ ?_
  · simp only [s10, s1, s4, t1, t6, t4]
    rw [mrow_ne _ (by omega), mup_ne _ (by omega), mrow_ne _ (by omega), mrow_ne _ (by omega)]
  · simp only [s12, s3, s6, t3, t6, t4]
    rw [mrow_ne _ (by omega), mrow_ne _ (by omega)]
  · simp only [s11, s2, s5, t2, t6, t4]
    rw [mup_ne _ (by omega), mrow_ne _ (by omega), mup_ne _ (by omega), mrow_ne _ (by omega)]
  · simp only [s11, s2, s5, t2, t6, t4, mup_at]
    rw [if_neg (by omega), mrow_ne _ (by omega)]
    simp [mup_at]
  · simp only [s11, s2, s5, t2, t6, t4, mup_at]
    simp
/-- how many sheets there are -/
def nMade (g : Nat → Nat → Option Nat) : Nat := cnt (fun k => (g 10 k).isSome) 151 + cnt (fun k => (g 11 k).isSome) 151
def upG (g : Nat → Nat → Option Nat) (i k q : Nat) : Nat → Nat → Option Nat := fun i' k' => if i' = i ∧ k' = k then some q else g i' k'
theorem cnt_congr {f f' : Nat → Bool} : ∀ n, (∀ x, x < n → f x = f' x) → cnt f n = cnt f' n
  | 0, _ => rfl
  | n + 1, h => by simp only [cnt]; rw [cnt_congr n (fun x hx => h x (by omega)), h n (by omega)]
theorem cnt_set {f f' : Nat → Bool} {j : Nat} (h1 : f j = false) (h2 : f' j = true) (h3 : ∀ x, x ≠ j → f' x = f x) : ∀ n, j < n → cnt f' n = cnt f n + 1
  | 0, h => absurd h (by omega)
  | n + 1, h => by
    simp only [cnt]
    by_cases q : n = j
    · subst q
      rw [cnt_congr n (fun x hx => h3 x (by omega)), h1, h2]; simp [b2n]
    · rw [cnt_set h1 h2 h3 n (by omega), h3 n q]; omega
theorem nMade_up {g : Nat → Nat → Option Nat} {i k q : Nat} (hi : i = 10 ∨ i = 11) (hk : k < 151) (hg : g i k = none) : nMade (upG g i k q) = nMade g + 1 := by
  unfold nMade
  rcases hi with rfl | rfl
  · have e1 : cnt (fun k' => (upG g 10 k q 10 k').isSome) 151 = cnt (fun k => (g 10 k).isSome) 151 + 1 := cnt_set (j := k) (by simp [hg]) (by simp [upG]) (fun x hx => by simp [upG, hx]) 151 hk
    have e2 : cnt (fun k' => (upG g 10 k q 11 k').isSome) 151 = cnt (fun k => (g 11 k).isSome) 151 := cnt_congr 151 (fun x _ => by simp [upG])
    rw [e1, e2]; omega
  · have e1 : cnt (fun k' => (upG g 11 k q 11 k').isSome) 151 = cnt (fun k => (g 11 k).isSome) 151 + 1 := cnt_set (j := k) (by simp [hg]) (by simp [upG]) (fun x hx => by simp [upG, hx]) 151 hk
    have e2 : cnt (fun k' => (upG g 11 k q 10 k').isSome) 151 = cnt (fun k => (g 10 k).isSome) 151 := cnt_congr 151 (fun x _ => by simp [upG])
    rw [e1, e2]; omega
theorem nMade_le (g : Nat → Nat → Option Nat) : nMade g ≤ 302 := by
  unfold nMade
  have := cnt_le (fun k => (g 10 k).isSome) 151
  have := cnt_le (fun k => (g 11 k).isSome) 151
  omega
/-- room for all sheets that can still be made: j cells and 6 j slots are junk -/
def okSz (g : Nat → Nat → Option Nat) (j : Nat) (u : mSt) : Prop := 77 ≤ mN u ∧ mN u ≤ 77 + 3 * nMade g + j ∧ mT u ≤ 200000 + 41 * nMade g + 6 * j
/-- a blank sheet: the one that is there, or a new one -/
theorem s_blank {pn ps i kk j : Nat} {g : Nat → Nat → Option Nat} {u : mSt} {K : Nat → mSt → Prop} (hp : cPile pn ps g u) (hi : i = 10 ∨ i = 11) (hk : kk < 151) (hsz : okSz g j u) (hj : j ≤ 600)
    (k : ∀ q y, cPile pn ps (upG g i kk q) y → okSz (upG g i kk q) j y → (∀ p, p < 77 ∨ (p < mN u) → mI y p = mI u p ∧ mL y p = mL u p) → (∀ p x, p < 77 → ¬ (p = i ∧ x = kk) → mR y p x = mR u p x) → (∀ p, 77 ≤ p → p < mN u → mR y p = mR u p) → mN u ≤ mN y → (g i kk = some q ∨ (g i kk = none ∧ q = mN u)) → K q y) : bX0_blank i (nI kk) u K := by
  have hin : vp_in (nI kk) 151 := vp_in_nI hk (by decide)
  have hcl : (nI kk).toNatClampNeg = kk := nI_clamp (by omega)
  unfold bX0_blank
  rw [hcl, hp.2.2.2.1 i kk hi hk]
  refine ⟨hin, fun hg => ?_, fun q hg => ⟨hin, q, hg, ?_⟩⟩
  · have hm := nMade_up (q := mN u) hi hk hg
    have hml := nMade_le (upG g i kk (mN u))
    obtain ⟨z1, z2, z3⟩ := hsz
    refine ⟨⟨by unfold mCapC; omega, by unfold mCapS; omega⟩, ?_⟩
    rintro p u3 rfl rfl
    refine s_sheetInit rfl ⟨by rw [t4]; unfold mCapC; omega, by rw [t5]; unfold mCapS; omega⟩ (fun y y1 y2 y3 y4 y5 => ⟨hin, ?_⟩)
    rintro _ rfl
    refine ⟨hin, mN u, by simp [s5, mup_at], ?_⟩
    rw [t4] at y1
    rw [t5] at y2
    have hI : ∀ p, p < mN u → mI y p = mI u p ∧ mL y p = mL u p ∧ mR y p = mR u p := fun p hp => by
      obtain ⟨a, b, c⟩ := y3 p hp
      rw [a, b, c, t1, t2, t3, mrow_ne _ (by omega), mrow_ne _ (by omega), mrow_ne _ (by omega)]
      exact ⟨rfl, rfl, rfl⟩
    have hRo : ∀ p x, p < mN u → ¬ (p = i ∧ x = kk) → mR (mpR y i kk (some (mN u))) p x = mR u p x := fun p x hp hne => by
      simp only [s5, mup_at]
      rw [if_neg hne, (hI p hp).2.2]
    refine k (mN u) _ ?_ ⟨by rw [t6]; omega, by rw [t6]; omega, by rw [t7]; omega⟩ (fun p hp => ⟨(hI p (by omega)).1, (hI p (by omega)).2.1⟩) (fun p x hp hne => hRo p x (by omega) hne) (fun p h1 h2 => ?_) (by rw [t6]; omega) (Or.inr ⟨hg, rfl⟩)
    · obtain ⟨c1, c2, c3, c4, c5, c6⟩ := hp
      have hlt : ∀ i' k' q', (i' = 10 ∨ i' = 11) → k' < 151 → upG g i kk (mN u) i' k' = some q' → (q' = mN u ∧ i' = i ∧ k' = kk) ∨ (g i' k' = some q' ∧ q' + 2 < mN u) := fun i' k' q' hi' hk' hq => by
        unfold upG at hq
        by_cases hc : i' = i ∧ k' = kk
        · rw [if_pos hc] at hq; cases hq; exact Or.inl ⟨rfl, hc.1, hc.2⟩
        · rw [if_neg hc] at hq; exact Or.inr ⟨hq, (c5 i' k' q' hi' hk' hq).2.1⟩
      refine ⟨c1, by rw [hRo 9 0 (by omega) (by omega)]; exact c2, by rw [hRo 9 1 (by omega) (by omega)]; exact c3, fun i' k' hi' hk' => ?_, fun i' k' q' hi' hk' hq => ?_, fun i1 k1 q1 i2 k2 q2 hi1 hi2 hk1 hk2 hq1 hq2 => ?_⟩
      · by_cases hc : i' = i ∧ k' = kk
        · simp [s5, mup_at, upG, hc]
        · rw [hRo i' k' (by omega) hc]
          unfold upG
          rw [if_neg hc]; exact c4 i' k' hi' hk'
      · rcases hlt i' k' q' hi' hk' hq with ⟨rfl, -, -⟩ | ⟨hq', h2⟩
        · refine ⟨z1, by rw [t6]; omega, ?_, ?_⟩
          · simp only [s5, mup_at]; rw [if_neg (by omega)]; exact y4
          · simp only [s5, mup_at]; rw [if_neg (by omega)]; exact y5
        · obtain ⟨d1, d2, d3, d4⟩ := c5 i' k' q' hi' hk' hq'
          exact ⟨d1, by rw [t6]; omega, by rw [hRo q' 0 (by omega) (by omega)]; exact d3, by rw [hRo q' 1 (by omega) (by omega)]; exact d4⟩
      · rcases hlt i1 k1 q1 hi1 hk1 hq1 with ⟨rfl, e1, e2⟩ | ⟨hq1', h1⟩ <;> rcases hlt i2 k2 q2 hi2 hk2 hq2 with ⟨rfl, e3, e4⟩ | ⟨hq2', h2⟩
        · exact Or.inl ⟨e1.trans e3.symm, e2.trans e4.symm⟩
        · exact Or.inr (Or.inr h2)
        · exact Or.inr (Or.inl h1)
        · exact c6 i1 k1 q1 i2 k2 q2 hi1 hi2 hk1 hk2 hq1' hq2'
    · funext x
      exact hRo p x h2 (by omega)
  · have hug : upG g i kk q = g := by
      funext i' k'
      unfold upG
      by_cases hc : i' = i ∧ k' = kk
      · rw [if_pos hc, hc.1, hc.2, hg]
      · rw [if_neg hc]
    have h0 := k q u
    rw [hug] at h0
    exact h0 hp hsz (fun p _ => ⟨rfl, rfl⟩) (fun p x _ _ => rfl) (fun p _ _ => rfl) (Nat.le_refl _) (Or.inl hg)
