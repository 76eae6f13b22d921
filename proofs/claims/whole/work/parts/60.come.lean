/-! WHERE THE WALKER WAS on a sheet -/
def stp (s : aSh) (p : Nat) (e : aEv) : Nat := if e.1 = 5 then p else match s.2.2.2.2 (5 * p + e.1) with
  | 0 => p
  | 1 => p
  | q + 2 => q
def xPl (s : aSh) (evs : List aEv) (i : Nat) : Nat := (evs.take i).foldl (stp s) 0
def oHi (s : aSh) (evs : List aEv) : Prop := (∀ i e, evs[i]? = some e → xPl s evs i < s.1 ∧ (e.1 ≠ 5 → s.2.2.2.2 (5 * xPl s evs i + e.1) ≠ 0)) ∧ xPl s evs evs.length = s.2.1
theorem xPl_0 (s : aSh) (evs : List aEv) : xPl s evs 0 = 0 := by simp [xPl]
theorem xPl_s {s : aSh} {evs : List aEv} {i : Nat} {e : aEv} (he : evs[i]? = some e) : xPl s evs (i + 1) = stp s (xPl s evs i) e := by
  unfold xPl
  rw [List.take_succ, he, Option.toList_some, List.foldl_append]; rfl
theorem xPl_app {s : aSh} {evs : List aEv} {e : aEv} {i : Nat} (hi : i ≤ evs.length) : xPl s (evs ++ [e]) i = xPl s evs i := by
  unfold xPl
  rw [List.take_append_of_le_length hi]
theorem xPl_lt {s : aSh} {evs : List aEv} (hs : oSh 6 s) (h : oHi s evs) {i : Nat} (hi : i ≤ evs.length) : xPl s evs i < s.1 := by
  by_cases z : i = evs.length
  · rw [z, h.2]; exact hs.1.2.2.1
  · have hl : i < evs.length := by omega
    exact (h.1 i _ (List.getElem?_eq_getElem hl)).1
theorem xPl_same {s s' : aSh} {evs : List aEv} (hev : ∀ e ∈ evs, e.1 < 6) (h : oHi s evs) (hl : ∀ p a, p < s.1 → a < 5 → s.2.2.2.2 (5 * p + a) ≠ 0 → s'.2.2.2.2 (5 * p + a) = s.2.2.2.2 (5 * p + a)) : ∀ i, i ≤ evs.length → xPl s' evs i = xPl s evs i
  | 0, _ => by rw [xPl_0, xPl_0]
  | i + 1, hi => by
    have hlt : i < evs.length := by omega
    have he := List.getElem?_eq_getElem hlt
    rw [xPl_s he, xPl_s he, xPl_same hev h hl i (by omega)]
    obtain ⟨h1, h2⟩ := h.1 i _ he
    have h6 := hev _ (List.getElem_mem hlt)
    unfold stp
    by_cases z : (evs[i]).1 = 5
    · rw [if_pos z, if_pos z]
    · rw [if_neg z, if_neg z, hl _ _ h1 (by omega) (h2 z)]
theorem oHi_put {s : aSh} {evs : List aEv} {a l sg : Nat} {e : aEv} (hev : ∀ e ∈ evs, e.1 < 6) (hs : oSh 6 s) (h : oHi s evs) (ha : a < 5) (he : e.1 = a) (hl0 : l ≠ 0) (hl : s.2.2.2.2 (5 * s.2.1 + a) = 0 ∨ s.2.2.2.2 (5 * s.2.1 + a) = l) : oHi (shPut s a l sg) (evs ++ [e]) ∧ (∀ i, i ≤ evs.length → xPl (shPut s a l sg) (evs ++ [e]) i = xPl s evs i) ∧ xPl (shPut s a l sg) (evs ++ [e]) (evs.length + 1) = (shPut s a l sg).2.1 := by
  have hw := hs.1.2.2.1
  have hld : ∀ p a', p < s.1 → a' < 5 → s.2.2.2.2 (5 * p + a') ≠ 0 → (shPut s a l sg).2.2.2.2 (5 * p + a') = s.2.2.2.2 (5 * p + a') := fun p a' hp ha' hn => by
    simp only [shPut]
    by_cases z : 5 * p + a' = 5 * s.2.1 + a
    · rw [if_pos z, z]
      rw [z] at hn
      rcases hl with q | q
      · exact absurd q hn
      · exact q.symm
    · rw [if_neg z, if_pos (by omega)]
  have hsame : ∀ i, i ≤ evs.length → xPl (shPut s a l sg) (evs ++ [e]) i = xPl s evs i := fun i hi => by
    rw [xPl_app hi]
    exact xPl_same hev h hld i hi
  have hg : (evs ++ [e])[evs.length]? = some e := by simp
  have h1 : s.1 ≤ (shPut s a l sg).1 := by simp only [shPut]; split <;> omega
  have hlast : xPl (shPut s a l sg) (evs ++ [e]) (evs.length + 1) = (shPut s a l sg).2.1 := by
    rw [xPl_s hg, hsame _ (Nat.le_refl _), h.2]
    unfold stp
    rw [if_neg (by omega), he]
    have : (shPut s a l sg).2.2.2.2 (5 * s.2.1 + a) = l := by simp only [shPut]; rw [if_pos trivial]
    rw [this]
    simp only [shPut]
    match l, hl0 with
    | 1, _ => rfl
    | n + 2, _ => rw [if_neg (by omega)]; simp
  refine ⟨⟨fun i e' he' => ?_, by rw [List.length_append]; exact hlast⟩, hsame, hlast⟩
  by_cases z : i = evs.length
  · subst z
    rw [hg] at he'
    cases he'
    rw [hsame _ (Nat.le_refl _), h.2]
    refine ⟨by omega, fun _ => ?_⟩
    rw [he]
    simp only [shPut]
    rw [if_pos trivial]; exact hl0
  · have hlt : i < evs.length := by
      have := (List.getElem?_eq_some_iff.mp he').1
      rw [List.length_append] at this
      simp at this; omega
    rw [List.getElem?_append_left hlt] at he'
    obtain ⟨q1, q2⟩ := h.1 i e' he'
    have h6 := hev _ (List.mem_of_getElem? he')
    rw [hsame i (by omega)]
    refine ⟨by omega, fun z5 => ?_⟩
    rw [hld _ _ q1 (by omega) (q2 z5)]; exact q2 z5
theorem oHi_peb {s : aSh} {evs : List aEv} {e : aEv} (h : oHi s evs) (hs : oSh 6 s) (he : e.1 = 5) : oHi (shPeb s) (evs ++ [e]) ∧ (∀ i, i ≤ evs.length → xPl (shPeb s) (evs ++ [e]) i = xPl s evs i) ∧ xPl (shPeb s) (evs ++ [e]) (evs.length + 1) = s.2.1 := by
  have hsame : ∀ i, i ≤ evs.length → xPl (shPeb s) (evs ++ [e]) i = xPl s evs i := fun i hi => by
    rw [xPl_app hi]; rfl
  have hg : (evs ++ [e])[evs.length]? = some e := by simp
  have hlast : xPl (shPeb s) (evs ++ [e]) (evs.length + 1) = s.2.1 := by
    rw [xPl_s hg, hsame _ (Nat.le_refl _), h.2]
    unfold stp
    rw [if_pos he]
  refine ⟨⟨fun i e' he' => ?_, by rw [List.length_append]; exact hlast⟩, hsame, hlast⟩
  by_cases z : i = evs.length
  · subst z
    rw [hg] at he'
    cases he'
    rw [hsame _ (Nat.le_refl _), h.2]
    exact ⟨hs.1.2.2.1, fun z5 => absurd he z5⟩
  · have hlt : i < evs.length := by
      have := (List.getElem?_eq_some_iff.mp he').1
      rw [List.length_append] at this
      simp at this; omega
    rw [List.getElem?_append_left hlt] at he'
    rw [hsame i (by omega)]
    exact h.1 i e' he'
/-! THE REFERENCE'S come -/
theorem nar_b : ∀ p, p < 8 → vp_nar .byte (nI p) = nI p := by decide
theorem nar_c : ∀ p, p < 8 → vp_nar .byte (nI p).toInt8.toInt32 = nI p := by decide
theorem k30n (n x : Nat) : 30 * nI n + nI x = nI (30 * n + x) := by rw [k30, pk_mul, nI_add]
theorem k6n (n x : Nat) : 6 * nI n + nI x = nI (6 * n + x) := by rw [k6, pk_mul, nI_add]
theorem k201n (n x : Nat) : 201 * nI n + nI x = nI (201 * n + x) := by rw [show (201 : Int32) = nI 201 by decide, pk_mul, nI_add]
theorem k305 (n p a : Nat) : 30 * nI n + 5 * nI p + nI a = nI (30 * n + (5 * p + a)) := by rw [k30, k5, pk_mul, pk_mul, nI_add, nI_add, Nat.add_assoc]
def p62 (n : Nat) : Nat → Nat → Bool := fun p i => (p == 62 && decide (201 * n ≤ i) && decide (i < 201 * n + 201)) || (p == 42 && i == 27)
def p589 (n : Nat) : Nat → Nat → Bool := fun p i => (p == 58 && decide (6 * n ≤ i) && decide (i < 6 * n + 6)) || (p == 59 && decide (30 * n ≤ i) && decide (i < 30 * n + 30))
theorem p62_in {n i : Nat} (h : i < 201) : p62 n 62 (201 * n + i) = true := by simp [p62]; omega
theorem p58_in {n i : Nat} (h : i < 6) : p589 n 58 (6 * n + i) = true := by simp [p589]; omega
theorem p59_in {n i : Nat} (h : i < 30) : p589 n 59 (30 * n + i) = true := by simp [p589]; omega
theorem m_c144 {k pl n A : Nat} {z0 : mSt} {K : mSt → Prop} (hr : rRf z0) (hA : mI z0 42 12 = nI A) (hA2 : A ≤ 200) (hk : k < 150) (hn : n < 150) (hpl : pl < 8) (h27 : mI z0 42 27 = nI n) (hb : ∀ i, i < A → ∃ p, p < 8 ∧ mI z0 56 (201 * k + i) = nI p)
    (kk : ∀ v, fr (p62 n) z0 v → mI v 42 27 = nI (n + 1) → (∀ i, i < A → mI v 62 (201 * n + i) = mI z0 56 (201 * k + i)) → mI v 62 (201 * n + A) = nI pl → K v) : ∃ n9, bX9_come_144 n9 42 (nI k) (nI pl) (nI n) 0 z0 K := by
  have loop : ∀ m i z, i + m = A → fr (p62 n) z0 z → mI z 42 27 = nI n → (∀ x, x < i → mI z 62 (201 * n + x) = mI z0 56 (201 * k + x)) → bX9_come_144 (m + 1) 42 (nI k) (nI pl) (nI n) (nI i) z K := by
    intro m
    induction m with
    | zero =>
      intro i z hi f e27 hx
      have : i = A := by omega
      subst this
      unfold bX9_come_144
      rw [f.at (by rfl), hA]
      refine br_t (nI_le (by omega) (by omega)) ⟨62, (f.rR hr).get 42 33 62 (by decide), ?_⟩
      rw [k201n, nI_clamp (by omega), nar_c pl hpl]
      refine ⟨vp_in_nI (by omega) (by decide), ?_⟩
      rintro _ rfl
      rw [up_ne _ _ (by omega), e27, nI_1]
      rintro _ rfl
      refine kk _ ((f.wp _ (p62_in (by omega))).wp _ (by simp [p62])) (up_eq _ _ _ _) (fun x hx' => ?_) ?_
      · rw [up_ne _ _ (by omega), up_ne _ _ (by omega)]; exact hx x hx'
      · rw [up_ne _ _ (by omega), up_eq]
    | succ m ih =>
      intro i z hi f e27 hx
      unfold bX9_come_144
      rw [f.at (by rfl), hA]
      obtain ⟨p, hp, ep⟩ := hb i (by omega)
      refine br_f (nI_ge (by omega) (by omega)) ⟨62, (f.rR hr).get 42 33 62 (by decide), 56, (f.rR hr).get 42 26 56 (by decide), ?_⟩
      rw [k201n, k201n, nI_clamp (by omega), nI_clamp (by omega), f.at (p := 56) (by rfl), ep, nar_b p hp]
      refine ⟨vp_in_nI (by omega) (by decide), vp_in_nI (by omega) (by decide), ?_⟩
      rintro _ rfl _ rfl
      rw [nI_1]
      refine ih (i + 1) _ (by omega) (f.wp _ (p62_in (by omega))) (by rw [up_ne _ _ (by omega)]; exact e27) (fun x hx' => ?_)
      by_cases zz : x = i
      · rw [zz, up_eq, ep]
      · rw [up_ne _ _ (by omega)]; exact hx x (by omega)
  have := loop A 0 z0 (by omega) (fr.rf _ _) h27 (fun x hx => absurd hx (by omega))
  rw [nI_0] at this
  exact ⟨_, this⟩
theorem m_c55 {k pl n : Nat} {z0 : mSt} {K : mSt → Prop} (hr : rRf z0) (hk : k < 150) (hn : n < 150)
    (kk : ∀ v, fr (p589 n) z0 v → (∀ p, p < 6 → mI v 58 (6 * n + p) = mI z0 52 (6 * k + p)) → (∀ x, x < 30 → mI v 59 (30 * n + x) = mI z0 53 (30 * k + x)) → ∃ n9, bX9_come_144 n9 42 (nI k) (nI pl) (nI n) 0 v K) : ∃ n9, bX9_come_55 n9 42 (nI k) (nI pl) (nI n) 0 z0 K := by
  have inner : ∀ (KL : Nat → Int32 → Int32 → Int32 → Int32 → mSt → Prop) (p : Nat), p < 6 → (∀ z, fr (p589 n) z0 z → (∀ p', p' < p + 1 → mI z 58 (6 * n + p') = mI z0 52 (6 * k + p')) → (∀ x, x < 5 * (p + 1) → mI z 59 (30 * n + x) = mI z0 53 (30 * k + x)) → KL 42 (nI k) (nI pl) (nI n) (nI (p + 1)) z) → ∀ m a z, a + m = 5 → fr (p589 n) z0 z → (∀ p', p' < p + 1 → mI z 58 (6 * n + p') = mI z0 52 (6 * k + p')) → (∀ x, x < 5 * p + a → mI z 59 (30 * n + x) = mI z0 53 (30 * k + x)) → bX9_come_89 (m + 1) 42 (nI k) (nI pl) (nI n) (nI p) (nI a) z K KL := by
    intro KL p hp hKL m
    induction m with
    | zero =>
      intro a z ha f h1 h2
      unfold bX9_come_89
      refine br_t (by rw [k5]; exact nI_le (by omega) (by omega)) ?_
      rintro _ rfl
      rw [nI_1]
      exact hKL z f h1 (fun x hx => h2 x (by omega))
    | succ m ih =>
      intro a z ha f h1 h2
      unfold bX9_come_89
      refine br_f (by rw [k5]; exact nI_ge (by omega) (by omega)) ⟨59, (f.rR hr).get 42 30 59 (by decide), 53, (f.rR hr).get 42 23 53 (by decide), ?_⟩
      rw [k305, k305, nI_clamp (by omega), nI_clamp (by omega), f.at (p := 53) (by rfl)]
      refine ⟨vp_in_nI (by omega) (by decide), vp_in_nI (by omega) (by decide), ?_⟩
      rintro _ rfl _ rfl
      rw [nI_1]
      refine ih (a + 1) _ (by omega) (f.wp _ (p59_in (by omega))) (fun p' hp' => by rw [up_ne _ _ (by omega)]; exact h1 p' hp') (fun x hx => ?_)
      by_cases zz : x = 5 * p + a
      · rw [zz, up_eq]
      · rw [up_ne _ _ (by omega)]; exact h2 x (by omega)
  have outer : ∀ m p z, p + m = 6 → fr (p589 n) z0 z → (∀ p', p' < p → mI z 58 (6 * n + p') = mI z0 52 (6 * k + p')) → (∀ x, x < 5 * p → mI z 59 (30 * n + x) = mI z0 53 (30 * k + x)) → bX9_come_55 (m + 1) 42 (nI k) (nI pl) (nI n) (nI p) z K := by
    intro m
    induction m with
    | zero =>
      intro p z hp f h1 h2
      unfold bX9_come_55
      exact br_t (by rw [k6]; exact nI_le (by omega) (by omega)) (kk z f (fun p' hp' => h1 p' (by omega)) (fun x hx => h2 x (by omega)))
    | succ m ih =>
      intro p z hp f h1 h2
      unfold bX9_come_55
      refine br_f (by rw [k6]; exact nI_ge (by omega) (by omega)) ⟨58, (f.rR hr).get 42 29 58 (by decide), 52, (f.rR hr).get 42 22 52 (by decide), ?_⟩
      rw [k6n, k6n, nI_clamp (by omega), nI_clamp (by omega), f.at (p := 52) (by rfl)]
      refine ⟨vp_in_nI (by omega) (by decide), vp_in_nI (by omega) (by decide), ?_⟩
      rintro _ rfl
      refine ⟨6, ?_⟩
      rw [k0]
      refine inner _ p (by omega) (fun z' f' g1 g2 => ih (p + 1) z' (by omega) f' g1 g2) 5 0 _ (by omega) (f.wp _ (p58_in (by omega))) (fun p' hp' => ?_) (fun x hx => by rw [up_ne _ _ (by omega)]; exact h2 x (by omega))
      by_cases zz : p' = p
      · rw [zz, up_eq]
      · rw [up_ne _ _ (by omega)]; exact h1 p' (by omega)
  have := outer 6 0 z0 (by omega) (fr.rf _ _) (fun x hx => absurd hx (by omega)) (fun x hx => absurd hx (by omega))
  rw [nI_0] at this
  exact ⟨_, this⟩
/-- slot n of the coming sheets -/
def pC (n : Nat) : Nat → Nat → Bool := fun p i => ((p == 57 || p == 60 || p == 61) && i == n) || p62 n p i || p589 n p i
theorem m_come {k pl n A : Nat} {y : mSt} {K : mSt → Prop} (hr : rRf y) (hA : mI y 42 12 = nI A) (hA2 : A ≤ 200) (hk : k < 150) (hn : n < 150) (hpl : pl < 8) (h27 : mI y 42 27 = nI n) (hb : ∀ i, i < A → ∃ p, p < 8 ∧ mI y 56 (201 * k + i) = nI p)
    (kk : ∀ v, fr (pC n) y v → mI v 42 27 = nI (n + 1) → mI v 57 n = mI y 51 k → mI v 60 n = nI pl → mI v 61 n = mI y 55 k → (∀ p, p < 6 → mI v 58 (6 * n + p) = mI y 52 (6 * k + p)) → (∀ x, x < 30 → mI v 59 (30 * n + x) = mI y 53 (30 * k + x)) → (∀ i, i < A → mI v 62 (201 * n + i) = mI y 56 (201 * k + i)) → mI v 62 (201 * n + A) = nI pl → K v) : bX9_come 42 (nI k) (nI pl) y K := by
  unfold bX9_come
  rw [h27]
  refine pk_eq n 150 (fun z => by omega) (fun _ => ?_) rfl (by decide)
  rintro _ rfl
  rw [nI_clamp (by omega), nI_clamp (by omega)]
  have ik : vp_in (nI k) 150 := vp_in_nI hk (by decide)
  have jn : vp_in (nI n) 150 := vp_in_nI hn (by decide)
  refine ⟨57, hr.get 42 28 57 (by decide), 51, hr.get 42 21 51 (by decide), ik, jn, ?_⟩
  rintro _ rfl
  refine ⟨60, hr.get 42 31 60 (by decide), jn, ?_⟩
  rintro _ rfl
  refine ⟨61, hr.get 42 32 61 (by decide), 55, hr.get 42 25 55 (by decide), ik, jn, ?_⟩
  rintro _ rfl
  rw [up_ne _ _ (by omega), up_ne _ _ (by omega)]
  have q57 : ∀ i, i = n → pC n 57 i = true := fun i h => by simp [pC, h]
  have q60 : ∀ i, i = n → pC n 60 i = true := fun i h => by simp [pC, h]
  have q61 : ∀ i, i = n → pC n 61 i = true := fun i h => by simp [pC, h]
  have f1 : fr (pC n) y (mpI (mpI (mpI y 57 n (mI y 51 k)) 60 n (nI pl)) 61 n (mI y 55 k)) := (((fr.rf _ y).wp _ (q57 n rfl)).wp _ (q60 n rfl)).wp _ (q61 n rfl)
  have e57 : mI (mpI (mpI (mpI y 57 n (mI y 51 k)) 60 n (nI pl)) 61 n (mI y 55 k)) 57 n = mI y 51 k := by rw [up_ne _ _ (by omega), up_ne _ _ (by omega), up_eq]
  have e60 : mI (mpI (mpI (mpI y 57 n (mI y 51 k)) 60 n (nI pl)) 61 n (mI y 55 k)) 60 n = nI pl := by rw [up_ne _ _ (by omega), up_eq]
  have e61 : mI (mpI (mpI (mpI y 57 n (mI y 51 k)) 60 n (nI pl)) 61 n (mI y 55 k)) 61 n = mI y 55 k := up_eq _ _ _ _
  have eo : ∀ p i, p ≠ 57 → p ≠ 60 → p ≠ 61 → mI (mpI (mpI (mpI y 57 n (mI y 51 k)) 60 n (nI pl)) 61 n (mI y 55 k)) p i = mI y p i := fun p i h1 h2 h3 => by rw [up_ne _ _ (by omega), up_ne _ _ (by omega), up_ne _ _ (by omega)]
  generalize mpI (mpI (mpI y 57 n (mI y 51 k)) 60 n (nI pl)) 61 n (mI y 55 k) = z0 at *
  refine m_c55 (f1.rR hr) hk hn (fun v1 g1 g2 g3 => ?_)
  have u1 : fr (pC n) z0 v1 := g1.up (fun p i e => by simp only [pC, Bool.or_eq_false_iff] at e; exact e.2)
  refine m_c144 (u1.rR (f1.rR hr)) (A := A) ?_ hA2 hk hn hpl ?_ (fun i hi => ?_) (fun v2 g4 g5 g6 g7 => ?_)
  · rw [g1.at (by rfl), eo _ _ (by decide) (by decide) (by decide)]; exact hA
  · rw [g1.at (by rfl), eo _ _ (by decide) (by decide) (by decide)]; exact h27
  · obtain ⟨p, h1, h2⟩ := hb i hi
    exact ⟨p, h1, by rw [g1.at (by rfl), eo _ _ (by decide) (by decide) (by decide)]; exact h2⟩
  · have u2 : fr (pC n) v1 v2 := g4.up (fun p i e => by simp only [pC, Bool.or_eq_false_iff] at e; exact e.1.2)
    refine kk v2 ((f1.tr u1).tr u2) g5 ?_ ?_ ?_ (fun p hp => ?_) (fun x hx => ?_) (fun i hi => ?_) g7
    · rw [g4.at (by rfl), g1.at (by rfl), e57]
    · rw [g4.at (by rfl), g1.at (by rfl), e60]
    · rw [g4.at (by rfl), g1.at (by rfl), e61]
    · rw [g4.at (by rfl), g2 p hp, eo _ _ (by decide) (by decide) (by decide)]
    · rw [g4.at (by rfl), g3 x hx, eo _ _ (by decide) (by decide) (by decide)]
    · rw [g6 i hi, g1.at (by rfl), eo _ _ (by decide) (by decide) (by decide)]
