/-! THE SHEETS BEHIND AN ACT -/
def fitP (s : aSh) (p sg : Nat) (pb : Bool) : Bool := decide (s.2.2.2.1 p = sg) && (decide (s.2.2.1 = some p) == pb)
def shPut (s : aSh) (a l sg : Nat) : aSh := (if l = s.1 + 2 then s.1 + 1 else s.1, if l < 2 then s.2.1 else l - 2, s.2.2.1, if l = s.1 + 2 then va_up s.2.2.2.1 s.1 sg else s.2.2.2.1, fun x => if x = 5 * s.2.1 + a then l else if x < 5 * s.1 then s.2.2.2.2 x else 0)
def shOut (m : Nat) (s : aSh) (a : Nat) (b : Bool) (sg : Nat) (pb : Bool) : List Nat :=
  if s.2.2.2.2 (5 * s.2.1 + a) = 0 then (if b = true then [1] else ((List.range s.1).filter (fun q => fitP s q sg pb)).map (fun q => q + 2) ++ (if s.1 < m ∧ pb = false then [s.1 + 2] else []))
  else if s.2.2.2.2 (5 * s.2.1 + a) = 1 then (if b = true ∧ fitP s s.2.1 sg pb = true then [1] else [])
  else (if b = false ∧ fitP s (s.2.2.2.2 (5 * s.2.1 + a) - 2) sg pb = true then [s.2.2.2.2 (5 * s.2.1 + a)] else [])
def shNew (m : Nat) (a : Nat) (b : Bool) (sg : Nat) (pb : Bool) (s : aSh) : List aSh := (shOut m s a b sg pb).map (fun l => shPut s a l sg)
theorem fr.rI {P : Nat → Nat → Bool} {u v : mSt} (f : fr P u v) {q : Nat} (g : Nat → Int32) (h : ∀ j, P q j = true) : fr P u (mrI v q g) := f.tr ⟨fun p i e => by
  rw [s10, mrow_ne]
  rintro rfl
  rw [h] at e
  exact absurd e (by decide), rfl, rfl, rfl, rfl⟩
theorem cOne.of {s : aSh} {q : Nat} {u v : mSt} (h : cOne s q u) (e0 : mI v q = mI u q) (e1 : mI v (q + 1) = mI u (q + 1)) (e2 : mI v (q + 2) = mI u (q + 2)) : cOne s q v := by
  unfold cOne at *
  rw [e0, e1, e2]; exact h
def pq (q : Nat) : Nat → Nat → Bool := fun p _ => p == q || p == q + 1 || p == q + 2
theorem pq_no {q p : Nat} (h : p < q ∨ q + 2 < p) (i : Nat) : pq q p i = false := by
  simp only [pq, Bool.or_eq_false_iff, beq_eq_false_iff_ne]; omega
theorem pq_0 (q i : Nat) : pq q q i = true := by simp [pq]
theorem pq_1 (q i : Nat) : pq q (q + 1) i = true := by simp [pq]
theorem pq_2 (q i : Nat) : pq q (q + 2) i = true := by simp [pq]
theorem s_become {s : aSh} {q q4 : Nat} {u : mSt} {K : mSt → Prop} (hs : s.1 ≤ 6) (hc : cOne s q u) (a0 : mR u q 0 = some (q + 1)) (a1 : mR u q 1 = some (q + 2)) (b0 : mR u q4 0 = some (q4 + 1)) (b1 : mR u q4 1 = some (q4 + 2)) (hd : q + 2 < q4 ∨ q4 + 2 < q) (k : ∀ y, fr (pq q4) u y → cOne s q4 y → K y) : bX4_become q4 q u K := by
  unfold bX4_become
  refine ⟨q + 1, a0, q4 + 1, b0, by decide, ?_⟩
  rintro _ rfl
  refine ⟨q + 2, a1, q4 + 2, b1, by decide, ?_⟩
  rintro _ rfl
  rw [show (0 : Int32).toNatClampNeg = 0 by decide, show (6 : Int32).toNatClampNeg = 6 by decide, show (30 : Int32).toNatClampNeg = 30 by decide]
  have f1 : fr (pq q4) u (mrI u (q4 + 1) (va_cpy (mI u (q + 1)) (mI u (q4 + 1)) 0 0 6)) := (fr.rf _ u).rI _ (pq_1 q4)
  have g1 : ∀ x, x < 6 → mI (mrI u (q4 + 1) (va_cpy (mI u (q + 1)) (mI u (q4 + 1)) 0 0 6)) (q4 + 1) x = mI u (q + 1) x := fun x hx => by
    rw [s10, mrow_self, pk_cpy_in (by omega) (by omega)]; simp
  generalize mrI u (q4 + 1) (va_cpy (mI u (q + 1)) (mI u (q4 + 1)) 0 0 6) = u1 at *
  have f2 : fr (pq q4) u (mrI u1 (q4 + 2) (va_cpy (mI u1 (q + 2)) (mI u1 (q4 + 2)) 0 0 30)) := f1.rI _ (pq_2 q4)
  have g2 : ∀ x, x < 30 → mI (mrI u1 (q4 + 2) (va_cpy (mI u1 (q + 2)) (mI u1 (q4 + 2)) 0 0 30)) (q4 + 2) x = mI u (q + 2) x := fun x hx => by
    rw [s10, mrow_self, pk_cpy_in (by omega) (by omega), f1.row (pq_no (by omega))]; simp
  have g1' : ∀ x, x < 6 → mI (mrI u1 (q4 + 2) (va_cpy (mI u1 (q + 2)) (mI u1 (q4 + 2)) 0 0 30)) (q4 + 1) x = mI u (q + 1) x := fun x hx => by
    rw [s10, mrow_ne _ (by omega)]; exact g1 x hx
  generalize mrI u1 (q4 + 2) (va_cpy (mI u1 (q + 2)) (mI u1 (q4 + 2)) 0 0 30) = u2 at *
  rintro _ rfl _ rfl _ rfl
  rw [f2.at (pq_no (by omega) 2), up_ne _ _ (by omega), f2.at (pq_no (by omega) 3), up_ne _ _ (by omega), up_ne _ _ (by omega), f2.at (pq_no (by omega) 4)]
  obtain ⟨c1, c2, c3, c4, c5, c6⟩ := hc
  refine k _ (((f2.wp _ (pq_0 _ _)).wp _ (pq_0 _ _)).wp _ (pq_0 _ _)) ⟨?_, ?_, ?_, fun p hp => ?_, fun x hx => ?_, fun x h1 h2 => ?_⟩
  · rw [up_ne _ _ (by omega), up_ne _ _ (by omega), up_eq, c1]
  · rw [up_ne _ _ (by omega), up_eq, c2]
  · rw [up_eq, c3]
  · rw [up_ne _ _ (by omega), up_ne _ _ (by omega), up_ne _ _ (by omega), g1' p (by omega)]; exact c4 p hp
  · rw [up_ne _ _ (by omega), up_ne _ _ (by omega), up_ne _ _ (by omega), g2 x (by omega)]; exact c5 x hx
  · rw [up_ne _ _ (by omega), up_ne _ _ (by omega), up_ne _ _ (by omega), g2 x h2]; exact c6 x h1 h2
theorem lI_neg {l : Nat} (h : l < 2 ^ 30) : 0 ≤ lI l ↔ 2 ≤ l := by
  match l, h with
  | 0, _ => simp [lI]
  | 1, _ => simp [lI]
  | q + 2, h => simp only [lI]; exact ⟨fun _ => by omega, fun _ => nI_pos' (by omega)⟩
theorem lI_eq {l n : Nat} (h : l < 2 ^ 30) (hn : n < 2 ^ 30) : lI l = nI n ↔ l = n + 2 := by
  match l, h with
  | 0, _ => simp only [lI]; exact ⟨fun e => absurd e.symm (nI_m3 (by omega)), fun e => by omega⟩
  | 1, _ => simp only [lI]; exact ⟨fun e => absurd e.symm (nI_m2 (by omega)), fun e => by omega⟩
  | q + 2, h => simp only [lI]; rw [nI_eq (by omega) (by omega)]; omega
theorem ix5c (p a : Nat) : nI p * 5 + nI a = nI (5 * p + a) := by rw [k5, pk_mul, nI_add, Nat.mul_comm]
/-- the rest of put behind become: the lead is set, a place is opened or not, the walker goes there -/
theorem s_putEnd {s : aSh} {q a l sg : Nat} {b pb : Bool} {y : mSt} {K : mSt → Prop} (hs : oSh 6 s) (hc : cOne s q y) (b0 : mR y q 0 = some (q + 1)) (b1 : mR y q 1 = some (q + 2)) (ha : a < 5) (hl : l < s.1 + 2 ∨ (l = s.1 + 2 ∧ s.1 < 6)) (hsg : sg < 4) (k : ∀ v, fr (pq q) y v → cOne (shPut s a l sg) q v → K v) :
    bX4_setLead q (mI y q 3) (nI a) (lI l) y (fun u_9 => ((lI l = (mI u_9 q 2) → bX8_signOf (nI (sgI b sg pb)) u_9 (fun r_12 u_11 => bX4_openPlace q r_12 u_11 (fun u_14 => bX0_put_71 (nI a) q u_14 K))) ∧ (¬ (lI l = (mI u_9 q 2)) → bX0_put_71 (nI a) q u_9 K))) := by
  obtain ⟨c1, c2, c3, c4, c5, c6⟩ := hc
  obtain ⟨⟨o1, o2, o3, o4⟩, o5, o6⟩ := hs
  have hx : 5 * s.2.1 + a < 30 := by omega
  unfold bX4_setLead
  rw [c2, ix5c, nI_clamp (by omega)]
  refine ⟨q + 2, b1, vp_in_nI hx (by decide), ?_⟩
  rintro _ rfl
  have f1 : fr (pq q) y (mpI y (q + 2) (5 * s.2.1 + a) (lI l)) := fr.pI _ y _ (pq_2 _ _)
  have d1 : mI (mpI y (q + 2) (5 * s.2.1 + a) (lI l)) q 2 = nI s.1 := by rw [up_ne _ _ (by omega)]; exact c1
  have d2 : mI (mpI y (q + 2) (5 * s.2.1 + a) (lI l)) q 3 = nI s.2.1 := by rw [up_ne _ _ (by omega)]; exact c2
  have d3 : mI (mpI y (q + 2) (5 * s.2.1 + a) (lI l)) q 4 = pbI s.2.2.1 := by rw [up_ne _ _ (by omega)]; exact c3
  have d4 : ∀ p, mI (mpI y (q + 2) (5 * s.2.1 + a) (lI l)) (q + 1) p = mI y (q + 1) p := fun p => up_ne _ _ (by omega)
  have d5 : ∀ x, mI (mpI y (q + 2) (5 * s.2.1 + a) (lI l)) (q + 2) x = if x = 5 * s.2.1 + a then lI l else mI y (q + 2) x := fun x => by simp [s1, mup_at]
  generalize mpI y (q + 2) (5 * s.2.1 + a) (lI l) = u1 at *
  have r0 : mR u1 q 0 = some (q + 1) := by rw [f1.2.1]; exact b0
  have r1 : mR u1 q 1 = some (q + 2) := by rw [f1.2.1]; exact b1
  rw [d1, lI_eq (by omega) (by omega)]
  have hd : ∀ x, (if x = 5 * s.2.1 + a then lI l else mI y (q + 2) x) = lI (if x = 5 * s.2.1 + a then l else if x < 5 * s.1 then s.2.2.2.2 x else 0) ∨ 30 ≤ x := fun x => by
    by_cases z1 : x = 5 * s.2.1 + a
    · simp only [z1, if_true, true_or]
    · simp only [z1, if_false]
      by_cases z2 : x < 5 * s.1
      · simp only [z2, if_true]; exact Or.inl (c5 x z2)
      · simp only [z2, if_false]
        by_cases z3 : x < 30
        · exact Or.inl (c6 x (by omega) z3)
        · exact Or.inr (by omega)
  have last : ∀ v, fr (pq q) y v → mR v q 1 = some (q + 2) → mI v q 2 = nI (shPut s a l sg).1 → mI v q 3 = nI s.2.1 → mI v q 4 = pbI s.2.2.1 → (∀ p, p < (shPut s a l sg).1 → mI v (q + 1) p = nI ((shPut s a l sg).2.2.2.1 p)) → (∀ x, mI v (q + 2) x = if x = 5 * s.2.1 + a then lI l else mI y (q + 2) x) → bX0_put_71 (nI a) q v K := by
    intro v f v1 e1 e2 e3 e4 e5
    have h6 : (shPut s a l sg).1 ≤ 6 := by simp only [shPut]; split <;> omega
    have fin : ∀ n : Nat, n = (shPut s a l sg).2.1 → K (mpI v q 3 (nI n)) := by
      intro n hn
      refine k _ (f.wp _ (pq_0 _ _)) ⟨?_, ?_, ?_, fun p hp => ?_, fun x hx => ?_, fun x g1 g2 => ?_⟩
      · rw [up_ne _ _ (by omega), e1]
      · rw [up_eq, hn]
      · rw [up_ne _ _ (by omega), e3]; rfl
      · rw [up_ne _ _ (by omega)]; exact e4 p hp
      · rw [up_ne _ _ (by omega), e5]
        rcases hd x with z | z
        · exact z
        · omega
      · rw [up_ne _ _ (by omega), e5]
        have g0 : 5 * s.1 ≤ x := by
          have : s.1 ≤ (shPut s a l sg).1 := by simp only [shPut]; split <;> omega
          omega
        rw [if_neg (by omega)]; exact c6 x g0 g2
    unfold bX0_put_71 bX4_placeAfter bX4_leadFrom
    rw [e2, ix5c, nI_clamp (by omega)]
    refine ⟨q + 2, v1, vp_in_nI hx (by decide), ?_⟩
    rw [e5, if_pos rfl]
    dsimp only
    rw [lI_neg (by omega)]
    refine br_c (fun z => ?_) (fun z => ?_)
    · rintro _ rfl
      obtain ⟨n, rfl⟩ : ∃ n, l = n + 2 := ⟨l - 2, by omega⟩
      exact fin n (by simp only [shPut]; rw [if_neg (by omega)]; omega)
    · rintro _ rfl
      exact fin _ (by simp only [shPut]; rw [if_pos (by omega)])
  refine br_c (fun z => ?_) (fun z => ?_)
  · refine s_signOf b pb hsg ?_
    unfold bX4_openPlace
    rw [d1, nI_clamp (by omega)]
    refine ⟨q + 1, r0, vp_in_nI (by omega) (by decide), ?_⟩
    rintro _ rfl
    rw [up_ne _ _ (by omega), d1, nI_1]
    rintro _ rfl
    refine last _ ((f1.wp _ (pq_1 _ _)).wp _ (pq_0 _ _)) r1 ?_ ?_ ?_ (fun p hp => ?_) (fun x => ?_)
    · rw [up_eq]; simp only [shPut]; rw [if_pos z]
    · rw [up_ne _ _ (by omega), up_ne _ _ (by omega), d2]
    · rw [up_ne _ _ (by omega), up_ne _ _ (by omega), d3]
    · rw [up_ne _ _ (by omega)]
      simp only [shPut] at hp ⊢
      rw [if_pos z] at hp ⊢
      unfold va_up
      by_cases z2 : p = s.1
      · rw [if_pos z2, z2, up_eq]
      · rw [if_neg z2, up_ne _ _ (by omega), d4]; exact c4 p (by omega)
    · rw [up_ne _ _ (by omega), up_ne _ _ (by omega)]; exact d5 x
  · refine last _ f1 r1 ?_ d2 d3 (fun p hp => ?_) d5
    · rw [d1]; simp only [shPut]; rw [if_neg z]
    · simp only [shPut] at hp ⊢
      rw [if_neg z] at hp ⊢
      rw [d4]; exact c4 p hp
/-- the run of an act over the sheets: T now, L the new ones, of which the first 151 are written -/
def cRun (u0 : mSt) (pn ps j : Nat) (T L : List aSh) (y : mSt) : Prop := ∃ g, cPile pn ps g y ∧ okSz g j y ∧ (∀ k s, T[k]? = some s → k < 151 → ∃ q, g pn k = some q ∧ cOne s q y) ∧ mI y 9 3 = nI (min 151 L.length) ∧ (∀ k s, k < 151 → L[k]? = some s → ∃ q, g ps k = some q ∧ cOne s q y) ∧ (∀ p, p < 77 → p ≠ 9 → mI y p = mI u0 p) ∧ (∀ i, i ≠ 3 → mI y 9 i = mI u0 9 i) ∧ (∀ p, p < 77 → mL y p = mL u0 p) ∧ (∀ p x, p < 77 → p ≠ ps → mR y p x = mR u0 p x)
theorem s_put {u0 : mSt} {pn ps j k q a l sg : Nat} {T L : List aSh} {s : aSh} {b pb : Bool} {y : mSt} {K : mSt → Prop} (hj : j ≤ 600) (hr : cRun u0 pn ps j T L y) (hT : T[k]? = some s) (hk : k < 151) (hq : mR u0 pn k = some q) (hs : oSh 6 s) (ha : a < 5) (hl : l < s.1 + 2 ∨ (l = s.1 + 2 ∧ s.1 < 6)) (hsg : sg < 4) (kk : ∀ v, cRun u0 pn ps j T (L ++ [shPut s a l sg]) v → K v) : bX0_put 9 q (nI a) (lI l) (nI (sgI b sg pb)) y K := by
  obtain ⟨g, hp, hz, hN, h3, hS, i1, i2, i3, i4⟩ := hr
  have hpn : pn = 10 ∨ pn = 11 := by rcases hp.1 with ⟨z, -⟩ | ⟨z, -⟩ <;> omega
  have hps : ps = 10 ∨ ps = 11 := by rcases hp.1 with ⟨-, z⟩ | ⟨-, z⟩ <;> omega
  have hne : pn ≠ ps := by rcases hp.1 with ⟨z1, z2⟩ | ⟨z1, z2⟩ <;> omega
  have hgq : g pn k = some q := by rw [← hp.2.2.2.1 pn k hpn hk, i4 pn k (by omega) hne]; exact hq
  unfold bX0_put
  rw [h3]
  refine pk_le (min 151 L.length) 150 (fun z => ?_) (fun z => ?_) rfl (by decide)
  · have hm : min 151 L.length = L.length := by omega
    rw [hm]
    refine ⟨ps, hp.2.2.1, s_blank hp hps (by omega) hz hj (fun q4 y3 b1 b2 b3 b4 b5 b6 b7 => ?_)⟩
    have hq9 : mI y3 9 3 = nI L.length := by rw [(b3 9 (Or.inl (by decide))).1, h3, hm]
    rintro _ rfl
    rw [hq9, nI_1]
    have hq4 : upG g ps L.length q4 ps L.length = some q4 := by simp [upG]
    have hgo : ∀ i' k', ¬ (i' = ps ∧ k' = L.length) → upG g ps L.length q4 i' k' = g i' k' := fun i' k' h => by unfold upG; rw [if_neg h]
    obtain ⟨e1, e2, e3, e4⟩ := b1.2.2.2.2.1 ps L.length q4 hps (by omega) hq4
    obtain ⟨e5, e6, e7, e8⟩ := b1.2.2.2.2.1 pn k q hpn hk (by rw [hgo _ _ (fun z => hne z.1)]; exact hgq)
    obtain ⟨o5, o6, -, -⟩ := hp.2.2.2.2.1 pn k q hpn hk hgq
    have far : ∀ i' k' q', (i' = 10 ∨ i' = 11) → k' < 151 → ¬ (i' = ps ∧ k' = L.length) → g i' k' = some q' → q' + 2 < q4 ∨ q4 + 2 < q' := fun i' k' q' h1 h2 h3 h4 => by
      rcases b1.2.2.2.2.2 i' k' q' ps L.length q4 h1 hps h2 (by omega) (by rw [hgo _ _ h3]; exact h4) hq4 with c | c | c
      · exact absurd c h3
      · exact Or.inl c
      · exact Or.inr c
    have hs9 : ∀ s' i' k' q', (i' = 10 ∨ i' = 11) → k' < 151 → g i' k' = some q' → cOne s' q' y → cOne s' q' (mpI y3 9 3 (nI (L.length + 1))) := fun s' i' k' q' h1 h2 h3 h4 => by
      obtain ⟨o7, o8, -, -⟩ := hp.2.2.2.2.1 i' k' q' h1 h2 h3
      refine h4.of ?_ ?_ ?_
      · rw [s1, mup_ne _ (by omega)]; exact (b3 q' (Or.inr (by omega))).1
      · rw [s1, mup_ne _ (by omega)]; exact (b3 (q' + 1) (Or.inr (by omega))).1
      · rw [s1, mup_ne _ (by omega)]; exact (b3 (q' + 2) (Or.inr (by omega))).1
    obtain ⟨q', hq', hc'⟩ := hN k s hT hk
    rw [hgq] at hq'
    cases hq'
    refine s_become hs.1.2.1 (hs9 s pn k q hpn hk hgq hc') e7 e8 e3 e4 (far pn k q hpn hk (fun z => hne z.1) hgq) (fun y4 f4 c4 => ?_)
    refine s_putEnd hs c4 (by rw [f4.2.1]; exact e3) (by rw [f4.2.1]; exact e4) ha hl hsg (fun v fv cv => kk v ?_)
    have fA : fr (pq q4) (mpI y3 9 3 (nI (L.length + 1))) v := f4.tr fv
    have hlow : ∀ p, p < 77 → mI v p = mI (mpI y3 9 3 (nI (L.length + 1))) p := fun p h => fA.row (pq_no (by omega))
    have hold : ∀ s' i' k' q', (i' = 10 ∨ i' = 11) → k' < 151 → ¬ (i' = ps ∧ k' = L.length) → g i' k' = some q' → cOne s' q' y → cOne s' q' v := fun s' i' k' q' h1 h2 h3 h4 h5 => by
      have hf := far i' k' q' h1 h2 h3 h4
      exact (hs9 s' i' k' q' h1 h2 h4 h5).of (fA.row (pq_no (by omega))) (fA.row (pq_no (by omega))) (fA.row (pq_no (by omega)))
    refine ⟨upG g ps L.length q4, b1.of fA.2.1 fA.2.2.2.1, b2.of fA.2.2.2.1 fA.2.2.2.2, fun k' s' h1 h2 => ?_, ?_, fun k' s' h1 h2 => ?_, fun p h1 h2 => ?_, fun i h1 => ?_, fun p h1 => ?_, fun p x h1 h2 => ?_⟩
    · obtain ⟨q', g1, g2⟩ := hN k' s' h1 h2
      exact ⟨q', by rw [hgo _ _ (fun z => hne z.1)]; exact g1, hold s' pn k' q' hpn h2 (fun z => hne z.1) g1 g2⟩
    · rw [hlow 9 (by decide), up_eq, List.length_append]; congr 1; simp; omega
    · by_cases zz : k' = L.length
      · subst zz
        rw [List.getElem?_append_right (by omega), Nat.sub_self] at h2
        cases h2
        exact ⟨q4, hq4, cv⟩
      · have hlt : k' < L.length := by
          have := (List.getElem?_eq_some_iff.mp h2).1
          rw [List.length_append] at this
          simp at this; omega
        rw [List.getElem?_append_left hlt] at h2
        obtain ⟨q', g1, g2⟩ := hS k' s' h1 h2
        exact ⟨q', by rw [hgo _ _ (fun z => zz z.2)]; exact g1, hold s' ps k' q' hps h1 (fun z => zz z.2) g1 g2⟩
    · rw [hlow p h1, s1, mup_ne _ h2, (b3 p (Or.inl h1)).1]; exact i1 p h1 h2
    · rw [hlow 9 (by decide), up_ne _ _ (by omega), (b3 9 (Or.inl (by decide))).1]; exact i2 i h1
    · rw [fA.2.2.1]
      show mL y3 p = _
      rw [(b3 p (Or.inl h1)).2]; exact i3 p h1
    · rw [fA.2.1]
      show mR y3 p x = _
      rw [b4 p x h1 (fun z => h2 z.1)]; exact i4 p x h1 h2
  · refine kk y ⟨g, hp, hz, hN, ?_, fun k' s' h1 h2 => ?_, i1, i2, i3, i4⟩
    · rw [h3, List.length_append]; congr 1; omega
    · rw [List.getElem?_append_left (by omega)] at h2
      exact hS k' s' h1 h2
