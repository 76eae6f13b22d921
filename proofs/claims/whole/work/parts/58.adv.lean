theorem s_sightAt {s : aSh} {q p : Nat} {b : Bool} {x : Int32} {u : mSt} {K : Int32 → mSt → Prop} (hx : x = b2i b) (hs : oSh 6 s) (hc : cOne s q u) (b0 : mR u q 0 = some (q + 1)) (hp : p < s.1) (k : K (nI (sgI b (s.2.2.2.1 p) (decide (s.2.2.1 = some p)))) u) : bX4_sightAt q (nI p) x u K := by
  obtain ⟨⟨o1, o2, o3, o4⟩, o5, o6⟩ := hs
  unfold bX4_sightAt
  refine ⟨q + 1, b0, vp_in_nI (by omega) (by decide), ?_⟩
  rw [nI_clamp (by omega), hc.2.2.2.1 p hp, hc.2.2.1, pb_eq (fun d hd => by have := o4 d hd; omega) (by omega), hx]
  unfold bX4_sightAt_20
  refine br_c (fun z => ?_) (fun z => ?_)
  · simp only [z, decide_true] at k
    exact s_sightOf b true k
  · simp only [z, decide_false] at k
    exact s_sightOf b false k
/-- what is shown for an act from a place -/
def shwI (s : aSh) (p a : Nat) : Int32 := match s.2.2.2.2 (5 * p + a) with
  | 0 => -3
  | 1 => nI (sgI true (s.2.2.2.1 p) (decide (s.2.2.1 = some p)))
  | q + 2 => nI (sgI false (s.2.2.2.1 q) (decide (s.2.2.1 = some q)))
theorem s_sightAfter {s : aSh} {q p a : Nat} {u : mSt} {K : Int32 → mSt → Prop} (hs : oSh 6 s) (hc : cOne s q u) (b0 : mR u q 0 = some (q + 1)) (b1 : mR u q 1 = some (q + 2)) (hp : p < s.1) (ha : a < 5) (k : K (shwI s p a) u) : bX4_sightAfter q (nI p) (nI a) u K := by
  have o6 := (hs.2.2 (5 * p + a) (by omega)).1
  have o2 := hs.1.2.1
  unfold bX4_sightAfter
  refine s_leadFrom hs.1.2.1 b1 hc hp ha ?_
  unfold shwI at k
  generalize s.2.2.2.2 (5 * p + a) = l at *
  match l, o6, k with
  | 0, o6, k => exact br_t rfl k
  | 1, o6, k => exact br_f (by decide) (br_t rfl (s_sightAt (b := true) rfl hs hc b0 hp k))
  | n + 2, o6, k => exact br_f (nI_m3 (by omega)) (br_f (nI_m2 (by omega)) (s_sightAt (b := false) rfl hs hc b0 (by omega) k))
theorem sg_eq {b b' p p' : Bool} {s s' : Nat} (h : s < 4) (h' : s' < 4) : nI (sgI b s p) = nI (sgI b' s' p') ↔ (b = b' ∧ s = s' ∧ p = p') := by
  have g1 := sg_lt b p h
  have g2 := sg_lt b' p' h'
  rw [nI_eq (by omega) (by omega)]
  constructor
  · intro e
    unfold sgI at e
    refine ⟨?_, ?_, ?_⟩
    · cases b <;> cases b' <;> cases p <;> cases p' <;> simp [b2n] at e ⊢ <;> omega
    · cases b <;> cases b' <;> cases p <;> cases p' <;> simp [b2n] at e ⊢ <;> omega
    · cases b <;> cases b' <;> cases p <;> cases p' <;> simp [b2n] at e ⊢ <;> omega
  · rintro ⟨rfl, rfl, rfl⟩; rfl
theorem fit_eq {s : aSh} {p sg : Nat} {b b' pb : Bool} (h : s.2.2.2.1 p < 4) (h' : sg < 4) : nI (sgI b (s.2.2.2.1 p) (decide (s.2.2.1 = some p))) = nI (sgI b' sg pb) ↔ (b = b' ∧ fitP s p sg pb = true) := by
  rw [sg_eq h h']
  unfold fitP
  simp only [Bool.and_eq_true, decide_eq_true_eq, beq_iff_eq]
theorem cRun.one {u0 : mSt} {pn ps j k q : Nat} {T L : List aSh} {s : aSh} {y : mSt} (hr : cRun u0 pn ps j T L y) (hT : T[k]? = some s) (hk : k < 151) (hq : mR u0 pn k = some q) : cOne s q y ∧ mR y q 0 = some (q + 1) ∧ mR y q 1 = some (q + 2) := by
  obtain ⟨g, hp, hz, hN, h3, hS, i1, i2, i3, i4⟩ := hr
  have hpn : pn = 10 ∨ pn = 11 := by rcases hp.1 with ⟨z, -⟩ | ⟨z, -⟩ <;> omega
  have hne : pn ≠ ps := by rcases hp.1 with ⟨z1, z2⟩ | ⟨z1, z2⟩ <;> omega
  have hgq : g pn k = some q := by rw [← hp.2.2.2.1 pn k hpn hk, i4 pn k (by omega) hne]; exact hq
  obtain ⟨q', hq', hc'⟩ := hN k s hT hk
  rw [hgq] at hq'
  cases hq'
  obtain ⟨e5, e6, e7, e8⟩ := hp.2.2.2.2.1 pn k q hpn hk hgq
  exact ⟨hc', e7, e8⟩
theorem cRun.f9 {u0 : mSt} {pn ps j : Nat} {T L : List aSh} {y : mSt} (hr : cRun u0 pn ps j T L y) {i : Nat} (hi : i ≠ 3) : mI y 9 i = mI u0 9 i := by
  obtain ⟨g, hp, hz, hN, h3, hS, i1, i2, i3, i4⟩ := hr
  exact i2 i hi
theorem s_guess {u0 : mSt} {pn ps j k q a sg m : Nat} {T L : List aSh} {s : aSh} {b pb : Bool} {y : mSt} {K : mSt → Prop} (hj : j ≤ 600) (hr : cRun u0 pn ps j T L y) (hT : T[k]? = some s) (hk : k < 151) (hq : mR u0 pn k = some q) (hs : oSh 6 s) (ha : a < 5) (hsg : sg < 4) (hm : mI u0 9 4 = nI m) (h6 : m ≤ 6) (h0 : s.2.2.2.2 (5 * s.2.1 + a) = 0) (kk : ∀ v, cRun u0 pn ps j T (L ++ shNew m a b sg pb s) v → K v) : bX0_guess 9 q (nI a) (nI (sgI b sg pb)) y K := by
  have o2 := hs.1.2.1
  unfold bX0_guess
  refine s_bumpOf b pb hsg ?_
  unfold shNew shOut at kk
  rw [if_pos h0] at kk
  cases b
  · refine br_f (by decide) ⟨s.1 + 1, ?_⟩
    rw [if_neg (by decide)] at kk
    have loop : ∀ n i y, i + n = s.1 → cRun u0 pn ps j T (L ++ ((List.range i).filter (fun q => fitP s q sg pb)).map (fun q => shPut s a (q + 2) sg)) y → bX0_guess_21 (n + 1) 9 q (nI a) (nI (sgI false sg pb)) (nI i) y K := by
      intro n
      induction n with
      | zero =>
        intro i y hn hr
        have hi : i = s.1 := by omega
        subst hi
        obtain ⟨c, r0, r1⟩ := hr.one hT hk hq
        unfold bX0_guess_21
        rw [c.1, hr.f9 (by decide), hm]
        refine br_t (nI_le (by omega) (by omega)) ?_
        refine pk_le m s.1 (fun z => ?_) (fun z => ?_)
        · refine kk y ?_
          rw [if_neg (by omega)]
          simpa [List.map_map, Function.comp_def] using hr
        · refine s_pebbleOf false pb hsg ?_
          rw [b2i_0]
          refine br_c (fun z2 => ?_) (fun z2 => ?_)
          · have := s_put (b := false) (pb := pb) (l := s.1 + 2) (K := K) hj hr hT hk hq hs ha (Or.inr ⟨rfl, by omega⟩) hsg (fun v hv => kk v (by
              rw [if_pos ⟨z, z2⟩]
              simpa [List.map_map, Function.comp_def] using hv))
            simpa [lI, c.1] using this
          · refine kk y ?_
            rw [if_neg (fun z => z2 z.2)]
            simpa [List.map_map, Function.comp_def] using hr
      | succ n ih =>
        intro i y hn hr
        obtain ⟨c, r0, r1⟩ := hr.one hT hk hq
        unfold bX0_guess_21
        rw [c.1]
        refine br_f (nI_ge (by omega) (by omega)) ?_
        refine s_sightAt (b := false) rfl hs c r0 (by omega) ?_
        rw [fit_eq (hs.2.1 i (by omega)) hsg]
        have hrs : List.range (i + 1) = List.range i ++ [i] := List.range_succ
        refine br_c (fun z => ?_) (fun z => ?_)
        · have := s_put (b := false) (pb := pb) (l := i + 2) (K := fun u_12 => bX0_guess_50 9 q (nI a) (nI (sgI false sg pb)) (nI i) u_12 K (fun z0 z1 z2 z3 z4 z5 => bX0_guess_21 (n + 1) z0 z1 z2 z3 z4 z5 K)) hj hr hT hk hq hs ha (Or.inl (by omega)) hsg (fun v hv => by
            unfold bX0_guess_50
            rintro _ rfl
            rw [nI_1]
            refine ih (i + 1) v (by omega) ?_
            rw [hrs, List.filter_append, List.map_append, ← List.append_assoc]
            simpa [z.2] using hv)
          simpa [lI] using this
        · unfold bX0_guess_50
          rintro _ rfl
          rw [nI_1]
          refine ih (i + 1) y (by omega) ?_
          rw [hrs, List.filter_append, List.map_append, ← List.append_assoc]
          have z' : fitP s i sg pb = false := by simpa using z
          simpa [z'] using hr
    have := loop s.1 0 y (by omega) (by simpa using hr)
    rwa [nI_0] at this
  · refine br_t rfl ?_
    rw [if_pos rfl] at kk
    exact s_put (b := true) (pb := pb) (l := 1) hj hr hT hk hq hs ha (Or.inl (by omega)) hsg kk
theorem s_spread {u0 : mSt} {pn ps j k q a sg m : Nat} {T L : List aSh} {s : aSh} {b pb : Bool} {y : mSt} {K : mSt → Prop} (hj : j ≤ 600) (hr : cRun u0 pn ps j T L y) (hT : T[k]? = some s) (hk : k < 151) (hq : mR u0 pn k = some q) (hs : oSh 6 s) (ha : a < 5) (hsg : sg < 4) (hm : mI u0 9 4 = nI m) (h6 : m ≤ 6) (kk : ∀ v, cRun u0 pn ps j T (L ++ shNew m a b sg pb s) v → K v) : bX0_spread 9 q (nI a) (nI (sgI b sg pb)) y K := by
  obtain ⟨c, r0, r1⟩ := hr.one hT hk hq
  obtain ⟨⟨o1, o2, o3, o4⟩, o5, o6⟩ := hs
  have hs : oSh 6 s := ⟨⟨o1, o2, o3, o4⟩, o5, o6⟩
  have o := (o6 (5 * s.2.1 + a) (by omega)).1
  have hsl := sg_lt b pb hsg
  unfold bX0_spread
  rw [c.2.1]
  refine s_sightAfter hs c r0 r1 o3 ha ?_
  have put : ∀ l, s.2.2.2.2 (5 * s.2.1 + a) = l → l < s.1 + 2 → (∀ v, cRun u0 pn ps j T (L ++ [shPut s a l sg]) v → K v) → bX4_leadFrom q (nI s.2.1) (nI a) y (fun r_9 u_8 => bX0_put 9 q (nI a) r_9 (nI (sgI b sg pb)) u_8 (fun u_11 => K u_11)) := fun l el hl k2 => by
    refine s_leadFrom o2 r1 c o3 ha ?_
    rw [el]
    exact s_put hj hr hT hk hq hs ha (Or.inl hl) hsg k2
  have none' : shNew m a b sg pb s = [] → K y := fun e => kk y (by rw [e, List.append_nil]; exact hr)
  unfold shwI
  rcases (show s.2.2.2.2 (5 * s.2.1 + a) = 0 ∨ s.2.2.2.2 (5 * s.2.1 + a) = 1 ∨ ∃ n, s.2.2.2.2 (5 * s.2.1 + a) = n + 2 by
    match s.2.2.2.2 (5 * s.2.1 + a) with
    | 0 => exact Or.inl rfl
    | 1 => exact Or.inr (Or.inl rfl)
    | n + 2 => exact Or.inr (Or.inr ⟨n, rfl⟩)) with el | el | ⟨n, el⟩
  · rw [el]
    exact br_f (fun e => nI_m3 (by omega) e.symm) (br_t rfl (s_guess hj hr hT hk hq hs ha hsg hm h6 el kk))
  · rw [el]
    dsimp only
    have sl := sg_lt true (decide (s.2.2.1 = some s.2.1)) (o5 s.2.1 o3)
    rw [fit_eq (o5 _ o3) hsg, c.2.1]
    refine br_c (fun z => put 1 el (by omega) ?_) (fun z => br_f (nI_m3 (by omega)) (none' ?_))
    · rw [show [shPut s a 1 sg] = shNew m a b sg pb s by unfold shNew shOut; rw [el]; simp [← z.1, z.2]]
      exact kk
    · unfold shNew shOut
      rw [el, if_neg (by decide), if_pos rfl, if_neg (fun z' => z ⟨z'.1.symm, z'.2⟩)]; rfl
  · rw [el]
    dsimp only
    have sl := sg_lt false (decide (s.2.2.1 = some n)) (o5 n (by omega))
    rw [fit_eq (o5 n (by omega)) hsg, c.2.1]
    refine br_c (fun z => put (n + 2) el (by omega) ?_) (fun z => br_f (nI_m3 (by omega)) (none' ?_))
    · rw [show [shPut s a (n + 2) sg] = shNew m a b sg pb s by unfold shNew shOut; rw [el]; simp [← z.1, z.2]]
      exact kk
    · unfold shNew shOut
      rw [el, if_neg (by omega), if_neg (by omega), if_neg (fun z' => z ⟨z'.1.symm, by simpa using z'.2⟩)]; rfl
/-- all sheets behind an act other than the pebble's -/
def atNew (t : aAt) (a : Nat) (b : Bool) (sg : Nat) (pb : Bool) : List aSh := t.2.2.flatMap (shNew t.1 a b sg pb)
def atAdv (t : aAt) (a : Nat) (b : Bool) (sg : Nat) (pb : Bool) : aAt := (t.1, t.2.1 || decide (150 < (atNew t a b sg pb).length), if (t.2.1 || decide (150 < (atNew t a b sg pb).length)) = true then [] else atNew t a b sg pb)
theorem C_adv {w : aWk} {t : aAt} {pn ps j a sg : Nat} {b pb : Bool} {g : Nat → Nat → Option Nat} {u : mSt} {K : mSt → Prop} (hw1 : w.1 = true) (ho : oAt w t) (ht : cAt t pn ps g u) (hz : okSz g j u) (hj : j ≤ 600) (ha : a < 5) (hsg : sg < 4)
    (k : ∀ v g', cAt (atAdv t a b sg pb) ps pn g' v → okSz g' j v → (∀ p, p < 77 → p ≠ 9 → mI v p = mI u p) → (∀ p, p < 77 → mL v p = mL u p) → (∀ p x, p < 77 → p ≠ 9 → p ≠ 10 → p ≠ 11 → mR v p x = mR u p x) → K v) : bX0_advance 9 (nI a) (nI (sgI b sg pb)) u K := by
  obtain ⟨hp, t2, t4, t5, tN⟩ := ht
  have hl := ho.2.2.2.1
  have hm6 := (ho.1 hw1).2
  have hpn : pn = 10 ∨ pn = 11 := by rcases hp.1 with ⟨z, -⟩ | ⟨z, -⟩ <;> omega
  have hps : ps = 10 ∨ ps = 11 := by rcases hp.1 with ⟨-, z⟩ | ⟨-, z⟩ <;> omega
  unfold bX0_advance
  refine pk_eq a 5 (fun z => by omega) (fun _ => ?_) rfl k5
  rintro _ rfl
  have e9 : ∀ i, i ≠ 3 → mI (mpI u 9 3 0) 9 i = mI u 9 i := fun i hi => up_ne _ _ (by omega)
  have r0 : cRun (mpI u 9 3 0) pn ps j t.2.2 [] (mpI u 9 3 0) := by
    refine ⟨g, hp.of rfl rfl, hz.of rfl rfl, fun k s h1 h2 => ?_, by rw [up_eq]; decide, fun k s h1 h2 => by simp at h2, fun _ _ _ => rfl, fun _ _ => rfl, fun _ _ => rfl, fun _ _ _ _ => rfl⟩
    obtain ⟨q, q1, q2⟩ := tN k s h1
    obtain ⟨e1, e2, e3, e4⟩ := hp.2.2.2.2.1 pn k q hpn h2 q1
    exact ⟨q, q1, q2.of (by rw [s1, mup_ne _ (by omega)]) (by rw [s1, mup_ne _ (by omega)]) (by rw [s1, mup_ne _ (by omega)])⟩
  have loop : ∀ n i y, i + n = t.2.2.length → cRun (mpI u 9 3 0) pn ps j t.2.2 ((t.2.2.take i).flatMap (shNew t.1 a b sg pb)) y → bX0_advance_17 (n + 1) 9 (nI a) (nI (sgI b sg pb)) (nI i) y K := by
    intro n
    induction n with
    | zero =>
      intro i y hn hr
      have hi : i = t.2.2.length := by omega
      subst hi
      rw [List.take_length] at hr
      unfold bX0_advance_17
      rw [hr.f9 (by decide), e9 2 (by decide), t2]
      obtain ⟨g', hp', hz', hN', h3', hS', i1, i2, i3, i4⟩ := hr
      refine br_t (nI_le (by omega) (by omega)) ⟨pn, hp'.2.1, ps, hp'.2.2.1, ?_⟩
      rintro _ rfl _ rfl
      have m1 : ∀ p i, mI (mpR (mpR y 9 0 (some ps)) 9 1 (some pn)) p i = mI y p i := fun _ _ => rfl
      have hP : cPile ps pn g' (mpR (mpR y 9 0 (some ps)) 9 1 (some pn)) := by
        obtain ⟨p1, p2, p3, p4, p5, p6⟩ := hp'
        refine ⟨by omega, ?_, ?_, fun i k h1 h2 => ?_, fun i k q h1 h2 h3 => ?_, p6⟩
        · simp [s5, mup_at]
        · simp [s5, mup_at]
        · simp only [s5, mup_at]
          rw [if_neg (by omega), if_neg (by omega)]; exact p4 i k h1 h2
        · obtain ⟨e1, e2, e3, e4⟩ := p5 i k q h1 h2 h3
          refine ⟨e1, e2, ?_, ?_⟩
          · simp only [s5, mup_at]
            rw [if_neg (by omega), if_neg (by omega)]; exact e3
          · simp only [s5, mup_at]
            rw [if_neg (by omega), if_neg (by omega)]; exact e4
      have hRR : ∀ p x, p < 77 → p ≠ 9 → p ≠ 10 → p ≠ 11 → mR (mpR (mpR y 9 0 (some ps)) 9 1 (some pn)) p x = mR u p x := fun p x h1 h2 h3 h4 => by
        simp only [s5, mup_at]
        rw [if_neg (by omega), if_neg (by omega), i4 p x h1 (by omega)]; rfl
      have hI9 : ∀ i, i ≠ 3 → mI (mpR (mpR y 9 0 (some ps)) 9 1 (some pn)) 9 i = mI u 9 i := fun i hi => by rw [m1, i2 i hi, e9 i hi]
      have hII : ∀ p, p < 77 → p ≠ 9 → mI (mpR (mpR y 9 0 (some ps)) 9 1 (some pn)) p = mI u p := fun p h1 h2 => by
        show mI y p = _
        rw [i1 p h1 h2, s1, mup_ne _ h2]
      have hLL : ∀ p, p < 77 → mL (mpR (mpR y 9 0 (some ps)) 9 1 (some pn)) p = mL u p := fun p h1 => by
        show mL y p = _
        rw [i3 p h1]; rfl
      have h39 : mI (mpR (mpR y 9 0 (some ps)) 9 1 (some pn)) 9 3 = nI (min 151 (t.2.2.flatMap (shNew t.1 a b sg pb)).length) := h3'
      have hSS : ∀ k s, k < 151 → (t.2.2.flatMap (shNew t.1 a b sg pb))[k]? = some s → ∃ q, g' ps k = some q ∧ cOne s q (mpR (mpR y 9 0 (some ps)) 9 1 (some pn)) := fun k s h1 h2 => by
        obtain ⟨q, q1, q2⟩ := hS' k s h1 h2
        exact ⟨q, q1, q2.of rfl rfl rfl⟩
      have hZZ : okSz g' j (mpR (mpR y 9 0 (some ps)) 9 1 (some pn)) := hz'.of rfl rfl
      generalize mpR (mpR y 9 0 (some ps)) 9 1 (some pn) = v at *
      have fin : ∀ sp : Bool, sp = (t.2.1 || decide (150 < (atNew t a b sg pb).length)) → bX0_advance_84 9 9 (b2i sp) v K := by
        intro sp hsp
        unfold bX0_advance_84
        refine ⟨by cases sp <;> decide, ?_⟩
        rintro _ rfl
        rw [up_eq, up_ne _ _ (by omega), h39, b2i_0]
        have hfin : ∀ n : Nat, n = (atAdv t a b sg pb).2.2.length → bX0_advance_103 9 (nI n) (mpI v 9 5 (b2i sp)) K := by
          intro n hn
          unfold bX0_advance_103
          rintro _ rfl
          refine k _ g' ⟨hP.of rfl rfl, ?_, ?_, ?_, fun k s hk => ?_⟩ (hZZ.of rfl rfl) (fun p h1 h2 => ?_) (fun p h1 => hLL p h1) (fun p x h1 h2 h3 h4 => hRR p x h1 h2 h3 h4)
          · rw [up_eq, hn]
          · rw [up_ne _ _ (by omega), up_ne _ _ (by omega), hI9 4 (by decide), t4]; rfl
          · rw [up_ne _ _ (by omega), up_eq, hsp]; rfl
          · have hq0 : (atNew t a b sg pb)[k]? = some s ∧ k < 151 := by
              unfold atAdv at hk
              dsimp only at hk
              by_cases zz : (t.2.1 || decide (150 < (atNew t a b sg pb).length)) = true
              · rw [if_pos zz] at hk; simp at hk
              · rw [if_neg zz] at hk
                have := (List.getElem?_eq_some_iff.mp hk).1
                simp at zz
                exact ⟨hk, by omega⟩
            obtain ⟨q, q1, q2⟩ := hSS k s hq0.2 hq0.1
            obtain ⟨x1, x2, x3, x4⟩ := hP.2.2.2.2.1 ps k q hps hq0.2 q1
            exact ⟨q, q1, q2.of (by rw [s1, mup_ne _ (by omega), s1, mup_ne _ (by omega)]) (by rw [s1, mup_ne _ (by omega), s1, mup_ne _ (by omega)]) (by rw [s1, mup_ne _ (by omega), s1, mup_ne _ (by omega)])⟩
          · rw [s1, mup_ne _ h2, s1, mup_ne _ h2]; exact hII p h1 h2
        refine br_c (fun z => ?_) (fun z => ?_)
        · have zz : (t.2.1 || decide (150 < (atNew t a b sg pb).length)) = false := by rw [← hsp]; exact z
          refine hfin _ ?_
          unfold atAdv
          dsimp only
          rw [zz]
          simp at zz
          have := zz.2
          unfold atNew at this ⊢
          simp only [Bool.false_eq_true, if_false]
          omega
        · have zz : (t.2.1 || decide (150 < (atNew t a b sg pb).length)) = true := by rw [← hsp]; simpa using z
          rw [k0]
          refine hfin 0 ?_
          unfold atAdv
          dsimp only
          rw [if_pos zz]; rfl
      rw [hI9 5 (by decide), t5, b2i_0, h39]
      refine br_c (fun z => ?_) (fun z => ?_)
      · refine pk_le _ 150 (fun z2 => ?_) (fun z2 => ?_) rfl (by decide)
        · have := fin false (by
            rw [z]
            have : ¬ 150 < (atNew t a b sg pb).length := by unfold atNew; omega
            simp [this])
          exact this
        · unfold bX0_advance_79
          have := fin true (by
            rw [z]
            have : 150 < (atNew t a b sg pb).length := by unfold atNew; omega
            simp [this])
          exact this
      · unfold bX0_advance_79
        have z : t.2.1 = true := by simpa using z
        exact fin true (by rw [z]; rfl)
    | succ n ih =>
      intro i y hn hr
      have hi : i < t.2.2.length := by omega
      have hge := List.getElem?_eq_getElem hi
      obtain ⟨q, q1, q2⟩ := tN i _ hge
      have hq : mR (mpI u 9 3 0) pn i = some q := by
        show mR u pn i = _
        rw [hp.2.2.2.1 pn i hpn (by omega)]; exact q1
      have hs := (ho.2.2.2.2 _ (List.getElem_mem hi)).1
      unfold bX0_advance_17
      rw [hr.f9 (by decide), e9 2 (by decide), t2]
      have hr' := hr
      obtain ⟨g', hp', hz', hN', h3', hS', i1, i2, i3, i4⟩ := hr'
      refine br_f (nI_ge (by omega) (by omega)) ⟨pn, hp'.2.1, vp_in_nI (by omega) (by decide), q, ?_, ?_⟩
      · rw [nI_clamp (by omega), i4 pn i (by omega) (by rcases hp.1 with ⟨z1, z2⟩ | ⟨z1, z2⟩ <;> omega)]; exact hq
      · refine s_spread hj hr hge (by omega) hq hs ha hsg (m := t.1) (by rw [e9 4 (by decide)]; exact t4) hm6 (fun v hv => ?_)
        rintro _ rfl
        rw [nI_1]
        refine ih (i + 1) v (by omega) ?_
        rw [List.take_succ, hge, List.flatMap_append]
        simpa using hv
  have := loop t.2.2.length 0 _ (by omega) (by simpa using r0)
  rw [nI_0] at this
  exact ⟨_, this⟩
