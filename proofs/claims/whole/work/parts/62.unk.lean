theorem m_putL {h : aHo} {c m k a l pl sg : Nat} {P : Option Nat} {b : Bool} {T L : List aSh} {evs : List aEv} {e : aEv} {u0 y : mSt} {s : aSh} {K : mSt → Prop} (o : oCx h c P m T evs) (x : aCx h c P b m T evs u0) (r : rRun u0 (evs ++ [e]) L y) (hT : T[k]? = some s) (ha : a < 5) (he : e.1 = a) (h0 : s.2.2.2.2 (5 * s.2.1 + a) = 0) (hl : 0 < l) (hl2 : l < s.1 + 2) (epl : pl = if l < 2 then s.2.1 else l - 2)
    (kk : ∀ v, rRun u0 (evs ++ [e]) (L ++ [shPut s a l sg]) v → K v) : bX9_come 42 (nI k) (nI pl) y (fun u7 => bX9_learn 42 (nI s.2.1) (nI a) (lI l) u7 K) := by
  have o' := o
  obtain ⟨o1, o2, o3, o4, o5, o6, o7, o8⟩ := o'
  obtain ⟨os, oh⟩ := o8 s (List.mem_of_getElem? hT)
  have os' := os
  obtain ⟨⟨s1', s2', s3', s4'⟩, s5', s6'⟩ := os'
  have hplt : pl < s.1 := by rw [epl]; split <;> omega
  refine m_come1 o x r hT (by omega) (fun v hn hv => ?_) (fun hn => ?_)
  · obtain ⟨v1, v2, v3, v4, v5, v6, v7, v8, v9⟩ := hv
    obtain ⟨t1, t2, t3⟩ := oHi_put (sg := sg) o7 os oh ha he (by omega : l ≠ 0) (Or.inl h0)
    have hne : ¬ l = s.1 + 2 := by omega
    have e20 : mI v 42 20 = b2i (decide (150 < L.length)) := by rw [v1.at (by simp [pC, p62, p589])]; exact r.2.2.1
    unfold bX9_learn
    rw [e20, b2i_0]
    refine br_t (by simp; omega) ⟨59, (v1.rR (r.1.rR x.1)).get 42 30 59 (by decide), ?_⟩
    rw [v2, nI_pred, k305, nI_clamp (by omega)]
    refine ⟨vp_in_nI (by omega) (by decide), ?_⟩
    rintro _ rfl
    refine kk _ (rRun_add r (by simp; omega) hn (v1.wp _ (by simp [pC, p589]; omega)) ?_ ⟨?_, ?_, ?_, fun p hp => ?_, fun x hx => ?_⟩ (fun i hi => ?_) (by simp only [shPut]; rw [if_neg hne]; exact s2'))
    · rw [up_ne _ _ (by omega), v2]
    · rw [up_ne _ _ (by omega), v3]; simp only [shPut]; rw [if_neg hne]
    · rw [up_ne _ _ (by omega), v4, epl]; rfl
    · rw [up_ne _ _ (by omega), v5]; rfl
    · rw [up_ne _ _ (by omega)]
      simp only [shPut] at hp ⊢
      rw [if_neg hne] at hp ⊢
      exact v6 p hp
    · simp only [shPut] at hx ⊢
      rw [if_neg hne] at hx
      by_cases zz : x = 5 * s.2.1 + a
      · rw [if_pos zz, zz, up_eq]
      · rw [if_neg zz, if_pos hx, up_ne _ _ (by omega), v7 x hx]
    · rw [up_ne _ _ (by omega)]
      by_cases zz : i = evs.length + 1
      · rw [zz, v9, t3, epl]; rfl
      · have hi' : i ≤ evs.length := by simp at hi; omega
        rw [v8 i hi', t2 i hi']
  · unfold bX9_learn
    rw [up_eq]
    exact br_f (by decide) (kk _ (rRun_full r hn (by simp)))
theorem m_81 {h : aHo} {c m k a : Nat} {P : Option Nat} {b : Bool} {T L : List aSh} {evs : List aEv} {e : aEv} {u0 y : mSt} {s : aSh} {K : mSt → Prop} (o : oCx h c P m T evs) (x : aCx h c P b m T evs u0) (r : rRun u0 (evs ++ [e]) L y) (hT : T[k]? = some s) (ha : a < 5) (he : e.1 = a) (h0 : s.2.2.2.2 (5 * s.2.1 + a) = 0)
    (kk : ∀ v, rRun u0 (evs ++ [e]) (L ++ (if s.1 < m ∧ decide (P = some c) = false then [shPut s a (s.1 + 2) (h.2.1 c)] else [])) v → K v) : bX9_comeUnknown_81 42 (nI k) (nI a) (nI s.2.1) y K := by
  have o' := o
  obtain ⟨o1, o2, o3, o4, o5, o6, o7, o8⟩ := o'
  have x' := x.fr r.1
  obtain ⟨x1, x2, x3, x4, x5, x6, x7, x8, x9⟩ := x'
  obtain ⟨os, oh⟩ := o8 s (List.mem_of_getElem? hT)
  have os' := os
  obtain ⟨⟨s1', s2', s3', s4'⟩, s5', s6'⟩ := os'
  have hk := (List.getElem?_eq_some_iff.mp hT).1
  obtain ⟨⟨q1, q2, q3, q4, q5⟩, q6⟩ := x9 k s hT
  have h10 := o1.1
  have ik : vp_in (nI k) 150 := vp_in_nI (by omega) (by decide)
  have no : ¬ (s.1 < m ∧ decide (P = some c) = false) → K y := fun z => kk y (by rw [if_neg z, List.append_nil]; exact r)
  unfold bX9_comeUnknown_81
  refine ⟨51, x1.get 42 21 51 (by decide), ik, ?_⟩
  rw [nI_clamp (by omega), q1, x6]
  refine pk_le m s.1 (fun z => no (fun q => by omega)) (fun z => ?_)
  unfold bX9_liesHere
  rw [x4, x3, pb_eq (fun d hd => by have := o3 d hd; omega) (by omega)]
  refine br_c (fun z2 => br_f (by decide) (no (fun q => by simp [z2] at q))) (fun z2 => br_t rfl ?_)
  have hcond : s.1 < m ∧ decide (P = some c) = false := ⟨z, by simp [z2]⟩
  rw [if_pos hcond] at kk
  rw [r.2.2.1, b2i_0]
  refine br_c (fun z3 => ⟨51, x1.get 42 21 51 (by decide), ik, ?_⟩) (fun z3 => kk y (rRun_more _ r (by simpa using z3)))
  rw [q1]
  rintro _ rfl
  refine m_come1 o x r hT (by omega) (fun v hn hv => ?_) (fun hn => ?_)
  · obtain ⟨v1, v2, v3, v4, v5, v6, v7, v8, v9⟩ := hv
    obtain ⟨t1, t2, t3⟩ := oHi_put (sg := h.2.1 c) (l := s.1 + 2) o7 os oh ha he (by omega) (Or.inl h0)
    have hrv := v1.rR (r.1.rR x.1)
    have e20 : mI v 42 20 = 0 := by rw [v1.at (by simp [pC, p62, p589]), r.2.2.1, b2i_0]; exact z3
    have e7 : mI v 42 7 = nI c := by rw [v1.at (by simp [pC, p62, p589])]; exact x3
    have e43 : mI v 43 c = nI (h.2.1 c) := by rw [v1.at (by simp [pC, p62, p589])]; exact (x2.2.1 c o2).1
    unfold bX9_learn
    rw [e20]
    refine br_t rfl ⟨59, hrv.get 42 30 59 (by decide), ?_⟩
    rw [v2, nI_pred, k305, nI_clamp (by omega)]
    refine ⟨vp_in_nI (by omega) (by decide), ?_⟩
    rintro _ rfl
    rw [up_ne _ _ (by omega), e20]
    refine br_t rfl ?_
    rw [up_ne _ _ (by omega), v2, nI_pred, nI_1]
    rintro _ rfl
    rw [nI_clamp (by omega)]
    refine ⟨57, hrv.get 42 28 57 (by decide), vp_in_nI hn (by decide), ?_⟩
    rintro _ rfl
    rw [up_ne _ _ (by omega), up_ne _ _ (by omega), e7, k6n, nI_clamp (by omega), nI_clamp (by omega)]
    refine ⟨58, hrv.get 42 29 58 (by decide), 43, hrv.get 42 2 43 (by decide), vp_in_nI (by omega) (by decide), vp_in_nI (by omega) (by decide), ?_⟩
    rw [up_ne _ _ (by omega), up_ne _ _ (by omega), e43]
    rintro _ rfl
    have f1 : fr (pC L.length) y (mpI (mpI (mpI v 59 (30 * L.length + (5 * s.2.1 + a)) (nI s.1)) 57 L.length (nI (s.1 + 1))) 58 (6 * L.length + s.1) (nI (h.2.1 c))) := ((v1.wp _ (by simp [pC, p589]; omega)).wp _ (by simp [pC])).wp _ (by simp [pC, p589]; omega)
    have g27 : mI (mpI (mpI (mpI v 59 (30 * L.length + (5 * s.2.1 + a)) (nI s.1)) 57 L.length (nI (s.1 + 1))) 58 (6 * L.length + s.1) (nI (h.2.1 c))) 42 27 = nI (L.length + 1) := by rw [up_ne _ _ (by omega), up_ne _ _ (by omega), up_ne _ _ (by omega), v2]
    have g57 : mI (mpI (mpI (mpI v 59 (30 * L.length + (5 * s.2.1 + a)) (nI s.1)) 57 L.length (nI (s.1 + 1))) 58 (6 * L.length + s.1) (nI (h.2.1 c))) 57 L.length = nI (s.1 + 1) := by rw [up_ne _ _ (by omega), up_eq]
    have g60 : mI (mpI (mpI (mpI v 59 (30 * L.length + (5 * s.2.1 + a)) (nI s.1)) 57 L.length (nI (s.1 + 1))) 58 (6 * L.length + s.1) (nI (h.2.1 c))) 60 L.length = nI s.1 := by rw [up_ne _ _ (by omega), up_ne _ _ (by omega), up_ne _ _ (by omega), v4]
    have g61 : mI (mpI (mpI (mpI v 59 (30 * L.length + (5 * s.2.1 + a)) (nI s.1)) 57 L.length (nI (s.1 + 1))) 58 (6 * L.length + s.1) (nI (h.2.1 c))) 61 L.length = pbI s.2.2.1 := by rw [up_ne _ _ (by omega), up_ne _ _ (by omega), up_ne _ _ (by omega), v5]
    have g58 : ∀ p, p < s.1 + 1 → mI (mpI (mpI (mpI v 59 (30 * L.length + (5 * s.2.1 + a)) (nI s.1)) 57 L.length (nI (s.1 + 1))) 58 (6 * L.length + s.1) (nI (h.2.1 c))) 58 (6 * L.length + p) = nI (va_up s.2.2.2.1 s.1 (h.2.1 c) p) := fun p hp => by
      unfold va_up
      by_cases zz : p = s.1
      · rw [if_pos zz, zz, up_eq]
      · rw [if_neg zz, up_ne _ _ (by omega), up_ne _ _ (by omega), up_ne _ _ (by omega)]; exact v6 p (by omega)
    have g59 : ∀ x, x < 5 * s.1 → mI (mpI (mpI (mpI v 59 (30 * L.length + (5 * s.2.1 + a)) (nI s.1)) 57 L.length (nI (s.1 + 1))) 58 (6 * L.length + s.1) (nI (h.2.1 c))) 59 (30 * L.length + x) = lI (if x = 5 * s.2.1 + a then s.1 + 2 else s.2.2.2.2 x) := fun x hx => by
      rw [up_ne _ _ (by omega), up_ne _ _ (by omega)]
      by_cases zz : x = 5 * s.2.1 + a
      · rw [if_pos zz, zz, up_eq]; rfl
      · rw [if_neg zz, up_ne _ _ (by omega)]; exact v7 x hx
    have g62 : ∀ i, i ≤ evs.length + 1 → mI (mpI (mpI (mpI v 59 (30 * L.length + (5 * s.2.1 + a)) (nI s.1)) 57 L.length (nI (s.1 + 1))) 58 (6 * L.length + s.1) (nI (h.2.1 c))) 62 (201 * L.length + i) = nI (xPl (shPut s a (s.1 + 2) (h.2.1 c)) (evs ++ [e]) i) := fun i hi => by
      rw [up_ne _ _ (by omega), up_ne _ _ (by omega), up_ne _ _ (by omega)]
      by_cases zz : i = evs.length + 1
      · rw [zz, v9, t3]
        simp only [shPut]
        rw [if_neg (by omega)]; simp
      · rw [v8 i (by omega), t2 i (by omega)]
    generalize mpI (mpI (mpI v 59 (30 * L.length + (5 * s.2.1 + a)) (nI s.1)) 57 L.length (nI (s.1 + 1))) 58 (6 * L.length + s.1) (nI (h.2.1 c)) = v0 at *
    have loop : ∀ m' i z, i + m' = 5 → fr (fun p j => p == 59 && decide (30 * L.length + 5 * s.1 ≤ j) && decide (j < 30 * L.length + 5 * s.1 + 5)) v0 z → (∀ j, j < i → mI z 59 (30 * L.length + (5 * s.1 + j)) = -3) → bX9_comeUnknown_182 (m' + 1) 42 (nI s.1) (nI L.length) (nI i) z K := by
      intro m'
      induction m' with
      | zero =>
        intro i z hi f hz
        unfold bX9_comeUnknown_182
        refine br_t (by rw [k5]; exact nI_le (by omega) (by omega)) (kk z (rRun_add r (by simp; omega) hn (f1.tr (f.up (fun p j ee => ?_))) ?_ ⟨?_, ?_, ?_, fun p hp => ?_, fun x hx => ?_⟩ (fun i hi => ?_) ?_))
        · simp [pC, p62, p589] at ee ⊢
          omega
        · rw [f.at (by rfl), g27]
        · rw [f.at (by rfl), g57]; simp only [shPut]; rw [if_pos trivial]
        · rw [f.at (by rfl), g60]; simp only [shPut]; rw [if_neg (by omega)]; simp
        · rw [f.at (by rfl), g61]; rfl
        · simp only [shPut] at hp ⊢
          rw [if_pos trivial] at hp ⊢
          rw [f.at (by rfl), g58 p hp]
        · simp only [shPut] at hx ⊢
          rw [if_pos trivial] at hx
          by_cases zz : x < 5 * s.1
          · rw [f.at (by simp; omega), g59 x zz]
            by_cases z4 : x = 5 * s.2.1 + a
            · rw [if_pos z4, if_pos z4]
            · rw [if_neg z4, if_neg z4, if_pos zz]
          · rw [if_neg (by omega), if_neg zz]
            have := hz (x - 5 * s.1) (by omega)
            rw [show 5 * s.1 + (x - 5 * s.1) = x by omega] at this
            rw [this]; rfl
        · rw [f.at (by rfl)]
          exact g62 i (by simpa using hi)
        · simp only [shPut]; rw [if_pos trivial]; omega
      | succ m' ih =>
        intro i z hi f hz
        unfold bX9_comeUnknown_182
        refine br_f (by rw [k5]; exact nI_ge (by omega) (by omega)) ⟨59, (f.rR (f1.rR (r.1.rR x.1))).get 42 30 59 (by decide), ?_⟩
        rw [k305, nI_clamp (by omega)]
        refine ⟨vp_in_nI (by omega) (by decide), ?_⟩
        rintro _ rfl _ rfl
        rw [nI_1]
        refine ih (i + 1) _ (by omega) (f.wp _ (by simp; omega)) (fun j hj => ?_)
        by_cases zz : j = i
        · rw [zz, up_eq]
        · rw [up_ne _ _ (by omega)]; exact hz j (by omega)
    have := loop 5 0 v0 (by omega) (fr.rf _ _) (fun j hj => absurd hj (by omega))
    rw [nI_0] at this
    exact ⟨_, this⟩
  · unfold bX9_learn
    rw [up_eq]
    exact br_f (by decide) (br_f (by rw [up_eq]; decide) (kk _ (rRun_full r hn (by simp))))
theorem m_unknown {h : aHo} {c m k a : Nat} {P : Option Nat} {b : Bool} {T L : List aSh} {evs : List aEv} {e : aEv} {u0 y : mSt} {s : aSh} {K : mSt → Prop} (o : oCx h c P m T evs) (x : aCx h c P b m T evs u0) (r : rRun u0 (evs ++ [e]) L y) (hT : T[k]? = some s) (ha : a < 5) (he : e.1 = a) (h0 : s.2.2.2.2 (5 * s.2.1 + a) = 0)
    (kk : ∀ v, rRun u0 (evs ++ [e]) (L ++ shNew m a b (h.2.1 c) (decide (P = some c)) s) v → K v) : bX9_comeUnknown 42 (nI k) (nI a) y K := by
  have o' := o
  obtain ⟨o1, o2, o3, o4, o5, o6, o7, o8⟩ := o'
  have x' := x.fr r.1
  obtain ⟨x1, x2, x3, x4, x5, x6, x7, x8, x9⟩ := x'
  obtain ⟨os, oh⟩ := o8 s (List.mem_of_getElem? hT)
  have os' := os
  obtain ⟨⟨s1', s2', s3', s4'⟩, s5', s6'⟩ := os'
  have hk := (List.getElem?_eq_some_iff.mp hT).1
  have ik : vp_in (nI k) 150 := vp_in_nI (by omega) (by decide)
  obtain ⟨⟨q1, q2, q3, q4, q5⟩, q6⟩ := x9 k s hT
  unfold shNew shOut at kk
  rw [if_pos h0] at kk
  unfold bX9_comeUnknown
  refine ⟨54, x1.get 42 24 54 (by decide), ik, ?_⟩
  rw [nI_clamp (by omega), q2]
  rintro _ rfl
  rw [x5, b2i_0]
  refine br_c (fun z => ⟨s.1 + 1, ?_⟩) (fun z => ?_)
  · rw [if_neg (by rw [z]; decide)] at kk
    have hend : ∀ y', rRun u0 (evs ++ [e]) (L ++ ((List.range s.1).filter (fun q => fitP s q (h.2.1 c) (decide (P = some c)))).map (fun q => shPut s a (q + 2) (h.2.1 c))) y' → bX9_comeUnknown_81 42 (nI k) (nI a) (nI s.2.1) y' K := fun y' r' => by
      refine m_81 o x r' hT ha he h0 (fun v hv => kk v ?_)
      rw [List.map_append, List.map_map, ← List.append_assoc]
      have e1 : List.map (fun l => shPut s a l (h.2.1 c)) (if s.1 < m ∧ decide (P = some c) = false then [s.1 + 2] else []) = (if s.1 < m ∧ decide (P = some c) = false then [shPut s a (s.1 + 2) (h.2.1 c)] else []) := by split <;> rfl
      rw [e1]
      exact hv
    have loop : ∀ n i y', i + n = s.1 → rRun u0 (evs ++ [e]) (L ++ ((List.range i).filter (fun q => fitP s q (h.2.1 c) (decide (P = some c)))).map (fun q => shPut s a (q + 2) (h.2.1 c))) y' → bX9_comeUnknown_32 (n + 1) 42 (nI k) (nI a) (nI s.2.1) (nI i) y' K := by
      intro n
      induction n with
      | zero =>
        intro i y' hi r'
        have : i = s.1 := by omega
        subst this
        have x' := x.fr r'.1
        obtain ⟨⟨y1, -⟩, -⟩ := x'.2.2.2.2.2.2.2.2 k s hT
        unfold bX9_comeUnknown_32
        refine ⟨51, x'.1.get 42 21 51 (by decide), ik, ?_⟩
        rw [nI_clamp (by omega), y1]
        exact br_t (nI_le (by omega) (by omega)) (hend y' r')
      | succ n ih =>
        intro i y' hi r'
        have x' := x.fr r'.1
        obtain ⟨⟨y1, -⟩, -⟩ := x'.2.2.2.2.2.2.2.2 k s hT
        unfold bX9_comeUnknown_32
        refine ⟨51, x'.1.get 42 21 51 (by decide), ik, ?_⟩
        rw [nI_clamp (by omega), y1, r'.2.2.1, b2i_0]
        refine br_f (nI_ge (by omega) (by omega)) ?_
        refine br_c (fun z3 => ?_) (fun z3 => hend y' ?_)
        · refine m_fits o x' hT (by omega) ?_
          rw [b2i_0]
          have hrs : List.range (i + 1) = List.range i ++ [i] := List.range_succ
          refine br_c (fun z4 => ?_) (fun z4 => ?_)
          · unfold bX9_comeUnknown_75
            rintro _ rfl
            rw [nI_1]
            refine ih (i + 1) y' (by omega) ?_
            rw [hrs, List.filter_append, List.map_append, ← List.append_assoc]
            simpa [z4] using r'
          · have z4' : fitP s i (h.2.1 c) (decide (P = some c)) = true := by simpa using z4
            refine m_putL (l := i + 2) (sg := h.2.1 c) o x r' hT ha he h0 (by omega) (by omega) (by rw [if_neg (by omega)]; omega) (fun v hv => ?_)
            unfold bX9_comeUnknown_75
            rintro _ rfl
            rw [nI_1]
            refine ih (i + 1) v (by omega) ?_
            rw [hrs, List.filter_append, List.map_append, ← List.append_assoc]
            simpa [z4'] using hv
        · have hsp : List.range s.1 = List.range i ++ (List.range (s.1 - i)).map (fun q => i + q) := by
            rw [← List.range_add]; congr 1; omega
          rw [hsp, List.filter_append, List.map_append, ← List.append_assoc]
          exact rRun_more _ r' (by simpa using z3)
    have := loop s.1 0 y (by omega) (by simpa using r)
    rwa [nI_0] at this
  · have z : b = true := by simpa using z
    rw [if_pos z] at kk
    exact m_putL (l := 1) (sg := h.2.1 c) o x r hT ha he h0 (by omega) (by omega) rfl kk
