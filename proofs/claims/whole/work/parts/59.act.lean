/-! AN ACT -/
def xMv (p : Option Nat) (c : Nat) : Option Nat := match p with
  | none => some c
  | some d => if d = c then none else some d
def shPeb (s : aSh) : aSh := (s.1, s.2.1, xMv s.2.2.1 s.2.1, s.2.2.2.1, s.2.2.2.2)
def acC (h : aHo) (w : aWk) (a : Nat) : Nat × Nat × Bool := if a = 5 then w.2.1 else (xStep h w.2.1 a).getD w.2.1
def acP (w : aWk) (a : Nat) : Option Nat := if a = 5 then xMv w.2.2.1 w.2.1.1 else w.2.2.1
def acB (h : aHo) (w : aWk) (a : Nat) : Bool := if a = 5 then false else (xStep h w.2.1 a).isNone
def acH (h : aHo) (w : aWk) (a : Nat) : Bool := decide (acP w a = some (acC h w a).1)
def acE (h : aHo) (w : aWk) (a : Nat) : aEv := (a, acB h w a, h.2.1 (acC h w a).1, acH h w a)
def acW (h : aHo) (w : aWk) (a : Nat) : aWk := (true, acC h w a, acP w a, w.2.2.2 ++ [acE h w a])
def acT (h : aHo) (w : aWk) (t : aAt) (a : Nat) : aAt := if a = 5 then (t.1, t.2.1, t.2.2.map shPeb) else atAdv t a (acB h w a) (h.2.1 (acC h w a).1) (acH h w a)
theorem xMv_lt {p : Option Nat} {c n : Nat} (hp : ∀ d, p = some d → d < n) (hc : c < n) : ∀ d, xMv p c = some d → d < n := by
  intro d e
  cases p with
  | none => simp only [xMv, Option.some.injEq] at e; omega
  | some d' =>
    simp only [xMv] at e
    split at e
    · cases e
    · cases e; exact hp _ rfl
theorem ac_ok {h : aHo} {w : aWk} (ho : oHo h) (hw : oWk h w) (h1 : w.1 = true) {a : Nat} (ha : a < 6) : oSd h (acC h w a) ∧ (∀ d, acP w a = some d → d < h.1) := by
  obtain ⟨o1, o2, o3, o4⟩ := hw.1 h1
  unfold acC acP
  by_cases z : a = 5
  · rw [if_pos z, if_pos z]
    exact ⟨⟨o2, o3⟩, xMv_lt o4 o2⟩
  · rw [if_neg z, if_neg z]
    refine ⟨?_, o4⟩
    cases e : xStep h w.2.1 a with
    | none => exact ⟨o2, o3⟩
    | some c => exact xStep_ok ho ⟨o2, o3⟩ e
theorem acW_ok {h : aHo} {w : aWk} (ho : oHo h) (hw : oWk h w) (h1 : w.1 = true) {a : Nat} (ha : a < 6) (hl : w.2.2.2.length < 200) : oWk h (acW h w a) := by
  obtain ⟨⟨q1, q2⟩, q3⟩ := ac_ok ho hw h1 ha
  obtain ⟨o1, o2, o3, o4⟩ := hw.1 h1
  refine ⟨fun _ => ⟨o1, q1, q2, q3⟩, fun z => by simp [acW] at z, by simp [acW]; omega, fun e he => ?_⟩
  simp only [acW, List.mem_append, List.mem_singleton] at he
  rcases he with he | rfl
  · exact hw.2.2.2 e he
  · exact ⟨ha, ho.2.1 _ q1⟩
theorem s_perform {h : aHo} {w : aWk} {u : mSt} {a : Nat} {K : Int32 → mSt → Prop} (hr : cRf u) (ho : oHo h) (hw : oWk h w) (hc : cHo h u) (hk : cWk w u) (h1 : w.1 = true) (ha : a < 6) (k : ∀ v, fr (fun p i => p == 1 && (i == 5 || i == 6)) u v → mI v 1 5 = nI (stI (acC h w a)) → mI v 1 6 = pbI (acP w a) → K (b2i (acB h w a)) v) : bX1_perform 1 (nI a) u K := by
  obtain ⟨o1, o2, o3, o4⟩ := hw.1 h1
  obtain ⟨e5, e6⟩ := hk.2.2.1 h1
  have hst := st_lt ho.1 o2 o3
  have h10 := ho.1
  unfold bX1_perform
  unfold acC acP acB at k
  refine pk_eq a 5 (fun z => ?_) (fun z => ?_) rfl k5
  · rw [if_pos z, if_pos z, if_pos z] at k
    unfold bX1_movePebble
    rw [e5]
    refine s_cellOf (by omega) o3 ?_
    rw [e6, pb_m2 (fun d hd => by have := o4 d hd; omega)]
    refine br_c (fun z1 => ?_) (fun z1 => ?_)
    · rintro _ rfl
      refine k _ (fr.pI _ u _ rfl) ?_ ?_
      · rw [up_ne _ _ (by decide)]; exact e5
      · rw [up_eq, z1]; rfl
    · obtain ⟨d, hd⟩ : ∃ d, w.2.2.1 = some d := by
        cases hh : w.2.2.1 with
        | none => exact absurd hh z1
        | some d => exact ⟨d, rfl⟩
      have hdl := o4 d hd
      rw [pb_eq (fun d hd => by have := o4 d hd; omega) (by omega), hd]
      rw [hd] at k
      refine br_c (fun z2 => ?_) (fun z2 => ?_)
      · cases z2
        rintro _ rfl
        refine k _ (fr.pI _ u _ rfl) ?_ ?_
        · rw [up_ne _ _ (by decide)]; exact e5
        · rw [up_eq]; simp [xMv, pbI]
      · refine k u (fr.rf _ u) e5 ?_
        rw [e6, hd]
        simp only [xMv]
        rw [if_neg (fun z3 => z2 (by rw [z3]))]
  · rw [if_neg z, if_neg z, if_neg z] at k
    rw [e5]
    refine s_after hr ho hc ⟨o2, o3⟩ (by omega) ?_
    cases e : xStep h w.2.1 a with
    | none =>
      rw [e] at k
      exact br_t rfl (k u (fr.rf _ u) e5 e6)
    | some c =>
      rw [e] at k
      obtain ⟨q1, q2⟩ := xStep_ok ho ⟨o2, o3⟩ e
      have := st_lt ho.1 q1 q2
      refine br_f (nI_m2 (by omega)) ?_
      rintro _ rfl
      refine k _ (fr.pI _ u _ rfl) ?_ ?_
      · exact up_eq _ _ _ _
      · rw [up_ne _ _ (by decide)]; exact e6
theorem C_peb {w : aWk} {t : aAt} {pn ps : Nat} {g : Nat → Nat → Option Nat} {u : mSt} {K : mSt → Prop} (ho : oAt w t) (ht : cAt t pn ps g u)
    (k : ∀ v, cAt (t.1, t.2.1, t.2.2.map shPeb) pn ps g v → (∀ p, p < 77 → mI v p = mI u p) → mR v = mR u → mL v = mL u → mN v = mN u → mT v = mT u → K v) : bX0_movePebbles 9 u K := by
  obtain ⟨hp, t2, t4, t5, tN⟩ := ht
  have hl := ho.2.2.2.1
  have hpn : pn = 10 ∨ pn = 11 := by rcases hp.1 with ⟨z, -⟩ | ⟨z, -⟩ <;> omega
  have loop : ∀ n i y, i + n = t.2.2.length → (∀ k s, t.2.2[k]? = some s → ∃ q, g pn k = some q ∧ cOne (if k < i then shPeb s else s) q y) → (∀ p, p < 77 → mI y p = mI u p) → mR y = mR u → mL y = mL u → mN y = mN u → mT y = mT u → bX0_movePebbles_2 (n + 1) 9 (nI i) y K := by
    intro n
    induction n with
    | zero =>
      intro i y hn y1 y2 y3 y4 y5 y6
      unfold bX0_movePebbles_2
      rw [y2 9 (by decide), t2]
      refine br_t (nI_le (by omega) (by omega)) (k y ⟨hp.of y3 y5, ?_, ?_, ?_, fun k s hs => ?_⟩ y2 y3 y4 y5 y6)
      · rw [y2 9 (by decide), t2]; simp
      · rw [y2 9 (by decide), t4]
      · rw [y2 9 (by decide), t5]
      · rw [List.getElem?_map] at hs
        cases e : t.2.2[k]? with
        | none => rw [e] at hs; cases hs
        | some s' =>
          rw [e] at hs
          cases hs
          obtain ⟨q, q1, q2⟩ := y1 k s' e
          have := (List.getElem?_eq_some_iff.mp e).1
          rw [if_pos (by omega)] at q2
          exact ⟨q, q1, q2⟩
    | succ n ih =>
      intro i y hn y1 y2 y3 y4 y5 y6
      have hi : i < t.2.2.length := by omega
      have hge := List.getElem?_eq_getElem hi
      obtain ⟨q, q1, q2⟩ := y1 i _ hge
      obtain ⟨x1, x2, x3, x4⟩ := hp.2.2.2.2.1 pn i q hpn (by omega) q1
      obtain ⟨⟨o1, o2, o3, o4⟩, o5, o6⟩ := (ho.2.2.2.2 _ (List.getElem_mem hi)).1
      rw [if_neg (by omega)] at q2
      obtain ⟨c1, c2, c3, c4, c5, c6⟩ := q2
      unfold bX0_movePebbles_2
      rw [y2 9 (by decide), t2]
      refine br_f (nI_ge (by omega) (by omega)) ⟨pn, by rw [y3]; exact hp.2.1, vp_in_nI (by omega) (by decide), q, ?_, ?_⟩
      · rw [nI_clamp (by omega), y3, hp.2.2.2.1 pn i hpn (by omega)]; exact q1
      · have others : ∀ v, (∀ p, p ≠ q → mI v p = mI y p) → ∀ k s, k ≠ i → t.2.2[k]? = some s → ∃ q', g pn k = some q' ∧ cOne (if k < i + 1 then shPeb s else s) q' v := by
          intro v hv k s hki hs
          obtain ⟨q', p1, p2⟩ := y1 k s hs
          have hkl := (List.getElem?_eq_some_iff.mp hs).1
          refine ⟨q', p1, ?_⟩
          rcases hp.2.2.2.2.2 pn i q pn k q' hpn hpn (by omega) (by omega) q1 p1 with c | c | c
          · exact absurd c.2.symm hki
          · have : (if k < i + 1 then shPeb s else s) = (if k < i then shPeb s else s) := by by_cases zz : k < i <;> simp [zz, show (k < i + 1) ↔ (k < i) by omega]
            rw [this]
            exact p2.of (hv _ (by omega)) (hv _ (by omega)) (hv _ (by omega))
          · have : (if k < i + 1 then shPeb s else s) = (if k < i then shPeb s else s) := by by_cases zz : k < i <;> simp [zz, show (k < i + 1) ↔ (k < i) by omega]
            rw [this]
            exact p2.of (hv _ (by omega)) (hv _ (by omega)) (hv _ (by omega))
        have mine : ∀ v, mI v q 4 = pbI (xMv (t.2.2[i]).2.2.1 (t.2.2[i]).2.1) → (∀ p x, ¬ (p = q ∧ x = 4) → mI v p x = mI y p x) → cOne (shPeb (t.2.2[i])) q v := by
          intro v e1 e2
          refine ⟨?_, ?_, e1, fun p hp => ?_, fun x hx => ?_, fun x h1 h2 => ?_⟩
          · rw [e2 _ _ (by omega)]; exact c1
          · rw [e2 _ _ (by omega)]; exact c2
          · rw [e2 _ _ (by omega)]; exact c4 p hp
          · rw [e2 _ _ (by omega)]; exact c5 x hx
          · rw [e2 _ _ (by omega)]; exact c6 x h1 h2
        have step : ∀ v, mI v q 4 = pbI (xMv (t.2.2[i]).2.2.1 (t.2.2[i]).2.1) → (∀ p x, ¬ (p = q ∧ x = 4) → mI v p x = mI y p x) → mR v = mR y → mL v = mL y → mN v = mN y → mT v = mT y → ∀ x_6, x_6 = nI i + 1 → bX0_movePebbles_2 (n + 1) 9 x_6 v K := by
          intro v e1 e2 e3 e4 e5 e6 _ rfl
          rw [nI_1]
          refine ih (i + 1) v (by omega) (fun k s hs => ?_) (fun p h => ?_) (e3.trans y3) (e4.trans y4) (e5.trans y5) (e6.trans y6)
          · by_cases zz : k = i
            · subst zz
              rw [hge] at hs
              cases hs
              exact ⟨q, q1, by rw [if_pos (by omega)]; exact mine v e1 e2⟩
            · exact others v (fun p h => funext fun x => e2 p x (by omega)) k s zz hs
          · rw [← y2 p h]; exact funext fun x => e2 p x (by omega)
        have hpl : ∀ d, (t.2.2[i]).2.2.1 = some d → d < 2 ^ 31 := fun d hd => by have := o4 d hd; omega
        unfold bX4_movePebble
        rw [c3, c2, pb_m2 hpl]
        refine br_c (fun z1 => ?_) (fun z1 => ?_)
        · rintro _ rfl
          exact step _ (by rw [up_eq, z1]; rfl) (fun p x h => up_ne _ _ h) rfl rfl rfl rfl
        · rw [pb_eq hpl (by omega)]
          obtain ⟨d, hd⟩ : ∃ d, (t.2.2[i]).2.2.1 = some d := by
            cases hh : (t.2.2[i]).2.2.1 with
            | none => exact absurd hh z1
            | some d => exact ⟨d, rfl⟩
          rw [hd] at c3 step ⊢
          refine br_c (fun z2 => ?_) (fun z2 => ?_)
          · cases z2
            rintro _ rfl
            exact step _ (by rw [up_eq]; simp [xMv, pbI]) (fun p x h => up_ne _ _ h) rfl rfl rfl rfl
          · refine step y ?_ (fun p x h => rfl) rfl rfl rfl rfl
            rw [c3]
            simp only [xMv]
            rw [if_neg (fun z3 => z2 (by rw [z3]))]
  unfold bX0_movePebbles
  have := loop t.2.2.length 0 u (by omega) (fun k s hs => by
    obtain ⟨q, q1, q2⟩ := tN k s hs
    exact ⟨q, q1, by rw [if_neg (by omega)]; exact q2⟩) (fun _ _ => rfl) rfl rfl rfl rfl
  rw [nI_0] at this
  exact ⟨_, this⟩
theorem s_add {w : List aEv} {u : mSt} {a : Nat} {x : Int32} {K : mSt → Prop} (hr : cRf u) (hl : mI u 6 2 = nI w.length) (hn : w.length < 200) (k : ∀ v, fr (fun p i => p == 7 || p == 8 || (p == 6 && i == 2)) u v → mI v 6 2 = nI (w.length + 1) → (∀ i, mI v 7 i = if i = w.length then nI a else mI u 7 i) → (∀ i, mI v 8 i = if i = w.length then x else mI u 8 i) → K v) : bX7_add 6 (nI a) x u K := by
  unfold bX7_add
  rw [hl, nI_clamp (by omega)]
  refine ⟨7, hr.get 6 0 7 (by decide), vp_in_nI hn (by decide), ?_⟩
  rintro _ rfl
  rw [up_ne _ _ (by omega), hl, nI_clamp (by omega)]
  refine ⟨8, hr.get 6 1 8 (by decide), vp_in_nI hn (by decide), ?_⟩
  rintro _ rfl
  rw [up_ne _ _ (by omega), up_ne _ _ (by omega), hl, nI_1]
  rintro _ rfl
  refine k _ ((((fr.rf _ u).wp _ rfl).wp _ rfl).wp _ rfl) (up_eq _ _ _ _) (fun i => ?_) (fun i => ?_)
  · rw [up_ne _ _ (by omega), up_ne _ _ (by omega)]; simp [s1, mup_at]
  · rw [up_ne _ _ (by omega)]; simp only [s1, mup_at]; simp
/-- act -/
theorem C_act {h : aHo} {w : aWk} {t : aAt} {pn ps j : Nat} {g : Nat → Nat → Option Nat} {u : mSt} {a : Int32} {K : Int32 → mSt → Prop} (hr : cRf u) (hh : oHo h) (hw : oWk h w) (hot : oAt w t) (hch : cHo h u) (hcw : cWk w u) (hct : cAt t pn ps g u) (hz : okSz g j u) (hj : j ≤ 600)
    (k1a : dec a 6 = none → K (-1) u) (k2a : dec a 6 ≠ none → w.1 = false → K (-2) u) (k3a : dec a 6 ≠ none → w.1 = true → ¬ w.2.2.2.length < 200 → K (-3) u)
    (k : ∀ n v pn' ps' g', dec a 6 = some n → n < 6 → w.1 = true → w.2.2.2.length < 200 → cWk (acW h w n) v → cAt (acT h w t n) pn' ps' g' v → cHo h v → cRf v → okSz g' j v → (∀ p, p < 77 → p ≠ 1 → p ≠ 6 → p ≠ 7 → p ≠ 8 → p ≠ 9 → mI v p = mI u p) → (∀ p, p < 77 → mL v p = mL u p) → (∀ p x, p < 77 → p ≠ 9 → p ≠ 10 → p ≠ 11 → mR v p x = mR u p x) → K (b2i (acB h w n)) v) : bX8_act 0 a u K := by
  have r0 := hr.get 0 0 1 (by decide)
  have r1 := hr.get 0 1 6 (by decide)
  have r2 := hr.get 0 2 9 (by decide)
  unfold bX8_act
  refine s_withinN (N := 6) rfl (by decide) _ _ (fun n hn e => br_f (by decide) ?_) (fun e => br_t rfl (k1a (dec_none (by decide) e)))
  have ed := dec_some (n := 6) (by decide) hn e
  rw [ed] at k1a k2a k3a
  rw [hcw.1, b2i_0]
  refine br_c (fun z => k2a (by simp) z) (fun z => ⟨6, r1, ?_⟩)
  have h1 : w.1 = true := by simpa using z
  have hlen := hw.2.2.1
  rw [hcw.2.1]
  refine pk_lt w.2.2.2.length 200 (fun zl => ⟨1, r0, ?_⟩) (fun zl => k3a (by simp) h1 (by omega)) rfl (by decide)
  subst e
  have k' := k n
  obtain ⟨⟨q1, q2⟩, q3⟩ := ac_ok hh hw h1 hn
  refine s_perform hr hh hw hch hcw h1 hn (fun v f1 v5 v6 => ⟨1, (f1.cR hr).get 0 0 1 (by decide), ?_⟩)
  have hc1 : cHo h v := hch.fr f1 rfl (fun _ => rfl) (fun _ => rfl) (fun _ => rfl) (fun _ => rfl)
  have hw1 : oWk h (true, acC h w n, acP w n, w.2.2.2) := ⟨fun _ => ⟨by omega, q1, q2, q3⟩, fun z => by simp at z, hlen, hw.2.2.2⟩
  have hk1 : cWk (true, acC h w n, acP w n, w.2.2.2) v := by
    refine ⟨?_, ?_, fun _ => ⟨v5, v6⟩, fun i e he => ?_⟩
    · rw [f1.at rfl, hcw.1, h1]
    · rw [f1.at rfl]; exact hcw.2.1
    · rw [f1.at rfl, f1.at rfl]; exact hcw.2.2.2 i e he
  refine s_sight (f1.cR hr) hh hw1 hc1 hk1 rfl (acB h w n) ⟨6, (f1.cR hr).get 0 1 6 (by decide), ?_⟩
  refine s_add (w := w.2.2.2) (f1.cR hr) hk1.2.1 zl (fun v2 f2 g1 g2 g3 => ⟨9, (f2.cR (f1.cR hr)).get 0 2 9 (by decide), ?_⟩)
  have hz2 : okSz g j v2 := (hz.of f1.2.2.2.1 f1.2.2.2.2).of f2.2.2.2.1 f2.2.2.2.2
  have hlow : ∀ p, p ≠ 1 → p ≠ 6 → p ≠ 7 → p ≠ 8 → mI v2 p = mI u p := fun p p1 p6 p7 p8 => by
    rw [f2.row (fun i => by simp [p6, p7, p8]), f1.row (fun i => by simp [p1])]
  have hp := hct.1
  have hpn : pn = 10 ∨ pn = 11 := by rcases hp.1 with ⟨z, -⟩ | ⟨z, -⟩ <;> omega
  have hct2 : cAt t pn ps g v2 := by
    obtain ⟨p0, t2, t4, t5, tN⟩ := hct
    refine ⟨(p0.of f1.2.1 f1.2.2.2.1).of f2.2.1 f2.2.2.2.1, ?_, ?_, ?_, fun k s hs => ?_⟩
    · rw [hlow 9 (by decide) (by decide) (by decide) (by decide)]; exact t2
    · rw [hlow 9 (by decide) (by decide) (by decide) (by decide)]; exact t4
    · rw [hlow 9 (by decide) (by decide) (by decide) (by decide)]; exact t5
    · obtain ⟨q, q1, q2⟩ := tN k s hs
      have hkl := (List.getElem?_eq_some_iff.mp hs).1
      obtain ⟨x1, x2, x3, x4⟩ := p0.2.2.2.2.1 pn k q hpn (by have := hot.2.2.2.1; omega) q1
      exact ⟨q, q1, q2.of (hlow _ (by omega) (by omega) (by omega) (by omega)) (hlow _ (by omega) (by omega) (by omega) (by omega)) (hlow _ (by omega) (by omega) (by omega) (by omega))⟩
  have hR2 : mR v2 = mR u := f2.2.1.trans f1.2.1
  have hL2 : mL v2 = mL u := f2.2.2.1.trans f1.2.2.1
  have fin : ∀ v3 pn' ps' g', cAt (acT h w t n) pn' ps' g' v3 → okSz g' j v3 → (∀ p, p < 77 → p ≠ 9 → mI v3 p = mI v2 p) → (∀ p, p < 77 → mL v3 p = mL v2 p) → (∀ p x, p < 77 → p ≠ 9 → p ≠ 10 → p ≠ 11 → mR v3 p x = mR v2 p x) → ((b2i (acB h w n) = 0 → K 0 v3) ∧ (¬ (b2i (acB h w n) = 0) → K 1 v3)) := by
    intro v3 pn' ps' g' c1 c2 c3 c4 c5
    have c3' : ∀ p, p < 77 → p ≠ 1 → p ≠ 6 → p ≠ 7 → p ≠ 8 → p ≠ 9 → mI v3 p = mI u p := fun p a1 a2 a3 a4 a5 a6 => (c3 p a1 a6).trans (hlow p a2 a3 a4 a5)
    have := k' v3 pn' ps' g' ed hn h1 zl ⟨?_, ?_, fun _ => ⟨?_, ?_⟩, fun i e he => ?_⟩ c1 ?_ (fun x hx => ?_) c2 c3' (fun p hp => by rw [c4 p hp, hL2]) (fun p x h1 h2 h3 h4 => by rw [c5 p x h1 h2 h3 h4, hR2])
    · cases hb : acB h w n
      · rw [hb] at this; exact br_t rfl this
      · rw [hb] at this; exact br_f (by decide) this
    · rw [c3' 0 (by decide) (by decide) (by decide) (by decide) (by decide) (by decide), hcw.1, h1]; rfl
    · rw [c3 6 (by decide) (by decide), g1]; simp [acW]
    · rw [c3 1 (by decide) (by decide), f2.at rfl]; exact v5
    · rw [c3 1 (by decide) (by decide), f2.at rfl]; exact v6
    · rw [c3 7 (by decide) (by decide), c3 8 (by decide) (by decide), g2, g3]
      simp only [acW] at he
      by_cases zz : i = w.2.2.2.length
      · subst zz
        rw [List.getElem?_append_right (by omega), Nat.sub_self] at he
        cases he
        rw [if_pos rfl, if_pos rfl]
        exact ⟨rfl, rfl⟩
      · have hi : i < w.2.2.2.length := by
          have := (List.getElem?_eq_some_iff.mp he).1
          rw [List.length_append] at this
          simp at this; omega
        rw [List.getElem?_append_left hi] at he
        rw [if_neg zz, if_neg zz]
        exact hk1.2.2.2 i e he
    · have e1 : ∀ p, p < 77 → p ≠ 9 → mI v3 p = mI v2 p := c3
      unfold cHo
      rw [e1 1 (by decide) (by decide), e1 2 (by decide) (by decide), e1 3 (by decide) (by decide), e1 4 (by decide) (by decide), e1 5 (by decide) (by decide)]
      exact hc1.fr f2 rfl (fun _ => rfl) (fun _ => rfl) (fun _ => rfl) (fun _ => rfl)
    · have hlt : ∀ t ∈ cTab, t.1 < 77 ∧ t.1 ≠ 9 ∧ t.1 ≠ 10 ∧ t.1 ≠ 11 := by decide
      obtain ⟨l1, l2, l3, l4⟩ := hlt x hx
      rw [c5 _ _ l1 l2 l3 l4, hR2]; exact hr x hx
  unfold acT at fin
  by_cases z5 : n = 5
  · rw [if_pos z5] at fin
    unfold bX0_advance
    refine br_t (by rw [z5]; decide) (C_peb hot hct2 (fun v3 c1 c2 c3 c4 c5 c6 => ?_))
    exact fin v3 pn ps g c1 (hz2.of c5 c6) (fun p h1 _ => c2 p h1) (fun p _ => by rw [c4]) (fun p x _ _ _ _ => by rw [c3])
  · rw [if_neg z5] at fin
    exact C_adv h1 hot hct2 hz2 hj (by omega) (hh.2.1 _ q1) (fun v3 g' c1 c2 c3 c4 c5 => fin v3 ps pn g' c1 c2 c3 c4 c5)
