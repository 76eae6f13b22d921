theorem m_adv {h : aHo} {c m a : Nat} {P : Option Nat} {b : Bool} {T : List aSh} {evs : List aEv} {e : aEv} {u0 : mSt} {K : Int32 → mSt → Prop} (o : oCx h c P m T evs) (x : aCx h c P b m T evs u0) (ha : a < 5) (he : e.1 = a) (h27 : mI u0 42 27 = 0) (h20 : mI u0 42 20 = 0)
    (kk : ∀ y, rRun u0 (evs ++ [e]) (T.flatMap (shNew m a b (h.2.1 c) (decide (P = some c)))) y → bX9_act_178 42 (nI a) y K) : ∃ n, bX9_act_117 n 42 (nI a) 0 u0 K := by
  have hTl := o.2.2.2.2.1
  have loop : ∀ n i y, i + n = T.length → rRun u0 (evs ++ [e]) ((T.take i).flatMap (shNew m a b (h.2.1 c) (decide (P = some c)))) y → bX9_act_117 (n + 1) 42 (nI a) (nI i) y K := by
    intro n
    induction n with
    | zero =>
      intro i y hi r
      have h19 : mI y 42 19 = nI T.length := (x.fr r.1).2.2.2.2.2.2.2.1
      unfold bX9_act_117
      rw [h19]
      refine br_t (nI_le (by omega) (by omega)) (kk y ?_)
      rw [List.take_of_length_le (by omega)] at r
      exact r
    | succ n ih =>
      intro i y hi r
      obtain ⟨x1, x2, x3, x4, x5, x6, x7, x8, x9⟩ := x.fr r.1
      have hil : i < T.length := by omega
      have hge := List.getElem?_eq_getElem hil
      generalize hsi : T[i] = s at hge
      obtain ⟨⟨q1, q2, q3, q4, q5⟩, q6⟩ := x9 i s hge
      obtain ⟨⟨⟨s1', s2', s3', s4'⟩, s5', s6'⟩, oh⟩ := o.2.2.2.2.2.2.2 s (List.mem_of_getElem? hge)
      have hx : 5 * s.2.1 + a < 5 * s.1 := by omega
      have hlt := (s6' _ hx).1
      have htk : (T.take (i + 1)).flatMap (shNew m a b (h.2.1 c) (decide (P = some c))) = (T.take i).flatMap (shNew m a b (h.2.1 c) (decide (P = some c))) ++ shNew m a b (h.2.1 c) (decide (P = some c)) s := by
        rw [List.take_add_one, hge, List.flatMap_append]; simp
      unfold bX9_act_117
      rw [x8]
      refine br_f (nI_ge (by omega) (by omega)) ?_
      rw [r.2.2.1, b2i_0]
      refine br_c (fun z => ⟨53, x1.get 42 23 53 (by decide), 54, x1.get 42 24 54 (by decide), vp_in_nI (by omega) (by decide), ?_⟩) (fun z => kk y ?_)
      · rw [nI_clamp (by omega), q2, k305, nI_clamp (by omega), q5 _ hx, lI_m3 (by omega)]
        refine ⟨vp_in_nI (by omega) (by decide), br_c (fun z0 => ?_) (fun z0 => ?_)⟩
        · refine m_unknown o x r hge ha he z0 (fun v rv => ?_)
          unfold bX9_act_172
          rintro _ rfl
          rw [nI_1]
          exact ih (i + 1) v (by omega) (by rw [htk]; exact rv)
        · refine m_known o x r hge ha he z0 (fun v rv => ?_)
          unfold bX9_act_172
          rintro _ rfl
          rw [nI_1]
          exact ih (i + 1) v (by omega) (by rw [htk]; exact rv)
      · have z : 150 < ((T.take i).flatMap (shNew m a b (h.2.1 c) (decide (P = some c)))).length := by simpa using z
        have := rRun_more ((T.drop i).flatMap (shNew m a b (h.2.1 c) (decide (P = some c)))) r z
        rw [← List.flatMap_append, List.take_append_drop] at this
        exact this
  have := loop T.length 0 u0 (by omega) ⟨fr.rf _ _, by rw [h27]; simp [nI_0], by rw [h20]; simp [b2i], fun n s _ hs => by simp at hs⟩
  rw [nI_0] at this
  exact ⟨_, this⟩
def pA : Nat → Nat → Bool := fun p i => (decide (47 ≤ p) && decide (p ≤ 62)) || (p == 42 && (i == 0 || (decide (7 ≤ i) && decide (i ≤ 12)) || i == 19 || i == 20 || i == 27 || (decide (34 ≤ i) && decide (i ≤ 37))))
def pA5 : Nat → Nat → Bool := fun p i => (decide (51 ≤ p) && decide (p ≤ 62)) || (p == 42 && (i == 0 || (decide (7 ≤ i) && decide (i ≤ 12)) || i == 19 || i == 20 || i == 27 || (decide (34 ≤ i) && decide (i ≤ 37))))
theorem pA5_A {p i : Nat} (e : pA p i = false) : pA5 p i = false := by
  simp only [pA, pA5, Bool.or_eq_false_iff] at e ⊢
  refine ⟨?_, e.2⟩
  have := e.1
  simp at this ⊢; omega
theorem pN_A {p i : Nat} (e : pA5 p i = false) : pN p i = false := by
  simp [pA5, pN] at e ⊢; omega
theorem pT9_A {p i : Nat} (e : pA5 p i = false) : pT9 p i = false := by
  simp [pA5, pT9] at e ⊢; omega
theorem pP_A {p i : Nat} (e : pA5 p i = false) : pP p i = false := by
  simp [pA5, pP] at e ⊢; omega
theorem pS_A {p i : Nat} (e : pA5 p i = false) : pS p i = false := by
  simp [pA5, pS] at e ⊢; omega
theorem m_actEnd {h : aHo} {w : aWk} {t : aAt} {n : Nat} {u y : mSt} {K : Int32 → mSt → Prop} (hr : rRf u) (hh : oHo h) (hw : oWk h w) (hrh : rHo h u) (hrw : rWk h w u) (hrt : rAt t u) (h1 : w.1 = true) (hn : n < 6) (hl : w.2.2.2.length < 200) (f : fr pA5 u y) (e7 : mI y 42 7 = nI (acC h w n).1) (e8 : mI y 42 8 = nI (acC h w n).2.1) (e9 : mI y 42 9 = b2i (acC h w n).2.2) (e10 : mI y 42 10 = pbI (acP w n)) (e11 : mI y 42 11 = b2i (acB h w n)) (e12 : mI y 42 12 = nI (w.2.2.2.length + 1)) (e19 : mI y 42 19 = nI (acT h w t n).2.2.length) (e20 : mI y 42 20 = b2i (acT h w t n).2.1) (hs : ∀ k s, (acT h w t n).2.2[k]? = some s → rOne s k y ∧ rHi s (acW h w n).2.2.2 k y)
    (kk : ∀ v, rWk h (acW h w n) v → rAt (acT h w t n) v → (∀ k s, (acT h w t n).2.2[k]? = some s → rHi s (acW h w n).2.2.2 k v) → fr pA u v → K (b2i (acB h w n)) v) : bX9_act_182 42 (nI n) y K := by
  have h10 := hh.1
  obtain ⟨⟨q1, q2⟩, q3⟩ := ac_ok hh hw h1 hn
  have hry : rHo h y := hrh.fr f rfl (fun _ => rfl) (fun _ => rfl) (fun _ => rfl) (fun _ => rfl)
  obtain ⟨w1, w2, w3, w4⟩ := hrw
  obtain ⟨-, -, -, -, -, w17⟩ := w3 h1
  refine m_182 (len := w.2.2.2.length) (c := (acC h w n).1) (sg := h.2.1 (acC h w n).1) (P := acP w n) (f.rR hr) e12 hl e11 e7 (by omega) (hry.2.1 _ q1).1 e10 (fun d hd => by have := q3 d hd; omega) (fun v g v1 v2 v3 v4 => ?_)
  have ev : ∀ i, mI v 42 i = mI y 42 i := fun i => g.at rfl
  have eg : ∀ p, (p < 47 ∨ 50 < p) → mI v p = mI y p := fun p hp => g.row (fun i => by simp; omega)
  refine kk v ⟨?_, ?_, fun _ => ⟨?_, ?_, ?_, ?_, ?_, ?_⟩, fun i e he => ?_⟩ ⟨?_, ?_, ?_, fun k s hk => ?_⟩ (fun k s hk => ?_) ((f.up (fun p i e => pA5_A e)).tr (g.up (fun p i e => ?_)))
  · rw [ev, f.at rfl, w1, h1]; rfl
  · rw [ev, e12]; simp [acW]
  · rw [ev, e7]; rfl
  · rw [ev, e8]; rfl
  · rw [ev, e9]; rfl
  · rw [ev, e10]; rfl
  · rw [ev, e11]; simp [acW, lastB, acE]
  · rw [ev, f.at rfl, w17]
  · simp only [acW] at he
    by_cases zz : i = w.2.2.2.length
    · subst zz
      rw [List.getElem?_append_right (by omega), Nat.sub_self] at he
      cases he
      exact ⟨v1, v2, v3, v4⟩
    · have hi : i < w.2.2.2.length := by
        have := (List.getElem?_eq_some_iff.mp he).1
        rw [List.length_append] at this
        simp at this; omega
      rw [List.getElem?_append_left hi] at he
      rw [g.at (by simp [zz]), g.at (by simp [zz]), g.at (by simp [zz]), g.at (by simp [zz]), f.at rfl, f.at rfl, f.at rfl, f.at rfl]
      exact w4 i e he
  · rw [ev, f.at rfl, hrt.1]
    unfold acT
    split <;> rfl
  · rw [ev, e19]
  · rw [ev, e20]
  · have := (hs k s hk).1
    unfold rOne at this ⊢
    rw [eg 51 (by omega), eg 52 (by omega), eg 53 (by omega), eg 54 (by omega), eg 55 (by omega)]
    exact this
  · have := (hs k s hk).2
    unfold rHi at this ⊢
    rw [eg 56 (by omega)]
    exact this
  · simp [pA] at e ⊢; omega
/-- act, of the reference -/
theorem M_act {h : aHo} {w : aWk} {t : aAt} {u : mSt} {a : Int32} {K : Int32 → mSt → Prop} (hr : rRf u) (hh : oHo h) (hw : oWk h w) (hot : oAt w t) (hpb : oPb w t) (htr : oTr w t) (hrh : rHo h u) (hrw : rWk h w u) (hrt : rAt t u) (hhi : ∀ k s, t.2.2[k]? = some s → rHi s w.2.2.2 k u)
    (k1a : dec a 6 = none → K (-1) (mpI u 42 0 0)) (k2a : dec a 6 ≠ none → w.1 = false → K (-2) (mpI u 42 0 0)) (k3a : dec a 6 ≠ none → w.1 = true → ¬ w.2.2.2.length < 200 → K (-3) (mpI u 42 0 0))
    (k : ∀ n v, dec a 6 = some n → n < 6 → w.1 = true → w.2.2.2.length < 200 → rWk h (acW h w n) v → rAt (acT h w t n) v → (∀ k s, (acT h w t n).2.2[k]? = some s → rHi s (acW h w n).2.2.2 k v) → fr pA u v → K (b2i (acB h w n)) v) : bX9_act 42 a u K := by
  have h10 := hh.1
  have hlen := hw.2.2.1
  unfold bX9_act
  rintro _ rfl
  refine s_isInN (lo := 0) (hi := 5) (by decide) (by decide) (by decide) (by decide) _ _ (fun n _ hn e => br_f (by decide) ?_) (fun e => br_t rfl (k1a (dec_none (by decide) (fun j hj => e j (by omega) (by omega)))))
  have ed := dec_some (n := 6) (by decide) (show n < 6 by omega) e
  rw [ed] at k1a k2a k3a
  have hrw' := hrw
  obtain ⟨w1, w2, w3, w4⟩ := hrw
  rw [up_ne _ _ (by omega), w1, b2i_0]
  refine br_c (fun z => k2a (by simp) z) (fun z => ?_)
  have h1 : w.1 = true := by simpa using z
  obtain ⟨o1, o2, o3, o4⟩ := hw.1 h1
  obtain ⟨w7, w8, w9, w10, w11, w17⟩ := w3 h1
  rw [up_ne _ _ (by omega), w2]
  refine pk_eq w.2.2.2.length 200 (fun zl => k3a (by simp) h1 (by omega)) (fun zl => ?_) rfl (by decide)
  have hl : w.2.2.2.length < 200 := by omega
  subst e
  rw [nI_1]
  rintro _ rfl _ rfl
  have f6 : fr pA5 u (mpI (mpI (mpI u 42 0 0) 42 12 (nI (w.2.2.2.length + 1))) 42 11 0) := (((fr.rf _ u).wp _ rfl).wp _ rfl).wp _ rfl
  have a12 : mI (mpI (mpI (mpI u 42 0 0) 42 12 (nI (w.2.2.2.length + 1))) 42 11 0) 42 12 = nI (w.2.2.2.length + 1) := by rw [up_ne _ _ (by omega), up_eq]
  have a11 : mI (mpI (mpI (mpI u 42 0 0) 42 12 (nI (w.2.2.2.length + 1))) 42 11 0) 42 11 = 0 := up_eq _ _ _ _
  have aO : ∀ i, i ≠ 0 → i ≠ 11 → i ≠ 12 → mI (mpI (mpI (mpI u 42 0 0) 42 12 (nI (w.2.2.2.length + 1))) 42 11 0) 42 i = mI u 42 i := fun i x1 x2 x3 => by rw [up_ne _ _ (by omega), up_ne _ _ (by omega), up_ne _ _ (by omega)]
  have aR : ∀ p, p ≠ 42 → mI (mpI (mpI (mpI u 42 0 0) 42 12 (nI (w.2.2.2.length + 1))) 42 11 0) p = mI u p := fun p hp => funext fun i => by rw [up_ne _ _ (by omega), up_ne _ _ (by omega), up_ne _ _ (by omega)]
  generalize mpI (mpI (mpI u 42 0 0) 42 12 (nI (w.2.2.2.length + 1))) 42 11 0 = y at f6 a12 a11 aO aR ⊢
  have hry := f6.rR hr
  have kE := fun v e1 e2 e3 e4 => k n v ed (by omega) h1 hl e1 e2 e3 e4
  refine pk_eq n 5 (fun z5 => ?_) (fun z5 => ?_) rfl k5
  · refine m_peb (T := t.2.2) (P := w.2.2.1) (c := w.2.1.1) (A := w.2.2.2.length + 1) hry (by rw [aO 7 (by omega) (by omega) (by omega), w7]) (by omega) (by rw [aO 10 (by omega) (by omega) (by omega), w10]) (fun d hd => by have := o4 d hd; omega) a12 (by omega) (by rw [aO 19 (by omega) (by omega) (by omega), hrt.2.1]) hot.2.2.2.1 (fun k s hk => ?_) (fun s hs => ⟨(hot.2.2.2.2 s hs).1, hpb s hs⟩) (fun v f v1 v2 v3 => ?_)
    · have := hrt.2.2.2 k s hk
      unfold rOne at this ⊢
      rw [aR 51 (by omega), aR 52 (by omega), aR 53 (by omega), aR 54 (by omega), aR 55 (by omega)]
      exact this
    · have eT : acT h w t n = (t.1, t.2.1, t.2.2.map shPeb) := by unfold acT; rw [if_pos z5]
      have eC : acC h w n = w.2.1 := by unfold acC; rw [if_pos z5]
      refine m_actEnd hr hh hw hrh hrw' hrt h1 (by omega) hl (f6.tr (f.up (fun p i e => pP_A e))) ?_ ?_ ?_ ?_ ?_ ?_ ?_ ?_ (fun k s hk => ?_) kE
      · rw [f.at rfl, aO 7 (by omega) (by omega) (by omega), w7, eC]
      · rw [f.at rfl, aO 8 (by omega) (by omega) (by omega), w8, eC]
      · rw [f.at rfl, aO 9 (by omega) (by omega) (by omega), w9, eC]
      · rw [v1]; unfold acP; rw [if_pos z5]
      · rw [f.at rfl, a11]; unfold acB; rw [if_pos z5]; rfl
      · rw [f.at rfl, a12]
      · rw [f.at rfl, aO 19 (by omega) (by omega) (by omega), hrt.2.1, eT]; simp
      · rw [f.at rfl, aO 20 (by omega) (by omega) (by omega), hrt.2.2.1, eT]
      · rw [eT] at hk
        dsimp only at hk
        rw [List.getElem?_map] at hk
        cases hk' : t.2.2[k]? with
        | none => rw [hk'] at hk; simp at hk
        | some s0 =>
          rw [hk'] at hk
          have : s = shPeb s0 := by simpa using hk.symm
          subst this
          obtain ⟨c1, c2⟩ := v2 k s0 hk'
          have hm := List.mem_of_getElem? hk'
          obtain ⟨p1, p2, p3⟩ := oHi_peb (e := acE h w n) (htr s0 hm) (hot.2.2.2.2 s0 hm).1 z5
          refine ⟨c1, fun i hi => ?_⟩
          have hi' : i ≤ w.2.2.2.length + 1 := by simpa [acW] using hi
          show _ = nI (xPl (shPeb s0) (w.2.2.2 ++ [acE h w n]) i)
          by_cases zi : i = w.2.2.2.length + 1
          · rw [zi, p3, c2]
          · rw [v3 k i zi (by omega), p2 i (by omega), aR 56 (by omega)]
            exact hhi k s0 hk' i (by omega)
  · refine m_stand (h := h) (w := w) (by rw [aO 7 (by omega) (by omega) (by omega), w7]) (by rw [aO 8 (by omega) (by omega) (by omega), w8]) (by rw [aO 9 (by omega) (by omega) (by omega), w9]) (fun y2 g2 hs2 => ?_)
    have f62 := f6.tr (g2.up (fun p i e => pS_A e))
    refine m_step (h := h) (f62.rR hr) hh (hrh.fr f62 rfl (fun _ => rfl) (fun _ => rfl) (fun _ => rfl) (fun _ => rfl)) ⟨o2, o3⟩ hs2 (by omega) (fun y3 g3 hs3 e37 => ?_)
    have f63 := f62.tr (g3.up (fun p i e => pS_A e))
    have eC : (xStep h w.2.1 n).getD w.2.1 = acC h w n := by unfold acC; rw [if_neg z5]
    have eB : (xStep h w.2.1 n).isNone = acB h w n := by unfold acB; rw [if_neg z5]
    have eP : acP w n = w.2.2.1 := by unfold acP; rw [if_neg z5]
    rw [eC] at hs3
    rw [eB] at e37
    obtain ⟨e34, e35, e36⟩ := hs3
    obtain ⟨⟨q1, q2⟩, q3⟩ := ac_ok hh hw h1 (a := n) (by omega)
    rw [e34]
    rintro _ rfl
    rw [up_ne _ _ (by omega), e35]
    rintro _ rfl
    rw [up_ne _ _ (by omega), up_ne _ _ (by omega), e36]
    refine ⟨by cases (acC h w n).2.2 <;> simp [b2i], ?_⟩
    rintro _ rfl
    rw [up_ne _ _ (by omega), up_ne _ _ (by omega), up_ne _ _ (by omega), e37]
    refine ⟨by cases acB h w n <;> simp [b2i], ?_⟩
    rintro _ rfl _ rfl
    have b7 : mI (mpI (mpI (mpI (mpI (mpI y3 42 7 (nI (acC h w n).1)) 42 8 (nI (acC h w n).2.1)) 42 9 (b2i (acC h w n).2.2)) 42 11 (b2i (acB h w n))) 42 27 0) 42 7 = nI (acC h w n).1 := by rw [up_ne _ _ (by omega), up_ne _ _ (by omega), up_ne _ _ (by omega), up_ne _ _ (by omega), up_eq]
    have b8 : mI (mpI (mpI (mpI (mpI (mpI y3 42 7 (nI (acC h w n).1)) 42 8 (nI (acC h w n).2.1)) 42 9 (b2i (acC h w n).2.2)) 42 11 (b2i (acB h w n))) 42 27 0) 42 8 = nI (acC h w n).2.1 := by rw [up_ne _ _ (by omega), up_ne _ _ (by omega), up_ne _ _ (by omega), up_eq]
    have b9 : mI (mpI (mpI (mpI (mpI (mpI y3 42 7 (nI (acC h w n).1)) 42 8 (nI (acC h w n).2.1)) 42 9 (b2i (acC h w n).2.2)) 42 11 (b2i (acB h w n))) 42 27 0) 42 9 = b2i (acC h w n).2.2 := by rw [up_ne _ _ (by omega), up_ne _ _ (by omega), up_eq]
    have b11 : mI (mpI (mpI (mpI (mpI (mpI y3 42 7 (nI (acC h w n).1)) 42 8 (nI (acC h w n).2.1)) 42 9 (b2i (acC h w n).2.2)) 42 11 (b2i (acB h w n))) 42 27 0) 42 11 = b2i (acB h w n) := by rw [up_ne _ _ (by omega), up_eq]
    have b27 : mI (mpI (mpI (mpI (mpI (mpI y3 42 7 (nI (acC h w n).1)) 42 8 (nI (acC h w n).2.1)) 42 9 (b2i (acC h w n).2.2)) 42 11 (b2i (acB h w n))) 42 27 0) 42 27 = 0 := up_eq _ _ _ _
    have fz : fr pA5 u (mpI (mpI (mpI (mpI (mpI y3 42 7 (nI (acC h w n).1)) 42 8 (nI (acC h w n).2.1)) 42 9 (b2i (acC h w n).2.2)) 42 11 (b2i (acB h w n))) 42 27 0) := ((((f63.wp _ rfl).wp _ rfl).wp _ rfl).wp _ rfl).wp _ rfl
    have bO : ∀ i, i ≠ 7 → i ≠ 8 → i ≠ 9 → i ≠ 11 → i ≠ 27 → mI (mpI (mpI (mpI (mpI (mpI y3 42 7 (nI (acC h w n).1)) 42 8 (nI (acC h w n).2.1)) 42 9 (b2i (acC h w n).2.2)) 42 11 (b2i (acB h w n))) 42 27 0) 42 i = mI y3 42 i := fun i x1 x2 x3 x4 x5 => by rw [up_ne _ _ (by omega), up_ne _ _ (by omega), up_ne _ _ (by omega), up_ne _ _ (by omega), up_ne _ _ (by omega)]
    have bR : ∀ p, p ≠ 42 → mI (mpI (mpI (mpI (mpI (mpI y3 42 7 (nI (acC h w n).1)) 42 8 (nI (acC h w n).2.1)) 42 9 (b2i (acC h w n).2.2)) 42 11 (b2i (acB h w n))) 42 27 0) p = mI u p := fun p hp => funext fun i => by
      rw [up_ne _ _ (by omega), up_ne _ _ (by omega), up_ne _ _ (by omega), up_ne _ _ (by omega), up_ne _ _ (by omega), g3.at (by simp [pS, hp]), g2.at (by simp [pS, hp]), aR p hp]
    generalize (mpI (mpI (mpI (mpI (mpI y3 42 7 (nI (acC h w n).1)) 42 8 (nI (acC h w n).2.1)) 42 9 (b2i (acC h w n).2.2)) 42 11 (b2i (acB h w n))) 42 27 0) = z at b7 b8 b9 b11 b27 fz bO bR ⊢
    have zO : ∀ i, i = 10 ∨ i = 18 ∨ i = 19 ∨ i = 20 → mI z 42 i = mI u 42 i := by
      rintro i (rfl | rfl | rfl | rfl) <;> rw [bO _ (by omega) (by omega) (by omega) (by omega) (by omega), g3.at rfl, g2.at rfl, aO _ (by omega) (by omega) (by omega)]
    have z12 : mI z 42 12 = nI (w.2.2.2.length + 1) := by rw [bO _ (by omega) (by omega) (by omega) (by omega) (by omega), g3.at rfl, g2.at rfl, a12]
    have z10 : mI z 42 10 = pbI (acP w n) := by rw [zO 10 (by omega), w10, eP]
    have hone : ∀ k s, t.2.2[k]? = some s → rOne s k z ∧ rHi s w.2.2.2 k z := fun k s hk => by
      refine ⟨?_, ?_⟩
      · have := hrt.2.2.2 k s hk
        unfold rOne at this ⊢
        rw [bR 51 (by omega), bR 52 (by omega), bR 53 (by omega), bR 54 (by omega), bR 55 (by omega)]
        exact this
      · have := hhi k s hk
        unfold rHi at this ⊢
        rw [bR 56 (by omega)]
        exact this
    have ox : oCx h (acC h w n).1 (acP w n) t.1 t.2.2 w.2.2.2 := ⟨hh, q1, q3, (hot.1 h1).2, hot.2.2.2.1, hl, fun e he => (hw.2.2.2 e he).1, fun s hs => ⟨(hot.2.2.2.2 s hs).1, htr s hs⟩⟩
    have ax : aCx h (acC h w n).1 (acP w n) (acB h w n) t.1 t.2.2 w.2.2.2 z := ⟨fz.rR hr, hrh.fr fz rfl (fun _ => rfl) (fun _ => rfl) (fun _ => rfl) (fun _ => rfl), b7, z10, b11, by rw [zO 18 (by omega), hrt.1], z12, by rw [zO 19 (by omega), hrt.2.1], hone⟩
    have eT : acT h w t n = atAdv t n (acB h w n) (h.2.1 (acC h w n).1) (acH h w n) := by unfold acT; rw [if_neg z5]
    have eW : (acW h w n).2.2.2 = w.2.2.2 ++ [acE h w n] := rfl
    have tail : ∀ (sp : Bool) (L : List aSh) (y : mSt), fr pN z y → mI y 42 20 = b2i sp → (acT h w t n).2 = (sp, if sp = true then [] else L) → (sp = false → L.length ≤ 150 ∧ mI y 42 27 = nI L.length ∧ ∀ j s, L[j]? = some s → nOne s j y ∧ nHi s (w.2.2.2 ++ [acE h w n]) j y ∧ s.1 ≤ 6 ∧ ∀ i, i ≤ (w.2.2.2 ++ [acE h w n]).length → xPl s (w.2.2.2 ++ [acE h w n]) i < 8) → bX9_act_178 42 (nI n) y K := by
      intro sp L y fy y20 eT2 hL
      have fu := fz.tr (fy.up (fun p i e => pN_A e))
      unfold bX9_act_178
      refine m_takeCome (sp := sp) (L := L) (evs := w.2.2.2 ++ [acE h w n]) (fu.rR hr) y20 (by rw [fy.at rfl, z12]; simp) (by simp; omega) hL (fun v fv v19 vs => ?_)
      have fuv := fu.tr (fv.up (fun p i e => pT9_A e))
      refine m_actEnd hr hh hw hrh hrw' hrt h1 (by omega) hl fuv ?_ ?_ ?_ ?_ ?_ ?_ ?_ ?_ (fun k s hk => ?_) kE
      · rw [fv.at rfl, fy.at rfl, b7]
      · rw [fv.at rfl, fy.at rfl, b8]
      · rw [fv.at rfl, fy.at rfl, b9]
      · rw [fv.at rfl, fy.at rfl, z10]
      · rw [fv.at rfl, fy.at rfl, b11]
      · rw [fv.at rfl, fy.at rfl, z12]
      · rw [v19, eT2]
      · rw [fv.at rfl, y20, eT2]
      · rw [eT2] at hk
        exact vs k s hk
    by_cases zs : t.2.1 = true
    · have hnil := hot.2.2.1 zs
      refine ⟨1, ?_⟩
      unfold bX9_act_117
      rw [zO 19 (by omega), hrt.2.1, hnil]
      refine br_t (by decide) (tail true [] z (fr.rf _ _) (by rw [zO 20 (by omega), hrt.2.2.1, zs]) ?_ (fun q => by cases q))
      rw [eT]
      unfold atAdv
      rw [zs]; rfl
    · have zs : t.2.1 = false := by simpa using zs
      refine m_adv (e := acE h w n) ox ax (by omega) rfl b27 (by rw [zO 20 (by omega), hrt.2.2.1, zs]; rfl) (fun y ry => ?_)
      obtain ⟨r1, r2, r3, r4⟩ := ry
      have eL : t.2.2.flatMap (shNew t.1 n (acB h w n) (h.2.1 (acC h w n).1) (decide (acP w n = some (acC h w n).1))) = atNew t n (acB h w n) (h.2.1 (acC h w n).1) (acH h w n) := rfl
      rw [eL] at r2 r3 r4
      refine tail _ (atNew t n (acB h w n) (h.2.1 (acC h w n).1) (acH h w n)) y r1 r3 ?_ (fun q => ?_)
      · rw [eT]
        unfold atAdv
        rw [zs, Bool.false_or]
      · have q : ¬ 150 < (atNew t n (acB h w n) (h.2.1 (acC h w n).1) (acH h w n)).length := by simpa using q
        refine ⟨by omega, by rw [r2]; congr 1; omega, fun j s hj => ?_⟩
        have hjl := (List.getElem?_eq_some_iff.mp hj).1
        obtain ⟨n1, n2, n3⟩ := r4 j s (by omega) hj
        obtain ⟨g1, g2, g3', g4, g5⟩ := acNew_ok hh hw hot hpb htr h1 (a := n) (by omega) (List.mem_of_getElem? hj)
        exact ⟨n1, n2, n3, fun i hi => Nat.lt_of_lt_of_le (xPl_lt g1 g3' (i := i) hi) (by omega)⟩
