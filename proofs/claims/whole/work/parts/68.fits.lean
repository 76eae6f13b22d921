/-! FITS: the hand as a sheet -/
def hDg (x d : Nat) : Nat := if d = 7 then 0 else if d = 6 then (if x % 5 = 4 then x / 5 + 2 else 1) else d + 2
theorem hDg_I (x d : Nat) : lI (hDg x d) = hdI x d := by
  unfold hDg hdI
  by_cases z : d = 7
  · rw [if_pos z, if_pos z]; rfl
  · rw [if_neg z, if_neg z]
    by_cases z2 : d = 6
    · rw [if_pos z2, if_pos z2]
      by_cases z3 : x % 5 = 4
      · rw [if_pos z3, if_pos z3]; rfl
      · rw [if_neg z3, if_neg z3]; rfl
    · rw [if_neg z2, if_neg z2]; rfl
theorem hDg_lt {x d : Nat} (hx : x < 30) (hd : d < 8) : hDg x d < 8 := by
  unfold hDg
  split
  · omega
  · split
    · split <;> omega
    · omega
def hTo (d : aHd) (c : Nat × Option Nat) (e : aEv) : Option (Nat × Bool × Option Nat) := if e.1 = 5 then some (c.1, false, xMv c.2 c.1) else match hDg (5 * c.1 + e.1) (d.2 (5 * c.1 + e.1)) with
  | 0 => none
  | 1 => some (c.1, true, c.2)
  | q + 2 => some (q, false, c.2)
def hOk (d : aHd) (r : Nat × Bool × Option Nat) (e : aEv) : Bool := decide (r.2.1 = e.2.1) && (decide (d.1 r.1 = e.2.2.1) && decide (decide (r.2.2 = some r.1) = e.2.2.2))
def hSt1 (d : aHd) (c : Nat × Option Nat) (e : aEv) : Option (Nat × Option Nat) := match hTo d c e with
  | none => none
  | some r => if hOk d r e = true then some (r.1, r.2.2) else none
def xFit (d : aHd) : List aEv → Nat × Option Nat → Nat → Int32
  | [], _, _ => 0
  | e :: es, c, i => match hSt1 d c e with
    | none => nI (i + 1)
    | some c' => xFit d es c' (i + 1)
def oC6 (c : Nat × Option Nat) : Prop := c.1 < 6 ∧ ∀ q, c.2 = some q → q < 6
theorem hSt1_ok {d : aHd} {c c' : Nat × Option Nat} {e : aEv} (hd : oHd d) (hc : oC6 c) (he : e.1 < 6) (h : hSt1 d c e = some c') : oC6 c' := by
  unfold hSt1 at h
  cases ht : hTo d c e with
  | none => rw [ht] at h; cases h
  | some r =>
    rw [ht] at h
    dsimp only at h
    split at h
    · cases h
      unfold hTo at ht
      split at ht
      · cases ht
        exact ⟨hc.1, xMv_lt hc.2 hc.1⟩
      · have hlt : 5 * c.1 + e.1 < 30 := by have := hc.1; omega
        have hg := hDg_lt hlt (hd.2 _ hlt)
        generalize hDg (5 * c.1 + e.1) (d.2 (5 * c.1 + e.1)) = l at *
        match l, ht, hg with
        | 0, ht, hg => cases ht
        | 1, ht, hg => cases ht; exact hc
        | q + 2, ht, hg => cases ht; exact ⟨by show q < 6; omega, hc.2⟩
    · cases h
theorem s_hSight {d : aHd} {p : Nat} {P : Option Nat} {b : Bool} {x : Int32} {u : mSt} {K : Int32 → mSt → Prop} (hx : x = b2i b) (hc : cHd d u) (e4 : mI u 19 4 = pbI P) (hP : ∀ q, P = some q → q < 6) (r0 : mR u 19 0 = some 20) (hp : p < 6) (k : K (nI (sgI b (d.1 p) (decide (P = some p)))) u) : bX4_sightAt 19 (nI p) x u K := by
  unfold bX4_sightAt
  refine ⟨20, r0, vp_in_nI (by omega) (by decide), ?_⟩
  rw [nI_clamp (by omega), hc.1 p hp, e4, pb_eq (fun d hd => by have := hP d hd; omega) (by omega), hx]
  unfold bX4_sightAt_20
  refine br_c (fun z => ?_) (fun z => ?_)
  · simp only [z, decide_true] at k
    exact s_sightOf b true k
  · simp only [z, decide_false] at k
    exact s_sightOf b false k
theorem s_hLead {d : aHd} {p a : Nat} {u : mSt} {K : Int32 → mSt → Prop} (hc : cHd d u) (r1 : mR u 19 1 = some 21) (hp : p < 6) (ha : a < 5) (k : K (lI (hDg (5 * p + a) (d.2 (5 * p + a)))) u) : bX4_leadFrom 19 (nI p) (nI a) u K := by
  unfold bX4_leadFrom
  refine ⟨21, r1, ?_⟩
  rw [ix5c, nI_clamp (by omega), hc.2 _ (by omega), ← hDg_I]
  exact ⟨vp_in_nI (by omega) (by decide), k⟩
def p19 : Nat → Nat → Bool := fun p _ => p == 19
theorem cHd.fr {d : aHd} {u v : mSt} (h : cHd d u) (f : fr p19 u v) : cHd d v := by
  unfold cHd
  rw [f.row (p := 20) (fun _ => rfl), f.row (p := 21) (fun _ => rfl)]; exact h
theorem s_follow {d : aHd} {c : Nat × Option Nat} {e : aEv} {y : mSt} {K : Int32 → mSt → Prop} (hr : cRf y) (hd : oHd d) (hch : cHd d y) (hc : oC6 c) (e3 : mI y 19 3 = nI c.1) (e4 : mI y 19 4 = pbI c.2) (he : e.1 < 6) (he4 : e.2.2.1 < 4)
    (k0' : hSt1 d c e = none → ∀ v, fr p19 y v → K 0 v) (k1' : ∀ c' v, hSt1 d c e = some c' → fr p19 y v → mI v 19 3 = nI c'.1 → mI v 19 4 = pbI c'.2 → K 1 v) : bX4_follow 19 (nI e.1) (nI (sgI e.2.1 e.2.2.1 e.2.2.2)) y K := by
  obtain ⟨c1, c2⟩ := hc
  have r0 := hr.get 19 0 20 (by decide)
  have r1 := hr.get 19 1 21 (by decide)
  have hP' : ∀ q, c.2 = some q → q < 2 ^ 31 := fun q hq => by have := c2 q hq; omega
  have okE : ∀ (q : Nat) (b : Bool) (P : Option Nat), q < 6 → (nI (sgI b (d.1 q) (decide (P = some q))) = nI (sgI e.2.1 e.2.2.1 e.2.2.2) ↔ hOk d (q, b, P) e = true) := fun q b P hq => by
    rw [sg_eq (hd.1 q hq) he4]
    unfold hOk
    simp only [Bool.and_eq_true, decide_eq_true_eq]
  unfold hSt1 hTo at k0' k1'
  unfold bX4_follow
  refine pk_eq e.1 5 (fun z => ?_) (fun z => ?_) rfl k5
  · rw [if_pos z] at k0' k1'
    dsimp only at k0' k1'
    have go : ∀ v, fr p19 y v → mI v 19 3 = nI c.1 → mI v 19 4 = pbI (xMv c.2 c.1) → bX4_sightAt 19 (mI v 19 3) 0 v (fun r_13 u_12 => ((r_13 = nI (sgI e.2.1 e.2.2.1 e.2.2.2) → K 1 u_12) ∧ (¬ (r_13 = nI (sgI e.2.1 e.2.2.1 e.2.2.2)) → K 0 u_12))) := by
      intro v f v3 v4
      rw [v3]
      refine s_hSight (b := false) rfl (hch.fr f) v4 (xMv_lt c2 c1) ((f.cR hr).get 19 0 20 (by decide)) c1 ?_
      rw [okE _ _ _ c1]
      refine br_c (fun q => ?_) (fun q => ?_)
      · exact k1' (c.1, xMv c.2 c.1) v (by rw [if_pos q]) f v3 v4
      · exact k0' (by rw [if_neg q]) v f
    unfold bX4_movePebble
    rw [e4, e3, pb_m2 hP']
    refine br_c (fun z1 => ?_) (fun z1 => ?_)
    · rintro _ rfl
      exact go _ (fr.pI _ y _ rfl) (by rw [up_ne _ _ (by omega)]; exact e3) (by rw [up_eq, z1]; rfl)
    · obtain ⟨q, hq⟩ : ∃ q, c.2 = some q := by
        cases hh : c.2 with
        | none => exact absurd hh z1
        | some q => exact ⟨q, rfl⟩
      rw [pb_eq hP' (by omega), hq]
      rw [hq] at go
      refine br_c (fun z2 => ?_) (fun z2 => ?_)
      · cases z2
        rintro _ rfl
        exact go _ (fr.pI _ y _ rfl) (by rw [up_ne _ _ (by omega)]; exact e3) (by rw [up_eq]; simp [xMv, pbI])
      · refine go y (fr.rf _ _) e3 ?_
        rw [e4, hq]
        simp only [xMv]
        rw [if_neg (fun z3 => z2 (by rw [z3]))]
  · rw [if_neg z] at k0' k1'
    have hlt : 5 * c.1 + e.1 < 30 := by omega
    have hg := hDg_lt hlt (hd.2 _ hlt)
    unfold bX4_sightAfter
    rw [e3]
    have e5 : e.1 < 5 := by omega
    refine s_hLead hch r1 c1 e5 ?_
    have pl : ∀ q : Nat, q < 6 → (∀ v, fr p19 y v → mI v 19 3 = nI q → mI v 19 4 = pbI c.2 → K 1 v) → ((0 ≤ lI (hDg (5 * c.1 + e.1) (d.2 (5 * c.1 + e.1))) → lI (hDg (5 * c.1 + e.1) (d.2 (5 * c.1 + e.1))) = nI q) ∧ (¬ 0 ≤ lI (hDg (5 * c.1 + e.1) (d.2 (5 * c.1 + e.1))) → c.1 = q)) → bX4_placeAfter 19 (mI y 19 3) (nI e.1) y (fun r_6 u_5 => (∀ u_7, u_7 = mpI u_5 19 3 r_6 → K 1 u_7)) := by
      intro q hq kq hh
      unfold bX4_placeAfter
      rw [e3]
      refine s_hLead hch r1 c1 e5 (br_c (fun z => ?_) (fun z => ?_))
      · rintro _ rfl
        rw [hh.1 z]
        exact kq _ (fr.pI _ y _ rfl) (up_eq _ _ _ _) (by rw [up_ne _ _ (by omega)]; exact e4)
      · rintro _ rfl
        rw [hh.2 z]
        exact kq _ (fr.pI _ y _ rfl) (up_eq _ _ _ _) (by rw [up_ne _ _ (by omega)]; exact e4)
    generalize hDg (5 * c.1 + e.1) (d.2 (5 * c.1 + e.1)) = l at *
    match l, hg, k0', k1', pl with
    | 0, hg, k0', k1', pl =>
      have hl4 := sg_lt e.2.1 e.2.2.2 he4
      refine br_t rfl (br_f (fun q => ?_) (k0' rfl y (fr.rf _ _)))
      exact nI_m3 (by omega) q.symm
    | 1, hg, k0', k1', pl =>
      refine br_f (by decide) (br_t rfl (s_hSight (b := true) rfl hch e4 c2 r0 c1 ?_))
      dsimp only at k0' k1' ⊢
      rw [okE _ _ _ c1]
      refine br_c (fun q => ?_) (fun q => k0' (by rw [if_neg q]) y (fr.rf _ _))
      exact pl c.1 c1 (fun v f v3 v4 => k1' (c.1, c.2) v (by rw [if_pos q]) f v3 v4) ⟨fun h => absurd h (by decide), fun _ => rfl⟩
    | n + 2, hg, k0', k1', pl =>
      refine br_f (nI_m3 (by omega)) (br_f (nI_m2 (by omega)) (s_hSight (b := false) rfl hch e4 c2 r0 (by omega) ?_))
      dsimp only at k0' k1' ⊢
      rw [okE _ _ _ (by omega)]
      refine br_c (fun q => ?_) (fun q => k0' (by rw [if_neg q]) y (fr.rf _ _))
      exact pl n (by omega) (fun v f v3 v4 => k1' (n, c.2) v (by rw [if_pos q]) f v3 v4) ⟨fun _ => rfl, fun h => absurd (by rw [lI_neg (by omega)]; omega) h⟩
def xFits (h : aHo) (w : aWk) (d : aHd) : Int32 := if w.1 = false then -2 else if d.1 0 = h.2.1 0 then xFit d w.2.2.2 (0, none) 0 else -4
theorem C_fits {h : aHo} {w : aWk} {d : aHd} {u : mSt} {K : Int32 → mSt → Prop} (hr : cRf u) (hh : oHo h) (hw : oWk h w) (hd : oHd d) (hc : cHo h u) (hk : cWk w u) (hch : cHd d u) (k : ∀ v, fr p19 u v → K (xFits h w d) v) : bX8_fits 0 u K := by
  have hwl := hw.2.2.1
  have loop : ∀ n i c y, i + n = w.2.2.2.length → oC6 c → fr p19 u y → mI y 19 3 = nI c.1 → mI y 19 4 = pbI c.2 → (∀ v, fr p19 u v → K (xFit d (w.2.2.2.drop i) c i) v) → bX8_fits_43 (n + 1) 0 (nI i) y K := by
    intro n
    induction n with
    | zero =>
      intro i c y hn oc f y3 y4 kk
      unfold bX8_fits_43
      refine ⟨6, (f.cR hr).get 0 1 6 (by decide), ?_⟩
      rw [f.at rfl, hk.2.1]
      rw [List.drop_of_length_le (by omega)] at kk
      exact br_t (nI_le (by omega) (by omega)) (kk y f)
    | succ n ih =>
      intro i c y hn oc f y3 y4 kk
      have hil : i < w.2.2.2.length := by omega
      have hge := List.getElem?_eq_getElem hil
      rw [List.drop_eq_getElem_cons hil] at kk
      generalize w.2.2.2[i] = e at hge kk
      have he := hw.2.2.2 e (List.mem_of_getElem? hge)
      have j : vp_in (nI i) 200 := vp_in_nI (by omega) (by decide)
      unfold bX8_fits_43
      refine ⟨6, (f.cR hr).get 0 1 6 (by decide), ?_⟩
      rw [f.at rfl, hk.2.1, nI_clamp (by omega)]
      refine br_f (nI_ge (by omega) (by omega)) ⟨19, (f.cR hr).get 0 5 19 (by decide), 6, (f.cR hr).get 0 1 6 (by decide), 7, (f.cR hr).get 6 0 7 (by decide), j, 6, (f.cR hr).get 0 1 6 (by decide), 8, (f.cR hr).get 6 1 8 (by decide), j, ?_⟩
      rw [f.at (p := 7) rfl, f.at (p := 8) rfl, (hk.2.2.2 i e hge).1, (hk.2.2.2 i e hge).2]
      refine s_follow (f.cR hr) hd (hch.fr f) oc y3 y4 he.1 he.2 (fun e0 v g => br_t rfl ?_) (fun c' v e0 g v3 v4 => br_f (by decide) ?_)
      · simp only [xFit, e0] at kk
        rw [nI_1]
        exact kk v (f.tr g)
      · simp only [xFit, e0] at kk
        rintro _ rfl
        rw [nI_1]
        exact ih (i + 1) c' v (by omega) (hSt1_ok hd oc he.1 e0) (f.tr g) v3 v4 kk
  unfold bX8_fits
  unfold xFits at k
  rw [hk.1, b2i_0]
  refine br_c (fun q => ?_) (fun q => ⟨19, hr.get 0 5 19 (by decide), ?_⟩)
  · rw [if_pos q] at k; exact k u (fr.rf _ _)
  · rw [if_neg q] at k
    have h1 : w.1 = true := by simpa using q
    have h0 := (hw.1 h1).1
    have h10 := hh.1
    unfold bX4_returnToStart
    rintro _ rfl _ rfl
    have f : fr p19 u (mpI (mpI u 19 3 0) 19 4 (-2)) := ((fr.rf _ u).wp _ rfl).wp _ rfl
    have i0 : ∀ n, 0 < n → n < 2 ^ 31 → vp_in (0 : Int32) n := fun n h1 h2 => by rw [k0]; exact vp_in_nI h1 h2
    have c0 : (0 : Int32).toNatClampNeg = 0 := by decide
    refine ⟨19, (f.cR hr).get 0 5 19 (by decide), 20, (f.cR hr).get 19 0 20 (by decide), i0 6 (by decide) (by decide), 1, (f.cR hr).get 0 0 1 (by decide), 2, (f.cR hr).get 1 0 2 (by decide), i0 10 (by decide) (by decide), ?_⟩
    rw [c0, (hch.fr f).1 0 (by omega), f.at (p := 2) rfl, (hc.2.1 0 h0).1]
    have hs1 := hd.1 0 (by omega)
    have hs2 := hh.2.1 0 h0
    refine pk_eq (d.1 0) (h.2.1 0) (fun z => ?_) (fun z => ?_) rfl rfl
    · rw [if_pos z] at k
      have := loop w.2.2.2.length 0 (0, none) _ (by omega) ⟨by decide, fun q h => by cases h⟩ f (by rw [up_ne _ _ (by omega), up_eq]; exact k0) (by rw [up_eq]; rfl) (by simpa using k)
      rw [nI_0] at this
      exact ⟨_, this⟩
    · rw [if_neg z] at k
      exact k _ f
theorem m_fitEnd {d : aHd} {e : aEv} {q i : Nat} {b : Bool} {P : Option Nat} {v5 : Int32} {u : mSt} {K : Int32 → mSt → Prop} {KL : Nat → Int32 → Int32 → Int32 → mSt → Prop} (hr : rRf u) (hd : oHd d) (hrd : rHd d u) (hq : q < 6) (hP : ∀ x, P = some x → x < 6) (hi : i < 200) (he4 : e.2.2.1 < 4) (w48 : mI u 48 i = b2i e.2.1) (w49 : mI u 49 i = nI e.2.2.1) (w50 : mI u 50 i = b2i e.2.2.2) (hv : v5 = b2i b)
    (ky : hOk d (q, b, P) e = true → KL 42 (nI q) (pbI P) (nI (i + 1)) u) (kn : hOk d (q, b, P) e = false → K (nI (i + 1)) u) : bX9_fits__144 42 (nI q) (pbI P) (nI i) v5 u K KL := by
  have j : vp_in (nI i) 200 := vp_in_nI (by omega) (by decide)
  have bb : ∀ a c : Bool, b2i a = b2i c ↔ a = c := by decide
  have go : bX9_fits__154 42 (nI q) (pbI P) (nI i) (b2i b) u K KL := by
    unfold bX9_fits__154
    refine ⟨48, hr.get 42 14 48 (by decide), j, ?_⟩
    rw [nI_clamp (by omega), w48, bb]
    refine br_c (fun z => ⟨66, hr.get 42 42 66 (by decide), vp_in_nI (by omega) (by decide), 49, hr.get 42 15 49 (by decide), j, ?_⟩) (fun z => ?_)
    · rw [nI_clamp (by omega), hrd.1 q hq, w49]
      have h1 := hd.1 q hq
      refine pk_eq (d.1 q) e.2.2.1 (fun z2 => ?_) (fun z2 => ?_) rfl rfl
      · have en : bX9_fits__188 42 (nI q) (pbI P) (nI i) (b2i (decide (P = some q))) u K KL := by
          unfold bX9_fits__188
          refine ⟨50, hr.get 42 16 50 (by decide), j, ?_⟩
          rw [nI_clamp (by omega), w50, bb]
          refine br_c (fun z3 => ?_) (fun z3 => ?_)
          · rintro _ rfl
            rw [nI_1]
            exact ky (by unfold hOk; simp only [z, z2, z3, decide_true, Bool.and_self])
          · rw [nI_1]
            exact kn (by unfold hOk; simp only [z, z2, z3, decide_true, decide_false, Bool.and_false])
        rw [pb_eq (fun x hx => by have := hP x hx; omega) (by omega)]
        refine br_c (fun z3 => ?_) (fun z3 => ?_)
        · simp only [z3, decide_true] at en; rw [z3]; exact en
        · simp only [z3, decide_false] at en; exact en
      · rw [nI_1]
        exact kn (by unfold hOk; simp only [z2, decide_false, Bool.false_and, Bool.and_false])
    · rw [nI_1]
      exact kn (by unfold hOk; simp only [z, decide_false, Bool.false_and])
  unfold bX9_fits__144
  rw [hv]
  cases b
  · exact br_t rfl go
  · exact br_f (by decide) go
theorem M_fits {h : aHo} {w : aWk} {d : aHd} {u : mSt} {K : Int32 → mSt → Prop} (hr : rRf u) (hh : oHo h) (hw : oWk h w) (hd : oHd d) (hrw : rWk h w u) (hrd : rHd d u) (k : K (xFits h w d) (mpI u 42 0 0)) : bX9_fits_ 42 u K := by
  have hwl := hw.2.2.1
  have hR : rRf (mpI u 42 0 0) := hr.of rfl
  have hD : rHd d (mpI u 42 0 0) := by unfold rHd; rw [th_ne u (by decide), th_ne u (by decide)]; exact hrd
  have loop : ∀ n i c, i + n = w.2.2.2.length → oC6 c → K (xFit d (w.2.2.2.drop i) c i) (mpI u 42 0 0) → bX9_fits__38 (n + 1) 42 (nI c.1) (pbI c.2) (nI i) (mpI u 42 0 0) K := by
    intro n
    induction n with
    | zero =>
      intro i c hn oc kk
      unfold bX9_fits__38
      rw [up_ne _ _ (by omega), hrw.2.1]
      rw [List.drop_of_length_le (by omega)] at kk
      exact br_t (nI_le (by omega) (by omega)) kk
    | succ n ih =>
      intro i c hn oc kk
      have hil : i < w.2.2.2.length := by omega
      have hge := List.getElem?_eq_getElem hil
      rw [List.drop_eq_getElem_cons hil] at kk
      generalize w.2.2.2[i] = e at hge kk
      have he := hw.2.2.2 e (List.mem_of_getElem? hge)
      have j : vp_in (nI i) 200 := vp_in_nI (by omega) (by decide)
      obtain ⟨w47, w48, w49, w50⟩ := hrw.2.2.2 i e hge
      have c1 := oc.1
      have hP' : ∀ q, c.2 = some q → q < 2 ^ 31 := fun q hq => by have := oc.2 q hq; omega
      have fin : ∀ q b P v5, hTo d c e = some (q, b, P) → q < 6 → (∀ x, P = some x → x < 6) → v5 = b2i b → bX9_fits__144 42 (nI q) (pbI P) (nI i) v5 (mpI u 42 0 0) K (fun z0 z1 z2 z3 z4 => bX9_fits__38 (n + 1) z0 z1 z2 z3 z4 K) := by
        intro q b P v5 ht hq hP hv
        refine m_fitEnd (d := d) (e := e) (b := b) hR hd hD hq hP (by omega) he.2 (by rw [up_ne _ _ (by omega)]; exact w48) (by rw [up_ne _ _ (by omega)]; exact w49) (by rw [up_ne _ _ (by omega)]; exact w50) hv (fun z => ?_) (fun z => ?_)
        · have e1 : hSt1 d c e = some (q, P) := by unfold hSt1; rw [ht]; dsimp only; rw [if_pos z]
          simp only [xFit, e1] at kk
          exact ih (i + 1) (q, P) (by omega) ⟨hq, hP⟩ kk
        · have e1 : hSt1 d c e = none := by unfold hSt1; rw [ht]; dsimp only; rw [if_neg (by simp [z])]
          simp only [xFit, e1] at kk
          exact kk
      unfold bX9_fits__38
      rw [up_ne _ _ (by omega), hrw.2.1, nI_clamp (by omega)]
      refine br_f (nI_ge (by omega) (by omega)) ⟨47, hR.get 42 13 47 (by decide), j, ?_⟩
      rw [up_ne _ _ (by omega), w47]
      rintro _ rfl
      refine pk_eq e.1 5 (fun z => ?_) (fun z => ⟨67, hR.get 42 43 67 (by decide), ?_⟩) rfl k5
      · have ht : hTo d c e = some (c.1, false, xMv c.2 c.1) := by unfold hTo; rw [if_pos z]
        have f82 : ∀ x : Int32, x = pbI (xMv c.2 c.1) → bX9_fits__82 42 (nI c.1) (nI i) 0 x (mpI u 42 0 0) K (fun z0 z1 z2 z3 z4 => bX9_fits__38 (n + 1) z0 z1 z2 z3 z4 K) := by
          rintro _ rfl
          unfold bX9_fits__82
          exact fin _ _ _ _ ht c1 (xMv_lt oc.2 c1) rfl
        rw [pb_neg hP', pb_eq hP' (by omega)]
        refine br_c (fun z1 => br_c (fun z2 => f82 _ ?_) (fun z2 => f82 _ ?_)) (fun z1 => f82 _ ?_)
        · rw [z2]; simp [xMv, pbI]
        · cases hc2 : c.2 with
          | none => exact absurd hc2 z1
          | some q =>
            simp only [xMv]
            rw [if_neg (fun z3 => z2 (by rw [hc2, z3]))]
        · have z1 : c.2 = none := by simpa using z1
          rw [z1]; rfl
      · have hlt : 5 * c.1 + e.1 < 30 := by omega
        have hg := hd.2 _ hlt
        have hix : 5 * nI c.1 + nI e.1 = nI (5 * c.1 + e.1) := by rw [k5, pk_mul, nI_add]
        rw [hix, nI_clamp (by omega), up_ne _ _ (by omega), hrd.2 _ hlt]
        refine ⟨vp_in_nI (by omega) (by decide), ?_⟩
        rintro _ rfl
        have ht : ∀ r, (match hDg (5 * c.1 + e.1) (d.2 (5 * c.1 + e.1)) with
            | 0 => none
            | 1 => some (c.1, true, c.2)
            | q + 2 => some (q, false, c.2)) = r → hTo d c e = r := fun r hr => by unfold hTo; rw [if_neg z]; exact hr
        generalize hD2 : d.2 (5 * c.1 + e.1) = dg at *
        refine pk_eq dg 7 (fun z7 => ?_) (fun z7 => pk_eq dg 6 (fun z6 => pk_le 4 e.1 (fun z4 => ?_) (fun z4 => ?_) k4 rfl) (fun z6 => ?_) rfl k6) rfl (by decide)
        · have ht' := ht none (by unfold hDg; rw [if_pos z7])
          have e1 : hSt1 d c e = none := by unfold hSt1; rw [ht']
          simp only [xFit, e1] at kk
          rw [nI_1]; exact kk
        · have ht' := ht (some (c.1, false, c.2)) (by
            unfold hDg
            rw [if_neg z7, if_pos z6, if_pos (by omega), show (5 * c.1 + e.1) / 5 = c.1 by omega])
          unfold bX9_fits__127 bX9_fits__128
          refine br_t (by rw [z6]; decide) ?_
          unfold bX9_fits__143
          exact fin _ _ _ _ ht' c1 oc.2 rfl
        · have ht' := ht (some (c.1, true, c.2)) (by
            unfold hDg
            rw [if_neg z7, if_pos z6, if_neg (by omega)])
          unfold bX9_fits__128
          refine br_t (by rw [z6]; decide) ?_
          unfold bX9_fits__143
          exact fin _ _ _ _ ht' c1 oc.2 rfl
        · have ht' := ht (some (dg, false, c.2)) (by
            unfold hDg
            rw [if_neg z7, if_neg z6])
          unfold bX9_fits__127 bX9_fits__128
          refine br_f (fun q => z6 ?_) ?_
          · rw [k6] at q; exact (nI_eq (by omega) (by omega)).mp q
          · unfold bX9_fits__143
            exact fin _ _ _ _ ht' (by omega) oc.2 rfl
  unfold bX9_fits_
  rintro _ rfl
  unfold xFits at k
  rw [up_ne _ _ (by omega), hrw.1, b2i_0]
  refine br_c (fun q => ?_) (fun q => ⟨66, hR.get 42 42 66 (by decide), by rw [k0]; exact vp_in_nI (by decide) (by decide), ?_⟩)
  · rw [if_pos q] at k; exact k
  · rw [if_neg q] at k
    have h1 : w.1 = true := by simpa using q
    have h0 := (hw.1 h1).1
    obtain ⟨-, -, -, -, -, w17⟩ := hrw.2.2.1 h1
    rw [show (0 : Int32).toNatClampNeg = 0 by decide, hD.1 0 (by decide), up_ne _ _ (by omega), w17]
    have hs1 := hd.1 0 (by omega)
    have hs2 := hh.2.1 0 h0
    refine pk_eq (d.1 0) (h.2.1 0) (fun z => ?_) (fun z => ?_) rfl rfl
    · rw [if_pos z] at k
      have := loop w.2.2.2.length 0 (0, none) (by omega) ⟨by decide, fun q h => by cases h⟩ (by simpa using k)
      rw [nI_0] at this
      exact ⟨_, this⟩
    · rw [if_neg z] at k
      exact k
