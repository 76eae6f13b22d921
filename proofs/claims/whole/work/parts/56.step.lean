/-! FRAMES: what lies outside P is as it was -/
def fr (P : Nat → Nat → Bool) (u v : mSt) : Prop := (∀ p i, P p i = false → mI v p i = mI u p i) ∧ mR v = mR u ∧ mL v = mL u ∧ mN v = mN u ∧ mT v = mT u
theorem fr.rf (P : Nat → Nat → Bool) (u : mSt) : fr P u u := ⟨fun _ _ _ => rfl, rfl, rfl, rfl, rfl⟩
theorem fr.tr {P : Nat → Nat → Bool} {u v w : mSt} (h : fr P u v) (k : fr P v w) : fr P u w := ⟨fun p i e => (k.1 p i e).trans (h.1 p i e), k.2.1.trans h.2.1, k.2.2.1.trans h.2.2.1, k.2.2.2.1.trans h.2.2.2.1, k.2.2.2.2.trans h.2.2.2.2⟩
theorem fr.pI (P : Nat → Nat → Bool) (u : mSt) {q j : Nat} (x : Int32) (h : P q j = true) : fr P u (mpI u q j x) := ⟨fun p i e => by
  rw [s1, mup_at, if_neg]
  rintro ⟨rfl, rfl⟩
  rw [h] at e
  exact absurd e (by decide), rfl, rfl, rfl, rfl⟩
theorem fr.wp {P : Nat → Nat → Bool} {u v : mSt} (f : fr P u v) {q j : Nat} (x : Int32) (h : P q j = true) : fr P u (mpI v q j x) := f.tr (fr.pI P v x h)
theorem fr.up {Q P : Nat → Nat → Bool} {u v : mSt} (h : fr Q u v) (k : ∀ p i, P p i = false → Q p i = false) : fr P u v := ⟨fun p i e => h.1 p i (k p i e), h.2⟩
theorem fr.at {P : Nat → Nat → Bool} {u v : mSt} (h : fr P u v) {p i : Nat} (e : P p i = false) : mI v p i = mI u p i := h.1 p i e
theorem fr.row {P : Nat → Nat → Bool} {u v : mSt} (h : fr P u v) {p : Nat} (e : ∀ i, P p i = false) : mI v p = mI u p := funext fun i => h.1 p i (e i)
theorem fr.rR {P : Nat → Nat → Bool} {u v : mSt} (h : fr P u v) (hr : rRf u) : rRf v := hr.of h.2.1
theorem fr.cR {P : Nat → Nat → Bool} {u v : mSt} (h : fr P u v) (hr : cRf u) : cRf v := hr.of h.2.1
theorem rHo.fr {h : aHo} {P : Nat → Nat → Bool} {u v : mSt} (hc : rHo h u) (f : fr P u v) (e0 : P 42 1 = false) (e1 : ∀ i, P 43 i = false) (e2 : ∀ i, P 44 i = false) (e3 : ∀ i, P 45 i = false) (e4 : ∀ i, P 46 i = false) : rHo h v := by
  unfold rHo
  rw [f.at e0, f.row e1, f.row e2, f.row e3, f.row e4]; exact hc
theorem cHo.fr {h : aHo} {P : Nat → Nat → Bool} {u v : mSt} (hc : cHo h u) (f : fr P u v) (e0 : P 1 4 = false) (e1 : ∀ i, P 2 i = false) (e2 : ∀ i, P 3 i = false) (e3 : ∀ i, P 4 i = false) (e4 : ∀ i, P 5 i = false) : cHo h v := by
  unfold cHo
  rw [f.at e0, f.row e1, f.row e2, f.row e3, f.row e4]; exact hc
theorem up_eq (u : mSt) (p i : Nat) (x : Int32) : mI (mpI u p i x) p i = x := by simp [s1, mup_at]
theorem up_ne (u : mSt) {p i q j : Nat} (x : Int32) (h : ¬ (q = p ∧ j = i)) : mI (mpI u p i x) q j = mI u q j := by simp only [s1, mup_at]; rw [if_neg h]
theorem nI_m2 {n : Nat} (h : n < 2 ^ 31) : ¬ nI n = -2 := fun e => by have h1 := nI_pos h; rw [e] at h1; exact h1 (by decide)
theorem nI_m3 {n : Nat} (h : n < 2 ^ 31) : ¬ nI n = -3 := fun e => by have h1 := nI_pos h; rw [e] at h1; exact h1 (by decide)
theorem k3 : (3 : Int32) = nI 3 := by decide
theorem k10 : (10 : Int32) = nI 10 := by decide
theorem ixc (c i : Nat) : nI c * 4 + nI i = nI (c * 4 + i) := by rw [k4, pk_mul, nI_add]
theorem ixr (c i : Nat) : 4 * nI c + nI i = nI (c * 4 + i) := by rw [k4, pk_mul, nI_add, Nat.mul_comm]
/-! A STEP IN THE HOUSE -/
def xSlide (h : aHo) : Nat → Nat → Nat → Nat
  | 0, c, _ => c
  | n + 1, c, i => if h.2.2.2.1 (c * 4 + i) = 3 then xSlide h n (h.2.2.2.2 (c * 4 + i)) i else c
def xStep (h : aHo) (c : Nat × Nat × Bool) (a : Nat) : Option (Nat × Nat × Bool) :=
  if a = 4 then some (c.1, c.2.1, c.2.2 != h.2.2.1 c.1)
  else if h.2.2.2.1 (c.1 * 4 + (a + c.2.1) % 4) = 0 then none
  else if (h.2.2.2.1 (c.1 * 4 + (a + c.2.1) % 4) = 2 ∨ h.2.2.2.1 (c.1 * 4 + (a + c.2.1) % 4) = 5) ∧ c.2.2 = false then none
  else some (if h.2.2.2.1 (c.1 * 4 + (a + c.2.1) % 4) = 3 then xSlide h 10 (h.2.2.2.2 (c.1 * 4 + (a + c.2.1) % 4)) ((a + c.2.1) % 4) else h.2.2.2.2 (c.1 * 4 + (a + c.2.1) % 4), if h.2.2.2.1 (c.1 * 4 + (a + c.2.1) % 4) = 4 then (c.2.1 + 1) % 4 else c.2.1, c.2.2 && h.2.2.2.1 (c.1 * 4 + (a + c.2.1) % 4) != 5)
def oSd (h : aHo) (c : Nat × Nat × Bool) : Prop := c.1 < h.1 ∧ c.2.1 < 4
theorem xSlide_ok {h : aHo} (ho : oHo h) {i : Nat} (hi : i < 4) : ∀ n c, c < h.1 → xSlide h n c i < h.1
  | 0, c, h1 => h1
  | n + 1, c, h1 => by
    unfold xSlide
    have h10 := ho.1
    by_cases q : h.2.2.2.1 (c * 4 + i) = 3
    · rw [if_pos q]; exact xSlide_ok ho hi n _ ((ho.2.2 _ (by omega)).2 (by omega)).1
    · rw [if_neg q]; exact h1
theorem xStep_ok {h : aHo} (ho : oHo h) {c c' : Nat × Nat × Bool} {a : Nat} (hc : oSd h c) (e : xStep h c a = some c') : oSd h c' := by
  obtain ⟨h1, h2⟩ := hc
  have h10 := ho.1
  unfold xStep at e
  by_cases q4 : a = 4
  · rw [if_pos q4] at e; cases e; exact ⟨h1, h2⟩
  · rw [if_neg q4] at e
    by_cases q0 : h.2.2.2.1 (c.1 * 4 + (a + c.2.1) % 4) = 0
    · rw [if_pos q0] at e; cases e
    · rw [if_neg q0] at e
      have hto := ((ho.2.2 (c.1 * 4 + (a + c.2.1) % 4) (by omega)).2 q0).1
      split at e
      · cases e
      · cases e
        refine ⟨?_, ?_⟩
        · dsimp only
          split
          · exact xSlide_ok ho (by omega) _ _ hto
          · exact hto
        · dsimp only
          split
          · omega
          · exact h2
def sdI (c : Option (Nat × Nat × Bool)) : Int32 := match c with
  | none => -2
  | some c => nI (stI c)
theorem s_slideEnd {h : aHo} {u : mSt} {c i : Nat} {K : Int32 → mSt → Prop} (hr : cRf u) (ho : oHo h) (hc : cHo h u) (h1 : c < h.1) (hi : i < 4) (k : K (nI (xSlide h 10 c i)) u) : bX1_slideEnd 1 (nI c) (nI i) u K := by
  have r2 := hr.get 1 2 4 (by decide)
  have r3 := hr.get 1 3 5 (by decide)
  have h10 := ho.1
  have loop : ∀ n j c, j + n = 10 → c < h.1 → K (nI (xSlide h n c i)) u → bX1_slideEnd_5 (n + 1) 1 (nI i) (nI c) (nI j) u K := by
    intro n
    induction n with
    | zero =>
      intro j c hn h1 k
      unfold bX1_slideEnd_5
      exact br_t (by rw [k10]; exact nI_le (by omega) (by omega)) k
    | succ n ih =>
      intro j c hn h1 k
      have hx : c * 4 + i < 40 := by omega
      unfold bX1_slideEnd_5
      refine br_f (by rw [k10]; exact nI_ge (by omega) (by omega)) ⟨4, r2, ?_⟩
      rw [ixc, nI_clamp (by omega), (hc.2.2 _ hx).1]
      refine ⟨vp_in_nI hx (by decide), ?_⟩
      have e3 : nI (h.2.2.2.1 (c * 4 + i)) = 3 ↔ h.2.2.2.1 (c * 4 + i) = 3 := by rw [k3]; exact nI_eq (by have := (ho.2.2 _ hx).1; omega) (by decide)
      rw [e3]
      unfold xSlide at k
      refine br_c (fun q => ⟨5, r3, vp_in_nI hx (by decide), ?_⟩) (fun q => by rw [if_neg q] at k; exact k)
      have h4 := (hc.2.2 _ hx).2 (by omega)
      rintro _ rfl _ rfl
      rw [h4, nI_1]
      rw [if_pos q] at k
      exact ih (j + 1) _ (by omega) ((ho.2.2 _ hx).2 (by omega)).1 k
  unfold bX1_slideEnd
  exact ⟨11, by have := loop 10 0 c (by omega) h1 k; rwa [nI_0] at this⟩
theorem s_standOf {c t : Nat} {o : Bool} {x : Int32} (hx : x = b2i o) {u : mSt} {K : Int32 → mSt → Prop} (k : K (nI (stI (c, t, o))) u) : bX8_standOf (nI c) (nI t) x u K := by
  unfold bX8_standOf
  rw [hx, b2i_n, ixc, k2, pk_mul, nI_add]; exact k
theorem s_after {h : aHo} {u : mSt} {c : Nat × Nat × Bool} {a : Nat} {K : Int32 → mSt → Prop} (hr : cRf u) (ho : oHo h) (hc : cHo h u) (hs : oSd h c) (ha : a < 5) (k : K (sdI (xStep h c a)) u) : bX1_after 1 (nI (stI c)) (nI a) u K := by
  obtain ⟨h1, h2⟩ := hs
  have h10 := ho.1
  have hst := st_lt h10 h1 h2
  have r1 := hr.get 1 1 3 (by decide)
  have r2 := hr.get 1 2 4 (by decide)
  have r3 := hr.get 1 3 5 (by decide)
  unfold bX1_after
  refine s_cellOf (by omega) h2 (s_turnOf (by omega) h2 (s_switchOf (by omega) ?_))
  refine pk_eq a 4 (fun q4 => ?_) (fun q4 => ?_) rfl k4
  · refine ⟨3, r1, vp_in_nI (by omega) (by decide), ?_⟩
    rw [nI_clamp (by omega), (hc.2.1 _ h1).2, b2i_0]
    unfold xStep at k
    rw [if_pos q4] at k
    refine br_c (fun q => ?_) (fun q => ?_)
    · rw [q, Bool.bne_false] at k; exact k
    · have q : h.2.2.1 c.1 = true := by simpa using q
      rw [q, Bool.bne_true] at k
      exact s_standOf (by cases c.2.2 <;> decide) k
  · have hi : (a + c.2.1) % 4 < 4 := Nat.mod_lt _ (by decide)
    have hx : c.1 * 4 + (a + c.2.1) % 4 < 40 := by omega
    rintro _ rfl _ rfl
    rw [nI_add, i_rem (by omega) k4 (by decide) (by decide), ixc, nI_clamp (by omega)]
    have hin : vp_in (nI (c.1 * 4 + (a + c.2.1) % 4)) 40 := vp_in_nI hx (by decide)
    refine ⟨4, r2, hin, ?_⟩
    rw [(hc.2.2 _ hx).1]
    rintro _ rfl
    have hd := (ho.2.2 _ hx).1
    have h4 := (hc.2.2 _ hx).2
    have hto := (ho.2.2 _ hx).2
    unfold xStep at k
    rw [if_neg q4] at k
    generalize hD : h.2.2.2.1 (c.1 * 4 + (a + c.2.1) % 4) = d at *
    rcases (show d = 0 ∨ d = 1 ∨ d = 2 ∨ d = 3 ∨ d = 4 ∨ d = 5 by omega) with rfl | rfl | rfl | rfl | rfl | rfl
    · exact br_t (by decide) k
    · refine br_f (by decide) (br_t (by decide) ⟨5, r3, hin, ?_⟩)
      rw [h4 (by decide)]
      simp at k
      exact s_standOf rfl k
    · refine br_f (by decide) (br_f (by decide) (br_t (by decide) ?_))
      rw [b2i_0]
      refine br_c (fun q => ?_) (fun q => ⟨5, r3, hin, ?_⟩)
      · simp [q] at k; exact k
      · rw [h4 (by decide)]
        simp [q] at k
        exact s_standOf (by simp at q; rw [q]) k
    · refine br_f (by decide) (br_f (by decide) (br_f (by decide) (br_t (by decide) ⟨5, r3, hin, ?_⟩)))
      rw [h4 (by decide)]
      simp at k
      exact s_slideEnd hr ho hc (hto (by decide)).1 hi (s_standOf rfl k)
    · refine br_f (by decide) (br_f (by decide) (br_f (by decide) (br_f (by decide) (br_t (by decide) ⟨5, r3, hin, ?_⟩))))
      rw [h4 (by decide), nI_1, i_rem (by omega) k4 (by decide) (by decide)]
      simp at k
      exact s_standOf rfl k
    · refine br_f (by decide) (br_f (by decide) (br_f (by decide) (br_f (by decide) (br_f (by decide) (br_t (by decide) ?_)))))
      rw [b2i_0]
      refine br_c (fun q => ?_) (fun q => ⟨5, r3, hin, ?_⟩)
      · simp [q] at k; exact k
      · rw [h4 (by decide)]
        simp [q] at k
        exact s_standOf rfl k
/-! the reference's step -/
def hSt (c : Nat × Nat × Bool) (u : mSt) : Prop := mI u 42 34 = nI c.1 ∧ mI u 42 35 = nI c.2.1 ∧ mI u 42 36 = b2i c.2.2
def pS : Nat → Nat → Bool := fun p i => p == 42 && (i == 34 || i == 35 || i == 36 || i == 37)
theorem m_slide {h : aHo} {u : mSt} {c i : Nat} {K : mSt → Prop} (hr : rRf u) (ho : oHo h) (hc : rHo h u) (e0 : mI u 42 34 = nI c) (h1 : c < h.1) (hi : i < 4) (k : ∀ v, fr (fun p i => p == 42 && i == 34) u v → mI v 42 34 = nI (xSlide h 10 c i) → K v) : bX9_slide 42 (nI i) u K := by
  have h10 := ho.1
  have loop : ∀ n j c y, j + n = 10 → c < h.1 → fr (fun p i => p == 42 && i == 34) u y → mI y 42 34 = nI c → (∀ v, fr (fun p i => p == 42 && i == 34) u v → mI v 42 34 = nI (xSlide h n c i) → K v) → bX9_slide_2 (n + 1) 42 (nI i) (nI j) y K := by
    intro n
    induction n with
    | zero =>
      intro j c y hn h1 f e k
      unfold bX9_slide_2
      exact br_t (by rw [k10]; exact nI_le (by omega) (by omega)) (k y f e)
    | succ n ih =>
      intro j c y hn h1 f e k
      have hx : c * 4 + i < 40 := by omega
      have hc' : rHo h y := hc.fr f rfl (fun _ => rfl) (fun _ => rfl) (fun _ => rfl) (fun _ => rfl)
      unfold bX9_slide_2
      refine br_f (by rw [k10]; exact nI_ge (by omega) (by omega)) ⟨45, (f.rR hr).get 42 4 45 (by decide), ?_⟩
      rw [e, ixr, nI_clamp (by omega), (hc'.2.2 _ hx).1]
      refine ⟨vp_in_nI hx (by decide), ?_⟩
      have e3 : nI (h.2.2.2.1 (c * 4 + i)) = 3 ↔ h.2.2.2.1 (c * 4 + i) = 3 := by rw [k3]; exact nI_eq (by have := (ho.2.2 _ hx).1; omega) (by decide)
      rw [e3]
      refine br_c (fun q => ⟨46, (f.rR hr).get 42 5 46 (by decide), vp_in_nI hx (by decide), ?_⟩) (fun q => k y f (by unfold xSlide; rw [if_neg q]; exact e))
      have h4 := (hc'.2.2 _ hx).2 (by omega)
      rintro _ rfl _ rfl
      rw [h4, nI_1]
      refine ih (j + 1) _ _ (by omega) ((ho.2.2 _ hx).2 (by omega)).1 (f.wp _ rfl) (up_eq _ _ _ _) (fun v v1 v2 => k v v1 ?_)
      unfold xSlide
      rw [if_pos q]; exact v2
  unfold bX9_slide
  exact ⟨11, by have := loop 10 0 c u (by omega) h1 (fr.rf _ _) e0 k; rwa [nI_0] at this⟩
theorem m_113 {u : mSt} {c t d : Nat} {o : Bool} {K : mSt → Prop} (hs : hSt (c, t, o) u) (ht : t < 4) (hd : d < 6) (k : ∀ v, fr pS u v → hSt (c, if d = 4 then (t + 1) % 4 else t, o && d != 5) v → mI v 42 37 = mI u 42 37 → K v) : bX9_step_113 42 (nI d) u K := by
  obtain ⟨s1', s2', s3'⟩ := hs
  have fin : ∀ t' : Nat, t' = (if d = 4 then (t + 1) % 4 else t) → bX9_step_134 42 (nI d) 42 (nI t') u K := by
    intro t' ht'
    unfold bX9_step_134
    rintro _ rfl
    have e36 : mI (mpI u 42 35 (nI t')) 42 36 = b2i o := by rw [up_ne _ _ (by decide)]; exact s3'
    have fin2 : ∀ x b, x = b2i b → b = (o && d != 5) → bX9_step_155 42 x (mpI u 42 35 (nI t')) K := by
      intro x b hx hb
      unfold bX9_step_155
      refine ⟨by rw [hx]; cases b <;> decide, ?_⟩
      rintro _ rfl
      refine k _ (((fr.rf pS u).wp _ rfl).wp _ rfl) ⟨?_, ?_, ?_⟩ ?_
      · rw [up_ne _ _ (by decide), up_ne _ _ (by decide)]; exact s1'
      · rw [up_ne _ _ (by decide), up_eq, ht']
      · rw [up_eq, hx, hb]
      · rw [up_ne _ _ (by decide), up_ne _ _ (by decide)]
    rw [e36, b2i_0]
    refine br_c (fun q => ?_) (fun q => ?_)
    · unfold bX9_step_154; exact fin2 0 false rfl (by rw [q]; rfl)
    · have q : o = true := by simpa using q
      refine pk_eq d 5 (fun z => ?_) (fun z => ?_) rfl k5
      · unfold bX9_step_154; exact fin2 0 false rfl (by rw [z]; simp)
      · exact fin2 1 true rfl (by rw [q]; simp [z])
  unfold bX9_step_113
  rw [show mI u 42 35 = nI t from s2', nI_1, i_rem (by omega) k4 (by decide) (by decide)]
  exact pk_eq d 4 (fun z => fin _ (by rw [if_pos z])) (fun z => fin _ (by rw [if_neg z])) rfl k4
theorem m_step {h : aHo} {u : mSt} {c : Nat × Nat × Bool} {a : Nat} {K : mSt → Prop} (hr : rRf u) (ho : oHo h) (hc : rHo h u) (hs : oSd h c) (hS : hSt c u) (ha : a < 5) (k : ∀ v, fr pS u v → hSt ((xStep h c a).getD c) v → mI v 42 37 = b2i (xStep h c a).isNone → K v) : bX9_step 42 (nI a) u K := by
  obtain ⟨h1, h2⟩ := hs
  have h10 := ho.1
  unfold bX9_step
  rintro _ rfl
  have f1 : fr pS u (mpI u 42 37 0) := fr.pI pS u _ rfl
  have hc1 : rHo h (mpI u 42 37 0) := hc.fr f1 rfl (fun _ => rfl) (fun _ => rfl) (fun _ => rfl) (fun _ => rfl)
  have hr1 := f1.rR hr
  have S1 : mI (mpI u 42 37 0) 42 34 = nI c.1 := by rw [up_ne _ _ (by decide)]; exact hS.1
  have S2 : mI (mpI u 42 37 0) 42 35 = nI c.2.1 := by rw [up_ne _ _ (by decide)]; exact hS.2.1
  have S3 : mI (mpI u 42 37 0) 42 36 = b2i c.2.2 := by rw [up_ne _ _ (by decide)]; exact hS.2.2
  have S4 : mI (mpI u 42 37 0) 42 37 = 0 := up_eq _ _ _ _
  generalize mpI u 42 37 0 = u1 at *
  rw [S1, S2, S3]
  refine pk_eq a 4 (fun q4 => ?_) (fun q4 => ?_) rfl k4
  · refine ⟨44, hr1.get 42 3 44 (by decide), vp_in_nI (by omega) (by decide), ?_⟩
    rw [nI_clamp (by omega), (hc1.2.1 _ h1).2]
    have e4 : xStep h c a = some (c.1, c.2.1, c.2.2 != h.2.2.1 c.1) := by unfold xStep; rw [if_pos q4]
    rw [e4] at k
    have fin : ∀ x b, x = b2i b → b = (c.2.2 != h.2.2.1 c.1) → bX9_step_32 42 x u1 K := by
      intro x b hx hb
      unfold bX9_step_32
      refine ⟨by rw [hx]; cases b <;> decide, ?_⟩
      rintro _ rfl
      refine k _ (f1.wp _ rfl) ⟨?_, ?_, ?_⟩ ?_
      · rw [up_ne _ _ (by decide)]; exact S1
      · rw [up_ne _ _ (by decide)]; exact S2
      · rw [up_eq, hx, hb]; rfl
      · rw [up_ne _ _ (by decide)]; exact S4
    refine br_c (fun q => fin 0 false rfl ?_) (fun q => fin 1 true rfl ?_)
    · revert q; cases c.2.2 <;> cases h.2.2.1 c.1 <;> decide
    · revert q; cases c.2.2 <;> cases h.2.2.1 c.1 <;> decide
  · have hi : (a + c.2.1) % 4 < 4 := Nat.mod_lt _ (by decide)
    have hx : c.1 * 4 + (a + c.2.1) % 4 < 40 := by omega
    rintro _ rfl
    rw [nI_add, i_rem (by omega) k4 (by decide) (by decide), ixr, nI_clamp (by omega)]
    have hin : vp_in (nI (c.1 * 4 + (a + c.2.1) % 4)) 40 := vp_in_nI hx (by decide)
    refine ⟨45, hr1.get 42 4 45 (by decide), hin, ?_⟩
    rw [(hc1.2.2 _ hx).1]
    rintro _ rfl
    have hd := (ho.2.2 _ hx).1
    have h4 := (hc1.2.2 _ hx).2
    have hto := (ho.2.2 _ hx).2
    have bump : xStep h c a = none → bX9_step_80 42 u1 K := by
      intro e
      rw [e] at k
      unfold bX9_step_80
      rintro _ rfl
      refine k _ (f1.wp _ rfl) ⟨?_, ?_, ?_⟩ ?_
      · rw [up_ne _ _ (by decide)]; exact S1
      · rw [up_ne _ _ (by decide)]; exact S2
      · rw [up_ne _ _ (by decide)]; exact S3
      · rw [up_eq]; rfl
    have move : h.2.2.2.1 (c.1 * 4 + (a + c.2.1) % 4) ≠ 0 → ¬ ((h.2.2.2.1 (c.1 * 4 + (a + c.2.1) % 4) = 2 ∨ h.2.2.2.1 (c.1 * 4 + (a + c.2.1) % 4) = 5) ∧ c.2.2 = false) → bX9_step_86 42 (nI ((a + c.2.1) % 4)) (nI (h.2.2.2.1 (c.1 * 4 + (a + c.2.1) % 4))) u1 K := by
      intro d0 d25
      have e5 : xStep h c a = some (if h.2.2.2.1 (c.1 * 4 + (a + c.2.1) % 4) = 3 then xSlide h 10 (h.2.2.2.2 (c.1 * 4 + (a + c.2.1) % 4)) ((a + c.2.1) % 4) else h.2.2.2.2 (c.1 * 4 + (a + c.2.1) % 4), if h.2.2.2.1 (c.1 * 4 + (a + c.2.1) % 4) = 4 then (c.2.1 + 1) % 4 else c.2.1, c.2.2 && h.2.2.2.1 (c.1 * 4 + (a + c.2.1) % 4) != 5) := by
        unfold xStep; rw [if_neg q4, if_neg d0, if_neg d25]
      rw [e5] at k
      unfold bX9_step_86
      refine ⟨46, hr1.get 42 5 46 (by decide), ?_⟩
      rw [S1, ixr, nI_clamp (by omega), h4 d0]
      refine ⟨hin, ?_⟩
      rintro _ rfl
      have f2 := f1.wp (q := 42) (j := 34) (nI (h.2.2.2.2 (c.1 * 4 + (a + c.2.1) % 4))) (show pS 42 34 = true by rfl)
      refine pk_eq (h.2.2.2.1 (c.1 * 4 + (a + c.2.1) % 4)) 3 (fun z => ?_) (fun z => ?_) rfl k3
      · refine m_slide (f2.rR hr) ho (hc.fr f2 rfl (fun _ => rfl) (fun _ => rfl) (fun _ => rfl) (fun _ => rfl)) (up_eq _ _ _ _) (hto d0).1 hi (fun y y1 y2 => ?_)
        have f3 : fr pS u y := f2.tr (y1.up (fun p i e => by
          simp only [pS] at e
          cases hp : (p == 42) <;> simp [hp] at e ⊢
          exact e.1.1.1))
        refine m_113 (c := xSlide h 10 (h.2.2.2.2 (c.1 * 4 + (a + c.2.1) % 4)) ((a + c.2.1) % 4)) (t := c.2.1) (o := c.2.2) ⟨y2, ?_, ?_⟩ h2 hd (fun v v1 v2 v3 => k v (f3.tr v1) ?_ ?_)
        · rw [y1.at rfl, up_ne _ _ (by decide)]; exact S2
        · rw [y1.at rfl, up_ne _ _ (by decide)]; exact S3
        · rw [if_pos z]; exact v2
        · rw [v3, y1.at rfl, up_ne _ _ (by decide)]; exact S4
      · refine m_113 (c := h.2.2.2.2 (c.1 * 4 + (a + c.2.1) % 4)) (t := c.2.1) (o := c.2.2) ⟨up_eq _ _ _ _, ?_, ?_⟩ h2 hd (fun v v1 v2 v3 => k v (f2.tr v1) ?_ ?_)
        · rw [up_ne _ _ (by decide)]; exact S2
        · rw [up_ne _ _ (by decide)]; exact S3
        · rw [if_neg z]; exact v2
        · rw [v3, up_ne _ _ (by decide)]; exact S4
    have b73 : (h.2.2.2.1 (c.1 * 4 + (a + c.2.1) % 4) = 2 ∨ h.2.2.2.1 (c.1 * 4 + (a + c.2.1) % 4) = 5) → bX9_step_73 42 (nI ((a + c.2.1) % 4)) (nI (h.2.2.2.1 (c.1 * 4 + (a + c.2.1) % 4))) u1 K := by
      intro d25
      unfold bX9_step_73
      rw [S3, b2i_0]
      refine br_c (fun q => bump ?_) (fun q => move (by omega) (fun z => q z.2))
      unfold xStep; rw [if_neg q4, if_neg (by omega), if_pos ⟨d25, q⟩]
    refine pk_eq (h.2.2.2.1 (c.1 * 4 + (a + c.2.1) % 4)) 0 (fun z0 => bump ?_) (fun z0 => ?_) rfl k0
    · unfold xStep; rw [if_neg q4, if_pos z0]
    · refine pk_eq (h.2.2.2.1 (c.1 * 4 + (a + c.2.1) % 4)) 2 (fun z2 => b73 (Or.inl z2)) (fun z2 => ?_) rfl k2
      exact pk_eq (h.2.2.2.1 (c.1 * 4 + (a + c.2.1) % 4)) 5 (fun z5 => b73 (Or.inr z5)) (fun z5 => move z0 (fun z => by omega)) rfl k5
theorem m_stand {h : aHo} {w : aWk} {u : mSt} {K : mSt → Prop} (e7 : mI u 42 7 = nI w.2.1.1) (e8 : mI u 42 8 = nI w.2.1.2.1) (e9 : mI u 42 9 = b2i w.2.1.2.2) (k : ∀ v, fr pS u v → hSt w.2.1 v → K v) : bX9_stand 42 u K := by
  unfold bX9_stand
  rintro _ rfl _ rfl
  have e9' : ∀ x y : Int32, mI (mpI (mpI u 42 34 x) 42 35 y) 42 9 = b2i w.2.1.2.2 := fun x y => by rw [up_ne _ _ (by decide), up_ne _ _ (by decide)]; exact e9
  have e8' : ∀ x : Int32, mI (mpI u 42 34 x) 42 8 = nI w.2.1.2.1 := fun x => by rw [up_ne _ _ (by decide)]; exact e8
  rw [e8', e9', e7]
  refine ⟨by cases w.2.1.2.2 <;> decide, ?_⟩
  rintro _ rfl
  refine k _ ((((fr.rf pS u).wp _ rfl).wp _ rfl).wp _ rfl) ⟨?_, ?_, ?_⟩
  · rw [up_ne _ _ (by decide), up_ne _ _ (by decide), up_eq]
  · rw [up_ne _ _ (by decide), up_eq]
  · rw [up_eq]
