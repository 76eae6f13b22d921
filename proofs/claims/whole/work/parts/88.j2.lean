/-- the class changed only what is behind P, none of it kept -/
theorem cInv_fr {x : aAll} {j : Nat} {P : Nat → Nat → Bool} {u v : mSt} (hl : x.2.2.1.2.2.length ≤ 150) (c : cInv x j u) (f : fr P u v) (e : ∀ p i, P p i = true → p = 19 ∨ p = 12 ∨ p = 13 ∨ p = 14 ∨ p = 15) : cInv x j v := by
  obtain ⟨pn, ps, g, L, c1, c2, c3, c4, c5, c6, c7, c8, c9, c10⟩ := c
  have F : ∀ p i, ¬ (p = 19 ∨ p = 12 ∨ p = 13 ∨ p = 14 ∨ p = 15) → mI v p i = mI u p i := fun p i h => f.at (by
    cases hh : P p i
    · rfl
    · exact absurd (e p i hh) h)
  refine ⟨pn, ps, g, L, f.cR c1, c2.ag (fun p i e => F p i ?_), c3.ag (fun p i e => F p i ?_), c4.ag hl (fun p i e => F p i ?_) f.2.1 f.2.2.2.1, c5.of f.2.2.2.1 f.2.2.2.2, c6.ag (fun p i e => F p i ?_), c7.ag (fun p i e => F p i ?_), c8.ag (fun p i e => F p i ?_) (fun p _ _ => by rw [f.2.2.1]), c9, c10.ag (fun p i e => F p i ?_)⟩
  all_goals first
    | (simp [sHo] at e; omega)
    | (simp [sWk] at e; omega)
    | (simp [sAt] at e; omega)
    | (simp [sRt] at e; omega)
    | (simp [sHd] at e; omega)
    | (simp [sSv] at e; omega)
    | (simp [sTd] at e; omega)
/-- the class changed its list of things to do -/
theorem cInv_td {x : aAll} {j : Nat} {L' : List Nat} {u v : mSt} (hl : x.2.2.1.2.2.length ≤ 150) (c : cInv x j u) (f : fr pTd u v) (o : oTd L') (t : cTd L' v) : cInv x j v := by
  obtain ⟨pn, ps, g, L, c1, c2, c3, c4, c5, c6, c7, c8, c9, c10⟩ := c
  have F : ∀ p i, ¬ (p = 22 ∨ p = 23 ∨ p = 24) → mI v p i = mI u p i := fun p i h => f.at (by simp [pTd]; omega)
  refine ⟨pn, ps, g, L', f.cR c1, c2.ag (fun p i e => F p i ?_), c3.ag (fun p i e => F p i ?_), c4.ag hl (fun p i e => F p i ?_) f.2.1 f.2.2.2.1, c5.of f.2.2.2.1 f.2.2.2.2, c6.ag (fun p i e => F p i ?_), c7.ag (fun p i e => F p i ?_), c8.ag (fun p i e => F p i ?_) (fun p _ _ => by rw [f.2.2.1]), o, t⟩
  all_goals first
    | (simp [sHo] at e; omega)
    | (simp [sWk] at e; omega)
    | (simp [sAt] at e; omega)
    | (simp [sRt] at e; omega)
    | (simp [sHd] at e; omega)
    | (simp [sSv] at e; omega)
/-- the reference changed only what is not kept -/
theorem rInv_fr {x : aAll} {P : Nat → Nat → Bool} {u v : mSt} (r : rInv x u) (f : fr P u v) (e : ∀ p i, P p i = true → p = 63 ∨ p = 64 ∨ p = 68 ∨ p = 69 ∨ (p = 42 ∧ (i = 0 ∨ i = 34 ∨ i = 35 ∨ i = 36 ∨ i = 37))) : rInv x v := by
  obtain ⟨r1, r2, r3, r4, r5, r6, r7⟩ := r
  have G : ∀ p i, ¬ (p = 63 ∨ p = 64 ∨ p = 68 ∨ p = 69 ∨ (p = 42 ∧ (i = 0 ∨ i = 34 ∨ i = 35 ∨ i = 36 ∨ i = 37))) → mI v p i = mI u p i := fun p i h => f.at (by
    cases hh : P p i
    · rfl
    · exact absurd (e p i hh) h)
  refine ⟨f.rR r1, r2.ag (fun p i e => G p i ?_), r3.ag (fun p i e => G p i ?_), r4.ag (fun p i e => G p i ?_), r5.ag (fun p i e => G p i ?_), r6.ag (fun p i e => G p i ?_), r7.ag (fun p i e => G p i ?_) (by rw [f.2.2.1])⟩
  all_goals first
    | (simp [qHo] at e; omega)
    | (simp [qWk] at e; omega)
    | (simp [qAt] at e; omega)
    | (simp [qRt] at e; omega)
    | (simp [qHd] at e; omega)
    | (simp [qSv] at e; omega)
theorem J_fits {j : Nat} {u : mSt} {K : Int32 → mSt → Prop} (I : Inv j u) (k : ∀ r u1, (∀ K2 : Int32 → mSt → Prop, (∀ u2, Inv j u2 → K2 r u2) → bX9_fits_ 42 u1 K2) → K r u1) : bX8_fits 0 u K := by
  obtain ⟨x, o, c, r⟩ := I
  obtain ⟨o1, o2, o3, o4, o5, o6, o7, o8⟩ := id o
  obtain ⟨pn, ps, g, L, c1, c2, c3, c4, c5, c6, c7, c8, c9, c10⟩ := id c
  refine C_fits c1 o1 o2 o7 c2 c3 c7 (fun v f => k _ v (fun K2 k2 => ?_))
  have r' := r.cl (fCl.of f (fun p i h1 h2 => by simp [p19]; omega))
  have c' := cInv_fr o3.2.2.2.1 c f (fun p i e => by simp [p19] at e; omega)
  obtain ⟨r1, r2, r3, r4, r5, r6, r7⟩ := id r'
  exact M_fits r1 o1 o2 o7 r3 r6 (k2 _ (J_same o c' r' 0))
theorem J_part {j : Nat} {u : mSt} {a1 a2 : Int32} {K : Int32 → mSt → Prop} (I : Inv j u) (k : ∀ r u1, (∀ K2 : Int32 → mSt → Prop, (∀ u2, Inv j u2 → K2 r u2) → bX9_part 42 a1 a2 u1 K2) → K r u1) : bX8_part 0 a1 a2 u K := by
  obtain ⟨x, o, c, r⟩ := I
  obtain ⟨o1, o2, o3, o4, o5, o6, o7, o8⟩ := id o
  obtain ⟨pn, ps, g, L, c1, c2, c3, c4, c5, c6, c7, c8, c9, c10⟩ := id c
  refine C_part (h := x.1) c1 o3 c3 c4 (fun v f => k _ v (fun K2 k2 => ?_))
  have r' := r.cl (fCl.of f (fun p i h1 h2 => by simp [pPt]; omega))
  have c' := cInv_fr o3.2.2.2.1 c f (fun p i e => by simp [pPt] at e; omega)
  obtain ⟨r1, r2, r3, r4, r5, r6, r7⟩ := id r'
  exact M_part r1 o3 r3 r4.1 (fun y g => k2 y ⟨x, o, c'.rf o3.2.2.2.1 (g.fM (fun p i h => by simp [p64a]; omega)), rInv_fr r' g (fun p i e => by simp [p64a] at e; omega)⟩)
theorem J_next {j : Nat} {u : mSt} {a1 : Int32} {K : Int32 → mSt → Prop} (I : Inv j u) (k : ∀ r u1, (∀ K2 : Int32 → mSt → Prop, (∀ u2, Inv j u2 → K2 r u2) → bX9_next 42 a1 u1 K2) → K r u1) : bX8_next 0 a1 u K := by
  obtain ⟨x, o, c, r⟩ := I
  obtain ⟨o1, o2, o3, o4, o5, o6, o7, o8⟩ := id o
  obtain ⟨pn, ps, g, L, c1, c2, c3, c4, c5, c6, c7, c8, c9, c10⟩ := id c
  refine C_next c1 o3 c3 c4 (fun v f => k _ v (fun K2 k2 => ?_))
  have r' := r.cl (fCl.of f (fun p i h1 h2 => by simp [pPt]; omega))
  have c' := cInv_fr o3.2.2.2.1 c f (fun p i e => by simp [pPt] at e; omega)
  obtain ⟨r1, r2, r3, r4, r5, r6, r7⟩ := id r'
  exact M_next r1 o3 r3 r4.1 (fun y g => k2 y ⟨x, o, c'.rf o3.2.2.2.1 (g.fM (fun p i h => by simp [p64a]; omega)), rInv_fr r' g (fun p i e => by simp [p64a] at e; omega)⟩)
theorem isB_un {P : Prop} {r r' : Int32} (h1 : isB P r) (h2 : isB P r') : r = r' := by
  by_cases z : P
  · rw [h1.1 z, h2.1 z]
  · rw [h1.2 z, h2.2 z]
theorem isKn_un {w : aWk} {t : aAt} {r r' : Int32} (h1 : isKn w t r) (h2 : isKn w t r') : r = r' := by
  unfold isKn at h1 h2
  by_cases z : w.1 = false
  · rw [if_pos z] at h1 h2; rw [h1, h2]
  · rw [if_neg z] at h1 h2
    by_cases z2 : t.2.1 = true
    · rw [if_pos z2] at h1 h2; rw [h1, h2]
    · rw [if_neg z2] at h1 h2
      split at h1
      · rename_i s es
        rw [es] at h2
        exact isB_un h1 h2
      · rename_i hne
        split at h2
        · rename_i s es
          exact absurd es (hne s)
        · rw [h1, h2]
theorem isTr_un {h : aHo} {w : aWk} {t : aAt} {a r r' : Int32} (h1 : isTr h w t a r) (h2 : isTr h w t a r') : r = r' := by
  unfold isTr at h1 h2
  cases e : dec a t.2.2.length with
  | none => simp only [e] at h1 h2; rw [h1, h2]
  | some k =>
    simp only [e] at h1 h2
    cases e2 : t.2.2[k]? with
    | none => simp only [e2] at h1 h2; rw [h1, h2]
    | some s => simp only [e2] at h1 h2; exact isB_un h1 h2
theorem J_known {j : Nat} {u : mSt} {K : Int32 → mSt → Prop} (I : Inv j u) (k : ∀ r u1, (∀ K2 : Int32 → mSt → Prop, (∀ u2, Inv j u2 → K2 r u2) → bX9_known 42 u1 K2) → K r u1) : bX8_known 0 u K := by
  obtain ⟨x, o, c, r⟩ := I
  obtain ⟨o1, o2, o3, o4, o5, o6, o7, o8⟩ := id o
  obtain ⟨pn, ps, g, L, c1, c2, c3, c4, c5, c6, c7, c8, c9, c10⟩ := id c
  refine C_known c1 o3 c3 c4 c9 c10 (fun a v L' ha f od td => k a v (fun K2 k2 => ?_))
  have r' := r.cl (fCl.of f (fun p i h1 h2 => by simp [pTd]; omega))
  have c' := cInv_td o3.2.2.2.1 c f od td
  obtain ⟨r1, r2, r3, r4, r5, r6, r7⟩ := id r'
  refine M_known r1 o3 r3 r4.1 (fun b y hb g => ?_)
  rw [isKn_un hb ha]
  exact k2 y ⟨x, o, c'.rf o3.2.2.2.1 (g.fM (fun p i h => by simp [p63a]; omega)), rInv_fr r' g (fun p i e => by simp [p63a] at e; omega)⟩
theorem J_reached {j : Nat} {u : mSt} {K : Int32 → mSt → Prop} (I : Inv j u) (k : ∀ r u1, (∀ K2 : Int32 → mSt → Prop, (∀ u2, Inv j u2 → K2 r u2) → bX9_reached 42 u1 K2) → K r u1) : bX8_reached 0 u K := by
  obtain ⟨x, o, c, r⟩ := I
  obtain ⟨o1, o2, o3, o4, o5, o6, o7, o8⟩ := id o
  obtain ⟨pn, ps, g, L, c1, c2, c3, c4, c5, c6, c7, c8, c9, c10⟩ := id c
  refine C_reached c1 o1 o2 c2 c3 c9 c10 (fun a v L' ha f od td => k a v (fun K2 k2 => ?_))
  have r' := r.cl (fCl.of f (fun p i h1 h2 => by simp [pTd]; omega))
  have c' := cInv_td o3.2.2.2.1 c f od td
  obtain ⟨r1, r2, r3, r4, r5, r6, r7⟩ := id r'
  refine M_reached r1 o1 o2 r2 r3 (fun b y hb g => ?_)
  rw [isRe_un hb ha]
  exact k2 y ⟨x, o, c'.rf o3.2.2.2.1 (g.fM (fun p i h => by simp [pRe]; omega)), rInv_fr r' g (fun p i e => by simp [pRe] at e; omega)⟩
theorem J_isTrue {j : Nat} {u : mSt} {a1 : Int32} {K : Int32 → mSt → Prop} (I : Inv j u) (k : ∀ r u1, (∀ K2 : Int32 → mSt → Prop, (∀ u2, Inv j u2 → K2 r u2) → bX9_isTrue 42 a1 u1 K2) → K r u1) : bX8_isTrue 0 a1 u K := by
  obtain ⟨x, o, c, r⟩ := I
  obtain ⟨o1, o2, o3, o4, o5, o6, o7, o8⟩ := id o
  obtain ⟨pn, ps, g, L, c1, c2, c3, c4, c5, c6, c7, c8, c9, c10⟩ := id c
  refine C_isTrue c1 o1 o2 o3 c2 c3 c4 c9 c10 (fun a v L' ha f od td => k a v (fun K2 k2 => ?_))
  have r' := r.cl (fCl.of f (fun p i h1 h2 => by simp [pTd]; omega))
  have c' := cInv_td o3.2.2.2.1 c f od td
  obtain ⟨r1, r2, r3, r4, r5, r6, r7⟩ := id r'
  refine M_isTrue r1 o1 o2 o3 r2 r3 r4.1 (fun b y hb g => ?_)
  rw [isTr_un hb ha]
  exact k2 y ⟨x, o, c'.rf o3.2.2.2.1 (g.fM (fun p i h => by simp [pTr]; omega)), rInv_fr r' g (fun p i e => by simp [pTr] at e; omega)⟩
theorem J_go {j : Nat} {u : mSt} {a1 a2 : Int32} {K : Int32 → mSt → Prop} (I : Inv j u) (k : ∀ r u1, (∀ K2 : Int32 → mSt → Prop, (∀ u2, Inv j u2 → K2 r u2) → bX9_go 42 a1 a2 u1 K2) → K r u1) : bX8_go 0 a1 a2 u K := by
  obtain ⟨x, o, c, r⟩ := I
  obtain ⟨o1, o2, o3, o4, o5, o6, o7, o8⟩ := id o
  obtain ⟨pn, ps, g, L, c1, c2, c3, c4, c5, c6, c7, c8, c9, c10⟩ := id c
  refine C_go c1 o3 c4 c6 (fun v f e1 => k _ v (fun K2 k2 => ?_))
  obtain ⟨r1, r2, r3, r4, r5, r6, r7⟩ := r.cl (fCl.of f (fun p i h1 h2 => by simp [pGo]; omega))
  have F : ∀ p i, ¬ (p = 16 ∨ p = 17 ∨ p = 18) → mI v p i = mI u p i := fun p i h => f.at (by simp [pGo]; omega)
  refine M_go r1 o3 r3 r4.1 r5 (fun y g' g1 => k2 y ⟨(x.1, x.2.1, x.2.2.1, (xGo x.2.2.1 x.2.2.2.1 a1 a2).2, x.2.2.2.2), ⟨o1, o2, o3, o4, o5, xGo_ok o3 o6 a1 a2, o7, o8⟩, ?_, ?_⟩)
  · refine cInv.rf (u := v) o3.2.2.2.1 ⟨pn, ps, g, L, f.cR c1, c2.ag (fun p i e => F p i ?_), c3.ag (fun p i e => F p i ?_), c4.ag o3.2.2.2.1 (fun p i e => F p i ?_) f.2.1 f.2.2.2.1, c5.of f.2.2.2.1 f.2.2.2.2, e1, c7.ag (fun p i e => F p i ?_), c8.ag (fun p i e => F p i ?_) (fun p _ _ => by rw [f.2.2.1]), c9, c10.ag (fun p i e => F p i ?_)⟩ (g'.fM (fun p i h => by simp [pGr]; omega))
    all_goals first
      | (simp [sHo] at e; omega)
      | (simp [sWk] at e; omega)
      | (simp [sAt] at e; omega)
      | (simp [sHd] at e; omega)
      | (simp [sSv] at e; omega)
      | (simp [sTd] at e; omega)
  · have G : ∀ p i, ¬ (p = 63 ∨ p = 65 ∨ (p = 42 ∧ (i = 0 ∨ i = 40))) → mI y p i = mI v p i := fun p i h => g'.at (by simp [pGr]; omega)
    refine ⟨g'.rR r1, r2.ag (fun p i e => G p i ?_), r3.ag (fun p i e => G p i ?_), r4.ag (fun p i e => G p i ?_), g1, r6.ag (fun p i e => G p i ?_), r7.ag (fun p i e => G p i ?_) (by rw [g'.2.2.1])⟩
    all_goals first
      | (simp [qHo] at e; omega)
      | (simp [qWk] at e; omega)
      | (simp [qAt] at e; omega)
      | (simp [qHd] at e; omega)
      | (simp [qSv] at e; omega)
/-- the class after start or act: what of it is not new -/
theorem cInv_new {x : aAll} {w : aWk} {t : aAt} {j pn' ps' : Nat} {g' : Nat → Nat → Option Nat} {u v : mSt} (c : cInv x j u) (e1 : cWk w v) (e2 : cAt t pn' ps' g' v) (e3 : cHo x.1 v) (e4 : cRf v) (e5 : okSz g' j v) (eI : ∀ p, p < 77 → p ≠ 0 → p ≠ 1 → p ≠ 6 → p ≠ 7 → p ≠ 8 → p ≠ 9 → mI v p = mI u p) (eL : ∀ p, p < 77 → mL v p = mL u p) : cInv (x.1, w, t, x.2.2.2) j v := by
  obtain ⟨pn, ps, g, L, c1, c2, c3, c4, c5, c6, c7, c8, c9, c10⟩ := c
  have F : ∀ p i, p < 77 → p ≠ 0 → p ≠ 1 → p ≠ 6 → p ≠ 7 → p ≠ 8 → p ≠ 9 → mI v p i = mI u p i := fun p i h1 h2 h3 h4 h5 h6 h7 => by rw [eI p h1 h2 h3 h4 h5 h6 h7]
  refine ⟨pn', ps', g', L, e4, e3, e1, e2, e5, c6.ag (fun p i e => ?_), c7.ag (fun p i e => ?_), c8.ag (fun p i e => ?_) (fun p _ h => eL p (by omega)), c9, c10.ag (fun p i e => ?_)⟩
  all_goals first
    | (simp [sRt] at e; exact F p i (by omega) (by omega) (by omega) (by omega) (by omega) (by omega) (by omega))
    | (simp [sHd] at e; exact F p i (by omega) (by omega) (by omega) (by omega) (by omega) (by omega) (by omega))
    | (simp [sSv] at e; exact F p i (by omega) (by omega) (by omega) (by omega) (by omega) (by omega) (by omega))
    | (simp [sTd] at e; exact F p i (by omega) (by omega) (by omega) (by omega) (by omega) (by omega) (by omega))
theorem J_act {j : Nat} {u : mSt} {a : Int32} {K : Int32 → mSt → Prop} (hj : j ≤ 600) (I : Inv j u) (k : ∀ r u1, (∀ K2 : Int32 → mSt → Prop, (∀ u2, Inv j u2 → K2 r u2) → bX9_act 42 a u1 K2) → K r u1) : bX8_act 0 a u K := by
  obtain ⟨x, o, c, r⟩ := I
  obtain ⟨o1, o2, o3, o4, o5, o6, o7, o8⟩ := id o
  obtain ⟨pn, ps, g, L, c1, c2, c3, c4, c5, c6, c7, c8, c9, c10⟩ := id c
  obtain ⟨r1, r2, r3, r4, r5, r6, r7⟩ := id r
  have stay := J_same o c r 0
  refine C_act c1 o1 o2 o3 c2 c3 c4 c5 hj (fun z => k _ u (fun K2 k2 => ?_)) (fun z z1 => k _ u (fun K2 k2 => ?_)) (fun z z1 z2 => k _ u (fun K2 k2 => ?_)) (fun n v pn' ps' g' z hn h1 hl e1 e2 e3 e4 e5 eI eL eR => k _ v (fun K2 k2 => ?_))
  · exact M_act r1 o1 o2 o3 o4 o5 r2 r3 r4.1 r4.2 (fun _ => k2 _ stay) (fun y => absurd z y) (fun y => absurd z y) (fun n v y => by rw [z] at y; cases y)
  · exact M_act r1 o1 o2 o3 o4 o5 r2 r3 r4.1 r4.2 (fun y => absurd y z) (fun _ _ => k2 _ stay) (fun _ y => by rw [z1] at y; cases y) (fun n v _ _ y => by rw [z1] at y; cases y)
  · exact M_act r1 o1 o2 o3 o4 o5 r2 r3 r4.1 r4.2 (fun y => absurd y z) (fun _ y => by rw [z1] at y; cases y) (fun _ _ _ => k2 _ stay) (fun n v _ _ _ y => absurd y z2)
  · obtain ⟨q1, q2, q3, q4, q5, q6, q7⟩ := r.cl (v := v) ⟨fun p p1 p2 => eI p (by omega) (by omega) (by omega) (by omega) (by omega) (by omega), eL 74 (by omega), fun y => eR 42 y (by omega) (by omega) (by omega) (by omega)⟩
    have c' := cInv_new c e1 e2 e3 e4 e5 (fun p p1 p2 p3 p4 p5 p6 p7 => eI p p1 p3 p4 p5 p6 p7) eL
    obtain ⟨t1, t2, t3⟩ := acT_ok o1 o2 o3 o4 o5 h1 hn
    refine M_act q1 o1 o2 o3 o4 o5 q2 q3 q4.1 q4.2 (fun y => by rw [z] at y; cases y) (fun _ y => by rw [h1] at y; cases y) (fun _ _ y => absurd hl y) (fun n' y z' hn' _ _ g1 g2 g3 f => ?_)
    have : n' = n := by rw [z] at z'; cases z'; rfl
    subst this
    refine k2 y ⟨(x.1, acW x.1 x.2.1 n', acT x.1 x.2.1 x.2.2.1 n', x.2.2.2), ⟨o1, acW_ok o1 o2 h1 hn hl, t1, t2, t3, o6, o7, o8⟩, c'.rf t1.2.2.2.1 (f.fM (fun p i h => by simp [pA]; omega)), f.rR q1, q2.ag (fun p i e => f.at ?_), g1, ⟨g2, g3⟩, q5.ag (fun p i e => f.at ?_), q6.ag (fun p i e => f.at ?_), q7.ag (fun p i e => f.at ?_) (by rw [f.2.2.1])⟩
    all_goals first
      | (simp [qHo] at e; simp [pA]; omega)
      | (simp [qRt] at e; simp [pA]; omega)
      | (simp [qHd] at e; simp [pA]; omega)
      | (simp [qSv] at e; simp [pA]; omega)
theorem start_mL1 {M : Nat → Nat → Int64} {K : Int32 → mSt → Prop} : ∀ n v2 y, mL y = M → bX9_start_111 n 42 v2 y (fun r y => mL y = M → K r y) → bX9_start_111 n 42 v2 y K := by
  intro n
  induction n with
  | zero => intro v2 y _ h; exact h
  | succ n ih =>
    intro v2 y e h
    unfold bX9_start_111 at h ⊢
    refine ⟨fun z => ?_, fun z => ?_⟩
    · obtain ⟨q1, e1, v1, h1⟩ := h.1 z
      refine ⟨q1, e1, v1, ?_⟩
      rintro _ rfl
      obtain ⟨q2, e2, v2, h2⟩ := h1 _ rfl
      refine ⟨q2, e2, v2, ?_⟩
      rintro _ rfl
      obtain ⟨q3, e3, v3, h3⟩ := h2 _ rfl
      refine ⟨q3, e3, v3, ?_⟩
      rintro _ rfl
      exact h3 _ rfl e
    · obtain ⟨q1, e1, v1, h1⟩ := h.2 z
      refine ⟨q1, e1, v1, ?_⟩
      rintro _ rfl _ rfl
      exact ih _ _ e (h1 _ rfl _ rfl)
theorem start_mL {a : Int32} {u : mSt} {K : Int32 → mSt → Prop} (h : bX9_start 42 a u (fun r y => mL y = mL u → K r y)) : bX9_start 42 a u K := by
  unfold bX9_start at h ⊢
  rintro _ rfl
  have h := h _ rfl
  rw [s_isIn] at h ⊢
  refine ⟨fun c => ?_, fun c => ⟨fun _ => (h.2 c).1 rfl rfl, fun z => absurd rfl z⟩⟩
  refine ⟨fun z => absurd z (by decide), fun z => ⟨fun z2 => ((h.1 c).2 z).1 z2 rfl, fun z2 => ?_⟩⟩
  have h' := ((h.1 c).2 z).2 z2
  intro u5 g5 u6 g6 u7 g7 u8 g8 u9 g9 u10 g10 u11 g11
  obtain ⟨q, e, v, h4⟩ := h' u5 g5 u6 g6 u7 g7 u8 g8 u9 g9 u10 g10 u11 g11
  refine ⟨q, e, v, ?_⟩
  intro u14 g14 u15 g15 u16 g16 u17 g17
  obtain ⟨q2, e2, v2, h5⟩ := h4 u14 g14 u15 g15 u16 g16 u17 g17
  refine ⟨q2, e2, v2, ?_⟩
  intro u20 g20
  obtain ⟨q3, e3, q4, e4, v4, v5, h6⟩ := h5 u20 g20
  refine ⟨q3, e3, q4, e4, v4, v5, ?_⟩
  intro u25 g25
  obtain ⟨n, h7⟩ := h6 u25 g25
  exact ⟨n, start_mL1 n _ _ (by rw [g25, s3, g20, s3, g17, s3, g16, s3, g15, s3, g14, s3, g11, s3, g10, s3, g9, s3, g8, s3, g7, s3, g6, s3, g5, s3, s3]) h7⟩
theorem J_start {j : Nat} {u : mSt} {a : Int32} {K : Int32 → mSt → Prop} (hj : j ≤ 600) (I : Inv j u) (k : ∀ r u1, (∀ K2 : Int32 → mSt → Prop, (∀ u2, Inv j u2 → K2 r u2) → bX9_start 42 a u1 K2) → K r u1) : bX8_start 0 a u K := by
  obtain ⟨x, o, c, r⟩ := I
  obtain ⟨o1, o2, o3, o4, o5, o6, o7, o8⟩ := id o
  obtain ⟨pn, ps, g, L, c1, c2, c3, c4, c5, c6, c7, c8, c9, c10⟩ := id c
  obtain ⟨r1, r2, r3, r4, r5, r6, r7⟩ := id r
  have stay := J_same o c r 0
  refine C_start c1 o1 c2 c4.1 c5 hj (fun z => k _ u (fun K2 k2 => ?_)) (fun m z z1 => k _ u (fun K2 k2 => ?_)) (fun m v q z m1 m6 h0 e1 e2 e3 e4 e5 eI eL eR => k _ v (fun K2 k2 => ?_))
  · exact M_start r1 o1 r2 (fun _ => k2 _ stay) (fun m y => by rw [z] at y; cases y) (fun m v y => by rw [z] at y; cases y)
  · exact M_start r1 o1 r2 (fun y => by rw [z] at y; cases y) (fun _ _ _ => k2 _ stay) (fun m v _ _ _ y => by omega)
  · obtain ⟨q1, q2, q3, q4, q5, q6, q7⟩ := r.cl (v := v) ⟨fun p p1 p2 => eI p (by omega) (by omega) (by omega) (by omega) (by omega), eL 74 (by omega), fun y => eR 42 y (by omega) (by omega) (by omega)⟩
    have c' := cInv_new c e1 e2 e3 e4 e5 (fun p p1 p2 p3 p4 p5 p6 p7 => eI p p1 p2 p3 p4 p7) eL
    refine start_mL (M_start q1 o1 q2 (fun y => by rw [z] at y; cases y) (fun m' _ y => by omega) (fun m' y z' _ _ _ g1 g2 g3 fm gI g4 gL => ?_))
    have : m' = m := by rw [z] at z'; cases z'; rfl
    subst this
    have hsg := o1.2.1 0 h0
    have hos : oSh 6 (1, 0, none, fun _ => x.1.2.1 0, fun _ => 0) := ⟨⟨Nat.one_pos, by show 1 ≤ 6; omega, Nat.one_pos, fun q h => by cases h⟩, fun p _ => hsg, fun p _ => ⟨by show 0 < 3; omega, fun _ => by show 0 ≠ 1; omega⟩⟩
    have hoA : oAt wk0 (at0 x.1 m') := ⟨fun _ => ⟨m1, m6⟩, fun z => by simp [wk0] at z, fun z => by simp [at0] at z, by simp [at0], fun s hs => by
      have : s = (1, 0, none, fun _ => x.1.2.1 0, fun _ => 0) := by simpa [at0] using hs
      rw [this]; exact ⟨hos, fun _ => m1⟩⟩
    have G : ∀ p i, ¬ (p = 51 ∨ p = 52 ∨ p = 53 ∨ p = 54 ∨ p = 55 ∨ p = 56 ∨ (p = 42 ∧ (i = 0 ∨ (6 ≤ i ∧ i ≤ 20)))) → mI y p i = mI v p i := fun p i h => by
      by_cases z : p = 42
      · rw [z]; exact g4 i (by omega) (by omega)
      · rw [gI p z (by omega) (by omega) (by omega) (by omega) (by omega) (by omega)]
    refine k2 y ⟨(x.1, wk0, at0 x.1 m', x.2.2.2), ⟨o1, ⟨fun _ => ⟨h0, h0, by show 0 < 4; omega, fun q h => by cases h⟩, fun z => by simp [wk0] at z, by simp [wk0], fun e he => by simp [wk0] at he⟩, hoA, fun s hs => ?_, fun s hs => ?_, o6, o7, o8⟩, c'.rf hoA.2.2.2.1 fm, q1.of fm.2.1, q2.ag (fun p i e => G p i ?_), g1, ⟨g2, fun kk s hk i hi => ?_⟩, q5.ag (fun p i e => G p i ?_), q6.ag (fun p i e => G p i ?_), q7.ag (fun p i e => G p i ?_) ?_⟩
    · have : s = (1, 0, none, fun _ => x.1.2.1 0, fun _ => 0) := by simpa [at0] using hs
      rw [this]; simp [wk0]
    · have : s = (1, 0, none, fun _ => x.1.2.1 0, fun _ => 0) := by simpa [at0] using hs
      rw [this]
      exact ⟨fun i e he => by simp [wk0] at he, by simp [wk0, xPl]⟩
    · simp [qHo] at e; omega
    · have h1 : kk = 0 := by
        have := (List.getElem?_eq_some_iff.mp hk).1
        simp [at0] at this; exact this
      have h2 : i = 0 := by simpa [wk0] using hi
      subst h1 h2
      rw [xPl_0, ← k0]; exact g3
    · simp [qRt] at e; omega
    · simp [qHd] at e; omega
    · simp [qSv] at e; omega
    · rw [gL]
