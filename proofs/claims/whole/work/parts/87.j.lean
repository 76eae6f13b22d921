/-! EACH CALL, both sides -/
theorem xCell_mono (h : aHo) (a1 a2 : Int32) : h.1 ≤ (xCell h a1 a2).2.1 ∧ ∀ i, i < h.1 → (xCell h a1 a2).2.2.1 i = h.2.1 i := by
  unfold xCell
  split
  · exact ⟨Nat.le_refl _, fun _ _ => rfl⟩
  · split
    · exact ⟨Nat.le_refl _, fun _ _ => rfl⟩
    · refine ⟨Nat.le_succ _, fun i hi => ?_⟩
      show va_up h.2.1 h.1 _ i = h.2.1 i
      unfold va_up
      rw [if_neg (by omega)]
theorem oWk.mono {h h' : aHo} {w : aWk} (o : oWk h w) (hl : h.1 ≤ h'.1) : oWk h' w := by
  obtain ⟨o1, o2, o3, o4⟩ := o
  refine ⟨fun z => ?_, o2, o3, o4⟩
  obtain ⟨a, b, c, d⟩ := o1 z
  exact ⟨by omega, by omega, c, fun q hq => by have := d q hq; omega⟩
theorem rWk.mono {h h' : aHo} {w : aWk} {u : mSt} (r : rWk h w u) (e : w.1 = true → h'.2.1 0 = h.2.1 0) : rWk h' w u := by
  obtain ⟨r1, r2, r3, r4⟩ := r
  refine ⟨r1, r2, fun z => ?_, r4⟩
  rw [e z]; exact r3 z
theorem J_count {j : Nat} {u : mSt} {a : Int32} {K : Int32 → mSt → Prop} (I : Inv j u) (k : ∀ r u1, (∀ K2 : Int32 → mSt → Prop, (∀ u2, Inv j u2 → K2 r u2) → bX9_count 42 a u1 K2) → K r u1) : bX8_count 0 a u K := by
  obtain ⟨x, o, c, r⟩ := I
  obtain ⟨o1, o2, o3, o4, o5, o6, o7, o8⟩ := id o
  obtain ⟨pn, ps, g, L, c1, c2, c3, c4, c5, c6, c7, c8, c9, c10⟩ := id c
  obtain ⟨r1, r2, r3, r4, r5, r6, r7⟩ := id r
  exact C_count c1 o1 o2 c2 c3 (k _ _ (fun K2 k2 => M_count o1 o2 r2 r3 (k2 _ (J_same o c r 0))))
theorem J_seen {j : Nat} {u : mSt} {a : Int32} {K : Int32 → mSt → Prop} (I : Inv j u) (k : ∀ r u1, (∀ K2 : Int32 → mSt → Prop, (∀ u2, Inv j u2 → K2 r u2) → bX9_seen 42 a u1 K2) → K r u1) : bX8_seen 0 a u K := by
  obtain ⟨x, o, c, r⟩ := I
  obtain ⟨o1, o2, o3, o4, o5, o6, o7, o8⟩ := id o
  obtain ⟨pn, ps, g, L, c1, c2, c3, c4, c5, c6, c7, c8, c9, c10⟩ := id c
  obtain ⟨r1, r2, r3, r4, r5, r6, r7⟩ := id r
  exact C_seen c1 o1 o2 c2 c3 (k _ _ (fun K2 k2 => M_seen r1 o1 o2 r2 r3 (k2 _ (J_same o c r 0))))
theorem J_walk {j : Nat} {u : mSt} {a1 a2 : Int32} {K : Int32 → mSt → Prop} (I : Inv j u) (k : ∀ r u1, (∀ K2 : Int32 → mSt → Prop, (∀ u2, Inv j u2 → K2 r u2) → bX9_walk 42 a1 a2 u1 K2) → K r u1) : bX8_walk 0 a1 a2 u K := by
  obtain ⟨x, o, c, r⟩ := I
  obtain ⟨o1, o2, o3, o4, o5, o6, o7, o8⟩ := id o
  obtain ⟨pn, ps, g, L, c1, c2, c3, c4, c5, c6, c7, c8, c9, c10⟩ := id c
  obtain ⟨r1, r2, r3, r4, r5, r6, r7⟩ := id r
  exact C_walk c1 o2 c3 (k _ _ (fun K2 k2 => M_walk r1 o2 r3 (k2 _ (J_same o c r 0))))
theorem J_sheets {j : Nat} {u : mSt} {K : Int32 → mSt → Prop} (I : Inv j u) (k : ∀ r u1, (∀ K2 : Int32 → mSt → Prop, (∀ u2, Inv j u2 → K2 r u2) → bX9_sheets 42 u1 K2) → K r u1) : bX8_sheets 0 u K := by
  obtain ⟨x, o, c, r⟩ := I
  obtain ⟨o1, o2, o3, o4, o5, o6, o7, o8⟩ := id o
  obtain ⟨pn, ps, g, L, c1, c2, c3, c4, c5, c6, c7, c8, c9, c10⟩ := id c
  obtain ⟨r1, r2, r3, r4, r5, r6, r7⟩ := id r
  exact C_sheets c1 c3 c4 (k _ _ (fun K2 k2 => M_sheets r3 r4.1 (k2 _ (J_same o c r 0))))
theorem J_sheet {j : Nat} {u : mSt} {a1 a2 : Int32} {K : Int32 → mSt → Prop} (I : Inv j u) (k : ∀ r u1, (∀ K2 : Int32 → mSt → Prop, (∀ u2, Inv j u2 → K2 r u2) → bX9_sheet 42 a1 a2 u1 K2) → K r u1) : bX8_sheet 0 a1 a2 u K := by
  obtain ⟨x, o, c, r⟩ := I
  obtain ⟨o1, o2, o3, o4, o5, o6, o7, o8⟩ := id o
  obtain ⟨pn, ps, g, L, c1, c2, c3, c4, c5, c6, c7, c8, c9, c10⟩ := id c
  obtain ⟨r1, r2, r3, r4, r5, r6, r7⟩ := id r
  exact C_sheet c1 o3 c4 (k _ _ (fun K2 k2 => M_sheet r1 o3 r3 r4.1 (k2 _ (J_same o c r 0))))
theorem J_sign {j : Nat} {u : mSt} {a1 a2 : Int32} {K : Int32 → mSt → Prop} (I : Inv j u) (k : ∀ r u1, (∀ K2 : Int32 → mSt → Prop, (∀ u2, Inv j u2 → K2 r u2) → bX9_sign 42 a1 a2 u1 K2) → K r u1) : bX8_sign 0 a1 a2 u K := by
  obtain ⟨x, o, c, r⟩ := I
  obtain ⟨o1, o2, o3, o4, o5, o6, o7, o8⟩ := id o
  obtain ⟨pn, ps, g, L, c1, c2, c3, c4, c5, c6, c7, c8, c9, c10⟩ := id c
  obtain ⟨r1, r2, r3, r4, r5, r6, r7⟩ := id r
  exact C_sign c1 o3 c4 (k _ _ (fun K2 k2 => M_sign r1 o3 r3 r4.1 (k2 _ (J_same o c r 0))))
theorem J_leads {j : Nat} {u : mSt} {a1 a2 a3 : Int32} {K : Int32 → mSt → Prop} (I : Inv j u) (k : ∀ r u1, (∀ K2 : Int32 → mSt → Prop, (∀ u2, Inv j u2 → K2 r u2) → bX9_leads 42 a1 a2 a3 u1 K2) → K r u1) : bX8_leads 0 a1 a2 a3 u K := by
  obtain ⟨x, o, c, r⟩ := I
  obtain ⟨o1, o2, o3, o4, o5, o6, o7, o8⟩ := id o
  obtain ⟨pn, ps, g, L, c1, c2, c3, c4, c5, c6, c7, c8, c9, c10⟩ := id c
  obtain ⟨r1, r2, r3, r4, r5, r6, r7⟩ := id r
  exact C_leads c1 o3 c4 (k _ _ (fun K2 k2 => M_leads r1 o3 r3 r4.1 (k2 _ (J_same o c r 0))))
theorem J_way {j : Nat} {u : mSt} {a : Int32} {K : Int32 → mSt → Prop} (I : Inv j u) (k : ∀ r u1, (∀ K2 : Int32 → mSt → Prop, (∀ u2, Inv j u2 → K2 r u2) → bX9_way 42 a u1 K2) → K r u1) : bX8_way 0 a u K := by
  obtain ⟨x, o, c, r⟩ := I
  obtain ⟨o1, o2, o3, o4, o5, o6, o7, o8⟩ := id o
  obtain ⟨pn, ps, g, L, c1, c2, c3, c4, c5, c6, c7, c8, c9, c10⟩ := id c
  obtain ⟨r1, r2, r3, r4, r5, r6, r7⟩ := id r
  exact C_way c1 o6 c6 (k _ _ (fun K2 k2 => M_way r1 o6 r5 (k2 _ (J_same o c r 0))))
theorem J_weight {j : Nat} {u : mSt} {a : Int32} {K : Int32 → mSt → Prop} (I : Inv j u) (k : ∀ r u1, (∀ K2 : Int32 → mSt → Prop, (∀ u2, Inv j u2 → K2 r u2) → bX9_weight 42 a u1 K2) → K r u1) : bX8_weight 0 a u K := by
  obtain ⟨x, o, c, r⟩ := I
  obtain ⟨o1, o2, o3, o4, o5, o6, o7, o8⟩ := id o
  obtain ⟨pn, ps, g, L, c1, c2, c3, c4, c5, c6, c7, c8, c9, c10⟩ := id c
  obtain ⟨r1, r2, r3, r4, r5, r6, r7⟩ := id r
  exact C_weight c1 o8 c8 (k _ _ (fun K2 k2 => M_weight r1 o8 r7 (k2 _ (J_same o c r 0))))
theorem J_one {j : Nat} {u : mSt} {a1 a2 : Int32} {K : Int32 → mSt → Prop} (I : Inv j u) (k : ∀ r u1, (∀ K2 : Int32 → mSt → Prop, (∀ u2, Inv j u2 → K2 r u2) → bX9_one 42 a1 a2 u1 K2) → K r u1) : bX8_one 0 a1 a2 u K := by
  obtain ⟨x, o, c, r⟩ := I
  obtain ⟨o1, o2, o3, o4, o5, o6, o7, o8⟩ := id o
  obtain ⟨pn, ps, g, L, c1, c2, c3, c4, c5, c6, c7, c8, c9, c10⟩ := id c
  obtain ⟨r1, r2, r3, r4, r5, r6, r7⟩ := id r
  exact C_one c1 o2 o3 o5 c3 c4 (k _ _ (fun K2 k2 => M_one r1 o2 o3 o5 r3 r4.1 r4.2 (k2 _ (J_same o c r 0))))
theorem J_cell {j : Nat} {u : mSt} {a1 a2 : Int32} (hb : a2 = 0 ∨ a2 = 1) {K : Int32 → mSt → Prop} (I : Inv j u) (k : ∀ r u1, (∀ K2 : Int32 → mSt → Prop, (∀ u2, Inv j u2 → K2 r u2) → bX9_cell 42 a1 a2 u1 K2) → K r u1) : bX8_cell 0 a1 a2 u K := by
  obtain ⟨x, o, c, r⟩ := I
  obtain ⟨o1, o2, o3, o4, o5, o6, o7, o8⟩ := id o
  obtain ⟨pn, ps, g, L, c1, c2, c3, c4, c5, c6, c7, c8, c9, c10⟩ := id c
  obtain ⟨m1, m2⟩ := xCell_mono x.1 a1 a2
  refine C_cell c1 o1 c2 hb (fun v e1 eR eL eN eT eI e4 => k _ v (fun K2 k2 => ?_))
  have F : ∀ p i, ¬ (p = 2 ∨ p = 3 ∨ (p = 1 ∧ i = 4)) → mI v p i = mI u p i := fun p i h => by
    by_cases z : p = 1
    · rw [z]; exact e4 i (by omega)
    · rw [eI p z (by omega) (by omega)]
  obtain ⟨r1, r2, r3, r4, r5, r6, r7⟩ := r.cl (v := v) ⟨fun p h1 h2 => eI p (by omega) (by omega) (by omega), by rw [eL], fun x => by rw [eR]⟩
  refine M_cell r1 o1 r2 hb (fun y g1 gR gL gN gT gI g4 => k2 y ⟨((xCell x.1 a1 a2).2, x.2), ⟨xCell_ok o1 a1 a2, o2.mono m1, o3, o4, o5, o6, o7, o8⟩, ?_, ?_⟩)
  · refine cInv.rf (u := v) o3.2.2.2.1 ⟨pn, ps, g, L, c1.of eR, e1, c3.ag (fun p i e => F p i ?_), c4.ag o3.2.2.2.1 (fun p i e => F p i ?_) eR eN, c5.of eN eT, c6.ag (fun p i e => F p i ?_), c7.ag (fun p i e => F p i ?_), c8.ag (fun p i e => F p i ?_) (fun p _ _ => by rw [eL]), c9, c10.ag (fun p i e => F p i ?_)⟩ ⟨fun p hp => ⟨gI p (by omega) (by omega) (by omega), by rw [gL]⟩, gR, gN, gT⟩
    all_goals first
      | (simp [sWk] at e; omega)
      | (simp [sAt] at e; omega)
      | (simp [sRt] at e; omega)
      | (simp [sHd] at e; omega)
      | (simp [sSv] at e; omega)
      | (simp [sTd] at e; omega)
  · have G : ∀ p i, ¬ (p = 43 ∨ p = 44 ∨ (p = 42 ∧ (i = 0 ∨ i = 1))) → mI y p i = mI v p i := fun p i h => by
      by_cases z : p = 42
      · rw [z]; exact g4 i (by omega) (by omega)
      · rw [gI p z (by omega) (by omega)]
    refine ⟨r1.of gR, g1, (r3.ag (fun p i e => G p i ?_)).mono (fun z => m2 0 (o2.1 z).1), r4.ag (fun p i e => G p i ?_), r5.ag (fun p i e => G p i ?_), r6.ag (fun p i e => G p i ?_), r7.ag (fun p i e => G p i ?_) (by rw [gL])⟩
    all_goals first
      | (simp [qWk] at e; omega)
      | (simp [qAt] at e; omega)
      | (simp [qRt] at e; omega)
      | (simp [qHd] at e; omega)
      | (simp [qSv] at e; omega)
theorem J_lead {j : Nat} {u : mSt} {a1 a2 a3 a4 : Int32} {K : Int32 → mSt → Prop} (I : Inv j u) (k : ∀ r u1, (∀ K2 : Int32 → mSt → Prop, (∀ u2, Inv j u2 → K2 r u2) → bX9_lead 42 a1 a2 a3 a4 u1 K2) → K r u1) : bX8_lead 0 a1 a2 a3 a4 u K := by
  obtain ⟨x, o, c, r⟩ := I
  obtain ⟨o1, o2, o3, o4, o5, o6, o7, o8⟩ := id o
  obtain ⟨pn, ps, g, L, c1, c2, c3, c4, c5, c6, c7, c8, c9, c10⟩ := id c
  obtain ⟨m0, m1, m2⟩ := xLead_ok o1 a1 a2 a3 a4
  refine C_lead c1 o1 c2 (fun v e1 eR eL eN eT eI => k _ v (fun K2 k2 => ?_))
  have F : ∀ p i, ¬ (p = 4 ∨ p = 5) → mI v p i = mI u p i := fun p i h => by rw [eI p (by omega) (by omega)]
  obtain ⟨r1, r2, r3, r4, r5, r6, r7⟩ := r.cl (v := v) ⟨fun p h1 h2 => eI p (by omega) (by omega), by rw [eL], fun x => by rw [eR]⟩
  refine M_lead r1 o1 r2 (fun y g1 gR gL gN gT gI g4 => k2 y ⟨((xLead x.1 a1 a2 a3 a4).2, x.2), ⟨m0, o2.mono (by rw [m1]; exact Nat.le_refl _), o3, o4, o5, o6, o7, o8⟩, ?_, ?_⟩)
  · refine cInv.rf (u := v) o3.2.2.2.1 ⟨pn, ps, g, L, c1.of eR, e1, c3.ag (fun p i e => F p i ?_), c4.ag o3.2.2.2.1 (fun p i e => F p i ?_) eR eN, c5.of eN eT, c6.ag (fun p i e => F p i ?_), c7.ag (fun p i e => F p i ?_), c8.ag (fun p i e => F p i ?_) (fun p _ _ => by rw [eL]), c9, c10.ag (fun p i e => F p i ?_)⟩ ⟨fun p hp => ⟨gI p (by omega) (by omega) (by omega), by rw [gL]⟩, gR, gN, gT⟩
    all_goals first
      | (simp [sWk] at e; omega)
      | (simp [sAt] at e; omega)
      | (simp [sRt] at e; omega)
      | (simp [sHd] at e; omega)
      | (simp [sSv] at e; omega)
      | (simp [sTd] at e; omega)
  · have G : ∀ p i, ¬ (p = 45 ∨ p = 46 ∨ (p = 42 ∧ i = 0)) → mI y p i = mI v p i := fun p i h => by
      by_cases z : p = 42
      · rw [z]; exact g4 i (by omega)
      · rw [gI p z (by omega) (by omega)]
    refine ⟨r1.of gR, g1, (r3.ag (fun p i e => G p i ?_)).mono (fun z => by rw [m2]), r4.ag (fun p i e => G p i ?_), r5.ag (fun p i e => G p i ?_), r6.ag (fun p i e => G p i ?_), r7.ag (fun p i e => G p i ?_) (by rw [gL])⟩
    all_goals first
      | (simp [qWk] at e; omega)
      | (simp [qAt] at e; omega)
      | (simp [qRt] at e; omega)
      | (simp [qHd] at e; omega)
      | (simp [qSv] at e; omega)
theorem J_hand {j : Nat} {u : mSt} {a1 a2 a3 : Int32} {K : Int32 → mSt → Prop} (I : Inv j u) (k : ∀ r u1, (∀ K2 : Int32 → mSt → Prop, (∀ u2, Inv j u2 → K2 r u2) → bX9_hand 42 a1 a2 a3 u1 K2) → K r u1) : bX8_hand 0 a1 a2 a3 u K := by
  obtain ⟨x, o, c, r⟩ := I
  obtain ⟨o1, o2, o3, o4, o5, o6, o7, o8⟩ := id o
  obtain ⟨pn, ps, g, L, c1, c2, c3, c4, c5, c6, c7, c8, c9, c10⟩ := id c
  refine C_hand c1 c7 (fun v e1 eR eL eN eT eI => k _ v (fun K2 k2 => ?_))
  have F : ∀ p i, ¬ (p = 20 ∨ p = 21) → mI v p i = mI u p i := fun p i h => by rw [eI p (by omega) (by omega)]
  obtain ⟨r1, r2, r3, r4, r5, r6, r7⟩ := r.cl (v := v) ⟨fun p h1 h2 => eI p (by omega) (by omega), by rw [eL], fun x => by rw [eR]⟩
  refine M_hand r1 r6 (fun y g1 gR gL gN gT gI g4 => k2 y ⟨(x.1, x.2.1, x.2.2.1, x.2.2.2.1, (xHand x.2.2.2.2.1 a1 a2 a3).2, x.2.2.2.2.2), ⟨o1, o2, o3, o4, o5, o6, xHand_ok o7 a1 a2 a3, o8⟩, ?_, ?_⟩)
  · refine cInv.rf (u := v) o3.2.2.2.1 ⟨pn, ps, g, L, c1.of eR, c2.ag (fun p i e => F p i ?_), c3.ag (fun p i e => F p i ?_), c4.ag o3.2.2.2.1 (fun p i e => F p i ?_) eR eN, c5.of eN eT, c6.ag (fun p i e => F p i ?_), e1, c8.ag (fun p i e => F p i ?_) (fun p _ _ => by rw [eL]), c9, c10.ag (fun p i e => F p i ?_)⟩ ⟨fun p hp => ⟨gI p (by omega) (by omega) (by omega), by rw [gL]⟩, gR, gN, gT⟩
    all_goals first
      | (simp [sHo] at e; omega)
      | (simp [sWk] at e; omega)
      | (simp [sAt] at e; omega)
      | (simp [sRt] at e; omega)
      | (simp [sSv] at e; omega)
      | (simp [sTd] at e; omega)
  · have G : ∀ p i, ¬ (p = 66 ∨ p = 67 ∨ (p = 42 ∧ i = 0)) → mI y p i = mI v p i := fun p i h => by
      by_cases z : p = 42
      · rw [z]; exact g4 i (by omega)
      · rw [gI p z (by omega) (by omega)]
    refine ⟨r1.of gR, r2.ag (fun p i e => G p i ?_), r3.ag (fun p i e => G p i ?_), r4.ag (fun p i e => G p i ?_), r5.ag (fun p i e => G p i ?_), g1, r7.ag (fun p i e => G p i ?_) (by rw [gL])⟩
    all_goals first
      | (simp [qHo] at e; omega)
      | (simp [qWk] at e; omega)
      | (simp [qAt] at e; omega)
      | (simp [qRt] at e; omega)
      | (simp [qSv] at e; omega)
/-- the class's shelves changed -/
theorem cInv.sv {x : aAll} {s : aSv} {j : Nat} {u v : mSt} (hl : x.2.2.1.2.2.length ≤ 150) (c : cInv x j u) (e1 : cSv s v) (eR : mR v = mR u) (eN : mN v = mN u) (eT : mT v = mT u) (eI : ∀ p, (p < 26 ∨ 42 ≤ p) → mI v p = mI u p) : cInv (x.1, x.2.1, x.2.2.1, x.2.2.2.1, x.2.2.2.2.1, s) j v := by
  obtain ⟨pn, ps, g, L, c1, c2, c3, c4, c5, c6, c7, c8, c9, c10⟩ := c
  have F : ∀ p i, (p < 26 ∨ 42 ≤ p) → mI v p i = mI u p i := fun p i h => by rw [eI p h]
  refine ⟨pn, ps, g, L, c1.of eR, c2.ag (fun p i e => F p i ?_), c3.ag (fun p i e => F p i ?_), c4.ag hl (fun p i e => F p i ?_) eR eN, c5.of eN eT, c6.ag (fun p i e => F p i ?_), c7.ag (fun p i e => F p i ?_), e1, c9, c10.ag (fun p i e => F p i ?_)⟩
  all_goals first
    | (simp [sHo] at e; omega)
    | (simp [sWk] at e; omega)
    | (simp [sAt] at e; omega)
    | (simp [sRt] at e; omega)
    | (simp [sHd] at e; omega)
    | (simp [sTd] at e; omega)
/-- the reference's shelves changed -/
theorem rInv.sv {x : aAll} {s : aSv} {u v : mSt} (r : rInv x u) (g1 : rSv s v) (gR : mR v = mR u) (gI : ∀ p, p ≠ 42 → p ≠ 70 → p ≠ 71 → p ≠ 72 → p ≠ 73 → mI v p = mI u p) (g4 : ∀ i, i ≠ 0 → mI v 42 i = mI u 42 i) : rInv (x.1, x.2.1, x.2.2.1, x.2.2.2.1, x.2.2.2.2.1, s) v := by
  obtain ⟨r1, r2, r3, r4, r5, r6, r7⟩ := r
  have G : ∀ p i, ¬ (p = 70 ∨ p = 71 ∨ p = 72 ∨ p = 73 ∨ (p = 42 ∧ i = 0)) → mI v p i = mI u p i := fun p i h => by
    by_cases z : p = 42
    · rw [z]; exact g4 i (by omega)
    · rw [gI p z (by omega) (by omega) (by omega) (by omega)]
  refine ⟨r1.of gR, r2.ag (fun p i e => G p i ?_), r3.ag (fun p i e => G p i ?_), r4.ag (fun p i e => G p i ?_), r5.ag (fun p i e => G p i ?_), r6.ag (fun p i e => G p i ?_), g1⟩
  all_goals first
    | (simp [qHo] at e; omega)
    | (simp [qWk] at e; omega)
    | (simp [qAt] at e; omega)
    | (simp [qRt] at e; omega)
    | (simp [qHd] at e; omega)
theorem J_make {j : Nat} {u : mSt} {a1 a2 a3 : Int32} {K : Int32 → mSt → Prop} (I : Inv j u) (k : ∀ r u1, (∀ K2 : Int32 → mSt → Prop, (∀ u2, Inv j u2 → K2 r u2) → bX9_make 42 a1 a2 a3 u1 K2) → K r u1) : bX8_make 0 a1 a2 a3 u K := by
  obtain ⟨x, o, c, r⟩ := I
  obtain ⟨o1, o2, o3, o4, o5, o6, o7, o8⟩ := id o
  obtain ⟨pn, ps, g, L, c1, c2, c3, c4, c5, c6, c7, c8, c9, c10⟩ := id c
  refine C_make c1 c8 (fun v e1 eR eN eT eI => k _ v (fun K2 k2 => ?_))
  have r' := r.cl (v := v) ⟨fun p h1 h2 => (eI p (by omega)).1, (eI 74 (by omega)).2, fun x => by rw [eR]⟩
  have c' := c.sv o3.2.2.2.1 e1 eR eN eT (fun p hp => (eI p hp).1)
  obtain ⟨r1, r2, r3, r4, r5, r6, r7⟩ := id r'
  exact M_make r1 o8 r7 (fun y g1 gM gI g4 => k2 y ⟨(x.1, x.2.1, x.2.2.1, x.2.2.2.1, x.2.2.2.2.1, (xMake x.2.2.2.2.2 a1 a2 a3).2), ⟨o1, o2, o3, o4, o5, o6, o7, xMake_ok o8 a1 a2 a3⟩, c'.rf o3.2.2.2.1 gM, r'.sv g1 gM.2.1 (fun p p1 p2 p3 _ _ => gI p p1 p2 p3) g4⟩)
theorem J_copy {j : Nat} {u : mSt} {a1 a2 a3 a4 a5 : Int32} {K : Int32 → mSt → Prop} (I : Inv j u) (k : ∀ r u1, (∀ K2 : Int32 → mSt → Prop, (∀ u2, Inv j u2 → K2 r u2) → bX9_copy 42 a1 a2 a3 a4 a5 u1 K2) → K r u1) : bX8_copy 0 a1 a2 a3 a4 a5 u K := by
  obtain ⟨x, o, c, r⟩ := I
  obtain ⟨o1, o2, o3, o4, o5, o6, o7, o8⟩ := id o
  obtain ⟨pn, ps, g, L, c1, c2, c3, c4, c5, c6, c7, c8, c9, c10⟩ := id c
  refine C_copy c1 o8 c8 (fun v e1 eR eN eT eI eL => k _ v (fun K2 k2 => ?_))
  have r' := r.cl (v := v) ⟨fun p h1 h2 => by rw [eI], eL 74 (by omega), fun x => by rw [eR]⟩
  have c' := c.sv o3.2.2.2.1 e1 eR eN eT (fun p hp => by rw [eI])
  obtain ⟨r1, r2, r3, r4, r5, r6, r7⟩ := id r'
  exact M_copy r1 o8 r7 (fun y g1 gM gI g4 => k2 y ⟨(x.1, x.2.1, x.2.2.1, x.2.2.2.1, x.2.2.2.2.1, (xCopy x.2.2.2.2.2 a1 a2 a3 a4 a5).2), ⟨o1, o2, o3, o4, o5, o6, o7, xCopy_ok o8 a1 a2 a3 a4 a5⟩, c'.rf o3.2.2.2.1 gM, r'.sv g1 gM.2.1 (fun p p1 _ _ _ _ => gI p p1) g4⟩)
theorem J_keep {j : Nat} {u : mSt} {a1 a2 a3 : Int32} {K : Int32 → mSt → Prop} (I : Inv j u) (k : ∀ r u1, (∀ K2 : Int32 → mSt → Prop, (∀ u2, Inv j u2 → K2 r u2) → bX9_keep 42 a1 a2 a3 u1 K2) → K r u1) : bX8_keep 0 a1 a2 a3 u K := by
  obtain ⟨x, o, c, r⟩ := I
  obtain ⟨o1, o2, o3, o4, o5, o6, o7, o8⟩ := id o
  obtain ⟨pn, ps, g, L, c1, c2, c3, c4, c5, c6, c7, c8, c9, c10⟩ := id c
  refine C_keep c1 o1 o2 o3 c2 c3 c4 c8 (fun v e1 eR eN eT eI => k _ v (fun K2 k2 => ?_))
  have r' := r.cl (v := v) ⟨fun p h1 h2 => (eI p (by omega)).1, (eI 74 (by omega)).2, fun x => by rw [eR]⟩
  have c' := c.sv o3.2.2.2.1 e1 eR eN eT (fun p hp => (eI p hp).1)
  obtain ⟨r1, r2, r3, r4, r5, r6, r7⟩ := id r'
  exact M_keep r1 o1 o2 o3 r2 r3 r4.1 o8 r7 (fun y g1 gM gI g4 => k2 y ⟨(x.1, x.2.1, x.2.2.1, x.2.2.2.1, x.2.2.2.2.1, (xKeep x.1 x.2.1 x.2.2.1 x.2.2.2.2.2 a1 a2 a3).2), ⟨o1, o2, o3, o4, o5, o6, o7, xKeep_ok o1 o3 o8 a1 a2 a3⟩, c'.rf o3.2.2.2.1 gM, r'.sv g1 gM.2.1 gI g4⟩)
