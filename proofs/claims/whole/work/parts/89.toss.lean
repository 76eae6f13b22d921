/-! TOSS and ELEMENT: where the class throws, junk stays behind -/
theorem cInv_jk {x : aAll} {j : Nat} {u : mSt} (c : cInv x j u) {k z : Nat} (hk : k ≤ 1) (hz : z ≤ 6) : cInv x (j + 1) (mjk u k z) := by
  obtain ⟨pn, ps, g, L, c1, c2, c3, c4, c5, c6, c7, c8, c9, c10⟩ := c
  refine ⟨pn, ps, g, L, c1, c2, c3, ?_, ?_, c6, c7, c8, c9, c10⟩
  · obtain ⟨⟨p1, p2, p3, p4, p5, p6⟩, q2, q3, q4, q5⟩ := c4
    refine ⟨⟨p1, p2, p3, p4, fun i kk q h1 h2 h3 => ?_, p6⟩, q2, q3, q4, q5⟩
    obtain ⟨a1, a2, a3, a4⟩ := p5 i kk q h1 h2 h3
    exact ⟨a1, Nat.lt_of_lt_of_le a2 (Nat.le_add_right _ _), a3, a4⟩
  · obtain ⟨a1, a2, a3⟩ := c5
    refine ⟨?_, ?_, ?_⟩
    · show 77 ≤ mN u + k; omega
    · show mN u + k ≤ _; omega
    · show mT u + z ≤ _; omega
theorem cInv_up {x : aAll} {j : Nat} {u : mSt} (c : cInv x j u) : cInv x (j + 1) u := by
  obtain ⟨pn, ps, g, L, c1, c2, c3, c4, c5, c6, c7, c8, c9, c10⟩ := c
  obtain ⟨a1, a2, a3⟩ := c5
  exact ⟨pn, ps, g, L, c1, c2, c3, c4, ⟨a1, by omega, by omega⟩, c6, c7, c8, c9, c10⟩
theorem Inv.up {j : Nat} {u : mSt} (I : Inv j u) : Inv (j + 1) u := by
  obtain ⟨x, o, c, r⟩ := I
  exact ⟨x, o, cInv_up c, r⟩
theorem rInv_jk {x : aAll} {u : mSt} (r : rInv x u) (k z : Nat) : rInv x (mjk u k z) := r.cl ⟨fun _ _ _ => rfl, rfl, fun _ => rfl⟩
theorem room_jk {x : aAll} {j : Nat} {u : mSt} (c : cInv x j u) (hj : j ≤ 600) : mN u + 1 ≤ mCapC ∧ mT u + 6 ≤ mCapS := by
  obtain ⟨pn, ps, g, L, c1, c2, c3, c4, ⟨a1, a2, a3⟩, c6, c7, c8, c9, c10⟩ := c
  have := nMade_le g
  exact ⟨by unfold mCapC; omega, by unfold mCapS; omega⟩
def xToss (v : aSv) (a : Int32) : Int32 := match dec a 8 with
  | none => -1
  | some d => if (v d).1 = 0 then -11 else if (v d).1 = 1 then (if (v d).2.1 = 0 then -15 else nI (v d).2.2.1) else -12
theorem xToss_den {v : aSv} {a : Int32} (h : xDen v a ≠ 0) : xToss v a = xDen v a := by
  unfold xToss xDen at *
  cases e : dec a 8 with
  | none => rfl
  | some d =>
    rw [e] at h
    dsimp only at h ⊢
    by_cases z : (v d).1 = 0
    · rw [if_pos z, if_pos z]
    · rw [if_neg z] at h
      rw [if_neg z, if_neg z]
      by_cases z2 : (v d).1 = 1
      · rw [if_pos z2] at h; exact absurd rfl h
      · rw [if_neg z2, if_neg z2]
theorem xToss_at {v : aSv} {a : Int32} {d : Nat} (hd : d < 8) (e : a = nI d) (h1 : (v d).1 = 1) : xToss v a = if (v d).2.1 = 0 then -15 else nI (v d).2.2.1 := by
  unfold xToss
  rw [dec_some (n := 8) (by decide) hd e]
  dsimp only
  rw [if_neg (by omega), if_pos h1]
theorem M_toss {v : aSv} {u : mSt} {a : Int32} {K : Int32 → mSt → Prop} (hr : rRf u) (ho : oSv v) (hc : rSv v u) (k : K (xToss v a) (mpI u 42 0 0)) : bX9_toss 42 a u K := by
  have r7 : mR (mpI u 42 0 0) 42 49 = some 73 := hr.get 42 49 73 (by decide)
  unfold bX9_toss
  rintro _ rfl
  refine s_denied (v := v) (hr.of rfl) ho (fun d hd => by rw [th_ne u (by decide)]; exact (hc d hd).1) (fun d hd e h1 => br_t (by decide) ?_) (fun h => br_f (xDen_neg h) (by rw [← xToss_den h]; exact k))
  rw [xToss_at hd e h1] at k
  refine ⟨73, r7, ?_⟩
  rw [e, nI_clamp (by omega), th_ne u (by decide), ((hc d hd).2.1 h1).2]
  exact ⟨vp_in_nI hd (by decide), k⟩
theorem J_toss {j : Nat} {u : mSt} {a : Int32} {K : Int32 → mSt → Prop} (hj : j ≤ 600) (I : Inv j u) (k : ∀ r u1, (∀ K2 : Int32 → mSt → Prop, (∀ u2, Inv (j + 1) u2 → K2 r u2) → bX9_toss 42 a u1 K2) → K r u1) : bX8_toss 0 a u K := by
  obtain ⟨x, o, c, r⟩ := I
  obtain ⟨o1, o2, o3, o4, o5, o6, o7, o8⟩ := id o
  obtain ⟨pn, ps, g, L, c1, c2, c3, c4, c5, c6, c7, c8, c9, c10⟩ := id c
  have fin : ∀ u1, cInv x (j + 1) u1 → rInv x u1 → K (xToss x.2.2.2.2.2 a) u1 := fun u1 cu ru => by
    obtain ⟨r1, r2, r3, r4, r5, r6, r7⟩ := id ru
    exact k _ u1 (fun K2 k2 => M_toss r1 o8 r7 (k2 _ (J_same o cu ru 0)))
  unfold bX8_toss
  refine s_leadless c1 o8 c8 (fun d hd e h1 => ⟨fun z => absurd rfl z, fun _ => ?_⟩) (fun h => ⟨fun _ => ?_, fun z => absurd z h⟩)
  · obtain ⟨z1, z2⟩ := shelf_at c1 hd
    rw [xToss_at hd e h1] at fin
    refine ⟨25, c1.get 0 7 25 (by decide), by rw [e]; exact vp_in_nI hd (by decide), 26 + 2 * d, by rw [e, nI_clamp (by omega)]; exact z1, ?_⟩
    obtain ⟨s1', s2', s3'⟩ := c8 d hd
    obtain ⟨k1', k2'⟩ := s2' h1
    have hk := ((o8 d hd).2.2 h1).1
    rw [k1']
    refine pk_eq (x.2.2.2.2.2 d).2.1 0 (fun z => ?_) (fun z => ⟨room_jk c hj, fun kk zz h1' h2' => ?_⟩) rfl k0
    · rw [if_pos z] at fin
      exact fin u (cInv_up c) r
    · rw [if_neg z] at fin
      rw [k2' z]
      exact fin _ (cInv_jk c h1' h2') (rInv_jk r _ _)
  · have := fin u (cInv_up c) r
    rw [xToss_den h] at this
    exact this
def xElem (v : aSv) (a1 a2 : Int32) : Int32 × Int64 := match dec a1 8 with
  | none => (1, 0)
  | some d => if (v d).1 ≤ 2 then (2, 0) else match dec a2 (v d).2.2.2.1 with
    | none => (2, 0)
    | some i => (0, (v d).2.2.2.2 i)
theorem M_element {v : aSv} {u : mSt} {a1 a2 : Int32} {K : Int64 → mSt → Prop} (hr : rRf u) (ho : oSv v) (hc : rSv v u) (k : K (xElem v a1 a2).2 (mpI u 42 0 (xElem v a1 a2).1)) : bX9_element 42 a1 a2 u K := by
  have no : ∀ d, d < 8 → a1 = nI d → xElem v a1 a2 = (2, 0) → bX9_element_39 42 a1 a2 u K := fun d hd e hx => by
    rw [hx] at k
    unfold bX9_element_39 bX9_element_40
    refine s_isShelfN (fun d' hd' e' => br_f (by decide) (br_t rfl ?_)) (fun e' => absurd e (e' d hd))
    unfold bX9_element_62
    rintro _ rfl
    exact br_t rfl k
  unfold bX9_element
  refine s_isShelfN (fun d hd e => br_f (by decide) ⟨70, hr.get 42 46 70 (by decide), by rw [e]; exact vp_in_nI hd (by decide), ?_⟩) (fun e => br_t rfl ?_)
  · have hx : xElem v a1 a2 = if (v d).1 ≤ 2 then ((2 : Int32), (0 : Int64)) else match dec a2 (v d).2.2.2.1 with
      | none => (2, 0)
      | some i => (0, (v d).2.2.2.2 i) := by
      unfold xElem
      rw [dec_some (n := 8) (by decide) hd e]
    have ht := (ho d hd).1
    rw [e, nI_clamp (by omega), (hc d hd).1]
    rw [e] at no
    refine pk_le (v d).1 2 (fun z => no d hd rfl (by rw [← e, hx, if_pos z])) (fun z => ⟨71, hr.get 42 47 71 (by decide), vp_in_nI hd (by decide), ?_⟩) rfl k2
    rw [if_neg (by omega)] at hx
    obtain ⟨hsz, hrow⟩ := (hc d hd).2.2 (by omega)
    have h60 := (ho d hd).2.1 (by omega)
    rw [hsz]
    have yes : ∀ i, i < (v d).2.2.2.1 → a2 = nI i → bX9_element_40 42 (nI d) a2 1 u K := fun i hi ei => by
      rw [dec_some (n := (v d).2.2.2.1) (by omega) hi ei] at hx
      rw [hx] at k
      unfold bX9_element_40
      refine s_isShelfN (fun d' hd' e' => br_f (by decide) (br_f (by decide) ?_)) (fun e' => absurd rfl (e' d hd))
      unfold bX9_element_62
      rintro _ rfl
      refine br_f (by decide) ⟨74, hr.get 42 50 74 (by decide), ?_⟩
      rw [ei, show (60 : Int32) = nI 60 by decide, pk_mul, nI_add, nI_clamp (by omega)]
      refine ⟨vp_in_nI (by omega) (by decide), ?_⟩
      rw [s3, hrow i hi]
      exact k
    have noi : (∀ i, i < (v d).2.2.2.1 → a2 ≠ nI i) → bX9_element_39 42 (nI d) a2 u K := fun hno => by
      refine no d hd rfl ?_
      rw [← e, hx, dec_none (n := (v d).2.2.2.1) (by omega) hno]
    by_cases z0 : (v d).2.2.2.1 = 0
    · rw [s_isIn]
      refine ⟨fun c => ?_, fun _ => br_t rfl (noi (fun i hi => by omega))⟩
      exfalso
      rw [z0] at c
      exact absurd (Int64.le_trans c.1 c.2) (by decide)
    · refine s_isInN (lo := 0) (hi := (v d).2.2.2.1 - 1) (by decide) (by rw [k1, pk_sub (by omega)]) (by omega) (by omega) _ _ (fun i _ hi ei => br_f (by decide) (yes i (by omega) ei)) (fun e' => br_t rfl (noi (fun i hi => e' i (by omega) (by omega))))
  · have hx : xElem v a1 a2 = (1, 0) := by
      unfold xElem
      rw [dec_none (n := 8) (by decide) e]
    rw [hx] at k
    unfold bX9_element_39 bX9_element_40
    refine s_isShelfN (fun d hd e' => absurd e' (e d hd)) (fun _ => br_t rfl ?_)
    unfold bX9_element_62
    rintro _ rfl
    exact br_t rfl k
theorem J_element {j : Nat} {u : mSt} {a1 a2 : Int32} {K : Int32 → mSt → Prop} (hj : j ≤ 600) (I : Inv j u) (k : ∀ e u1, (∀ K2 : Int64 → mSt → Prop, (∀ b u2, mI u2 42 0 = e → (e = 0 → mL u2 76 0 = b) → Inv (j + 1) u2 → K2 b u2) → bX9_element 42 a1 a2 u1 K2) → K e u1) : bL_element 0 a1 a2 76 u K := by
  obtain ⟨x, o, c, r⟩ := I
  obtain ⟨o1, o2, o3, o4, o5, o6, o7, o8⟩ := id o
  obtain ⟨pn, ps, g, L, c1, c2, c3, c4, c5, c6, c7, c8, c9, c10⟩ := id c
  have fin : ∀ e u1, e = (xElem x.2.2.2.2.2 a1 a2).1 → (e = 0 → mL u1 76 0 = (xElem x.2.2.2.2.2 a1 a2).2) → cInv x (j + 1) u1 → rInv x u1 → K e u1 := fun e u1 he hL cu ru => by
    obtain ⟨r1, r2, r3, r4, r5, r6, r7⟩ := id ru
    refine k _ u1 (fun K2 k2 => M_element r1 o8 r7 (k2 _ _ ?_ (fun h0 => ?_) (J_same o cu ru _)))
    · rw [up_eq, he]
    · rw [s3]; exact hL h0
  have junk : ∀ e, e = (xElem x.2.2.2.2.2 a1 a2).1 → e ≠ 0 → ((mN u + 1 ≤ mCapC ∧ mT u + 6 ≤ mCapS) ∧ ∀ k z, k ≤ 1 → z ≤ 6 → K e (mjk u k z)) := fun e he hn => ⟨room_jk c hj, fun kk zz h1 h2 => fin e _ he (fun h0 => absurd h0 hn) (cInv_jk c h1 h2) (rInv_jk r _ _)⟩
  unfold xElem at junk fin
  unfold bL_element
  refine s_withinN (N := 8) rfl (by decide) _ _ (fun d hd e => ⟨fun z => absurd z (by decide), fun _ => ?_⟩) (fun e => ⟨fun _ => junk 1 ?_ (by decide), fun z => absurd rfl z⟩)
  · rw [dec_some (n := 8) (by decide) hd e] at junk fin
    dsimp only at junk fin
    obtain ⟨z1, z2⟩ := shelf_at c1 hd
    obtain ⟨s1', s2', s3'⟩ := c8 d hd
    have ht := (o8 d hd).1
    refine ⟨25, c1.get 0 7 25 (by decide), by rw [e]; exact vp_in_nI hd (by decide), 26 + 2 * d, by rw [e, nI_clamp (by omega)]; exact z1, ?_⟩
    have row : 3 ≤ (x.2.2.2.2.2 d).1 → bX8_within a2 (mI u (26 + 2 * d) 4) u (fun r3 u3 => (r3 = 0 → (mN u3 + 1 ≤ mCapC ∧ mT u3 + 6 ≤ mCapS) ∧ ∀ k z, k ≤ 1 → z ≤ 6 → K 2 (mjk u3 k z)) ∧ (¬ (r3 = 0) → ∃ w, mR u3 (26 + 2 * d) 0 = some w ∧ vp_in a2 60 ∧ K 0 (mpL u3 76 0 (mL u3 w a2.toNatClampNeg)))) := by
      intro h3
      obtain ⟨hsz, hrow⟩ := s3' h3
      have h60 := (o8 d hd).2.1 h3
      rw [if_neg (by omega)] at junk fin
      rw [hsz]
      refine s_withinN rfl (by omega) _ _ (fun i hi ei => ⟨fun z => absurd z (by decide), fun _ => ⟨27 + 2 * d, z2, by rw [ei]; exact vp_in_nI (by omega) (by decide), ?_⟩⟩) (fun ei => ⟨fun _ => junk 2 ?_ (by decide), fun z => absurd rfl z⟩)
      · rw [dec_some (n := (x.2.2.2.2.2 d).2.2.2.1) (by omega) hi ei] at fin
        rw [ei, nI_clamp (by omega), hrow i hi]
        refine fin 0 _ rfl (fun _ => ?_) ?_ ?_
        · simp [s9, mup_at]
        · obtain ⟨pn, ps, g, L, c1, c2, c3, c4, c5, c6, c7, c8, c9, c10⟩ := cInv_up c
          refine ⟨pn, ps, g, L, c1, c2, c3, c4, c5, c6, c7, c8.ag (fun _ _ _ => rfl) (fun p h1 h2 => ?_), c9, c10⟩
          rw [s9]; exact mup_ne _ (by omega)
        · exact r.cl ⟨fun _ _ _ => rfl, by rw [s9]; exact mup_ne _ (by omega), fun _ => rfl⟩
      · rw [dec_none (n := (x.2.2.2.2.2 d).2.2.2.1) (by omega) ei]
    unfold bX5_isRow
    rw [s1']
    refine pk_eq (x.2.2.2.2.2 d).1 3 (fun z => ⟨fun q => absurd q (by decide), fun _ => row (by omega)⟩) (fun z => pk_eq (x.2.2.2.2.2 d).1 4 (fun z' => ⟨fun q => absurd q (by decide), fun _ => row (by omega)⟩) (fun z' => ⟨fun _ => junk 2 ?_ (by decide), fun q => absurd rfl q⟩) rfl k4) rfl k3
    rw [if_pos (by omega)]
  · rw [dec_none (n := 8) (by decide) e]
