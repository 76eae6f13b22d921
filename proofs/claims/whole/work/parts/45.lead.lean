/-- lead -/
def xLead (h : aHo) (a1 a2 a3 a4 : Int32) : Int32 × aHo := match dec a1 h.1 with
  | none => (-1, h)
  | some c => match dec a2 4 with
    | none => (-1, h)
    | some i => match dec a3 6 with
      | none => (-1, h)
      | some d => if d = 0 then (nI (h.2.2.2.1 (c * 4 + i)), (h.1, h.2.1, h.2.2.1, va_up h.2.2.2.1 (c * 4 + i) 0, va_up h.2.2.2.2 (c * 4 + i) 0)) else match dec a4 h.1 with
        | none => (-1, h)
        | some t => (nI (h.2.2.2.1 (c * 4 + i)), (h.1, h.2.1, h.2.2.1, va_up h.2.2.2.1 (c * 4 + i) d, va_up h.2.2.2.2 (c * 4 + i) t))
theorem oHo_lead {h : aHo} (ho : oHo h) {j d t : Nat} (hj : j < 4 * h.1) (hd : d < 6) (ht : d ≠ 0 → t < h.1) : oHo (h.1, h.2.1, h.2.2.1, va_up h.2.2.2.1 j d, va_up h.2.2.2.2 j t) := by
  refine ⟨ho.1, ho.2.1, fun i hi => ?_⟩
  show va_up h.2.2.2.1 j d i < 6 ∧ (va_up h.2.2.2.1 j d i ≠ 0 → va_up h.2.2.2.2 j t i < h.1 ∧ i < 4 * h.1)
  unfold va_up
  by_cases q : i = j
  · simp only [q, if_true]; exact ⟨hd, fun z => ⟨ht z, hj⟩⟩
  · simp only [q, if_false]; exact ho.2.2 i hi
theorem gHo_lead {h : aHo} {n : Int32} {f1 f2 f3 f4 : Nat → Int32} (g : gHo h n f1 f2 f3 f4) {j d t : Nat} {x : Int32} (hx : d ≠ 0 → x = nI t) : gHo (h.1, h.2.1, h.2.2.1, va_up h.2.2.2.1 j d, va_up h.2.2.2.2 j t) n f1 f2 (fun i => if i = j then nI d else f3 i) (fun i => if i = j then x else f4 i) := by
  refine ⟨g.1, g.2.1, fun i hi => ?_⟩
  show (if i = j then nI d else f3 i) = nI (va_up h.2.2.2.1 j d i) ∧ (va_up h.2.2.2.1 j d i ≠ 0 → (if i = j then x else f4 i) = nI (va_up h.2.2.2.2 j t i))
  unfold va_up
  by_cases q : i = j
  · simp only [q, if_true]; exact ⟨trivial, hx⟩
  · simp only [q, if_false]; exact g.2.2 i hi
theorem xLead_ok {h : aHo} (ho : oHo h) (a1 a2 a3 a4 : Int32) : oHo (xLead h a1 a2 a3 a4).2 ∧ (xLead h a1 a2 a3 a4).2.1 = h.1 ∧ (xLead h a1 a2 a3 a4).2.2.1 = h.2.1 := by
  have h10 := ho.1
  unfold xLead
  rcases dec_cases a1 (n := h.1) (by omega) with ⟨c, hc, -, e⟩ | ⟨-, e⟩ <;> rw [e]
  · rcases dec_cases a2 (n := 4) (by decide) with ⟨i, hi, -, e2⟩ | ⟨-, e2⟩ <;> simp only [e2]
    · rcases dec_cases a3 (n := 6) (by decide) with ⟨d, hd, -, e3⟩ | ⟨-, e3⟩ <;> simp only [e3]
      · by_cases hz : d = 0
        · simp only [hz, if_true]
          exact ⟨oHo_lead ho (by omega) (by decide) (fun q => absurd rfl q), by trivial, by trivial⟩
        · simp only [hz, if_false]
          rcases dec_cases a4 (n := h.1) (by omega) with ⟨t, ht, -, e4⟩ | ⟨-, e4⟩ <;> simp only [e4]
          · exact ⟨oHo_lead ho (by omega) hd (fun _ => ht), by trivial, by trivial⟩
          · exact ⟨ho, by trivial, by trivial⟩
      · exact ⟨ho, by trivial, by trivial⟩
    · exact ⟨ho, by trivial, by trivial⟩
  · exact ⟨ho, by trivial, by trivial⟩
theorem s_setLead {h : aHo} {u : mSt} {j d t : Nat} {x : Int32} {K : Int32 → mSt → Prop} (hr : cRf u) (hc : cHo h u) (hj : j < 40) (hx : d ≠ 0 → x = nI t) (k : ∀ v, cHo (h.1, h.2.1, h.2.2.1, va_up h.2.2.2.1 j d, va_up h.2.2.2.2 j t) v → mR v = mR u → mL v = mL u → mN v = mN u → mT v = mT u → (∀ p, p ≠ 4 → p ≠ 5 → mI v p = mI u p) → K (nI (h.2.2.2.1 j)) v) : bX1_setLead 1 (nI j) (nI d) x u K := by
  have r2 := hr.get 1 2 4 (by decide)
  have r3 := hr.get 1 3 5 (by decide)
  have hin : vp_in (nI j) 40 := vp_in_nI hj (by decide)
  have hcl : (nI j).toNatClampNeg = j := nI_clamp (by omega)
  unfold bX1_setLead
  rw [hcl]
  refine ⟨4, r2, hin, ?_⟩
  rintro _ rfl
  refine ⟨4, r2, hin, ?_⟩
  rintro _ rfl
  refine ⟨5, r3, hin, ?_⟩
  rintro _ rfl
  rw [(hc.2.2 j hj).1]
  refine k _ ?_ rfl rfl rfl rfl (fun p p1 p2 => by simp only [s1]; rw [mup_ne _ p2, mup_ne _ p1])
  have g := gHo_lead (j := j) (d := d) (t := t) (x := x) hc hx
  simp only [cHo, s1, mup_row]
  simpa using g
theorem C_lead {h : aHo} {u : mSt} {a1 a2 a3 a4 : Int32} {K : Int32 → mSt → Prop} (hr : cRf u) (ho : oHo h) (hc : cHo h u) (k : ∀ v, cHo (xLead h a1 a2 a3 a4).2 v → mR v = mR u → mL v = mL u → mN v = mN u → mT v = mT u → (∀ p, p ≠ 4 → p ≠ 5 → mI v p = mI u p) → K (xLead h a1 a2 a3 a4).1 v) : bX8_lead 0 a1 a2 a3 a4 u K := by
  have r0 := hr.get 0 0 1 (by decide)
  have h10 := ho.1
  have kr : ∀ x, x = xLead h a1 a2 a3 a4 → x = (-1, h) → K (-1) u := by
    intro x e1 e2
    rw [e2] at e1
    rw [← e1] at k
    exact k u hc rfl rfl rfl rfl (fun _ _ _ => rfl)
  unfold bX8_lead
  refine ⟨1, r0, s_withinN (N := h.1) hc.1 (by omega) _ _ (fun c hcc e => br_f (by decide) ?_) (fun e => br_t rfl ?_)⟩
  · have ed := dec_some (n := h.1) (by omega) hcc e
    refine s_withinN (N := 4) rfl (by decide) _ _ (fun i hi e2 => br_f (by decide) ?_) (fun e2 => br_t rfl ?_)
    · have ed2 := dec_some (n := 4) (by decide) hi e2
      refine s_withinN (N := 6) rfl (by decide) _ _ (fun d hd e3 => br_f (by decide) ?_) (fun e3 => br_t rfl ?_)
      · have ed3 := dec_some (n := 6) (by decide) hd e3
        have hz : a3 = 0 ↔ d = 0 := by rw [e3, k0]; exact nI_eq (by omega) (by decide)
        have hix : a1 * 4 + a2 = nI (c * 4 + i) := by rw [e, e2, k4, pk_mul, nI_add]
        rw [hz]
        refine br_c (fun z => ?_) (fun z => ⟨1, r0, ?_⟩)
        · have hx : xLead h a1 a2 a3 a4 = (nI (h.2.2.2.1 (c * 4 + i)), (h.1, h.2.1, h.2.2.1, va_up h.2.2.2.1 (c * 4 + i) 0, va_up h.2.2.2.2 (c * 4 + i) 0)) := by unfold xLead; simp only [ed, ed2, ed3, z, if_true]
          rw [hx] at k
          unfold bX8_lead_54 bX8_lead_74
          refine ⟨1, r0, ?_⟩
          rw [hz]
          refine br_t z ?_
          rw [hix, e3, z]
          exact s_setLead hr hc (by omega) (fun q => absurd rfl q) k
        · refine s_withinN (N := h.1) hc.1 (by omega) _ _ (fun t ht e4 => br_f (by decide) ?_) (fun e4 => br_t rfl ?_)
          · have ed4 := dec_some (n := h.1) (by omega) ht e4
            have hx : xLead h a1 a2 a3 a4 = (nI (h.2.2.2.1 (c * 4 + i)), (h.1, h.2.1, h.2.2.1, va_up h.2.2.2.1 (c * 4 + i) d, va_up h.2.2.2.2 (c * 4 + i) t)) := by unfold xLead; simp only [ed, ed2, ed3, ed4, z, if_false]
            rw [hx] at k
            unfold bX8_lead_54 bX8_lead_74
            refine ⟨1, r0, ?_⟩
            rw [hz]
            refine br_f z ?_
            rw [hix, e3]
            exact s_setLead hr hc (by omega) (fun _ => e4) k
          · have ed4 := dec_none (n := h.1) (by omega) e4
            exact kr _ rfl (by unfold xLead; simp only [ed, ed2, ed3, ed4, z, if_false])
      · have ed3 := dec_none (n := 6) (by decide) e3
        exact kr _ rfl (by unfold xLead; simp only [ed, ed2, ed3])
    · have ed2 := dec_none (n := 4) (by decide) e2
      exact kr _ rfl (by unfold xLead; simp only [ed, ed2])
  · have ed := dec_none (n := h.1) (by omega) e
    exact kr _ rfl (by unfold xLead; simp only [ed])
theorem s_isCellN {u : mSt} {a : Int32} {N : Nat} {K : Int32 → mSt → Prop} (hn : mI u 42 1 = nI N) (hN : N < 2 ^ 31) (h1 : ∀ j, j < N → a = nI j → K 1 u) (h0 : (∀ j, j < N → a ≠ nI j) → K 0 u) : bX9_isCell 42 a u K := by
  unfold bX9_isCell
  rw [hn]
  rcases pk_ix a hN with h | h | ⟨j, hj, rfl⟩
  · exact br_t h (h0 (fun j hj e => by subst e; exact absurd h (nI_pos (by omega))))
  · have h3 : ∀ j, j < N → a ≠ nI j := fun j hj e => by subst e; exact absurd h (nI_ge hj hN)
    exact br_c (fun _ => h0 h3) (fun _ => br_t h (h0 h3))
  · exact br_f (nI_pos (by omega)) (br_f (nI_ge hj hN) (h1 j hj rfl))
theorem s_mLead {h : aHo} {u : mSt} {c i d t : Nat} {a4 : Int32} {K : Int32 → mSt → Prop} (hr : rRf u) (hc : rHo h u) (hj : c * 4 + i < 40) (hd : d < 6) (hx : d ≠ 0 → a4 = nI t) (k : ∀ v, rHo (h.1, h.2.1, h.2.2.1, va_up h.2.2.2.1 (c * 4 + i) d, va_up h.2.2.2.2 (c * 4 + i) t) v → mR v = mR u → mL v = mL u → mN v = mN u → mT v = mT u → (∀ p, p ≠ 45 → p ≠ 46 → mI v p = mI u p) → K (nI (h.2.2.2.1 (c * 4 + i))) v) : bX9_lead_52 42 (nI c) (nI i) (nI d) a4 u K := by
  have r2 := hr.get 42 4 45 (by decide)
  have r3 := hr.get 42 5 46 (by decide)
  have hix : 4 * nI c + nI i = nI (c * 4 + i) := by rw [k4, pk_mul, nI_add, Nat.mul_comm]
  have hin : vp_in (nI (c * 4 + i)) 40 := vp_in_nI hj (by decide)
  have hcl : (nI (c * 4 + i)).toNatClampNeg = c * 4 + i := nI_clamp (by omega)
  have hz : nI d ≤ 0 ↔ d = 0 := by rw [k0, nI_leI (by omega) (by decide)]; omega
  unfold bX9_lead_52
  rw [hix, hcl, hz]
  refine ⟨45, r2, hin, ?_⟩
  rintro _ rfl
  refine ⟨45, r2, hin, ?_⟩
  rintro _ rfl
  refine ⟨46, r3, ?_⟩
  rw [(hc.2.2 _ hj).1]
  have fin : ∀ x, (d ≠ 0 → x = nI t) → K (nI (h.2.2.2.1 (c * 4 + i))) (mpI (mpI u 45 (c * 4 + i) (nI d)) 46 (c * 4 + i) x) := by
    intro x hx
    refine k _ ?_ rfl rfl rfl rfl (fun p p1 p2 => by simp only [s1]; rw [mup_ne _ p2, mup_ne _ p1])
    have g := gHo_lead (j := c * 4 + i) (d := d) (t := t) (x := x) hc hx
    simp only [rHo, s1, mup_row]
    simpa using g
  refine br_c (fun z => ⟨hin, ?_⟩) (fun z => ⟨hin, ?_⟩)
  · rintro _ rfl
    exact fin 0 (fun q => absurd z q)
  · rintro _ rfl
    exact fin a4 hx
theorem M_lead {h : aHo} {u : mSt} {a1 a2 a3 a4 : Int32} {K : Int32 → mSt → Prop} (hr : rRf u) (ho : oHo h) (hc : rHo h u) (k : ∀ v, rHo (xLead h a1 a2 a3 a4).2 v → mR v = mR u → mL v = mL u → mN v = mN u → mT v = mT u → (∀ p, p ≠ 42 → p ≠ 45 → p ≠ 46 → mI v p = mI u p) → (∀ i, i ≠ 0 → mI v 42 i = mI u 42 i) → K (xLead h a1 a2 a3 a4).1 v) : bX9_lead 42 a1 a2 a3 a4 u K := by
  have h10 := ho.1
  have hr' : rRf (mpI u 42 0 0) := hr.of rfl
  have hc' : rHo h (mpI u 42 0 0) := by simpa [rHo, s1, mup_row] using hc
  have k' : ∀ v, rHo (xLead h a1 a2 a3 a4).2 v → mR v = mR u → mL v = mL u → mN v = mN u → mT v = mT u → (∀ p, p ≠ 45 → p ≠ 46 → mI v p = mI (mpI u 42 0 0) p) → K (xLead h a1 a2 a3 a4).1 v := fun v v1 v2 v3 v4 v5 v6 => k v v1 v2 v3 v4 v5 (fun p p1 p2 p3 => by rw [v6 p p2 p3, th_ne u p1]) (fun i hi => by rw [v6 42 (by decide) (by decide), th_at u hi])
  have kr : ∀ x, x = xLead h a1 a2 a3 a4 → x = (-1, h) → K (-1) (mpI u 42 0 0) := by
    intro x e1 e2
    rw [e2] at e1
    rw [← e1] at k'
    exact k' _ hc' rfl rfl rfl rfl (fun _ _ _ => rfl)
  unfold bX9_lead
  rintro _ rfl
  refine s_isCellN (N := h.1) hc'.1 (by omega) (fun c hcc e => br_f (by decide) ?_) (fun e => br_t rfl ?_)
  · have ed := dec_some (n := h.1) (by omega) hcc e
    refine s_isInN (lo := 0) (hi := 3) (by decide) (by decide) (by decide) (by decide) _ _ (fun i _ hi e2 => br_f (by decide) ?_) (fun e2 => br_t rfl ?_)
    · have ed2 := dec_some (n := 4) (by decide) (by omega) e2
      refine s_isInN (lo := 0) (hi := 5) (by decide) (by decide) (by decide) (by decide) _ _ (fun d _ hd e3 => br_f (by decide) ?_) (fun e3 => br_t rfl ?_)
      · have ed3 := dec_some (n := 6) (by decide) (by omega) e3
        have hz : a3 ≤ 0 ↔ d = 0 := by rw [e3, k0, nI_leI (by omega) (by decide)]; omega
        rw [hz]
        refine br_c (fun z => ?_) (fun z => ?_)
        · have hx : xLead h a1 a2 a3 a4 = (nI (h.2.2.2.1 (c * 4 + i)), (h.1, h.2.1, h.2.2.1, va_up h.2.2.2.1 (c * 4 + i) 0, va_up h.2.2.2.2 (c * 4 + i) 0)) := by unfold xLead; simp only [ed, ed2, ed3, z, if_true]
          rw [hx] at k'
          rw [e, e2, e3, z]
          exact s_mLead hr' hc' (by omega) (by decide) (fun q => absurd rfl q) k'
        · refine s_isCellN (N := h.1) hc'.1 (by omega) (fun t ht e4 => br_f (by decide) ?_) (fun e4 => br_t rfl ?_)
          · have ed4 := dec_some (n := h.1) (by omega) ht e4
            have hx : xLead h a1 a2 a3 a4 = (nI (h.2.2.2.1 (c * 4 + i)), (h.1, h.2.1, h.2.2.1, va_up h.2.2.2.1 (c * 4 + i) d, va_up h.2.2.2.2 (c * 4 + i) t)) := by unfold xLead; simp only [ed, ed2, ed3, ed4, z, if_false]
            rw [hx] at k'
            rw [e, e2, e3]
            exact s_mLead hr' hc' (by omega) (by omega) (fun _ => e4) k'
          · have ed4 := dec_none (n := h.1) (by omega) e4
            exact kr _ rfl (by unfold xLead; simp only [ed, ed2, ed3, ed4, z, if_false])
      · have ed3 := dec_none (n := 6) (by decide) (fun j hj => e3 j (Nat.zero_le _) (by omega))
        exact kr _ rfl (by unfold xLead; simp only [ed, ed2, ed3])
    · have ed2 := dec_none (n := 4) (by decide) (fun j hj => e2 j (Nat.zero_le _) (by omega))
      exact kr _ rfl (by unfold xLead; simp only [ed, ed2])
  · have ed := dec_none (n := h.1) (by omega) e
    exact kr _ rfl (by unfold xLead; simp only [ed])
