/-! THE WAY told last, THE HAND's map -/
def oRt (r : List Nat) : Prop := r.length ≤ 5 ∧ ∀ a ∈ r, a < 5
def cRt (r : List Nat) (u : mSt) : Prop := mI u 16 2 = nI r.length ∧ ∀ i a, r[i]? = some a → mI u 18 i = nI a
def rRt (r : List Nat) (u : mSt) : Prop := mI u 42 40 = nI r.length ∧ ∀ i a, r[i]? = some a → mI u 65 i = nI a
def xWay (r : List Nat) (a : Int32) : Int32 := match dec a r.length with
  | none => -1
  | some i => match r[i]? with
    | none => -1
    | some x => nI x
theorem C_way {r : List Nat} {u : mSt} {a : Int32} {K : Int32 → mSt → Prop} (hr : cRf u) (ho : oRt r) (hc : cRt r u) (k : K (xWay r a) u) : bX8_way 0 a u K := by
  have r0 := hr.get 0 4 16 (by decide)
  have r1 := hr.get 16 1 18 (by decide)
  have hl := ho.1
  unfold bX8_way
  unfold xWay at k
  refine ⟨16, r0, s_withinN (N := r.length) hc.1 (by omega) _ _ (fun i hi e => br_f (by decide) ?_) (fun e => br_t rfl ?_)⟩
  · simp only [dec_some (n := r.length) (by omega) hi e, List.getElem?_eq_getElem hi] at k
    refine ⟨16, r0, 18, r1, ?_⟩
    rw [e, nI_clamp (by omega), hc.2 i _ (List.getElem?_eq_getElem hi)]
    exact ⟨vp_in_nI (by omega) (by decide), k⟩
  · simp only [dec_none (n := r.length) (by omega) e] at k
    exact k
theorem M_way {r : List Nat} {u : mSt} {a : Int32} {K : Int32 → mSt → Prop} (hr : rRf u) (ho : oRt r) (hc : rRt r u) (k : K (xWay r a) (mpI u 42 0 0)) : bX9_way 42 a u K := by
  have r1 : mR (mpI u 42 0 0) 42 41 = some 65 := hr.get 42 41 65 (by decide)
  have hl := ho.1
  unfold bX9_way
  unfold xWay at k
  rintro _ rfl
  rw [th_at u (by decide), hc.1]
  rcases dec_cases a (n := r.length) (by omega) with ⟨i, hi, rfl, ed⟩ | ⟨hno, ed⟩
  · simp only [ed, List.getElem?_eq_getElem hi] at k
    refine br_f (nI_pos (by omega)) (br_t (nI_lt hi (by omega)) ⟨65, r1, ?_⟩)
    rw [nI_clamp (by omega), th_ne u (by decide), hc.2 i _ (List.getElem?_eq_getElem hi)]
    exact ⟨vp_in_nI (by omega) (by decide), k⟩
  · simp only [ed] at k
    refine br_c (fun _ => k) (fun z => br_c (fun z2 => ?_) (fun _ => k))
    obtain ⟨j, hj, rfl⟩ := nI_of z
    exact absurd rfl (hno j ((nI_ltI hj (by omega)).mp z2))
abbrev aHd : Type := (Nat → Nat) × (Nat → Nat)
def oHd (d : aHd) : Prop := (∀ p, p < 6 → d.1 p < 4) ∧ ∀ x, x < 30 → d.2 x < 8
/-- what the class keeps for a digit at x = 5 p + a -/
def hdI (x d : Nat) : Int32 := if d = 7 then -3 else if d = 6 then (if x % 5 = 4 then nI (x / 5) else -2) else nI d
def cHd (d : aHd) (u : mSt) : Prop := (∀ p, p < 6 → mI u 20 p = nI (d.1 p)) ∧ ∀ x, x < 30 → mI u 21 x = hdI x (d.2 x)
def rHd (d : aHd) (u : mSt) : Prop := (∀ p, p < 6 → mI u 66 p = nI (d.1 p)) ∧ ∀ x, x < 30 → mI u 67 x = nI (d.2 x)
/-- place p told: sign s, digits of l, from act a on still to come -/
def upH (d : aHd) (p s l n : Nat) : aHd := (va_up d.1 p s, fun x => if x / 5 = p ∧ x % 5 < n then l / 8 ^ (x % 5) % 8 else d.2 x)
def xHand (d : aHd) (a1 a2 a3 : Int32) : Int32 × aHd := match dec a1 6 with
  | none => (-1, d)
  | some p => match dec a2 4 with
    | none => (-1, d)
    | some s => match dec a3 32768 with
      | none => (-1, d)
      | some l => (0, upH d p s l 5)
theorem upH_ok {d : aHd} (ho : oHd d) {p s l n : Nat} (hs : s < 4) : oHd (upH d p s l n) := by
  refine ⟨fun q hq => ?_, fun x hx => ?_⟩
  · show va_up d.1 p s q < 4
    unfold va_up
    by_cases h : q = p
    · rw [if_pos h]; exact hs
    · rw [if_neg h]; exact ho.1 q hq
  · show (if x / 5 = p ∧ x % 5 < n then l / 8 ^ (x % 5) % 8 else d.2 x) < 8
    by_cases h : x / 5 = p ∧ x % 5 < n
    · rw [if_pos h]; exact Nat.mod_lt _ (by decide)
    · rw [if_neg h]; exact ho.2 x hx
theorem xHand_ok {d : aHd} (ho : oHd d) (a1 a2 a3 : Int32) : oHd (xHand d a1 a2 a3).2 := by
  unfold xHand
  rcases dec_cases a1 (n := 6) (by decide) with ⟨p, hp, -, e⟩ | ⟨-, e⟩ <;> simp only [e]
  · rcases dec_cases a2 (n := 4) (by decide) with ⟨s, hs, -, e2⟩ | ⟨-, e2⟩ <;> simp only [e2]
    · rcases dec_cases a3 (n := 32768) (by decide) with ⟨l, hl, -, e3⟩ | ⟨-, e3⟩ <;> simp only [e3]
      · exact upH_ok ho hs
      · exact ho
    · exact ho
  · exact ho
theorem upH_step {d : aHd} {p s l a : Nat} (ha : a < 5) (x : Nat) : (upH d p s l (a + 1)).2 x = if x = 5 * p + a then l / 8 ^ a % 8 else (upH d p s l a).2 x := by
  show (if x / 5 = p ∧ x % 5 < a + 1 then l / 8 ^ (x % 5) % 8 else d.2 x) = _
  by_cases h : x = 5 * p + a
  · rw [if_pos h, if_pos (by omega), show x % 5 = a by omega]
  · rw [if_neg h]
    show _ = (if x / 5 = p ∧ x % 5 < a then l / 8 ^ (x % 5) % 8 else d.2 x)
    by_cases h2 : x / 5 = p ∧ x % 5 < a
    · rw [if_pos h2, if_pos (by omega)]
    · rw [if_neg h2, if_neg (by omega)]
theorem s_shr {l a : Nat} (hl : l < 32768) (ha : a < 5) : (nI l >>> ((3 * nI a) &&& 31)) &&& 7 = nI (l / 8 ^ a % 8) := by
  have e1 : nI l >>> ((3 * nI a) &&& 31) = nI (l / 2 ^ (3 * a)) := by
    refine pk_shrN (by omega) _ (3 * a) ?_
    rcases (show a = 0 ∨ a = 1 ∨ a = 2 ∨ a = 3 ∨ a = 4 by omega) with rfl | rfl | rfl | rfl | rfl <;> decide
  have hlt : l / 2 ^ (3 * a) ≤ l := Nat.div_le_self _ _
  rw [e1, pk_andN (by omega) 3 (by decide), Nat.pow_mul]
theorem s_handLead {p a dg : Nat} (hp : p < 6) (ha : a < 5) (hd : dg < 8) {u : mSt} {K : Int32 → mSt → Prop} (k : K (hdI (5 * p + a) dg) u) : bX8_handLead (nI p) (nI a) (nI dg) u K := by
  have e7 : nI dg = 7 ↔ dg = 7 := by rw [show (7 : Int32) = nI 7 by decide]; exact nI_eq (by omega) (by decide)
  have e6 : nI dg = 6 ↔ dg = 6 := by rw [k6]; exact nI_eq (by omega) (by decide)
  have e4 : nI a = 4 ↔ a = 4 := by rw [k4]; exact nI_eq (by omega) (by decide)
  unfold bX8_handLead
  rw [e7, e6, e4]
  unfold hdI at k
  refine br_c (fun z => by simpa [z] using k) (fun z => br_c (fun z2 => br_c (fun z3 => ?_) (fun z3 => ?_)) (fun z2 => by simpa [z, z2] using k))
  · rw [if_neg z, if_pos z2, if_pos (by omega), show (5 * p + a) / 5 = p by omega] at k; exact k
  · rw [if_neg z, if_pos z2, if_neg (by omega)] at k; exact k
theorem C_hand {d : aHd} {u : mSt} {a1 a2 a3 : Int32} {K : Int32 → mSt → Prop} (hr : cRf u) (hc : cHd d u) (k : ∀ v, cHd (xHand d a1 a2 a3).2 v → mR v = mR u → mL v = mL u → mN v = mN u → mT v = mT u → (∀ p, p ≠ 20 → p ≠ 21 → mI v p = mI u p) → K (xHand d a1 a2 a3).1 v) : bX8_hand 0 a1 a2 a3 u K := by
  have r5 := hr.get 0 5 19 (by decide)
  have r0 := hr.get 19 0 20 (by decide)
  have r1 := hr.get 19 1 21 (by decide)
  have kr : xHand d a1 a2 a3 = (-1, d) → K (-1) u := by
    intro e
    rw [e] at k
    exact k u hc rfl rfl rfl rfl (fun _ _ _ => rfl)
  unfold bX8_hand
  refine s_withinN (N := 6) rfl (by decide) _ _ (fun p hp e => br_f (by decide) ?_) (fun e => br_t rfl (kr (by unfold xHand; simp only [dec_none (n := 6) (by decide) e])))
  have ed := dec_some (n := 6) (by decide) hp e
  refine s_withinN (N := 4) rfl (by decide) _ _ (fun s hs e2 => br_f (by decide) ?_) (fun e2 => br_t rfl (kr (by unfold xHand; simp only [ed, dec_none (n := 4) (by decide) e2])))
  have ed2 := dec_some (n := 4) (by decide) hs e2
  refine s_withinN (N := 32768) (by decide) (by decide) _ _ (fun l hl e3 => br_f (by decide) ?_) (fun e3 => br_t rfl (kr (by unfold xHand; simp only [ed, ed2, dec_none (n := 32768) (by decide) e3])))
  have ed3 := dec_some (n := 32768) (by decide) hl e3
  have hx : xHand d a1 a2 a3 = (0, upH d p s l 5) := by unfold xHand; simp only [ed, ed2, ed3]
  rw [hx] at k
  refine ⟨19, r5, 20, r0, ?_⟩
  rw [e, e2, e3, nI_clamp (by omega)]
  refine ⟨vp_in_nI hp (by decide), ?_⟩
  rintro _ rfl
  have loop : ∀ m a v, a + m = 5 → cHd (upH d p s l a) v → mR v = mR u → mL v = mL u → mN v = mN u → mT v = mT u → (∀ q, q ≠ 20 → q ≠ 21 → mI v q = mI u q) → bX8_hand_41 (m + 1) 0 (nI p) (nI l) (nI a) v K := by
    intro m
    induction m with
    | zero =>
      intro a v hm hv v1 v2 v3 v4 v5
      unfold bX8_hand_41
      refine br_t (by rw [k5]; exact nI_le (by omega) (by omega)) ?_
      rw [show a = 5 by omega] at hv
      exact k v hv v1 v2 v3 v4 v5
    | succ m ih =>
      intro a v hm hv v1 v2 v3 v4 v5
      unfold bX8_hand_41
      refine br_f (by rw [k5]; exact nI_ge (by omega) (by omega)) ⟨19, by rw [v1]; exact r5, ?_⟩
      rw [s_shr hl (by omega)]
      refine s_handLead hp (by omega) (Nat.mod_lt _ (by decide)) ?_
      have hix : nI p * 5 + nI a = nI (5 * p + a) := by rw [k5, pk_mul, nI_add, Nat.mul_comm]
      unfold bX4_setLead
      refine ⟨21, by rw [v1]; exact r1, ?_⟩
      rw [hix, nI_clamp (by omega)]
      refine ⟨vp_in_nI (by omega) (by decide), ?_⟩
      rintro _ rfl _ rfl
      rw [nI_1]
      refine ih (a + 1) _ (by omega) ⟨fun q hq => ?_, fun x hx => ?_⟩ v1 v2 v3 v4 (fun q q1 q2 => by simp only [s1]; rw [mup_ne _ q2]; exact v5 q q1 q2)
      · simp only [s1]
        rw [mup_ne _ (by decide)]
        exact hv.1 q hq
      · simp only [s1, mup_at]
        rw [upH_step (by omega)]
        by_cases h : x = 5 * p + a
        · simp [h]
        · simp only [h, and_false, if_false]
          exact hv.2 x hx
  refine ⟨6, loop 5 0 _ (by omega) ⟨fun q hq => ?_, fun x hx => ?_⟩ rfl rfl rfl rfl (fun q q1 q2 => by simp only [s1]; rw [mup_ne _ q1])⟩
  · simp only [s1, mup_at]
    show _ = nI (va_up d.1 p s q)
    unfold va_up
    by_cases h : q = p
    · simp [h]
    · simp only [h, and_false, if_false]; exact hc.1 q hq
  · simp only [s1]
    rw [mup_ne _ (by decide)]
    have : (upH d p s l 0).2 x = d.2 x := by show (if x / 5 = p ∧ x % 5 < 0 then _ else d.2 x) = _; rw [if_neg (by omega)]
    rw [this]
    exact hc.2 x hx
theorem M_hand {d : aHd} {u : mSt} {a1 a2 a3 : Int32} {K : Int32 → mSt → Prop} (hr : rRf u) (hc : rHd d u) (k : ∀ v, rHd (xHand d a1 a2 a3).2 v → mR v = mR u → mL v = mL u → mN v = mN u → mT v = mT u → (∀ p, p ≠ 42 → p ≠ 66 → p ≠ 67 → mI v p = mI u p) → (∀ i, i ≠ 0 → mI v 42 i = mI u 42 i) → K (xHand d a1 a2 a3).1 v) : bX9_hand 42 a1 a2 a3 u K := by
  have r0 : mR (mpI u 42 0 0) 42 42 = some 66 := hr.get 42 42 66 (by decide)
  have r1 : mR u 42 43 = some 67 := hr.get 42 43 67 (by decide)
  have hc' : rHd d (mpI u 42 0 0) := ⟨fun p hp => by rw [th_ne u (by decide)]; exact hc.1 p hp, fun x hx => by rw [th_ne u (by decide)]; exact hc.2 x hx⟩
  have kr : xHand d a1 a2 a3 = (-1, d) → K (-1) (mpI u 42 0 0) := by
    intro e
    rw [e] at k
    exact k _ hc' rfl rfl rfl rfl (fun p p1 _ _ => th_ne u p1 0) (fun i hi => th_at u hi 0)
  unfold bX9_hand
  rintro _ rfl
  refine s_isInN (lo := 0) (hi := 5) (by decide) (by decide) (by decide) (by decide) _ _ (fun p _ hp e => br_f (by decide) ?_) (fun e => br_t rfl (kr (by unfold xHand; simp only [dec_none (n := 6) (by decide) (fun j hj => e j (Nat.zero_le _) (by omega))])))
  have ed := dec_some (n := 6) (by decide) (show p < 6 by omega) e
  refine s_isInN (lo := 0) (hi := 3) (by decide) (by decide) (by decide) (by decide) _ _ (fun s _ hs e2 => br_f (by decide) ?_) (fun e2 => br_t rfl (kr (by unfold xHand; simp only [ed, dec_none (n := 4) (by decide) (fun j hj => e2 j (Nat.zero_le _) (by omega))])))
  have ed2 := dec_some (n := 4) (by decide) (show s < 4 by omega) e2
  refine s_isInN (lo := 0) (hi := 32767) (by decide) (by decide) (by decide) (by decide) _ _ (fun l _ hl e3 => br_f (by decide) ?_) (fun e3 => br_t rfl (kr (by unfold xHand; simp only [ed, ed2, dec_none (n := 32768) (by decide) (fun j hj => e3 j (Nat.zero_le _) (by omega))])))
  have ed3 := dec_some (n := 32768) (by decide) (show l < 32768 by omega) e3
  have hx : xHand d a1 a2 a3 = (0, upH d p s l 5) := by unfold xHand; simp only [ed, ed2, ed3]
  rw [hx] at k
  refine ⟨66, r0, ?_⟩
  rw [e, e2, e3, nI_clamp (by omega)]
  refine ⟨vp_in_nI (by omega) (by decide), ?_⟩
  rintro _ rfl
  have loop : ∀ m a v, a + m = 5 → rHd (upH d p s l a) v → mR v = mR u → mL v = mL u → mN v = mN u → mT v = mT u → (∀ q, q ≠ 42 → q ≠ 66 → q ≠ 67 → mI v q = mI u q) → (∀ i, i ≠ 0 → mI v 42 i = mI u 42 i) → bX9_hand_56 (m + 1) 42 (nI p) (nI (l / 8 ^ a)) (nI a) v K := by
    intro m
    induction m with
    | zero =>
      intro a v hm hv v1 v2 v3 v4 v5 v6
      unfold bX9_hand_56
      refine br_t (by rw [k5]; exact nI_le (by omega) (by omega)) ?_
      rw [show a = 5 by omega] at hv
      exact k v hv v1 v2 v3 v4 v5 v6
    | succ m ih =>
      intro a v hm hv v1 v2 v3 v4 v5 v6
      have hle : l / 8 ^ a ≤ l := Nat.div_le_self _ _
      unfold bX9_hand_56
      refine br_f (by rw [k5]; exact nI_ge (by omega) (by omega)) ⟨67, by rw [v1]; exact r1, ?_⟩
      have hix : 5 * nI p + nI a = nI (5 * p + a) := by rw [k5, pk_mul, nI_add]
      rw [hix, nI_clamp (by omega), i_rem (by omega) k8 (by decide) (by decide), i_div (by omega) k8 (by decide) (by decide)]
      refine ⟨vp_in_nI (by omega) (by decide), ?_⟩
      rintro _ rfl _ rfl _ rfl
      rw [nI_1, Nat.div_div_eq_div_mul, ← Nat.pow_succ]
      refine ih (a + 1) _ (by omega) ⟨fun q hq => ?_, fun x hx => ?_⟩ v1 v2 v3 v4 (fun q q1 q2 q3 => by simp only [s1]; rw [mup_ne _ q3]; exact v5 q q1 q2 q3) (fun i hi => by simp only [s1]; rw [mup_ne _ (by decide)]; exact v6 i hi)
      · simp only [s1]
        rw [mup_ne _ (by decide)]
        exact hv.1 q hq
      · simp only [s1, mup_at]
        rw [upH_step (by omega)]
        by_cases h : x = 5 * p + a
        · simp [h]
        · simp only [h, and_false, if_false]
          exact hv.2 x hx
  have h0 := loop 5 0 (mpI (mpI u 42 0 0) 66 p (nI s)) (by omega) ⟨fun q hq => ?_, fun x hx => ?_⟩ rfl rfl rfl rfl (fun q q1 q2 q3 => by simp only [s1]; rw [mup_ne _ q2, mup_ne _ q1]) (fun i hi => by simp [s1, mup_at, hi])
  · exact ⟨6, by simpa [nI_0] using h0⟩
  · simp only [s1, mup_at]
    show _ = nI (va_up d.1 p s q)
    unfold va_up
    by_cases h : q = p
    · simp [h]
    · simp [h]; exact hc.1 q hq
  · simp only [s1]
    rw [mup_ne _ (by decide), mup_ne _ (by decide)]
    have : (upH d p s l 0).2 x = d.2 x := by show (if x / 5 = p ∧ x % 5 < 0 then _ else d.2 x) = _; rw [if_neg (by omega)]
    rw [this]
    exact hc.2 x hx
