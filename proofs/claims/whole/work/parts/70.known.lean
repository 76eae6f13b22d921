/-! KNOWN -/
def isB (P : Prop) (r : Int32) : Prop := (P → r = 1) ∧ (¬ P → r = 0)
def allK (s : aSh) : Prop := ∀ p a, rch (nxt s) s.2.1 p → a < 5 → s.2.2.2.2 (5 * p + a) ≠ 0
theorem rch_lt {s : aSh} (hs : oSh 6 s) {p : Nat} (h : rch (nxt s) s.2.1 p) : p < s.1 := rch_in (X := fun x => x < s.1) (fun x a h1 h2 => nxt_lt hs h1 h2) hs.1.2.2.1 h
theorem cOne.td {s : aSh} {q : Nat} {u v : mSt} (h : cOne s q u) (hq : 77 ≤ q) (f : fr pTd u v) : cOne s q v := h.of (f.row (fun i => by simp [pTd]; omega)) (f.row (fun i => by simp [pTd]; omega)) (f.row (fun i => by simp [pTd]; omega))
theorem s_isExplored {s : aSh} {q : Nat} {L0 : List Nat} {u : mSt} {K : Int32 → mSt → Prop} (hr : cRf u) (hs : oSh 6 s) (hq : 77 ≤ q) (hc : cOne s q u) (r1 : mR u q 1 = some (q + 2)) (ho : oTd L0) (ht : cTd L0 u)
    (k : ∀ r v L, isB (allK s) r → fr pTd u v → oTd L → cTd L v → K r v) : bX8_isExplored 0 q u K := by
  have h6 := hs.1.2.1
  have hw0 := hs.1.2.2.1
  have done : ∀ i y L, fr pTd u y → oTd L → cTd L y → s.2.1 ∈ L → (∀ j x, j < i → L[j]? = some x → ∀ a, a < 5 → s.2.2.2.2 (5 * x + a) ≠ 0 ∧ nxt s x a ∈ L) → L.length ≤ i → K 1 y := by
    intro i y L f o c h0 hcl hi
    refine k 1 y L ⟨fun _ => rfl, fun hn => absurd (fun p a hp ha => ?_) hn⟩ f o c
    have hin : p ∈ L := rch_in (X := fun x => x ∈ L) (fun x a hx ha => by
      obtain ⟨j, hj⟩ := List.getElem?_of_mem hx
      exact (hcl j x (by have := (List.getElem?_eq_some_iff.mp hj).1; omega) hj a ha).2) h0 hp
    obtain ⟨j, hj⟩ := List.getElem?_of_mem hin
    exact (hcl j p (by have := (List.getElem?_eq_some_iff.mp hj).1; omega) hj a ha).1
  have outer : ∀ n i y L, i + n = 6 → fr pTd u y → oTd L → cTd L y → (∀ x ∈ L, rch (nxt s) s.2.1 x) → s.2.1 ∈ L → (∀ j x, j < i → L[j]? = some x → ∀ a, a < 5 → s.2.2.2.2 (5 * x + a) ≠ 0 ∧ nxt s x a ∈ L) → bX8_isExplored_20 (n + 1) 0 q (nI i) y K := by
    intro n
    induction n with
    | zero =>
      intro i y L hn f o c hL h0 hcl
      have hlen := oTd_le o (N := s.1) (by omega) (fun x hx => rch_lt hs (hL x hx))
      unfold bX8_isExplored_20
      refine ⟨22, (f.cR hr).get 0 6 22 (by decide), ?_⟩
      rw [c.1]
      exact br_t (nI_le (by omega) (by omega)) (done i y L f o c h0 hcl (by omega))
    | succ n ih =>
      intro i y L hn f o c hL h0 hcl
      have hlen := oTd_le o (N := s.1) (by omega) (fun x hx => rch_lt hs (hL x hx))
      unfold bX8_isExplored_20
      refine ⟨22, (f.cR hr).get 0 6 22 (by decide), ?_⟩
      rw [c.1]
      refine pk_le L.length i (fun z => done i y L f o c h0 hcl z) (fun z => ?_) rfl rfl
      refine br_f (by rw [k6]; exact nI_ge (by omega) (by omega)) ⟨22, (f.cR hr).get 0 6 22 (by decide), 23, (f.cR hr).get 22 0 23 (by decide), vp_in_nI (by omega) (by decide), ?_⟩
      have hge := List.getElem?_eq_getElem (show i < L.length by omega)
      generalize L[i] = x at hge
      rw [nI_clamp (by omega), c.2.1 i x hge]
      rintro _ rfl
      have hx := rch_lt hs (hL x (List.mem_of_getElem? hge))
      have inner : ∀ m a y L, a + m = 5 → fr pTd u y → oTd L → cTd L y → (∀ x ∈ L, rch (nxt s) s.2.1 x) → s.2.1 ∈ L → L[i]? = some x → (∀ j x, j < i → L[j]? = some x → ∀ a, a < 5 → s.2.2.2.2 (5 * x + a) ≠ 0 ∧ nxt s x a ∈ L) → (∀ b, b < a → s.2.2.2.2 (5 * x + b) ≠ 0 ∧ nxt s x b ∈ L) → bX8_isExplored_50 (m + 1) 0 q (nI i) (nI x) (nI a) y K (fun z0 z1 z2 z3 => bX8_isExplored_20 (n + 1) z0 z1 z2 z3 K) := by
        intro m
        induction m with
        | zero =>
          intro a y L ha f o c hL h0 hge hcl hb
          unfold bX8_isExplored_50
          refine br_t (by rw [k5]; exact nI_le (by omega) (by omega)) ?_
          rintro _ rfl
          rw [nI_1]
          refine ih (i + 1) y L (by omega) f o c hL h0 (fun j x' hj hjx a' ha' => ?_)
          by_cases zj : j = i
          · subst zj
            rw [hge] at hjx
            cases hjx
            exact hb a' (by omega)
          · exact hcl j x' (by omega) hjx a' ha'
        | succ m ihm =>
          intro a y L ha f o c hL h0 hge hcl hb
          have ca := hc.td hq f
          have hlt := (hs.2.2 (5 * x + a) (by omega)).1
          have ra : mR y q 1 = some (q + 2) := by rw [f.2.1]; exact r1
          unfold bX8_isExplored_50
          refine br_f (by rw [k5]; exact nI_ge (by omega) (by omega)) (s_leadFrom h6 ra ca hx (by omega) ?_)
          rw [lI_m3 (by omega)]
          refine br_c (fun z0 => ?_) (fun z0 => ⟨22, (f.cR hr).get 0 6 22 (by decide), ?_⟩)
          · refine k 0 y L ⟨fun hall => absurd z0 (hall x a (hL x (List.mem_of_getElem? hge)) (by omega)), fun _ => rfl⟩ f o c
          · refine s_placeAfter hs ra ca hx (by omega) ?_
            have hnl := nxt_lt hs hx (show a < 5 by omega)
            refine s_addOnce (f.cR hr) o c (by omega) (fun v g cv => ?_)
            rintro _ rfl
            rw [nI_1]
            have hmem : ∀ z, z ∈ L → z ∈ tAdd L (nxt s x a) := fun z hz => mem_tAdd.mpr (Or.inl hz)
            refine ihm (a + 1) v (tAdd L (nxt s x a)) (by omega) (f.tr g) (oTd_add o (by omega)) cv (fun z hz => ?_) (hmem _ h0) (tAdd_get hge) (fun j x' hj hjx a' ha' => ?_) (fun b hb' => ?_)
            · rcases mem_tAdd.mp hz with hz | rfl
              · exact hL z hz
              · exact rch_nx (hL x (List.mem_of_getElem? hge)) (by omega)
            · have hj' : L[j]? = some x' := by
                have hjl : j < L.length := by have := (List.getElem?_eq_some_iff.mp hge).1; omega
                have := tAdd_get (x := nxt s x a) (List.getElem?_eq_getElem hjl)
                rw [hjx] at this
                rw [List.getElem?_eq_getElem hjl]
                exact this.symm
              obtain ⟨c1, c2⟩ := hcl j x' hj hj' a' ha'
              exact ⟨c1, hmem _ c2⟩
            · by_cases zb : b = a
              · subst zb
                exact ⟨z0, mem_tAdd.mpr (Or.inr rfl)⟩
              · obtain ⟨c1, c2⟩ := hb b (by omega)
                exact ⟨c1, hmem _ c2⟩
      refine ⟨6, ?_⟩
      have := inner 5 0 y L (by omega) f o c hL h0 hge hcl (fun b hb => by omega)
      rw [nI_0] at this
      exact this
  unfold bX8_isExplored
  refine ⟨22, hr.get 0 6 22 (by decide), s_clear hr ho ht (fun v f c => ⟨22, (f.cR hr).get 0 6 22 (by decide), ?_⟩)⟩
  rw [(hc.td hq f).2.1]
  refine s_addOnce (f.cR hr) oTd_nil c (by omega) (fun y g cy => ⟨7, ?_⟩)
  have e : tAdd [] s.2.1 = [s.2.1] := by simp [tAdd]
  rw [e] at cy
  have o1 : oTd [s.2.1] := by have := oTd_add oTd_nil (x := s.2.1) (by omega); rw [e] at this; exact this
  have := outer 6 0 y [s.2.1] (by omega) (f.tr g) o1 cy (fun x hx => by
    have : x = s.2.1 := by simpa using hx
    rw [this]; exact rch_rf _ _) (by simp) (fun j x hj => by omega)
  rw [nI_0] at this
  exact this
def isKn (w : aWk) (t : aAt) (r : Int32) : Prop := if w.1 = false then r = -2 else if t.2.1 = true then r = -3 else match t.2.2 with
  | [s] => isB (allK s) r
  | _ => r = 0
theorem C_known {w : aWk} {t : aAt} {pn ps : Nat} {g : Nat → Nat → Option Nat} {L0 : List Nat} {u : mSt} {K : Int32 → mSt → Prop} (hr : cRf u) (ho : oAt w t) (hk : cWk w u) (ht : cAt t pn ps g u) (od : oTd L0) (td : cTd L0 u) (k : ∀ r v L, isKn w t r → fr pTd u v → oTd L → cTd L v → K r v) : bX8_known 0 u K := by
  have r2 := hr.get 0 2 9 (by decide)
  have hl := ho.2.2.2.1
  have hpn : pn = 10 ∨ pn = 11 := by rcases ht.1.1 with ⟨q, -⟩ | ⟨q, -⟩ <;> omega
  unfold bX8_known
  refine s_unmapped hr hk ht ?_
  unfold isKn at k
  by_cases q : w.1 = false
  · simp only [q, if_true] at k ⊢; exact br_f (by decide) (k _ u L0 rfl (fr.rf _ _) od td)
  · simp only [q, if_false] at k ⊢
    by_cases z : t.2.1 = true
    · simp only [z, if_true] at k ⊢; exact br_f (by decide) (k _ u L0 rfl (fr.rf _ _) od td)
    · simp only [z, if_false] at k ⊢
      refine br_t rfl ⟨9, r2, ?_⟩
      rw [ht.2.1]
      refine pk_eq t.2.2.length 1 (fun z1 => ?_) (fun z1 => ?_) rfl k1
      · obtain ⟨s, es⟩ : ∃ s, t.2.2 = [s] := List.length_eq_one_iff.mp z1
        have hge : t.2.2[0]? = some s := by rw [es]; rfl
        obtain ⟨q, q1, q2⟩ := ht.2.2.2.2 0 s hge
        obtain ⟨x1, x2, x3, x4⟩ := ht.1.2.2.2.2.1 pn 0 q hpn (by omega) q1
        rw [es] at k
        dsimp only at k
        refine ⟨9, r2, pn, ht.1.2.1, by rw [k0]; exact vp_in_nI (by decide) (by decide), q, ?_, ?_⟩
        · rw [show (0 : Int32).toNatClampNeg = 0 by decide, ht.1.2.2.2.1 pn 0 hpn (by omega)]; exact q1
        · refine s_isExplored hr (ho.2.2.2.2 s (List.mem_of_getElem? hge)).1 x1 q2 x4 od td (fun r v L hb f o c => ?_)
          by_cases hA : allK s
          · rw [hb.1 hA]
            exact br_f (by decide) (k 1 v L ⟨fun _ => rfl, fun h => absurd hA h⟩ f o c)
          · rw [hb.2 hA]
            exact br_t rfl (k 0 v L ⟨fun h => absurd h hA, fun _ => rfl⟩ f o c)
      · refine k 0 u L0 ?_ (fr.rf _ _) od td
        rw [if_neg (by decide), if_neg (by decide)]
        split
        · rename_i s es
          rw [es] at z1
          exact absurd rfl z1
        · rfl
/-- the least number of acts, up to d -/
def lst (f : Nat → Nat → Nat) (p q : Nat) : Nat → Nat
  | 0 => 0
  | d + 1 => if wnB f d p q = true then lst f p q d else d + 1
def lv (f : Nat → Nat → Nat) (p q d : Nat) : Int32 := if wnB f d p q = true then nI (lst f p q d) else -1
theorem lst_ok {f : Nat → Nat → Nat} {p q : Nat} : ∀ {d}, wnB f d p q = true → lst f p q d ≤ d ∧ wnB f (lst f p q d) p q = true ∧ ∀ e, e < lst f p q d → wnB f e p q = false := by
  intro d
  induction d with
  | zero => intro h; exact ⟨Nat.le_refl _, h, fun e he => by simp [lst] at he⟩
  | succ d ih =>
    intro h
    simp only [lst]
    by_cases z : wnB f d p q = true
    · rw [if_pos z]
      obtain ⟨a, b, c⟩ := ih z
      exact ⟨by omega, b, c⟩
    · rw [if_neg z]
      refine ⟨Nat.le_refl _, h, fun e he => ?_⟩
      cases hh : wnB f e p q
      · rfl
      · exact absurd (wn_le (by omega) hh) z
theorem nI_m1 {n : Nat} (h : n < 2 ^ 31) : ¬ nI n = -1 := fun e => by have h1 := nI_pos h; rw [e] at h1; exact h1 (by decide)
def p63 : Nat → Nat → Bool := fun p _ => p == 63
theorem rOne.fr {s : aSh} {k : Nat} {P : Nat → Nat → Bool} {u v : mSt} (h : rOne s k u) (f : fr P u v) (e : ∀ p i, 51 ≤ p → p ≤ 55 → P p i = false) : rOne s k v := by
  unfold rOne
  rw [f.row (p := 51) (fun i => e _ _ (by omega) (by omega)), f.row (p := 52) (fun i => e _ _ (by omega) (by omega)), f.row (p := 53) (fun i => e _ _ (by omega) (by omega)), f.row (p := 54) (fun i => e _ _ (by omega) (by omega)), f.row (p := 55) (fun i => e _ _ (by omega) (by omega))]
  exact h
theorem p63_no : ∀ p i : Nat, 51 ≤ p → p ≤ 55 → p63 p i = false := fun p i h1 h2 => by simp [p63]; omega
theorem m_measure {s : aSh} {k p : Nat} {u : mSt} {K : mSt → Prop} (hr : rRf u) (hs : oSh 6 s) (hk : k < 150) (ho : rOne s k u) (hp : p < s.1) (kk : ∀ v, fr p63 u v → (∀ q, q < 6 → mI v 63 q = lv (nxt s) p q 6) → K v) : bX9_measure 42 (nI k) (nI p) u K := by
  have h6 := hs.1.2.1
  have hf : ∀ x a, x < s.1 → a < 5 → nxt s x a < s.1 := fun x a h1 h2 => nxt_lt hs h1 h2
  have hlt : ∀ n q, wnB (nxt s) n p q = true → q < s.1 := fun n q h => wn_in (X := fun x => x < s.1) (fun x a h1 h2 => hf x a h1 h2) hp h
  have outer : ∀ n d y, d + n = 6 → fr p63 u y → (∀ q, q < 6 → mI y 63 q = lv (nxt s) p q d) → bX9_measure_32 (n + 1) 42 (nI k) (nI d) y K := by
    intro n
    induction n with
    | zero =>
      intro d y hd f hq
      unfold bX9_measure_32
      have : d = 6 := by omega
      subst this
      exact br_t (by rw [k6]; exact nI_le (by omega) (by omega)) (kk y f hq)
    | succ n ih =>
      intro d y hd f hq
      unfold bX9_measure_32
      refine br_f (by rw [k6]; exact nI_ge (by omega) (by omega)) ?_
      have inner : ∀ m x y, x + m = 5 * s.1 → fr p63 u y → (∀ q, q < 6 → (wnB (nxt s) d p q = true → mI y 63 q = nI (lst (nxt s) p q d)) ∧ (wnB (nxt s) d p q = false → (mI y 63 q = -1 ∧ ∀ x', x' < x → wnB (nxt s) d p (x' / 5) = true → s.2.2.2.2 x' ≠ q + 2) ∨ (mI y 63 q = nI (d + 1) ∧ wnB (nxt s) (d + 1) p q = true))) → bX9_measure_41 (m + 1) 42 (nI k) (nI d) (nI x) y K (fun z0 z1 z2 z3 => bX9_measure_32 (n + 1) z0 z1 z2 z3 K) := by
        intro m
        induction m with
        | zero =>
          intro x y hx f hJ
          obtain ⟨q1, q2, q3, q4, q5⟩ := ho.fr f p63_no
          unfold bX9_measure_41
          refine ⟨51, (f.rR hr).get 42 21 51 (by decide), vp_in_nI (by omega) (by decide), ?_⟩
          rw [nI_clamp (by omega), q1, k5, pk_mul]
          refine br_t (nI_le (by omega) (by omega)) ?_
          rintro _ rfl
          rw [nI_1]
          refine ih (d + 1) y (by omega) f (fun q hq6 => ?_)
          obtain ⟨j1, j2⟩ := hJ q hq6
          unfold lv
          by_cases z : wnB (nxt s) d p q = true
          · rw [if_pos (wn_up z), j1 z]
            simp only [lst]
            rw [if_pos z]
          · have z' : wnB (nxt s) d p q = false := by simpa using z
            rcases j2 z' with ⟨e1, e2⟩ | ⟨e1, e2⟩
            · rw [if_neg, e1]
              intro h
              rcases wn_last h with h | ⟨r, a, ha, h3, h4⟩
              · exact z h
              · have hr' := hlt _ _ h3
                unfold nxt at h4
                have e3 := e2 (5 * r + a) (by omega) (by rw [show (5 * r + a) / 5 = r by omega]; exact h3)
                generalize s.2.2.2.2 (5 * r + a) = l at *
                match l, h4, e3 with
                | 0, h4, e3 => exact z (by rw [← h4]; exact h3)
                | 1, h4, e3 => exact z (by rw [← h4]; exact h3)
                | l + 2, h4, e3 => exact e3 (by rw [← h4])
            · rw [if_pos e2, e1]
              simp only [lst]
              rw [if_neg z]
        | succ m ihm =>
          intro x y hx f hJ
          obtain ⟨q1, q2, q3, q4, q5⟩ := ho.fr f p63_no
          have hxl : x < 5 * s.1 := by omega
          have hlx := (hs.2.2 x hxl).1
          have hr5 : x / 5 < 6 := by omega
          unfold bX9_measure_41
          refine ⟨51, (f.rR hr).get 42 21 51 (by decide), vp_in_nI (by omega) (by decide), ?_⟩
          rw [nI_clamp (by omega), q1, k5, pk_mul]
          refine br_f (nI_ge (by omega) (by omega)) ⟨53, (f.rR hr).get 42 23 53 (by decide), ?_⟩
          rw [k30n, nI_clamp (by omega), q5 x hxl, pk_div (by omega) (by omega) (by omega), nI_clamp (by omega)]
          refine ⟨vp_in_nI (by omega) (by decide), ?_⟩
          rintro _ rfl
          refine ⟨63, (f.rR hr).get 42 38 63 (by decide), vp_in_nI hr5 (by decide), ?_⟩
          have hnx : ∀ q, s.2.2.2.2 x = q + 2 → nxt s (x / 5) (x % 5) = q := fun q e => by
            unfold nxt
            rw [show 5 * (x / 5) + x % 5 = x by omega, e]
          have stay : (∀ q, q < 6 → wnB (nxt s) d p (x / 5) = true → s.2.2.2.2 x = q + 2 → wnB (nxt s) d p q = false → mI y 63 q ≠ -1) → bX9_measure_106 42 (nI k) (nI d) (nI x) y K (fun z0 z1 z2 z3 => bX9_measure_32 (n + 1) z0 z1 z2 z3 K) (fun z0 z1 z2 z3 z4 => bX9_measure_41 (m + 1) z0 z1 z2 z3 z4 K (fun z0 z1 z2 z3 => bX9_measure_32 (n + 1) z0 z1 z2 z3 K)) := by
            intro hno
            unfold bX9_measure_106
            rintro _ rfl
            rw [nI_1]
            refine ihm (x + 1) y (by omega) f (fun q hq6 => ⟨(hJ q hq6).1, fun z => ?_⟩)
            rcases (hJ q hq6).2 z with ⟨e1, e2⟩ | e
            · refine Or.inl ⟨e1, fun x' hx' h1 h2 => ?_⟩
              by_cases zx : x' = x
              · subst zx
                exact hno q hq6 h1 h2 z e1
              · exact e2 x' (by omega) h1 h2
            · exact Or.inr e
          refine br_c (fun zd => ?_) (fun zd => ?_)
          · have hwd : wnB (nxt s) d p (x / 5) = true := by
              cases hh : wnB (nxt s) d p (x / 5)
              · rcases (hJ _ hr5).2 hh with ⟨e1, e2⟩ | ⟨e1, e2⟩
                · rw [e1] at zd
                  exact absurd zd.symm (nI_m1 (by omega))
                · rw [e1] at zd
                  have := (nI_eq (by omega) (by omega)).mp zd
                  omega
              · rfl
            have hneg : lI (s.2.2.2.2 x) < 0 ↔ s.2.2.2.2 x < 2 := by
              rw [← Int32.not_le, lI_neg (by omega)]; omega
            rw [hneg]
            refine br_c (fun zl => stay (fun q _ _ e _ => by omega)) (fun zl => ⟨63, (f.rR hr).get 42 38 63 (by decide), ?_⟩)
            obtain ⟨q', eq'⟩ : ∃ q', s.2.2.2.2 x = q' + 2 := ⟨s.2.2.2.2 x - 2, by omega⟩
            have hq' : q' < 6 := by omega
            rw [eq', show lI (q' + 2) = nI q' from rfl, nI_clamp (by omega)]
            refine ⟨vp_in_nI hq' (by decide), br_c (fun z0 => stay (fun q hq6 _ e hf' => ?_)) (fun z0 => ⟨63, (f.rR hr).get 42 38 63 (by decide), vp_in_nI hq' (by decide), ?_⟩)⟩
            · have : q = q' := by omega
              subst this
              intro e1
              rw [e1] at z0
              exact absurd z0 (by decide)
            · rw [nI_1]
              rintro _ rfl
              unfold bX9_measure_106
              rintro _ rfl
              rw [nI_1]
              have hw1 : wnB (nxt s) (d + 1) p q' = true := by
                have := wn_nx (a := x % 5) hwd (by omega)
                rw [hnx q' eq'] at this; exact this
              refine ihm (x + 1) _ (by omega) (f.wp _ rfl) (fun q hq6 => ?_)
              by_cases zq : q = q'
              · subst zq
                refine ⟨fun z => ?_, fun z => Or.inr ⟨up_eq _ _ _ _, hw1⟩⟩
                have := (hJ q hq6).1 z
                rw [this] at z0
                exact absurd (by have := (lst_ok z).1; rw [k0]; exact nI_le (by omega) (by omega)) z0
              · rw [up_ne _ _ (by omega)]
                refine ⟨(hJ q hq6).1, fun z => ?_⟩
                rcases (hJ q hq6).2 z with ⟨e1, e2⟩ | e
                · refine Or.inl ⟨e1, fun x' hx' h1 h2 => ?_⟩
                  by_cases zx : x' = x
                  · subst zx; omega
                  · exact e2 x' (by omega) h1 h2
                · exact Or.inr e
          · refine stay (fun q hq6 h1 h2 h3 => ?_)
            have e1 := (hJ _ hr5).1 h1
            obtain ⟨l1, l2, l3⟩ := lst_ok h1
            rw [e1] at zd
            have hld : lst (nxt s) p (x / 5) d < d := by
              rcases Nat.lt_or_ge (lst (nxt s) p (x / 5) d) d with h | h
              · exact h
              · exact absurd (by congr 1; omega) zd
            have := wn_nx (a := x % 5) l2 (by omega)
            rw [hnx q h2] at this
            rw [wn_le (by omega) this] at h3
            cases h3
      refine ⟨5 * s.1 + 1, ?_⟩
      have := inner (5 * s.1) 0 y (by omega) f (fun q hq6 => ⟨fun z => ?_, fun z => Or.inl ⟨?_, fun x' hx' => by omega⟩⟩)
      · rw [nI_0] at this; exact this
      · rw [hq q hq6]; unfold lv; rw [if_pos z]
      · rw [hq q hq6]; unfold lv; rw [if_neg (by simp [z])]
  have init : ∀ n x y, x + n = 6 → fr p63 u y → (∀ q, q < x → mI y 63 q = lv (nxt s) p q 0) → bX9_measure_2 (n + 1) 42 (nI k) (nI p) (nI x) y K := by
    intro n
    induction n with
    | zero =>
      intro x y hx f hq
      unfold bX9_measure_2
      refine br_t (by rw [k6]; exact nI_le (by omega) (by omega)) ⟨7, ?_⟩
      have := outer 6 0 y (by omega) f (fun q h => hq q (by omega))
      rw [nI_0] at this; exact this
    | succ n ih =>
      intro x y hx f hq
      unfold bX9_measure_2
      refine br_f (by rw [k6]; exact nI_ge (by omega) (by omega)) ⟨63, (f.rR hr).get 42 38 63 (by decide), ?_⟩
      have go : ∀ v : Int32, v = lv (nxt s) p x 0 → bX9_measure_23 42 (nI k) (nI p) (nI x) 63 (nI x) v y K (fun z0 z1 z2 z3 z4 => bX9_measure_2 (n + 1) z0 z1 z2 z3 z4 K) := by
        rintro _ rfl
        unfold bX9_measure_23
        rw [nI_clamp (by omega)]
        refine ⟨vp_in_nI (by omega) (by decide), ?_⟩
        rintro _ rfl _ rfl
        rw [nI_1]
        refine ih (x + 1) _ (by omega) (f.wp _ rfl) (fun q hq' => ?_)
        by_cases z : q = x
        · subst z; exact up_eq _ _ _ _
        · rw [up_ne _ _ (by omega)]; exact hq q (by omega)
      refine pk_eq x p (fun z => go _ ?_) (fun z => go _ ?_) rfl rfl
      · unfold lv; rw [if_pos (wn_0.mpr z.symm)]; simp [lst, k0]
      · unfold lv; rw [if_neg (fun h => z (wn_0.mp h).symm)]
  have := init 6 0 u (by omega) (fr.rf _ _) (fun q h => by omega)
  rw [nI_0] at this
  exact ⟨_, this⟩
