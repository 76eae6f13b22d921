/-! GO: the class -/
def fs (P : Nat → Bool) : Nat → Nat → Nat
  | 0, _ => 4
  | m + 1, a => if P a = true then a else fs P m (a + 1)
theorem fs_lt (P : Nat → Bool) : ∀ m a, a + m ≤ 5 → fs P m a < 5 := by
  intro m
  induction m with
  | zero => intro a _; simp [fs]
  | succ m ih =>
    intro a h
    simp only [fs]
    split
    · omega
    · exact ih (a + 1) (by omega)
theorem fs_ok {P : Nat → Bool} : ∀ m a, (∃ b, a ≤ b ∧ b < a + m ∧ P b = true) → P (fs P m a) = true := by
  intro m
  induction m with
  | zero => rintro a ⟨b, h1, h2, -⟩; omega
  | succ m ih =>
    rintro a ⟨b, h1, h2, h3⟩
    simp only [fs]
    split
    · assumption
    · rename_i hn
      exact ih (a + 1) ⟨b, by
        have : b ≠ a := fun e => hn (by rw [← e]; exact h3)
        omega, by omega, h3⟩
def nrA (f : Nat → Nat → Nat) (goal n p : Nat) : Nat := fs (fun a => wnB f n (f p a) goal) 5 0
def xWy (f : Nat → Nat → Nat) (goal : Nat) : Nat → Nat → List Nat
  | 0, _ => []
  | n + 1, p => nrA f goal n p :: xWy f goal n (f p (nrA f goal n p))
theorem xWy_len (f : Nat → Nat → Nat) (goal : Nat) : ∀ n p, (xWy f goal n p).length = n := by
  intro n
  induction n with
  | zero => intro p; rfl
  | succ n ih => intro p; simp only [xWy, List.length_cons, ih]
theorem xWy_lt (f : Nat → Nat → Nat) (goal : Nat) : ∀ n p, ∀ a ∈ xWy f goal n p, a < 5 := by
  intro n
  induction n with
  | zero => intro p a h; simp [xWy] at h
  | succ n ih =>
    intro p a h
    simp only [xWy, List.mem_cons] at h
    rcases h with rfl | h
    · exact fs_lt _ 5 0 (by omega)
    · exact ih _ a h
/-- exactly n acts away -/
def isD (f : Nat → Nat → Nat) (goal p n : Nat) : Prop := wnB f n p goal = true ∧ ∀ e, e < n → wnB f e p goal = false
theorem isD_nx {f : Nat → Nat → Nat} {goal p n : Nat} (h : isD f goal p (n + 1)) : isD f goal (f p (nrA f goal n p)) n := by
  obtain ⟨h1, h2⟩ := h
  have hne : p ≠ goal := fun e => by have := h2 0 (by omega); rw [e, wn_rf] at this; cases this
  have hex : wnB f n (f p (nrA f goal n p)) goal = true := by
    refine fs_ok (P := fun a => wnB f n (f p a) goal) 5 0 ?_
    rcases wn_s.mp h1 with h | ⟨a, ha, h⟩
    · exact absurd h hne
    · exact ⟨a, by omega, by omega, h⟩
  refine ⟨hex, fun e he => ?_⟩
  cases hh : wnB f e (f p (nrA f goal n p)) goal
  · rfl
  · have := h2 (e + 1) (by omega)
    rw [wn_s.mpr (Or.inr ⟨_, fs_lt _ 5 0 (by omega), hh⟩)] at this
    cases this
def aw (f : Nat → Nat → Nat) (goal p : Nat) : Nat := if wnB f 6 p goal = true then lst f p goal 6 else 6
theorem isD_lst {f : Nat → Nat → Nat} {goal p : Nat} (h : wnB f 6 p goal = true) : isD f goal p (lst f p goal 6) := by
  obtain ⟨h1, h2, h3⟩ := lst_ok h
  exact ⟨h2, h3⟩
theorem isD_un {f : Nat → Nat → Nat} {goal p n : Nat} (h : isD f goal p n) (hn : n ≤ 6) : wnB f 6 p goal = true ∧ lst f p goal 6 = n := by
  have h6 := wn_le hn h.1
  refine ⟨h6, ?_⟩
  obtain ⟨h1, h2, h3⟩ := lst_ok h6
  rcases Nat.lt_trichotomy (lst f p goal 6) n with z | z | z
  · have := h.2 _ z; rw [h2] at this; cases this
  · exact z
  · have := h3 _ z; rw [h.1] at this; cases this
def p17 : Nat → Nat → Bool := fun p _ => p == 17
theorem cOne.hi {s : aSh} {q : Nat} {P : Nat → Nat → Bool} {u v : mSt} (h : cOne s q u) (hq : 77 ≤ q) (f : fr P u v) (e : ∀ p i, 77 ≤ p → P p i = false) : cOne s q v := h.of (f.row (fun i => e _ _ (by omega))) (f.row (fun i => e _ _ (by omega))) (f.row (fun i => e _ _ (by omega)))
theorem p17_hi : ∀ p i : Nat, 77 ≤ p → p17 p i = false := fun p i h => by simp [p17]; omega
/-- what is known of the numbers of acts: A p -/
def awI (s : aSh) (goal : Nat) (A : Nat → Nat) (y : mSt) : Prop := (∀ p, p < 6 → mI y 17 p = nI (A p) ∧ A p ≤ 6) ∧ ∀ p, p < s.1 → A p < 6 → wnB (nxt s) (A p) p goal = true
def awC (s : aSh) (goal r : Nat) (A : Nat → Nat) : Prop := ∀ p n, p < s.1 → n ≤ r → wnB (nxt s) n p goal = true → A p ≤ n
theorem s_away {s : aSh} {q goal : Nat} {u : mSt} {K : mSt → Prop} (hr : cRf u) (hs : oSh 6 s) (hq : 77 ≤ q) (hc : cOne s q u) (r1 : mR u q 1 = some (q + 2)) (hg : goal < s.1) (k : ∀ v, fr p17 u v → (∀ p, p < s.1 → mI v 17 p = nI (aw (nxt s) goal p)) → K v) : bX3_measure 16 q (nI goal) u K := by
  have h6 := hs.1.2.1
  have hf : ∀ x a, x < s.1 → a < 5 → nxt s x a < s.1 := fun x a h1 h2 => nxt_lt hs h1 h2
  have rounds : ∀ n r y A, r + n = s.1 → fr p17 u y → awI s goal A y → awC s goal r A → bX3_measure_18 (n + 1) 16 q (nI r) y K := by
    intro n
    induction n with
    | zero =>
      intro r y A hn f i c
      unfold bX3_measure_18
      rw [(hc.hi hq f p17_hi).1]
      refine br_t (nI_le (by omega) (by omega)) (k y f (fun p hp => ?_))
      obtain ⟨i1, i2⟩ := i
      obtain ⟨e1, e2⟩ := i1 p (by omega)
      rw [e1]
      congr 1
      unfold aw
      by_cases z : wnB (nxt s) 6 p goal = true
      · rw [if_pos z]
        obtain ⟨l1, l2, l3⟩ := lst_ok z
        have hfew := wn_few (k := 6) hp hf z
        have hl : lst (nxt s) p goal 6 ≤ s.1 - 1 := by
          rcases Nat.lt_or_ge (s.1 - 1) (lst (nxt s) p goal 6) with hh | hh
          · have := l3 _ hh; rw [hfew] at this; cases this
          · exact hh
        have u1 := c p _ hp (show lst (nxt s) p goal 6 ≤ r by omega) l2
        have u2 := i2 p hp (by omega)
        rcases Nat.lt_or_ge (A p) (lst (nxt s) p goal 6) with hh | hh
        · have := l3 _ hh; rw [u2] at this; cases this
        · omega
      · rw [if_neg z]
        rcases Nat.lt_or_ge (A p) 6 with hh | hh
        · exact absurd (wn_le (by omega) (i2 p hp hh)) z
        · omega
    | succ n ih =>
      intro r y A hn f i c
      unfold bX3_measure_18
      rw [(hc.hi hq f p17_hi).1]
      refine br_f (nI_ge (by omega) (by omega)) ?_
      have places : ∀ m p y A, p + m = s.1 → fr p17 u y → awI s goal A y → awC s goal r A → (∀ p' n, p' < p → n ≤ r + 1 → wnB (nxt s) n p' goal = true → A p' ≤ n) → bX3_measure_29 (m + 1) 16 q (nI r) (nI p) y K (fun z0 z1 z2 z3 => bX3_measure_18 (n + 1) z0 z1 z2 z3 K) := by
        intro m
        induction m with
        | zero =>
          intro p y A hp f i c d
          unfold bX3_measure_29
          rw [(hc.hi hq f p17_hi).1]
          refine br_t (nI_le (by omega) (by omega)) ?_
          rintro _ rfl
          rw [nI_1]
          exact ih (r + 1) y A (by omega) f i (fun p' n' h1 h2 h3 => d p' n' (by omega) h2 h3)
        | succ m ihm =>
          intro p y A hp f i c d
          unfold bX3_measure_29
          rw [(hc.hi hq f p17_hi).1]
          refine br_f (nI_ge (by omega) (by omega)) ?_
          have acts : ∀ j a y A, a + j = 5 → fr p17 u y → awI s goal A y → awC s goal r A → (∀ p' n, p' < p → n ≤ r + 1 → wnB (nxt s) n p' goal = true → A p' ≤ n) → (∀ b n, b < a → n ≤ r → wnB (nxt s) n (nxt s p b) goal = true → A p ≤ n + 1) → bX3_measure_41 (j + 1) 16 q (nI r) (nI p) (nI a) y K (fun z0 z1 z2 z3 => bX3_measure_18 (n + 1) z0 z1 z2 z3 K) (fun z0 z1 z2 z3 z4 => bX3_measure_29 (m + 1) z0 z1 z2 z3 z4 K (fun z0 z1 z2 z3 => bX3_measure_18 (n + 1) z0 z1 z2 z3 K)) := by
            intro j
            induction j with
            | zero =>
              intro a y A ha f i c d e
              unfold bX3_measure_41
              refine br_t (by rw [k5]; exact nI_le (by omega) (by omega)) ?_
              rintro _ rfl
              rw [nI_1]
              refine ihm (p + 1) y A (by omega) f i c (fun p' n' h1 h2 h3 => ?_)
              by_cases z : p' = p
              · subst z
                cases n' with
                | zero => exact c p' 0 (by omega) (by omega) h3
                | succ n' =>
                  rcases wn_s.mp h3 with h | ⟨b, hb, h⟩
                  · have := c p' 0 (by omega) (by omega) (wn_0.mpr h); omega
                  · exact e b n' (by omega) (by omega) h
              · exact d p' n' (by omega) h2 h3
            | succ j ihj =>
              intro a y A ha f i c d e
              have ca := hc.hi hq f p17_hi
              have ra : mR y q 1 = some (q + 2) := by rw [f.2.1]; exact r1
              have hnl := hf p a (by omega) (by omega)
              obtain ⟨i1, i2⟩ := i
              obtain ⟨a1, a2⟩ := i1 p (by omega)
              obtain ⟨b1, b2⟩ := i1 (nxt s p a) (by omega)
              unfold bX3_measure_41
              refine br_f (by rw [k5]; exact nI_ge (by omega) (by omega)) (s_placeAfter hs ra ca (by omega) (by omega) ?_)
              have r17 : mR y 16 0 = some 17 := (f.cR hr).get 16 0 17 (by decide)
              refine ⟨17, r17, 17, r17, vp_in_nI (by omega) (by decide), 17, r17, vp_in_nI (by omega) (by decide), vp_in_nI (by omega) (by decide), ?_⟩
              rw [nI_clamp (by omega), nI_clamp (by omega), a1, b1, nI_1]
              have hmin : (if nI (A (nxt s p a) + 1) < nI (A p) then nI (A (nxt s p a) + 1) else nI (A p)) = nI (min (A p) (A (nxt s p a) + 1)) := by
                by_cases zz : A (nxt s p a) + 1 < A p
                · rw [if_pos ((nI_ltI (by omega) (by omega)).mpr zz)]; congr 1; omega
                · rw [if_neg (fun q => zz ((nI_ltI (by omega) (by omega)).mp q))]; congr 1; omega
              rw [hmin]
              rintro _ rfl _ rfl
              rw [nI_1]
              refine ihj (a + 1) _ (va_up A p (min (A p) (A (nxt s p a) + 1))) (by omega) (f.wp _ rfl) ⟨fun p' hp' => ?_, fun p' hp' hA => ?_⟩ (fun p' n' h1 h2 h3 => ?_) (fun p' n' h1 h2 h3 => ?_) (fun b n' h1 h2 h3 => ?_)
              · unfold va_up
                by_cases z : p' = p
                · rw [z, up_eq, if_pos rfl]; exact ⟨rfl, by omega⟩
                · rw [up_ne _ _ (by omega), if_neg z]; exact i1 p' hp'
              · unfold va_up at hA ⊢
                by_cases z : p' = p
                · subst z
                  rw [if_pos rfl] at hA ⊢
                  rcases Nat.le_total (A p') (A (nxt s p' a) + 1) with hle | hle
                  · rw [Nat.min_eq_left hle] at hA ⊢; exact i2 p' hp' hA
                  · rw [Nat.min_eq_right hle] at hA ⊢
                    exact wn_s.mpr (Or.inr ⟨a, by omega, i2 _ hnl (by omega)⟩)
                · rw [if_neg z] at hA ⊢; exact i2 p' hp' hA
              · have := c p' n' h1 h2 h3
                unfold va_up
                by_cases z : p' = p
                · rw [if_pos z]; rw [z] at this; omega
                · rw [if_neg z]; exact this
              · have := d p' n' h1 h2 h3
                unfold va_up
                rw [if_neg (by omega)]; exact this
              · unfold va_up
                rw [if_pos rfl]
                by_cases z : b = a
                · subst z
                  have := c _ n' hnl h2 h3
                  omega
                · have := e b n' (by omega) h2 h3
                  omega
          refine ⟨6, ?_⟩
          have := acts 5 0 y A (by omega) f i c d (fun b n' hb => by omega)
          rw [nI_0] at this; exact this
      refine ⟨s.1 + 1, ?_⟩
      have := places s.1 0 y A (by omega) f i c (fun p' n' hp' => by omega)
      rw [nI_0] at this; exact this
  unfold bX3_measure
  refine ⟨17, hr.get 16 0 17 (by decide), ?_⟩
  unfold bJ7_fill_53178
  have f1 : fr p17 u (mrI u 17 (fun j => if j < 6 then 6 else mI u 17 j)) := (fr.rf _ u).rI _ (fun _ => rfl)
  refine ⟨17, (f1.cR hr).get 16 0 17 (by decide), vp_in_nI (by omega) (by decide), ?_⟩
  rw [nI_clamp (by omega)]
  rintro _ rfl
  refine ⟨s.1 + 1, ?_⟩
  have hrow : ∀ p, mI (mrI u 17 (fun j => if j < 6 then 6 else mI u 17 j)) 17 p = if p < 6 then 6 else mI u 17 p := fun p => by rw [s10, mrow_self]
  have := rounds s.1 0 _ (fun p => if p = goal then 0 else 6) (by omega) (f1.wp (q := 17) (j := goal) 0 rfl) ⟨fun p hp => ?_, fun p hp hA => ?_⟩ (fun p n hp hn hw => ?_)
  · rw [nI_0] at this; exact this
  · dsimp only
    by_cases z : p = goal
    · rw [if_pos z, z, up_eq]; exact ⟨k0, by omega⟩
    · rw [if_neg z, up_ne _ _ (by omega), hrow p, if_pos hp]; exact ⟨k6, by omega⟩
  · dsimp only at hA ⊢
    by_cases z : p = goal
    · rw [if_pos z, z]; exact wn_rf _ _ _
    · rw [if_neg z] at hA; omega
  · have : n = 0 := by omega
    subst this
    rw [wn_0] at hw
    dsimp only
    rw [if_pos hw]; omega
def pGo : Nat → Nat → Bool := fun p _ => p == 16 || p == 17 || p == 18
theorem pGo_hi : ∀ p i : Nat, 77 ≤ p → pGo p i = false := fun p i h => by simp [pGo]; omega
theorem s_nearer {s : aSh} {q goal n p : Nat} {y : mSt} {K : Int32 → mSt → Prop} (hr : cRf y) (hs : oSh 6 s) (hc : cOne s q y) (r1 : mR y q 1 = some (q + 2)) (hp : p < s.1) (hn : n < 6) (hd : isD (nxt s) goal p (n + 1)) (ha : ∀ p, p < s.1 → mI y 17 p = nI (aw (nxt s) goal p)) (k : K (nI (nrA (nxt s) goal n p)) y) : bX3_nearerBy 16 q (nI p) y K := by
  have h6 := hs.1.2.1
  obtain ⟨u1, u2⟩ := isD_un hd (by omega)
  have ep : aw (nxt s) goal p = n + 1 := by unfold aw; rw [if_pos u1, u2]
  have loop : ∀ m a, a + m = 4 → K (nI (fs (fun a => wnB (nxt s) n (nxt s p a) goal) (m + 1) a)) y → bX3_nearerBy_2 (m + 1) 16 q (nI p) (nI a) y K := by
    intro m
    induction m with
    | zero =>
      intro a ha kk
      have : a = 4 := by omega
      subst this
      unfold bX3_nearerBy_2
      refine br_t (by rw [k4]; exact nI_le (by omega) (by omega)) ?_
      simp only [fs] at kk
      split at kk <;> exact kk
    | succ m ih =>
      intro a ham kk
      have hnl := nxt_lt hs hp (show a < 5 by omega)
      have r17 : mR y 16 0 = some 17 := hr.get 16 0 17 (by decide)
      unfold bX3_nearerBy_2
      refine br_f (by rw [k4]; exact nI_ge (by omega) (by omega)) ⟨17, r17, s_placeAfter hs r1 hc hp (by omega) ⟨vp_in_nI (by omega) (by decide), 17, r17, vp_in_nI (by omega) (by decide), ?_⟩⟩
      rw [nI_clamp (by omega), nI_clamp (by omega), ha _ hnl, ha _ hp, ep]
      have hawl : aw (nxt s) goal (nxt s p a) ≤ 6 := by
        unfold aw
        split
        · rename_i h; exact (lst_ok h).1
        · omega
      have hiff : aw (nxt s) goal (nxt s p a) < n + 1 ↔ wnB (nxt s) n (nxt s p a) goal = true := by
        unfold aw
        constructor
        · intro h
          split at h
          · rename_i h6'
            exact wn_le (by omega) (lst_ok h6').2.1
          · omega
        · intro h
          rw [if_pos (wn_le (by omega) h)]
          obtain ⟨l1, l2, l3⟩ := lst_ok (wn_le (show n ≤ 6 by omega) h)
          rcases Nat.lt_or_ge n (lst (nxt s) (nxt s p a) goal 6) with hh | hh
          · have := l3 _ hh; rw [h] at this; cases this
          · omega
      rw [nI_ltI (by omega) (by omega), hiff]
      rw [fs] at kk
      refine br_c (fun z => ?_) (fun z => ?_)
      · rw [if_pos z] at kk; exact kk
      · rw [if_neg z] at kk
        rintro _ rfl
        rw [nI_1]
        exact ih (a + 1) (by omega) kk
  have := loop 4 0 (by omega) k
  rw [nI_0] at this
  exact ⟨_, this⟩
def xGo (t : aAt) (r : List Nat) (a1 a2 : Int32) : Int32 × List Nat := match fPl t a1 a2 with
  | none => (-1, r)
  | some (_, s, p) => if wnB (nxt s) 6 s.2.1 p = true then (nI (lst (nxt s) s.2.1 p 6), xWy (nxt s) p (lst (nxt s) s.2.1 p 6) s.2.1) else (-2, r)
theorem lst_5 {s : aSh} (hs : oSh 6 s) {p q : Nat} (hp : p < s.1) (h : wnB (nxt s) 6 p q = true) : lst (nxt s) p q 6 ≤ 5 := by
  have h6 := hs.1.2.1
  obtain ⟨l1, l2, l3⟩ := lst_ok h
  have hfew := wn_few (k := 6) hp (fun x a h1 h2 => nxt_lt hs h1 h2) h
  rcases Nat.lt_or_ge (s.1 - 1) (lst (nxt s) p q 6) with hh | hh
  · have := l3 _ hh; rw [hfew] at this; cases this
  · omega
theorem xGo_ok {w : aWk} {t : aAt} {r : List Nat} (ho : oAt w t) (hr : oRt r) (a1 a2 : Int32) : oRt (xGo t r a1 a2).2 := by
  unfold xGo
  unfold fPl
  split
  · exact hr
  · rename_i k s p he
    split
    · rename_i hw
      dsimp only
      have hs : oSh 6 s := by
        split at he
        · cases he
        · split at he
          · cases he
          · rename_i s' hs'
            split at he
            · cases he
            · cases he
              exact (ho.2.2.2.2 _ (List.mem_of_getElem? hs')).1
      exact ⟨by rw [xWy_len]; exact lst_5 hs hs.1.2.2.1 hw, fun a ha => xWy_lt _ _ _ _ a ha⟩
    · exact hr
theorem C_go {w : aWk} {t : aAt} {pn ps : Nat} {g : Nat → Nat → Option Nat} {r : List Nat} {u : mSt} {a1 a2 : Int32} {K : Int32 → mSt → Prop} (hr : cRf u) (ho : oAt w t) (ht : cAt t pn ps g u) (hrt : cRt r u) (k : ∀ v, fr pGo u v → cRt (xGo t r a1 a2).2 v → K (xGo t r a1 a2).1 v) : bX8_go 0 a1 a2 u K := by
  have r2 := hr.get 0 2 9 (by decide)
  have hpn : pn = 10 ∨ pn = 11 := by rcases ht.1.1 with ⟨q, -⟩ | ⟨q, -⟩ <;> omega
  unfold bX8_go
  unfold xGo at k
  refine s_isPlaceC hr ho ht (fun i s p hk hi hp e1 e2 => br_f (by decide) ?_) (fun h0 => br_t rfl ?_)
  · rw [fPl_some ho hk hp e1 e2] at k
    dsimp only at k
    obtain ⟨q, hq, hc⟩ := ht.2.2.2.2 i s hk
    have hs := (ho.2.2.2.2 s (List.mem_of_getElem? hk)).1
    have h6 := hs.1.2.1
    have hw0 := hs.1.2.2.1
    obtain ⟨z1, z2, z3, z4⟩ := ht.1.2.2.2.2.1 pn i q hpn (by omega) hq
    refine ⟨16, hr.get 0 4 16 (by decide), 9, r2, pn, ht.1.2.1, ?_⟩
    rw [e1, e2, nI_clamp (by omega), ht.1.2.2.2.1 pn i hpn (by omega)]
    refine ⟨vp_in_nI (by omega) (by decide), q, hq, ?_⟩
    unfold bX3_find
    refine s_away hr hs z1 hc z4 hp (fun v f hv => ?_)
    have f' : fr pGo u v := f.up (fun p i e => by simp [p17, pGo] at e ⊢; omega)
    have cv := hc.hi z1 f p17_hi
    have r17 : mR v 16 0 = some 17 := (f.cR hr).get 16 0 17 (by decide)
    refine ⟨17, r17, ?_⟩
    rw [cv.2.1, nI_clamp (by omega), hv _ hw0]
    refine ⟨vp_in_nI (by omega) (by decide), ?_⟩
    by_cases zw : wnB (nxt s) 6 s.2.1 p = true
    · rw [if_pos zw] at k
      dsimp only at k
      have h5 := lst_5 hs hw0 zw
      have ea : aw (nxt s) p s.2.1 = lst (nxt s) s.2.1 p 6 := by unfold aw; rw [if_pos zw]
      rw [ea]
      have hD := isD_lst zw
      generalize hN : lst (nxt s) s.2.1 p 6 = N at *
      refine br_t (by rw [k6]; exact nI_lt (by omega) (by omega)) ⟨17, r17, vp_in_nI (by omega) (by decide), ?_⟩
      rw [hv _ hw0, ea]
      rintro _ rfl
      rw [up_ne _ _ (by omega), cv.2.1]
      rintro _ rfl
      have loop : ∀ m i pl y pre, i + m = N → pre.length = i → pre ++ xWy (nxt s) p m pl = xWy (nxt s) p N s.2.1 → pl < s.1 → isD (nxt s) p pl m → fr pGo u y → mI y 16 2 = nI N → (∀ x, x < s.1 → mI y 17 x = nI (aw (nxt s) p x)) → (∀ j a, pre[j]? = some a → mI y 18 j = nI a) → bX3_find_43 (m + 1) 16 q (nI pl) (nI i) y (fun r_11 u_10 => ((r_11 = 0 → K (-2 : Int32) u_10) ∧ (¬ (r_11 = 0) → (∃ q_12, mR u_10 0 4 = some q_12 ∧ K (mI u_10 q_12 2) u_10)))) := by
        intro m
        induction m with
        | zero =>
          intro i pl y pre him hpre heq hpl hd fy h2 h17 h18
          unfold bX3_find_43
          rw [h2]
          refine br_t (nI_le (by omega) (by omega)) (br_f (by decide) ⟨16, (fy.cR hr).get 0 4 16 (by decide), ?_⟩)
          rw [h2]
          have : pre = xWy (nxt s) p N s.2.1 := by rw [← heq]; simp [xWy]
          rw [this] at h18
          exact k y fy ⟨by rw [h2, xWy_len], h18⟩
        | succ m ih =>
          intro i pl y pre him hpre heq hpl hd fy h2 h17 h18
          have cy := hc.hi z1 fy pGo_hi
          have ry : mR y q 1 = some (q + 2) := by rw [fy.2.1]; exact z4
          have hna := fs_lt (fun a => wnB (nxt s) m (nxt s pl a) p) 5 0 (by omega)
          unfold bX3_find_43
          rw [h2]
          refine br_f (nI_ge (by omega) (by omega)) ⟨18, (fy.cR hr).get 16 1 18 (by decide), s_nearer (fy.cR hr) hs cy ry hpl (by omega) hd h17 ⟨vp_in_nI (by omega) (by decide), ?_⟩⟩
          rw [nI_clamp (by omega)]
          rintro _ rfl
          have fy' : fr pGo u (mpI y 18 i (nI (nrA (nxt s) p m pl))) := fy.wp _ rfl
          refine ⟨18, (fy'.cR hr).get 16 1 18 (by decide), vp_in_nI (by omega) (by decide), ?_⟩
          rw [up_eq]
          refine s_placeAfter hs (by rw [fy'.2.1]; exact z4) (hc.hi z1 fy' pGo_hi) hpl hna ?_
          rintro _ rfl
          rw [nI_1]
          refine ih (i + 1) (nxt s pl (nrA (nxt s) p m pl)) _ (pre ++ [nrA (nxt s) p m pl]) (by omega) (by simp [hpre]) ?_ (nxt_lt hs hpl hna) (isD_nx hd) fy' (by rw [up_ne _ _ (by omega)]; exact h2) (fun x hx => by rw [up_ne _ _ (by omega)]; exact h17 x hx) (fun j a hj => ?_)
          · rw [← heq]; simp [xWy]
          · by_cases zj : j = i
            · subst zj
              rw [List.getElem?_append_right (by omega), hpre, Nat.sub_self] at hj
              cases hj
              exact up_eq _ _ _ _
            · have hjl : j < pre.length := by
                have := (List.getElem?_eq_some_iff.mp hj).1
                rw [List.length_append] at this
                simp at this; omega
              rw [List.getElem?_append_left hjl] at hj
              rw [up_ne _ _ (by omega)]; exact h18 j a hj
      have := loop N 0 s.2.1 (mpI v 16 2 (nI N)) [] (by omega) rfl (by simp) hw0 hD (f'.wp _ rfl) (up_eq _ _ _ _) (fun x hx => by rw [up_ne _ _ (by omega)]; exact hv x hx) (fun j a hj => by simp at hj)
      rw [nI_0] at this
      exact ⟨_, this⟩
    · rw [if_neg zw] at k
      have ea : aw (nxt s) p s.2.1 = 6 := by unfold aw; rw [if_neg zw]
      rw [ea]
      refine br_f (by decide) (br_t rfl (k v f' ?_))
      unfold cRt
      rw [f.at rfl, f.row (p := 18) (fun _ => rfl)]
      exact hrt
  · rw [fPl_none ho h0] at k
    exact k u (fr.rf _ _) hrt
