/-! WHAT CAN BE REACHED: f x a is where act a leads from x -/
def wnB (f : Nat → Nat → Nat) : Nat → Nat → Nat → Bool
  | 0, p, q => p == q
  | n + 1, p, q => p == q || (List.range 5).any (fun a => wnB f n (f p a) q)
theorem wn_0 {f : Nat → Nat → Nat} {p q : Nat} : wnB f 0 p q = true ↔ p = q := by simp [wnB]
theorem wn_s {f : Nat → Nat → Nat} {n p q : Nat} : wnB f (n + 1) p q = true ↔ p = q ∨ ∃ a, a < 5 ∧ wnB f n (f p a) q = true := by
  simp [wnB]
theorem wn_rf (f : Nat → Nat → Nat) (n p : Nat) : wnB f n p p = true := by cases n <;> simp [wnB]
theorem wn_up {f : Nat → Nat → Nat} : ∀ {n p q : Nat}, wnB f n p q = true → wnB f (n + 1) p q = true := by
  intro n
  induction n with
  | zero => intro p q h; rw [wn_0] at h; rw [h]; exact wn_rf _ _ _
  | succ n ih =>
    intro p q h
    rcases wn_s.mp h with h | ⟨a, ha, h⟩
    · rw [h]; exact wn_rf _ _ _
    · exact wn_s.mpr (Or.inr ⟨a, ha, ih h⟩)
theorem wn_le {f : Nat → Nat → Nat} {n m p q : Nat} (hnm : n ≤ m) (h : wnB f n p q = true) : wnB f m p q = true := by
  induction m with
  | zero => have : n = 0 := by omega
            rw [this] at h; exact h
  | succ m ih =>
    by_cases z : n = m + 1
    · rw [z] at h; exact h
    · exact wn_up (ih (by omega))
theorem wn_nx {f : Nat → Nat → Nat} : ∀ {n p x a : Nat}, wnB f n p x = true → a < 5 → wnB f (n + 1) p (f x a) = true := by
  intro n
  induction n with
  | zero => intro p x a h ha; rw [wn_0] at h; rw [h]; exact wn_s.mpr (Or.inr ⟨a, ha, wn_rf _ _ _⟩)
  | succ n ih =>
    intro p x a h ha
    rcases wn_s.mp h with h | ⟨b, hb, h⟩
    · rw [h]; exact wn_s.mpr (Or.inr ⟨a, ha, wn_rf _ _ _⟩)
    · exact wn_s.mpr (Or.inr ⟨b, hb, ih h ha⟩)
theorem wn_last {f : Nat → Nat → Nat} : ∀ {n p q : Nat}, wnB f (n + 1) p q = true → wnB f n p q = true ∨ ∃ x a, a < 5 ∧ wnB f n p x = true ∧ f x a = q := by
  intro n
  induction n with
  | zero =>
    intro p q h
    rcases wn_s.mp h with h | ⟨a, ha, h⟩
    · exact Or.inl (wn_0.mpr h)
    · exact Or.inr ⟨p, a, ha, wn_rf _ _ _, wn_0.mp h⟩
  | succ n ih =>
    intro p q h
    rcases wn_s.mp h with h | ⟨a, ha, h⟩
    · rw [h]; exact Or.inl (wn_rf _ _ _)
    · rcases ih h with h | ⟨x, b, hb, h1, h2⟩
      · exact Or.inl (wn_s.mpr (Or.inr ⟨a, ha, h⟩))
      · exact Or.inr ⟨x, b, hb, wn_s.mpr (Or.inr ⟨a, ha, h1⟩), h2⟩
theorem wn_in {f : Nat → Nat → Nat} {X : Nat → Prop} (hX : ∀ x a, X x → a < 5 → X (f x a)) : ∀ {n p q : Nat}, X p → wnB f n p q = true → X q := by
  intro n
  induction n with
  | zero => intro p q hp h; rw [wn_0] at h; rw [← h]; exact hp
  | succ n ih =>
    intro p q hp h
    rcases wn_s.mp h with h | ⟨a, ha, h⟩
    · rw [← h]; exact hp
    · exact ih (hX p a hp ha) h
def rch (f : Nat → Nat → Nat) (p q : Nat) : Prop := ∃ n, wnB f n p q = true
theorem rch_rf (f : Nat → Nat → Nat) (p : Nat) : rch f p p := ⟨0, wn_rf _ _ _⟩
theorem rch_nx {f : Nat → Nat → Nat} {p x a : Nat} (h : rch f p x) (ha : a < 5) : rch f p (f x a) := by
  obtain ⟨n, h⟩ := h
  exact ⟨n + 1, wn_nx h ha⟩
theorem rch_in {f : Nat → Nat → Nat} {X : Nat → Prop} {p q : Nat} (hX : ∀ x a, X x → a < 5 → X (f x a)) (hp : X p) (h : rch f p q) : X q := by
  obtain ⟨n, h⟩ := h
  exact wn_in hX hp h
theorem cnt_same {f g : Nat → Bool} : ∀ n, (∀ x, x < n → f x = g x) → cnt f n = cnt g n := by
  intro n
  induction n with
  | zero => intro _; rfl
  | succ n ih =>
    intro h
    simp only [cnt]
    rw [ih (fun x hx => h x (by omega)), h n (by omega)]
theorem cnt_put {f g : Nat → Bool} {x : Nat} : ∀ n, x < n → f x = false → g x = true → (∀ y, y ≠ x → g y = f y) → cnt g n = cnt f n + 1 := by
  intro n
  induction n with
  | zero => intro h; omega
  | succ n ih =>
    intro hx h0 h1 h2
    simp only [cnt]
    by_cases z : x = n
    · subst z
      rw [h0, h1, cnt_same x (fun y hy => h2 y (by omega))]; rfl
    · rw [ih (by omega) h0 h1 h2, h2 n (by omega)]; omega
theorem cnt_sub {f g : Nat → Bool} : ∀ n, (∀ x, x < n → f x = true → g x = true) → cnt f n ≤ cnt g n := by
  intro n
  induction n with
  | zero => intro _; exact Nat.le_refl _
  | succ n ih =>
    intro h
    have := ih (fun x hx => h x (by omega))
    simp only [cnt]
    have h1 := h n (by omega)
    cases hf : f n
    · simp only [b2n]; simp; omega
    · rw [h1 hf]; omega
theorem cnt_ssub {f g : Nat → Bool} {x : Nat} : ∀ n, x < n → (∀ x, x < n → f x = true → g x = true) → f x = false → g x = true → cnt f n < cnt g n := by
  intro n
  induction n with
  | zero => intro h; omega
  | succ n ih =>
    intro hx h h0 h1
    simp only [cnt]
    by_cases z : x = n
    · subst z
      have := cnt_sub x (fun y hy => h y (by omega))
      rw [h0, h1]; simp [b2n]; omega
    · have := ih (by omega) (fun y hy => h y (by omega)) h0 h1
      have h2 := h n (by omega)
      cases hf : f n
      · simp [b2n]; omega
      · rw [h2 hf]; omega
theorem cnt_cut {f : Nat → Bool} {N : Nat} : ∀ k, (∀ x, N ≤ x → f x = false) → cnt f (N + k) = cnt f N := by
  intro k
  induction k with
  | zero => intro _; rfl
  | succ k ih =>
    intro h
    rw [← Nat.add_assoc]
    simp only [cnt]
    rw [ih h, h _ (by omega)]; rfl
/-- few places: every way has a short one -/
theorem wn_few {f : Nat → Nat → Nat} {N p : Nat} (hp : p < N) (hf : ∀ x a, x < N → a < 5 → f x a < N) {k q : Nat} (h : wnB f k p q = true) : wnB f (N - 1) p q = true := by
  have hlt : ∀ n q, wnB f n p q = true → q < N := fun n q h => wn_in (X := fun x => x < N) (fun x a h1 h2 => hf x a h1 h2) hp h
  have grow : ∀ n, n + 1 ≤ cnt (wnB f n p) N ∨ ∃ m, m < n ∧ ∀ q, wnB f (m + 1) p q = true → wnB f m p q = true := by
    intro n
    induction n with
    | zero =>
      left
      have := cnt_ssub (f := fun _ => false) (g := wnB f 0 p) (x := p) N hp (fun _ _ h => by cases h) rfl (wn_rf _ _ _)
      omega
    | succ n ih =>
      rcases ih with ih | ⟨m, h1, h2⟩
      · by_cases z : ∃ q, wnB f (n + 1) p q = true ∧ wnB f n p q = false
        · obtain ⟨q, z1, z2⟩ := z
          left
          have := cnt_ssub (f := wnB f n p) (g := wnB f (n + 1) p) (x := q) N (hlt _ _ z1) (fun x _ h => wn_up h) z2 z1
          omega
        · right
          refine ⟨n, by omega, fun q hq => ?_⟩
          cases h : wnB f n p q
          · exact absurd ⟨q, hq, h⟩ z
          · rfl
      · exact Or.inr ⟨m, by omega, h2⟩
  rcases grow N with g | ⟨m, h1, h2⟩
  · have := cnt_le (wnB f N p) N
    omega
  · have stay : ∀ j, ∀ q, wnB f (m + j) p q = true → wnB f m p q = true := by
      intro j
      induction j with
      | zero => intro q h; exact h
      | succ j ih =>
        intro q h
        rcases wn_last (n := m + j) h with h | ⟨x, a, ha, h3, h4⟩
        · exact ih q h
        · rw [← h4]; exact h2 _ (wn_nx (ih x h3) ha)
    exact wn_le (by omega) (stay k q (wn_le (by omega) h))
/-! THE LIST OF WHAT IS TO BE DONE, each once -/
def tAdd (L : List Nat) (x : Nat) : List Nat := if x ∈ L then L else L ++ [x]
def oTd (L : List Nat) : Prop := (∀ x ∈ L, x < 480) ∧ L.length = cnt (fun x => decide (x ∈ L)) 480
def cTd (L : List Nat) (u : mSt) : Prop := mI u 22 2 = nI L.length ∧ (∀ i x, L[i]? = some x → mI u 23 i = nI x) ∧ ∀ x, x < 480 → mI u 24 x = b2i (decide (x ∈ L))
theorem oTd_nil : oTd [] := ⟨fun x h => by simp at h, by
  have : ∀ n, cnt (fun x => decide (x ∈ ([] : List Nat))) n = 0 := by
    intro n
    induction n with
    | zero => rfl
    | succ n ih => simp only [cnt]; rw [ih]; simp [b2n]
  rw [this]; rfl⟩
theorem mem_tAdd {L : List Nat} {x y : Nat} : y ∈ tAdd L x ↔ y ∈ L ∨ y = x := by
  unfold tAdd
  split
  · rename_i h
    constructor
    · exact Or.inl
    · rintro (h1 | rfl)
      · exact h1
      · exact h
  · simp
theorem oTd_add {L : List Nat} {x : Nat} (h : oTd L) (hx : x < 480) : oTd (tAdd L x) := by
  by_cases z : x ∈ L
  · unfold tAdd; rw [if_pos z]; exact h
  · refine ⟨fun y hy => ?_, ?_⟩
    · rcases mem_tAdd.mp hy with hy | rfl
      · exact h.1 y hy
      · exact hx
    · have e : (tAdd L x).length = L.length + 1 := by unfold tAdd; rw [if_neg z]; simp
      rw [e, h.2]
      refine (cnt_put 480 hx (by simpa using z) (by simp [mem_tAdd]) (fun y hy => ?_)).symm
      simp [mem_tAdd, hy]
theorem oTd_le {L : List Nat} (h : oTd L) {N : Nat} (hN : N ≤ 480) (hL : ∀ x ∈ L, x < N) : L.length ≤ N := by
  rw [h.2]
  have := cnt_cut (f := fun x => decide (x ∈ L)) (N := N) (480 - N) (fun x hx => by
    have : ¬ x ∈ L := fun q => by have := hL x q; omega
    simpa using this)
  rw [show N + (480 - N) = 480 by omega] at this
  rw [this]
  exact cnt_le _ _
theorem tAdd_get {L : List Nat} {x i y : Nat} (h : L[i]? = some y) : (tAdd L x)[i]? = some y := by
  unfold tAdd
  split
  · exact h
  · rw [List.getElem?_append_left (List.getElem?_eq_some_iff.mp h).1]; exact h
def pTd : Nat → Nat → Bool := fun p _ => p == 22 || p == 23 || p == 24
theorem s_addOnce {L : List Nat} {x : Nat} {y : mSt} {K : mSt → Prop} (hr : cRf y) (ho : oTd L) (hc : cTd L y) (hx : x < 480) (k : ∀ v, fr pTd y v → cTd (tAdd L x) v → K v) : bX6_addOnce 22 (nI x) y K := by
  have jx : vp_in (nI x) 480 := vp_in_nI hx (by decide)
  unfold bX6_addOnce
  refine s_withinN (N := 480) (by decide) (by decide) _ _ (fun j hj e => br_f (by decide) ⟨24, hr.get 22 1 24 (by decide), jx, ?_⟩) (fun e => absurd rfl (e x hx))
  rw [nI_clamp (by omega), hc.2.2 x hx, b2i_0]
  refine br_c (fun z => ⟨24, hr.get 22 1 24 (by decide), jx, ?_⟩) (fun z => ?_)
  · have z : ¬ x ∈ L := by simpa using z
    have hlen : L.length < 480 := by
      rw [ho.2]
      have := cnt_ssub (f := fun x => decide (x ∈ L)) (g := fun _ => true) (x := x) 480 hx (fun _ _ _ => rfl) (by simpa using z) rfl
      have := cnt_le (fun _ => true) 480
      omega
    have en : vp_nar .boolean (1 : Int32) = 1 := by decide
    rw [en]
    rintro _ rfl
    rw [up_ne _ _ (by omega), hc.1, nI_clamp (by omega)]
    refine ⟨23, hr.get 22 0 23 (by decide), vp_in_nI hlen (by decide), ?_⟩
    rintro _ rfl
    rw [up_ne _ _ (by omega), up_ne _ _ (by omega), hc.1, nI_1]
    rintro _ rfl
    refine k _ ((((fr.rf _ y).wp _ rfl).wp _ rfl).wp _ rfl) ⟨?_, fun i y' hi => ?_, fun y' hy => ?_⟩
    · rw [up_eq]; unfold tAdd; rw [if_neg z]; simp
    · rw [up_ne _ _ (by omega)]
      unfold tAdd at hi
      rw [if_neg z] at hi
      by_cases zi : i = L.length
      · subst zi
        rw [List.getElem?_append_right (by omega), Nat.sub_self] at hi
        cases hi
        rw [up_eq]
      · have hil : i < L.length := by
          have := (List.getElem?_eq_some_iff.mp hi).1
          rw [List.length_append] at this
          simp at this; omega
        rw [List.getElem?_append_left hil] at hi
        rw [up_ne _ _ (by omega), up_ne _ _ (by omega)]
        exact hc.2.1 i y' hi
    · rw [up_ne _ _ (by omega), up_ne _ _ (by omega)]
      by_cases zy : y' = x
      · subst zy
        rw [up_eq]; simp [mem_tAdd, b2i]
      · rw [up_ne _ _ (by omega), hc.2.2 y' hy]
        simp [mem_tAdd, zy]
  · have z : x ∈ L := by simpa using z
    refine k y (fr.rf _ _) ?_
    unfold tAdd
    rw [if_pos z]; exact hc
theorem s_addNo {y : mSt} {K : mSt → Prop} (k : K y) : bX6_addOnce 22 (-2) y K := by
  unfold bX6_addOnce
  refine s_withinN (N := 480) (by decide) (by decide) _ _ (fun j hj e => absurd e.symm (nI_m2 (by omega))) (fun e => br_t rfl k)
theorem s_clear {L : List Nat} {u : mSt} {K : mSt → Prop} (hr : cRf u) (ho : oTd L) (hc : cTd L u) (k : ∀ v, fr pTd u v → cTd [] v → K v) : bX6_clear 22 u K := by
  have hlen : L.length ≤ 480 := by rw [ho.2]; exact cnt_le _ _
  have loop : ∀ n i y, i + n = L.length → fr (fun p _ => p == 24) u y → (∀ x, x < 480 → mI y 24 x = b2i (decide (x ∈ L ∧ ¬ x ∈ L.take i))) → bX6_clear_2 (n + 1) 22 (nI i) y K := by
    intro n
    induction n with
    | zero =>
      intro i y hn f h24
      unfold bX6_clear_2
      rw [f.at rfl, hc.1]
      refine br_t (nI_le (by omega) (by omega)) ?_
      rintro _ rfl
      refine k _ ((f.up (fun p i e => ?_)).wp _ rfl) ⟨?_, fun i x h => by simp at h, fun x hx => ?_⟩
      · simp [pTd] at e ⊢; omega
      · rw [up_eq]; exact k0
      · rw [up_ne _ _ (by omega), h24 x hx, List.take_of_length_le (by omega)]
        simp
    | succ n ih =>
      intro i y hn f h24
      have hil : i < L.length := by omega
      have hge := List.getElem?_eq_getElem hil
      generalize L[i] = x at hge
      have hx := ho.1 x (List.mem_of_getElem? hge)
      unfold bX6_clear_2
      rw [f.at rfl, hc.1, nI_clamp (by omega)]
      refine br_f (nI_ge (by omega) (by omega)) ⟨24, (f.cR hr).get 22 1 24 (by decide), 23, (f.cR hr).get 22 0 23 (by decide), vp_in_nI (by omega) (by decide), ?_⟩
      rw [f.at (p := 23) rfl, hc.2.1 i x hge, nI_clamp (by omega), show vp_nar .boolean (0 : Int32) = 0 by decide]
      refine ⟨vp_in_nI hx (by decide), ?_⟩
      rintro _ rfl _ rfl
      rw [nI_1]
      refine ih (i + 1) _ (by omega) (f.wp _ rfl) (fun y' hy => ?_)
      have ht : L.take (i + 1) = L.take i ++ [x] := by rw [List.take_add_one, hge]; rfl
      rw [ht]
      by_cases zy : y' = x
      · subst zy
        rw [up_eq]; simp [b2i]
      · rw [up_ne _ _ (by omega), h24 y' hy]
        simp [zy]
  have := loop L.length 0 u (by omega) (fr.rf _ _) (fun x hx => by rw [hc.2.2 x hx]; simp)
  rw [nI_0] at this
  exact ⟨_, this⟩
