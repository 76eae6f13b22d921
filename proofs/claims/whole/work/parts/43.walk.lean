/-! THE WALKER AND THE WALK: started; where it stands (cell, turn, switch); the pebble's cell, or none: it is carried; the acts with what was seen -/
abbrev aEv : Type := Nat × Bool × Nat × Bool
abbrev aWk : Type := Bool × (Nat × Nat × Bool) × Option Nat × List aEv
def b2n (b : Bool) : Nat := if b then 1 else 0
def stI (c : Nat × Nat × Bool) : Nat := (c.1 * 4 + c.2.1) * 2 + b2n c.2.2
def pbI (p : Option Nat) : Int32 := match p with
  | none => -2
  | some c => nI c
def sgI (b : Bool) (s : Nat) (p : Bool) : Nat := 8 * b2n b + 2 * s + b2n p
def lastB (w : List aEv) : Bool := match w.getLast? with
  | none => false
  | some e => e.2.1
def oWk (h : aHo) (w : aWk) : Prop := (w.1 = true → 0 < h.1 ∧ w.2.1.1 < h.1 ∧ w.2.1.2.1 < 4 ∧ (∀ c, w.2.2.1 = some c → c < h.1)) ∧ (w.1 = false → w.2.2.2 = []) ∧ w.2.2.2.length ≤ 200 ∧ ∀ e ∈ w.2.2.2, e.1 < 6 ∧ e.2.2.1 < 4
def cWk (w : aWk) (u : mSt) : Prop := mI u 0 8 = b2i w.1 ∧ mI u 6 2 = nI w.2.2.2.length ∧ (w.1 = true → mI u 1 5 = nI (stI w.2.1) ∧ mI u 1 6 = pbI w.2.2.1) ∧ ∀ i e, w.2.2.2[i]? = some e → mI u 7 i = nI e.1 ∧ mI u 8 i = nI (sgI e.2.1 e.2.2.1 e.2.2.2)
def rWk (h : aHo) (w : aWk) (u : mSt) : Prop := mI u 42 6 = b2i w.1 ∧ mI u 42 12 = nI w.2.2.2.length ∧ (w.1 = true → mI u 42 7 = nI w.2.1.1 ∧ mI u 42 8 = nI w.2.1.2.1 ∧ mI u 42 9 = b2i w.2.1.2.2 ∧ mI u 42 10 = pbI w.2.2.1 ∧ mI u 42 11 = b2i (lastB w.2.2.2) ∧ mI u 42 17 = nI (h.2.1 0)) ∧ ∀ i e, w.2.2.2[i]? = some e → mI u 47 i = nI e.1 ∧ mI u 48 i = b2i e.2.1 ∧ mI u 49 i = nI e.2.2.1 ∧ mI u 50 i = b2i e.2.2.2
theorem b2i_n (b : Bool) : b2i b = nI (b2n b) := by cases b <;> decide
theorem b2i_0 (b : Bool) : b2i b = 0 ↔ b = false := by cases b <;> decide
theorem b2n_lt (b : Bool) : b2n b < 2 := by cases b <;> decide
theorem i_div {n : Nat} (h : n < 2 ^ 31) {d : Int32} {k : Nat} (hd : d = nI k) (h0 : 0 < k) (hk : k < 2 ^ 31) : nI n / d = nI (n / k) := by rw [hd]; exact pk_div h h0 hk
theorem i_rem {n : Nat} (h : n < 2 ^ 31) {d : Int32} {k : Nat} (hd : d = nI k) (h0 : 0 < k) (hk : k < 2 ^ 31) : nI n - nI n / d * d = nI (n % k) := by rw [hd]; exact pk_rem h h0 hk
theorem k2 : (2 : Int32) = nI 2 := by decide
theorem k4 : (4 : Int32) = nI 4 := by decide
theorem k5 : (5 : Int32) = nI 5 := by decide
theorem k8 : (8 : Int32) = nI 8 := by decide
theorem st_lt {h : aHo} {c : Nat × Nat × Bool} (ho : h.1 ≤ 10) (h1 : c.1 < h.1) (h2 : c.2.1 < 4) : stI c < 80 := by have := b2n_lt c.2.2; unfold stI; omega
theorem s_cellOf {c : Nat × Nat × Bool} (hs : stI c < 2 ^ 31) (h2 : c.2.1 < 4) {u : mSt} {K : Int32 → mSt → Prop} (k : K (nI c.1) u) : bX8_cellOf (nI (stI c)) u K := by
  unfold bX8_cellOf
  rw [i_div hs k2 (by decide) (by decide), i_div (by omega) k4 (by decide) (by decide)]
  have : stI c / 2 / 4 = c.1 := by have := b2n_lt c.2.2; unfold stI; omega
  rw [this]; exact k
theorem s_turnOf {c : Nat × Nat × Bool} (hs : stI c < 2 ^ 31) (h2 : c.2.1 < 4) {u : mSt} {K : Int32 → mSt → Prop} (k : K (nI c.2.1) u) : bX8_turnOf (nI (stI c)) u K := by
  unfold bX8_turnOf
  rw [i_div hs k2 (by decide) (by decide), i_rem (by omega) k4 (by decide) (by decide)]
  have : stI c / 2 % 4 = c.2.1 := by have := b2n_lt c.2.2; unfold stI; omega
  rw [this]; exact k
theorem s_switchOf {c : Nat × Nat × Bool} (hs : stI c < 2 ^ 31) {u : mSt} {K : Int32 → mSt → Prop} (k : K (b2i c.2.2) u) : bX8_switchOf (nI (stI c)) u K := by
  unfold bX8_switchOf
  rw [i_rem hs k2 (by decide) (by decide)]
  have : stI c % 2 = b2n c.2.2 := by have := b2n_lt c.2.2; unfold stI; omega
  rw [this, ← b2i_n]; exact k
theorem sg_lt (b : Bool) {s : Nat} (p : Bool) (hs : s < 4) : sgI b s p < 16 := by have := b2n_lt b; have := b2n_lt p; unfold sgI; omega
theorem s_bumpOf (b : Bool) {s : Nat} (p : Bool) (hs : s < 4) {u : mSt} {K : Int32 → mSt → Prop} (k : K (b2i b) u) : bX8_bumpOf (nI (sgI b s p)) u K := by
  have := sg_lt b p hs
  unfold bX8_bumpOf
  rw [i_div (by omega) k8 (by decide) (by decide)]
  have : sgI b s p / 8 = b2n b := by have := b2n_lt p; unfold sgI; omega
  rw [this, ← b2i_n]; exact k
theorem s_signOf (b : Bool) {s : Nat} (p : Bool) (hs : s < 4) {u : mSt} {K : Int32 → mSt → Prop} (k : K (nI s) u) : bX8_signOf (nI (sgI b s p)) u K := by
  have := sg_lt b p hs
  unfold bX8_signOf
  rw [i_div (by omega) k2 (by decide) (by decide), i_rem (by omega) k4 (by decide) (by decide)]
  have : sgI b s p / 2 % 4 = s := by have := b2n_lt p; unfold sgI; omega
  rw [this]; exact k
theorem s_pebbleOf (b : Bool) {s : Nat} (p : Bool) (hs : s < 4) {u : mSt} {K : Int32 → mSt → Prop} (k : K (b2i p) u) : bX8_pebbleOf (nI (sgI b s p)) u K := by
  have := sg_lt b p hs
  unfold bX8_pebbleOf
  rw [i_rem (by omega) k2 (by decide) (by decide)]
  have : sgI b s p % 2 = b2n p := by have := b2n_lt p; unfold sgI; omega
  rw [this, ← b2i_n]; exact k
theorem k0 : (0 : Int32) = nI 0 := by decide
theorem k1 : (1 : Int32) = nI 1 := by decide
theorem s_sightOf (b : Bool) {s : Nat} (p : Bool) {u : mSt} {K : Int32 → mSt → Prop} (k : K (nI (sgI b s p)) u) : bX8_sightOf (b2i b) (nI s) (b2i p) u K := by
  have e : ∀ (x y : Nat), nI x + 2 * nI s + nI y = nI (x + 2 * s + y) := fun x y => by rw [k2, pk_mul, nI_add, nI_add]
  have e00 := e 0 0
  have e01 := e 0 1
  have e80 := e 8 0
  have e81 := e 8 1
  rw [← k0] at e00
  rw [← k0, ← k1] at e01
  rw [← k0, ← k8] at e80
  rw [← k1, ← k8] at e81
  unfold bX8_sightOf bX8_sightOf_10
  cases b
  · refine br_t rfl ?_
    cases p
    · refine br_t rfl ?_
      rw [e00, show 0 + 2 * s + 0 = sgI false s false by simp [sgI, b2n]]; exact k
    · refine br_f (by decide) ?_
      rw [e01, show 0 + 2 * s + 1 = sgI false s true by simp [sgI, b2n]]; exact k
  · refine br_f (by decide) ?_
    cases p
    · refine br_t rfl ?_
      rw [e80, show 8 + 2 * s + 0 = sgI true s false by simp [sgI, b2n]]; exact k
    · refine br_f (by decide) ?_
      rw [e81, show 8 + 2 * s + 1 = sgI true s true by simp [sgI, b2n]]; exact k
theorem pb_eq {p : Option Nat} {c : Nat} (hp : ∀ d, p = some d → d < 2 ^ 31) (hc : c < 2 ^ 31) : pbI p = nI c ↔ p = some c := by
  cases p with
  | none =>
    simp only [pbI, reduceCtorEq, iff_false]
    intro e
    have h1 : ¬ nI c < 0 := nI_pos hc
    rw [← e] at h1
    exact h1 (by decide)
  | some d =>
    simp only [pbI, Option.some.injEq]
    exact nI_eq (hp d rfl) hc
theorem pb_neg {p : Option Nat} (hp : ∀ d, p = some d → d < 2 ^ 31) : 0 ≤ pbI p ↔ p ≠ none := by
  cases p with
  | none => simp [pbI]
  | some d => simp only [pbI, ne_eq, reduceCtorEq, not_false_eq_true, iff_true]; exact nI_pos' (hp d rfl)
theorem pb_m2 {p : Option Nat} (hp : ∀ d, p = some d → d < 2 ^ 31) : pbI p = -2 ↔ p = none := by
  cases p with
  | none => simp [pbI]
  | some d =>
    simp only [pbI, reduceCtorEq, iff_false]
    intro e
    have h1 : ¬ nI d < 0 := nI_pos (hp d rfl)
    rw [e] at h1
    exact h1 (by decide)
/-- count -/
def xCount (h : aHo) (w : aWk) (a : Int32) : Int32 := match dec a 6 with
  | none => -1
  | some 0 => nI h.1
  | some n => if w.1 = false then -2 else if n = 1 then nI w.2.1.1 else if n = 2 then nI w.2.1.2.1 else if n = 3 then b2i w.2.1.2.2 else if n = 4 then nI w.2.2.2.length else pbI w.2.2.1
theorem C_count {h : aHo} {w : aWk} {u : mSt} {a : Int32} {K : Int32 → mSt → Prop} (hr : cRf u) (ho : oHo h) (hw : oWk h w) (hc : cHo h u) (hk : cWk w u) (k : K (xCount h w a) u) : bX8_count 0 a u K := by
  have r0 := hr.get 0 0 1 (by decide)
  have r1 := hr.get 0 1 6 (by decide)
  unfold bX8_count
  refine s_withinN (N := 6) rfl (by decide) _ _ (fun j hj e => br_f (by decide) ?_) (fun e => br_t rfl ?_)
  · have ed := dec_some (n := 6) (by decide) hj e
    unfold xCount at k
    rw [ed] at k
    subst e
    rcases (show j = 0 ∨ j = 1 ∨ j = 2 ∨ j = 3 ∨ j = 4 ∨ j = 5 by omega) with rfl | rfl | rfl | rfl | rfl | rfl
    · refine br_t (by decide) ⟨1, r0, ?_⟩
      rw [hc.1]; exact k
    all_goals refine br_f (by decide) ?_
    all_goals rw [hk.1, b2i_0]
    all_goals refine br_c (fun q => by simp only [q, if_true] at k; exact k) (fun q => ?_)
    all_goals (have q : w.1 = true := by simpa using q)
    all_goals simp only [q, Bool.true_eq_false, if_false] at k
    all_goals (obtain ⟨hs, hp⟩ := hk.2.2.1 q)
    all_goals (obtain ⟨o1, o2, o3, o4⟩ := hw.1 q)
    all_goals (have hst := st_lt ho.1 o2 o3)
    · refine br_t (by decide) ⟨1, r0, ?_⟩
      rw [hs]; exact s_cellOf (by omega) o3 k
    · refine br_f (by decide) (br_t (by decide) ⟨1, r0, ?_⟩)
      rw [hs]; exact s_turnOf (by omega) o3 k
    · refine br_f (by decide) (br_f (by decide) (br_t (by decide) ⟨1, r0, ?_⟩))
      rw [hs]; exact s_switchOf (by omega) k
    · refine br_f (by decide) (br_f (by decide) (br_f (by decide) (br_t (by decide) ⟨6, r1, ?_⟩)))
      rw [hk.2.1]; exact k
    · refine br_f (by decide) (br_f (by decide) (br_f (by decide) (br_f (by decide) ⟨1, r0, ?_⟩)))
      rw [hp]; exact k
  · have ed := dec_none (n := 6) (by decide) e
    unfold xCount at k
    rw [ed] at k
    exact k
theorem M_count {h : aHo} {w : aWk} {u : mSt} {a : Int32} {K : Int32 → mSt → Prop} (ho : oHo h) (hw : oWk h w) (hc : rHo h u) (hk : rWk h w u) (k : K (xCount h w a) (mpI u 42 0 0)) : bX9_count 42 a u K := by
  have e : ∀ i, i ≠ 0 → mI (mpI u 42 0 0) 42 i = mI u 42 i := fun i hi => by simp [s1, mup_at, hi]
  unfold bX9_count
  rintro _ rfl
  refine s_isInN (lo := 0) (hi := 5) (by decide) (by decide) (by decide) (by decide) _ _ (fun j _ hj ej => br_f (by decide) ?_) (fun ej => br_t rfl ?_)
  · have ed := dec_some (n := 6) (by decide) (by omega) ej
    unfold xCount at k
    rw [ed] at k
    subst ej
    rw [e 1 (by decide), e 6 (by decide), e 7 (by decide), e 8 (by decide), e 9 (by decide), e 10 (by decide), e 12 (by decide)]
    rcases (show j = 0 ∨ j = 1 ∨ j = 2 ∨ j = 3 ∨ j = 4 ∨ j = 5 by omega) with rfl | rfl | rfl | rfl | rfl | rfl
    · refine br_t (by decide) ?_
      rw [hc.1]; exact k
    all_goals refine br_f (by decide) ?_
    all_goals rw [hk.1, b2i_0]
    all_goals refine br_c (fun q => by simp only [q, if_true] at k; exact k) (fun q => ?_)
    all_goals (have q : w.1 = true := by simpa using q)
    all_goals simp only [q, Bool.true_eq_false, if_false] at k
    all_goals (obtain ⟨g1, g2, g3, g4, g5, g6⟩ := hk.2.2.1 q)
    · refine br_t (by decide) ?_
      rw [g1]; exact k
    · refine br_f (by decide) (br_t (by decide) ?_)
      rw [g2]; exact k
    · refine br_f (by decide) (br_f (by decide) (br_t (by decide) ?_))
      rw [g3, b2i_0]
      refine br_c (fun z => ?_) (fun z => ?_)
      · simp only [z] at k; exact k
      · simp only [Bool.not_eq_false] at z; simp only [z] at k; exact k
    · refine br_f (by decide) (br_f (by decide) (br_f (by decide) (br_t (by decide) ?_)))
      rw [hk.2.1]; exact k
    · refine br_f (by decide) (br_f (by decide) (br_f (by decide) (br_f (by decide) ?_)))
      rw [g4]; exact k
  · have ed := dec_none (n := 6) (by decide) (fun j hj => ej j (Nat.zero_le _) (by omega))
    unfold xCount at k
    rw [ed] at k
    exact k
