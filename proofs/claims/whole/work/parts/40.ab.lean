/-! PURE: what the numbers mean. Rows of simp over the state. -/
theorem s1 (u : mSt) (p i : Nat) (v : Int32) : mI (mpI u p i v) = mup (mI u) p i v := rfl
theorem s2 (u : mSt) (p i : Nat) (v : Int32) : mR (mpI u p i v) = mR u := rfl
theorem s3 (u : mSt) (p i : Nat) (v : Int32) : mL (mpI u p i v) = mL u := rfl
theorem s4 (u : mSt) (p i : Nat) (v : Option Nat) : mI (mpR u p i v) = mI u := rfl
theorem s5 (u : mSt) (p i : Nat) (v : Option Nat) : mR (mpR u p i v) = mup (mR u) p i v := rfl
theorem s6 (u : mSt) (p i : Nat) (v : Option Nat) : mL (mpR u p i v) = mL u := rfl
theorem s7 (u : mSt) (p i : Nat) (v : Int64) : mI (mpL u p i v) = mI u := rfl
theorem s8 (u : mSt) (p i : Nat) (v : Int64) : mR (mpL u p i v) = mR u := rfl
theorem s9 (u : mSt) (p i : Nat) (v : Int64) : mL (mpL u p i v) = mup (mL u) p i v := rfl
theorem s10 (u : mSt) (p : Nat) (g : Nat → Int32) : mI (mrI u p g) = mrow (mI u) p g := rfl
theorem s11 (u : mSt) (p : Nat) (g : Nat → Int32) : mR (mrI u p g) = mR u := rfl
theorem s12 (u : mSt) (p : Nat) (g : Nat → Int32) : mL (mrI u p g) = mL u := rfl
theorem s13 (u : mSt) (p : Nat) (g : Nat → Int64) : mI (mrL u p g) = mI u := rfl
theorem s14 (u : mSt) (p : Nat) (g : Nat → Int64) : mR (mrL u p g) = mR u := rfl
theorem s15 (u : mSt) (p : Nat) (g : Nat → Int64) : mL (mrL u p g) = mrow (mL u) p g := rfl
theorem mup_at {α : Type} (f : Nat → Nat → α) (p i : Nat) (v : α) (q j : Nat) : mup f p i v q j = if q = p ∧ j = i then v else f q j := rfl
/-- sizes: what only a new cell changes -/
def mSz (u : mSt) : Nat × Nat := (mN u, mT u)
def b2i (b : Bool) : Int32 := if b then 1 else 0
/-- the class's tests of range -/
theorem s_within (a n : Int32) (u : mSt) (K : Int32 → mSt → Prop) : bX8_within a n u K ↔ (((0 ≤ a ∧ a < n) → K 1 u) ∧ (¬ (0 ≤ a ∧ a < n) → K 0 u)) := by
  unfold bX8_within
  constructor
  · intro h
    refine ⟨fun c => ?_, fun c => ?_⟩
    · exact (h.2 (Int32.not_lt.mpr c.1)).2 (Int32.not_le.mpr c.2)
    · by_cases c1 : a < 0
      · exact h.1 c1
      · by_cases c2 : n ≤ a
        · exact (h.2 c1).1 c2
        · exact absurd ⟨Int32.not_lt.mp c1, Int32.not_le.mp c2⟩ c
  · intro h
    refine ⟨fun c => h.2 (fun q => absurd c (Int32.not_lt.mpr q.1)), fun c => ⟨fun c2 => h.2 (fun q => absurd c2 (Int32.not_le.mpr q.2)), fun c2 => h.1 ⟨Int32.not_lt.mp c, Int32.not_le.mp c2⟩⟩⟩
/-- the same, where the bound is a number: the value is one of 0 .. n - 1, or the answer is no -/
theorem s_withinN {a n : Int32} {N : Nat} (hn : n = nI N) (hN : N < 2 ^ 31) (u : mSt) (K : Int32 → mSt → Prop) (h1 : ∀ j, j < N → a = nI j → K 1 u) (h0 : (∀ j, j < N → a ≠ nI j) → K 0 u) : bX8_within a n u K := by
  rw [s_within]
  subst hn
  refine ⟨fun c => ?_, fun c => ?_⟩
  · rcases pk_ix a hN with h | h | ⟨j, hj, rfl⟩
    · exact absurd h (Int32.not_lt.mpr c.1)
    · exact absurd c.2 (Int32.not_lt.mpr h)
    · exact h1 j hj rfl
  · refine h0 (fun j hj e => c ?_)
    subst e
    exact ⟨nI_pos' (by omega), nI_lt hj hN⟩
theorem s_isIn (a b c : Int64) (u : mSt) (K : Int32 → mSt → Prop) : bX9_isIn a b c u K ↔ (((b ≤ a ∧ a ≤ c) → K 1 u) ∧ (¬ (b ≤ a ∧ a ≤ c) → K 0 u)) := by
  unfold bX9_isIn
  have e1 : (lg_cmp a b < 0) ↔ ¬ b ≤ a := by
    rw [← lg_cmp_ge a b]; exact Int32.not_le.symm
  have e2 : (0 < lg_cmp a c) ↔ ¬ a ≤ c := by
    unfold lg_cmp
    by_cases h : a > c
    · rw [if_pos h]; simp; exact h
    · rw [if_neg h]
      have h' : a ≤ c := Int64.not_lt.mp h
      by_cases h2 : a = c
      · rw [if_pos h2]; simp [h2]
      · rw [if_neg h2]; simp [h']
  rw [e1, e2]
  by_cases h1 : b ≤ a <;> by_cases h2 : a ≤ c <;> simp [h1, h2]
theorem i64_le {a b : Int32} : a.toInt64 ≤ b.toInt64 ↔ a ≤ b := by
  rw [Int64.le_iff_toInt_le, Int32.le_iff_toInt_le, Int32.toInt_toInt64, Int32.toInt_toInt64]
/-- the reference's test of a number between lo and hi, by number -/
theorem s_isInN {a : Int32} {b c : Int64} {lo hi : Nat} (hb : b = (nI lo).toInt64) (hc : c = (nI hi).toInt64) (hN : hi < 2 ^ 31 - 1) (hlo : lo ≤ hi) (u : mSt) (K : Int32 → mSt → Prop) (h1 : ∀ j, lo ≤ j → j ≤ hi → a = nI j → K 1 u) (h0 : (∀ j, lo ≤ j → j ≤ hi → a ≠ nI j) → K 0 u) : bX9_isIn a.toInt64 b c u K := by
  rw [s_isIn]
  subst hb; subst hc
  rw [i64_le, i64_le]
  refine ⟨fun q => ?_, fun q => ?_⟩
  · have h3 : ¬ a < 0 := Int32.not_lt.mpr (Int32.le_trans (nI_pos' (n := lo) (by omega)) q.1)
    obtain ⟨j, hj, rfl⟩ := nI_of h3
    exact h1 j ((nI_leI (by omega) hj).mp q.1) ((nI_leI hj (by omega)).mp q.2) rfl
  · refine h0 (fun j g1 g2 e => q ?_)
    rw [e]
    exact ⟨nI_le g1 (by omega), nI_le g2 (by omega)⟩
