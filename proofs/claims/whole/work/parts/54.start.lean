theorem s_shBegin {q s0 : Nat} {u : mSt} {K : mSt → Prop} (r0 : mR u q 0 = some (q + 1)) (r1 : mR u q 1 = some (q + 2))
    (k : ∀ y, cOne (1, 0, none, fun _ => s0, fun _ => 0) q y → mR y = mR u → mL y = mL u → mN y = mN u → mT y = mT u → (∀ p, p ≠ q → p ≠ q + 1 → p ≠ q + 2 → mI y p = mI u p) → K y) : bX4_begin q (nI s0) u K := by
  unfold bX4_begin
  refine ⟨q + 2, r1, ?_⟩
  unfold bJ7_fill_53178
  rintro _ rfl
  unfold bX4_openPlace
  refine ⟨q + 1, r0, ?_⟩
  have e0 : ∀ v : mSt, mI (mpI v q 2 0) q 2 = 0 := fun v => by simp [s1, mup_at]
  rw [e0]
  refine ⟨by rw [k0]; exact vp_in_nI (by decide) (by decide), ?_⟩
  rw [show (0 : Int32).toNatClampNeg = 0 by decide]
  rintro _ rfl _ rfl
  unfold bX4_returnToStart
  rintro _ rfl _ rfl
  refine k _ ⟨?_, ?_, ?_, fun p hp => ?_, fun x hx => ?_, fun x h1 h2 => ?_⟩ rfl rfl rfl rfl (fun p p1 p2 p3 => ?_)
  · simp [s1, mup_at]; decide
  · simp [s1, mup_at, nI_0]
  · simp [s1, mup_at, pbI]
  · replace hp : p < 1 := hp
    have : p = 0 := by omega
    subst this
    simp [s1, mup_at]
  · replace hx : x < 5 * 1 := hx
    simp only [s1, s10]
    rw [mup_ne _ (by omega), mup_ne _ (by omega), mup_ne _ (by omega), mup_ne _ (by omega), mup_ne _ (by omega), mrow_self]
    simp [lI, show x < 30 by omega]
  · simp only [s1, s10]
    rw [mup_ne _ (by omega), mup_ne _ (by omega), mup_ne _ (by omega), mup_ne _ (by omega), mup_ne _ (by omega), mrow_self]
    simp [h2]
  · simp only [s1, s10]
    rw [mup_ne _ p1, mup_ne _ p1, mup_ne _ p1, mup_ne _ p2, mup_ne _ p1, mrow_ne _ p3]
/-- start -/
def xStart (h : aHo) (a : Int32) : Option Nat := match dec a 7 with
  | none => none
  | some m => if m = 0 then none else some m
def wk0 : aWk := (true, (0, 0, false), none, [])
def at0 (h : aHo) (m : Nat) : aAt := (m, false, [(1, 0, none, fun _ => h.2.1 0, fun _ => 0)])
theorem C_start {h : aHo} {pn ps j : Nat} {g : Nat → Nat → Option Nat} {u : mSt} {a : Int32} {K : Int32 → mSt → Prop} (hr : cRf u) (hh : oHo h) (hch : cHo h u) (hp : cPile pn ps g u) (hsz : okSz g j u) (hj : j ≤ 600)
    (k1 : xStart h a = none → K (-1) u) (k2 : ∀ m, xStart h a = some m → h.1 = 0 → K (-2) u)
    (k : ∀ m y q, xStart h a = some m → 0 < m → m ≤ 6 → 0 < h.1 → cWk wk0 y → cAt (at0 h m) pn ps (upG g pn 0 q) y → cHo h y → cRf y → okSz (upG g pn 0 q) j y → (∀ p, p < 77 → p ≠ 0 → p ≠ 1 → p ≠ 6 → p ≠ 9 → mI y p = mI u p) → (∀ p, p < 77 → mL y p = mL u p) → (∀ p x, p < 77 → p ≠ 10 → p ≠ 11 → mR y p x = mR u p x) → K 0 y) : bX8_start 0 a u K := by
  have r0 := hr.get 0 0 1 (by decide)
  have r1 := hr.get 0 1 6 (by decide)
  have r2 := hr.get 0 2 9 (by decide)
  have r10 := hr.get 1 0 2 (by decide)
  have h10 := hh.1
  have hpn : pn = 10 ∨ pn = 11 := by rcases hp.1 with ⟨q, -⟩ | ⟨q, -⟩ <;> omega
  unfold bX8_start
  skip
  sorry
