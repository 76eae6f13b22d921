theorem s_shBegin {q s0 : Nat} {u : mSt} {K : mSt → Prop} (r0 : mR u q 0 = some (q + 1)) (r1 : mR u q 1 = some (q + 2))
    (k : ∀ y, cOne (1, 0, none, fun _ => s0, fun _ => 0) q y → mR y = mR u → mL y = mL u → mN y = mN u → mT y = mT u → (∀ p, p ≠ q → p ≠ q + 1 → p ≠ q + 2 → mI y p = mI u p) → K y) : bX4_begin q (nI s0) u K := by
  unfold bX4_begin
  refine ⟨q + 2, r1, ?_⟩
  unfold bJ7_fill_53178
  rintro _ rfl
  unfold bX4_openPlace
  refine ⟨q + 1, r0, ?_⟩
  have e0 : ∀ v : mSt, mI (mpI v q 2 0) q 2 = 0 := fun v => by simp [s1, mup_at]
  rw [e0]
  refine ⟨by rw [k0]; exact vp_in_nI (by decide) (by decide), ?_⟩
  rw [show (0 : Int32).toNatClampNeg = 0 by decide]
  rintro _ rfl _ rfl
  unfold bX4_returnToStart
  rintro _ rfl _ rfl
  refine k _ ⟨?_, ?_, ?_, fun p hp => ?_, fun x hx => ?_, fun x h1 h2 => ?_⟩ rfl rfl rfl rfl (fun p p1 p2 p3 => ?_)
  · simp [s1, mup_at]; decide
  · simp [s1, mup_at, nI_0]
  · simp [s1, mup_at, pbI]
  · replace hp : p < 1 := hp
    have : p = 0 := by omega
    subst this
    simp [s1, mup_at]
  · replace hx : x < 5 * 1 := hx
    simp only [s1, s10]
    rw [mup_ne _ (by omega), mup_ne _ (by omega), mup_ne _ (by omega), mup_ne _ (by omega), mup_ne _ (by omega), mrow_self]
    simp [lI, show x < 30 by omega]
  · simp only [s1, s10]
    rw [mup_ne _ (by omega), mup_ne _ (by omega), mup_ne _ (by omega), mup_ne _ (by omega), mup_ne _ (by omega), mrow_self]
    simp [h2]
  · simp only [s1, s10]
    rw [mup_ne _ p1, mup_ne _ p1, mup_ne _ p1, mup_ne _ p2, mup_ne _ p1, mrow_ne _ p3]
/-- start -/
def xStart (h : aHo) (a : Int32) : Option Nat := match dec a 7 with
  | none => none
  | some m => if m = 0 then none else some m
def wk0 : aWk := (true, (0, 0, false), none, [])
def at0 (h : aHo) (m : Nat) : aAt := (m, false, [(1, 0, none, fun _ => h.2.1 0, fun _ => 0)])
theorem cPile.of {pn ps : Nat} {g : Nat → Nat → Option Nat} {u v : mSt} (h : cPile pn ps g u) (eR : mR v = mR u) (eN : mN v = mN u) : cPile pn ps g v := by
  unfold cPile at *
  rw [eR, eN]; exact h
theorem okSz.of {g : Nat → Nat → Option Nat} {j : Nat} {u v : mSt} (h : okSz g j u) (eN : mN v = mN u) (eT : mT v = mT u) : okSz g j v := by
  unfold okSz at *
  rw [eN, eT]; exact h
theorem xStart_some {h : aHo} {a : Int32} {m : Nat} (h1 : 0 < m) (h6 : m ≤ 6) (e : a = nI m) : xStart h a = some m := by
  unfold xStart
  rw [dec_some (n := 7) (by decide) (by omega) e]
  dsimp only
  rw [if_neg (by omega)]
theorem xStart_none {h : aHo} {a : Int32} (hno : ∀ m, 0 < m → m ≤ 6 → a ≠ nI m) : xStart h a = none := by
  unfold xStart
  rcases dec_cases a (n := 7) (by decide) with ⟨m, hm, e, d⟩ | ⟨-, d⟩ <;> rw [d]
  dsimp only
  by_cases z : m = 0
  · rw [if_pos z]
  · exact absurd e (hno m (by omega) (by omega))
theorem C_start {h : aHo} {pn ps j : Nat} {g : Nat → Nat → Option Nat} {u : mSt} {a : Int32} {K : Int32 → mSt → Prop} (hr : cRf u) (hh : oHo h) (hch : cHo h u) (hp : cPile pn ps g u) (hsz : okSz g j u) (hj : j ≤ 600)
    (k1a : xStart h a = none → K (-1) u) (k2 : ∀ m, xStart h a = some m → h.1 = 0 → K (-2) u)
    (k : ∀ m y q, xStart h a = some m → 0 < m → m ≤ 6 → 0 < h.1 → cWk wk0 y → cAt (at0 h m) pn ps (upG g pn 0 q) y → cHo h y → cRf y → okSz (upG g pn 0 q) j y → (∀ p, p < 77 → p ≠ 0 → p ≠ 1 → p ≠ 6 → p ≠ 9 → mI y p = mI u p) → (∀ p, p < 77 → mL y p = mL u p) → (∀ p x, p < 77 → p ≠ 10 → p ≠ 11 → mR y p x = mR u p x) → K 0 y) : bX8_start 0 a u K := by
  have r0 := hr.get 0 0 1 (by decide)
  have r1 := hr.get 0 1 6 (by decide)
  have r2 := hr.get 0 2 9 (by decide)
  have r10 := hr.get 1 0 2 (by decide)
  have h10 := hh.1
  have hpn : pn = 10 ∨ pn = 11 := by rcases hp.1 with ⟨q, -⟩ | ⟨q, -⟩ <;> omega
  unfold bX8_start
  have hone : ∀ m : Nat, m < 2 ^ 31 → (nI m < 1 ↔ m < 1) := fun m hm => by rw [k1]; exact nI_ltI hm (by decide)
  have hsix : ∀ m : Nat, m < 2 ^ 31 → (nI m ≤ 6 ↔ m ≤ 6) := fun m hm => by rw [k6]; exact nI_leI hm (by decide)
  refine br_c (fun c => k1a (xStart_none (fun m h1 h6 e => ?_))) (fun c => ?_)
  · rw [e, hone m (by omega)] at c; omega
  have c0 : ¬ a < 0 := fun z => c (Int32.lt_trans z (by decide))
  obtain ⟨m, hm, rfl⟩ := nI_of c0
  rw [hone m hm] at c
  rw [hsix m hm]
  refine br_c (fun c6 => ⟨1, r0, ?_⟩) (fun c6 => k1a (xStart_none (fun m' h1 h6 e => c6 (by rw [(nI_eq hm (by omega)).mp e]; exact h6))))
  have hx : xStart h (nI m) = some m := xStart_some (by omega) c6 rfl
  have hz : mI u 1 4 = 0 ↔ h.1 = 0 := by rw [hch.1, k0]; exact nI_eq (by omega) (by decide)
  rw [hz]
  refine br_c (fun z => k2 m hx z) (fun z => ?_)
  rintro _ rfl
  refine ⟨1, r0, ?_⟩
  unfold bX1_begin bX8_standOf
  rintro _ rfl _ rfl
  refine ⟨6, r1, ?_⟩
  rintro _ rfl
  refine ⟨9, r2, 1, r0, 2, r10, by rw [k0]; exact vp_in_nI (by decide) (by decide), ?_⟩
  rw [show ((0 : Int32) * 4 + 0) * 2 + 0 = 0 by decide, show (0 : Int32).toNatClampNeg = 0 by decide]
  have hs0 : mI (mpI (mpI (mpI (mpI u 0 8 1) 1 5 0) 1 6 (-2)) 6 2 0) 2 0 = nI (h.2.1 0) := by
    simp only [s1]
    rw [mup_ne _ (by decide), mup_ne _ (by decide), mup_ne _ (by decide), mup_ne _ (by decide)]
    exact (hch.2.1 0 (by omega)).1
  rw [hs0]
  unfold bX0_begin
  rintro _ rfl _ rfl _ rfl
  refine ⟨pn, hp.2.1, ?_⟩
  rw [k0]
  have hV := hp.of (v := mpI (mpI (mpI (mpI (mpI (mpI (mpI u 0 8 1) 1 5 (nI 0)) 1 6 (-2)) 6 2 (nI 0)) 9 4 (nI m)) 9 5 (nI 0)) 9 2 1) rfl rfl
  refine s_blank hV hpn (by decide) (hsz.of rfl rfl) hj (fun q y0 b1 b2 b3 b4 b5 b6 b7 => ?_)
  obtain ⟨d1, d2, d3, d4⟩ := b1.2.2.2.2.1 pn 0 q hpn (by decide) (by simp [upG])
  refine s_shBegin d3 d4 (fun y y1 y2 y3 y4 y5 y6 => ?_)
  have hI : ∀ p, p < 77 → mI y p = mI (mpI (mpI (mpI (mpI (mpI (mpI (mpI u 0 8 1) 1 5 (nI 0)) 1 6 (-2)) 6 2 (nI 0)) 9 4 (nI m)) 9 5 (nI 0)) 9 2 1) p := fun p hp => by rw [y6 p (by omega) (by omega) (by omega)]; exact (b3 p (Or.inl hp)).1
  have hRR : ∀ p x, p < 77 → p ≠ 10 → p ≠ 11 → mR y p x = mR u p x := fun p x hp p1 p2 => by rw [y2]; exact b4 p x hp (by omega)
  rw [← k0] at *
  refine k m y q hx (by omega) c6 (by omega) ⟨?_, ?_, fun _ => ⟨?_, ?_⟩, fun i e he => ?_⟩ ⟨b1.of y2 y4, ?_, ?_, ?_, fun i s hi => ?_⟩ ?_ (fun t ht => ?_) (b2.of y4 y5) (fun p hp p0 p1 p6 p9 => ?_) (fun p hp => ?_) hRR
  · rw [hI 0 (by decide)]; simp [s1, mup_at]; rfl
  · rw [hI 6 (by decide)]; simp [s1, mup_at]; rfl
  · rw [hI 1 (by decide)]; simp [s1, mup_at]; rfl
  · rw [hI 1 (by decide)]; simp [s1, mup_at]; rfl
  · simp [wk0] at he
  · rw [hI 9 (by decide)]; simp [s1, mup_at, at0]; decide
  · rw [hI 9 (by decide)]; simp [s1, mup_at, at0]
  · rw [hI 9 (by decide)]; simp [s1, mup_at, at0]; rfl
  · have h1 : i < 1 := (List.getElem?_eq_some_iff.mp hi).1
    have : i = 0 := by omega
    subst this
    cases hi
    exact ⟨q, by simp [upG], y1⟩
  · unfold cHo
    rw [hI 1 (by decide), hI 2 (by decide), hI 3 (by decide), hI 4 (by decide), hI 5 (by decide)]
    simpa [cHo, s1, mup_row] using hch
  · have hlt : ∀ t ∈ cTab, t.1 < 77 ∧ t.1 ≠ 10 ∧ t.1 ≠ 11 := by decide
    obtain ⟨l1, l2, l3⟩ := hlt t ht
    rw [hRR _ _ l1 l2 l3]; exact hr t ht
  · rw [hI p hp]; simp only [s1]
    rw [mup_ne _ p9, mup_ne _ p9, mup_ne _ p9, mup_ne _ p6, mup_ne _ p1, mup_ne _ p1, mup_ne _ p0]
  · rw [y3]; exact (b3 p (Or.inl hp)).2
