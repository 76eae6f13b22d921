/-! THE WHOLE: what holds between calls -/
def sHo : Nat → Nat → Bool := fun p i => (p == 1 && i == 4) || p == 2 || p == 3 || p == 4 || p == 5
def sWk : Nat → Nat → Bool := fun p i => (p == 0 && i == 8) || (p == 6 && i == 2) || (p == 1 && (i == 5 || i == 6)) || p == 7 || p == 8
def sAt : Nat → Nat → Bool := fun p _ => p == 9 || decide (77 ≤ p)
def sRt : Nat → Nat → Bool := fun p i => (p == 16 && i == 2) || p == 18
def sHd : Nat → Nat → Bool := fun p _ => p == 20 || p == 21
def sTd : Nat → Nat → Bool := fun p _ => p == 22 || p == 23 || p == 24
def sSv : Nat → Nat → Bool := fun p _ => decide (26 ≤ p) && decide (p < 42)
def ag (s : Nat → Nat → Bool) (u v : mSt) : Prop := ∀ p i, s p i = true → mI v p i = mI u p i
theorem ag.row {s : Nat → Nat → Bool} {u v : mSt} (a : ag s u v) {p : Nat} (e : ∀ i, s p i = true) : mI v p = mI u p := funext fun i => a p i (e i)
theorem cHo.ag {h : aHo} {u v : mSt} (c : cHo h u) (a : ag sHo u v) : cHo h v := by
  unfold cHo
  rw [a 1 4 rfl, a.row (p := 2) (fun _ => rfl), a.row (p := 3) (fun _ => rfl), a.row (p := 4) (fun _ => rfl), a.row (p := 5) (fun _ => rfl)]; exact c
theorem cWk.ag {w : aWk} {u v : mSt} (c : cWk w u) (a : ag sWk u v) : cWk w v := by
  unfold cWk
  rw [a 0 8 rfl, a 6 2 rfl, a 1 5 rfl, a 1 6 rfl, a.row (p := 7) (fun _ => rfl), a.row (p := 8) (fun _ => rfl)]; exact c
theorem cPile.ag {pn ps : Nat} {g : Nat → Nat → Option Nat} {u v : mSt} (c : cPile pn ps g u) (hR : mR v = mR u) (hN : mN v = mN u) : cPile pn ps g v := c.of hR hN
theorem cAt.ag {t : aAt} {pn ps : Nat} {g : Nat → Nat → Option Nat} {u v : mSt} (hl : t.2.2.length ≤ 150) (c : cAt t pn ps g u) (a : ag sAt u v) (hR : mR v = mR u) (hN : mN v = mN u) : cAt t pn ps g v := by
  obtain ⟨c1, c2, c3, c4, c5⟩ := c
  have hpn : pn = 10 ∨ pn = 11 := by rcases c1.1 with ⟨q, -⟩ | ⟨q, -⟩ <;> omega
  refine ⟨c1.of hR hN, by rw [a 9 2 rfl]; exact c2, by rw [a 9 4 rfl]; exact c3, by rw [a 9 5 rfl]; exact c4, fun k s hk => ?_⟩
  obtain ⟨q, q1, q2⟩ := c5 k s hk
  have hkl := (List.getElem?_eq_some_iff.mp hk).1
  have hq := (c1.2.2.2.2.1 pn k q hpn (by omega) q1).1
  exact ⟨q, q1, q2.of (a.row (fun i => by simp [sAt]; omega)) (a.row (fun i => by simp [sAt]; omega)) (a.row (fun i => by simp [sAt]; omega))⟩
theorem cRt.ag {r : List Nat} {u v : mSt} (c : cRt r u) (a : ag sRt u v) : cRt r v := by
  unfold cRt
  rw [a 16 2 rfl, a.row (p := 18) (fun _ => rfl)]; exact c
theorem cHd.ag {d : aHd} {u v : mSt} (c : cHd d u) (a : ag sHd u v) : cHd d v := by
  unfold cHd
  rw [a.row (p := 20) (fun _ => rfl), a.row (p := 21) (fun _ => rfl)]; exact c
theorem cTd.ag {L : List Nat} {u v : mSt} (c : cTd L u) (a : ag sTd u v) : cTd L v := by
  unfold cTd
  rw [a 22 2 rfl, a.row (p := 23) (fun _ => rfl), a.row (p := 24) (fun _ => rfl)]; exact c
theorem cSv.ag {s : aSv} {u v : mSt} (c : cSv s u) (a : ag sSv u v) (hL : ∀ p, 26 ≤ p → p < 42 → mL v p = mL u p) : cSv s v := by
  intro d hd
  have e1 : mI v (26 + 2 * d) = mI u (26 + 2 * d) := a.row (fun i => by simp [sSv]; omega)
  rw [e1, hL (27 + 2 * d) (by omega) (by omega)]
  exact c d hd
def qHo : Nat → Nat → Bool := fun p i => (p == 42 && i == 1) || p == 43 || p == 44 || p == 45 || p == 46
def qWk : Nat → Nat → Bool := fun p i => (p == 42 && ((decide (6 ≤ i) && decide (i ≤ 12)) || i == 17)) || p == 47 || p == 48 || p == 49 || p == 50
def qAt : Nat → Nat → Bool := fun p i => (p == 42 && (i == 18 || i == 19 || i == 20)) || p == 51 || p == 52 || p == 53 || p == 54 || p == 55 || p == 56
def qRt : Nat → Nat → Bool := fun p i => (p == 42 && i == 40) || p == 65
def qHd : Nat → Nat → Bool := fun p _ => p == 66 || p == 67
def qSv : Nat → Nat → Bool := fun p _ => p == 70 || p == 71 || p == 72 || p == 73
theorem rHo.ag {h : aHo} {u v : mSt} (c : rHo h u) (a : ag qHo u v) : rHo h v := by
  unfold rHo
  rw [a 42 1 rfl, a.row (p := 43) (fun _ => rfl), a.row (p := 44) (fun _ => rfl), a.row (p := 45) (fun _ => rfl), a.row (p := 46) (fun _ => rfl)]; exact c
theorem rWk.ag {h : aHo} {w : aWk} {u v : mSt} (c : rWk h w u) (a : ag qWk u v) : rWk h w v := by
  unfold rWk
  rw [a 42 6 rfl, a 42 7 rfl, a 42 8 rfl, a 42 9 rfl, a 42 10 rfl, a 42 11 rfl, a 42 12 rfl, a 42 17 rfl, a.row (p := 47) (fun _ => rfl), a.row (p := 48) (fun _ => rfl), a.row (p := 49) (fun _ => rfl), a.row (p := 50) (fun _ => rfl)]; exact c
def rAH (w : aWk) (t : aAt) (u : mSt) : Prop := rAt t u ∧ ∀ k s, t.2.2[k]? = some s → rHi s w.2.2.2 k u
theorem rAH.ag {w : aWk} {t : aAt} {u v : mSt} (c : rAH w t u) (a : ag qAt u v) : rAH w t v := by
  unfold rAH rAt rOne rHi
  rw [a 42 18 rfl, a 42 19 rfl, a 42 20 rfl, a.row (p := 51) (fun _ => rfl), a.row (p := 52) (fun _ => rfl), a.row (p := 53) (fun _ => rfl), a.row (p := 54) (fun _ => rfl), a.row (p := 55) (fun _ => rfl), a.row (p := 56) (fun _ => rfl)]; exact c
theorem rRt.ag {r : List Nat} {u v : mSt} (c : rRt r u) (a : ag qRt u v) : rRt r v := by
  unfold rRt
  rw [a 42 40 rfl, a.row (p := 65) (fun _ => rfl)]; exact c
theorem rHd.ag {d : aHd} {u v : mSt} (c : rHd d u) (a : ag qHd u v) : rHd d v := by
  unfold rHd
  rw [a.row (p := 66) (fun _ => rfl), a.row (p := 67) (fun _ => rfl)]; exact c
theorem rSv.ag {s : aSv} {u v : mSt} (c : rSv s u) (a : ag qSv u v) (hL : mL v 74 = mL u 74) : rSv s v := by
  unfold rSv
  rw [a.row (p := 70) (fun _ => rfl), a.row (p := 71) (fun _ => rfl), a.row (p := 72) (fun _ => rfl), a.row (p := 73) (fun _ => rfl), hL]; exact c
/-- all that is known of the calls so far -/
abbrev aAll : Type := aHo × aWk × aAt × List Nat × aHd × aSv
def oInv (x : aAll) : Prop := oHo x.1 ∧ oWk x.1 x.2.1 ∧ oAt x.2.1 x.2.2.1 ∧ oPb x.2.1 x.2.2.1 ∧ oTr x.2.1 x.2.2.1 ∧ oRt x.2.2.2.1 ∧ oHd x.2.2.2.2.1 ∧ oSv x.2.2.2.2.2
def cInv (x : aAll) (j : Nat) (u : mSt) : Prop := ∃ pn ps g L, cRf u ∧ cHo x.1 u ∧ cWk x.2.1 u ∧ cAt x.2.2.1 pn ps g u ∧ okSz g j u ∧ cRt x.2.2.2.1 u ∧ cHd x.2.2.2.2.1 u ∧ cSv x.2.2.2.2.2 u ∧ oTd L ∧ cTd L u
def rInv (x : aAll) (u : mSt) : Prop := rRf u ∧ rHo x.1 u ∧ rWk x.1 x.2.1 u ∧ rAH x.2.1 x.2.2.1 u ∧ rRt x.2.2.2.1 u ∧ rHd x.2.2.2.2.1 u ∧ rSv x.2.2.2.2.2 u
def Inv (j : Nat) (u : mSt) : Prop := ∃ x, oInv x ∧ cInv x j u ∧ rInv x u
/-- the class leaves the reference alone -/
def fCl (u v : mSt) : Prop := (∀ p, 42 ≤ p → p < 76 → mI v p = mI u p) ∧ mL v 74 = mL u 74 ∧ ∀ x, mR v 42 x = mR u 42 x
theorem fCl.rf (u : mSt) : fCl u u := ⟨fun _ _ _ => rfl, rfl, fun _ => rfl⟩
theorem fCl.of {P : Nat → Nat → Bool} {u v : mSt} (f : fr P u v) (e : ∀ p i, 42 ≤ p → p < 76 → P p i = false) : fCl u v := ⟨fun p h1 h2 => f.row (fun i => e p i h1 h2), by rw [f.2.2.1], fun x => by rw [f.2.1]⟩
theorem rTab_42 : ∀ t ∈ rTab, t.1 = 42 := by decide
theorem rInv.cl {x : aAll} {u v : mSt} (r : rInv x u) (f : fCl u v) : rInv x v := by
  obtain ⟨r1, r2, r3, r4, r5, r6, r7⟩ := r
  obtain ⟨f1, f2, f3⟩ := f
  have f1' : ∀ p i, 42 ≤ p → p < 76 → mI v p i = mI u p i := fun p i h1 h2 => by rw [f1 p h1 h2]
  refine ⟨fun t ht => ?_, r2.ag (fun p i e => f1' p i ?_ ?_), r3.ag (fun p i e => f1' p i ?_ ?_), r4.ag (fun p i e => f1' p i ?_ ?_), r5.ag (fun p i e => f1' p i ?_ ?_), r6.ag (fun p i e => f1' p i ?_ ?_), r7.ag (fun p i e => f1' p i ?_ ?_) f2⟩
  · have := r1 t ht
    rw [rTab_42 t ht] at this ⊢
    rw [f3]; exact this
  all_goals first
    | (simp [qHo] at e; omega)
    | (simp [qWk] at e; omega)
    | (simp [qAt] at e; omega)
    | (simp [qRt] at e; omega)
    | (simp [qHd] at e; omega)
    | (simp [qSv] at e; omega)
theorem cInv.rf {x : aAll} {j : Nat} {u v : mSt} (hl : x.2.2.1.2.2.length ≤ 150) (c : cInv x j u) (f : fM u v) : cInv x j v := by
  obtain ⟨pn, ps, g, L, c1, c2, c3, c4, c5, c6, c7, c8, c9, c10⟩ := c
  obtain ⟨f1, f2, f3, f4⟩ := f
  have a : ∀ s : Nat → Nat → Bool, (∀ p i, s p i = true → p < 42 ∨ 76 ≤ p) → ag s u v := fun s hs p i e => by rw [(f1 p (hs p i e)).1]
  refine ⟨pn, ps, g, L, c1.of f2, c2.ag (a _ (fun p i e => ?_)), c3.ag (a _ (fun p i e => ?_)), c4.ag hl (a _ (fun p i e => ?_)) f2 f3, c5.of f3 f4, c6.ag (a _ (fun p i e => ?_)), c7.ag (a _ (fun p i e => ?_)), c8.ag (a _ (fun p i e => ?_)) (fun p _ h => (f1 p (Or.inl h)).2), c9, c10.ag (a _ (fun p i e => ?_))⟩
  all_goals first
    | (simp [sHo] at e; omega)
    | (simp [sWk] at e; omega)
    | (simp [sAt] at e; omega)
    | (simp [sRt] at e; omega)
    | (simp [sHd] at e; omega)
    | (simp [sSv] at e; omega)
    | (simp [sTd] at e; omega)
theorem fr.fM {P : Nat → Nat → Bool} {u v : mSt} (f : fr P u v) (e : ∀ p i, (p < 42 ∨ 76 ≤ p) → P p i = false) : fM u v := ⟨fun p hp => ⟨f.row (fun i => e p i hp), by rw [f.2.2.1]⟩, f.2.1, f.2.2.2.1, f.2.2.2.2⟩
theorem fM.th (u : mSt) (x : Int32) : fM u (mpI u 42 0 x) := fM.pI u (by decide)
/-- a call of the reference that only clears thrown -/
theorem rInv.th {x : aAll} {u : mSt} (r : rInv x u) (y : Int32) : rInv x (mpI u 42 0 y) := by
  obtain ⟨r1, r2, r3, r4, r5, r6, r7⟩ := r
  have a : ∀ s : Nat → Nat → Bool, s 42 0 = false → ag s u (mpI u 42 0 y) := fun s hs p i e => up_ne _ _ (by rintro ⟨rfl, rfl⟩; rw [hs] at e; cases e)
  exact ⟨r1.of rfl, r2.ag (a _ rfl), r3.ag (a _ rfl), r4.ag (a _ rfl), r5.ag (a _ rfl), r6.ag (a _ rfl), r7.ag (a _ rfl) rfl⟩
/-- both sides leave all as it is -/
theorem J_same {x : aAll} {j : Nat} {u : mSt} (o : oInv x) (c : cInv x j u) (r : rInv x u) (y : Int32) : Inv j (mpI u 42 0 y) := ⟨x, o, c.rf o.2.2.1.2.2.2.1 (fM.th u y), r.th y⟩
