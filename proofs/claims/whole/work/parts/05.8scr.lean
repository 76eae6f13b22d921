/-- the script -/
def mScr (X : mCx) (b L : Nat) (xs : Nat → Int32) : Prop := va_X b L xs X.2.2.2.2.1 X.2.2.2.2.2.2.2.2.2.2.1.2.2.2.1 ∧ b < X.2.2.2.2.2.2.2.2.2.2.1.1
theorem mz_slen {X : mCx} {G : mG} {cc : ByteArray} {Ts : List Cond} {own mn : String} {fr lo : Nat} {ret : Option FieldType} {u0 : mSt} {P : Option Value → mSt → Prop} {u : mSt} {pc : Nat} {lv : List (Nat × Value)} {rest : List Value} {b L : Nat} {xs : Nat → Int32} (F : mFx X G cc Ts own mn fr lo ret u0 P) (hX : mScr X b L xs) (d : decode cc pc = .ok (.arraylength, 1)) (k : mZ X u (pc + 1) lv (.int (nI L) :: rest)) : mZ X u pc lv (.ref b :: rest) := by
  obtain ⟨p, l, e, R, s, m, args, below, meth, c0, G', u1, nL, Q⟩ := X
  obtain ⟨rfl, rfl, hmn, hx, hb, hml, hown, hts, hlk, hrt, hfr, hlo, hrc, hrs, hU, hW0, hQ⟩ := F
  intro H locs ls h1 h2 h3 h4 h5 hl
  obtain ⟨⟨scr, q1, q2, q3, q4, q5⟩, q6⟩ := hX
  have hc : H[b]? = some scr := by rw [h1.2.1 b q6]; exact q1
  exact W.alen (n := nI L) hx hb hc q2 (by rw [q4]; rfl) rfl rfl d (k H locs ls h1 h2 h3 h4 h5 hl)
theorem mz_sld {X : mCx} {G : mG} {cc : ByteArray} {Ts : List Cond} {own mn : String} {fr lo : Nat} {ret : Option FieldType} {u0 : mSt} {P : Option Value → mSt → Prop} {u : mSt} {pc : Nat} {lv : List (Nat × Value)} {rest : List Value} {b L : Nat} {xs : Nat → Int32} {i : Int32} (F : mFx X G cc Ts own mn fr lo ret u0 P) (hX : mScr X b L xs) (d : decode cc pc = .ok (.iaload, 1)) (hin : vp_in i L) (k : mZ X u (pc + 1) lv (.int (xs i.toNatClampNeg) :: rest)) : mZ X u pc lv (.int i :: .ref b :: rest) := by
  obtain ⟨p, l, e, R, s, m, args, below, meth, c0, G', u1, nL, Q⟩ := X
  obtain ⟨rfl, rfl, hmn, hx, hb, hml, hown, hts, hlk, hrt, hfr, hlo, hrc, hrs, hU, hW0, hQ⟩ := F
  intro H locs ls h1 h2 h3 h4 h5 hl
  obtain ⟨⟨scr, q1, q2, q3, q4, q5⟩, q6⟩ := hX
  have hc : H[b]? = some scr := by rw [h1.2.1 b q6]; exact q1
  have hlt : i.toNatClampNeg < L := Nat.not_le.mp fun q => hin (Or.inr q)
  exact W.iald hx hb hc q2 q3 (by rw [q4]; exact hin) (q5 _ hlt) rfl rfl d (k H locs ls h1 h2 h3 h4 h5 hl)
/-- junk: cells that nobody looks at -/
def mjk (u : mSt) (k z : Nat) : mSt := (mN u + k, mT u + z, mK u, mI u, mR u, mL u)
