theorem mcell_arrI {G : mG} {u : mSt} {p c ty n : Nat} (hk : mK u p = c) (hi : mKi c = some (.inr (ty, n, 0))) (h3 : ty ≠ 3) : mcell G u p = some (.inl (G.2.2.1 ty, n, .inl (mI u p))) := by
  simp only [mcell, hk, hi, h3, if_false, if_true]
theorem mcell_arrL {G : mG} {u : mSt} {p c n b : Nat} (hk : mK u p = c) (hi : mKi c = some (.inr (3, n, b))) : mcell G u p = some (.inl (G.2.2.1 3, n, .inr (.inl (mL u p)))) := by
  simp only [mcell, hk, hi, if_true]
theorem mcell_arrR {G : mG} {u : mSt} {p c ty n b : Nat} (hk : mK u p = c) (hi : mKi c = some (.inr (ty, n, b))) (h3 : ty ≠ 3) (hb : b ≠ 0) : mcell G u p = some (.inl (G.2.2.1 ty, n, .inr (.inr (.inr (.inr (fun i => (mR u p i).map (fun r => G.1 + r))))))) := by
  simp only [mcell, hk, hi, h3, hb, if_false]
theorem mWd.putAI {G : mG} {u : mSt} {H H1 : Heap} {p c ty n j : Nat} {x : Int32} (h : mWd G u H) (hk : mK u p = c) (hi : mKi c = some (.inr (ty, n, 0))) (h3 : ty ≠ 3) (e : H1[G.1 + p]? = some ((vp_cell (G.2.2.1 ty) (n, .inl (mI u p))).setSlot j (.int x))) (z : H1.size = H.size) (oq : ∀ q : Nat, q ≠ G.1 + p → H1[q]? = H[q]?) : mWd G (mpI u p j x) H1 := by
  have h0 := h.2.2.2.1 p _ (mcell_arrI hk hi h3)
  have h0 : H[G.1 + p]? = some (vp_cell (G.2.2.1 ty) (n, .inl (mI u p))) := h0
  rw [vp_cell_i, arrV_store] at e
  refine h.put (p := p) rfl rfl rfl (fun q hq => mcell_congr rfl (mup_ne _ hq) rfl rfl) (fun e' he' => ?_) z oq ?_ (h.2.2.2.2.int rfl rfl)
  · rw [mcell_arrI (u := mpI u p j x) hk hi h3] at he'
    cases he'
    show H1[G.1 + p]? = some (vp_cell _ _)
    rw [e, vp_cell_i]
    congr 2
    funext k
    show updV _ j (.int x) k = .int (mup (mI u) p j x p k)
    rw [mup_self]
    by_cases hq : k = j
    · simp [updV, hq]
    · simp [updV, hq]
  · rw [e, h0, vp_cell_i]
    simp [arrV_size]
theorem mWd.putAL {G : mG} {u : mSt} {H H1 : Heap} {p c n b j : Nat} {x : Int64} (h : mWd G u H) (hk : mK u p = c) (hi : mKi c = some (.inr (3, n, b))) (e : H1[G.1 + p]? = some ((vp_cell (G.2.2.1 3) (n, .inr (.inl (mL u p)))).setSlot j (.long x))) (z : H1.size = H.size) (oq : ∀ q : Nat, q ≠ G.1 + p → H1[q]? = H[q]?) : mWd G (mpL u p j x) H1 := by
  have h0 := h.2.2.2.1 p _ (mcell_arrL hk hi)
  have h0 : H[G.1 + p]? = some (vp_cell (G.2.2.1 3) (n, .inr (.inl (mL u p)))) := h0
  rw [vp_cell_l, arrV_store] at e
  refine h.put (p := p) rfl rfl rfl (fun q hq => mcell_congr rfl rfl rfl (mup_ne _ hq)) (fun e' he' => ?_) z oq ?_ (h.2.2.2.2.int rfl rfl)
  · rw [mcell_arrL (u := mpL u p j x) hk hi] at he'
    cases he'
    show H1[G.1 + p]? = some (vp_cell _ _)
    rw [e, vp_cell_l]
    congr 2
    funext k
    show updV _ j (.long x) k = .long (mup (mL u) p j x p k)
    rw [mup_self]
    by_cases hq : k = j
    · simp [updV, hq]
    · simp [updV, hq]
  · rw [e, h0, vp_cell_l]
    simp [arrV_size]
theorem mWd.putAR {G : mG} {u : mSt} {H H1 : Heap} {p c ty n b j q0 : Nat} (h : mWd G u H) (hk : mK u p = c) (hi : mKi c = some (.inr (ty, n, b))) (h3 : ty ≠ 3) (hb : b ≠ 0) (hkq : mK u q0 = b) (e : H1[G.1 + p]? = some ((vp_cell (G.2.2.1 ty) (n, .inr (.inr (.inr (.inr (fun i => (mR u p i).map (fun r => G.1 + r))))))).setSlot j (.ref (G.1 + q0)))) (z : H1.size = H.size) (oq : ∀ q : Nat, q ≠ G.1 + p → H1[q]? = H[q]?) : mWd G (mpR u p j (some q0)) H1 := by
  have h0 := h.2.2.2.1 p _ (mcell_arrR hk hi h3 hb)
  have h0 : H[G.1 + p]? = some (vp_cell (G.2.2.1 ty) (n, .inr (.inr (.inr (.inr (fun i => (mR u p i).map (fun r => G.1 + r))))))) := h0
  rw [vp_cell_q, arrV_store] at e
  refine h.put (p := p) rfl rfl rfl (fun q hq => mcell_congr rfl rfl (mup_ne _ hq) rfl) (fun e' he' => ?_) z oq ?_ (h.2.2.2.2.ref (fun q hq _ => by cases hq; rw [hkq]; simp only [mfk, hk, hi]))
  · rw [mcell_arrR (u := mpR u p j (some q0)) hk hi h3 hb] at he'
    cases he'
    show H1[G.1 + p]? = some (vp_cell _ _)
    rw [e, vp_cell_q]
    congr 2
    funext k
    show updV _ j (.ref (G.1 + q0)) k = va_rf ((mup (mR u) p j (some q0) p k).map (fun r => G.1 + r))
    rw [mup_self]
    by_cases hq : k = j
    · simp [updV, hq, va_rf]
    · simp [updV, hq]
  · rw [e, h0, vp_cell_q]
    simp [arrV_size]
theorem mz_iald {X : mCx} {G : mG} {cc : ByteArray} {Ts : List Cond} {own mn : String} {fr lo : Nat} {ret : Option FieldType} {u0 : mSt} {P : Option Value → mSt → Prop} {u : mSt} {pc : Nat} {lv : List (Nat × Value)} {rest : List Value} {p0 c n : Nat} {i : Int32} (F : mFx X G cc Ts own mn fr lo ret u0 P) (d : decode cc pc = .ok (.iaload, 1)) (hk : mK u p0 = c) (hi : mKi c = some (.inr (0, n, 0))) (hin : vp_in i n) (kk : mZ X u (pc + 1) lv (.int (mI u p0 i.toNatClampNeg) :: rest)) : mZ X u pc lv (.int i :: .ref (G.1 + p0) :: rest) := by
  obtain ⟨p, l, e, R, s, m, args, below, meth, c0, G', u1, nL, Q⟩ := X
  obtain ⟨rfl, rfl, hmn, hx, hb, hml, hown, hts, hlk, hrt, hfr, hlo, hrc, hrs, hU, hW0, hQ⟩ := F
  intro H locs ls h1 h2 h3 h4 h5 hl
  have hcell := mcell_arrI (G := G') hk hi (by decide)
  have hP : va_P G'.2.1 mCl [(G'.1 + p0, .inl (G'.2.2.1 0, n, .inl (mI u p0)))] H := fun j q hq => by
    have hj : j = 0 := by have := (List.getElem?_eq_some_iff.mp hq).1; simp at this; exact this
    subst hj
    cases hq
    exact h1.2.2.2.1 p0 _ hcell
  exact va_iald (D := G'.2.1) hx hb hU.1 hP 0 0 rfl rfl hin d (kk H locs ls h1 h2 h3 h4 h5 hl)
theorem mz_zald {X : mCx} {G : mG} {cc : ByteArray} {Ts : List Cond} {own mn : String} {fr lo : Nat} {ret : Option FieldType} {u0 : mSt} {P : Option Value → mSt → Prop} {u : mSt} {pc : Nat} {lv : List (Nat × Value)} {rest : List Value} {p0 c n : Nat} {i : Int32} (F : mFx X G cc Ts own mn fr lo ret u0 P) (d : decode cc pc = .ok (.baload, 1)) (hk : mK u p0 = c) (hi : mKi c = some (.inr (1, n, 0))) (hin : vp_in i n) (kk : mZ X u (pc + 1) lv (.int (mI u p0 i.toNatClampNeg) :: rest)) : mZ X u pc lv (.int i :: .ref (G.1 + p0) :: rest) := by
  obtain ⟨p, l, e, R, s, m, args, below, meth, c0, G', u1, nL, Q⟩ := X
  obtain ⟨rfl, rfl, hmn, hx, hb, hml, hown, hts, hlk, hrt, hfr, hlo, hrc, hrs, hU, hW0, hQ⟩ := F
  intro H locs ls h1 h2 h3 h4 h5 hl
  have hcell := mcell_arrI (G := G') hk hi (by decide)
  have hP : va_P G'.2.1 mCl [(G'.1 + p0, .inl (G'.2.2.1 1, n, .inl (mI u p0)))] H := fun j q hq => by
    have hj : j = 0 := by have := (List.getElem?_eq_some_iff.mp hq).1; simp at this; exact this
    subst hj
    cases hq
    exact h1.2.2.2.1 p0 _ hcell
  exact va_zald (D := G'.2.1) hx hb hU.1 hP 0 1 rfl rfl hin d (kk H locs ls h1 h2 h3 h4 h5 hl)
theorem mz_bald {X : mCx} {G : mG} {cc : ByteArray} {Ts : List Cond} {own mn : String} {fr lo : Nat} {ret : Option FieldType} {u0 : mSt} {P : Option Value → mSt → Prop} {u : mSt} {pc : Nat} {lv : List (Nat × Value)} {rest : List Value} {p0 c n : Nat} {i : Int32} (F : mFx X G cc Ts own mn fr lo ret u0 P) (d : decode cc pc = .ok (.baload, 1)) (hk : mK u p0 = c) (hi : mKi c = some (.inr (2, n, 0))) (hin : vp_in i n) (kk : mZ X u (pc + 1) lv (.int (mI u p0 i.toNatClampNeg) :: rest)) : mZ X u pc lv (.int i :: .ref (G.1 + p0) :: rest) := by
  obtain ⟨p, l, e, R, s, m, args, below, meth, c0, G', u1, nL, Q⟩ := X
  obtain ⟨rfl, rfl, hmn, hx, hb, hml, hown, hts, hlk, hrt, hfr, hlo, hrc, hrs, hU, hW0, hQ⟩ := F
  intro H locs ls h1 h2 h3 h4 h5 hl
  have hcell := mcell_arrI (G := G') hk hi (by decide)
  have hP : va_P G'.2.1 mCl [(G'.1 + p0, .inl (G'.2.2.1 2, n, .inl (mI u p0)))] H := fun j q hq => by
    have hj : j = 0 := by have := (List.getElem?_eq_some_iff.mp hq).1; simp at this; exact this
    subst hj
    cases hq
    exact h1.2.2.2.1 p0 _ hcell
  exact va_bald (D := G'.2.1) hx hb hU.1 hP 0 2 rfl rfl hin d (kk H locs ls h1 h2 h3 h4 h5 hl)
theorem mz_lald {X : mCx} {G : mG} {cc : ByteArray} {Ts : List Cond} {own mn : String} {fr lo : Nat} {ret : Option FieldType} {u0 : mSt} {P : Option Value → mSt → Prop} {u : mSt} {pc : Nat} {lv : List (Nat × Value)} {rest : List Value} {p0 c n b : Nat} {i : Int32} (F : mFx X G cc Ts own mn fr lo ret u0 P) (d : decode cc pc = .ok (.laload, 1)) (hk : mK u p0 = c) (hi : mKi c = some (.inr (3, n, b))) (hin : vp_in i n) (kk : mZ X u (pc + 1) lv (.long (mL u p0 i.toNatClampNeg) :: rest)) : mZ X u pc lv (.int i :: .ref (G.1 + p0) :: rest) := by
  obtain ⟨p, l, e, R, s, m, args, below, meth, c0, G', u1, nL, Q⟩ := X
  obtain ⟨rfl, rfl, hmn, hx, hb, hml, hown, hts, hlk, hrt, hfr, hlo, hrc, hrs, hU, hW0, hQ⟩ := F
  intro H locs ls h1 h2 h3 h4 h5 hl
  have hcell := mcell_arrL (G := G') hk hi
  have hP : va_P G'.2.1 mCl [(G'.1 + p0, .inl (G'.2.2.1 3, n, .inr (.inl (mL u p0))))] H := fun j q hq => by
    have hj : j = 0 := by have := (List.getElem?_eq_some_iff.mp hq).1; simp at this; exact this
    subst hj
    cases hq
    exact h1.2.2.2.1 p0 _ hcell
  exact va_lald (D := G'.2.1) hx hb hU.1 hP 0 3 rfl rfl hin d (kk H locs ls h1 h2 h3 h4 h5 hl)
theorem mz_aald4 {X : mCx} {G : mG} {cc : ByteArray} {Ts : List Cond} {own mn : String} {fr lo : Nat} {ret : Option FieldType} {u0 : mSt} {P : Option Value → mSt → Prop} {u : mSt} {pc : Nat} {lv : List (Nat × Value)} {rest : List Value} {p0 c n b : Nat} {i : Int32} (F : mFx X G cc Ts own mn fr lo ret u0 P) (d : decode cc pc = .ok (.aaload, 1)) (hk : mK u p0 = c) (hi : mKi c = some (.inr (4, n, b))) (hb0 : b ≠ 0) (hin : vp_in i n) {q0 : Nat} (hq0 : mR u p0 i.toNatClampNeg = some q0) (kk : mK u q0 = b → mZ X u (pc + 1) lv (.ref (G.1 + q0) :: rest)) : mZ X u pc lv (.int i :: .ref (G.1 + p0) :: rest) := by
  obtain ⟨p, l, e, R, s, m, args, below, meth, c0, G', u1, nL, Q⟩ := X
  obtain ⟨rfl, rfl, hmn, hx, hb, hml, hown, hts, hlk, hrt, hfr, hlo, hrc, hrs, hU, hW0, hQ⟩ := F
  intro H locs ls h1 h2 h3 h4 h5 hl
  have hcell := mcell_arrR (G := G') hk hi (by decide) hb0
  have hP : va_P G'.2.1 mCl [(G'.1 + p0, .inl (G'.2.2.1 4, n, .inr (.inr (.inr (.inr (fun i => (mR u p0 i).map (fun r => G'.1 + r)))))))] H := fun j q hq => by
    have hj : j = 0 := by have := (List.getElem?_eq_some_iff.mp hq).1; simp at this; exact this
    subst hj
    cases hq
    exact h1.2.2.2.1 p0 _ hcell
  have hfk : mfk (mK u p0) i.toNatClampNeg = b := by simp only [mfk, hk, hi]
  have hkq : mK u q0 = b := by rw [← hfk]; exact h1.2.2.2.2 p0 _ q0 (by rw [hfk]; exact hb0) hq0
  have hk2 := kk hkq H locs ls h1 h2 h3 h4 h5 hl
  refine va_aldq (D := G'.2.1) (C := "RoomMapper$Sheet") hx hb hU.1 hP 0 4 rfl rfl hin d ?_
  simp only [hq0, Option.map_some, va_rf]
  exact hk2
/-- the same where it may be null -/
theorem mz_aald4q {X : mCx} {G : mG} {cc : ByteArray} {Ts : List Cond} {own mn : String} {fr lo : Nat} {ret : Option FieldType} {u0 : mSt} {P : Option Value → mSt → Prop} {u : mSt} {pc : Nat} {lv : List (Nat × Value)} {rest : List Value} {p0 c n b : Nat} {i : Int32} (F : mFx X G cc Ts own mn fr lo ret u0 P) (d : decode cc pc = .ok (.aaload, 1)) (hk : mK u p0 = c) (hi : mKi c = some (.inr (4, n, b))) (hb0 : b ≠ 0) (hin : vp_in i n) (kk : mZ X u (pc + 1) lv (mrf G.1 (mR u p0 i.toNatClampNeg) :: rest)) : mZ X u pc lv (.int i :: .ref (G.1 + p0) :: rest) := by
  obtain ⟨p, l, e, R, s, m, args, below, meth, c0, G', u1, nL, Q⟩ := X
  obtain ⟨rfl, rfl, hmn, hx, hb, hml, hown, hts, hlk, hrt, hfr, hlo, hrc, hrs, hU, hW0, hQ⟩ := F
  intro H locs ls h1 h2 h3 h4 h5 hl
  have hcell := mcell_arrR (G := G') hk hi (by decide) hb0
  have hP : va_P G'.2.1 mCl [(G'.1 + p0, .inl (G'.2.2.1 4, n, .inr (.inr (.inr (.inr (fun i => (mR u p0 i).map (fun r => G'.1 + r)))))))] H := fun j q hq => by
    have hj : j = 0 := by have := (List.getElem?_eq_some_iff.mp hq).1; simp at this; exact this
    subst hj
    cases hq
    exact h1.2.2.2.1 p0 _ hcell
  have hk2 := kk H locs ls h1 h2 h3 h4 h5 hl
  refine va_aldq (D := G'.2.1) (C := "RoomMapper$Sheet") hx hb hU.1 hP 0 4 rfl rfl hin d ?_
  rw [← mrf_va]
  exact hk2
theorem mz_aald5 {X : mCx} {G : mG} {cc : ByteArray} {Ts : List Cond} {own mn : String} {fr lo : Nat} {ret : Option FieldType} {u0 : mSt} {P : Option Value → mSt → Prop} {u : mSt} {pc : Nat} {lv : List (Nat × Value)} {rest : List Value} {p0 c n b : Nat} {i : Int32} (F : mFx X G cc Ts own mn fr lo ret u0 P) (d : decode cc pc = .ok (.aaload, 1)) (hk : mK u p0 = c) (hi : mKi c = some (.inr (5, n, b))) (hb0 : b ≠ 0) (hin : vp_in i n) {q0 : Nat} (hq0 : mR u p0 i.toNatClampNeg = some q0) (kk : mK u q0 = b → mZ X u (pc + 1) lv (.ref (G.1 + q0) :: rest)) : mZ X u pc lv (.int i :: .ref (G.1 + p0) :: rest) := by
  obtain ⟨p, l, e, R, s, m, args, below, meth, c0, G', u1, nL, Q⟩ := X
  obtain ⟨rfl, rfl, hmn, hx, hb, hml, hown, hts, hlk, hrt, hfr, hlo, hrc, hrs, hU, hW0, hQ⟩ := F
  intro H locs ls h1 h2 h3 h4 h5 hl
  have hcell := mcell_arrR (G := G') hk hi (by decide) hb0
  have hP : va_P G'.2.1 mCl [(G'.1 + p0, .inl (G'.2.2.1 5, n, .inr (.inr (.inr (.inr (fun i => (mR u p0 i).map (fun r => G'.1 + r)))))))] H := fun j q hq => by
    have hj : j = 0 := by have := (List.getElem?_eq_some_iff.mp hq).1; simp at this; exact this
    subst hj
    cases hq
    exact h1.2.2.2.1 p0 _ hcell
  have hfk : mfk (mK u p0) i.toNatClampNeg = b := by simp only [mfk, hk, hi]
  have hkq : mK u q0 = b := by rw [← hfk]; exact h1.2.2.2.2 p0 _ q0 (by rw [hfk]; exact hb0) hq0
  have hk2 := kk hkq H locs ls h1 h2 h3 h4 h5 hl
  refine va_aldq (D := G'.2.1) (C := "RoomMapper$Shelf") hx hb hU.1 hP 0 5 rfl rfl hin d ?_
  simp only [hq0, Option.map_some, va_rf]
  exact hk2
/-- the same where it may be null -/
theorem mz_aald5q {X : mCx} {G : mG} {cc : ByteArray} {Ts : List Cond} {own mn : String} {fr lo : Nat} {ret : Option FieldType} {u0 : mSt} {P : Option Value → mSt → Prop} {u : mSt} {pc : Nat} {lv : List (Nat × Value)} {rest : List Value} {p0 c n b : Nat} {i : Int32} (F : mFx X G cc Ts own mn fr lo ret u0 P) (d : decode cc pc = .ok (.aaload, 1)) (hk : mK u p0 = c) (hi : mKi c = some (.inr (5, n, b))) (hb0 : b ≠ 0) (hin : vp_in i n) (kk : mZ X u (pc + 1) lv (mrf G.1 (mR u p0 i.toNatClampNeg) :: rest)) : mZ X u pc lv (.int i :: .ref (G.1 + p0) :: rest) := by
  obtain ⟨p, l, e, R, s, m, args, below, meth, c0, G', u1, nL, Q⟩ := X
  obtain ⟨rfl, rfl, hmn, hx, hb, hml, hown, hts, hlk, hrt, hfr, hlo, hrc, hrs, hU, hW0, hQ⟩ := F
  intro H locs ls h1 h2 h3 h4 h5 hl
  have hcell := mcell_arrR (G := G') hk hi (by decide) hb0
  have hP : va_P G'.2.1 mCl [(G'.1 + p0, .inl (G'.2.2.1 5, n, .inr (.inr (.inr (.inr (fun i => (mR u p0 i).map (fun r => G'.1 + r)))))))] H := fun j q hq => by
    have hj : j = 0 := by have := (List.getElem?_eq_some_iff.mp hq).1; simp at this; exact this
    subst hj
    cases hq
    exact h1.2.2.2.1 p0 _ hcell
  have hk2 := kk H locs ls h1 h2 h3 h4 h5 hl
  refine va_aldq (D := G'.2.1) (C := "RoomMapper$Shelf") hx hb hU.1 hP 0 5 rfl rfl hin d ?_
  rw [← mrf_va]
  exact hk2
theorem mz_iast {X : mCx} {G : mG} {cc : ByteArray} {Ts : List Cond} {own mn : String} {fr lo : Nat} {ret : Option FieldType} {u0 : mSt} {P : Option Value → mSt → Prop} {u : mSt} {pc : Nat} {lv : List (Nat × Value)} {rest : List Value} {p0 c n : Nat} {i x : Int32} (F : mFx X G cc Ts own mn fr lo ret u0 P) (d : decode cc pc = .ok (.iastore, 1)) (hk : mK u p0 = c) (hi : mKi c = some (.inr (0, n, 0))) (hin : vp_in i n) (kk : ∀ w, w = mpI u p0 i.toNatClampNeg x → mEx u w → mZ X w (pc + 1) lv rest) : mZ X u pc lv (.int x :: .int i :: .ref (G.1 + p0) :: rest) := by
  obtain ⟨p, l, e, R, s, m, args, below, meth, c0, G', u1, nL, Q⟩ := X
  obtain ⟨rfl, rfl, hmn, hx, hb, hml, hown, hts, hlk, hrt, hfr, hlo, hrc, hrs, hU, hW0, hQ⟩ := F
  intro H locs ls h1 h2 h3 h4 h5 hl
  have hcell : H[G'.1 + p0]? = some (vp_cell (G'.2.2.1 0) (n, .inl (mI u p0))) := h1.2.2.2.1 p0 _ (mcell_arrI (G := G') hk hi (by decide))
  refine W.iast hx hb hcell ((hU.1.2 0 _ rfl).1 n (fun j => .int (mI u p0 j))) (fun q => by cases q) (by show ¬ (i < 0 ∨ (arrV _ _ _).slots.size ≤ _); rw [arrV_size]; exact hin) rfl rfl d fun H1 e z oq => ?_
  have hWd := h1.putAI hk hi (by decide) (x := x) (by exact e) z oq
  have hts' : mtot H1 = mtot H := by rw [hWd.1.2.1, h1.1.2.1]; rfl
  refine mrecount ?_
  exact kk _ rfl ((mEx.refl u).of rfl rfl rfl) H1 _ ls hWd (by rw [z]; exact h2) (by rw [hts']; exact h3) (fun q hq => by
      rcases List.mem_append.mp hq with hq | hq
      · exact h4 q hq
      · rw [List.mem_singleton.mp hq]; exact Nat.le_add_right _ _) (h5.of rfl rfl rfl) hl
theorem mz_zast {X : mCx} {G : mG} {cc : ByteArray} {Ts : List Cond} {own mn : String} {fr lo : Nat} {ret : Option FieldType} {u0 : mSt} {P : Option Value → mSt → Prop} {u : mSt} {pc : Nat} {lv : List (Nat × Value)} {rest : List Value} {p0 c n : Nat} {i x : Int32} (F : mFx X G cc Ts own mn fr lo ret u0 P) (d : decode cc pc = .ok (.bastore, 1)) (hk : mK u p0 = c) (hi : mKi c = some (.inr (1, n, 0))) (hin : vp_in i n) (kk : ∀ w, w = mpI u p0 i.toNatClampNeg (vp_nar .boolean x) → mEx u w → mZ X w (pc + 1) lv rest) : mZ X u pc lv (.int x :: .int i :: .ref (G.1 + p0) :: rest) := by
  obtain ⟨p, l, e, R, s, m, args, below, meth, c0, G', u1, nL, Q⟩ := X
  obtain ⟨rfl, rfl, hmn, hx, hb, hml, hown, hts, hlk, hrt, hfr, hlo, hrc, hrs, hU, hW0, hQ⟩ := F
  intro H locs ls h1 h2 h3 h4 h5 hl
  have hcell : H[G'.1 + p0]? = some (vp_cell (G'.2.2.1 1) (n, .inl (mI u p0))) := h1.2.2.2.1 p0 _ (mcell_arrI (G := G') hk hi (by decide))
  refine W.zast hx hb hcell ((hU.1.2 1 _ rfl).1 n (fun j => .int (mI u p0 j))) (fun q => by cases q) (by show ¬ (i < 0 ∨ (arrV _ _ _).slots.size ≤ _); rw [arrV_size]; exact hin) rfl rfl d fun H1 e z oq => ?_
  have hWd := h1.putAI hk hi (by decide) (x := (vp_nar .boolean x)) (by exact e) z oq
  have hts' : mtot H1 = mtot H := by rw [hWd.1.2.1, h1.1.2.1]; rfl
  refine mrecount ?_
  exact kk _ rfl ((mEx.refl u).of rfl rfl rfl) H1 _ ls hWd (by rw [z]; exact h2) (by rw [hts']; exact h3) (fun q hq => by
      rcases List.mem_append.mp hq with hq | hq
      · exact h4 q hq
      · rw [List.mem_singleton.mp hq]; exact Nat.le_add_right _ _) (h5.of rfl rfl rfl) hl
theorem mz_bast {X : mCx} {G : mG} {cc : ByteArray} {Ts : List Cond} {own mn : String} {fr lo : Nat} {ret : Option FieldType} {u0 : mSt} {P : Option Value → mSt → Prop} {u : mSt} {pc : Nat} {lv : List (Nat × Value)} {rest : List Value} {p0 c n : Nat} {i x : Int32} (F : mFx X G cc Ts own mn fr lo ret u0 P) (d : decode cc pc = .ok (.bastore, 1)) (hk : mK u p0 = c) (hi : mKi c = some (.inr (2, n, 0))) (hin : vp_in i n) (kk : ∀ w, w = mpI u p0 i.toNatClampNeg (vp_nar .byte x) → mEx u w → mZ X w (pc + 1) lv rest) : mZ X u pc lv (.int x :: .int i :: .ref (G.1 + p0) :: rest) := by
  obtain ⟨p, l, e, R, s, m, args, below, meth, c0, G', u1, nL, Q⟩ := X
  obtain ⟨rfl, rfl, hmn, hx, hb, hml, hown, hts, hlk, hrt, hfr, hlo, hrc, hrs, hU, hW0, hQ⟩ := F
  intro H locs ls h1 h2 h3 h4 h5 hl
  have hcell : H[G'.1 + p0]? = some (vp_cell (G'.2.2.1 2) (n, .inl (mI u p0))) := h1.2.2.2.1 p0 _ (mcell_arrI (G := G') hk hi (by decide))
  refine W.bast hx hb hcell ((hU.1.2 2 _ rfl).1 n (fun j => .int (mI u p0 j))) (fun q => by cases q) (by show ¬ (i < 0 ∨ (arrV _ _ _).slots.size ≤ _); rw [arrV_size]; exact hin) rfl rfl d fun H1 e z oq => ?_
  have hWd := h1.putAI hk hi (by decide) (x := (vp_nar .byte x)) (by exact e) z oq
  have hts' : mtot H1 = mtot H := by rw [hWd.1.2.1, h1.1.2.1]; rfl
  refine mrecount ?_
  exact kk _ rfl ((mEx.refl u).of rfl rfl rfl) H1 _ ls hWd (by rw [z]; exact h2) (by rw [hts']; exact h3) (fun q hq => by
      rcases List.mem_append.mp hq with hq | hq
      · exact h4 q hq
      · rw [List.mem_singleton.mp hq]; exact Nat.le_add_right _ _) (h5.of rfl rfl rfl) hl
theorem mz_last {X : mCx} {G : mG} {cc : ByteArray} {Ts : List Cond} {own mn : String} {fr lo : Nat} {ret : Option FieldType} {u0 : mSt} {P : Option Value → mSt → Prop} {u : mSt} {pc : Nat} {lv : List (Nat × Value)} {rest : List Value} {p0 c n b : Nat} {i : Int32} {x : Int64} (F : mFx X G cc Ts own mn fr lo ret u0 P) (d : decode cc pc = .ok (.lastore, 1)) (hk : mK u p0 = c) (hi : mKi c = some (.inr (3, n, b))) (hin : vp_in i n) (kk : ∀ w, w = mpL u p0 i.toNatClampNeg x → mEx u w → mZ X w (pc + 1) lv rest) : mZ X u pc lv (.long x :: .int i :: .ref (G.1 + p0) :: rest) := by
  obtain ⟨p, l, e, R, s, m, args, below, meth, c0, G', u1, nL, Q⟩ := X
  obtain ⟨rfl, rfl, hmn, hx, hb, hml, hown, hts, hlk, hrt, hfr, hlo, hrc, hrs, hU, hW0, hQ⟩ := F
  intro H locs ls h1 h2 h3 h4 h5 hl
  have hcell : H[G'.1 + p0]? = some (vp_cell (G'.2.2.1 3) (n, .inr (.inl (mL u p0)))) := h1.2.2.2.1 p0 _ (mcell_arrL (G := G') hk hi)
  refine W.last hx hb hcell ((hU.1.2 3 _ rfl).1 n (fun j => .long (mL u p0 j))) (fun q => by cases q) (by show ¬ (i < 0 ∨ (arrV _ _ _).slots.size ≤ _); rw [arrV_size]; exact hin) rfl rfl d fun H1 e z oq => ?_
  have hWd := h1.putAL hk hi (by exact e) z oq
  have hts' : mtot H1 = mtot H := by rw [hWd.1.2.1, h1.1.2.1]; rfl
  refine mrecount ?_
  exact kk _ rfl ((mEx.refl u).of rfl rfl rfl) H1 _ ls hWd (by rw [z]; exact h2) (by rw [hts']; exact h3) (fun q hq => by
      rcases List.mem_append.mp hq with hq | hq
      · exact h4 q hq
      · rw [List.mem_singleton.mp hq]; exact Nat.le_add_right _ _) (h5.of rfl rfl rfl) hl
