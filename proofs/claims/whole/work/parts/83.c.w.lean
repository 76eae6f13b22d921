/-! METHODS THAT MAY THROW: the same rows, whatever the end is -/
def mFw (X : mCx) (G : mG) (cc : ByteArray) (Ts : List Cond) (own mn : String) (fr lo : Nat) (ret : Option FieldType) (u0 : mSt) (P : Option Value → mSt → Prop) : Prop := match X with
  | (p, l, e, R, s, m, args, below, meth, c, G', u1, nL, Q) =>
    G' = G ∧ u1 = u0 ∧ meth.name = mn ∧ p.tables.exec = Jvm.exec ∧ c.code = cc ∧ c.maxLocals = nL ∧ s.vm.findClass own = some m.cls ∧ (∀ w ∈ Ts, w.before args s = true) ∧ meth.locks = false ∧ meth.sig.returnType = ret ∧ R.frames = fr ∧ R.locals = lo ∧ R.cells = mCapC - mN u0 ∧ R.slots = mCapS - mT u0 ∧
    mU G s ∧ mWd G u0 s.heap ∧ (P = P)
/-- what a throw leaves: its class, and junk -/
def mXc (G : mG) (u : mSt) (XP : String → Prop) : String → State → State → Prop := fun E _ t => XP E ∧ ∃ k z, k ≤ 1 ∧ z ≤ 6 ∧ mWd G (mjk u k z) t.heap
def mQx (X : mCx) (G : mG) (u0 : mSt) (P : Option Value → mSt → Prop) (XP : String → Prop) : Prop := match X with
  | (p, l, e, R, s, m, args, below, meth, c, G', u1, nL, Q) => Q = vx_MQ below (mQc G u0 P) (mXc G u0 XP) args s (mCapC - mN u0) (mCapS - mT u0) (fun q => G.1 ≤ q)
def mNt (X : mCx) : Prop := match X with
  | (p, l, e, R, s, m, args, below, meth, c, G', u1, nL, Q) => ∀ x ∈ c.exceptionTable.toList, False
def mXt (l : Launch) (G : mG) (y : MethodName) (ws : List Cond) (fr lo : Nat) (av : List Value) (u : mSt) (P : Option Value → mSt → Prop) (XP : String → Prop) : Prop :=
  vx_Met l y ws { frames := fr, cells := mCapC - mN u, slots := mCapS - mT u, locals := lo } (fun v U => v = av.toArray ∧ mWd G u U.heap ∧ mU G U) (mQc G u P) (mXc G u XP) (mCapC - mN u) (mCapS - mT u) (fun q => G.1 ≤ q)
theorem mXt.of {l : Launch} {G : mG} {y : MethodName} {ws ws' : List Cond} {fr lo : Nat} {av : List Value} {u : mSt} {P : Option Value → mSt → Prop} {XP : String → Prop} {cc : ByteArray} {maxL : Nat} {ret : Option FieldType} (hy : plainName y.cls = true) (hw : ws = Cond.code y cc maxL ret :: ws') (hlen : (lg_sl av).length ≤ maxL)
    (body : ∀ X : mCx, X.2.1 = l → X.2.2.2.2.2.2.2.2.2.2.2.2.1 = maxL → mFw X G cc ws y.cls y.name fr lo ret u P → mQx X G u P XP → mNt X → mZ X u 0 (lv_args 0 av) []) : mXt l G y ws fr lo av u P XP := by
  refine vx_ofW hy hw ?_
  intro p e s m args below meth c s₁ B hml ht hv
  obtain ⟨rfl, hWd, hU⟩ := hv
  have hb := body (p, l, e, ({ frames := fr, cells := mCapC - mN u, slots := mCapS - mT u, locals := lo } : Room), s, m, av.toArray, below, meth, c, G, u, maxL, _) rfl rfl ⟨rfl, rfl, (name_of_methodNamed B.named B.method).1, B.exec, B.bytes, hml, findClass_of_methodNamed B.named, atoms_spec (ws := ws) B.pre, B.notSynchronized, B.returns, rfl, rfl, rfl, rfl, hU, hWd, rfl⟩ rfl ht
  have hl := lv_entry av (n := maxL) hlen
  rw [lg_entry_eq]
  have h := hb s.heap [] _ hWd (Nat.le_refl _) (Nat.le_refl _) (by simp) (mEx.refl u) hl
  rw [Nat.sub_self, Nat.sub_self] at h
  exact h
theorem mw_vret {X : mCx} {G : mG} {cc : ByteArray} {Ts : List Cond} {own mn : String} {fr lo : Nat} {u0 : mSt} {P : Option Value → mSt → Prop} {XP : String → Prop} {u : mSt} {pc : Nat} {lv : List (Nat × Value)} (F : mFw X G cc Ts own mn fr lo none u0 P) (hq : mQx X G u0 P XP) (d : decode cc pc = .ok (.return_, 1)) (h : P none u) : mZ X u pc lv [] := by
  obtain ⟨p, l, e, R, s, m, args, below, meth, c0, G', u1, nL, Q⟩ := X
  obtain ⟨rfl, rfl, hmn, hx, hb, hml, hown, hts, hlk, hrt, hfr, hlo, hrc, hrs, hU, hW0, -⟩ := F
  have hQ : Q = _ := hq
  intro H locs ls h1 h2 h3 h4 h5 hl
  subst hQ
  have hz := h1.1
  have hz0 := hW0.1
  refine vx_ret ?_
  refine W.widen (k := mCapC - mN u1) (n := mCapS - mT u1) (by omega) (by omega) ?_
  exact W.vret hx hb hrt (fun t ht _ => ⟨_, u, rfl, h, h5, by rw [ht]; exact h1⟩) h4 d hlk
theorem mw_lret {X : mCx} {G : mG} {cc : ByteArray} {Ts : List Cond} {own mn : String} {fr lo : Nat} {u0 : mSt} {P : Option Value → mSt → Prop} {XP : String → Prop} {u : mSt} {pc : Nat} {lv : List (Nat × Value)} {v : Int64} (F : mFw X G cc Ts own mn fr lo (some .long) u0 P) (hq : mQx X G u0 P XP) (d : decode cc pc = .ok (.lreturn, 1)) (h : P (some (.long v)) u) : mZ X u pc lv [.long v] := by
  obtain ⟨p, l, e, R, s, m, args, below, meth, c0, G', u1, nL, Q⟩ := X
  obtain ⟨rfl, rfl, hmn, hx, hb, hml, hown, hts, hlk, hrt, hfr, hlo, hrc, hrs, hU, hW0, -⟩ := F
  have hQ : Q = _ := hq
  intro H locs ls h1 h2 h3 h4 h5 hl
  subst hQ
  have hz := h1.1
  have hz0 := hW0.1
  refine vx_ret ?_
  refine W.widen (k := mCapC - mN u1) (n := mCapS - mT u1) (by omega) (by omega) ?_
  exact W.lret hx hb hrt (fun t ht _ => ⟨_, u, rfl, h, h5, by rw [ht]; exact h1⟩) h4 d hlk
/-- junk behind the world -/
theorem mWd.jk {G : mG} {u : mSt} {H H1 : Heap} (h : mWd G u H) (z : H.size ≤ H1.size) (hs : ∀ q : Nat, q < H.size → H1[q]? = H[q]?) (z1 : H1.size ≤ H.size + 1) (z6 : mtot H1 ≤ mtot H + 6) (hr : mN u + 1 ≤ mCapC ∧ mT u + 6 ≤ mCapS) : ∃ k zz, k ≤ 1 ∧ zz ≤ 6 ∧ mWd G (mjk u k zz) H1 := by
  obtain ⟨⟨a1, a2, a3, a4⟩, b, c, d, e⟩ := h
  have hm := vy_ext z hs
  have eN : ∀ k zz, mN (mjk u k zz) = mN u + k := fun _ _ => rfl
  have eT : ∀ k zz, mT (mjk u k zz) = mT u + zz := fun _ _ => rfl
  refine ⟨H1.size - H.size, mtot H1 - mtot H, by omega, by omega, ⟨by rw [eN]; omega, by rw [eT]; omega, by rw [eN]; omega, by rw [eT]; omega⟩, fun q hq => by rw [hs q (by omega)]; exact b q hq, fun p hp => by rw [eN]; have := c p hp; omega, fun p e9 he => ?_, e⟩
  have h9 := d p e9 he
  exact h9.kept (hs _ h9.lt)
theorem mw_iload_n {X : mCx} {G : mG} {cc : ByteArray} {Ts : List Cond} {own mn : String} {fr lo : Nat} {ret : Option FieldType} {u0 : mSt} {P : Option Value → mSt → Prop} {u : mSt} {pc : Nat} {lv : List (Nat × Value)} {rest : List Value} {n : Fin 4} {i : Nat} {x : Int32} (F : mFw X G cc Ts own mn fr lo ret u0 P) (d : decode cc pc = .ok (.iload_n n, 1)) (hi : (n : Nat) = i) (j : Nat) (hj : lv[j]? = some (i, .int x)) (k : mZ X u (pc + 1) lv (.int x :: rest)) : mZ X u pc lv (rest) := by
  obtain ⟨p, l, e, R, s, m, args, below, meth, c, G', u1, nL, Q⟩ := X
  obtain ⟨rfl, rfl, hmn, hx, hb, hml, hown, hts, hlk, hrt, hfr, hlo, hrc, hrs, hU, hW0, hQ⟩ := F
  intro H locs ls h1 h2 h3 h4 h5 hl
  exact lv_iload_n hx hb d hi (lv_at hl j hj) (k H locs ls h1 h2 h3 h4 h5 hl)
theorem mw_bipush {X : mCx} {G : mG} {cc : ByteArray} {Ts : List Cond} {own mn : String} {fr lo : Nat} {ret : Option FieldType} {u0 : mSt} {P : Option Value → mSt → Prop} {u : mSt} {pc : Nat} {lv : List (Nat × Value)} {rest : List Value} {n : Int} {v : Int32} (F : mFw X G cc Ts own mn fr lo ret u0 P) (d : decode cc pc = .ok (.bipush n, 2)) (hv : (Int8.ofInt n).toInt32 = v) (k : mZ X u (pc + 2) lv (.int v :: rest)) : mZ X u pc lv (rest) := by
  obtain ⟨p, l, e, R, s, m, args, below, meth, c, G', u1, nL, Q⟩ := X
  obtain ⟨rfl, rfl, hmn, hx, hb, hml, hown, hts, hlk, hrt, hfr, hlo, hrc, hrs, hU, hW0, hQ⟩ := F
  intro H locs ls h1 h2 h3 h4 h5 hl
  exact lv_bipush hx hb d hv (k H locs ls h1 h2 h3 h4 h5 hl)
theorem mw_callS {X : mCx} {G : mG} {cc : ByteArray} {Ts : List Cond} {own mn : String} {fr lo : Nat} {ret : Option FieldType} {u0 : mSt} {P : Option Value → mSt → Prop} {u : mSt} {pc : Nat} {lv : List (Nat × Value)} {rest : List Value} {y : MethodName} {ws ws' : List Cond} {fr2 lo2 maxL2 n index : Nat} {cc2 : ByteArray} {ret2 : Option FieldType} {As : List Value} {P2 : Option Value → mSt → Prop}  (F : mFw X G cc Ts own mn fr lo ret u0 P) (d : decode cc pc = .ok (.invokestatic index, 3)) (hw : ws = Cond.code y cc2 maxL2 ret2 :: ws') (hg : GoodIn Ts (va_wsS own index y ws)) (hd : y.cls ≠ "java/lang/invoke/MethodHandle" ∧ y.cls ≠ "java/lang/invoke/VarHandle" ∧ (parseMethodDescriptor y.desc).map (fun d => d.parameters.length) = some n) (hR : fr2 + 1 ≤ fr ∧ 8 + (maxL2 + 11) + lo2 ≤ lo) (hn : As.length = n) (hcat : (rest.map fun v => v.category).sum ≤ 8) (hM : mCt X.2.1 G y ws fr2 lo2 (As) u P2) (kk : ∀ v u2, P2 v u2 → mEx u u2 → mZ X u2 (pc + 3) lv (v.toList ++ rest)) : mZ X u pc lv (As.reverse ++ rest) := by
  obtain ⟨p, l, e, R, s, m, args, below, meth, c0, G', u1, nL, Q⟩ := X
  obtain ⟨rfl, rfl, hmn, hx, hb, hml, hown, hts, hlk, hrt, hfr, hlo, hrc, hrs, hU, hW0, hQ⟩ := F
  intro H locs ls h1 h2 h3 h4 h5 hl
  have hM : mCt l G' y ws fr2 lo2 (As) u P2 := hM
  refine mz_back (va_runS (As := As) (rest := rest) ⟨hx, hb, hml, hown, hts⟩ hM (va_cwS n hts hg hw rfl rfl hd ⟨by rw [hfr]; exact hR.1, by rw [hlo]; exact hR.2⟩) ⟨mPc_blind _ _ _, fun U hU' hW => ⟨rfl, by rw [hU']; exact h1, hU.moved hW⟩⟩ rfl hn hl.1 rfl (lv_room hcat) d (by have := h1.1; have := hW0.1; rw [hrc, hrs]; omega)) h4 h5 hl kk
theorem mw_if_ne {X : mCx} {G : mG} {cc : ByteArray} {Ts : List Cond} {own mn : String} {fr lo : Nat} {ret : Option FieldType} {u0 : mSt} {P : Option Value → mSt → Prop} {u : mSt} {pc : Nat} {lv : List (Nat × Value)} {rest : List Value} {x : Int32} {off : Int} {tgt : Nat} (F : mFw X G cc Ts own mn fr lo ret u0 P) (d : decode cc pc = .ok (.ifCond .ne off, 3)) (ht : (pc : Int) + off = (tgt : Int)) (kt : ¬ x = 0 → mZ X u tgt lv rest) (kf : x = 0 → mZ X u (pc + 3) lv rest) : mZ X u pc lv (.int x :: rest) := by
  obtain ⟨p, l, e, R, s, m, args, below, meth, c, G', u1, nL, Q⟩ := X
  obtain ⟨rfl, rfl, hmn, hx, hb, hml, hown, hts, hlk, hrt, hfr, hlo, hrc, hrs, hU, hW0, hQ⟩ := F
  intro H locs ls h1 h2 h3 h4 h5 hl
  exact lv_if_ne hx hb d ht (fun q => kt q H locs ls h1 h2 h3 h4 h5 hl) (fun q => kf q H locs ls h1 h2 h3 h4 h5 hl)
theorem mw_if_eq {X : mCx} {G : mG} {cc : ByteArray} {Ts : List Cond} {own mn : String} {fr lo : Nat} {ret : Option FieldType} {u0 : mSt} {P : Option Value → mSt → Prop} {u : mSt} {pc : Nat} {lv : List (Nat × Value)} {rest : List Value} {x : Int32} {off : Int} {tgt : Nat} (F : mFw X G cc Ts own mn fr lo ret u0 P) (d : decode cc pc = .ok (.ifCond .eq off, 3)) (ht : (pc : Int) + off = (tgt : Int)) (kt : x = 0 → mZ X u tgt lv rest) (kf : ¬ x = 0 → mZ X u (pc + 3) lv rest) : mZ X u pc lv (.int x :: rest) := by
  obtain ⟨p, l, e, R, s, m, args, below, meth, c, G', u1, nL, Q⟩ := X
  obtain ⟨rfl, rfl, hmn, hx, hb, hml, hown, hts, hlk, hrt, hfr, hlo, hrc, hrs, hU, hW0, hQ⟩ := F
  intro H locs ls h1 h2 h3 h4 h5 hl
  exact lv_if_eq hx hb d ht (fun q => kt q H locs ls h1 h2 h3 h4 h5 hl) (fun q => kf q H locs ls h1 h2 h3 h4 h5 hl)
theorem mw_aload_n {X : mCx} {G : mG} {cc : ByteArray} {Ts : List Cond} {own mn : String} {fr lo : Nat} {ret : Option FieldType} {u0 : mSt} {P : Option Value → mSt → Prop} {u : mSt} {pc : Nat} {lv : List (Nat × Value)} {rest : List Value} {n : Fin 4} {i : Nat} {x : Nat} (F : mFw X G cc Ts own mn fr lo ret u0 P) (d : decode cc pc = .ok (.aload_n n, 1)) (hi : (n : Nat) = i) (j : Nat) (hj : lv[j]? = some (i, .ref x)) (k : mZ X u (pc + 1) lv (.ref x :: rest)) : mZ X u pc lv (rest) := by
  obtain ⟨p, l, e, R, s, m, args, below, meth, c, G', u1, nL, Q⟩ := X
  obtain ⟨rfl, rfl, hmn, hx, hb, hml, hown, hts, hlk, hrt, hfr, hlo, hrc, hrs, hU, hW0, hQ⟩ := F
  intro H locs ls h1 h2 h3 h4 h5 hl
  exact lv_aload_n hx hb d hi (lv_at hl j hj) (k H locs ls h1 h2 h3 h4 h5 hl)
theorem mw_getR {X : mCx} {G : mG} {cc : ByteArray} {Ts : List Cond} {own mn : String} {fr lo : Nat} {ret : Option FieldType} {u0 : mSt} {P : Option Value → mSt → Prop} {u : mSt} {pc : Nat} {lv : List (Nat × Value)} {rest : List Value} {p0 c k b index : Nat} {ty : FieldType} {fin : Bool} (F : mFw X G cc Ts own mn fr lo ret u0 P) (d : decode cc pc = .ok (.getfield index, 3)) (f : mFld Ts own index c k b ty fin) (hb0 : b ≠ 0) (hk : mK u p0 = c) {q0 : Nat} (hq0 : mR u p0 k = some q0) (kk : mK u q0 = b → mZ X u (pc + 3) lv (.ref (G.1 + q0) :: rest)) : mZ X u pc lv (.ref (G.1 + p0) :: rest) := by
  obtain ⟨p, l, e, R, s, m, args, below, meth, c, G', u1, nL, Q⟩ := X
  obtain ⟨rfl, rfl, hmn, hx, hb, hml, hown, hts, hlk, hrt, hfr, hlo, hrc, hrs, hU, hW0, hQ⟩ := F
  intro H locs ls h1 h2 h3 h4 h5 hl
  obtain ⟨ci, bs, C, T, N, tys, f1, f2, f3, f4, f5, f6, f7, f8, f9, f10⟩ := f
  have hP : va_P G'.2.1 mCl [(G'.1 + p0, .inr (ci, mfv G'.1 (mI u p0) (mR u p0) bs 0))] H := fun j q hq => by
    have hj : j = 0 := by have := (List.getElem?_eq_some_iff.mp hq).1; simp at this; exact this
    subst hj
    cases hq
    exact h1.2.2.2.1 p0 _ (mcell_obj hk f1)
  have hv : (mfv G'.1 (mI u p0) (mR u p0) bs 0)[k]? = some (.ref (G'.1 + q0)) := by rw [mfv_get, f2]; simp [hb0, hq0, mrf]
  have hfk : mfk (mK u p0) k = b := by simp only [mfk, hk, f1]; rw [f2]; rfl
  have hkq : mK u q0 = b := by rw [← hfk]; exact h1.2.2.2.2 p0 k q0 (by rw [hfk]; exact hb0) hq0
  rcases f10 with ⟨f10, -⟩ | ⟨host, f10⟩
  · exact va_get (D := G'.2.1) (ci := ci) (C := C) (T := T) (N := N) hx hb hts f5 hown hU.1 hP 0 rfl f3 k f4 (hts _ f10) (fun _ h => h) hv d (kk hkq H locs ls h1 h2 h3 h4 h5 hl)
  · exact va_getN (D := G'.2.1) (ci := ci) (C := C) (T := T) (N := N) hx hb hts f5 hown hU.1 hP 0 rfl f3 k f4 (va_Nw.use rfl (hU.2.1 _ f10 rfl)) (fun _ h => h) hv d (kk hkq H locs ls h1 h2 h3 h4 h5 hl)
theorem mw_getI {X : mCx} {G : mG} {cc : ByteArray} {Ts : List Cond} {own mn : String} {fr lo : Nat} {ret : Option FieldType} {u0 : mSt} {P : Option Value → mSt → Prop} {u : mSt} {pc : Nat} {lv : List (Nat × Value)} {rest : List Value} {p0 c k index : Nat} {ty : FieldType} {fin : Bool} (F : mFw X G cc Ts own mn fr lo ret u0 P) (d : decode cc pc = .ok (.getfield index, 3)) (f : mFld Ts own index c k 0 ty fin) (hk : mK u p0 = c) (kk : mZ X u (pc + 3) lv (.int (mI u p0 k) :: rest)) : mZ X u pc lv (.ref (G.1 + p0) :: rest) := by
  obtain ⟨p, l, e, R, s, m, args, below, meth, c, G', u1, nL, Q⟩ := X
  obtain ⟨rfl, rfl, hmn, hx, hb, hml, hown, hts, hlk, hrt, hfr, hlo, hrc, hrs, hU, hW0, hQ⟩ := F
  intro H locs ls h1 h2 h3 h4 h5 hl
  obtain ⟨ci, bs, C, T, N, tys, f1, f2, f3, f4, f5, f6, f7, f8, f9, f10⟩ := f
  have hP : va_P G'.2.1 mCl [(G'.1 + p0, .inr (ci, mfv G'.1 (mI u p0) (mR u p0) bs 0))] H := fun j q hq => by
    have hj : j = 0 := by have := (List.getElem?_eq_some_iff.mp hq).1; simp at this; exact this
    subst hj
    cases hq
    exact h1.2.2.2.1 p0 _ (mcell_obj hk f1)
  have hv : (mfv G'.1 (mI u p0) (mR u p0) bs 0)[k]? = some (.int (mI u p0 k)) := by rw [mfv_get, f2]; simp
  rcases f10 with ⟨f10, -⟩ | ⟨host, f10⟩
  · exact va_get (D := G'.2.1) (ci := ci) (C := C) (T := T) (N := N) hx hb hts f5 hown hU.1 hP 0 rfl f3 k f4 (hts _ f10) (fun _ h => h) hv d (kk H locs ls h1 h2 h3 h4 h5 hl)
  · exact va_getN (D := G'.2.1) (ci := ci) (C := C) (T := T) (N := N) hx hb hts f5 hown hU.1 hP 0 rfl f3 k f4 (va_Nw.use rfl (hU.2.1 _ f10 rfl)) (fun _ h => h) hv d (kk H locs ls h1 h2 h3 h4 h5 hl)
theorem mw_aald5 {X : mCx} {G : mG} {cc : ByteArray} {Ts : List Cond} {own mn : String} {fr lo : Nat} {ret : Option FieldType} {u0 : mSt} {P : Option Value → mSt → Prop} {u : mSt} {pc : Nat} {lv : List (Nat × Value)} {rest : List Value} {p0 c n b : Nat} {i : Int32} (F : mFw X G cc Ts own mn fr lo ret u0 P) (d : decode cc pc = .ok (.aaload, 1)) (hk : mK u p0 = c) (hi : mKi c = some (.inr (5, n, b))) (hb0 : b ≠ 0) (hin : vp_in i n) {q0 : Nat} (hq0 : mR u p0 i.toNatClampNeg = some q0) (kk : mK u q0 = b → mZ X u (pc + 1) lv (.ref (G.1 + q0) :: rest)) : mZ X u pc lv (.int i :: .ref (G.1 + p0) :: rest) := by
  obtain ⟨p, l, e, R, s, m, args, below, meth, c0, G', u1, nL, Q⟩ := X
  obtain ⟨rfl, rfl, hmn, hx, hb, hml, hown, hts, hlk, hrt, hfr, hlo, hrc, hrs, hU, hW0, hQ⟩ := F
  intro H locs ls h1 h2 h3 h4 h5 hl
  have hcell := mcell_arrR (G := G') hk hi (by decide) hb0
  have hP : va_P G'.2.1 mCl [(G'.1 + p0, .inl (G'.2.2.1 5, n, .inr (.inr (.inr (.inr (fun i => (mR u p0 i).map (fun r => G'.1 + r)))))))] H := fun j q hq => by
    have hj : j = 0 := by have := (List.getElem?_eq_some_iff.mp hq).1; simp at this; exact this
    subst hj
    cases hq
    exact h1.2.2.2.1 p0 _ hcell
  have hfk : mfk (mK u p0) i.toNatClampNeg = b := by simp only [mfk, hk, hi]
  have hkq : mK u q0 = b := by rw [← hfk]; exact h1.2.2.2.2 p0 _ q0 (by rw [hfk]; exact hb0) hq0
  have hk2 := kk hkq H locs ls h1 h2 h3 h4 h5 hl
  refine va_aldq (D := G'.2.1) (C := "RoomMapper$Shelf") hx hb hU.1 hP 0 5 rfl rfl hin d ?_
  simp only [hq0, Option.map_some, va_rf]
  exact hk2
theorem mw_astore_n {X : mCx} {G : mG} {cc : ByteArray} {Ts : List Cond} {own mn : String} {fr lo : Nat} {ret : Option FieldType} {u0 : mSt} {P : Option Value → mSt → Prop} {u : mSt} {pc : Nat} {lv : List (Nat × Value)} {rest : List Value} {n : Fin 4} {i : Nat} {x : Nat} {lv2 : List (Nat × Value)} (F : mFw X G cc Ts own mn fr lo ret u0 P) (d : decode cc pc = .ok (.astore_n n, 1)) (hi : (n : Nat) = i) {nl : Nat} (hN : X.2.2.2.2.2.2.2.2.2.2.2.2.1 = nl) (hn : i < nl) (hv : (i, Value.ref x) :: lv.filter (fun q => !(q.1 == i) && !(q.1 + 1 == i && q.2.category == 2)) = lv2) (k : mZ X u (pc + 1) lv2 rest) : mZ X u pc lv (.ref x :: rest) := by
  obtain ⟨p, l, e, R, s, m, args, below, meth, c, G', u1, nL, Q⟩ := X
  obtain ⟨rfl, rfl, hmn, hx, hb, hml, hown, hts, hlk, hrt, hfr, hlo, hrc, hrs, hU, hW0, hQ⟩ := F
  intro H locs ls h1 h2 h3 h4 h5 hl
  have hN : nL = nl := hN
  subst hN
  exact lv_astore_n hx hb d hi hl hn hv (fun ls' hl' => k H locs ls' h1 h2 h3 h4 h5 hl')
theorem mw_callVN {X : mCx} {G : mG} {cc : ByteArray} {Ts : List Cond} {own mn : String} {fr lo : Nat} {ret : Option FieldType} {u0 : mSt} {P : Option Value → mSt → Prop} {u : mSt} {pc : Nat} {lv : List (Nat × Value)} {rest : List Value} {y : MethodName} {ws ws' : List Cond} {fr2 lo2 maxL2 n index : Nat} {cc2 : ByteArray} {ret2 : Option FieldType} {As : List Value} {P2 : Option Value → mSt → Prop} {b0 c ci N : Nat} {bs : List Nat} {C : String} {T : u_T} {host : String} (F : mFw X G cc Ts own mn fr lo ret u0 P) (d : decode cc pc = .ok (.invokevirtual index, 3)) (hw : ws = Cond.code y cc2 maxL2 ret2 :: ws') (hkb : mK u b0 = c) (hi : mKi c = some (.inl (ci, bs))) (hcl : mCl[ci]? = some (C, T, N)) (hg : GoodIn Ts ws) (hnl : Cond.methodLinkNest own index y host ∈ tables_1) (hini : Cond.initialized y.cls ∈ Ts) (him : Cond.instanceMethod y ∈ Ts) (hse : Cond.selects C y y ∈ Ts) (hd : y.cls ≠ "java/lang/invoke/MethodHandle" ∧ y.cls ≠ "java/lang/invoke/VarHandle" ∧ (parseMethodDescriptor y.desc).map (fun d => d.parameters.length) = some n) (hR : fr2 + 1 ≤ fr ∧ 8 + (maxL2 + 11) + lo2 ≤ lo) (hn : As.length = n) (hcat : (rest.map fun v => v.category).sum ≤ 8) (hM : mCt X.2.1 G y ws fr2 lo2 (.ref (G.1 + b0) :: As) u P2) (kk : ∀ v u2, P2 v u2 → mEx u u2 → mZ X u2 (pc + 3) lv (v.toList ++ rest)) : mZ X u pc lv (As.reverse ++ .ref (G.1 + b0) :: rest) := by
  obtain ⟨p, l, e, R, s, m, args, below, meth, c0, G', u1, nL, Q⟩ := X
  obtain ⟨rfl, rfl, hmn, hx, hb, hml, hown, hts, hlk, hrt, hfr, hlo, hrc, hrs, hU, hW0, hQ⟩ := F
  intro H locs ls h1 h2 h3 h4 h5 hl
  have hM : mCt l G' y ws fr2 lo2 (.ref (G'.1 + b0) :: As) u P2 := hM
  refine mz_back (va_runVN (As := As) (rest := rest) ⟨hx, hb, hml, hown, hts⟩ hM (⟨va_cnB n hts hg hw rfl rfl (hU.2.1 _ hnl rfl) (hts _ hini) hd ⟨by rw [hfr]; exact hR.1, by rw [hlo]; exact hR.2⟩, hts _ him, hts _ hse⟩) ⟨mPc_blind _ _ _, (va_recv (D := G'.2.1) (ws := [(G'.1 + b0, .inr (ci, mfv G'.1 (mI u b0) (mR u b0) bs 0))]) hU.1 (fun j q hq => by
    have hj : j = 0 := by have := (List.getElem?_eq_some_iff.mp hq).1; simp at this; exact this
    subst hj
    cases hq
    exact h1.2.2.2.1 b0 _ (mcell_obj hkb hi)) (ci := ci) (q0 := 0) hcl rfl), fun U hU' hW => ⟨rfl, by rw [hU']; exact h1, hU.moved hW⟩⟩ rfl hn hl.1 rfl (lv_room hcat) d (by have := h1.1; have := hW0.1; rw [hrc, hrs]; omega)) h4 h5 hl kk
theorem mw_lald {X : mCx} {G : mG} {cc : ByteArray} {Ts : List Cond} {own mn : String} {fr lo : Nat} {ret : Option FieldType} {u0 : mSt} {P : Option Value → mSt → Prop} {u : mSt} {pc : Nat} {lv : List (Nat × Value)} {rest : List Value} {p0 c n b : Nat} {i : Int32} (F : mFw X G cc Ts own mn fr lo ret u0 P) (d : decode cc pc = .ok (.laload, 1)) (hk : mK u p0 = c) (hi : mKi c = some (.inr (3, n, b))) (hin : vp_in i n) (kk : mZ X u (pc + 1) lv (.long (mL u p0 i.toNatClampNeg) :: rest)) : mZ X u pc lv (.int i :: .ref (G.1 + p0) :: rest) := by
  obtain ⟨p, l, e, R, s, m, args, below, meth, c0, G', u1, nL, Q⟩ := X
  obtain ⟨rfl, rfl, hmn, hx, hb, hml, hown, hts, hlk, hrt, hfr, hlo, hrc, hrs, hU, hW0, hQ⟩ := F
  intro H locs ls h1 h2 h3 h4 h5 hl
  have hcell := mcell_arrL (G := G') hk hi
  have hP : va_P G'.2.1 mCl [(G'.1 + p0, .inl (G'.2.2.1 3, n, .inr (.inl (mL u p0))))] H := fun j q hq => by
    have hj : j = 0 := by have := (List.getElem?_eq_some_iff.mp hq).1; simp at this; exact this
    subst hj
    cases hq
    exact h1.2.2.2.1 p0 _ hcell
  exact va_lald (D := G'.2.1) hx hb hU.1 hP 0 3 rfl rfl hin d (kk H locs ls h1 h2 h3 h4 h5 hl)
