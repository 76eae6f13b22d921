theorem mz_iconst {X : mCx} {G : mG} {cc : ByteArray} {Ts : List Cond} {own mn : String} {fr lo : Nat} {ret : Option FieldType} {u0 : mSt} {P : Option Value → mSt → Prop} {u : mSt} {pc : Nat} {lv : List (Nat × Value)} {rest : List Value} {n : Int} {v : Int32} (F : mFx X G cc Ts own mn fr lo ret u0 P) (d : decode cc pc = .ok (.iconst n, 1)) (hv : Int32.ofInt n = v) (k : mZ X u (pc + 1) lv (.int v :: rest)) : mZ X u pc lv (rest) := by
  obtain ⟨p, l, e, R, s, m, args, below, meth, c, G', u1, nL, Q⟩ := X
  obtain ⟨rfl, rfl, hmn, hx, hb, hml, hown, hts, hlk, hrt, hfr, hlo, hrc, hrs, hU, hW0, hQ⟩ := F
  intro H locs ls h1 h2 h3 h4 h5 hl
  exact lv_iconst hx hb d hv (k H locs ls h1 h2 h3 h4 h5 hl)
theorem mz_bipush {X : mCx} {G : mG} {cc : ByteArray} {Ts : List Cond} {own mn : String} {fr lo : Nat} {ret : Option FieldType} {u0 : mSt} {P : Option Value → mSt → Prop} {u : mSt} {pc : Nat} {lv : List (Nat × Value)} {rest : List Value} {n : Int} {v : Int32} (F : mFx X G cc Ts own mn fr lo ret u0 P) (d : decode cc pc = .ok (.bipush n, 2)) (hv : (Int8.ofInt n).toInt32 = v) (k : mZ X u (pc + 2) lv (.int v :: rest)) : mZ X u pc lv (rest) := by
  obtain ⟨p, l, e, R, s, m, args, below, meth, c, G', u1, nL, Q⟩ := X
  obtain ⟨rfl, rfl, hmn, hx, hb, hml, hown, hts, hlk, hrt, hfr, hlo, hrc, hrs, hU, hW0, hQ⟩ := F
  intro H locs ls h1 h2 h3 h4 h5 hl
  exact lv_bipush hx hb d hv (k H locs ls h1 h2 h3 h4 h5 hl)
theorem mz_sipush {X : mCx} {G : mG} {cc : ByteArray} {Ts : List Cond} {own mn : String} {fr lo : Nat} {ret : Option FieldType} {u0 : mSt} {P : Option Value → mSt → Prop} {u : mSt} {pc : Nat} {lv : List (Nat × Value)} {rest : List Value} {n : Int} {v : Int32} (F : mFx X G cc Ts own mn fr lo ret u0 P) (d : decode cc pc = .ok (.sipush n, 3)) (hv : (Int16.ofInt n).toInt32 = v) (k : mZ X u (pc + 3) lv (.int v :: rest)) : mZ X u pc lv (rest) := by
  obtain ⟨p, l, e, R, s, m, args, below, meth, c, G', u1, nL, Q⟩ := X
  obtain ⟨rfl, rfl, hmn, hx, hb, hml, hown, hts, hlk, hrt, hfr, hlo, hrc, hrs, hU, hW0, hQ⟩ := F
  intro H locs ls h1 h2 h3 h4 h5 hl
  exact lv_sipush hx hb d hv (k H locs ls h1 h2 h3 h4 h5 hl)
theorem mz_lconst {X : mCx} {G : mG} {cc : ByteArray} {Ts : List Cond} {own mn : String} {fr lo : Nat} {ret : Option FieldType} {u0 : mSt} {P : Option Value → mSt → Prop} {u : mSt} {pc : Nat} {lv : List (Nat × Value)} {rest : List Value} {n : Fin 2} {v : Int64} (F : mFx X G cc Ts own mn fr lo ret u0 P) (d : decode cc pc = .ok (.lconst n, 1)) (hv : Int64.ofNat (n : Nat) = v) (k : mZ X u (pc + 1) lv (.long v :: rest)) : mZ X u pc lv (rest) := by
  obtain ⟨p, l, e, R, s, m, args, below, meth, c, G', u1, nL, Q⟩ := X
  obtain ⟨rfl, rfl, hmn, hx, hb, hml, hown, hts, hlk, hrt, hfr, hlo, hrc, hrs, hU, hW0, hQ⟩ := F
  intro H locs ls h1 h2 h3 h4 h5 hl
  exact lv_lconst hx hb d hv (k H locs ls h1 h2 h3 h4 h5 hl)
theorem mz_ldc2 {X : mCx} {G : mG} {cc : ByteArray} {Ts : List Cond} {own mn : String} {fr lo : Nat} {ret : Option FieldType} {u0 : mSt} {P : Option Value → mSt → Prop} {u : mSt} {pc : Nat} {lv : List (Nat × Value)} {rest : List Value} {index : Nat} {v : Int64} (F : mFx X G cc Ts own mn fr lo ret u0 P) (d : decode cc pc = .ok (.ldc2_w index, 3)) (hc : Cond.constantLong own index v ∈ Ts) (k : mZ X u (pc + 3) lv (.long v :: rest)) : mZ X u pc lv (rest) := by
  obtain ⟨p, l, e, R, s, m, args, below, meth, c, G', u1, nL, Q⟩ := X
  obtain ⟨rfl, rfl, hmn, hx, hb, hml, hown, hts, hlk, hrt, hfr, hlo, hrc, hrs, hU, hW0, hQ⟩ := F
  intro H locs ls h1 h2 h3 h4 h5 hl
  exact lv_ldc2 hx hb hown (hts _ hc) d (k H locs ls h1 h2 h3 h4 h5 hl)
theorem mz_ldc {X : mCx} {G : mG} {cc : ByteArray} {Ts : List Cond} {own mn : String} {fr lo : Nat} {ret : Option FieldType} {u0 : mSt} {P : Option Value → mSt → Prop} {u : mSt} {pc : Nat} {lv : List (Nat × Value)} {rest : List Value} {index : Nat} {v : Int32} (F : mFx X G cc Ts own mn fr lo ret u0 P) (d : decode cc pc = .ok (.ldc index, 2)) (hc : Cond.constant own index v ∈ Ts) (k : mZ X u (pc + 2) lv (.int v :: rest)) : mZ X u pc lv (rest) := by
  obtain ⟨p, l, e, R, s, m, args, below, meth, c, G', u1, nL, Q⟩ := X
  obtain ⟨rfl, rfl, hmn, hx, hb, hml, hown, hts, hlk, hrt, hfr, hlo, hrc, hrs, hU, hW0, hQ⟩ := F
  intro H locs ls h1 h2 h3 h4 h5 hl
  exact lv_ldc hx hb hown (hts _ hc) d (k H locs ls h1 h2 h3 h4 h5 hl)
theorem mz_iadd {X : mCx} {G : mG} {cc : ByteArray} {Ts : List Cond} {own mn : String} {fr lo : Nat} {ret : Option FieldType} {u0 : mSt} {P : Option Value → mSt → Prop} {u : mSt} {pc : Nat} {lv : List (Nat × Value)} {rest : List Value} {x y : Int32} (F : mFx X G cc Ts own mn fr lo ret u0 P) (d : decode cc pc = .ok (.iadd, 1))  (k : mZ X u (pc + 1) lv (.int (x + y) :: rest)) : mZ X u pc lv (.int y :: .int x :: rest) := by
  obtain ⟨p, l, e, R, s, m, args, below, meth, c, G', u1, nL, Q⟩ := X
  obtain ⟨rfl, rfl, hmn, hx, hb, hml, hown, hts, hlk, hrt, hfr, hlo, hrc, hrs, hU, hW0, hQ⟩ := F
  intro H locs ls h1 h2 h3 h4 h5 hl
  exact lv_iadd hx hb d (k H locs ls h1 h2 h3 h4 h5 hl)
theorem mz_imul {X : mCx} {G : mG} {cc : ByteArray} {Ts : List Cond} {own mn : String} {fr lo : Nat} {ret : Option FieldType} {u0 : mSt} {P : Option Value → mSt → Prop} {u : mSt} {pc : Nat} {lv : List (Nat × Value)} {rest : List Value} {x y : Int32} (F : mFx X G cc Ts own mn fr lo ret u0 P) (d : decode cc pc = .ok (.imul, 1))  (k : mZ X u (pc + 1) lv (.int (x * y) :: rest)) : mZ X u pc lv (.int y :: .int x :: rest) := by
  obtain ⟨p, l, e, R, s, m, args, below, meth, c, G', u1, nL, Q⟩ := X
  obtain ⟨rfl, rfl, hmn, hx, hb, hml, hown, hts, hlk, hrt, hfr, hlo, hrc, hrs, hU, hW0, hQ⟩ := F
  intro H locs ls h1 h2 h3 h4 h5 hl
  exact lv_imul hx hb d (k H locs ls h1 h2 h3 h4 h5 hl)
theorem mz_isub {X : mCx} {G : mG} {cc : ByteArray} {Ts : List Cond} {own mn : String} {fr lo : Nat} {ret : Option FieldType} {u0 : mSt} {P : Option Value → mSt → Prop} {u : mSt} {pc : Nat} {lv : List (Nat × Value)} {rest : List Value} {x y : Int32} (F : mFx X G cc Ts own mn fr lo ret u0 P) (d : decode cc pc = .ok (.isub, 1))  (k : mZ X u (pc + 1) lv (.int (x - y) :: rest)) : mZ X u pc lv (.int y :: .int x :: rest) := by
  obtain ⟨p, l, e, R, s, m, args, below, meth, c, G', u1, nL, Q⟩ := X
  obtain ⟨rfl, rfl, hmn, hx, hb, hml, hown, hts, hlk, hrt, hfr, hlo, hrc, hrs, hU, hW0, hQ⟩ := F
  intro H locs ls h1 h2 h3 h4 h5 hl
  exact lv_isub hx hb d (k H locs ls h1 h2 h3 h4 h5 hl)
theorem mz_iand {X : mCx} {G : mG} {cc : ByteArray} {Ts : List Cond} {own mn : String} {fr lo : Nat} {ret : Option FieldType} {u0 : mSt} {P : Option Value → mSt → Prop} {u : mSt} {pc : Nat} {lv : List (Nat × Value)} {rest : List Value} {x y : Int32} (F : mFx X G cc Ts own mn fr lo ret u0 P) (d : decode cc pc = .ok (.iand, 1))  (k : mZ X u (pc + 1) lv (.int (x &&& y) :: rest)) : mZ X u pc lv (.int y :: .int x :: rest) := by
  obtain ⟨p, l, e, R, s, m, args, below, meth, c, G', u1, nL, Q⟩ := X
  obtain ⟨rfl, rfl, hmn, hx, hb, hml, hown, hts, hlk, hrt, hfr, hlo, hrc, hrs, hU, hW0, hQ⟩ := F
  intro H locs ls h1 h2 h3 h4 h5 hl
  exact lv_iand hx hb d (k H locs ls h1 h2 h3 h4 h5 hl)
theorem mz_ishr {X : mCx} {G : mG} {cc : ByteArray} {Ts : List Cond} {own mn : String} {fr lo : Nat} {ret : Option FieldType} {u0 : mSt} {P : Option Value → mSt → Prop} {u : mSt} {pc : Nat} {lv : List (Nat × Value)} {rest : List Value} {x y : Int32} (F : mFx X G cc Ts own mn fr lo ret u0 P) (d : decode cc pc = .ok (.ishr, 1))  (k : mZ X u (pc + 1) lv (.int (x >>> (y &&& 31)) :: rest)) : mZ X u pc lv (.int y :: .int x :: rest) := by
  obtain ⟨p, l, e, R, s, m, args, below, meth, c, G', u1, nL, Q⟩ := X
  obtain ⟨rfl, rfl, hmn, hx, hb, hml, hown, hts, hlk, hrt, hfr, hlo, hrc, hrs, hU, hW0, hQ⟩ := F
  intro H locs ls h1 h2 h3 h4 h5 hl
  exact lv_ishr hx hb d (k H locs ls h1 h2 h3 h4 h5 hl)
theorem mz_idiv {X : mCx} {G : mG} {cc : ByteArray} {Ts : List Cond} {own mn : String} {fr lo : Nat} {ret : Option FieldType} {u0 : mSt} {P : Option Value → mSt → Prop} {u : mSt} {pc : Nat} {lv : List (Nat × Value)} {rest : List Value} {x y : Int32} (F : mFx X G cc Ts own mn fr lo ret u0 P) (d : decode cc pc = .ok (.idiv, 1)) (hne : ¬ y = 0) (k : mZ X u (pc + 1) lv (.int (x / y) :: rest)) : mZ X u pc lv (.int y :: .int x :: rest) := by
  obtain ⟨p, l, e, R, s, m, args, below, meth, c, G', u1, nL, Q⟩ := X
  obtain ⟨rfl, rfl, hmn, hx, hb, hml, hown, hts, hlk, hrt, hfr, hlo, hrc, hrs, hU, hW0, hQ⟩ := F
  intro H locs ls h1 h2 h3 h4 h5 hl
  exact lv_idiv hx hb d hne (k H locs ls h1 h2 h3 h4 h5 hl)
theorem mz_irem {X : mCx} {G : mG} {cc : ByteArray} {Ts : List Cond} {own mn : String} {fr lo : Nat} {ret : Option FieldType} {u0 : mSt} {P : Option Value → mSt → Prop} {u : mSt} {pc : Nat} {lv : List (Nat × Value)} {rest : List Value} {x y : Int32} (F : mFx X G cc Ts own mn fr lo ret u0 P) (d : decode cc pc = .ok (.irem, 1)) (hne : ¬ y = 0) (k : mZ X u (pc + 1) lv (.int (x - x / y * y) :: rest)) : mZ X u pc lv (.int y :: .int x :: rest) := by
  obtain ⟨p, l, e, R, s, m, args, below, meth, c, G', u1, nL, Q⟩ := X
  obtain ⟨rfl, rfl, hmn, hx, hb, hml, hown, hts, hlk, hrt, hfr, hlo, hrc, hrs, hU, hW0, hQ⟩ := F
  intro H locs ls h1 h2 h3 h4 h5 hl
  exact lv_irem hx hb d hne (k H locs ls h1 h2 h3 h4 h5 hl)
theorem mz_i2l {X : mCx} {G : mG} {cc : ByteArray} {Ts : List Cond} {own mn : String} {fr lo : Nat} {ret : Option FieldType} {u0 : mSt} {P : Option Value → mSt → Prop} {u : mSt} {pc : Nat} {lv : List (Nat × Value)} {rest : List Value} {x : Int32} (F : mFx X G cc Ts own mn fr lo ret u0 P) (d : decode cc pc = .ok (.i2l, 1))  (k : mZ X u (pc + 1) lv (.long x.toInt64 :: rest)) : mZ X u pc lv (.int x :: rest) := by
  obtain ⟨p, l, e, R, s, m, args, below, meth, c, G', u1, nL, Q⟩ := X
  obtain ⟨rfl, rfl, hmn, hx, hb, hml, hown, hts, hlk, hrt, hfr, hlo, hrc, hrs, hU, hW0, hQ⟩ := F
  intro H locs ls h1 h2 h3 h4 h5 hl
  exact lv_i2l hx hb d rfl (k H locs ls h1 h2 h3 h4 h5 hl)
theorem mz_i2b {X : mCx} {G : mG} {cc : ByteArray} {Ts : List Cond} {own mn : String} {fr lo : Nat} {ret : Option FieldType} {u0 : mSt} {P : Option Value → mSt → Prop} {u : mSt} {pc : Nat} {lv : List (Nat × Value)} {rest : List Value} {x : Int32} (F : mFx X G cc Ts own mn fr lo ret u0 P) (d : decode cc pc = .ok (.i2b, 1))  (k : mZ X u (pc + 1) lv (.int x.toInt8.toInt32 :: rest)) : mZ X u pc lv (.int x :: rest) := by
  obtain ⟨p, l, e, R, s, m, args, below, meth, c, G', u1, nL, Q⟩ := X
  obtain ⟨rfl, rfl, hmn, hx, hb, hml, hown, hts, hlk, hrt, hfr, hlo, hrc, hrs, hU, hW0, hQ⟩ := F
  intro H locs ls h1 h2 h3 h4 h5 hl
  exact lv_i2b hx hb d rfl (k H locs ls h1 h2 h3 h4 h5 hl)
theorem mz_lcmp {X : mCx} {G : mG} {cc : ByteArray} {Ts : List Cond} {own mn : String} {fr lo : Nat} {ret : Option FieldType} {u0 : mSt} {P : Option Value → mSt → Prop} {u : mSt} {pc : Nat} {lv : List (Nat × Value)} {rest : List Value} {x y : Int64} (F : mFx X G cc Ts own mn fr lo ret u0 P) (d : decode cc pc = .ok (.lcmp, 1))  (k : mZ X u (pc + 1) lv (.int (lg_cmp x y) :: rest)) : mZ X u pc lv (.long y :: .long x :: rest) := by
  obtain ⟨p, l, e, R, s, m, args, below, meth, c, G', u1, nL, Q⟩ := X
  obtain ⟨rfl, rfl, hmn, hx, hb, hml, hown, hts, hlk, hrt, hfr, hlo, hrc, hrs, hU, hW0, hQ⟩ := F
  intro H locs ls h1 h2 h3 h4 h5 hl
  exact W.lcmp hx hb d (k H locs ls h1 h2 h3 h4 h5 hl)
theorem mz_dup {X : mCx} {G : mG} {cc : ByteArray} {Ts : List Cond} {own mn : String} {fr lo : Nat} {ret : Option FieldType} {u0 : mSt} {P : Option Value → mSt → Prop} {u : mSt} {pc : Nat} {lv : List (Nat × Value)} {rest : List Value} {va : Value} (F : mFx X G cc Ts own mn fr lo ret u0 P) (d : decode cc pc = .ok (.dup, 1)) (hva : va.category = 1) (k : mZ X u (pc + 1) lv (va :: va :: rest)) : mZ X u pc lv (va :: rest) := by
  obtain ⟨p, l, e, R, s, m, args, below, meth, c, G', u1, nL, Q⟩ := X
  obtain ⟨rfl, rfl, hmn, hx, hb, hml, hown, hts, hlk, hrt, hfr, hlo, hrc, hrs, hU, hW0, hQ⟩ := F
  intro H locs ls h1 h2 h3 h4 h5 hl
  exact lv_dup hx hb d hva (k H locs ls h1 h2 h3 h4 h5 hl)
theorem mz_iload {X : mCx} {G : mG} {cc : ByteArray} {Ts : List Cond} {own mn : String} {fr lo : Nat} {ret : Option FieldType} {u0 : mSt} {P : Option Value → mSt → Prop} {u : mSt} {pc : Nat} {lv : List (Nat × Value)} {rest : List Value} {i : Nat} {x : Int32} (F : mFx X G cc Ts own mn fr lo ret u0 P) (d : decode cc pc = .ok (.iload i, 2)) (j : Nat) (hj : lv[j]? = some (i, .int x)) (k : mZ X u (pc + 2) lv (.int x :: rest)) : mZ X u pc lv (rest) := by
  obtain ⟨p, l, e, R, s, m, args, below, meth, c, G', u1, nL, Q⟩ := X
  obtain ⟨rfl, rfl, hmn, hx, hb, hml, hown, hts, hlk, hrt, hfr, hlo, hrc, hrs, hU, hW0, hQ⟩ := F
  intro H locs ls h1 h2 h3 h4 h5 hl
  exact lv_iload hx hb d (lv_at hl j hj) (k H locs ls h1 h2 h3 h4 h5 hl)
theorem mz_iload_n {X : mCx} {G : mG} {cc : ByteArray} {Ts : List Cond} {own mn : String} {fr lo : Nat} {ret : Option FieldType} {u0 : mSt} {P : Option Value → mSt → Prop} {u : mSt} {pc : Nat} {lv : List (Nat × Value)} {rest : List Value} {n : Fin 4} {i : Nat} {x : Int32} (F : mFx X G cc Ts own mn fr lo ret u0 P) (d : decode cc pc = .ok (.iload_n n, 1)) (hi : (n : Nat) = i) (j : Nat) (hj : lv[j]? = some (i, .int x)) (k : mZ X u (pc + 1) lv (.int x :: rest)) : mZ X u pc lv (rest) := by
  obtain ⟨p, l, e, R, s, m, args, below, meth, c, G', u1, nL, Q⟩ := X
  obtain ⟨rfl, rfl, hmn, hx, hb, hml, hown, hts, hlk, hrt, hfr, hlo, hrc, hrs, hU, hW0, hQ⟩ := F
  intro H locs ls h1 h2 h3 h4 h5 hl
  exact lv_iload_n hx hb d hi (lv_at hl j hj) (k H locs ls h1 h2 h3 h4 h5 hl)
theorem mz_istore {X : mCx} {G : mG} {cc : ByteArray} {Ts : List Cond} {own mn : String} {fr lo : Nat} {ret : Option FieldType} {u0 : mSt} {P : Option Value → mSt → Prop} {u : mSt} {pc : Nat} {lv : List (Nat × Value)} {rest : List Value} {i : Nat} {x : Int32} {lv2 : List (Nat × Value)} (F : mFx X G cc Ts own mn fr lo ret u0 P) (d : decode cc pc = .ok (.istore i, 2))  {nl : Nat} (hN : X.2.2.2.2.2.2.2.2.2.2.2.2.1 = nl) (hn : i < nl) (hv : (i, Value.int x) :: lv.filter (fun q => !(q.1 == i) && !(q.1 + 1 == i && q.2.category == 2)) = lv2) (k : mZ X u (pc + 2) lv2 rest) : mZ X u pc lv (.int x :: rest) := by
  obtain ⟨p, l, e, R, s, m, args, below, meth, c, G', u1, nL, Q⟩ := X
  obtain ⟨rfl, rfl, hmn, hx, hb, hml, hown, hts, hlk, hrt, hfr, hlo, hrc, hrs, hU, hW0, hQ⟩ := F
  intro H locs ls h1 h2 h3 h4 h5 hl
  have hN : nL = nl := hN
  subst hN
  exact lv_istore hx hb d  hl hn hv (fun ls' hl' => k H locs ls' h1 h2 h3 h4 h5 hl')
theorem mz_istore_n {X : mCx} {G : mG} {cc : ByteArray} {Ts : List Cond} {own mn : String} {fr lo : Nat} {ret : Option FieldType} {u0 : mSt} {P : Option Value → mSt → Prop} {u : mSt} {pc : Nat} {lv : List (Nat × Value)} {rest : List Value} {n : Fin 4} {i : Nat} {x : Int32} {lv2 : List (Nat × Value)} (F : mFx X G cc Ts own mn fr lo ret u0 P) (d : decode cc pc = .ok (.istore_n n, 1)) (hi : (n : Nat) = i) {nl : Nat} (hN : X.2.2.2.2.2.2.2.2.2.2.2.2.1 = nl) (hn : i < nl) (hv : (i, Value.int x) :: lv.filter (fun q => !(q.1 == i) && !(q.1 + 1 == i && q.2.category == 2)) = lv2) (k : mZ X u (pc + 1) lv2 rest) : mZ X u pc lv (.int x :: rest) := by
  obtain ⟨p, l, e, R, s, m, args, below, meth, c, G', u1, nL, Q⟩ := X
  obtain ⟨rfl, rfl, hmn, hx, hb, hml, hown, hts, hlk, hrt, hfr, hlo, hrc, hrs, hU, hW0, hQ⟩ := F
  intro H locs ls h1 h2 h3 h4 h5 hl
  have hN : nL = nl := hN
  subst hN
  exact lv_istore_n hx hb d hi hl hn hv (fun ls' hl' => k H locs ls' h1 h2 h3 h4 h5 hl')
theorem mz_aload {X : mCx} {G : mG} {cc : ByteArray} {Ts : List Cond} {own mn : String} {fr lo : Nat} {ret : Option FieldType} {u0 : mSt} {P : Option Value → mSt → Prop} {u : mSt} {pc : Nat} {lv : List (Nat × Value)} {rest : List Value} {i : Nat} {x : Nat} (F : mFx X G cc Ts own mn fr lo ret u0 P) (d : decode cc pc = .ok (.aload i, 2)) (j : Nat) (hj : lv[j]? = some (i, .ref x)) (k : mZ X u (pc + 2) lv (.ref x :: rest)) : mZ X u pc lv (rest) := by
  obtain ⟨p, l, e, R, s, m, args, below, meth, c, G', u1, nL, Q⟩ := X
  obtain ⟨rfl, rfl, hmn, hx, hb, hml, hown, hts, hlk, hrt, hfr, hlo, hrc, hrs, hU, hW0, hQ⟩ := F
  intro H locs ls h1 h2 h3 h4 h5 hl
  exact lv_aload hx hb d (lv_at hl j hj) (k H locs ls h1 h2 h3 h4 h5 hl)
theorem mz_aload_n {X : mCx} {G : mG} {cc : ByteArray} {Ts : List Cond} {own mn : String} {fr lo : Nat} {ret : Option FieldType} {u0 : mSt} {P : Option Value → mSt → Prop} {u : mSt} {pc : Nat} {lv : List (Nat × Value)} {rest : List Value} {n : Fin 4} {i : Nat} {x : Nat} (F : mFx X G cc Ts own mn fr lo ret u0 P) (d : decode cc pc = .ok (.aload_n n, 1)) (hi : (n : Nat) = i) (j : Nat) (hj : lv[j]? = some (i, .ref x)) (k : mZ X u (pc + 1) lv (.ref x :: rest)) : mZ X u pc lv (rest) := by
  obtain ⟨p, l, e, R, s, m, args, below, meth, c, G', u1, nL, Q⟩ := X
  obtain ⟨rfl, rfl, hmn, hx, hb, hml, hown, hts, hlk, hrt, hfr, hlo, hrc, hrs, hU, hW0, hQ⟩ := F
  intro H locs ls h1 h2 h3 h4 h5 hl
  exact lv_aload_n hx hb d hi (lv_at hl j hj) (k H locs ls h1 h2 h3 h4 h5 hl)
theorem mz_astore {X : mCx} {G : mG} {cc : ByteArray} {Ts : List Cond} {own mn : String} {fr lo : Nat} {ret : Option FieldType} {u0 : mSt} {P : Option Value → mSt → Prop} {u : mSt} {pc : Nat} {lv : List (Nat × Value)} {rest : List Value} {i : Nat} {x : Nat} {lv2 : List (Nat × Value)} (F : mFx X G cc Ts own mn fr lo ret u0 P) (d : decode cc pc = .ok (.astore i, 2))  {nl : Nat} (hN : X.2.2.2.2.2.2.2.2.2.2.2.2.1 = nl) (hn : i < nl) (hv : (i, Value.ref x) :: lv.filter (fun q => !(q.1 == i) && !(q.1 + 1 == i && q.2.category == 2)) = lv2) (k : mZ X u (pc + 2) lv2 rest) : mZ X u pc lv (.ref x :: rest) := by
  obtain ⟨p, l, e, R, s, m, args, below, meth, c, G', u1, nL, Q⟩ := X
  obtain ⟨rfl, rfl, hmn, hx, hb, hml, hown, hts, hlk, hrt, hfr, hlo, hrc, hrs, hU, hW0, hQ⟩ := F
  intro H locs ls h1 h2 h3 h4 h5 hl
  have hN : nL = nl := hN
  subst hN
  exact lv_astore hx hb d  hl hn hv (fun ls' hl' => k H locs ls' h1 h2 h3 h4 h5 hl')
theorem mz_astore_n {X : mCx} {G : mG} {cc : ByteArray} {Ts : List Cond} {own mn : String} {fr lo : Nat} {ret : Option FieldType} {u0 : mSt} {P : Option Value → mSt → Prop} {u : mSt} {pc : Nat} {lv : List (Nat × Value)} {rest : List Value} {n : Fin 4} {i : Nat} {x : Nat} {lv2 : List (Nat × Value)} (F : mFx X G cc Ts own mn fr lo ret u0 P) (d : decode cc pc = .ok (.astore_n n, 1)) (hi : (n : Nat) = i) {nl : Nat} (hN : X.2.2.2.2.2.2.2.2.2.2.2.2.1 = nl) (hn : i < nl) (hv : (i, Value.ref x) :: lv.filter (fun q => !(q.1 == i) && !(q.1 + 1 == i && q.2.category == 2)) = lv2) (k : mZ X u (pc + 1) lv2 rest) : mZ X u pc lv (.ref x :: rest) := by
  obtain ⟨p, l, e, R, s, m, args, below, meth, c, G', u1, nL, Q⟩ := X
  obtain ⟨rfl, rfl, hmn, hx, hb, hml, hown, hts, hlk, hrt, hfr, hlo, hrc, hrs, hU, hW0, hQ⟩ := F
  intro H locs ls h1 h2 h3 h4 h5 hl
  have hN : nL = nl := hN
  subst hN
  exact lv_astore_n hx hb d hi hl hn hv (fun ls' hl' => k H locs ls' h1 h2 h3 h4 h5 hl')
theorem mz_lload {X : mCx} {G : mG} {cc : ByteArray} {Ts : List Cond} {own mn : String} {fr lo : Nat} {ret : Option FieldType} {u0 : mSt} {P : Option Value → mSt → Prop} {u : mSt} {pc : Nat} {lv : List (Nat × Value)} {rest : List Value} {i : Nat} {x : Int64} (F : mFx X G cc Ts own mn fr lo ret u0 P) (d : decode cc pc = .ok (.lload i, 2)) (j : Nat) (hj : lv[j]? = some (i, .long x)) (k : mZ X u (pc + 2) lv (.long x :: rest)) : mZ X u pc lv (rest) := by
  obtain ⟨p, l, e, R, s, m, args, below, meth, c, G', u1, nL, Q⟩ := X
  obtain ⟨rfl, rfl, hmn, hx, hb, hml, hown, hts, hlk, hrt, hfr, hlo, hrc, hrs, hU, hW0, hQ⟩ := F
  intro H locs ls h1 h2 h3 h4 h5 hl
  exact lv_lload hx hb d (lv_at hl j hj) (k H locs ls h1 h2 h3 h4 h5 hl)
theorem mz_lload_n {X : mCx} {G : mG} {cc : ByteArray} {Ts : List Cond} {own mn : String} {fr lo : Nat} {ret : Option FieldType} {u0 : mSt} {P : Option Value → mSt → Prop} {u : mSt} {pc : Nat} {lv : List (Nat × Value)} {rest : List Value} {n : Fin 4} {i : Nat} {x : Int64} (F : mFx X G cc Ts own mn fr lo ret u0 P) (d : decode cc pc = .ok (.lload_n n, 1)) (hi : (n : Nat) = i) (j : Nat) (hj : lv[j]? = some (i, .long x)) (k : mZ X u (pc + 1) lv (.long x :: rest)) : mZ X u pc lv (rest) := by
  obtain ⟨p, l, e, R, s, m, args, below, meth, c, G', u1, nL, Q⟩ := X
  obtain ⟨rfl, rfl, hmn, hx, hb, hml, hown, hts, hlk, hrt, hfr, hlo, hrc, hrs, hU, hW0, hQ⟩ := F
  intro H locs ls h1 h2 h3 h4 h5 hl
  exact lv_lload_n hx hb d hi (lv_at hl j hj) (k H locs ls h1 h2 h3 h4 h5 hl)
theorem mz_lstore {X : mCx} {G : mG} {cc : ByteArray} {Ts : List Cond} {own mn : String} {fr lo : Nat} {ret : Option FieldType} {u0 : mSt} {P : Option Value → mSt → Prop} {u : mSt} {pc : Nat} {lv : List (Nat × Value)} {rest : List Value} {i : Nat} {x : Int64} {lv2 : List (Nat × Value)} (F : mFx X G cc Ts own mn fr lo ret u0 P) (d : decode cc pc = .ok (.lstore i, 2))  {nl : Nat} (hN : X.2.2.2.2.2.2.2.2.2.2.2.2.1 = nl) (hn : i + 1 < nl) (hv : (i, Value.long x) :: lv.filter (fun q => !(q.1 == i) && (!(q.1 == i + 1) && !(q.1 + 1 == i && q.2.category == 2))) = lv2) (k : mZ X u (pc + 2) lv2 rest) : mZ X u pc lv (.long x :: rest) := by
  obtain ⟨p, l, e, R, s, m, args, below, meth, c, G', u1, nL, Q⟩ := X
  obtain ⟨rfl, rfl, hmn, hx, hb, hml, hown, hts, hlk, hrt, hfr, hlo, hrc, hrs, hU, hW0, hQ⟩ := F
  intro H locs ls h1 h2 h3 h4 h5 hl
  have hN : nL = nl := hN
  subst hN
  exact lv_lstore hx hb d  hl hn hv (fun ls' hl' => k H locs ls' h1 h2 h3 h4 h5 hl')
theorem mz_lstore_n {X : mCx} {G : mG} {cc : ByteArray} {Ts : List Cond} {own mn : String} {fr lo : Nat} {ret : Option FieldType} {u0 : mSt} {P : Option Value → mSt → Prop} {u : mSt} {pc : Nat} {lv : List (Nat × Value)} {rest : List Value} {n : Fin 4} {i : Nat} {x : Int64} {lv2 : List (Nat × Value)} (F : mFx X G cc Ts own mn fr lo ret u0 P) (d : decode cc pc = .ok (.lstore_n n, 1)) (hi : (n : Nat) = i) {nl : Nat} (hN : X.2.2.2.2.2.2.2.2.2.2.2.2.1 = nl) (hn : i + 1 < nl) (hv : (i, Value.long x) :: lv.filter (fun q => !(q.1 == i) && (!(q.1 == i + 1) && !(q.1 + 1 == i && q.2.category == 2))) = lv2) (k : mZ X u (pc + 1) lv2 rest) : mZ X u pc lv (.long x :: rest) := by
  obtain ⟨p, l, e, R, s, m, args, below, meth, c, G', u1, nL, Q⟩ := X
  obtain ⟨rfl, rfl, hmn, hx, hb, hml, hown, hts, hlk, hrt, hfr, hlo, hrc, hrs, hU, hW0, hQ⟩ := F
  intro H locs ls h1 h2 h3 h4 h5 hl
  have hN : nL = nl := hN
  subst hN
  exact lv_lstore_n hx hb d hi hl hn hv (fun ls' hl' => k H locs ls' h1 h2 h3 h4 h5 hl')
theorem mz_iinc {X : mCx} {G : mG} {cc : ByteArray} {Ts : List Cond} {own mn : String} {fr lo : Nat} {ret : Option FieldType} {u0 : mSt} {P : Option Value → mSt → Prop} {u : mSt} {pc : Nat} {lv : List (Nat × Value)} {rest : List Value} {i : Nat} {n : Int} {x v : Int32} {lv2 : List (Nat × Value)} (F : mFx X G cc Ts own mn fr lo ret u0 P) (d : decode cc pc = .ok (.iinc i n, 3)) (j : Nat) (hj : lv[j]? = some (i, .int x)) (hv : x + Int32.ofInt n = v) {nl : Nat} (hN : X.2.2.2.2.2.2.2.2.2.2.2.2.1 = nl) (hn : i < nl) (hl2 : (i, Value.int v) :: lv.filter (fun q => !(q.1 == i) && !(q.1 + 1 == i && q.2.category == 2)) = lv2) (k : mZ X u (pc + 3) lv2 rest) : mZ X u pc lv rest := by
  obtain ⟨p, l, e, R, s, m, args, below, meth, c, G', u1, nL, Q⟩ := X
  obtain ⟨rfl, rfl, hmn, hx, hb, hml, hown, hts, hlk, hrt, hfr, hlo, hrc, hrs, hU, hW0, hQ⟩ := F
  intro H locs ls h1 h2 h3 h4 h5 hl
  have hN : nL = nl := hN
  subst hN
  exact lv_iinc hx hb d hl hj hv hn hl2 (fun ls' hl' => k H locs ls' h1 h2 h3 h4 h5 hl')
theorem mz_icmp_eq {X : mCx} {G : mG} {cc : ByteArray} {Ts : List Cond} {own mn : String} {fr lo : Nat} {ret : Option FieldType} {u0 : mSt} {P : Option Value → mSt → Prop} {u : mSt} {pc : Nat} {lv : List (Nat × Value)} {rest : List Value} {x y : Int32} {off : Int} {tgt : Nat} (F : mFx X G cc Ts own mn fr lo ret u0 P) (d : decode cc pc = .ok (.if_icmp .eq off, 3)) (ht : (pc : Int) + off = (tgt : Int)) (kt : x = y → mZ X u tgt lv rest) (kf : ¬ x = y → mZ X u (pc + 3) lv rest) : mZ X u pc lv (.int y :: .int x :: rest) := by
  obtain ⟨p, l, e, R, s, m, args, below, meth, c, G', u1, nL, Q⟩ := X
  obtain ⟨rfl, rfl, hmn, hx, hb, hml, hown, hts, hlk, hrt, hfr, hlo, hrc, hrs, hU, hW0, hQ⟩ := F
  intro H locs ls h1 h2 h3 h4 h5 hl
  exact lv_icmp_eq hx hb d ht (fun q => kt q H locs ls h1 h2 h3 h4 h5 hl) (fun q => kf q H locs ls h1 h2 h3 h4 h5 hl)
theorem mz_icmp_ne {X : mCx} {G : mG} {cc : ByteArray} {Ts : List Cond} {own mn : String} {fr lo : Nat} {ret : Option FieldType} {u0 : mSt} {P : Option Value → mSt → Prop} {u : mSt} {pc : Nat} {lv : List (Nat × Value)} {rest : List Value} {x y : Int32} {off : Int} {tgt : Nat} (F : mFx X G cc Ts own mn fr lo ret u0 P) (d : decode cc pc = .ok (.if_icmp .ne off, 3)) (ht : (pc : Int) + off = (tgt : Int)) (kt : ¬ x = y → mZ X u tgt lv rest) (kf : x = y → mZ X u (pc + 3) lv rest) : mZ X u pc lv (.int y :: .int x :: rest) := by
  obtain ⟨p, l, e, R, s, m, args, below, meth, c, G', u1, nL, Q⟩ := X
  obtain ⟨rfl, rfl, hmn, hx, hb, hml, hown, hts, hlk, hrt, hfr, hlo, hrc, hrs, hU, hW0, hQ⟩ := F
  intro H locs ls h1 h2 h3 h4 h5 hl
  exact lv_icmp_ne hx hb d ht (fun q => kt q H locs ls h1 h2 h3 h4 h5 hl) (fun q => kf q H locs ls h1 h2 h3 h4 h5 hl)
theorem mz_icmp_lt {X : mCx} {G : mG} {cc : ByteArray} {Ts : List Cond} {own mn : String} {fr lo : Nat} {ret : Option FieldType} {u0 : mSt} {P : Option Value → mSt → Prop} {u : mSt} {pc : Nat} {lv : List (Nat × Value)} {rest : List Value} {x y : Int32} {off : Int} {tgt : Nat} (F : mFx X G cc Ts own mn fr lo ret u0 P) (d : decode cc pc = .ok (.if_icmp .lt off, 3)) (ht : (pc : Int) + off = (tgt : Int)) (kt : x < y → mZ X u tgt lv rest) (kf : ¬ x < y → mZ X u (pc + 3) lv rest) : mZ X u pc lv (.int y :: .int x :: rest) := by
  obtain ⟨p, l, e, R, s, m, args, below, meth, c, G', u1, nL, Q⟩ := X
  obtain ⟨rfl, rfl, hmn, hx, hb, hml, hown, hts, hlk, hrt, hfr, hlo, hrc, hrs, hU, hW0, hQ⟩ := F
  intro H locs ls h1 h2 h3 h4 h5 hl
  exact lv_icmp_lt hx hb d ht (fun q => kt q H locs ls h1 h2 h3 h4 h5 hl) (fun q => kf q H locs ls h1 h2 h3 h4 h5 hl)
theorem mz_icmp_ge {X : mCx} {G : mG} {cc : ByteArray} {Ts : List Cond} {own mn : String} {fr lo : Nat} {ret : Option FieldType} {u0 : mSt} {P : Option Value → mSt → Prop} {u : mSt} {pc : Nat} {lv : List (Nat × Value)} {rest : List Value} {x y : Int32} {off : Int} {tgt : Nat} (F : mFx X G cc Ts own mn fr lo ret u0 P) (d : decode cc pc = .ok (.if_icmp .ge off, 3)) (ht : (pc : Int) + off = (tgt : Int)) (kt : y ≤ x → mZ X u tgt lv rest) (kf : ¬ y ≤ x → mZ X u (pc + 3) lv rest) : mZ X u pc lv (.int y :: .int x :: rest) := by
  obtain ⟨p, l, e, R, s, m, args, below, meth, c, G', u1, nL, Q⟩ := X
  obtain ⟨rfl, rfl, hmn, hx, hb, hml, hown, hts, hlk, hrt, hfr, hlo, hrc, hrs, hU, hW0, hQ⟩ := F
  intro H locs ls h1 h2 h3 h4 h5 hl
  exact lv_icmp_ge hx hb d ht (fun q => kt q H locs ls h1 h2 h3 h4 h5 hl) (fun q => kf q H locs ls h1 h2 h3 h4 h5 hl)
theorem mz_icmp_gt {X : mCx} {G : mG} {cc : ByteArray} {Ts : List Cond} {own mn : String} {fr lo : Nat} {ret : Option FieldType} {u0 : mSt} {P : Option Value → mSt → Prop} {u : mSt} {pc : Nat} {lv : List (Nat × Value)} {rest : List Value} {x y : Int32} {off : Int} {tgt : Nat} (F : mFx X G cc Ts own mn fr lo ret u0 P) (d : decode cc pc = .ok (.if_icmp .gt off, 3)) (ht : (pc : Int) + off = (tgt : Int)) (kt : y < x → mZ X u tgt lv rest) (kf : ¬ y < x → mZ X u (pc + 3) lv rest) : mZ X u pc lv (.int y :: .int x :: rest) := by
  obtain ⟨p, l, e, R, s, m, args, below, meth, c, G', u1, nL, Q⟩ := X
  obtain ⟨rfl, rfl, hmn, hx, hb, hml, hown, hts, hlk, hrt, hfr, hlo, hrc, hrs, hU, hW0, hQ⟩ := F
  intro H locs ls h1 h2 h3 h4 h5 hl
  exact lv_icmp_gt hx hb d ht (fun q => kt q H locs ls h1 h2 h3 h4 h5 hl) (fun q => kf q H locs ls h1 h2 h3 h4 h5 hl)
theorem mz_icmp_le {X : mCx} {G : mG} {cc : ByteArray} {Ts : List Cond} {own mn : String} {fr lo : Nat} {ret : Option FieldType} {u0 : mSt} {P : Option Value → mSt → Prop} {u : mSt} {pc : Nat} {lv : List (Nat × Value)} {rest : List Value} {x y : Int32} {off : Int} {tgt : Nat} (F : mFx X G cc Ts own mn fr lo ret u0 P) (d : decode cc pc = .ok (.if_icmp .le off, 3)) (ht : (pc : Int) + off = (tgt : Int)) (kt : x ≤ y → mZ X u tgt lv rest) (kf : ¬ x ≤ y → mZ X u (pc + 3) lv rest) : mZ X u pc lv (.int y :: .int x :: rest) := by
  obtain ⟨p, l, e, R, s, m, args, below, meth, c, G', u1, nL, Q⟩ := X
  obtain ⟨rfl, rfl, hmn, hx, hb, hml, hown, hts, hlk, hrt, hfr, hlo, hrc, hrs, hU, hW0, hQ⟩ := F
  intro H locs ls h1 h2 h3 h4 h5 hl
  exact lv_icmp_le hx hb d ht (fun q => kt q H locs ls h1 h2 h3 h4 h5 hl) (fun q => kf q H locs ls h1 h2 h3 h4 h5 hl)
theorem mz_if_eq {X : mCx} {G : mG} {cc : ByteArray} {Ts : List Cond} {own mn : String} {fr lo : Nat} {ret : Option FieldType} {u0 : mSt} {P : Option Value → mSt → Prop} {u : mSt} {pc : Nat} {lv : List (Nat × Value)} {rest : List Value} {x : Int32} {off : Int} {tgt : Nat} (F : mFx X G cc Ts own mn fr lo ret u0 P) (d : decode cc pc = .ok (.ifCond .eq off, 3)) (ht : (pc : Int) + off = (tgt : Int)) (kt : x = 0 → mZ X u tgt lv rest) (kf : ¬ x = 0 → mZ X u (pc + 3) lv rest) : mZ X u pc lv (.int x :: rest) := by
  obtain ⟨p, l, e, R, s, m, args, below, meth, c, G', u1, nL, Q⟩ := X
  obtain ⟨rfl, rfl, hmn, hx, hb, hml, hown, hts, hlk, hrt, hfr, hlo, hrc, hrs, hU, hW0, hQ⟩ := F
  intro H locs ls h1 h2 h3 h4 h5 hl
  exact lv_if_eq hx hb d ht (fun q => kt q H locs ls h1 h2 h3 h4 h5 hl) (fun q => kf q H locs ls h1 h2 h3 h4 h5 hl)
theorem mz_if_ne {X : mCx} {G : mG} {cc : ByteArray} {Ts : List Cond} {own mn : String} {fr lo : Nat} {ret : Option FieldType} {u0 : mSt} {P : Option Value → mSt → Prop} {u : mSt} {pc : Nat} {lv : List (Nat × Value)} {rest : List Value} {x : Int32} {off : Int} {tgt : Nat} (F : mFx X G cc Ts own mn fr lo ret u0 P) (d : decode cc pc = .ok (.ifCond .ne off, 3)) (ht : (pc : Int) + off = (tgt : Int)) (kt : ¬ x = 0 → mZ X u tgt lv rest) (kf : x = 0 → mZ X u (pc + 3) lv rest) : mZ X u pc lv (.int x :: rest) := by
  obtain ⟨p, l, e, R, s, m, args, below, meth, c, G', u1, nL, Q⟩ := X
  obtain ⟨rfl, rfl, hmn, hx, hb, hml, hown, hts, hlk, hrt, hfr, hlo, hrc, hrs, hU, hW0, hQ⟩ := F
  intro H locs ls h1 h2 h3 h4 h5 hl
  exact lv_if_ne hx hb d ht (fun q => kt q H locs ls h1 h2 h3 h4 h5 hl) (fun q => kf q H locs ls h1 h2 h3 h4 h5 hl)
theorem mz_if_lt {X : mCx} {G : mG} {cc : ByteArray} {Ts : List Cond} {own mn : String} {fr lo : Nat} {ret : Option FieldType} {u0 : mSt} {P : Option Value → mSt → Prop} {u : mSt} {pc : Nat} {lv : List (Nat × Value)} {rest : List Value} {x : Int32} {off : Int} {tgt : Nat} (F : mFx X G cc Ts own mn fr lo ret u0 P) (d : decode cc pc = .ok (.ifCond .lt off, 3)) (ht : (pc : Int) + off = (tgt : Int)) (kt : x < 0 → mZ X u tgt lv rest) (kf : ¬ x < 0 → mZ X u (pc + 3) lv rest) : mZ X u pc lv (.int x :: rest) := by
  obtain ⟨p, l, e, R, s, m, args, below, meth, c, G', u1, nL, Q⟩ := X
  obtain ⟨rfl, rfl, hmn, hx, hb, hml, hown, hts, hlk, hrt, hfr, hlo, hrc, hrs, hU, hW0, hQ⟩ := F
  intro H locs ls h1 h2 h3 h4 h5 hl
  exact lv_if_lt hx hb d ht (fun q => kt q H locs ls h1 h2 h3 h4 h5 hl) (fun q => kf q H locs ls h1 h2 h3 h4 h5 hl)
theorem mz_if_ge {X : mCx} {G : mG} {cc : ByteArray} {Ts : List Cond} {own mn : String} {fr lo : Nat} {ret : Option FieldType} {u0 : mSt} {P : Option Value → mSt → Prop} {u : mSt} {pc : Nat} {lv : List (Nat × Value)} {rest : List Value} {x : Int32} {off : Int} {tgt : Nat} (F : mFx X G cc Ts own mn fr lo ret u0 P) (d : decode cc pc = .ok (.ifCond .ge off, 3)) (ht : (pc : Int) + off = (tgt : Int)) (kt : 0 ≤ x → mZ X u tgt lv rest) (kf : ¬ 0 ≤ x → mZ X u (pc + 3) lv rest) : mZ X u pc lv (.int x :: rest) := by
  obtain ⟨p, l, e, R, s, m, args, below, meth, c, G', u1, nL, Q⟩ := X
  obtain ⟨rfl, rfl, hmn, hx, hb, hml, hown, hts, hlk, hrt, hfr, hlo, hrc, hrs, hU, hW0, hQ⟩ := F
  intro H locs ls h1 h2 h3 h4 h5 hl
  exact lv_if_ge hx hb d ht (fun q => kt q H locs ls h1 h2 h3 h4 h5 hl) (fun q => kf q H locs ls h1 h2 h3 h4 h5 hl)
theorem mz_if_gt {X : mCx} {G : mG} {cc : ByteArray} {Ts : List Cond} {own mn : String} {fr lo : Nat} {ret : Option FieldType} {u0 : mSt} {P : Option Value → mSt → Prop} {u : mSt} {pc : Nat} {lv : List (Nat × Value)} {rest : List Value} {x : Int32} {off : Int} {tgt : Nat} (F : mFx X G cc Ts own mn fr lo ret u0 P) (d : decode cc pc = .ok (.ifCond .gt off, 3)) (ht : (pc : Int) + off = (tgt : Int)) (kt : 0 < x → mZ X u tgt lv rest) (kf : ¬ 0 < x → mZ X u (pc + 3) lv rest) : mZ X u pc lv (.int x :: rest) := by
  obtain ⟨p, l, e, R, s, m, args, below, meth, c, G', u1, nL, Q⟩ := X
  obtain ⟨rfl, rfl, hmn, hx, hb, hml, hown, hts, hlk, hrt, hfr, hlo, hrc, hrs, hU, hW0, hQ⟩ := F
  intro H locs ls h1 h2 h3 h4 h5 hl
  exact lv_if_gt hx hb d ht (fun q => kt q H locs ls h1 h2 h3 h4 h5 hl) (fun q => kf q H locs ls h1 h2 h3 h4 h5 hl)
theorem mz_if_le {X : mCx} {G : mG} {cc : ByteArray} {Ts : List Cond} {own mn : String} {fr lo : Nat} {ret : Option FieldType} {u0 : mSt} {P : Option Value → mSt → Prop} {u : mSt} {pc : Nat} {lv : List (Nat × Value)} {rest : List Value} {x : Int32} {off : Int} {tgt : Nat} (F : mFx X G cc Ts own mn fr lo ret u0 P) (d : decode cc pc = .ok (.ifCond .le off, 3)) (ht : (pc : Int) + off = (tgt : Int)) (kt : x ≤ 0 → mZ X u tgt lv rest) (kf : ¬ x ≤ 0 → mZ X u (pc + 3) lv rest) : mZ X u pc lv (.int x :: rest) := by
  obtain ⟨p, l, e, R, s, m, args, below, meth, c, G', u1, nL, Q⟩ := X
  obtain ⟨rfl, rfl, hmn, hx, hb, hml, hown, hts, hlk, hrt, hfr, hlo, hrc, hrs, hU, hW0, hQ⟩ := F
  intro H locs ls h1 h2 h3 h4 h5 hl
  exact lv_if_le hx hb d ht (fun q => kt q H locs ls h1 h2 h3 h4 h5 hl) (fun q => kf q H locs ls h1 h2 h3 h4 h5 hl)
theorem mz_goto {X : mCx} {G : mG} {cc : ByteArray} {Ts : List Cond} {own mn : String} {fr lo : Nat} {ret : Option FieldType} {u0 : mSt} {P : Option Value → mSt → Prop} {u : mSt} {pc : Nat} {lv : List (Nat × Value)} {rest : List Value} {off : Int} {tgt : Nat} (F : mFx X G cc Ts own mn fr lo ret u0 P) (d : decode cc pc = .ok (.goto off, 3)) (ht : (pc : Int) + off = (tgt : Int)) (k : mZ X u tgt lv rest) : mZ X u pc lv rest := by
  obtain ⟨p, l, e, R, s, m, args, below, meth, c, G', u1, nL, Q⟩ := X
  obtain ⟨rfl, rfl, hmn, hx, hb, hml, hown, hts, hlk, hrt, hfr, hlo, hrc, hrs, hU, hW0, hQ⟩ := F
  intro H locs ls h1 h2 h3 h4 h5 hl
  exact lv_goto hx hb d ht (k H locs ls h1 h2 h3 h4 h5 hl)
theorem mz_tableIn {X : mCx} {G : mG} {cc : ByteArray} {Ts : List Cond} {own mn : String} {fr lo : Nat} {ret : Option FieldType} {u0 : mSt} {P : Option Value → mSt → Prop} {u : mSt} {pc : Nat} {lv : List (Nat × Value)} {rest : List Value} {dflt lw hi : Int} {offs : Array Int} {len : Nat} {x : Int32} {off : Int} {tgt : Nat} (F : mFx X G cc Ts own mn fr lo ret u0 P) (d : decode cc pc = .ok (.tableswitch dflt lw hi offs, len)) (q1 : ¬ x.toInt < lw) (q2 : ¬ hi < x.toInt) (ho : offs[(x.toInt - lw).toNat]? = some off) (ht : (pc : Int) + off = (tgt : Int)) (k : mZ X u tgt lv rest) : mZ X u pc lv (.int x :: rest) := by
  obtain ⟨p, l, e, R, s, m, args, below, meth, c, G', u1, nL, Q⟩ := X
  obtain ⟨rfl, rfl, hmn, hx, hb, hml, hown, hts, hlk, hrt, hfr, hlo, hrc, hrs, hU, hW0, hQ⟩ := F
  intro H locs ls h1 h2 h3 h4 h5 hl
  exact lv_tableIn hx hb d q1 q2 ho ht (k H locs ls h1 h2 h3 h4 h5 hl)
theorem mz_tableOut {X : mCx} {G : mG} {cc : ByteArray} {Ts : List Cond} {own mn : String} {fr lo : Nat} {ret : Option FieldType} {u0 : mSt} {P : Option Value → mSt → Prop} {u : mSt} {pc : Nat} {lv : List (Nat × Value)} {rest : List Value} {dflt lw hi : Int} {offs : Array Int} {len : Nat} {x : Int32} {tgt : Nat} (F : mFx X G cc Ts own mn fr lo ret u0 P) (d : decode cc pc = .ok (.tableswitch dflt lw hi offs, len)) (q1 : x.toInt < lw ∨ hi < x.toInt) (ht : (pc : Int) + dflt = (tgt : Int)) (k : mZ X u tgt lv rest) : mZ X u pc lv (.int x :: rest) := by
  obtain ⟨p, l, e, R, s, m, args, below, meth, c, G', u1, nL, Q⟩ := X
  obtain ⟨rfl, rfl, hmn, hx, hb, hml, hown, hts, hlk, hrt, hfr, hlo, hrc, hrs, hU, hW0, hQ⟩ := F
  intro H locs ls h1 h2 h3 h4 h5 hl
  exact lv_tableOut hx hb d q1 ht (k H locs ls h1 h2 h3 h4 h5 hl)
/-- fewer locals -/
theorem mz_sub {X : mCx} {u : mSt} {pc : Nat} {lv lv2 : List (Nat × Value)} {rest : List Value} (ks : List Nat) (hk : lv_pick lv ks = lv2) (k : mZ X u pc lv2 rest) : mZ X u pc lv rest := by
  obtain ⟨p, l, e, R, s, m, args, below, meth, c, G', u1, nL, Q⟩ := X
  intro H locs ls h1 h2 h3 h4 h5 hl
  exact k H locs ls h1 h2 h3 h4 h5 (lv_sub hl ks hk)
