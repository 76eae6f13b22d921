theorem mz_topi {X : mCx} {u : mSt} {pc : Nat} {lv : List (Nat × Value)} {rest : List Value} {x : Int32} (k : ∀ y : Int32, y = x → mZ X u pc lv (.int y :: rest)) : mZ X u pc lv (.int x :: rest) := k x rfl
theorem mz_topl {X : mCx} {u : mSt} {pc : Nat} {lv : List (Nat × Value)} {rest : List Value} {x : Int64} (k : ∀ y : Int64, y = x → mZ X u pc lv (.long y :: rest)) : mZ X u pc lv (.long x :: rest) := k x rfl
theorem mAO4 {X : mCx} {G : mG} {cc : ByteArray} {Ts : List Cond} {own mn : String} {fr lo : Nat} {ret : Option FieldType} {u0 : mSt} {P : Option Value → mSt → Prop} (F : mFx X G cc Ts own mn fr lo ret u0 P) : va_AO "RoomMapper$Sheet" X.2.2.2.2.1 := by
  obtain ⟨p, l, e, R, s, m, args, below, meth, c, G', u1, nL, Q⟩ := X
  obtain ⟨rfl, rfl, hmn, hx, hb, hml, hown, hts, hlk, hrt, hfr, hlo, hrc, hrs, hU, hW0, hQ⟩ := F
  exact hU.2.2.2.2.1
theorem mAO5 {X : mCx} {G : mG} {cc : ByteArray} {Ts : List Cond} {own mn : String} {fr lo : Nat} {ret : Option FieldType} {u0 : mSt} {P : Option Value → mSt → Prop} (F : mFx X G cc Ts own mn fr lo ret u0 P) : va_AO "RoomMapper$Shelf" X.2.2.2.2.1 := by
  obtain ⟨p, l, e, R, s, m, args, below, meth, c, G', u1, nL, Q⟩ := X
  obtain ⟨rfl, rfl, hmn, hx, hb, hml, hown, hts, hlk, hrt, hfr, hlo, hrc, hrs, hU, hW0, hQ⟩ := F
  exact hU.2.2.2.2.2.1
def mPi (K : Int32 → mSt → Prop) : Option Value → mSt → Prop := fun v u => ∃ r, v = some (.int r) ∧ K r u
def mPz (K : Int32 → mSt → Prop) : Option Value → mSt → Prop := fun v u => ∃ r, v = some (.int r) ∧ (r = 0 ∨ r = 1) ∧ K r u
def mPl (K : Int64 → mSt → Prop) : Option Value → mSt → Prop := fun v u => ∃ r, v = some (.long r) ∧ K r u
def mPv (K : mSt → Prop) : Option Value → mSt → Prop := fun v u => v = none ∧ K u
def mPr (B c : Nat) (K : Nat → mSt → Prop) : Option Value → mSt → Prop := fun v u => ∃ q, v = some (.ref (B + q)) ∧ mK u q = c ∧ K q u
theorem mz_kI {X : mCx} {u : mSt} {pc : Nat} {lv : List (Nat × Value)} {rest : List Value} {K : Int32 → mSt → Prop} (k : ∀ r u2, K r u2 → mEx u u2 → mZ X u2 pc lv (.int r :: rest)) : ∀ v u2, mPi K v u2 → mEx u u2 → mZ X u2 pc lv (v.toList ++ rest) := fun v u2 hp hx => by
  obtain ⟨r, rfl, h⟩ := hp
  exact k r u2 h hx
theorem mz_kZ {X : mCx} {u : mSt} {pc : Nat} {lv : List (Nat × Value)} {rest : List Value} {K : Int32 → mSt → Prop} (k : ∀ r u2, (r = 0 ∨ r = 1) → K r u2 → mEx u u2 → mZ X u2 pc lv (.int r :: rest)) : ∀ v u2, mPz K v u2 → mEx u u2 → mZ X u2 pc lv (v.toList ++ rest) := fun v u2 hp hx => by
  obtain ⟨r, rfl, hb, h⟩ := hp
  exact k r u2 hb h hx
theorem mz_kL {X : mCx} {u : mSt} {pc : Nat} {lv : List (Nat × Value)} {rest : List Value} {K : Int64 → mSt → Prop} (k : ∀ r u2, K r u2 → mEx u u2 → mZ X u2 pc lv (.long r :: rest)) : ∀ v u2, mPl K v u2 → mEx u u2 → mZ X u2 pc lv (v.toList ++ rest) := fun v u2 hp hx => by
  obtain ⟨r, rfl, h⟩ := hp
  exact k r u2 h hx
theorem mz_kV {X : mCx} {u : mSt} {pc : Nat} {lv : List (Nat × Value)} {rest : List Value} {K : mSt → Prop} (k : ∀ u2, K u2 → mEx u u2 → mZ X u2 pc lv rest) : ∀ v u2, mPv K v u2 → mEx u u2 → mZ X u2 pc lv (v.toList ++ rest) := fun v u2 hp hx => by
  obtain ⟨rfl, h⟩ := hp
  exact k u2 h hx
theorem mz_kR {X : mCx} {u : mSt} {pc B c : Nat} {lv : List (Nat × Value)} {rest : List Value} {K : Nat → mSt → Prop} (k : ∀ q u2, mK u2 q = c → K q u2 → mEx u u2 → mZ X u2 pc lv (.ref (B + q) :: rest)) : ∀ v u2, mPr B c K v u2 → mEx u u2 → mZ X u2 pc lv (v.toList ++ rest) := fun v u2 hp hx => by
  obtain ⟨r, rfl, hb, h⟩ := hp
  exact k r u2 hb h hx
theorem mbn {x : Int32} (h : x = 0 ∨ x = 1) : narrow .boolean (.int x) = .int x := by rcases h with rfl | rfl <;> rfl
theorem mbf {x : Int32} (h : x = 0 ∨ x = 1) : fits .boolean (.int x) = true := by rcases h with rfl | rfl <;> rfl
theorem mtn {x k : Int32} {z : Int} (hk : k.toInt = z) (h : ¬ x = k) : x.toInt ≠ z := fun e => h (Int32.toInt_inj.mp (e.trans hk.symm))
theorem mte {x k : Int32} {z : Int} (hk : k.toInt = z) (h : x = k) : x.toInt = z := by rw [h]; exact hk
/-- a reference that may be null, tested -/
theorem mz_ifnonnull {X : mCx} {G : mG} {cc : ByteArray} {Ts : List Cond} {own mn : String} {fr lo : Nat} {ret : Option FieldType} {u0 : mSt} {P : Option Value → mSt → Prop} {u : mSt} {pc : Nat} {lv : List (Nat × Value)} {rest : List Value} {r : Option Nat} {off : Int} {tgt : Nat} (F : mFx X G cc Ts own mn fr lo ret u0 P) (d : decode cc pc = .ok (.ifnonnull off, 3)) (ht : (pc : Int) + off = (tgt : Int)) (kn : r = none → mZ X u (pc + 3) lv rest) (ks : ∀ q, r = some q → mZ X u tgt lv rest) : mZ X u pc lv (mrf G.1 r :: rest) := by
  obtain ⟨p, l, e, R, s, m, args, below, meth, c0, G', u1, nL, Q⟩ := X
  obtain ⟨rfl, rfl, hmn, hx, hb, hml, hown, hts, hlk, hrt, hfr, hlo, hrc, hrs, hU, hW0, hQ⟩ := F
  intro H locs ls h1 h2 h3 h4 h5 hl
  cases r with
  | none => exact lv_ifnonnullN hx hb d (kn rfl H locs ls h1 h2 h3 h4 h5 hl)
  | some q => exact lv_ifnonnull hx hb d ht (ks q rfl H locs ls h1 h2 h3 h4 h5 hl)
def mRows (i : Nat) : Int32 := [1, 5, 25, 125, 625, 3125, 15625].getD i 0
theorem mz_getRows {X : mCx} {G : mG} {cc : ByteArray} {Ts : List Cond} {own mn : String} {fr lo : Nat} {ret : Option FieldType} {u0 : mSt} {P : Option Value → mSt → Prop} {u : mSt} {pc : Nat} {lv : List (Nat × Value)} {rest : List Value} {index : Nat} (F : mFx X G cc Ts own mn fr lo ret u0 P) (d : decode cc pc = .ok (.getstatic index, 3)) (w : Cond.fieldLink own index RX8 "ROWS_OF_ACTS" "[I" ∈ Ts ∨ ∃ host, Cond.fieldLinkNest own index RX8 "ROWS_OF_ACTS" "[I" host ∈ tables_1) (k : mZ X u (pc + 3) lv (.ref G.2.2.2.2 :: rest)) : mZ X u pc lv rest := by
  obtain ⟨p, l, e, R, s, m, args, below, meth, c0, G', u1, nL, Q⟩ := X
  obtain ⟨rfl, rfl, hmn, hx, hb, hml, hown, hts, hlk, hrt, hfr, hlo, hrc, hrs, hU, hW0, hQ⟩ := F
  intro H locs ls h1 h2 h3 h4 h5 hl
  obtain ⟨cf, kf, fi, f, a, cell, z1, z2, z3, z4, z5, z6, z7, z8⟩ := hU.2.2.1
  have hc : H[a]? = some cell := by rw [h1.2.1 a (Nat.not_le.mp z8)]; exact z5
  rcases w with w | ⟨host, w⟩
  · exact W.gets hx hb hown (hts _ w) z1 z2 z3 z4 hc (fun e => by rw [e] at z6; cases z6) z7 rfl d (k H locs ls h1 h2 h3 h4 h5 hl)
  · exact va_WgetsN hx hb hown (va_Nw.use rfl (hU.2.1 _ w rfl)) z1 z2 z3 z4 hc (fun e => by rw [e] at z6; cases z6) z7 rfl d (k H locs ls h1 h2 h3 h4 h5 hl)
theorem mz_rows {X : mCx} {G : mG} {cc : ByteArray} {Ts : List Cond} {own mn : String} {fr lo : Nat} {ret : Option FieldType} {u0 : mSt} {P : Option Value → mSt → Prop} {u : mSt} {pc : Nat} {lv : List (Nat × Value)} {rest : List Value} {i : Int32} (F : mFx X G cc Ts own mn fr lo ret u0 P) (d : decode cc pc = .ok (.iaload, 1)) (hin : vp_in i 7) (k : mZ X u (pc + 1) lv (.int (mRows i.toNatClampNeg) :: rest)) : mZ X u pc lv (.int i :: .ref G.2.2.2.2 :: rest) := by
  obtain ⟨p, l, e, R, s, m, args, below, meth, c0, G', u1, nL, Q⟩ := X
  obtain ⟨rfl, rfl, hmn, hx, hb, hml, hown, hts, hlk, hrt, hfr, hlo, hrc, hrs, hU, hW0, hQ⟩ := F
  intro H locs ls h1 h2 h3 h4 h5 hl
  obtain ⟨cell, t1, t2, t3, t4, t5, t6, t7⟩ := hU.2.2.2.1
  have hc : H[G'.2.2.2.2]? = some cell := by rw [h1.2.1 _ (Nat.not_le.mp t7)]; exact t1
  have hlt : i.toNatClampNeg < 7 := Nat.not_le.mp fun q => hin (Or.inr q)
  exact W.iald hx hb hc t2 t3 (fun q => hin (q.imp id (fun z => Nat.le_trans t4 z))) (t6 _ hlt) rfl rfl d (k H locs ls h1 h2 h3 h4 h5 hl)
theorem mz_min {X : mCx} {G : mG} {cc : ByteArray} {Ts : List Cond} {own mn : String} {fr lo : Nat} {ret : Option FieldType} {u0 : mSt} {P : Option Value → mSt → Prop} {u : mSt} {pc : Nat} {lv : List (Nat × Value)} {rest : List Value} {x y : Int32} {index : Nat} (F : mFx X G cc Ts own mn fr lo ret u0 P) (d : decode cc pc = .ok (.invokestatic index, 3)) (w1 : Cond.methodLink own index Lib.Math.min.name ∈ Ts) (w2 : Cond.static Lib.Math.min.name ∈ Ts) (w3 : Cond.initialized "java/lang/Math" ∈ Ts) (w4 : Cond.code Lib.Math.min.name Lib.Math.min.code 2 (some .int) ∈ Ts) (hR : 1 ≤ fr ∧ 21 ≤ lo) (hcat : (rest.map fun v => v.category).sum ≤ 8) (k : mZ X u (pc + 3) lv (.int (if y < x then y else x) :: rest)) : mZ X u pc lv (.int y :: .int x :: rest) := by
  obtain ⟨p, l, e, R, s, m, args, below, meth, c0, G', u1, nL, Q⟩ := X
  obtain ⟨rfl, rfl, hmn, hx, hb, hml, hown, hts, hlk, hrt, hfr, hlo, hrc, hrs, hU, hW0, hQ⟩ := F
  intro H locs ls h1 h2 h3 h4 h5 hl
  exact va_mmin hx hb (hml.trans hl.1.symm) hown (hts _ w1) (hts _ w2) (hts _ w3) (hts _ w4) (by rw [hfr]; exact hR.1) (by rw [hlo]; have := hR.2; omega) (by have := h1.1; have := hW0.1; rw [hrc]; omega) (by have := h1.1; have := hW0.1; rw [hrs]; omega) d (k H locs ls h1 h2 h3 h4 h5 hl)
theorem mz_alen {X : mCx} {G : mG} {cc : ByteArray} {Ts : List Cond} {own mn : String} {fr lo : Nat} {ret : Option FieldType} {u0 : mSt} {P : Option Value → mSt → Prop} {u : mSt} {pc : Nat} {lv : List (Nat × Value)} {rest : List Value} {p0 c ty n b : Nat} (F : mFx X G cc Ts own mn fr lo ret u0 P) (d : decode cc pc = .ok (.arraylength, 1)) (hk : mK u p0 = c) (hi : mKi c = some (.inr (ty, n, b))) (hty : ty < 6) (k : mZ X u (pc + 1) lv (.int (nI n) :: rest)) : mZ X u pc lv (.ref (G.1 + p0) :: rest) := by
  obtain ⟨p, l, e, R, s, m, args, below, meth, c0, G', u1, nL, Q⟩ := X
  obtain ⟨rfl, rfl, hmn, hx, hb, hml, hown, hts, hlk, hrt, hfr, hlo, hrc, hrs, hU, hW0, hQ⟩ := F
  intro H locs ls h1 h2 h3 h4 h5 hl
  have hc : ∃ x, mcell G' u p0 = some (.inl (G'.2.2.1 ty, n, x)) := by simp only [mcell, hk, hi]; exact ⟨_, rfl⟩
  obtain ⟨x, hc⟩ := hc
  have hP : va_P G'.2.1 mCl [(G'.1 + p0, .inl (G'.2.2.1 ty, n, x))] H := fun j q hq => by
    have hj : j = 0 := by have := (List.getElem?_eq_some_iff.mp hq).1; simp at this; exact this
    subst hj
    cases hq
    exact h1.2.2.2.1 p0 _ hc
  have ht : ∃ t, (mTys G')[ty]? = some (G'.2.2.1 ty, t) := by
    rcases (show ty = 0 ∨ ty = 1 ∨ ty = 2 ∨ ty = 3 ∨ ty = 4 ∨ ty = 5 by omega) with rfl | rfl | rfl | rfl | rfl | rfl <;> exact ⟨_, rfl⟩
  obtain ⟨t, ht⟩ := ht
  exact va_alen (D := G'.2.1) hx hb hU.1 hP 0 ty rfl ht rfl d (k H locs ls h1 h2 h3 h4 h5 hl)
theorem mz_putRF {X : mCx} {G : mG} {cc : ByteArray} {Ts : List Cond} {own mn : String} {fr lo : Nat} {ret : Option FieldType} {u0 : mSt} {P : Option Value → mSt → Prop} {u : mSt} {pc : Nat} {lv : List (Nat × Value)} {rest : List Value} {p0 c k b q0 ci N index : Nat} {bs : List Nat} {T : u_T} {tys : Nat → FieldType} (F : mFx X G cc Ts own mn fr lo ret u0 P) (d : decode cc pc = .ok (.putfield index, 3)) (hin2 : mn = "<init>") (f1 : mKi c = some (.inl (ci, bs))) (f2 : bs[k]? = some b) (f3 : mCl[ci]? = some (own, T, N)) (f4 : k < N) (f5 : ∀ w ∈ u_ws own T N, w ∈ Ts) (f6 : ∀ j, j < N → parseFieldDescriptor (T j).2.2.1 = some (tys j)) (f7 : ∀ a, a < N → ∀ b, b < N → a ≠ b → (T a).2.1 ≠ (T b).2.1) (f8 : fits (tys k) (.ref 0) = true) (f9 : (T k).2.2.2 = true) (f11 : (T k).1 = own) (f10 : Cond.fieldLink own index (T k).1 (T k).2.1 (T k).2.2.1 ∈ Ts) (hb0 : b ≠ 0) (hk : mK u p0 = c) (hkq : mK u q0 = b) (kk : ∀ w, w = mpR u p0 k (some q0) → mEx u w → mZ X w (pc + 3) lv rest) : mZ X u pc lv (.ref (G.1 + q0) :: .ref (G.1 + p0) :: rest) := by
  obtain ⟨p, l, e, R, s, m, args, below, meth, c0, G', u1, nL, Q⟩ := X
  obtain ⟨rfl, rfl, hmn, hx, hb, hml, hown, hts, hlk, hrt, hfr, hlo, hrc, hrs, hU, hW0, hQ⟩ := F
  intro H locs ls h1 h2 h3 h4 h5 hl
  have hap := va_apart (own := own) hts f5 tys f6 f7 hU.1 f3
  obtain ⟨r, g1, cell, q1, q2, q3, q4⟩ := h1.2.2.2.1 p0 _ (mcell_obj hk f1)
  have hr : r = (own, T, N) := Option.some.inj (g1.symm.trans f3)
  subst hr
  obtain ⟨hS, hfc, kC, hkC, hkind⟩ := hU.1.1 ci _ f3
  obtain ⟨cf, kf, fi, fd, hi, hsl⟩ := hS k f4
  have hst := (u_facts hfc hkC (u_lays hts f5 f4) hi).1
  have hlen : k < bs.length := (List.getElem?_eq_some_iff.mp f2).1
  have hlay := hts _ (f5 _ (u_in_lay f4))
  unfold u_lay at hlay
  rw [if_pos f9] at hlay
  have hcf : m.cls = cf := by
    obtain ⟨_, _, c', _, _, _, -, -, hf', -, -, -, hown2, -⟩ := Cond.laysFinal_spec hlay
    have e1 : c' = cf := by have := hi.symm.trans hf'; simp at this; exact this.1.symm
    rw [f11] at hown2
    rw [← e1]; exact Option.some.inj (hown.symm.trans hown2)
  have h6 := u_fits (v := .ref (G'.1 + q0)) hfc hkC hkind (Or.inr hlay) hi (f6 k f4) (by cases h9 : tys k <;> rfl) (by cases h9 : tys k <;> first | rfl | (rw [h9] at f8; exact f8) | (rw [h9] at f8; simp [fits] at f8))
  refine W.putFinK hx hb hown (hts _ f10) hi hst hcf (hmn.trans hin2) (by rw [q2]; exact h6) q1 q3 (by rw [hsl]; exact k2_hasslot (q4 k f4)) rfl rfl d fun H' e1 e2 e3 => ?_
  rw [hsl] at e1
  have hWd : mWd G' (mpR u p0 k (some q0)) H' := h1.putF hk f1 f3 hap f4 hlen q1 q2 q3 q4 e1 e2 e3 rfl rfl rfl (fun q hq => mcell_congr rfl rfl (mup_ne _ hq) rfl) (by show _ = mfv G'.1 (mI u p0) (mup (mR u) p0 k (some q0) p0) bs 0; rw [mup_self]; exact mfv_setR _ _ _ (some q0) _ _ _ f2 hb0) (h1.2.2.2.2.ref (fun q h _ => by cases h; rw [hkq]; simp only [mfk, hk, f1]; rw [f2]; rfl))
  have hts' : mtot H' = mtot H := by rw [hWd.1.2.1, h1.1.2.1]; rfl
  refine mrecount ?_
  exact kk _ rfl ((mEx.refl u).of rfl rfl rfl) H' _ ls hWd (by rw [e2]; exact h2) (by rw [hts']; exact h3) (fun q hq => by
      rcases List.mem_append.mp hq with hq | hq
      · exact h4 q hq
      · rw [List.mem_singleton.mp hq]; exact Nat.le_add_right _ _) (h5.of rfl rfl rfl) hl
theorem mz_copyi {X : mCx} {G : mG} {cc : ByteArray} {Ts : List Cond} {own mn : String} {fr lo : Nat} {ret : Option FieldType} {u0 : mSt} {P : Option Value → mSt → Prop} {u : mSt} {pc : Nat} {lv : List (Nat × Value)} {rest : List Value} {p0 p1 c1 c2 n0 n1 index : Nat} {sp dp n : Int32} (F : mFx X G cc Ts own mn fr lo ret u0 P) (d : decode cc pc = .ok (.invokestatic index, 3)) (w1 : Cond.methodLink own index arraycopyName ∈ Ts) (w2 : Cond.native arraycopyName ∈ Ts) (w3 : Cond.static arraycopyName ∈ Ts) (w4 : Cond.initialized "java/lang/System" ∈ Ts) (hR : 1 ≤ fr ∧ nativeFrameWords "java/lang/System" "arraycopy" 5 + 19 ≤ lo) (hcat : (rest.map fun v => v.category).sum ≤ 8)
    (hk0 : mK u p0 = c1) (hi0 : mKi c1 = some (.inr (0, n0, 0))) (hk1 : mK u p1 = c2) (hi1 : mKi c2 = some (.inr (0, n1, 0))) (g1 : ¬ sp < 0) (g2 : ¬ dp < 0) (g3 : ¬ n < 0) (g4 : sp.toNatClampNeg + n.toNatClampNeg ≤ n0) (g5 : dp.toNatClampNeg + n.toNatClampNeg ≤ n1)
    (k : ∀ w, w = mrI u p1 (va_cpy (mI u p0) (mI u p1) sp.toNatClampNeg dp.toNatClampNeg n.toNatClampNeg) → mEx u w → mZ X w (pc + 3) lv rest) : mZ X u pc lv (.int n :: .int dp :: .ref (G.1 + p1) :: .int sp :: .ref (G.1 + p0) :: rest) := by
  obtain ⟨p, l, e, R, s, m, args, below, meth, c0, G', u1, nL, Q⟩ := X
  obtain ⟨rfl, rfl, hmn, hx, hb, hml, hown, hts, hlk, hrt, hfr, hlo, hrc, hrs, hU, hW0, hQ⟩ := F
  intro H locs ls h1 h2 h3 h4 h5 hl
  have nn : ∀ z : Int32, ¬ z < 0 → z.toInt = (z.toNatClampNeg : Int) := by
    intro z hz
    have hz0 : (0 : Int) ≤ z.toInt := by
      have := Int32.not_lt.mp hz
      simpa using Int32.le_iff_toInt_le.mp this
    show z.toInt = ((z.toInt.toNat : Nat) : Int)
    omega
  have hc0 : H[G'.1 + p0]? = some (vp_cell (G'.2.2.1 0) (n0, .inl (mI u p0))) := h1.2.2.2.1 p0 _ (mcell_arrI (u := u) (G := G') hk0 hi0 (by decide))
  have hc1 : H[G'.1 + p1]? = some (vp_cell (G'.2.2.1 0) (n1, .inl (mI u p1))) := h1.2.2.2.1 p1 _ (mcell_arrI (u := u) (G := G') hk1 hi1 (by decide))
  intro T hT X
  obtain ⟨-, k0, y0, cm0, yy0⟩ := (hU.1.2 0 _ rfl).1 n0 (fun j => .int (mI u p0 j))
  obtain ⟨-, k1, y1, cm1, yy1⟩ := (hU.1.2 0 _ rfl).1 n1 (fun j => .int (mI u p1 j))
  obtain ⟨vm', X', step⟩ := X.arraycopy hx hown (hts _ w1) (hts _ w2) (hts _ w3) (hts _ w4) (src := G'.1 + p0) (dst := G'.1 + p1) (cs := vp_cell (G'.2.2.1 0) (n0, .inl (mI u p0))) (cd := vp_cell (G'.2.2.1 0) (n1, .inl (mI u p1))) (srcPos := sp) (destPos := dp) (n := n) (by rw [hT]; exact hc0) (by rw [hT]; exact hc1)
    (fun _ h => by cases h) (fun _ h => by cases h) (fun h => by cases h) (fun h => by cases h) y0 y1 yy0 yy1 (by simp [refKind]) g1 g2 g3
    (by rw [nn sp g1, nn n g3]; show ¬ _ > ((arrV _ n0 (fun j => .int (mI u p0 j))).slots.size : Int); rw [arrV_size]; omega)
    (by rw [nn dp g2, nn n g3]; show ¬ _ > ((arrV _ n1 (fun j => .int (mI u p1 j))).slots.size : Int); rw [arrV_size]; omega)
    (fun vm₁ _ i hi => by
      have e : (vp_cell (G'.2.2.1 0) (n0, .inl (mI u p0))).slots.getD (sp.toNatClampNeg + i) .null = .int (mI u p0 (sp.toNatClampNeg + i)) := by
        show (arrV _ n0 (fun j => .int (mI u p0 j))).slots.getD _ _ = _
        rw [Array.getD_eq_getD_getElem?, arrV_read _ _ (by omega)]
        rfl
      refine ⟨?_, ?_⟩
      · rw [e]
        rfl
      · rw [e]
        exact trivial)
    (g := F0 m pc ls (.int n :: .int dp :: .ref (G'.1 + p1) :: .int sp :: .ref (G'.1 + p0) :: rest)) rfl (by rw [hml, hl.1]) (rest := rest) rfl (by rw [hb]; exact d) (by rw [hfr]; exact hR.1) (by rw [hlo]; have := hR.2; show 2 * 0 + _ + _ ≤ _; omega)
  have e1 : copied (vp_cell (G'.2.2.1 0) (n0, .inl (mI u p0))) (vp_cell (G'.2.2.1 0) (n1, .inl (mI u p1))) sp dp n = vp_cell (G'.2.2.1 0) (n1, .inl (va_cpy (mI u p0) (mI u p1) sp.toNatClampNeg dp.toNatClampNeg n.toNatClampNeg)) := va_copied (fun z => .int z) _ _ (mI u p0) (mI u p1) g4
  rw [e1] at X' step
  have hlt : G'.1 + p1 < H.size := (Array.getElem?_eq_some_iff.mp hc1).1
  generalize hH1 : H.setIfInBounds (G'.1 + p1) (vp_cell (G'.2.2.1 0) (n1, .inl (va_cpy (mI u p0) (mI u p1) sp.toNatClampNeg dp.toNatClampNeg n.toNatClampNeg))) = H1
  have hheap : ((T.setVm vm').setCell (G'.1 + p1) (vp_cell (G'.2.2.1 0) (n1, .inl (va_cpy (mI u p0) (mI u p1) sp.toNatClampNeg dp.toNatClampNeg n.toNatClampNeg)))).heap = H1 := by rw [← hH1, ← hT]; rfl
  have oq : ∀ q : Nat, q ≠ G'.1 + p1 → H1[q]? = H[q]? := fun q hq => by rw [← hH1]; simp [Array.getElem?_setIfInBounds, Ne.symm hq]
  have hz : H1.size = H.size := by rw [← hH1]; simp
  have he : H1[G'.1 + p1]? = some (vp_cell (G'.2.2.1 0) (n1, .inl (va_cpy (mI u p0) (mI u p1) sp.toNatClampNeg dp.toNatClampNeg n.toNatClampNeg))) := by rw [← hH1]; simp [Array.getElem?_setIfInBounds, hlt]
  have hWd : mWd G' (mrI u p1 (va_cpy (mI u p0) (mI u p1) sp.toNatClampNeg dp.toNatClampNeg n.toNatClampNeg)) H1 := h1.put (p := p1) rfl rfl rfl (fun q hq => mcell_congr rfl (mrow_ne _ hq) rfl rfl) (fun e' he' => by
    rw [mcell_arrI (u := mrI u p1 (va_cpy (mI u p0) (mI u p1) sp.toNatClampNeg dp.toNatClampNeg n.toNatClampNeg)) (G := G') hk1 hi1 (by decide)] at he'
    cases he'
    show H1[G'.1 + p1]? = some (vp_cell _ _)
    rw [he]
    have e2 : mI (mrI u p1 (va_cpy (mI u p0) (mI u p1) sp.toNatClampNeg dp.toNatClampNeg n.toNatClampNeg)) p1 = va_cpy (mI u p0) (mI u p1) sp.toNatClampNeg dp.toNatClampNeg n.toNatClampNeg := mrow_self _ _ _
    rw [e2]) hz oq (by rw [he, hc1, vp_cell_i, vp_cell_i]; simp [arrV_size]) (h1.2.2.2.2.int rfl rfl)
  have hts' : mtot H1 = mtot H := by rw [hWd.1.2.1, h1.1.2.1]; rfl
  have key : ∀ L : List Loc, (∀ q ∈ L, G'.1 ≤ q.base) → W p l e R s m args below meth c0 H1 L (H.size - s.heap.size) (mtot H - mtot s.heap) Q (F0 m (pc + 3) ls rest) := fun L hL => mrecount (k _ rfl ((mEx.refl u).of rfl rfl rfl) H1 L ls hWd (by rw [hz]; exact h2) (by rw [hts']; exact h3) hL (h5.of rfl rfl rfl) hl)
  obtain ⟨t, a1, b1⟩ := key _ (fun q hq => by
      rcases List.mem_append.mp hq with h | h
      · exact h4 q h
      · obtain ⟨z, -, hz⟩ := List.mem_map.mp h
        rw [← hz]
        exact Nat.le_add_right _ _) _ hheap X'
  exact ⟨t, step t a1, b1⟩
theorem mz_copyl {X : mCx} {G : mG} {cc : ByteArray} {Ts : List Cond} {own mn : String} {fr lo : Nat} {ret : Option FieldType} {u0 : mSt} {P : Option Value → mSt → Prop} {u : mSt} {pc : Nat} {lv : List (Nat × Value)} {rest : List Value} {p0 p1 c1 c2 n0 n1 index : Nat} {sp dp n : Int32} (F : mFx X G cc Ts own mn fr lo ret u0 P) (d : decode cc pc = .ok (.invokestatic index, 3)) (w1 : Cond.methodLink own index arraycopyName ∈ Ts) (w2 : Cond.native arraycopyName ∈ Ts) (w3 : Cond.static arraycopyName ∈ Ts) (w4 : Cond.initialized "java/lang/System" ∈ Ts) (hR : 1 ≤ fr ∧ nativeFrameWords "java/lang/System" "arraycopy" 5 + 19 ≤ lo) (hcat : (rest.map fun v => v.category).sum ≤ 8)
    (hk0 : mK u p0 = c1) (hi0 : mKi c1 = some (.inr (3, n0, 0))) (hk1 : mK u p1 = c2) (hi1 : mKi c2 = some (.inr (3, n1, 0))) (g1 : ¬ sp < 0) (g2 : ¬ dp < 0) (g3 : ¬ n < 0) (g4 : sp.toNatClampNeg + n.toNatClampNeg ≤ n0) (g5 : dp.toNatClampNeg + n.toNatClampNeg ≤ n1)
    (k : ∀ w, w = mrL u p1 (va_cpy (mL u p0) (mL u p1) sp.toNatClampNeg dp.toNatClampNeg n.toNatClampNeg) → mEx u w → mZ X w (pc + 3) lv rest) : mZ X u pc lv (.int n :: .int dp :: .ref (G.1 + p1) :: .int sp :: .ref (G.1 + p0) :: rest) := by
  obtain ⟨p, l, e, R, s, m, args, below, meth, c0, G', u1, nL, Q⟩ := X
  obtain ⟨rfl, rfl, hmn, hx, hb, hml, hown, hts, hlk, hrt, hfr, hlo, hrc, hrs, hU, hW0, hQ⟩ := F
  intro H locs ls h1 h2 h3 h4 h5 hl
  have nn : ∀ z : Int32, ¬ z < 0 → z.toInt = (z.toNatClampNeg : Int) := by
    intro z hz
    have hz0 : (0 : Int) ≤ z.toInt := by
      have := Int32.not_lt.mp hz
      simpa using Int32.le_iff_toInt_le.mp this
    show z.toInt = ((z.toInt.toNat : Nat) : Int)
    omega
  have hc0 : H[G'.1 + p0]? = some (vp_cell (G'.2.2.1 3) (n0, .inr (.inl (mL u p0)))) := h1.2.2.2.1 p0 _ (mcell_arrL (u := u) (G := G') hk0 hi0)
  have hc1 : H[G'.1 + p1]? = some (vp_cell (G'.2.2.1 3) (n1, .inr (.inl (mL u p1)))) := h1.2.2.2.1 p1 _ (mcell_arrL (u := u) (G := G') hk1 hi1)
  intro T hT X
  obtain ⟨-, k0, y0, cm0, yy0⟩ := (hU.1.2 3 _ rfl).1 n0 (fun j => .long (mL u p0 j))
  obtain ⟨-, k1, y1, cm1, yy1⟩ := (hU.1.2 3 _ rfl).1 n1 (fun j => .long (mL u p1 j))
  obtain ⟨vm', X', step⟩ := X.arraycopy hx hown (hts _ w1) (hts _ w2) (hts _ w3) (hts _ w4) (src := G'.1 + p0) (dst := G'.1 + p1) (cs := vp_cell (G'.2.2.1 3) (n0, .inr (.inl (mL u p0)))) (cd := vp_cell (G'.2.2.1 3) (n1, .inr (.inl (mL u p1)))) (srcPos := sp) (destPos := dp) (n := n) (by rw [hT]; exact hc0) (by rw [hT]; exact hc1)
    (fun _ h => by cases h) (fun _ h => by cases h) (fun h => by cases h) (fun h => by cases h) y0 y1 yy0 yy1 (by simp [refKind]) g1 g2 g3
    (by rw [nn sp g1, nn n g3]; show ¬ _ > ((arrV _ n0 (fun j => .long (mL u p0 j))).slots.size : Int); rw [arrV_size]; omega)
    (by rw [nn dp g2, nn n g3]; show ¬ _ > ((arrV _ n1 (fun j => .long (mL u p1 j))).slots.size : Int); rw [arrV_size]; omega)
    (fun vm₁ _ i hi => by
      have e : (vp_cell (G'.2.2.1 3) (n0, .inr (.inl (mL u p0)))).slots.getD (sp.toNatClampNeg + i) .null = .long (mL u p0 (sp.toNatClampNeg + i)) := by
        show (arrV _ n0 (fun j => .long (mL u p0 j))).slots.getD _ _ = _
        rw [Array.getD_eq_getD_getElem?, arrV_read _ _ (by omega)]
        rfl
      refine ⟨?_, ?_⟩
      · rw [e]
        rfl
      · rw [e]
        exact trivial)
    (g := F0 m pc ls (.int n :: .int dp :: .ref (G'.1 + p1) :: .int sp :: .ref (G'.1 + p0) :: rest)) rfl (by rw [hml, hl.1]) (rest := rest) rfl (by rw [hb]; exact d) (by rw [hfr]; exact hR.1) (by rw [hlo]; have := hR.2; show 2 * 0 + _ + _ ≤ _; omega)
  have e1 : copied (vp_cell (G'.2.2.1 3) (n0, .inr (.inl (mL u p0)))) (vp_cell (G'.2.2.1 3) (n1, .inr (.inl (mL u p1)))) sp dp n = vp_cell (G'.2.2.1 3) (n1, .inr (.inl (va_cpy (mL u p0) (mL u p1) sp.toNatClampNeg dp.toNatClampNeg n.toNatClampNeg))) := va_copied (fun z => .long z) _ _ (mL u p0) (mL u p1) g4
  rw [e1] at X' step
  have hlt : G'.1 + p1 < H.size := (Array.getElem?_eq_some_iff.mp hc1).1
  generalize hH1 : H.setIfInBounds (G'.1 + p1) (vp_cell (G'.2.2.1 3) (n1, .inr (.inl (va_cpy (mL u p0) (mL u p1) sp.toNatClampNeg dp.toNatClampNeg n.toNatClampNeg)))) = H1
  have hheap : ((T.setVm vm').setCell (G'.1 + p1) (vp_cell (G'.2.2.1 3) (n1, .inr (.inl (va_cpy (mL u p0) (mL u p1) sp.toNatClampNeg dp.toNatClampNeg n.toNatClampNeg))))).heap = H1 := by rw [← hH1, ← hT]; rfl
  have oq : ∀ q : Nat, q ≠ G'.1 + p1 → H1[q]? = H[q]? := fun q hq => by rw [← hH1]; simp [Array.getElem?_setIfInBounds, Ne.symm hq]
  have hz : H1.size = H.size := by rw [← hH1]; simp
  have he : H1[G'.1 + p1]? = some (vp_cell (G'.2.2.1 3) (n1, .inr (.inl (va_cpy (mL u p0) (mL u p1) sp.toNatClampNeg dp.toNatClampNeg n.toNatClampNeg)))) := by rw [← hH1]; simp [Array.getElem?_setIfInBounds, hlt]
  have hWd : mWd G' (mrL u p1 (va_cpy (mL u p0) (mL u p1) sp.toNatClampNeg dp.toNatClampNeg n.toNatClampNeg)) H1 := h1.put (p := p1) rfl rfl rfl (fun q hq => mcell_congr rfl rfl rfl (mrow_ne _ hq)) (fun e' he' => by
    rw [mcell_arrL (u := mrL u p1 (va_cpy (mL u p0) (mL u p1) sp.toNatClampNeg dp.toNatClampNeg n.toNatClampNeg)) (G := G') hk1 hi1] at he'
    cases he'
    show H1[G'.1 + p1]? = some (vp_cell _ _)
    rw [he]
    have e2 : mL (mrL u p1 (va_cpy (mL u p0) (mL u p1) sp.toNatClampNeg dp.toNatClampNeg n.toNatClampNeg)) p1 = va_cpy (mL u p0) (mL u p1) sp.toNatClampNeg dp.toNatClampNeg n.toNatClampNeg := mrow_self _ _ _
    rw [e2]) hz oq (by rw [he, hc1, vp_cell_l, vp_cell_l]; simp [arrV_size]) (h1.2.2.2.2.int rfl rfl)
  have hts' : mtot H1 = mtot H := by rw [hWd.1.2.1, h1.1.2.1]; rfl
  have key : ∀ L : List Loc, (∀ q ∈ L, G'.1 ≤ q.base) → W p l e R s m args below meth c0 H1 L (H.size - s.heap.size) (mtot H - mtot s.heap) Q (F0 m (pc + 3) ls rest) := fun L hL => mrecount (k _ rfl ((mEx.refl u).of rfl rfl rfl) H1 L ls hWd (by rw [hz]; exact h2) (by rw [hts']; exact h3) hL (h5.of rfl rfl rfl) hl)
  obtain ⟨t, a1, b1⟩ := key _ (fun q hq => by
      rcases List.mem_append.mp hq with h | h
      · exact h4 q h
      · obtain ⟨z, -, hz⟩ := List.mem_map.mp h
        rw [← hz]
        exact Nat.le_add_right _ _) _ hheap X'
  exact ⟨t, step t a1, b1⟩
