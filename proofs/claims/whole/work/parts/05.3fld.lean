theorem mU.moved {G : mG} {s U : State} (hW : s.WarmedH U.vm) (h : mU G s) : mU G U := by
  obtain ⟨h1, h2, h3, h4, h6, h7, h8, h9, h10, h11⟩ := h
  refine ⟨va_K.moved hW.alike h1, fun w hw hn => ?_, va_Z.moved hW.alike h3, va_T.moved hW.alike h4, va_AO.moved hW.alike h6, va_AO.moved hW.alike h7, fun w hw => (h8 w hw).imp (fun _ h => vk_R.warm hW h), vx_Zq.moved hW.alike h9, vx_Zq.moved hW.alike h10, va_Nc.moved hW.alike h11⟩
  have h5 := h2 w hw hn
  cases w <;> first | exact va_Nw.warmF hW h5 | exact va_Nw.warmM hW h5 | exact va_Nw.warmC hW h5 | exact va_Nw.warmD hW h5 | (simp [misN] at hn)
theorem mEx.refl (u : mSt) : mEx u u := ⟨Nat.le_refl _, Nat.le_refl _, fun _ _ _ h => h⟩
theorem mEx.trans {u v w : mSt} (h : mEx u v) (k : mEx v w) : mEx u w := ⟨Nat.le_trans h.1 k.1, Nat.le_trans h.2.1 k.2.1, fun p c hc hp => k.2.2 p c hc (h.2.2 p c hc hp)⟩
theorem mEx.of {u v w : mSt} (h : mEx u v) (hn : mN w = mN v) (ht : mT w = mT v) (hk : mK w = mK v) : mEx u w := ⟨by rw [hn]; exact h.1, by rw [ht]; exact h.2.1, by rw [hk]; exact h.2.2⟩
theorem mz_getI {X : mCx} {G : mG} {cc : ByteArray} {Ts : List Cond} {own mn : String} {fr lo : Nat} {ret : Option FieldType} {u0 : mSt} {P : Option Value → mSt → Prop} {u : mSt} {pc : Nat} {lv : List (Nat × Value)} {rest : List Value} {p0 c k index : Nat} {ty : FieldType} {fin : Bool} (F : mFx X G cc Ts own mn fr lo ret u0 P) (d : decode cc pc = .ok (.getfield index, 3)) (f : mFld Ts own index c k 0 ty fin) (hk : mK u p0 = c) (kk : mZ X u (pc + 3) lv (.int (mI u p0 k) :: rest)) : mZ X u pc lv (.ref (G.1 + p0) :: rest) := by
  obtain ⟨p, l, e, R, s, m, args, below, meth, c, G', u1, nL, Q⟩ := X
  obtain ⟨rfl, rfl, hmn, hx, hb, hml, hown, hts, hlk, hrt, hfr, hlo, hrc, hrs, hU, hW0, hQ⟩ := F
  intro H locs ls h1 h2 h3 h4 h5 hl
  obtain ⟨ci, bs, C, T, N, tys, f1, f2, f3, f4, f5, f6, f7, f8, f9, f10⟩ := f
  have hP : va_P G'.2.1 mCl [(G'.1 + p0, .inr (ci, mfv G'.1 (mI u p0) (mR u p0) bs 0))] H := fun j q hq => by
    have hj : j = 0 := by have := (List.getElem?_eq_some_iff.mp hq).1; simp at this; exact this
    subst hj
    cases hq
    exact h1.2.2.2.1 p0 _ (mcell_obj hk f1)
  have hv : (mfv G'.1 (mI u p0) (mR u p0) bs 0)[k]? = some (.int (mI u p0 k)) := by rw [mfv_get, f2]; simp
  rcases f10 with ⟨f10, -⟩ | ⟨host, f10⟩
  · exact va_get (D := G'.2.1) (ci := ci) (C := C) (T := T) (N := N) hx hb hts f5 hown hU.1 hP 0 rfl f3 k f4 (hts _ f10) (fun _ h => h) hv d (kk H locs ls h1 h2 h3 h4 h5 hl)
  · exact va_getN (D := G'.2.1) (ci := ci) (C := C) (T := T) (N := N) hx hb hts f5 hown hU.1 hP 0 rfl f3 k f4 (va_Nw.use rfl (hU.2.1 _ f10 rfl)) (fun _ h => h) hv d (kk H locs ls h1 h2 h3 h4 h5 hl)
theorem mz_getR {X : mCx} {G : mG} {cc : ByteArray} {Ts : List Cond} {own mn : String} {fr lo : Nat} {ret : Option FieldType} {u0 : mSt} {P : Option Value → mSt → Prop} {u : mSt} {pc : Nat} {lv : List (Nat × Value)} {rest : List Value} {p0 c k b index : Nat} {ty : FieldType} {fin : Bool} (F : mFx X G cc Ts own mn fr lo ret u0 P) (d : decode cc pc = .ok (.getfield index, 3)) (f : mFld Ts own index c k b ty fin) (hb0 : b ≠ 0) (hk : mK u p0 = c) {q0 : Nat} (hq0 : mR u p0 k = some q0) (kk : mK u q0 = b → mZ X u (pc + 3) lv (.ref (G.1 + q0) :: rest)) : mZ X u pc lv (.ref (G.1 + p0) :: rest) := by
  obtain ⟨p, l, e, R, s, m, args, below, meth, c, G', u1, nL, Q⟩ := X
  obtain ⟨rfl, rfl, hmn, hx, hb, hml, hown, hts, hlk, hrt, hfr, hlo, hrc, hrs, hU, hW0, hQ⟩ := F
  intro H locs ls h1 h2 h3 h4 h5 hl
  obtain ⟨ci, bs, C, T, N, tys, f1, f2, f3, f4, f5, f6, f7, f8, f9, f10⟩ := f
  have hP : va_P G'.2.1 mCl [(G'.1 + p0, .inr (ci, mfv G'.1 (mI u p0) (mR u p0) bs 0))] H := fun j q hq => by
    have hj : j = 0 := by have := (List.getElem?_eq_some_iff.mp hq).1; simp at this; exact this
    subst hj
    cases hq
    exact h1.2.2.2.1 p0 _ (mcell_obj hk f1)
  have hv : (mfv G'.1 (mI u p0) (mR u p0) bs 0)[k]? = some (.ref (G'.1 + q0)) := by rw [mfv_get, f2]; simp [hb0, hq0, mrf]
  have hfk : mfk (mK u p0) k = b := by simp only [mfk, hk, f1]; rw [f2]; rfl
  have hkq : mK u q0 = b := by rw [← hfk]; exact h1.2.2.2.2 p0 k q0 (by rw [hfk]; exact hb0) hq0
  rcases f10 with ⟨f10, -⟩ | ⟨host, f10⟩
  · exact va_get (D := G'.2.1) (ci := ci) (C := C) (T := T) (N := N) hx hb hts f5 hown hU.1 hP 0 rfl f3 k f4 (hts _ f10) (fun _ h => h) hv d (kk hkq H locs ls h1 h2 h3 h4 h5 hl)
  · exact va_getN (D := G'.2.1) (ci := ci) (C := C) (T := T) (N := N) hx hb hts f5 hown hU.1 hP 0 rfl f3 k f4 (va_Nw.use rfl (hU.2.1 _ f10 rfl)) (fun _ h => h) hv d (kk hkq H locs ls h1 h2 h3 h4 h5 hl)
/-- a field of an object is written -/
theorem mWd.putF {G : mG} {u v : mSt} {H H1 : Heap} {p c ci k : Nat} {bs : List Nat} {C : String} {T : u_T} {N : Nat} {cell : Cell} {x : Value} (h : mWd G u H) (hkp : mK u p = c) (f1 : mKi c = some (.inl (ci, bs))) (f3 : mCl[ci]? = some (C, T, N))
    (hap : ∀ a b, a < N → b < N → a ≠ b → (G.2.1.2 ci) a ≠ (G.2.1.2 ci) b) (f4 : k < N) (hl : k < bs.length)
    (q1 : H[G.1 + p]? = some cell) (q2 : cell.cls = G.2.1.1 ci) (q3 : cell.vm = .none) (q4 : ∀ j, j < N → cell.slots[G.2.1.2 ci j]? = some (vp_V (mfv G.1 (mI u p) (mR u p) bs 0) j))
    (e1 : H1[G.1 + p]? = some (cell.setSlot (G.2.1.2 ci k) x)) (z : H1.size = H.size) (oq : ∀ q : Nat, q ≠ G.1 + p → H1[q]? = H[q]?)
    (hn : mN v = mN u) (ht : mT v = mT u) (hk : mK v = mK u) (ho : ∀ q, q ≠ p → mcell G v q = mcell G u q) (hset : (mfv G.1 (mI u p) (mR u p) bs 0).set k x = mfv G.1 (mI v p) (mR v p) bs 0) (hty : mTy v) : mWd G v H1 := by
  refine h.put (p := p) hn ht hk ho (fun e he => ?_) z oq ?_ hty
  · rw [mcell_obj (by rw [hk]; exact hkp) f1] at he
    cases he
    refine ⟨_, f3, t_OB.to (V := updV (vp_V (mfv G.1 (mI u p) (mR u p) bs 0)) k x) ⟨_, e1, q2, q3, t_set q4 hap f4 x⟩ (fun j _ => ?_)⟩
    rw [← hset]
    exact vp_updV_set (by rw [mfv_len]; exact hl) x j
  · rw [e1, q1]
    simp [Cell.setSlot]
theorem mz_putI {X : mCx} {G : mG} {cc : ByteArray} {Ts : List Cond} {own mn : String} {fr lo : Nat} {ret : Option FieldType} {u0 : mSt} {P : Option Value → mSt → Prop} {u : mSt} {pc : Nat} {lv : List (Nat × Value)} {rest : List Value} {p0 c k index : Nat} {v : Int32} {ty : FieldType} (F : mFx X G cc Ts own mn fr lo ret u0 P) (d : decode cc pc = .ok (.putfield index, 3)) (f : mFld Ts own index c k 0 ty false) (hk : mK u p0 = c) (hnw : narrow ty (.int v) = .int v) (hft : fits ty (.int v) = true) (kk : ∀ w, w = mpI u p0 k v → mEx u w → mZ X w (pc + 3) lv rest) : mZ X u pc lv (.int v :: .ref (G.1 + p0) :: rest) := by
  obtain ⟨p, l, e, R, s, m, args, below, meth, c0, G', u1, nL, Q⟩ := X
  obtain ⟨rfl, rfl, hmn, hx, hb, hml, hown, hts, hlk, hrt, hfr, hlo, hrc, hrs, hU, hW0, hQ⟩ := F
  intro H locs ls h1 h2 h3 h4 h5 hl
  obtain ⟨ci, bs, C, T, N, tys, f1, f2, f3, f4, f5, f6, f7, f8, f9, f10⟩ := f
  have hap := va_apart (own := own) hts f5 tys f6 f7 hU.1 f3
  obtain ⟨r, g1, cell, q1, q2, q3, q4⟩ := h1.2.2.2.1 p0 _ (mcell_obj hk f1)
  have hr : r = (C, T, N) := Option.some.inj (g1.symm.trans f3)
  subst hr
  obtain ⟨hS, hfc, kC, hkC, hkind⟩ := hU.1.1 ci _ f3
  obtain ⟨cf, kf, fi, fd, hi, hsl⟩ := hS k f4
  have hst := (u_facts hfc hkC (u_lays hts f5 f4) hi).1
  have hlen : k < bs.length := (List.getElem?_eq_some_iff.mp f2).1
  have hlay := hts _ (f5 _ (u_in_lay f4))
  unfold u_lay at hlay
  rw [if_neg (by rw [f9]; decide)] at hlay
  have h6 := u_store (v := .int v) hfc hkC hkind hlay hi (f6 k f4) (by rw [f8]; exact hnw) (by rw [f8]; exact hft)
  have key : ∀ H' : Heap, H'[G'.1 + p0]? = some (cell.setSlot fd.slot (.int v)) → H'.size = H.size → (∀ q, q ≠ G'.1 + p0 → H'[q]? = H[q]?) → W p l e R s m args below meth c0 H' (locs ++ [⟨G'.1 + p0, fd.slot⟩]) (H.size - s.heap.size) (mtot H - mtot s.heap) Q (F0 m (pc + 3) ls rest) := by
    intro H' e1 e2 e3
    rw [hsl] at e1
    have hWd : mWd G' (mpI u p0 k v) H' := h1.putF hk f1 f3 hap f4 hlen q1 q2 q3 q4 e1 e2 e3 rfl rfl rfl (fun q hq => mcell_congr rfl (mup_ne _ hq) rfl rfl) (by show _ = mfv G'.1 (mup (mI u) p0 k v p0) (mR u p0) bs 0; rw [mup_self]; exact mfv_setI _ _ _ _ _ _ f2) (h1.2.2.2.2.int rfl rfl)
    have hts' : mtot H' = mtot H := by rw [hWd.1.2.1, h1.1.2.1]; rfl
    refine mrecount ?_
    exact kk _ rfl ((mEx.refl u).of rfl rfl rfl) H' _ ls hWd (by rw [e2]; exact h2) (by rw [hts']; exact h3) (fun q hq => by
      rcases List.mem_append.mp hq with hq | hq
      · exact h4 q hq
      · rw [List.mem_singleton.mp hq]; exact Nat.le_add_right _ _) (h5.of rfl rfl rfl) hl
  rcases f10 with ⟨f10, -⟩ | ⟨host, f10⟩
  · exact W.putK hx hb (f := fd) ⟨hown, hts _ f10, ⟨_, _, _, hi⟩, hst⟩ (by rw [q2]; exact h6) q1 q3 (by rw [hsl]; exact k2_hasslot (q4 k f4)) rfl rfl d key
  · exact va_WputK hx hb (f := fd) hown (va_Nw.use rfl (hU.2.1 _ f10 rfl)) hi hst (by rw [q2]; exact h6) q1 q3 (by rw [hsl]; exact k2_hasslot (q4 k f4)) rfl rfl d key
theorem mz_putR {X : mCx} {G : mG} {cc : ByteArray} {Ts : List Cond} {own mn : String} {fr lo : Nat} {ret : Option FieldType} {u0 : mSt} {P : Option Value → mSt → Prop} {u : mSt} {pc : Nat} {lv : List (Nat × Value)} {rest : List Value} {p0 c k b q0 index : Nat} {ty : FieldType} (F : mFx X G cc Ts own mn fr lo ret u0 P) (d : decode cc pc = .ok (.putfield index, 3)) (f : mFld Ts own index c k b ty false) (hb0 : b ≠ 0) (hk : mK u p0 = c) (hkq : mK u q0 = b) (hft : fits ty (.ref 0) = true) (kk : ∀ w, w = mpR u p0 k (some q0) → mEx u w → mZ X w (pc + 3) lv rest) : mZ X u pc lv (.ref (G.1 + q0) :: .ref (G.1 + p0) :: rest) := by
  obtain ⟨p, l, e, R, s, m, args, below, meth, c0, G', u1, nL, Q⟩ := X
  obtain ⟨rfl, rfl, hmn, hx, hb, hml, hown, hts, hlk, hrt, hfr, hlo, hrc, hrs, hU, hW0, hQ⟩ := F
  intro H locs ls h1 h2 h3 h4 h5 hl
  obtain ⟨ci, bs, C, T, N, tys, f1, f2, f3, f4, f5, f6, f7, f8, f9, f10⟩ := f
  have hap := va_apart (own := own) hts f5 tys f6 f7 hU.1 f3
  obtain ⟨r, g1, cell, q1, q2, q3, q4⟩ := h1.2.2.2.1 p0 _ (mcell_obj hk f1)
  have hr : r = (C, T, N) := Option.some.inj (g1.symm.trans f3)
  subst hr
  obtain ⟨hS, hfc, kC, hkC, hkind⟩ := hU.1.1 ci _ f3
  obtain ⟨cf, kf, fi, fd, hi, hsl⟩ := hS k f4
  have hst := (u_facts hfc hkC (u_lays hts f5 f4) hi).1
  have hlen : k < bs.length := (List.getElem?_eq_some_iff.mp f2).1
  have hlay := hts _ (f5 _ (u_in_lay f4))
  unfold u_lay at hlay
  rw [if_neg (by rw [f9]; decide)] at hlay
  have h6 := u_store (v := .ref (G'.1 + q0)) hfc hkC hkind hlay hi (f6 k f4) (by rw [f8]; cases ty <;> rfl) (by rw [f8]; cases ty <;> first | rfl | exact hft | (simp [fits] at hft))
  have key : ∀ H' : Heap, H'[G'.1 + p0]? = some (cell.setSlot fd.slot (.ref (G'.1 + q0))) → H'.size = H.size → (∀ q, q ≠ G'.1 + p0 → H'[q]? = H[q]?) → W p l e R s m args below meth c0 H' (locs ++ [⟨G'.1 + p0, fd.slot⟩]) (H.size - s.heap.size) (mtot H - mtot s.heap) Q (F0 m (pc + 3) ls rest) := by
    intro H' e1 e2 e3
    rw [hsl] at e1
    have hWd : mWd G' (mpR u p0 k (some q0)) H' := h1.putF hk f1 f3 hap f4 hlen q1 q2 q3 q4 e1 e2 e3 rfl rfl rfl (fun q hq => mcell_congr rfl rfl (mup_ne _ hq) rfl) (by show _ = mfv G'.1 (mI u p0) (mup (mR u) p0 k (some q0) p0) bs 0; rw [mup_self]; exact mfv_setR _ _ _ (some q0) _ _ _ f2 hb0) (h1.2.2.2.2.ref (fun q h _ => by cases h; rw [hkq]; simp only [mfk, hk, f1]; rw [f2]; rfl))
    have hts' : mtot H' = mtot H := by rw [hWd.1.2.1, h1.1.2.1]; rfl
    refine mrecount ?_
    exact kk _ rfl ((mEx.refl u).of rfl rfl rfl) H' _ ls hWd (by rw [e2]; exact h2) (by rw [hts']; exact h3) (fun q hq => by
      rcases List.mem_append.mp hq with hq | hq
      · exact h4 q hq
      · rw [List.mem_singleton.mp hq]; exact Nat.le_add_right _ _) (h5.of rfl rfl rfl) hl
  rcases f10 with ⟨f10, -⟩ | ⟨host, f10⟩
  · exact W.putK hx hb (f := fd) ⟨hown, hts _ f10, ⟨_, _, _, hi⟩, hst⟩ (by rw [q2]; exact h6) q1 q3 (by rw [hsl]; exact k2_hasslot (q4 k f4)) rfl rfl d key
  · exact va_WputK hx hb (f := fd) hown (va_Nw.use rfl (hU.2.1 _ f10 rfl)) hi hst (by rw [q2]; exact h6) q1 q3 (by rw [hsl]; exact k2_hasslot (q4 k f4)) rfl rfl d key
