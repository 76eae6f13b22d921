theorem mCt.of {l : Launch} {G : mG} {y : MethodName} {ws ws' : List Cond} {fr lo : Nat} {av : List Value} {u : mSt} {P : Option Value → mSt → Prop} {cc : ByteArray} {maxL : Nat} {ret : Option FieldType} (hy : plainName y.cls = true) (hw : ws = Cond.code y cc maxL ret :: ws') (hlen : (lg_sl av).length ≤ maxL)
    (body : ∀ X : mCx, X.2.1 = l → X.2.2.2.2.2.2.2.2.2.2.2.2.1 = maxL → mFx X G cc ws y.cls y.name fr lo ret u P → mZ X u 0 (lv_args 0 av) []) : mCt l G y ws fr lo av u P := by
  refine Met.ofW hy hw ?_
  intro p e s m args below meth c s₁ B hml hv
  obtain ⟨rfl, hWd, hU⟩ := hv
  have hb := body (p, l, e, ({ frames := fr, cells := mCapC - mN u, slots := mCapS - mT u, locals := lo } : Room), s, m, av.toArray, below, meth, c, G, u, maxL, _) rfl rfl ⟨rfl, rfl, (name_of_methodNamed B.named B.method).1, B.exec, B.bytes, hml, findClass_of_methodNamed B.named, atoms_spec (ws := ws) B.pre, B.notSynchronized, B.returns, rfl, rfl, rfl, rfl, hU, hWd, rfl⟩
  have hl := lv_entry av (n := maxL) hlen
  rw [lg_entry_eq]
  have h := hb s.heap [] _ hWd (Nat.le_refl _) (Nat.le_refl _) (by simp) (mEx.refl u) hl
  rw [Nat.sub_self, Nat.sub_self] at h
  exact h
theorem mz_iret {X : mCx} {G : mG} {cc : ByteArray} {Ts : List Cond} {own mn : String} {fr lo : Nat} {u0 : mSt} {P : Option Value → mSt → Prop} {u : mSt} {pc : Nat} {lv : List (Nat × Value)} {v : Int32} (F : mFx X G cc Ts own mn fr lo (some .int) u0 P) (d : decode cc pc = .ok (.ireturn, 1))  (h : P (some (.int v)) u) : mZ X u pc lv [.int v] := by
  obtain ⟨p, l, e, R, s, m, args, below, meth, c0, G', u1, nL, Q⟩ := X
  obtain ⟨rfl, rfl, hmn, hx, hb, hml, hown, hts, hlk, hrt, hfr, hlo, hrc, hrs, hU, hW0, hQ⟩ := F
  intro H locs ls h1 h2 h3 h4 h5 hl
  subst hQ
  have hz := h1.1
  have hz0 := hW0.1
  refine W.widen (k := mCapC - mN u1) (n := mCapS - mT u1) (by omega) (by omega) ?_
  exact W.iret hx hb hrt (fun t ht _ => ⟨_, u, rfl, h, h5, by rw [ht]; exact h1⟩) h4 d hlk
theorem mz_zret {X : mCx} {G : mG} {cc : ByteArray} {Ts : List Cond} {own mn : String} {fr lo : Nat} {u0 : mSt} {P : Option Value → mSt → Prop} {u : mSt} {pc : Nat} {lv : List (Nat × Value)} {v : Int32} (F : mFx X G cc Ts own mn fr lo (some .boolean) u0 P) (d : decode cc pc = .ok (.ireturn, 1)) (hnw : narrow .boolean (.int v) = .int v) (h : P (some (.int v)) u) : mZ X u pc lv [.int v] := by
  obtain ⟨p, l, e, R, s, m, args, below, meth, c0, G', u1, nL, Q⟩ := X
  obtain ⟨rfl, rfl, hmn, hx, hb, hml, hown, hts, hlk, hrt, hfr, hlo, hrc, hrs, hU, hW0, hQ⟩ := F
  intro H locs ls h1 h2 h3 h4 h5 hl
  subst hQ
  have hz := h1.1
  have hz0 := hW0.1
  refine W.widen (k := mCapC - mN u1) (n := mCapS - mT u1) (by omega) (by omega) ?_
  exact W.zret hx hb hrt hnw (fun t ht _ => ⟨_, u, rfl, h, h5, by rw [ht]; exact h1⟩) h4 d hlk
theorem mz_lret {X : mCx} {G : mG} {cc : ByteArray} {Ts : List Cond} {own mn : String} {fr lo : Nat} {u0 : mSt} {P : Option Value → mSt → Prop} {u : mSt} {pc : Nat} {lv : List (Nat × Value)} {v : Int64} (F : mFx X G cc Ts own mn fr lo (some .long) u0 P) (d : decode cc pc = .ok (.lreturn, 1))  (h : P (some (.long v)) u) : mZ X u pc lv [.long v] := by
  obtain ⟨p, l, e, R, s, m, args, below, meth, c0, G', u1, nL, Q⟩ := X
  obtain ⟨rfl, rfl, hmn, hx, hb, hml, hown, hts, hlk, hrt, hfr, hlo, hrc, hrs, hU, hW0, hQ⟩ := F
  intro H locs ls h1 h2 h3 h4 h5 hl
  subst hQ
  have hz := h1.1
  have hz0 := hW0.1
  refine W.widen (k := mCapC - mN u1) (n := mCapS - mT u1) (by omega) (by omega) ?_
  exact W.lret hx hb hrt (fun t ht _ => ⟨_, u, rfl, h, h5, by rw [ht]; exact h1⟩) h4 d hlk
theorem mz_vret {X : mCx} {G : mG} {cc : ByteArray} {Ts : List Cond} {own mn : String} {fr lo : Nat} {u0 : mSt} {P : Option Value → mSt → Prop} {u : mSt} {pc : Nat} {lv : List (Nat × Value)}  (F : mFx X G cc Ts own mn fr lo none u0 P) (d : decode cc pc = .ok (.return_, 1))  (h : P (none) u) : mZ X u pc lv [] := by
  obtain ⟨p, l, e, R, s, m, args, below, meth, c0, G', u1, nL, Q⟩ := X
  obtain ⟨rfl, rfl, hmn, hx, hb, hml, hown, hts, hlk, hrt, hfr, hlo, hrc, hrs, hU, hW0, hQ⟩ := F
  intro H locs ls h1 h2 h3 h4 h5 hl
  subst hQ
  have hz := h1.1
  have hz0 := hW0.1
  refine W.widen (k := mCapC - mN u1) (n := mCapS - mT u1) (by omega) (by omega) ?_
  exact W.vret hx hb hrt (fun t ht _ => ⟨_, u, rfl, h, h5, by rw [ht]; exact h1⟩) h4 d hlk
theorem mz_aret {X : mCx} {G : mG} {cc : ByteArray} {Ts : List Cond} {own mn : String} {fr lo : Nat} {u0 : mSt} {P : Option Value → mSt → Prop} {u : mSt} {pc : Nat} {lv : List (Nat × Value)} {q0 : Nat} {C : String} (F : mFx X G cc Ts own mn fr lo (some (.object C)) u0 P) (d : decode cc pc = .ok (.areturn, 1))  (h : P (some (.ref (G.1 + q0))) u) : mZ X u pc lv [.ref (G.1 + q0)] := by
  obtain ⟨p, l, e, R, s, m, args, below, meth, c0, G', u1, nL, Q⟩ := X
  obtain ⟨rfl, rfl, hmn, hx, hb, hml, hown, hts, hlk, hrt, hfr, hlo, hrc, hrs, hU, hW0, hQ⟩ := F
  intro H locs ls h1 h2 h3 h4 h5 hl
  subst hQ
  have hz := h1.1
  have hz0 := hW0.1
  refine W.widen (k := mCapC - mN u1) (n := mCapS - mT u1) (by omega) (by omega) ?_
  exact W.aret hx hb hrt (Or.inl ⟨_, rfl⟩) (Or.inr ⟨_, rfl⟩) (fun t ht _ => ⟨_, u, rfl, h, h5, by rw [ht]; exact h1⟩) h4 d hlk
/-- behind a call -/
theorem mz_back {p : Program} {l : Launch} {e : Env} {R : Room} {s : State} {m : MethodId} {args : Array Value} {below : List Frame} {meth : Method} {c : Code} {G : mG} {u1 u : mSt} {nL : Nat} {Q : State → Prop} {H : Heap} {locs : List Loc} {ls : Array Slot} {pc : Nat} {st0 rest : List Value} {a : Array Value} {P2 : Option Value → mSt → Prop} {mc ms cells slots : Nat} {lv : List (Nat × Value)}
    (hr : va_Run p l e R s m args below meth c H locs cells slots mc ms (F0 m pc ls st0) rest (mQc G u P2 a) (fun q => G.1 ≤ q)) (h4 : ∀ q ∈ locs, G.1 ≤ q.base) (h5 : mEx u1 u) (hl : lv_has ls nL lv)
    (kk : ∀ v u2, P2 v u2 → mEx u u2 → mZ (p, l, e, R, s, m, args, below, meth, c, G, u1, nL, Q) u2 (pc + 3) lv (v.toList ++ rest)) : W p l e R s m args below meth c H locs cells slots Q (F0 m pc ls st0) := by
  intro T hT X
  obtain ⟨v, st₀, t, T', L, h0, X', hL, e1, e2, ⟨v', u2, hv, hp, hex, hWd⟩, st⟩ := hr T hT X
  cases hv
  have hk := kk v u2 hp hex
  have key : W p l e R s m args below meth c T'.heap (locs ++ L) (cells + mc) (slots + ms) Q (F0 m (pc + 3) ls (v.toList ++ rest)) := by
    refine mknows (fun k1 k2 => mrecount ?_)
    exact hk T'.heap (locs ++ L) ls (by rw [e1]; exact hWd) k1 k2 (fun q hq => by
      rcases List.mem_append.mp hq with h | h
      · exact h4 q h
      · exact hL q h) (h5.trans hex) hl
  obtain ⟨t2, a1, b1⟩ := key T' rfl X'
  exact ⟨t2, st t2 a1, b1⟩
theorem mPc_blind (G : mG) (u : mSt) (av : List Value) : FrameBlind (fun v U => v = av.toArray ∧ mWd G u U.heap ∧ mU G U) := fun a U g mk h => by
  obtain ⟨h1, h2, h3⟩ := h
  refine ⟨h1, h2, va_K.moved (u := U) (U := U.calling g mk a) (Vm.Alike.refl U.vm) h3.1, fun w hw hn => ?_, va_Z.moved (u := U) (U := U.calling g mk a) (Vm.Alike.refl U.vm) h3.2.2.1, va_T.moved (u := U) (U := U.calling g mk a) (Vm.Alike.refl U.vm) h3.2.2.2.1, va_AO.moved (u := U) (U := U.calling g mk a) (Vm.Alike.refl U.vm) h3.2.2.2.2.1, va_AO.moved (u := U) (U := U.calling g mk a) (Vm.Alike.refl U.vm) h3.2.2.2.2.2.1, fun w hw => (h3.2.2.2.2.2.2.1 w hw).imp (fun _ h => vk_R.same (u := U) (U := U.calling g mk a) rfl h), vx_Zq.moved (u := U) (U := U.calling g mk a) (Vm.Alike.refl U.vm) h3.2.2.2.2.2.2.2.1, vx_Zq.moved (u := U) (U := U.calling g mk a) (Vm.Alike.refl U.vm) h3.2.2.2.2.2.2.2.2.1, va_Nc.moved (u := U) (U := U.calling g mk a) (Vm.Alike.refl U.vm) h3.2.2.2.2.2.2.2.2.2⟩
  have h5 := h3.2.1 w hw hn
  cases w <;> first | exact va_Nw.same rfl (rfl : U.vm = (U.calling g mk a).vm) h5 | (simp [misN] at hn)
theorem mz_callV {X : mCx} {G : mG} {cc : ByteArray} {Ts : List Cond} {own mn : String} {fr lo : Nat} {ret : Option FieldType} {u0 : mSt} {P : Option Value → mSt → Prop} {u : mSt} {pc : Nat} {lv : List (Nat × Value)} {rest : List Value} {y : MethodName} {ws ws' : List Cond} {fr2 lo2 maxL2 n index : Nat} {cc2 : ByteArray} {ret2 : Option FieldType} {As : List Value} {P2 : Option Value → mSt → Prop} {b0 c ci N : Nat} {bs : List Nat} {C : String} {T : u_T} (F : mFx X G cc Ts own mn fr lo ret u0 P) (d : decode cc pc = .ok (.invokevirtual index, 3)) (hw : ws = Cond.code y cc2 maxL2 ret2 :: ws') (hkb : mK u b0 = c) (hi : mKi c = some (.inl (ci, bs))) (hcl : mCl[ci]? = some (C, T, N)) (hg : GoodIn Ts (wsV own index C y ws)) (hd : y.cls = C ∧ y.cls ≠ "java/lang/invoke/MethodHandle" ∧ y.cls ≠ "java/lang/invoke/VarHandle" ∧ (parseMethodDescriptor y.desc).map (fun d => d.parameters.length) = some n) (hR : fr2 + 1 ≤ fr ∧ 8 + (maxL2 + 11) + lo2 ≤ lo) (hn : As.length = n) (hcat : (rest.map fun v => v.category).sum ≤ 8) (hM : mCt X.2.1 G y ws fr2 lo2 (.ref (G.1 + b0) :: As) u P2) (kk : ∀ v u2, P2 v u2 → mEx u u2 → mZ X u2 (pc + 3) lv (v.toList ++ rest)) : mZ X u pc lv (As.reverse ++ .ref (G.1 + b0) :: rest) := by
  obtain ⟨p, l, e, R, s, m, args, below, meth, c0, G', u1, nL, Q⟩ := X
  obtain ⟨rfl, rfl, hmn, hx, hb, hml, hown, hts, hlk, hrt, hfr, hlo, hrc, hrs, hU, hW0, hQ⟩ := F
  intro H locs ls h1 h2 h3 h4 h5 hl
  have hM : mCt l G' y ws fr2 lo2 (.ref (G'.1 + b0) :: As) u P2 := hM
  refine mz_back (va_runV (As := As) (rest := rest) ⟨hx, hb, hml, hown, hts⟩ hM (cwV n hts hg hw rfl rfl hd ⟨by rw [hfr]; exact hR.1, by rw [hlo]; exact hR.2⟩) ⟨mPc_blind _ _ _, (va_recv (D := G'.2.1) (ws := [(G'.1 + b0, .inr (ci, mfv G'.1 (mI u b0) (mR u b0) bs 0))]) hU.1 (fun j q hq => by
    have hj : j = 0 := by have := (List.getElem?_eq_some_iff.mp hq).1; simp at this; exact this
    subst hj
    cases hq
    exact h1.2.2.2.1 b0 _ (mcell_obj hkb hi)) (ci := ci) (q0 := 0) hcl rfl), fun U hU' hW => ⟨rfl, by rw [hU']; exact h1, hU.moved hW⟩⟩ rfl hn hl.1 rfl (lv_room hcat) d (by have := h1.1; have := hW0.1; rw [hrc, hrs]; omega)) h4 h5 hl kk
theorem mz_callVN {X : mCx} {G : mG} {cc : ByteArray} {Ts : List Cond} {own mn : String} {fr lo : Nat} {ret : Option FieldType} {u0 : mSt} {P : Option Value → mSt → Prop} {u : mSt} {pc : Nat} {lv : List (Nat × Value)} {rest : List Value} {y : MethodName} {ws ws' : List Cond} {fr2 lo2 maxL2 n index : Nat} {cc2 : ByteArray} {ret2 : Option FieldType} {As : List Value} {P2 : Option Value → mSt → Prop} {b0 c ci N : Nat} {bs : List Nat} {C : String} {T : u_T} {host : String} (F : mFx X G cc Ts own mn fr lo ret u0 P) (d : decode cc pc = .ok (.invokevirtual index, 3)) (hw : ws = Cond.code y cc2 maxL2 ret2 :: ws') (hkb : mK u b0 = c) (hi : mKi c = some (.inl (ci, bs))) (hcl : mCl[ci]? = some (C, T, N)) (hg : GoodIn Ts ws) (hnl : Cond.methodLinkNest own index y host ∈ tables_1) (hini : Cond.initialized y.cls ∈ Ts) (him : Cond.instanceMethod y ∈ Ts) (hse : Cond.selects C y y ∈ Ts) (hd : y.cls ≠ "java/lang/invoke/MethodHandle" ∧ y.cls ≠ "java/lang/invoke/VarHandle" ∧ (parseMethodDescriptor y.desc).map (fun d => d.parameters.length) = some n) (hR : fr2 + 1 ≤ fr ∧ 8 + (maxL2 + 11) + lo2 ≤ lo) (hn : As.length = n) (hcat : (rest.map fun v => v.category).sum ≤ 8) (hM : mCt X.2.1 G y ws fr2 lo2 (.ref (G.1 + b0) :: As) u P2) (kk : ∀ v u2, P2 v u2 → mEx u u2 → mZ X u2 (pc + 3) lv (v.toList ++ rest)) : mZ X u pc lv (As.reverse ++ .ref (G.1 + b0) :: rest) := by
  obtain ⟨p, l, e, R, s, m, args, below, meth, c0, G', u1, nL, Q⟩ := X
  obtain ⟨rfl, rfl, hmn, hx, hb, hml, hown, hts, hlk, hrt, hfr, hlo, hrc, hrs, hU, hW0, hQ⟩ := F
  intro H locs ls h1 h2 h3 h4 h5 hl
  have hM : mCt l G' y ws fr2 lo2 (.ref (G'.1 + b0) :: As) u P2 := hM
  refine mz_back (va_runVN (As := As) (rest := rest) ⟨hx, hb, hml, hown, hts⟩ hM (⟨va_cnB n hts hg hw rfl rfl (hU.2.1 _ hnl rfl) (hts _ hini) hd ⟨by rw [hfr]; exact hR.1, by rw [hlo]; exact hR.2⟩, hts _ him, hts _ hse⟩) ⟨mPc_blind _ _ _, (va_recv (D := G'.2.1) (ws := [(G'.1 + b0, .inr (ci, mfv G'.1 (mI u b0) (mR u b0) bs 0))]) hU.1 (fun j q hq => by
    have hj : j = 0 := by have := (List.getElem?_eq_some_iff.mp hq).1; simp at this; exact this
    subst hj
    cases hq
    exact h1.2.2.2.1 b0 _ (mcell_obj hkb hi)) (ci := ci) (q0 := 0) hcl rfl), fun U hU' hW => ⟨rfl, by rw [hU']; exact h1, hU.moved hW⟩⟩ rfl hn hl.1 rfl (lv_room hcat) d (by have := h1.1; have := hW0.1; rw [hrc, hrs]; omega)) h4 h5 hl kk
theorem mz_callS {X : mCx} {G : mG} {cc : ByteArray} {Ts : List Cond} {own mn : String} {fr lo : Nat} {ret : Option FieldType} {u0 : mSt} {P : Option Value → mSt → Prop} {u : mSt} {pc : Nat} {lv : List (Nat × Value)} {rest : List Value} {y : MethodName} {ws ws' : List Cond} {fr2 lo2 maxL2 n index : Nat} {cc2 : ByteArray} {ret2 : Option FieldType} {As : List Value} {P2 : Option Value → mSt → Prop}  (F : mFx X G cc Ts own mn fr lo ret u0 P) (d : decode cc pc = .ok (.invokestatic index, 3)) (hw : ws = Cond.code y cc2 maxL2 ret2 :: ws') (hg : GoodIn Ts (va_wsS own index y ws)) (hd : y.cls ≠ "java/lang/invoke/MethodHandle" ∧ y.cls ≠ "java/lang/invoke/VarHandle" ∧ (parseMethodDescriptor y.desc).map (fun d => d.parameters.length) = some n) (hR : fr2 + 1 ≤ fr ∧ 8 + (maxL2 + 11) + lo2 ≤ lo) (hn : As.length = n) (hcat : (rest.map fun v => v.category).sum ≤ 8) (hM : mCt X.2.1 G y ws fr2 lo2 (As) u P2) (kk : ∀ v u2, P2 v u2 → mEx u u2 → mZ X u2 (pc + 3) lv (v.toList ++ rest)) : mZ X u pc lv (As.reverse ++ rest) := by
  obtain ⟨p, l, e, R, s, m, args, below, meth, c0, G', u1, nL, Q⟩ := X
  obtain ⟨rfl, rfl, hmn, hx, hb, hml, hown, hts, hlk, hrt, hfr, hlo, hrc, hrs, hU, hW0, hQ⟩ := F
  intro H locs ls h1 h2 h3 h4 h5 hl
  have hM : mCt l G' y ws fr2 lo2 (As) u P2 := hM
  refine mz_back (va_runS (As := As) (rest := rest) ⟨hx, hb, hml, hown, hts⟩ hM (va_cwS n hts hg hw rfl rfl hd ⟨by rw [hfr]; exact hR.1, by rw [hlo]; exact hR.2⟩) ⟨mPc_blind _ _ _, fun U hU' hW => ⟨rfl, by rw [hU']; exact h1, hU.moved hW⟩⟩ rfl hn hl.1 rfl (lv_room hcat) d (by have := h1.1; have := hW0.1; rw [hrc, hrs]; omega)) h4 h5 hl kk
theorem mz_callSN {X : mCx} {G : mG} {cc : ByteArray} {Ts : List Cond} {own mn : String} {fr lo : Nat} {ret : Option FieldType} {u0 : mSt} {P : Option Value → mSt → Prop} {u : mSt} {pc : Nat} {lv : List (Nat × Value)} {rest : List Value} {y : MethodName} {ws ws' : List Cond} {fr2 lo2 maxL2 n index : Nat} {cc2 : ByteArray} {ret2 : Option FieldType} {As : List Value} {P2 : Option Value → mSt → Prop} {host : String} (F : mFx X G cc Ts own mn fr lo ret u0 P) (d : decode cc pc = .ok (.invokestatic index, 3)) (hw : ws = Cond.code y cc2 maxL2 ret2 :: ws') (hg : GoodIn Ts ws) (hnl : Cond.methodLinkNest own index y host ∈ tables_1) (hini : Cond.initialized y.cls ∈ Ts) (hst : Cond.static y ∈ Ts) (hd : y.cls ≠ "java/lang/invoke/MethodHandle" ∧ y.cls ≠ "java/lang/invoke/VarHandle" ∧ (parseMethodDescriptor y.desc).map (fun d => d.parameters.length) = some n) (hR : fr2 + 1 ≤ fr ∧ 8 + (maxL2 + 11) + lo2 ≤ lo) (hn : As.length = n) (hcat : (rest.map fun v => v.category).sum ≤ 8) (hM : mCt X.2.1 G y ws fr2 lo2 (As) u P2) (kk : ∀ v u2, P2 v u2 → mEx u u2 → mZ X u2 (pc + 3) lv (v.toList ++ rest)) : mZ X u pc lv (As.reverse ++ rest) := by
  obtain ⟨p, l, e, R, s, m, args, below, meth, c0, G', u1, nL, Q⟩ := X
  obtain ⟨rfl, rfl, hmn, hx, hb, hml, hown, hts, hlk, hrt, hfr, hlo, hrc, hrs, hU, hW0, hQ⟩ := F
  intro H locs ls h1 h2 h3 h4 h5 hl
  have hM : mCt l G' y ws fr2 lo2 (As) u P2 := hM
  refine mz_back (va_runSN (As := As) (rest := rest) ⟨hx, hb, hml, hown, hts⟩ hM (⟨va_cnB n hts hg hw rfl rfl (hU.2.1 _ hnl rfl) (hts _ hini) hd ⟨by rw [hfr]; exact hR.1, by rw [hlo]; exact hR.2⟩, hts _ hst, trivial⟩) ⟨mPc_blind _ _ _, fun U hU' hW => ⟨rfl, by rw [hU']; exact h1, hU.moved hW⟩⟩ rfl hn hl.1 rfl (lv_room hcat) d (by have := h1.1; have := hW0.1; rw [hrc, hrs]; omega)) h4 h5 hl kk
theorem mz_callI {X : mCx} {G : mG} {cc : ByteArray} {Ts : List Cond} {own mn : String} {fr lo : Nat} {ret : Option FieldType} {u0 : mSt} {P : Option Value → mSt → Prop} {u : mSt} {pc : Nat} {lv : List (Nat × Value)} {rest : List Value} {y : MethodName} {ws ws' : List Cond} {fr2 lo2 maxL2 n index : Nat} {cc2 : ByteArray} {As : List Value} {P2 : Option Value → mSt → Prop} {b0 : Nat} (F : mFx X G cc Ts own mn fr lo ret u0 P) (d : decode cc pc = .ok (.invokespecial index, 3)) (hw : ws = Cond.code y cc2 maxL2 none :: ws') (hg : GoodIn Ts ws) (hini : Cond.initialized y.cls ∈ Ts) (hml2 : Cond.methodLink own index y ∈ Ts) (him : Cond.instanceMethod y ∈ Ts) (hy1 : y.name = "<init>") (hd : y.cls ≠ "java/lang/invoke/MethodHandle" ∧ y.cls ≠ "java/lang/invoke/VarHandle" ∧ (parseMethodDescriptor y.desc).map (fun d => d.parameters.length) = some n) (hR : fr2 + 1 ≤ fr ∧ 8 + (maxL2 + 11) + lo2 ≤ lo) (hn : As.length = n) (hcat : (rest.map fun v => v.category).sum ≤ 8) (hM : mCt X.2.1 G y ws fr2 lo2 (.ref (G.1 + b0) :: As) u P2) (kk : ∀ v u2, P2 v u2 → mEx u u2 → mZ X u2 (pc + 3) lv (v.toList ++ rest)) : mZ X u pc lv (As.reverse ++ .ref (G.1 + b0) :: rest) := by
  obtain ⟨p, l, e, R, s, m, args, below, meth, c0, G', u1, nL, Q⟩ := X
  obtain ⟨rfl, rfl, hmn, hx, hb, hml, hown, hts, hlk, hrt, hfr, hlo, hrc, hrs, hU, hW0, hQ⟩ := F
  intro H locs ls h1 h2 h3 h4 h5 hl
  have hM : mCt l G' y ws fr2 lo2 (.ref (G'.1 + b0) :: As) u P2 := hM
  refine mz_back (va_runI (As := As) (rest := rest) ⟨hx, hb, hml, hown, hts⟩ hM (cwI n hts hg hw rfl rfl (hts _ hini) (hts _ hml2) (hts _ him) hy1 hd ⟨by rw [hfr]; exact hR.1, by rw [hlo]; exact hR.2⟩) ⟨mPc_blind _ _ _, fun U hU' hW => ⟨rfl, by rw [hU']; exact h1, hU.moved hW⟩⟩ rfl hn hl.1 rfl (lv_room hcat) d (by have := h1.1; have := hW0.1; rw [hrc, hrs]; omega)) h4 h5 hl kk
theorem mz_callIN {X : mCx} {G : mG} {cc : ByteArray} {Ts : List Cond} {own mn : String} {fr lo : Nat} {ret : Option FieldType} {u0 : mSt} {P : Option Value → mSt → Prop} {u : mSt} {pc : Nat} {lv : List (Nat × Value)} {rest : List Value} {y : MethodName} {ws ws' : List Cond} {fr2 lo2 maxL2 n index : Nat} {cc2 : ByteArray} {As : List Value} {P2 : Option Value → mSt → Prop} {b0 : Nat} {host : String} (F : mFx X G cc Ts own mn fr lo ret u0 P) (d : decode cc pc = .ok (.invokespecial index, 3)) (hw : ws = Cond.code y cc2 maxL2 none :: ws') (hg : GoodIn Ts ws) (hnl : Cond.methodLinkNest own index y host ∈ tables_1) (hini : Cond.initialized y.cls ∈ Ts) (him : Cond.instanceMethod y ∈ Ts) (hy1 : y.name = "<init>") (hd : y.cls ≠ "java/lang/invoke/MethodHandle" ∧ y.cls ≠ "java/lang/invoke/VarHandle" ∧ (parseMethodDescriptor y.desc).map (fun d => d.parameters.length) = some n) (hR : fr2 + 1 ≤ fr ∧ 8 + (maxL2 + 11) + lo2 ≤ lo) (hn : As.length = n) (hcat : (rest.map fun v => v.category).sum ≤ 8) (hM : mCt X.2.1 G y ws fr2 lo2 (.ref (G.1 + b0) :: As) u P2) (kk : ∀ v u2, P2 v u2 → mEx u u2 → mZ X u2 (pc + 3) lv (v.toList ++ rest)) : mZ X u pc lv (As.reverse ++ .ref (G.1 + b0) :: rest) := by
  obtain ⟨p, l, e, R, s, m, args, below, meth, c0, G', u1, nL, Q⟩ := X
  obtain ⟨rfl, rfl, hmn, hx, hb, hml, hown, hts, hlk, hrt, hfr, hlo, hrc, hrs, hU, hW0, hQ⟩ := F
  intro H locs ls h1 h2 h3 h4 h5 hl
  have hM : mCt l G' y ws fr2 lo2 (.ref (G'.1 + b0) :: As) u P2 := hM
  refine mz_back (va_runIN (As := As) (rest := rest) ⟨hx, hb, hml, hown, hts⟩ hM (⟨va_cnB n hts hg hw rfl rfl (hU.2.1 _ hnl rfl) (hts _ hini) hd ⟨by rw [hfr]; exact hR.1, by rw [hlo]; exact hR.2⟩, hy1, hts _ him⟩) ⟨mPc_blind _ _ _, fun U hU' hW => ⟨rfl, by rw [hU']; exact h1, hU.moved hW⟩⟩ rfl hn hl.1 rfl (lv_room hcat) d (by have := h1.1; have := hW0.1; rw [hrc, hrs]; omega)) h4 h5 hl kk
theorem mz_objInit {X : mCx} {G : mG} {cc : ByteArray} {Ts : List Cond} {own mn : String} {fr lo : Nat} {ret : Option FieldType} {u0 : mSt} {P : Option Value → mSt → Prop} {u : mSt} {pc : Nat} {lv : List (Nat × Value)} {rest : List Value} {idx a0 : Nat} (F : mFx X G cc Ts own mn fr lo ret u0 P) (d : decode cc pc = .ok (.invokespecial idx, 3)) (w1 : Cond.methodLink own idx objectInit ∈ Ts) (w2 : Cond.instanceMethod objectInit ∈ Ts) (w3 : Cond.code objectInit ⟨#[0xb1]⟩ 1 none ∈ Ts) (hR : 1 ≤ fr ∧ 20 ≤ lo) (hcat : (rest.map fun v => v.category).sum ≤ 8) (k : mZ X u (pc + 3) lv rest) : mZ X u pc lv (.ref a0 :: rest) := by
  obtain ⟨p, l, e, R, s, m, args, below, meth, c0, G', u1, nL, Q⟩ := X
  obtain ⟨rfl, rfl, hmn, hx, hb, hml, hown, hts, hlk, hrt, hfr, hlo, hrc, hrs, hU, hW0, hQ⟩ := F
  intro H locs ls h1 h2 h3 h4 h5 hl
  refine W.objInit hx hb hown (hts _ w1) (hts _ w2) (hts _ w3) rfl (by rw [hml]; exact hl.1) rfl d (by rw [hfr]; exact hR.1) (by have := lv_room (m := m) (pc := pc) (ls := ls) (rest := rest) hcat; have h20 := hR.2; rw [hlo]; simp only at this ⊢; omega) ?_
  exact k H locs ls h1 h2 h3 h4 h5 hl
