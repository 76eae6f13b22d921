theorem mz_callVW {X : mCx} {G : mG} {cc : ByteArray} {Ts : List Cond} {own mn : String} {fr lo : Nat} {ret : Option FieldType} {u0 : mSt} {P : Option Value → mSt → Prop} {u : mSt} {pc : Nat} {lv : List (Nat × Value)} {rest : List Value} {y : MethodName} {ws ws' : List Cond} {fr2 lo2 maxL2 n index : Nat} {cc2 : ByteArray} {ret2 : Option FieldType} {As : List Value} {P2 : Option Value → mSt → Prop} {tbl : List (Nat × Nat × Nat × Nat)} {b0 c ci N : Nat} {bs : List Nat} {C : String} {T : u_T} (F : mFx X G cc Ts own mn fr lo ret u0 P) (d : decode cc pc = .ok (.invokevirtual index, 3)) (hw : ws = Cond.codeWith y cc2 maxL2 ret2 tbl :: ws') (hkb : mK u b0 = c) (hi : mKi c = some (.inl (ci, bs))) (hcl : mCl[ci]? = some (C, T, N)) (hg : GoodIn Ts (wsV own index C y ws)) (hd : y.cls = C ∧ y.cls ≠ "java/lang/invoke/MethodHandle" ∧ y.cls ≠ "java/lang/invoke/VarHandle" ∧ (parseMethodDescriptor y.desc).map (fun d => d.parameters.length) = some n) (hR : fr2 + 1 ≤ fr ∧ 8 + (maxL2 + 11) + lo2 ≤ lo) (hn : As.length = n) (hcat : (rest.map fun v => v.category).sum ≤ 8) (hM : mCt X.2.1 G y ws fr2 lo2 (.ref (G.1 + b0) :: As) u P2) (kk : ∀ v u2, P2 v u2 → mEx u u2 → mZ X u2 (pc + 3) lv (v.toList ++ rest)) : mZ X u pc lv (As.reverse ++ .ref (G.1 + b0) :: rest) := by
  obtain ⟨p, l, e, R, s, m, args, below, meth, c0, G', u1, nL, Q⟩ := X
  obtain ⟨rfl, rfl, hmn, hx, hb, hml, hown, hts, hlk, hrt, hfr, hlo, hrc, hrs, hU, hW0, hQ⟩ := F
  intro H locs ls h1 h2 h3 h4 h5 hl
  have hM : mCt l G' y ws fr2 lo2 (.ref (G'.1 + b0) :: As) u P2 := hM
  refine mz_back (vx_runVW (hh := tbl) (As := As) (rest := rest) ⟨hx, hb, hml, hown, hts⟩ hM (vx_cwVW n hts hg hw rfl rfl hd ⟨by rw [hfr]; exact hR.1, by rw [hlo]; exact hR.2⟩) ⟨mPc_blind _ _ _, (va_recv (D := G'.2.1) (ws := [(G'.1 + b0, .inr (ci, mfv G'.1 (mI u b0) (mR u b0) bs 0))]) hU.1 (fun j q hq => by
    have hj : j = 0 := by have := (List.getElem?_eq_some_iff.mp hq).1; simp at this; exact this
    subst hj
    cases hq
    exact h1.2.2.2.1 b0 _ (mcell_obj hkb hi)) (ci := ci) (q0 := 0) hcl rfl), fun U hU' hW => ⟨rfl, by rw [hU']; exact h1, hU.moved hW⟩⟩ rfl hn hl.1 rfl (lv_room hcat) d (by have := h1.1; have := hW0.1; rw [hrc, hrs]; omega)) h4 h5 hl kk
theorem mz_callSW {X : mCx} {G : mG} {cc : ByteArray} {Ts : List Cond} {own mn : String} {fr lo : Nat} {ret : Option FieldType} {u0 : mSt} {P : Option Value → mSt → Prop} {u : mSt} {pc : Nat} {lv : List (Nat × Value)} {rest : List Value} {y : MethodName} {ws ws' : List Cond} {fr2 lo2 maxL2 n index : Nat} {cc2 : ByteArray} {ret2 : Option FieldType} {As : List Value} {P2 : Option Value → mSt → Prop} {tbl : List (Nat × Nat × Nat × Nat)} (F : mFx X G cc Ts own mn fr lo ret u0 P) (d : decode cc pc = .ok (.invokestatic index, 3)) (hw : ws = Cond.codeWith y cc2 maxL2 ret2 tbl :: ws') (hg : GoodIn Ts (va_wsS own index y ws)) (hd : y.cls ≠ "java/lang/invoke/MethodHandle" ∧ y.cls ≠ "java/lang/invoke/VarHandle" ∧ (parseMethodDescriptor y.desc).map (fun d => d.parameters.length) = some n) (hR : fr2 + 1 ≤ fr ∧ 8 + (maxL2 + 11) + lo2 ≤ lo) (hn : As.length = n) (hcat : (rest.map fun v => v.category).sum ≤ 8) (hM : mCt X.2.1 G y ws fr2 lo2 As u P2) (kk : ∀ v u2, P2 v u2 → mEx u u2 → mZ X u2 (pc + 3) lv (v.toList ++ rest)) : mZ X u pc lv (As.reverse ++ rest) := by
  obtain ⟨p, l, e, R, s, m, args, below, meth, c0, G', u1, nL, Q⟩ := X
  obtain ⟨rfl, rfl, hmn, hx, hb, hml, hown, hts, hlk, hrt, hfr, hlo, hrc, hrs, hU, hW0, hQ⟩ := F
  intro H locs ls h1 h2 h3 h4 h5 hl
  have hM : mCt l G' y ws fr2 lo2 As u P2 := hM
  refine mz_back (vx_runSW (hh := tbl) (As := As) (rest := rest) ⟨hx, hb, hml, hown, hts⟩ hM (vx_cwSW n hts hg hw rfl rfl hd ⟨by rw [hfr]; exact hR.1, by rw [hlo]; exact hR.2⟩) ⟨mPc_blind _ _ _, fun U hU' hW => ⟨rfl, by rw [hU']; exact h1, hU.moved hW⟩⟩ rfl hn hl.1 rfl (lv_room hcat) d (by have := h1.1; have := hW0.1; rw [hrc, hrs]; omega)) h4 h5 hl kk
/-! calls of methods that may throw, caught by this method's own table -/
theorem mExjk (u : mSt) (k z : Nat) : mEx u (mjk u k z) := ⟨Nat.le_add_right _ _, Nat.le_add_right _ _, fun _ _ _ h => h⟩
def mHd (X : mCx) (own : String) (pc : Nat) (E : String) (hpc : Nat) : Prop := match X with
  | (p, l, e, R, s, m, args, below, meth, c, G', u1, nL, Q) => ∃ (pre : List ExceptionTableEntry) (x : ExceptionTableEntry) (suf : List ExceptionTableEntry) (name : String), c.exceptionTable.toList = pre ++ x :: suf ∧ (∀ z ∈ pre, covers z pc = true ∧ z.catchType ≠ 0 ∧ ∃ nm : String, (Cond.classLink own z.catchType nm).before args s = true ∧ va_Nc E nm s) ∧ covers x pc = true ∧ x.catchType ≠ 0 ∧ (Cond.classLink own x.catchType name).before args s = true ∧ (Cond.castable E name).before args s = true ∧ x.handlerPc = hpc
def mTb (X : mCx) (hh : List (Nat × Nat × Nat × Nat)) : Prop := match X with
  | (p, l, e, R, s, m, args, below, meth, c, G', u1, nL, Q) => c.exceptionTable.toList = tableOf hh
theorem mz_backX {p : Program} {l : Launch} {e : Env} {R : Room} {s : State} {m : MethodId} {args : Array Value} {below : List Frame} {meth : Method} {c : Code} {G : mG} {u1 u : mSt} {nL : Nat} {Q : State → Prop} {H : Heap} {locs : List Loc} {ls : Array Slot} {pc : Nat} {st0 rest : List Value} {a : Array Value} {P2 : Option Value → mSt → Prop} {XP : String → Prop} {mc ms cells slots : Nat} {lv : List (Nat × Value)} {own : String} (hown : s.vm.findClass own = some m.cls)
    (hr : vx_Run p l e R s m args below meth c H locs cells slots mc ms (F0 m pc ls st0) rest (mQc G u P2 a) (mXc G u XP) (fun q => G.1 ≤ q)) (h4 : ∀ q ∈ locs, G.1 ≤ q.base) (h5 : mEx u1 u) (hl : lv_has ls nL lv)
    (kk : ∀ v u2, P2 v u2 → mEx u u2 → mZ (p, l, e, R, s, m, args, below, meth, c, G, u1, nL, Q) u2 (pc + 3) lv (v.toList ++ rest))
    (kx : ∀ E q k z, XP E → k ≤ 1 → z ≤ 6 → ∃ hpc, mHd (p, l, e, R, s, m, args, below, meth, c, G, u1, nL, Q) own pc E hpc ∧ mZ (p, l, e, R, s, m, args, below, meth, c, G, u1, nL, Q) (mjk u k z) hpc lv [.ref q]) : W p l e R s m args below meth c H locs cells slots Q (F0 m pc ls st0) := by
  intro T hT X
  rcases hr T hT X with ⟨v, st₀, t, T', L, h0, X', hL, e1, e2, ⟨v', u2, hv, hp, hex, hWd⟩, st⟩ | ⟨q, st₀, t, T', L, E, ce, h0, X', hL, e1, e2, ⟨hXP, k, z, hk, hz, hWd⟩, hce, hcv, hcl, st⟩
  · cases hv
    have hk := kk v u2 hp hex
    have key : W p l e R s m args below meth c T'.heap (locs ++ L) (cells + mc) (slots + ms) Q (F0 m (pc + 3) ls (v.toList ++ rest)) := by
      refine mknows (fun k1 k2 => mrecount ?_)
      exact hk T'.heap (locs ++ L) ls (by rw [e1]; exact hWd) k1 k2 (fun q hq => by
        rcases List.mem_append.mp hq with h | h
        · exact h4 q h
        · exact hL q h) (h5.trans hex) hl
    obtain ⟨t2, a1, b1⟩ := key T' rfl X'
    exact ⟨t2, st t2 a1, b1⟩
  · obtain ⟨hpc, ⟨pre, x, suf, name, a1, a2, a3, a4, a5, a6, a7⟩, hk2⟩ := kx E q k z hXP hk hz
    subst a7
    have key : vx_W p l e R s m args below meth c T'.heap (locs ++ L) (cells + mc) (slots + ms) Q (F0 m pc ls rest) q := by
      refine vy_catch (E := E) (ce := ce) hown pre x suf a1 a2 a3 a4 a5 a6 (by rw [e1]; exact hce) hcv hcl ?_
      refine mknows (fun k1 k2 => mrecount ?_)
      exact hk2 T'.heap (locs ++ L) ls (by rw [e1]; exact hWd) k1 k2 (fun q hq => by
        rcases List.mem_append.mp hq with h | h
        · exact h4 q h
        · exact hL q h) (h5.trans (mExjk u k z)) hl
    obtain ⟨t2, b1, b2⟩ := key T' rfl X'
    exact ⟨t2, st.trans b1, b2⟩
theorem mz_callVX {X : mCx} {G : mG} {cc : ByteArray} {Ts : List Cond} {own mn : String} {fr lo : Nat} {ret : Option FieldType} {u0 : mSt} {P : Option Value → mSt → Prop} {u : mSt} {pc : Nat} {lv : List (Nat × Value)} {rest : List Value} {y : MethodName} {ws ws' : List Cond} {fr2 lo2 maxL2 n index : Nat} {cc2 : ByteArray} {ret2 : Option FieldType} {As : List Value} {P2 : Option Value → mSt → Prop} {XP : String → Prop} {b0 c ci N : Nat} {bs : List Nat} {C : String} {T : u_T} (F : mFx X G cc Ts own mn fr lo ret u0 P) (d : decode cc pc = .ok (.invokevirtual index, 3)) (hw : ws = Cond.code y cc2 maxL2 ret2 :: ws') (hkb : mK u b0 = c) (hi : mKi c = some (.inl (ci, bs))) (hcl : mCl[ci]? = some (C, T, N)) (hg : GoodIn Ts (wsV own index C y ws)) (hd : y.cls = C ∧ y.cls ≠ "java/lang/invoke/MethodHandle" ∧ y.cls ≠ "java/lang/invoke/VarHandle" ∧ (parseMethodDescriptor y.desc).map (fun d => d.parameters.length) = some n) (hR : fr2 + 1 ≤ fr ∧ 8 + (maxL2 + 11) + lo2 ≤ lo) (hn : As.length = n) (hcat : (rest.map fun v => v.category).sum ≤ 8) (hM : mXt X.2.1 G y ws fr2 lo2 (.ref (G.1 + b0) :: As) u P2 XP) (kk : ∀ v u2, P2 v u2 → mEx u u2 → mZ X u2 (pc + 3) lv (v.toList ++ rest)) (kx : ∀ E q k z, XP E → k ≤ 1 → z ≤ 6 → ∃ hpc, mHd X own pc E hpc ∧ mZ X (mjk u k z) hpc lv [.ref q]) : mZ X u pc lv (As.reverse ++ .ref (G.1 + b0) :: rest) := by
  obtain ⟨p, l, e, R, s, m, args, below, meth, c0, G', u1, nL, Q⟩ := X
  obtain ⟨rfl, rfl, hmn, hx, hb, hml, hown, hts, hlk, hrt, hfr, hlo, hrc, hrs, hU, hW0, hQ⟩ := F
  intro H locs ls h1 h2 h3 h4 h5 hl
  have hM : mXt l G' y ws fr2 lo2 (.ref (G'.1 + b0) :: As) u P2 XP := hM
  refine mz_backX hown (vx_runV (As := As) (rest := rest) ⟨hx, hb, hml, hown, hts⟩ hM (cwV n hts hg hw rfl rfl hd ⟨by rw [hfr]; exact hR.1, by rw [hlo]; exact hR.2⟩) ⟨mPc_blind _ _ _, (va_recv (D := G'.2.1) (ws := [(G'.1 + b0, .inr (ci, mfv G'.1 (mI u b0) (mR u b0) bs 0))]) hU.1 (fun j q hq => by
    have hj : j = 0 := by have := (List.getElem?_eq_some_iff.mp hq).1; simp at this; exact this
    subst hj
    cases hq
    exact h1.2.2.2.1 b0 _ (mcell_obj hkb hi)) (ci := ci) (q0 := 0) hcl rfl), fun U hU' hW => ⟨rfl, by rw [hU']; exact h1, hU.moved hW⟩⟩ rfl hn hl.1 rfl (lv_room hcat) d (by have := h1.1; have := hW0.1; rw [hrc, hrs]; omega)) h4 h5 hl kk kx
theorem mz_callVNX {X : mCx} {G : mG} {cc : ByteArray} {Ts : List Cond} {own mn : String} {fr lo : Nat} {ret : Option FieldType} {u0 : mSt} {P : Option Value → mSt → Prop} {u : mSt} {pc : Nat} {lv : List (Nat × Value)} {rest : List Value} {y : MethodName} {ws ws' : List Cond} {fr2 lo2 maxL2 n index : Nat} {cc2 : ByteArray} {ret2 : Option FieldType} {As : List Value} {P2 : Option Value → mSt → Prop} {XP : String → Prop} {b0 c ci N : Nat} {bs : List Nat} {C : String} {T : u_T} {host : String} (F : mFx X G cc Ts own mn fr lo ret u0 P) (d : decode cc pc = .ok (.invokevirtual index, 3)) (hw : ws = Cond.code y cc2 maxL2 ret2 :: ws') (hkb : mK u b0 = c) (hi : mKi c = some (.inl (ci, bs))) (hcl : mCl[ci]? = some (C, T, N)) (hg : GoodIn Ts ws) (hnl : Cond.methodLinkNest own index y host ∈ tables_1) (hini : Cond.initialized y.cls ∈ Ts) (him : Cond.instanceMethod y ∈ Ts) (hse : Cond.selects C y y ∈ Ts) (hd : y.cls ≠ "java/lang/invoke/MethodHandle" ∧ y.cls ≠ "java/lang/invoke/VarHandle" ∧ (parseMethodDescriptor y.desc).map (fun d => d.parameters.length) = some n) (hR : fr2 + 1 ≤ fr ∧ 8 + (maxL2 + 11) + lo2 ≤ lo) (hn : As.length = n) (hcat : (rest.map fun v => v.category).sum ≤ 8) (hM : mXt X.2.1 G y ws fr2 lo2 (.ref (G.1 + b0) :: As) u P2 XP) (kk : ∀ v u2, P2 v u2 → mEx u u2 → mZ X u2 (pc + 3) lv (v.toList ++ rest)) (kx : ∀ E q k z, XP E → k ≤ 1 → z ≤ 6 → ∃ hpc, mHd X own pc E hpc ∧ mZ X (mjk u k z) hpc lv [.ref q]) : mZ X u pc lv (As.reverse ++ .ref (G.1 + b0) :: rest) := by
  obtain ⟨p, l, e, R, s, m, args, below, meth, c0, G', u1, nL, Q⟩ := X
  obtain ⟨rfl, rfl, hmn, hx, hb, hml, hown, hts, hlk, hrt, hfr, hlo, hrc, hrs, hU, hW0, hQ⟩ := F
  intro H locs ls h1 h2 h3 h4 h5 hl
  have hM : mXt l G' y ws fr2 lo2 (.ref (G'.1 + b0) :: As) u P2 XP := hM
  refine mz_backX hown (vy_runVN (As := As) (rest := rest) ⟨hx, hb, hml, hown, hts⟩ hM (⟨va_cnB n hts hg hw rfl rfl (hU.2.1 _ hnl rfl) (hts _ hini) hd ⟨by rw [hfr]; exact hR.1, by rw [hlo]; exact hR.2⟩, hts _ him, hts _ hse⟩) ⟨mPc_blind _ _ _, (va_recv (D := G'.2.1) (ws := [(G'.1 + b0, .inr (ci, mfv G'.1 (mI u b0) (mR u b0) bs 0))]) hU.1 (fun j q hq => by
    have hj : j = 0 := by have := (List.getElem?_eq_some_iff.mp hq).1; simp at this; exact this
    subst hj
    cases hq
    exact h1.2.2.2.1 b0 _ (mcell_obj hkb hi)) (ci := ci) (q0 := 0) hcl rfl), fun U hU' hW => ⟨rfl, by rw [hU']; exact h1, hU.moved hW⟩⟩ rfl hn hl.1 rfl (lv_room hcat) d (by have := h1.1; have := hW0.1; rw [hrc, hrs]; omega)) h4 h5 hl kk kx
theorem mCt.ofH {l : Launch} {G : mG} {y : MethodName} {ws ws' : List Cond} {fr lo : Nat} {av : List Value} {u : mSt} {P : Option Value → mSt → Prop} {cc : ByteArray} {maxL : Nat} {ret : Option FieldType} {hh : List (Nat × Nat × Nat × Nat)} (hy : plainName y.cls = true) (hw : ws = Cond.codeWith y cc maxL ret hh :: ws') (hlen : (lg_sl av).length ≤ maxL)
    (body : ∀ X : mCx, X.2.1 = l → X.2.2.2.2.2.2.2.2.2.2.2.2.1 = maxL → mFx X G cc ws y.cls y.name fr lo ret u P → mTb X hh → mZ X u 0 (lv_args 0 av) []) : mCt l G y ws fr lo av u P := by
  unfold mCt Met
  refine MetFree.of_bodyS (code := cc) (maxLocals := maxL) (ret := ret) hy ?_ ?_
  · intro args s m h hn
    obtain ⟨m9, meth, c, hn9, h1, h2, h3, h4, -, h5, h6, -⟩ := Cond.codeWith_spec (atoms_spec (ws := ws) h _ (by rw [hw]; exact List.mem_cons_self))
    cases hn.symm.trans hn9
    exact ⟨meth, c, h1, h2, h3, h4, h5, h6⟩
  · intro p e s m args below meth c s₁ B hml hP _
    have hh0 : s₁.heap = s.heap := by rw [B.state]; rfl
    have ht := vx_table (x := y) B (atoms_spec (ws := ws) B.pre (Cond.codeWith y cc maxL ret hh) (by rw [hw]; exact List.mem_cons_self))
    obtain ⟨rfl, hWd, hU⟩ := hP
    have hb := body (p, l, e, ({ frames := fr, cells := mCapC - mN u, slots := mCapS - mT u, locals := lo } : Room), s, m, av.toArray, below, meth, c, G, u, maxL, _) rfl rfl ⟨rfl, rfl, (name_of_methodNamed B.named B.method).1, B.exec, B.bytes, hml, findClass_of_methodNamed B.named, atoms_spec (ws := ws) B.pre, B.notSynchronized, B.returns, rfl, rfl, rfl, rfl, hU, hWd, rfl⟩ ht
    have hl := lv_entry av (n := maxL) hlen
    have h := hb s.heap [] _ hWd (Nat.le_refl _) (Nat.le_refl _) (by simp) (mEx.refl u) hl
    rw [Nat.sub_self, Nat.sub_self, ← lg_entry_eq] at h
    obtain ⟨t, a1, o, b1, b2, b3⟩ := h s₁ hh0 (Stand.of_body B)
    exact ⟨t, o, a1, b1, b2, ⟨b3.1, b3.2⟩⟩
theorem mHd.one {X : mCx} {G : mG} {cc : ByteArray} {Ts : List Cond} {own mn : String} {fr lo : Nat} {ret : Option FieldType} {u0 : mSt} {P : Option Value → mSt → Prop} {pc : Nat} {E : String} {a b hpc ct : Nat} {suf : List (Nat × Nat × Nat × Nat)} (F : mFx X G cc Ts own mn fr lo ret u0 P) (ht : mTb X ((a, b, hpc, ct) :: suf)) (hc : covers ⟨a, b, hpc, ct⟩ pc = true) (h0 : ct ≠ 0) (hk : Cond.classLink own ct E ∈ Ts) (hca : Cond.castable E E ∈ tables_1) : mHd X own pc E hpc := by
  obtain ⟨p, l, e, R, s, m, args, below, meth, c0, G', u1, nL, Q⟩ := X
  obtain ⟨rfl, rfl, hmn, hx, hb, hml, hown, hts, hlk, hrt, hfr, hlo, hrc, hrs, hU, hW0, hQ⟩ := F
  exact ⟨[], ⟨a, b, hpc, ct⟩, tableOf suf, E, ht, (fun _ h => nomatch h), hc, h0, hts _ hk, va_Nw.use rfl (hU.2.1 _ hca rfl), rfl⟩
theorem mHd.two {X : mCx} {G : mG} {cc : ByteArray} {Ts : List Cond} {own mn : String} {fr lo : Nat} {ret : Option FieldType} {u0 : mSt} {P : Option Value → mSt → Prop} {pc : Nat} {a b hpc ct a' b' hpc' ct' : Nat} {suf : List (Nat × Nat × Nat × Nat)} (F : mFx X G cc Ts own mn fr lo ret u0 P) (ht : mTb X ((a', b', hpc', ct') :: (a, b, hpc, ct) :: suf)) (hc' : covers ⟨a', b', hpc', ct'⟩ pc = true) (h0' : ct' ≠ 0) (hk' : Cond.classLink own ct' "java/lang/IllegalArgumentException" ∈ Ts) (hc : covers ⟨a, b, hpc, ct⟩ pc = true) (h0 : ct ≠ 0) (hk : Cond.classLink own ct "java/lang/IllegalStateException" ∈ Ts) (hca : Cond.castable "java/lang/IllegalStateException" "java/lang/IllegalStateException" ∈ tables_1) : mHd X own pc "java/lang/IllegalStateException" hpc := by
  obtain ⟨p, l, e, R, s, m, args, below, meth, c0, G', u1, nL, Q⟩ := X
  obtain ⟨rfl, rfl, hmn, hx, hb, hml, hown, hts, hlk, hrt, hfr, hlo, hrc, hrs, hU, hW0, hQ⟩ := F
  refine ⟨[⟨a', b', hpc', ct'⟩], ⟨a, b, hpc, ct⟩, tableOf suf, "java/lang/IllegalStateException", ht, fun z hz => ?_, hc, h0, hts _ hk, va_Nw.use rfl (hU.2.1 _ hca rfl), rfl⟩
  cases List.mem_singleton.mp hz
  exact ⟨hc', h0', "java/lang/IllegalArgumentException", hts _ hk', hU.2.2.2.2.2.2.2.2.2⟩
theorem cbISE : Cond.castable "java/lang/IllegalStateException" "java/lang/IllegalStateException" ∈ tables_1 := by decide +kernel
theorem cbIAE : Cond.castable "java/lang/IllegalArgumentException" "java/lang/IllegalArgumentException" ∈ tables_1 := by decide +kernel
theorem wiX8_toss_8 : ∀ w ∈ u_ws RX8 TX8 9, w ∈ wsX8_toss := by decide +kernel
theorem wiX8_toss_5 : ∀ w ∈ u_ws RX5 TX5 5, w ∈ wsX8_toss := by decide +kernel
theorem fX8_toss_60 : mFld wsX8_toss RX8 60 9 7 23 (.array (.object "RoomMapper$Shelf")) true := ⟨8, _, RX8, TX8, 9, tyX8, rfl, rfl, rfl, by decide, wiX8_toss_8, tyX8_ok, nmX8, rfl, rfl, Or.inl ⟨by decide +kernel, fun _ => rfl⟩⟩
theorem fX8_toss_290 : mFld wsX8_toss RX8 290 6 3 0 .int false := ⟨5, _, RX5, TX5, 5, tyX5, rfl, rfl, rfl, by decide, wiX8_toss_5, tyX5_ok, nmX5, rfl, rfl, Or.inr ⟨"RoomMapper", nwF8_290⟩⟩
theorem nvM8_296 : Cond.methodLinkNest RX8 296 yX5_fail "RoomMapper" ∈ tables_1 := by decide +kernel
theorem mX8_toss_iniX5_fail : Cond.initialized yX5_fail.cls ∈ wsX8_toss := by decide +kernel
theorem mX8_toss_imX5_fail : Cond.instanceMethod yX5_fail ∈ wsX8_toss := by decide +kernel
theorem mX8_toss_seX5_fail : Cond.selects RX5 yX5_fail yX5_fail ∈ wsX8_toss := by decide +kernel
/-- toss: the callee's throw is caught; the object thrown is junk -/
def bX8_toss (this : Nat) (a1 : Int32) (u : mSt) (K : Int32 → mSt → Prop) : Prop :=
  bX8_leadless this a1 u (fun r u1 => (¬ (r = 0) → K r u1) ∧ (r = 0 → ∃ q, mR u1 this 7 = some q ∧ vp_in a1 8 ∧ ∃ s, mR u1 q a1.toNatClampNeg = some s ∧ ((mI u1 s 2 = 0 → K (-15) u1) ∧ (¬ (mI u1 s 2 = 0) → (mN u1 + 1 ≤ mCapC ∧ mT u1 + 6 ≤ mCapS) ∧ ∀ k z, k ≤ 1 → z ≤ 6 → K (mI u1 s 3) (mjk u1 k z)))))
set_option maxRecDepth 20000 in
set_option maxHeartbeats 4000000 in
theorem kX8_toss (l : Launch) (hl : l.stackTraces = false) (G : mG) {u : mSt} {K : Int32 → mSt → Prop} {this : Nat} {a1 : Int32} (kthis : mK u this = 9) (h : bX8_toss this a1 u K) : mCt l G yX8_toss wsX8_toss 8 200 [.ref (G.1 + this), .int a1] u (mPi K) := by
  refine mCt.ofH (cc := cX8_toss) (maxL := 5) (ret := some .int) (by decide) rfl (Nat.le_of_ble_eq_true rfl) ?_
  intro X hX hN F ht
  have hl2 : X.2.1.stackTraces = false := by rw [hX]; exact hl
  refine mz_aload_n F dX8_toss_0 rfl 0 rfl ?_
  refine mz_iload_n F dX8_toss_1 rfl 1 rfl ?_
  refine mz_callV (As := [_]) (n := 1) F dX8_toss_2 rfl kthis rfl rfl gX8_toss_X8_leadless (by decide +kernel) (by decide) rfl (Nat.le_of_ble_eq_true rfl) (kX8_leadless _ G kthis h) (mz_kI fun r u1 h hx1 => ?_)
  replace kthis := hx1.2.2 _ _ (by decide) kthis
  refine mz_istore_n F dX8_toss_5 rfl hN (by decide) rfl ?_
  refine mz_iload_n F dX8_toss_6 rfl 0 rfl ?_
  refine mz_if_eq (tgt := 12) F dX8_toss_7 (by decide) (fun c => ?_) (fun c => ?_)
  · obtain ⟨q, eq, hi, s, es, h⟩ := h.2 c
    refine mz_aload_n F dX8_toss_12 rfl 1 rfl ?_
    refine mz_getR F dX8_toss_13 fX8_toss_60 (by decide) kthis eq (fun kq => ?_)
    refine mz_iload_n F dX8_toss_16 rfl 2 rfl ?_
    refine mz_aald5 F dX8_toss_17 kq rfl (by decide) hi es (fun ks => ?_)
    refine mz_astore_n F dX8_toss_18 rfl hN (by decide) rfl ?_
    refine mz_aload_n F dX8_toss_19 rfl 0 rfl ?_
    refine mz_callVNX (As := []) (n := 0) F dX8_toss_20 rfl ks rfl rfl gX8_toss_X5_fail_n296 nvM8_296 mX8_toss_iniX5_fail mX8_toss_imX5_fail mX8_toss_seX5_fail (by decide +kernel) (by decide) rfl (Nat.le_of_ble_eq_true rfl) (kX5_fail _ hl2 G (K := K (-15)) ks ⟨h.1, fun c => (h.2 c).1⟩) (mz_kV fun u2 h2 hx2 => ?_) (fun E q k z hE hk hz => ?_)
    · refine mz_goto (tgt := 33) F dX8_toss_23 (by decide) ?_
      refine mz_bipush (v := -15) F dX8_toss_33 (by decide) ?_
      exact mz_iret F dX8_toss_35 ⟨_, rfl, h2⟩
    · obtain ⟨rfl, c2⟩ := hE
      refine ⟨26, mHd.one F ht (by decide) (by decide) (by decide +kernel) cbISE, ?_⟩
      refine mz_astore F dX8_toss_26 hN (by decide) rfl ?_
      refine mz_aload_n F dX8_toss_28 rfl 1 rfl ?_
      refine mz_getI F dX8_toss_29 fX8_toss_290 ks ?_
      exact mz_iret F dX8_toss_32 ⟨_, rfl, (h.2 c2).2 k z hk hz⟩
  · refine mz_iload_n F dX8_toss_10 rfl 0 rfl ?_
    exact mz_iret F dX8_toss_11 ⟨_, rfl, h.1 c⟩
/-- the law's element: 1 or 2 where the class throws, else 0 and the element in out -/
def bL_element (x : Nat) (a1 a2 : Int32) (out : Nat) (u : mSt) (K : Int32 → mSt → Prop) : Prop :=
  bX8_within a1 8 u (fun r u1 => (r = 0 → (mN u1 + 1 ≤ mCapC ∧ mT u1 + 6 ≤ mCapS) ∧ ∀ k z, k ≤ 1 → z ≤ 6 → K 1 (mjk u1 k z)) ∧ (¬ (r = 0) → ∃ q, mR u1 x 7 = some q ∧ vp_in a1 8 ∧ ∃ s, mR u1 q a1.toNatClampNeg = some s ∧ bX5_isRow s u1 (fun r2 u2 =>
    (r2 = 0 → (mN u2 + 1 ≤ mCapC ∧ mT u2 + 6 ≤ mCapS) ∧ ∀ k z, k ≤ 1 → z ≤ 6 → K 2 (mjk u2 k z)) ∧ (¬ (r2 = 0) → bX8_within a2 (mI u2 s 4) u2 (fun r3 u3 => (r3 = 0 → (mN u3 + 1 ≤ mCapC ∧ mT u3 + 6 ≤ mCapS) ∧ ∀ k z, k ≤ 1 → z ≤ 6 → K 2 (mjk u3 k z)) ∧ (¬ (r3 = 0) → ∃ w, mR u3 s 0 = some w ∧ vp_in a2 60 ∧ K 0 (mpL u3 out 0 (mL u3 w a2.toNatClampNeg))))))))
set_option maxRecDepth 20000 in
set_option maxHeartbeats 4000000 in
theorem kL_element (l : Launch) (hl : l.stackTraces = false) (G : mG) {u : mSt} {K : Int32 → mSt → Prop} {x out : Nat} {a1 a2 : Int32} (kx : mK u x = 9) (ko : mK u out = 30) (h : bL_element x a1 a2 out u K) : mCt l G yL_element wsL_element 10 260 [.ref (G.1 + x), .int a1, .int a2, .ref (G.1 + out)] u (mPi K) := by
  have hE : bX8_elem x a1 a2 u (∀ k z, k ≤ 1 → z ≤ 6 → K 1 (mjk u k z)) (∀ k z, k ≤ 1 → z ≤ 6 → K 2 (mjk u k z)) (fun v u1 => u1 = u ∧ K 0 (mpL u out 0 v)) := by
    unfold bL_element at h
    unfold bX8_elem
    refine bX8_within.imp (fun r h1 => ⟨rfl, h1.1, fun c => ?_⟩) h
    obtain ⟨q, eq, hi, s, es, h2⟩ := h1.2 c
    exact ⟨q, eq, hi, s, es, bX5_isRow.imp (fun r2 h3 => ⟨rfl, h3.1, fun c => bX8_within.imp (fun r3 h4 => ⟨rfl, h4.1, fun c => by
      obtain ⟨w, ew, hi2, h5⟩ := h4.2 c
      exact ⟨w, ew, hi2, rfl, h5⟩⟩) (h3.2 c)⟩) h2⟩
  refine mCt.ofH (cc := cL_element) (maxL := 5) (ret := some .int) (by decide) rfl (Nat.le_of_ble_eq_true rfl) ?_
  intro X hX hN F ht
  have hl2 : X.2.1.stackTraces = false := by rw [hX]; exact hl
  refine mz_aload_n F dL_element_0 rfl 3 rfl ?_
  refine mz_iconst (v := 0) F dL_element_1 (by decide) ?_
  refine mz_aload_n F dL_element_2 rfl 0 rfl ?_
  refine mz_iload_n F dL_element_3 rfl 1 rfl ?_
  refine mz_iload_n F dL_element_4 rfl 2 rfl ?_
  refine mz_callVX (As := [_, _]) (n := 2) F dL_element_5 rfl kx rfl rfl gL_element_X8_element (by decide +kernel) (by decide) rfl (Nat.le_of_ble_eq_true rfl) (kX8_element _ hl2 G kx hE) (mz_kL fun v u1 h1 hx1 => ?_) (fun E q k z hE hk hz => ?_)
  · obtain ⟨rfl, h1⟩ := h1
    refine mz_last F dL_element_8 ko rfl (by unfold vp_in; decide) (fun w hw hx2 => ?_)
    have e0 : (0 : Int32).toNatClampNeg = 0 := by decide
    rw [e0] at hw
    subst hw
    refine mz_goto (tgt := 20) F dL_element_9 (by decide) ?_
    refine mz_iconst (v := 0) F dL_element_20 (by decide) ?_
    exact mz_iret F dL_element_21 ⟨_, rfl, h1⟩
  · rcases hE with ⟨rfl, hA⟩ | ⟨rfl, hA⟩
    · refine ⟨12, mHd.one F ht (by decide) (by decide) (by decide +kernel) cbIAE, ?_⟩
      refine mz_astore F dL_element_12 hN (by decide) rfl ?_
      refine mz_iconst (v := 1) F dL_element_14 (by decide) ?_
      exact mz_iret F dL_element_15 ⟨_, rfl, hA k z hk hz⟩
    · refine ⟨16, mHd.two F ht (by decide) (by decide) (by decide +kernel) (by decide) (by decide) (by decide +kernel) cbISE, ?_⟩
      refine mz_astore F dL_element_16 hN (by decide) rfl ?_
      refine mz_iconst (v := 2) F dL_element_18 (by decide) ?_
      exact mz_iret F dL_element_19 ⟨_, rfl, hA k z hk hz⟩
