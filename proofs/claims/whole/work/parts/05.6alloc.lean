theorem mWd.alloc {G : mG} {u : mSt} {H H1 : Heap} {c z : Nat} {cell : Cell} (h : mWd G u H) (z1 : H1.size = H.size + 1) (o1 : ∀ q : Nat, q < H.size → H1[q]? = H[q]?) (e1 : H1[H.size]? = some cell) (hsz : cell.slots.size = z) (hcap : mN u + 1 ≤ mCapC ∧ mT u + z ≤ mCapS) (hat : ∀ e, mcell G (mnw u c z) (mN u) = some e → va_at G.2.1 mCl (G.1 + mN u, e) H1) : mWd G (mnw u c z) H1 := by
  obtain ⟨⟨a1, a2, a3, a4⟩, b, k, d, t⟩ := h
  refine ⟨⟨?_, ?_, hcap.1, hcap.2⟩, fun q hq => by rw [o1 q (by omega)]; exact b q hq, fun p hp => ?_, fun p e he => ?_, fun p i q hf hv => ?_⟩
  · show H1.size = G.1 + (mN u + 1)
    omega
  · show mtot H1 = mtot G.2.2.2.1 + (mT u + z)
    rw [mtot_push z1 o1 e1, a2, hsz]; omega
  · show p < mN u + 1
    have hp' : va_up (mK u) (mN u) c p ≠ 0 := hp
    unfold va_up at hp'
    by_cases hq : p = mN u
    · omega
    · rw [if_neg hq] at hp'
      have := k p hp'
      omega
  · by_cases hq : p = mN u
    · subst hq; exact hat e he
    · have h0 : mcell G (mnw u c z) p = mcell G u p := mcell_congr (by show va_up (mK u) (mN u) c p = _; unfold va_up; rw [if_neg hq]) (mrow_ne _ hq) (mrow_ne _ hq) (mrow_ne _ hq)
      rw [h0] at he
      have h2 := d p e he
      exact h2.kept (o1 _ h2.lt)
  · have hf' : mfk (va_up (mK u) (mN u) c p) i ≠ 0 := hf
    have hv' : mrow (mR u) (mN u) (fun _ => none) p i = some q := hv
    show va_up (mK u) (mN u) c q = mfk (va_up (mK u) (mN u) c p) i
    by_cases hq : p = mN u
    · subst hq; rw [mrow_self] at hv'; cases hv'
    · rw [mrow_ne _ hq] at hv'
      simp only [va_up, if_neg hq] at hf' ⊢
      have h3 := t p i q hf' hv'
      have h4 : q < mN u := k q (by rw [h3]; exact hf')
      rw [if_neg (by omega)]
      exact h3
theorem mEx.alloc {u0 u : mSt} {c z : Nat} (h : mEx u0 u) (hlt : ∀ p, mK u p ≠ 0 → p < mN u) : mEx u0 (mnw u c z) := by
  refine ⟨Nat.le_trans h.1 (Nat.le_succ _), Nat.le_trans h.2.1 (Nat.le_add_right _ _), fun p k hk hp => ?_⟩
  have h1 := h.2.2 p k hk hp
  have h2 := hlt p (by rw [h1]; exact hk)
  show va_up (mK u) (mN u) c p = k
  unfold va_up
  rw [if_neg (by omega)]
  exact h1
theorem mz_new {X : mCx} {G : mG} {cc : ByteArray} {Ts : List Cond} {own mn : String} {fr lo : Nat} {ret : Option FieldType} {u0 : mSt} {P : Option Value → mSt → Prop} {u : mSt} {pc : Nat} {lv : List (Nat × Value)} {rest : List Value} {c ci N index : Nat} {bs : List Nat} {C : String} {T : u_T} (F : mFx X G cc Ts own mn fr lo ret u0 P) (d : decode cc pc = .ok (.new index, 3)) (hi : mKi c = some (.inl (ci, bs))) (hcl : mCl[ci]? = some (C, T, N)) (tys : Nat → FieldType) (hty : ∀ k, k < N → parseFieldDescriptor (T k).2.2.1 = some (tys k)) (hin : ∀ w ∈ u_ws C T N, w ∈ Ts) (hdef : ∀ j, j < N → defaultValue (tys j) = vp_V (mfv 0 (fun _ => 0) (fun _ => none) bs 0) j) (w1 : Cond.classLink own index C ∈ Ts) (w2 : Cond.instantiable C N ∈ Ts) (w3 : Cond.initialized C ∈ Ts) (hcap : mN u + 1 ≤ mCapC ∧ mT u + N ≤ mCapS)
    (kk : ∀ q w, q = mN u → w = mnw u c N → mEx u w → mK w q = c → mZ X w (pc + 3) lv (.ref (G.1 + q) :: rest)) : mZ X u pc lv rest := by
  obtain ⟨p, l, e, R, s, m, args, below, meth, c0, G', u1, nL, Q⟩ := X
  obtain ⟨rfl, rfl, hmn, hx, hb, hml, hown, hts, hlk, hrt, hfr, hlo, hrc, hrs, hU, hW0, hQ⟩ := F
  intro H locs ls h1 h2 h3 h4 h5 hl
  have hKn := hU.1.1 ci _ hcl
  refine W.newc hx hb hown (hts _ w1) (hts _ w2) (hts _ w3) rfl d (by have := h1.1; have := hW0.1; rw [hrc]; unfold mCapC at *; omega) (by have := h1.1; have := hW0.1; rw [hrs]; unfold mCapS at *; omega) fun cC kC k1 k2 k3 k4 => ?_
  generalize hH1 : H.push ({ cls := cC, slots := kC.instanceTypes.map defaultValue, vm := .none } : Cell) = H1
  have z1 : H1.size = H.size + 1 := by rw [← hH1, Array.size_push]
  have e1 : H1[H.size]? = some ({ cls := cC, slots := kC.instanceTypes.map defaultValue, vm := .none } : Cell) := by rw [← hH1, Array.getElem?_push_size]
  have o1 : ∀ q : Nat, q < H.size → H1[q]? = H[q]? := fun q hq => by rw [← hH1, Array.getElem?_push, if_neg (Nat.ne_of_lt hq)]
  have hcC : cC = G'.2.1.1 ci := Option.some.inj (k1.symm.trans hKn.2.1)
  subst hcC
  have hWd : mWd G' (mnw u c N) H1 := h1.alloc z1 o1 e1 (by simp [k4]) hcap (fun e' he' => by
    have hk0 : mK (mnw u c N) (mN u) = c := by show va_up (mK u) (mN u) c (mN u) = c; simp [va_up]
    rw [mcell_obj hk0 hi] at he'
    cases he'
    refine ⟨_, hcl, ?_⟩
    have e1' := e1
    rw [h1.1.1] at e1'
    refine (u_born tys hts hin hKn k2 e1' hty).to (fun j hj => ?_)
    rw [hdef j hj]
    have e2 : mI (mnw u c N) (mN u) = fun _ => 0 := mrow_self _ _ _
    have e3 : mR (mnw u c N) (mN u) = fun _ => none := mrow_self _ _ _
    simp only [vp_V]
    rw [e2, e3]
    simp only [List.getD_eq_getElem?_getD, mfv_get, mrf])
  refine mrecount ?_
  have hm : mtot H ≤ mtot H1 := by rw [hWd.1.2.1, h1.1.2.1]; show _ ≤ _ + (mT u + _); omega
  have hk2 := kk _ _ rfl rfl ((mEx.refl u).alloc h1.2.2.1) (by show va_up (mK u) (mN u) c (mN u) = c; simp [va_up])
  have hsz : H.size = G'.1 + mN u := h1.1.1
  rw [hsz]
  exact hk2 H1 locs ls hWd (by omega) (by omega) h4 (h5.alloc h1.2.2.1) hl

theorem mz_newaI {X : mCx} {G : mG} {cc : ByteArray} {Ts : List Cond} {own mn : String} {fr lo : Nat} {ret : Option FieldType} {u0 : mSt} {P : Option Value → mSt → Prop} {u : mSt} {pc : Nat} {lv : List (Nat × Value)} {rest : List Value} {c n : Nat} {v : Int32} (F : mFx X G cc Ts own mn fr lo ret u0 P) (d : decode cc pc = .ok (.newarray .int, 2)) (w : Cond.arrayClass .int ∈ Ts) (hi : mKi c = some (.inr (0, n, 0))) (hv : ¬ v < 0 ∧ v.toNatClampNeg = n ∧ n ≤ 60000) (hcap : mN u + 1 ≤ mCapC ∧ mT u + n ≤ mCapS)
    (kk : ∀ q w, q = mN u → w = mnw u c n → mEx u w → mK w q = c → mZ X w (pc + 2) lv (.ref (G.1 + q) :: rest)) : mZ X u pc lv (.int v :: rest) := by
  obtain ⟨p, l, e, R, s, m, args, below, meth, c0, G', u1, nL, Q⟩ := X
  obtain ⟨rfl, rfl, hmn, hx, hb, hml, hown, hts, hlk, hrt, hfr, hlo, hrc, hrs, hU, hW0, hQ⟩ := F
  intro H locs ls h1 h2 h3 h4 h5 hl
  refine va_newaK (atype := .int) (h := H.size) hx hb (hts _ w) rfl d rfl hv.1 hv.2.1 (by have := hv.2.2; simp only [newarray.typeOf, componentBytes]; omega) (by have := h1.1; have := hW0.1; rw [hrc]; unfold mCapC at *; omega) (by have := h1.1; have := hW0.1; rw [hrs]; unfold mCapS at *; omega) rfl fun H1 cA e1 z1 o1 k1 k2 => ?_
  have hcA : cA = G'.2.2.1 0 := Option.some.inj (k2.symm.trans (hU.1.2 0 _ rfl).2)
  subst hcA
  have hWd : mWd G' (mnw u c n) H1 := h1.alloc z1 o1 e1 (by simp [arrV_size]) hcap (fun e' he' => by
    have hk0 : mK (mnw u c n) (mN u) = c := by show va_up (mK u) (mN u) c (mN u) = c; simp [va_up]
    rw [mcell_arrI hk0 hi (by decide)] at he'
    cases he'
    show H1[G'.1 + mN u]? = some (vp_cell _ _)
    rw [← h1.1.1, e1, vp_cell_i]
    have e2 : mI (mnw u c n) (mN u) = fun _ => 0 := mrow_self _ _ _
    rw [e2]; rfl)
  refine mrecount ?_
  have hm : mtot H ≤ mtot H1 := by rw [hWd.1.2.1, h1.1.2.1]; show _ ≤ _ + (mT u + _); omega
  have hk2 := kk _ _ rfl rfl ((mEx.refl u).alloc h1.2.2.1) (by show va_up (mK u) (mN u) c (mN u) = c; simp [va_up])
  have hsz : H.size = G'.1 + mN u := h1.1.1
  rw [hsz]
  exact hk2 H1 locs ls hWd (by omega) (by omega) h4 (h5.alloc h1.2.2.1) hl

theorem mz_newaZ {X : mCx} {G : mG} {cc : ByteArray} {Ts : List Cond} {own mn : String} {fr lo : Nat} {ret : Option FieldType} {u0 : mSt} {P : Option Value → mSt → Prop} {u : mSt} {pc : Nat} {lv : List (Nat × Value)} {rest : List Value} {c n : Nat} {v : Int32} (F : mFx X G cc Ts own mn fr lo ret u0 P) (d : decode cc pc = .ok (.newarray .boolean, 2)) (w : Cond.arrayClass .boolean ∈ Ts) (hi : mKi c = some (.inr (1, n, 0))) (hv : ¬ v < 0 ∧ v.toNatClampNeg = n ∧ n ≤ 60000) (hcap : mN u + 1 ≤ mCapC ∧ mT u + n ≤ mCapS)
    (kk : ∀ q w, q = mN u → w = mnw u c n → mEx u w → mK w q = c → mZ X w (pc + 2) lv (.ref (G.1 + q) :: rest)) : mZ X u pc lv (.int v :: rest) := by
  obtain ⟨p, l, e, R, s, m, args, below, meth, c0, G', u1, nL, Q⟩ := X
  obtain ⟨rfl, rfl, hmn, hx, hb, hml, hown, hts, hlk, hrt, hfr, hlo, hrc, hrs, hU, hW0, hQ⟩ := F
  intro H locs ls h1 h2 h3 h4 h5 hl
  refine va_newaK (atype := .boolean) (h := H.size) hx hb (hts _ w) rfl d rfl hv.1 hv.2.1 (by have := hv.2.2; simp only [newarray.typeOf, componentBytes]; omega) (by have := h1.1; have := hW0.1; rw [hrc]; unfold mCapC at *; omega) (by have := h1.1; have := hW0.1; rw [hrs]; unfold mCapS at *; omega) rfl fun H1 cA e1 z1 o1 k1 k2 => ?_
  have hcA : cA = G'.2.2.1 1 := Option.some.inj (k2.symm.trans (hU.1.2 1 _ rfl).2)
  subst hcA
  have hWd : mWd G' (mnw u c n) H1 := h1.alloc z1 o1 e1 (by simp [arrV_size]) hcap (fun e' he' => by
    have hk0 : mK (mnw u c n) (mN u) = c := by show va_up (mK u) (mN u) c (mN u) = c; simp [va_up]
    rw [mcell_arrI hk0 hi (by decide)] at he'
    cases he'
    show H1[G'.1 + mN u]? = some (vp_cell _ _)
    rw [← h1.1.1, e1, vp_cell_i]
    have e2 : mI (mnw u c n) (mN u) = fun _ => 0 := mrow_self _ _ _
    rw [e2]; rfl)
  refine mrecount ?_
  have hm : mtot H ≤ mtot H1 := by rw [hWd.1.2.1, h1.1.2.1]; show _ ≤ _ + (mT u + _); omega
  have hk2 := kk _ _ rfl rfl ((mEx.refl u).alloc h1.2.2.1) (by show va_up (mK u) (mN u) c (mN u) = c; simp [va_up])
  have hsz : H.size = G'.1 + mN u := h1.1.1
  rw [hsz]
  exact hk2 H1 locs ls hWd (by omega) (by omega) h4 (h5.alloc h1.2.2.1) hl

theorem mz_newaB {X : mCx} {G : mG} {cc : ByteArray} {Ts : List Cond} {own mn : String} {fr lo : Nat} {ret : Option FieldType} {u0 : mSt} {P : Option Value → mSt → Prop} {u : mSt} {pc : Nat} {lv : List (Nat × Value)} {rest : List Value} {c n : Nat} {v : Int32} (F : mFx X G cc Ts own mn fr lo ret u0 P) (d : decode cc pc = .ok (.newarray .byte, 2)) (w : Cond.arrayClass .byte ∈ Ts) (hi : mKi c = some (.inr (2, n, 0))) (hv : ¬ v < 0 ∧ v.toNatClampNeg = n ∧ n ≤ 60000) (hcap : mN u + 1 ≤ mCapC ∧ mT u + n ≤ mCapS)
    (kk : ∀ q w, q = mN u → w = mnw u c n → mEx u w → mK w q = c → mZ X w (pc + 2) lv (.ref (G.1 + q) :: rest)) : mZ X u pc lv (.int v :: rest) := by
  obtain ⟨p, l, e, R, s, m, args, below, meth, c0, G', u1, nL, Q⟩ := X
  obtain ⟨rfl, rfl, hmn, hx, hb, hml, hown, hts, hlk, hrt, hfr, hlo, hrc, hrs, hU, hW0, hQ⟩ := F
  intro H locs ls h1 h2 h3 h4 h5 hl
  refine va_newaK (atype := .byte) (h := H.size) hx hb (hts _ w) rfl d rfl hv.1 hv.2.1 (by have := hv.2.2; simp only [newarray.typeOf, componentBytes]; omega) (by have := h1.1; have := hW0.1; rw [hrc]; unfold mCapC at *; omega) (by have := h1.1; have := hW0.1; rw [hrs]; unfold mCapS at *; omega) rfl fun H1 cA e1 z1 o1 k1 k2 => ?_
  have hcA : cA = G'.2.2.1 2 := Option.some.inj (k2.symm.trans (hU.1.2 2 _ rfl).2)
  subst hcA
  have hWd : mWd G' (mnw u c n) H1 := h1.alloc z1 o1 e1 (by simp [arrV_size]) hcap (fun e' he' => by
    have hk0 : mK (mnw u c n) (mN u) = c := by show va_up (mK u) (mN u) c (mN u) = c; simp [va_up]
    rw [mcell_arrI hk0 hi (by decide)] at he'
    cases he'
    show H1[G'.1 + mN u]? = some (vp_cell _ _)
    rw [← h1.1.1, e1, vp_cell_i]
    have e2 : mI (mnw u c n) (mN u) = fun _ => 0 := mrow_self _ _ _
    rw [e2]; rfl)
  refine mrecount ?_
  have hm : mtot H ≤ mtot H1 := by rw [hWd.1.2.1, h1.1.2.1]; show _ ≤ _ + (mT u + _); omega
  have hk2 := kk _ _ rfl rfl ((mEx.refl u).alloc h1.2.2.1) (by show va_up (mK u) (mN u) c (mN u) = c; simp [va_up])
  have hsz : H.size = G'.1 + mN u := h1.1.1
  rw [hsz]
  exact hk2 H1 locs ls hWd (by omega) (by omega) h4 (h5.alloc h1.2.2.1) hl

theorem mz_newaJ {X : mCx} {G : mG} {cc : ByteArray} {Ts : List Cond} {own mn : String} {fr lo : Nat} {ret : Option FieldType} {u0 : mSt} {P : Option Value → mSt → Prop} {u : mSt} {pc : Nat} {lv : List (Nat × Value)} {rest : List Value} {c n : Nat} {v : Int32} (F : mFx X G cc Ts own mn fr lo ret u0 P) (d : decode cc pc = .ok (.newarray .long, 2)) (w : Cond.arrayClass .long ∈ Ts) (hi : mKi c = some (.inr (3, n, 0))) (hv : ¬ v < 0 ∧ v.toNatClampNeg = n ∧ n ≤ 60000) (hcap : mN u + 1 ≤ mCapC ∧ mT u + n ≤ mCapS)
    (kk : ∀ q w, q = mN u → w = mnw u c n → mEx u w → mK w q = c → mZ X w (pc + 2) lv (.ref (G.1 + q) :: rest)) : mZ X u pc lv (.int v :: rest) := by
  obtain ⟨p, l, e, R, s, m, args, below, meth, c0, G', u1, nL, Q⟩ := X
  obtain ⟨rfl, rfl, hmn, hx, hb, hml, hown, hts, hlk, hrt, hfr, hlo, hrc, hrs, hU, hW0, hQ⟩ := F
  intro H locs ls h1 h2 h3 h4 h5 hl
  refine va_newaK (atype := .long) (h := H.size) hx hb (hts _ w) rfl d rfl hv.1 hv.2.1 (by have := hv.2.2; simp only [newarray.typeOf, componentBytes]; omega) (by have := h1.1; have := hW0.1; rw [hrc]; unfold mCapC at *; omega) (by have := h1.1; have := hW0.1; rw [hrs]; unfold mCapS at *; omega) rfl fun H1 cA e1 z1 o1 k1 k2 => ?_
  have hcA : cA = G'.2.2.1 3 := Option.some.inj (k2.symm.trans (hU.1.2 3 _ rfl).2)
  subst hcA
  have hWd : mWd G' (mnw u c n) H1 := h1.alloc z1 o1 e1 (by simp [arrV_size]) hcap (fun e' he' => by
    have hk0 : mK (mnw u c n) (mN u) = c := by show va_up (mK u) (mN u) c (mN u) = c; simp [va_up]
    rw [mcell_arrL hk0 hi] at he'
    cases he'
    show H1[G'.1 + mN u]? = some (vp_cell _ _)
    rw [← h1.1.1, e1, vp_cell_l]
    have e2 : mL (mnw u c n) (mN u) = fun _ => 0 := mrow_self _ _ _
    rw [e2]; rfl)
  refine mrecount ?_
  have hm : mtot H ≤ mtot H1 := by rw [hWd.1.2.1, h1.1.2.1]; show _ ≤ _ + (mT u + _); omega
  have hk2 := kk _ _ rfl rfl ((mEx.refl u).alloc h1.2.2.1) (by show va_up (mK u) (mN u) c (mN u) = c; simp [va_up])
  have hsz : H.size = G'.1 + mN u := h1.1.1
  rw [hsz]
  exact hk2 H1 locs ls hWd (by omega) (by omega) h4 (h5.alloc h1.2.2.1) hl

theorem mz_anew4 {X : mCx} {G : mG} {cc : ByteArray} {Ts : List Cond} {own mn : String} {fr lo : Nat} {ret : Option FieldType} {u0 : mSt} {P : Option Value → mSt → Prop} {u : mSt} {pc : Nat} {lv : List (Nat × Value)} {rest : List Value} {c n b index : Nat} {v : Int32} (F : mFx X G cc Ts own mn fr lo ret u0 P) (d : decode cc pc = .ok (.anewarray index, 3)) (w1 : Cond.classLink own index "RoomMapper$Sheet" ∈ Ts) (w2 : va_AO "RoomMapper$Sheet" X.2.2.2.2.1) (hi : mKi c = some (.inr (4, n, b))) (hb0 : b ≠ 0) (hv : ¬ v < 0 ∧ v.toNatClampNeg = n ∧ n ≤ 60000) (hcap : mN u + 1 ≤ mCapC ∧ mT u + n ≤ mCapS)
    (kk : ∀ q w, q = mN u → w = mnw u c n → mEx u w → mK w q = c → mZ X w (pc + 3) lv (.ref (G.1 + q) :: rest)) : mZ X u pc lv (.int v :: rest) := by
  obtain ⟨p, l, e, R, s, m, args, below, meth, c0, G', u1, nL, Q⟩ := X
  obtain ⟨rfl, rfl, hmn, hx, hb, hml, hown, hts, hlk, hrt, hfr, hlo, hrc, hrs, hU, hW0, hQ⟩ := F
  intro H locs ls h1 h2 h3 h4 h5 hl
  obtain ⟨hv1, hv2, hv3⟩ := hv
  subst hv2
  refine W.anew hx hb hown (hts _ w1) (va_AO.use w2) rfl d rfl hv1 (by omega) (by have := h1.1; have := hW0.1; rw [hrc]; unfold mCapC at *; omega) (by have := h1.1; have := hW0.1; rw [hrs]; unfold mCapS at *; omega) fun cA kA comp f1 f2 f3 f4 => ?_
  generalize hH1 : H.push ({ cls := cA, slots := Array.replicate v.toNatClampNeg .null, vm := .none } : Cell) = H1
  have z1 : H1.size = H.size + 1 := by rw [← hH1, Array.size_push]
  have e1 : H1[H.size]? = some (arrV cA v.toNatClampNeg (fun _ => .null)) := by rw [← hH1, Array.getElem?_push_size, ← arrV_new]
  have o1 : ∀ q : Nat, q < H.size → H1[q]? = H[q]? := fun q hq => by rw [← hH1, Array.getElem?_push, if_neg (Nat.ne_of_lt hq)]
  obtain ⟨kA', comp', g1, g2, g3, g4⟩ := (hU.1.2 4 _ rfl).2
  have hcA : cA = G'.2.2.1 4 := Option.some.inj (f1.symm.trans g4)
  subst hcA
  have hWd : mWd G' (mnw u c v.toNatClampNeg) H1 := h1.alloc z1 o1 e1 (by simp [arrV_size]) hcap (fun e' he' => by
    have hk0 : mK (mnw u c v.toNatClampNeg) (mN u) = c := by show va_up (mK u) (mN u) c (mN u) = c; simp [va_up]
    rw [mcell_arrR hk0 hi (by decide) hb0] at he'
    cases he'
    show H1[G'.1 + mN u]? = some (vp_cell _ _)
    rw [← h1.1.1, e1, vp_cell_q]
    have e2 : mR (mnw u c v.toNatClampNeg) (mN u) = fun _ => none := mrow_self _ _ _
    rw [e2]; rfl)
  refine mrecount ?_
  have hm : mtot H ≤ mtot H1 := by rw [hWd.1.2.1, h1.1.2.1]; show _ ≤ _ + (mT u + _); omega
  have hk2 := kk _ _ rfl rfl ((mEx.refl u).alloc h1.2.2.1) (by show va_up (mK u) (mN u) c (mN u) = c; simp [va_up])
  have hsz : H.size = G'.1 + mN u := h1.1.1
  rw [hsz]
  exact hk2 H1 locs ls hWd (by omega) (by omega) h4 (h5.alloc h1.2.2.1) hl

theorem mz_aast4 {X : mCx} {G : mG} {cc : ByteArray} {Ts : List Cond} {own mn : String} {fr lo : Nat} {ret : Option FieldType} {u0 : mSt} {P : Option Value → mSt → Prop} {u : mSt} {pc : Nat} {lv : List (Nat × Value)} {rest : List Value} {p0 c n b ci N q0 : Nat} {bs : List Nat} {T : u_T} {i : Int32} (F : mFx X G cc Ts own mn fr lo ret u0 P) (d : decode cc pc = .ok (.aastore, 1)) (hk : mK u p0 = c) (hi : mKi c = some (.inr (4, n, b))) (hb0 : b ≠ 0) (hkq : mK u q0 = b) (hib : mKi b = some (.inl (ci, bs))) (hcl : mCl[ci]? = some ("RoomMapper$Sheet", T, N)) (hin : vp_in i n) (kk : ∀ w, w = mpR u p0 i.toNatClampNeg (some q0) → mEx u w → mZ X w (pc + 1) lv rest) : mZ X u pc lv (.ref (G.1 + q0) :: .int i :: .ref (G.1 + p0) :: rest) := by
  obtain ⟨p, l, e, R, s, m, args, below, meth, c0, G', u1, nL, Q⟩ := X
  obtain ⟨rfl, rfl, hmn, hx, hb, hml, hown, hts, hlk, hrt, hfr, hlo, hrc, hrs, hU, hW0, hQ⟩ := F
  intro H locs ls h1 h2 h3 h4 h5 hl
  have hcell : H[G'.1 + p0]? = some (vp_cell (G'.2.2.1 4) (n, .inr (.inr (.inr (.inr (fun i => (mR u p0 i).map (fun r => G'.1 + r))))))) := h1.2.2.2.1 p0 _ (mcell_arrR (G := G') hk hi (by decide) hb0)
  have hlt : i.toNatClampNeg < n := Nat.not_le.mp fun q => hin (Or.inr q)
  have h0 : ¬ i < 0 := fun q => hin (Or.inl q)
  obtain ⟨r', hr', cellV, g1, g2, g3, -⟩ := h1.2.2.2.1 q0 _ (mcell_obj hkq hib)
  have hcls := (hU.1.1 ci _ hcl).2
  obtain ⟨kA, comp, k1, k2, k3, -⟩ := (hU.1.2 4 _ rfl).2
  have hcomp : comp = G'.2.1.1 ci := Option.some.inj (k3.symm.trans hcls.1)
  subst hcomp
  obtain ⟨hfc, kC, hkC, hkind⟩ := id hcls
  refine W.aast (t := .object "RoomMapper$Sheet") hx hb hcell (fun q h => by cases h) (fun h => by cases h) k1 k2 rfl hkC ⟨h0, by show _ < (arrV _ _ _).slots.size; rw [arrV_size]; exact hlt⟩ g1 (fun q h => by rw [g3] at h; cases h) (by rw [g2]; exact hkC) (by rw [g2]; exact va_assign hcls) rfl rfl d fun H1 e z oq => ?_
  have hWd := h1.putAR hk hi (by decide) hb0 hkq (by exact e) z oq
  have hts' : mtot H1 = mtot H := by rw [hWd.1.2.1, h1.1.2.1]; rfl
  refine mrecount ?_
  exact kk _ rfl ((mEx.refl u).of rfl rfl rfl) H1 _ ls hWd (by rw [z]; exact h2) (by rw [hts']; exact h3) (fun q hq => by
      rcases List.mem_append.mp hq with hq | hq
      · exact h4 q hq
      · rw [List.mem_singleton.mp hq]; exact Nat.le_add_right _ _) (h5.of rfl rfl rfl) hl
theorem mz_anew5 {X : mCx} {G : mG} {cc : ByteArray} {Ts : List Cond} {own mn : String} {fr lo : Nat} {ret : Option FieldType} {u0 : mSt} {P : Option Value → mSt → Prop} {u : mSt} {pc : Nat} {lv : List (Nat × Value)} {rest : List Value} {c n b index : Nat} {v : Int32} (F : mFx X G cc Ts own mn fr lo ret u0 P) (d : decode cc pc = .ok (.anewarray index, 3)) (w1 : Cond.classLink own index "RoomMapper$Shelf" ∈ Ts) (w2 : va_AO "RoomMapper$Shelf" X.2.2.2.2.1) (hi : mKi c = some (.inr (5, n, b))) (hb0 : b ≠ 0) (hv : ¬ v < 0 ∧ v.toNatClampNeg = n ∧ n ≤ 60000) (hcap : mN u + 1 ≤ mCapC ∧ mT u + n ≤ mCapS)
    (kk : ∀ q w, q = mN u → w = mnw u c n → mEx u w → mK w q = c → mZ X w (pc + 3) lv (.ref (G.1 + q) :: rest)) : mZ X u pc lv (.int v :: rest) := by
  obtain ⟨p, l, e, R, s, m, args, below, meth, c0, G', u1, nL, Q⟩ := X
  obtain ⟨rfl, rfl, hmn, hx, hb, hml, hown, hts, hlk, hrt, hfr, hlo, hrc, hrs, hU, hW0, hQ⟩ := F
  intro H locs ls h1 h2 h3 h4 h5 hl
  obtain ⟨hv1, hv2, hv3⟩ := hv
  subst hv2
  refine W.anew hx hb hown (hts _ w1) (va_AO.use w2) rfl d rfl hv1 (by omega) (by have := h1.1; have := hW0.1; rw [hrc]; unfold mCapC at *; omega) (by have := h1.1; have := hW0.1; rw [hrs]; unfold mCapS at *; omega) fun cA kA comp f1 f2 f3 f4 => ?_
  generalize hH1 : H.push ({ cls := cA, slots := Array.replicate v.toNatClampNeg .null, vm := .none } : Cell) = H1
  have z1 : H1.size = H.size + 1 := by rw [← hH1, Array.size_push]
  have e1 : H1[H.size]? = some (arrV cA v.toNatClampNeg (fun _ => .null)) := by rw [← hH1, Array.getElem?_push_size, ← arrV_new]
  have o1 : ∀ q : Nat, q < H.size → H1[q]? = H[q]? := fun q hq => by rw [← hH1, Array.getElem?_push, if_neg (Nat.ne_of_lt hq)]
  obtain ⟨kA', comp', g1, g2, g3, g4⟩ := (hU.1.2 5 _ rfl).2
  have hcA : cA = G'.2.2.1 5 := Option.some.inj (f1.symm.trans g4)
  subst hcA
  have hWd : mWd G' (mnw u c v.toNatClampNeg) H1 := h1.alloc z1 o1 e1 (by simp [arrV_size]) hcap (fun e' he' => by
    have hk0 : mK (mnw u c v.toNatClampNeg) (mN u) = c := by show va_up (mK u) (mN u) c (mN u) = c; simp [va_up]
    rw [mcell_arrR hk0 hi (by decide) hb0] at he'
    cases he'
    show H1[G'.1 + mN u]? = some (vp_cell _ _)
    rw [← h1.1.1, e1, vp_cell_q]
    have e2 : mR (mnw u c v.toNatClampNeg) (mN u) = fun _ => none := mrow_self _ _ _
    rw [e2]; rfl)
  refine mrecount ?_
  have hm : mtot H ≤ mtot H1 := by rw [hWd.1.2.1, h1.1.2.1]; show _ ≤ _ + (mT u + _); omega
  have hk2 := kk _ _ rfl rfl ((mEx.refl u).alloc h1.2.2.1) (by show va_up (mK u) (mN u) c (mN u) = c; simp [va_up])
  have hsz : H.size = G'.1 + mN u := h1.1.1
  rw [hsz]
  exact hk2 H1 locs ls hWd (by omega) (by omega) h4 (h5.alloc h1.2.2.1) hl

theorem mz_aast5 {X : mCx} {G : mG} {cc : ByteArray} {Ts : List Cond} {own mn : String} {fr lo : Nat} {ret : Option FieldType} {u0 : mSt} {P : Option Value → mSt → Prop} {u : mSt} {pc : Nat} {lv : List (Nat × Value)} {rest : List Value} {p0 c n b ci N q0 : Nat} {bs : List Nat} {T : u_T} {i : Int32} (F : mFx X G cc Ts own mn fr lo ret u0 P) (d : decode cc pc = .ok (.aastore, 1)) (hk : mK u p0 = c) (hi : mKi c = some (.inr (5, n, b))) (hb0 : b ≠ 0) (hkq : mK u q0 = b) (hib : mKi b = some (.inl (ci, bs))) (hcl : mCl[ci]? = some ("RoomMapper$Shelf", T, N)) (hin : vp_in i n) (kk : ∀ w, w = mpR u p0 i.toNatClampNeg (some q0) → mEx u w → mZ X w (pc + 1) lv rest) : mZ X u pc lv (.ref (G.1 + q0) :: .int i :: .ref (G.1 + p0) :: rest) := by
  obtain ⟨p, l, e, R, s, m, args, below, meth, c0, G', u1, nL, Q⟩ := X
  obtain ⟨rfl, rfl, hmn, hx, hb, hml, hown, hts, hlk, hrt, hfr, hlo, hrc, hrs, hU, hW0, hQ⟩ := F
  intro H locs ls h1 h2 h3 h4 h5 hl
  have hcell : H[G'.1 + p0]? = some (vp_cell (G'.2.2.1 5) (n, .inr (.inr (.inr (.inr (fun i => (mR u p0 i).map (fun r => G'.1 + r))))))) := h1.2.2.2.1 p0 _ (mcell_arrR (G := G') hk hi (by decide) hb0)
  have hlt : i.toNatClampNeg < n := Nat.not_le.mp fun q => hin (Or.inr q)
  have h0 : ¬ i < 0 := fun q => hin (Or.inl q)
  obtain ⟨r', hr', cellV, g1, g2, g3, -⟩ := h1.2.2.2.1 q0 _ (mcell_obj hkq hib)
  have hcls := (hU.1.1 ci _ hcl).2
  obtain ⟨kA, comp, k1, k2, k3, -⟩ := (hU.1.2 5 _ rfl).2
  have hcomp : comp = G'.2.1.1 ci := Option.some.inj (k3.symm.trans hcls.1)
  subst hcomp
  obtain ⟨hfc, kC, hkC, hkind⟩ := id hcls
  refine W.aast (t := .object "RoomMapper$Shelf") hx hb hcell (fun q h => by cases h) (fun h => by cases h) k1 k2 rfl hkC ⟨h0, by show _ < (arrV _ _ _).slots.size; rw [arrV_size]; exact hlt⟩ g1 (fun q h => by rw [g3] at h; cases h) (by rw [g2]; exact hkC) (by rw [g2]; exact va_assign hcls) rfl rfl d fun H1 e z oq => ?_
  have hWd := h1.putAR hk hi (by decide) hb0 hkq (by exact e) z oq
  have hts' : mtot H1 = mtot H := by rw [hWd.1.2.1, h1.1.2.1]; rfl
  refine mrecount ?_
  exact kk _ rfl ((mEx.refl u).of rfl rfl rfl) H1 _ ls hWd (by rw [z]; exact h2) (by rw [hts']; exact h3) (fun q hq => by
      rcases List.mem_append.mp hq with hq | hq
      · exact h4 q hq
      · rw [List.mem_singleton.mp hq]; exact Nat.le_add_right _ _) (h5.of rfl rfl rfl) hl
