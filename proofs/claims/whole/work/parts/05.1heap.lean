theorem mtot_list (H : Heap) : mtot H = (H.toList.map (fun c => c.slots.size)).sum := by
  unfold mtot
  rw [← Array.foldl_toList]
  have h : ∀ (l : List Cell) (n : Nat), l.foldl (fun n c => n + c.slots.size) n = n + (l.map (fun c => c.slots.size)).sum := by
    intro l
    induction l with
    | nil => intro n; simp
    | cons a r ih => intro n; simp only [List.foldl_cons, ih, List.map_cons, List.sum_cons]; omega
  rw [h, Nat.zero_add]
theorem mtot_same {H H1 : Heap} (h : ∀ q : Nat, (H1[q]?).map (fun c => c.slots.size) = (H[q]?).map (fun c => c.slots.size)) : mtot H1 = mtot H := by
  rw [mtot_list, mtot_list]
  congr 1
  apply List.ext_getElem?
  intro i
  simp only [List.getElem?_map, Array.getElem?_toList]
  exact h i
theorem mtot_push {H H1 : Heap} {c : Cell} (z : H1.size = H.size + 1) (h : ∀ q : Nat, q < H.size → H1[q]? = H[q]?) (hc : H1[H.size]? = some c) : mtot H1 = mtot H + c.slots.size := by
  have h1 : H1.toList = H.toList ++ [c] := by
    apply List.ext_getElem?
    intro i
    rw [List.getElem?_append]
    simp only [Array.getElem?_toList, Array.length_toList]
    by_cases hi : i < H.size
    · rw [if_pos hi]; exact h i hi
    · rw [if_neg hi]
      by_cases hi2 : i = H.size
      · subst hi2; rw [hc]; simp
      · rw [Array.getElem?_eq_none (by omega), List.getElem?_eq_none (by simp; omega)]
  rw [mtot_list, mtot_list, h1]
  simp
section MREC
variable {p : Program} {l : Launch} {e : Env} {R : Room} {s : State} {m : MethodId} {args : Array Value} {below : List Frame} {meth : Method} {c : Code} {H : Heap} {locs : List Loc} {cells slots : Nat} {Q : State → Prop}
theorem mrecount {g : JFrame} (k : W p l e R s m args below meth c H locs (H.size - s.heap.size) (mtot H - mtot s.heap) Q g) : W p l e R s m args below meth c H locs cells slots Q g := by
  intro T hT X
  refine k T hT { X with same := ?_ }
  have hb : T.slotsTrue = true := X.book
  have hs0 : s.slotsTrue = true := by
    have h := X.room
    simp only [State.hasRoom, Bool.and_eq_true] at h
    exact h.2
  obtain ⟨a1, a2, a3, a4, a5, a6⟩ := X.same
  have e1 : T.slotsUsed = mtot T.heap := by
    have := hb
    simpa [State.slotsTrue, mtot] using this
  have e2 : s.slotsUsed = mtot s.heap := by
    have := hs0
    simpa [State.slotsTrue, mtot] using this
  have a2' : s.heap.size ≤ T.heap.size := a2
  have a4' : T.slotsUsed = s.slotsUsed + ((T.heap.toList.drop s.heap.size).map (fun c => c.slots.size)).sum := a4
  refine ⟨a1, a2, ?_, a4, ?_, a6⟩
  · show T.heap.size ≤ s.heap.size + (H.size - s.heap.size)
    rw [← hT]; omega
  · show ((T.heap.toList.drop s.heap.size).map (fun c => c.slots.size)).sum ≤ mtot H - mtot s.heap
    rw [← hT]; omega
/-- what a walk knows of its heap -/
theorem mknows {g : JFrame} (k : s.heap.size ≤ H.size → mtot s.heap ≤ mtot H → W p l e R s m args below meth c H locs cells slots Q g) : W p l e R s m args below meth c H locs cells slots Q g := by
  intro T hT X
  have hb : T.slotsTrue = true := X.book
  have hs0 : s.slotsTrue = true := by
    have h := X.room
    simp only [State.hasRoom, Bool.and_eq_true] at h
    exact h.2
  obtain ⟨a1, a2, a3, a4, a5, a6⟩ := X.same
  have e1 : T.slotsUsed = mtot T.heap := by
    have := hb
    simpa [State.slotsTrue, mtot] using this
  have e2 : s.slotsUsed = mtot s.heap := by
    have := hs0
    simpa [State.slotsTrue, mtot] using this
  have a2' : s.heap.size ≤ T.heap.size := a2
  have a4' : T.slotsUsed = s.slotsUsed + ((T.heap.toList.drop s.heap.size).map (fun c => c.slots.size)).sum := a4
  exact k (by rw [← hT]; exact a2') (by rw [← hT]; omega) T hT X
end MREC
theorem mup_ne {α : Type} (f : Nat → Nat → α) {p q i : Nat} {v : α} (h : q ≠ p) : mup f p i v q = f q := by
  funext j; simp [mup, h]
theorem mrow_ne {α : Type} (f : Nat → Nat → α) {p q : Nat} {g : Nat → α} (h : q ≠ p) : mrow f p g q = f q := by
  funext j; simp [mrow, h]
theorem mrow_self {α : Type} (f : Nat → Nat → α) (p : Nat) (g : Nat → α) : mrow f p g p = g := by
  funext j; simp [mrow]
theorem mup_self {α : Type} (f : Nat → Nat → α) (p i : Nat) (v : α) : mup f p i v p = fun j => if j = i then v else f p j := by
  funext j; simp [mup]
/-- a cell depends on its own rows alone -/
theorem mcell_congr {G : mG} {u v : mSt} {p : Nat} (hk : mK v p = mK u p) (hI : mI v p = mI u p) (hR : mR v p = mR u p) (hL : mL v p = mL u p) : mcell G v p = mcell G u p := by
  simp only [mcell, hk, hI, hR, hL]
theorem mWd.put {G : mG} {u v : mSt} {H H1 : Heap} {p : Nat} (h : mWd G u H) (hn : mN v = mN u) (ht : mT v = mT u) (hk : mK v = mK u)
    (ho : ∀ q, q ≠ p → mcell G v q = mcell G u q) (he : ∀ e, mcell G v p = some e → va_at G.2.1 mCl (G.1 + p, e) H1) (z : H1.size = H.size) (oq : ∀ q : Nat, q ≠ G.1 + p → H1[q]? = H[q]?)
    (hsz : (H1[G.1 + p]?).map (fun c => c.slots.size) = (H[G.1 + p]?).map (fun c => c.slots.size)) (hty : mTy v) : mWd G v H1 := by
  obtain ⟨⟨a1, a2, a3, a4⟩, b, c, d, t⟩ := h
  refine ⟨⟨by rw [z, hn, a1], ?_, by rw [hn]; exact a3, by rw [ht]; exact a4⟩, fun q hq => by rw [oq q (by omega)]; exact b q hq, fun q hq => by rw [hn]; exact c q (by rw [← hk]; exact hq), fun q e he' => ?_, hty⟩
  · rw [ht, ← a2]
    apply mtot_same
    intro q
    by_cases hq : q = G.1 + p
    · rw [hq]; exact hsz
    · rw [oq q hq]
  · by_cases hq : q = p
    · subst hq; exact he e he'
    · rw [ho q hq] at he'
      exact (d q e he').kept (oq _ (by simp; omega))
theorem mTy.int {u v : mSt} (h : mTy u) (hk : mK v = mK u) (hR : mR v = mR u) : mTy v := by
  intro p i q; rw [hk, hR]; exact h p i q
theorem mTy.ref {u : mSt} (h : mTy u) {p i : Nat} {r : Option Nat} (hr : ∀ q, r = some q → mfk (mK u p) i ≠ 0 → mK u q = mfk (mK u p) i) : mTy (mpR u p i r) := by
  intro p' i' q' hf hv
  show mK u q' = mfk (mK u p') i'
  have hv' : mup (mR u) p i r p' i' = some q' := hv
  unfold mup at hv'
  by_cases hc : p' = p ∧ i' = i
  · rw [if_pos hc] at hv'
    obtain ⟨rfl, rfl⟩ := hc
    exact hr q' hv' hf
  · rw [if_neg hc] at hv'
    exact h p' i' q' hf hv'
theorem mfv_setI (B : Nat) (f : Nat → Int32) (g : Nat → Option Nat) (v : Int32) (bs : List Nat) (k : Nat) (hk : bs[k]? = some 0) : (mfv B f g bs 0).set k (.int v) = mfv B (fun j => if j = k then v else f j) g bs 0 := by
  apply List.ext_getElem?
  intro i
  rw [List.getElem?_set, mfv_get, mfv_get, mfv_len]
  by_cases hi : k = i
  · subst hi
    have hl : k < bs.length := (List.getElem?_eq_some_iff.mp hk).1
    rw [if_pos rfl, if_pos hl, hk]; simp
  · rw [if_neg hi]
    have : i ≠ k := fun h => hi h.symm
    simp [this]
theorem mfv_setR (B : Nat) (f : Nat → Int32) (g : Nat → Option Nat) (v : Option Nat) (bs : List Nat) (k b : Nat) (hk : bs[k]? = some b) (hb : b ≠ 0) : (mfv B f g bs 0).set k (mrf B v) = mfv B f (fun j => if j = k then v else g j) bs 0 := by
  apply List.ext_getElem?
  intro i
  rw [List.getElem?_set, mfv_get, mfv_get, mfv_len]
  by_cases hi : k = i
  · subst hi
    have hl : k < bs.length := (List.getElem?_eq_some_iff.mp hk).1
    rw [if_pos rfl, if_pos hl, hk]; simp [hb]
  · rw [if_neg hi]
    have : i ≠ k := fun h => hi h.symm
    simp [this]
/-- a field of a kind, and how a method's words link it: by its own link, or as a nest mate's -/
def mFld (Ts : List Cond) (own : String) (index c k b : Nat) (ty : FieldType) (fin : Bool) : Prop :=
  ∃ (ci : Nat) (bs : List Nat) (C : String) (T : u_T) (N : Nat) (tys : Nat → FieldType), mKi c = some (.inl (ci, bs)) ∧ bs[k]? = some b ∧ mCl[ci]? = some (C, T, N) ∧ k < N ∧ (∀ w ∈ u_ws C T N, w ∈ Ts) ∧ (∀ j, j < N → parseFieldDescriptor (T j).2.2.1 = some (tys j)) ∧ (∀ a, a < N → ∀ b, b < N → a ≠ b → (T a).2.1 ≠ (T b).2.1) ∧ tys k = ty ∧ (T k).2.2.2 = fin ∧
    ((Cond.fieldLink own index (T k).1 (T k).2.1 (T k).2.2.1 ∈ Ts ∧ (fin = true → (T k).1 = own)) ∨ ∃ host, Cond.fieldLinkNest own index (T k).1 (T k).2.1 (T k).2.2.1 host ∈ tables_1)
theorem mcell_obj {G : mG} {u : mSt} {p c ci : Nat} {bs : List Nat} (hk : mK u p = c) (hi : mKi c = some (.inl (ci, bs))) : mcell G u p = some (.inr (ci, mfv G.1 (mI u p) (mR u p) bs 0)) := by
  simp only [mcell, hk, hi]
theorem mWd.lt {G : mG} {u : mSt} {H : Heap} (h : mWd G u H) {p c : Nat} (hk : mK u p = c) (hc : c ≠ 0) : p < mN u := h.2.2.1 p (by rw [hk]; exact hc)
