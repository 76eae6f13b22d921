abbrev mCl : List vw_C := [(RX0, TX0, 6), (RX1, TX1, 7), (RX2, TX2, 4), (RX3, TX3, 3), (RX4, TX4, 5), (RX5, TX5, 5), (RX6, TX6, 3), (RX7, TX7, 3), (RX8, TX8, 9), (RX9, TX9, 52)]
/-! THE STATE as numbers: places from the base address on; a place has a kind; int slots, reference slots, long slots. -/
abbrev mSt : Type := Nat × Nat × (Nat → Nat) × (Nat → Nat → Int32) × (Nat → Nat → Option Nat) × (Nat → Nat → Int64)
def mN (u : mSt) : Nat := u.1
def mT (u : mSt) : Nat := u.2.1
def mK (u : mSt) : Nat → Nat := u.2.2.1
def mI (u : mSt) : Nat → Nat → Int32 := u.2.2.2.1
def mR (u : mSt) : Nat → Nat → Option Nat := u.2.2.2.2.1
def mL (u : mSt) : Nat → Nat → Int64 := u.2.2.2.2.2
def mup {α : Type} (f : Nat → Nat → α) (p i : Nat) (v : α) : Nat → Nat → α := fun q j => if q = p ∧ j = i then v else f q j
def mrow {α : Type} (f : Nat → Nat → α) (p : Nat) (g : Nat → α) : Nat → Nat → α := fun q j => if q = p then g j else f q j
def mpI (u : mSt) (p i : Nat) (v : Int32) : mSt := (mN u, mT u, mK u, mup (mI u) p i v, mR u, mL u)
def mpR (u : mSt) (p i : Nat) (v : Option Nat) : mSt := (mN u, mT u, mK u, mI u, mup (mR u) p i v, mL u)
def mpL (u : mSt) (p i : Nat) (v : Int64) : mSt := (mN u, mT u, mK u, mI u, mR u, mup (mL u) p i v)
/-- a whole row written (a copy of an array) -/
def mrI (u : mSt) (p : Nat) (g : Nat → Int32) : mSt := (mN u, mT u, mK u, mrow (mI u) p g, mR u, mL u)
def mrL (u : mSt) (p : Nat) (g : Nat → Int64) : mSt := (mN u, mT u, mK u, mI u, mR u, mrow (mL u) p g)
/-- a new cell of kind c, of z slots -/
def mnw (u : mSt) (c z : Nat) : mSt := (mN u + 1, mT u + z, va_up (mK u) (mN u) c, mrow (mI u) (mN u) (fun _ => 0), mrow (mR u) (mN u) (fun _ => none), mrow (mL u) (mN u) (fun _ => 0))
/-! THE KINDS: an object (its class's number in mCl, which fields are references, the kinds that they refer to); a row (which component, how long, the kind that it refers to) -/
abbrev mKd : Type := (Nat × List Nat) ⊕ (Nat × Nat × Nat)
def mTab : List mKd := [.inl (0, [11, 11, 0, 0, 0, 0]), .inl (1, [12, 13, 14, 14, 0, 0, 0]), .inl (2, [15, 15, 16, 0]), .inl (3, [17, 17, 0]), .inl (4, [17, 18, 0, 0, 0]), .inl (5, [19, 0, 0, 0, 0]), .inl (6, [20, 21, 0]), .inl (7, [22, 22, 0]), .inl (8, [2, 8, 1, 3, 4, 5, 7, 23, 0]), .inl (9, [0, 0, 12, 13, 14, 14, 0, 0, 0, 0, 0, 0, 0, 22, 22, 22, 22, 0, 0, 0, 0, 15, 24, 25, 15, 15, 26, 0, 15, 24, 25, 15, 15, 26, 0, 0, 0, 0, 17, 24, 0, 17, 17, 18, 21, 27, 28, 28, 28, 28, 29, 19]), .inr (4, 151, 5), .inr (0, 10, 0), .inr (1, 10, 0), .inr (0, 40, 0), .inr (0, 150, 0), .inr (0, 2550, 0), .inr (0, 6, 0), .inr (0, 30, 0), .inr (3, 60, 0), .inr (0, 480, 0), .inr (1, 480, 0), .inr (0, 200, 0), .inr (5, 8, 6), .inr (0, 900, 0), .inr (0, 4500, 0), .inr (2, 30150, 0), .inr (1, 80, 0), .inr (0, 8, 0), .inr (3, 480, 0), .inr (3, 1, 0)]
def mKi (c : Nat) : Option mKd := match c with
  | 0 => none
  | c + 1 => mTab[c]?
abbrev mG : Type := Nat × va_G × (Nat → ClassId) × Heap × Nat
/-- a reference as the machine has it -/
def mrf (B : Nat) (r : Option Nat) : Value := match r with
  | none => .null
  | some q => .ref (B + q)
theorem mrf_va (B : Nat) (r : Option Nat) : mrf B r = va_rf (r.map (fun q => B + q)) := by cases r <;> rfl
/-- an object's fields -/
def mfv (B : Nat) (f : Nat → Int32) (g : Nat → Option Nat) : List Nat → Nat → List Value
  | [], _ => []
  | b :: r, i => (if b = 0 then .int (f i) else mrf B (g i)) :: mfv B f g r (i + 1)
theorem mfv_len (B : Nat) (f : Nat → Int32) (g : Nat → Option Nat) : ∀ (bs : List Nat) (i : Nat), (mfv B f g bs i).length = bs.length
  | [], _ => rfl
  | b :: r, i => by simp [mfv, mfv_len B f g r (i + 1)]
theorem mfv_get (B : Nat) (f : Nat → Int32) (g : Nat → Option Nat) : ∀ (bs : List Nat) (i k : Nat), (mfv B f g bs i)[k]? = (bs[k]?).map (fun b => if b = 0 then .int (f (i + k)) else mrf B (g (i + k)))
  | [], _, k => by simp [mfv]
  | b :: r, i, 0 => by simp [mfv]
  | b :: r, i, k + 1 => by
    simp only [mfv, List.getElem?_cons_succ]
    rw [mfv_get B f g r (i + 1) k, show i + 1 + k = i + (k + 1) by omega]
theorem mfv_congr (B : Nat) {f f' : Nat → Int32} {g g' : Nat → Option Nat} : ∀ (bs : List Nat) (i : Nat), (∀ (k b : Nat), bs[k]? = some b → (b = 0 → f (i + k) = f' (i + k)) ∧ (b ≠ 0 → g (i + k) = g' (i + k))) → mfv B f g bs i = mfv B f' g' bs i
  | [], _, _ => rfl
  | b :: r, i, h => by
    have h0 := h 0 b rfl
    have hr := mfv_congr B r (i + 1) (f := f) (f' := f') (g := g) (g' := g') (fun k b' hb => by
      have := h (k + 1) b' (by simpa using hb)
      rw [show i + (k + 1) = i + 1 + k by omega] at this
      exact this)
    simp only [mfv, hr]
    by_cases hb : b = 0
    · simp only [hb, if_true]; rw [show f i = f' i from h0.1 hb]
    · simp only [hb, if_false]; rw [show g i = g' i from h0.2 hb]
/-- what the machine's heap has at a place -/
def mcell (G : mG) (u : mSt) (p : Nat) : Option va_E := match mKi (mK u p) with
  | none => none
  | some (.inl q) => some (.inr (q.1, mfv G.1 (mI u p) (mR u p) q.2 0))
  | some (.inr q) => some (.inl (G.2.2.1 q.1, q.2.1, if q.1 = 3 then .inr (.inl (mL u p)) else if q.2.2 = 0 then .inl (mI u p) else .inr (.inr (.inr (.inr (fun i => (mR u p i).map (fun r => G.1 + r)))))))
/-- the kind that slot i of a cell of kind c refers to; 0: no reference -/
def mfk (c i : Nat) : Nat := match mKi c with
  | none => 0
  | some (.inl q) => (q.2[i]?).getD 0
  | some (.inr q) => q.2.2
def mtot (H : Heap) : Nat := H.foldl (fun n c => n + c.slots.size) 0
/-- the references keep to their kinds -/
def mTy (u : mSt) : Prop := ∀ p i q, mfk (mK u p) i ≠ 0 → mR u p i = some q → mK u q = mfk (mK u p) i
def mCapC : Nat := 601024
def mCapS : Nat := 7293033
/-- THE WORLD: the heap from the base on is as the state says -/
def mWd (G : mG) (u : mSt) (H : Heap) : Prop :=
  (H.size = G.1 + mN u ∧ mtot H = mtot G.2.2.2.1 + mT u ∧ mN u ≤ mCapC ∧ mT u ≤ mCapS) ∧ (∀ q, q < G.1 → H[q]? = G.2.2.2.1[q]?) ∧ (∀ p, mK u p ≠ 0 → p < mN u) ∧ (∀ p e, mcell G u p = some e → va_at G.2.1 mCl (G.1 + p, e) H) ∧ mTy u
def mTys (G : mG) : List (ClassId × FieldType) := [(G.2.2.1 0, .int), (G.2.2.1 1, .boolean), (G.2.2.1 2, .byte), (G.2.2.1 3, .long), (G.2.2.1 4, .object "RoomMapper$Sheet"), (G.2.2.1 5, .object "RoomMapper$Shelf")]
def misN (w : Cond) : Bool := match w with
  | .fieldLinkNest _ _ _ _ _ _ => true
  | .methodLinkNest _ _ _ _ => true
  | .castable _ _ => true
  | .declares _ => true
  | _ => false
/-- the texts of the exceptions -/
def mStrs : List (String × Nat × String) := [(RX8, 255, "no such shelf"), (RX8, 265, "no row is held"), (RX8, 269, "the row has no such place"), (RX5, 36, "the lead failed")]
/-- what the tables say, at any state of the run -/
def mU (G : mG) (U : State) : Prop := va_K G.2.1 mCl (mTys G) U ∧ (∀ w ∈ tables_1, misN w = true → va_Nw w U) ∧ va_Z RX8 "ROWS_OF_ACTS" "[I" (.ref G.2.2.2.2) (fun q => G.1 ≤ q) U G.2.2.2.1 ∧ va_T .int G.2.2.2.2 7 (fun j => .int ([1, 5, 25, 125, 625, 3125, 15625].getD j 0)) (fun q => G.1 ≤ q) U G.2.2.2.1 ∧ va_AO "RoomMapper$Sheet" U ∧ va_AO "RoomMapper$Shelf" U ∧ (∀ w ∈ mStrs, ∃ sa, vk_R w.1 w.2.1 w.2.2 sa U) ∧ vx_Zq Bundle.tN "UNASSIGNED_STACK" Bundle.steD (fun q => G.1 ≤ q) U G.2.2.2.1 ∧ vx_Zq Bundle.tN "SUPPRESSED_SENTINEL" Bundle.listD (fun q => G.1 ≤ q) U G.2.2.2.1 ∧ va_Nc "java/lang/IllegalStateException" "java/lang/IllegalArgumentException" U
/-- nothing that is there goes away -/
def mEx (u v : mSt) : Prop := mN u ≤ mN v ∧ mT u ≤ mT v ∧ ∀ p c, c ≠ 0 → mK u p = c → mK v p = c
/-- a method's frame, as the rows see it: p l e R s m args below meth c, the world's base, how many locals, where it goes to -/
abbrev mCx : Type := Program × Launch × Env × Room × State × MethodId × Array Value × List Frame × Method × Code × mG × mSt × Nat × (State → Prop)
def mZ (X : mCx) (u : mSt) (pc : Nat) (lv : List (Nat × Value)) (st : List Value) : Prop := match X with
  | (p, l, e, R, s, m, args, below, meth, c, G, u0, nL, Q) =>
    ∀ (H : Heap) (locs : List Loc) (ls : Array Slot), mWd G u H → s.heap.size ≤ H.size → mtot s.heap ≤ mtot H → (∀ q ∈ locs, G.1 ≤ q.base) → mEx u0 u → lv_has ls nL lv →
      W p l e R s m args below meth c H locs (H.size - s.heap.size) (mtot H - mtot s.heap) Q (F0 m pc ls st)
def mQc (G : mG) (u0 : mSt) (P : Option Value → mSt → Prop) : Array Value → State → Outcome → State → Prop := fun _ _ oc t => ∃ (v : Option Value) (u : mSt), oc = .returned v ∧ P v u ∧ mEx u0 u ∧ mWd G u t.heap
def mFx (X : mCx) (G : mG) (cc : ByteArray) (Ts : List Cond) (own mn : String) (fr lo : Nat) (ret : Option FieldType) (u0 : mSt) (P : Option Value → mSt → Prop) : Prop := match X with
  | (p, l, e, R, s, m, args, below, meth, c, G', u1, nL, Q) =>
    G' = G ∧ u1 = u0 ∧ meth.name = mn ∧ p.tables.exec = Jvm.exec ∧ c.code = cc ∧ c.maxLocals = nL ∧ s.vm.findClass own = some m.cls ∧ (∀ w ∈ Ts, w.before args s = true) ∧ meth.locks = false ∧ meth.sig.returnType = ret ∧ R.frames = fr ∧ R.locals = lo ∧ R.cells = mCapC - mN u0 ∧ R.slots = mCapS - mT u0 ∧
    mU G s ∧ mWd G u0 s.heap ∧ Q = MQ below (mQc G u0 P) args s (mCapC - mN u0) (mCapS - mT u0) (fun q => G.1 ≤ q)
/-- A METHOD'S CONTRACT -/
def mCt (l : Launch) (G : mG) (y : MethodName) (ws : List Cond) (fr lo : Nat) (av : List Value) (u : mSt) (P : Option Value → mSt → Prop) : Prop :=
  Met l y ws { frames := fr, cells := mCapC - mN u, slots := mCapS - mT u, locals := lo } (fun v U => v = av.toArray ∧ mWd G u U.heap ∧ mU G U) (mQc G u P) (mCapC - mN u) (mCapS - mT u) (fun q => G.1 ≤ q)
