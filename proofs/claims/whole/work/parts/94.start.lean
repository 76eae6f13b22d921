/-! THE START: what the tables say at the law's entry -/
def R_law : String := "RoomMapperLaw"
def lw_P (b : Addr) (xs : List Int32) (args : Array Value) (s : State) : Prop := args = #[.ref b] ∧ s.IntsAt b xs ∧ xs.length ≤ 3072 ∧ (Jvm.Cond.and given_1 narrow_1).before args s = true
def lw_Q (_ : Array Value) (s : State) (o : Outcome) (t : State) : Prop := o = .returned (some (.int 1)) ∧ Framed s o t [] 601024 7293033
def lw_Z (below : List Frame) (a : Array Value) (s : State) : State → Prop := fun t => ∃ o, t.status = .running ∧ Ended t below o ∧ lw_Q a s o t
def lw_At (p : Program) (s : State) (m : MethodId) (meth : Method) (c : Code) (b L : Nat) (xs : Nat → Int32) : Prop :=
  p.tables.exec = Jvm.exec ∧ c.code = code ∧ meth.sig.returnType = ret ∧ c.maxLocals = 8 ∧ s.vm.findClass R_law = some m.cls ∧ (∀ w ∈ lw_tbl, w.before #[Value.ref b] s = true) ∧ va_X b L xs s s.heap ∧ b < s.heap.size ∧ meth.locks = false ∧ (Jvm.Cond.and given_1 narrow_1).before #[Value.ref b] s = true ∧ meth.name = "law"
theorem st_arr {args : Array Value} {s : State} {ty : FieldType} (h : (Cond.arrayClass ty).before args s = true) (hty : ∀ C, ty ≠ .object C) : ∃ cA, ArrOfT s cA ty ∧ va_RA s cA ty := by
  obtain ⟨cA, kA, comp, h1, h2, h3⟩ := Cond.arrayClass_spec h
  refine ⟨cA, fun n z => ⟨fun k h => (by cases h), kA, h2, comp, h3⟩, ?_⟩
  cases ty with
  | object C => exact absurd rfl (hty C)
  | _ => exact h1
theorem st_arrO {args : Array Value} {s : State} {C : String} (h : (Cond.arrayOver (.object C)).before args s = true) : ∃ cA, ArrOfT s cA (.object C) ∧ va_RA s cA (.object C) := by
  obtain ⟨comp, cA, kA, h1, h2, h3, h4, h5⟩ := Cond.arrayOver_spec h
  exact ⟨cA, fun n z => ⟨fun k h => (by cases h), kA, h3, comp, h4⟩, ⟨kA, comp, h3, h4, h1, h5⟩⟩
theorem st_w0 : ∀ w ∈ u_ws RX0 TX0 6, w ∈ lw_tbl := by decide +kernel
theorem st_i0 : Cond.instantiable RX0 6 ∈ lw_tbl := by decide +kernel
theorem st_w1 : ∀ w ∈ u_ws RX1 TX1 7, w ∈ lw_tbl := by decide +kernel
theorem st_i1 : Cond.instantiable RX1 7 ∈ lw_tbl := by decide +kernel
theorem st_w2 : ∀ w ∈ u_ws RX2 TX2 4, w ∈ lw_tbl := by decide +kernel
theorem st_i2 : Cond.instantiable RX2 4 ∈ lw_tbl := by decide +kernel
theorem st_w3 : ∀ w ∈ u_ws RX3 TX3 3, w ∈ lw_tbl := by decide +kernel
theorem st_i3 : Cond.instantiable RX3 3 ∈ lw_tbl := by decide +kernel
theorem st_w4 : ∀ w ∈ u_ws RX4 TX4 5, w ∈ lw_tbl := by decide +kernel
theorem st_i4 : Cond.instantiable RX4 5 ∈ lw_tbl := by decide +kernel
theorem st_w5 : ∀ w ∈ u_ws RX5 TX5 5, w ∈ lw_tbl := by decide +kernel
theorem st_i5 : Cond.instantiable RX5 5 ∈ lw_tbl := by decide +kernel
theorem st_w6 : ∀ w ∈ u_ws RX6 TX6 3, w ∈ lw_tbl := by decide +kernel
theorem st_i6 : Cond.instantiable RX6 3 ∈ lw_tbl := by decide +kernel
theorem st_w7 : ∀ w ∈ u_ws RX7 TX7 3, w ∈ lw_tbl := by decide +kernel
theorem st_i7 : Cond.instantiable RX7 3 ∈ lw_tbl := by decide +kernel
theorem st_w8 : ∀ w ∈ u_ws RX8 TX8 9, w ∈ lw_tbl := by decide +kernel
theorem st_i8 : Cond.instantiable RX8 9 ∈ lw_tbl := by decide +kernel
theorem st_w9 : ∀ w ∈ u_ws RX9 TX9 52, w ∈ lw_tbl := by decide +kernel
theorem st_i9 : Cond.instantiable RX9 52 ∈ lw_tbl := by decide +kernel
theorem st_t : ∀ w, w ∈ tables_1 → w ∈ lw_tbl := fun w h => List.mem_append_right _ h
theorem st_a0 : Cond.arrayClass .int ∈ tables_1 := by decide +kernel
theorem st_a1 : Cond.arrayClass .boolean ∈ tables_1 := by decide +kernel
theorem st_a2 : Cond.arrayClass .byte ∈ tables_1 := by decide +kernel
theorem st_a3 : Cond.arrayClass .long ∈ tables_1 := by decide +kernel
theorem st_a4 : Cond.arrayOver (.object "RoomMapper$Sheet") ∈ tables_1 := by decide +kernel
theorem st_a5 : Cond.arrayOver (.object "RoomMapper$Shelf") ∈ tables_1 := by decide +kernel
theorem st_K {args : Array Value} {s : State} (hts : ∀ w ∈ lw_tbl, w.before args s = true) : ∃ (D : va_G) (f : Nat → ClassId), va_K D mCl [(f 0, .int), (f 1, .boolean), (f 2, .byte), (f 3, .long), (f 4, .object "RoomMapper$Sheet"), (f 5, .object "RoomMapper$Shelf")] s := by
  obtain ⟨c0, i0, k0'⟩ := u_known (C := RX0) (T := TX0) (N := 6) (n := 6) hts st_w0 (hts _ st_i0)
  obtain ⟨c1, i1, k1'⟩ := u_known (C := RX1) (T := TX1) (N := 7) (n := 7) hts st_w1 (hts _ st_i1)
  obtain ⟨c2, i2, k2'⟩ := u_known (C := RX2) (T := TX2) (N := 4) (n := 4) hts st_w2 (hts _ st_i2)
  obtain ⟨c3, i3, k3'⟩ := u_known (C := RX3) (T := TX3) (N := 3) (n := 3) hts st_w3 (hts _ st_i3)
  obtain ⟨c4, i4, k4'⟩ := u_known (C := RX4) (T := TX4) (N := 5) (n := 5) hts st_w4 (hts _ st_i4)
  obtain ⟨c5, i5, k5'⟩ := u_known (C := RX5) (T := TX5) (N := 5) (n := 5) hts st_w5 (hts _ st_i5)
  obtain ⟨c6, i6, k6'⟩ := u_known (C := RX6) (T := TX6) (N := 3) (n := 3) hts st_w6 (hts _ st_i6)
  obtain ⟨c7, i7, k7'⟩ := u_known (C := RX7) (T := TX7) (N := 3) (n := 3) hts st_w7 (hts _ st_i7)
  obtain ⟨c8, i8, k8'⟩ := u_known (C := RX8) (T := TX8) (N := 9) (n := 9) hts st_w8 (hts _ st_i8)
  obtain ⟨c9, i9, k9'⟩ := u_known (C := RX9) (T := TX9) (N := 52) (n := 52) hts st_w9 (hts _ st_i9)
  obtain ⟨d0, e0, g0⟩ := st_arr (ty := .int) (hts _ (st_t _ st_a0)) (fun C h => by cases h)
  obtain ⟨d1, e1, g1⟩ := st_arr (ty := .boolean) (hts _ (st_t _ st_a1)) (fun C h => by cases h)
  obtain ⟨d2, e2, g2⟩ := st_arr (ty := .byte) (hts _ (st_t _ st_a2)) (fun C h => by cases h)
  obtain ⟨d3, e3, g3⟩ := st_arr (ty := .long) (hts _ (st_t _ st_a3)) (fun C h => by cases h)
  obtain ⟨d4, e4, g4⟩ := st_arrO (C := "RoomMapper$Sheet") (hts _ (st_t _ st_a4))
  obtain ⟨d5, e5, g5⟩ := st_arrO (C := "RoomMapper$Shelf") (hts _ (st_t _ st_a5))
  refine ⟨(fun k => [c0, c1, c2, c3, c4, c5, c6, c7, c8, c9].getD k c0, fun k => [i0, i1, i2, i3, i4, i5, i6, i7, i8, i9].getD k i0), fun k => [d0, d1, d2, d3, d4, d5].getD k d0, fun k q hq => ?_, fun k q hq => ?_⟩
  · match k, hq with
    | 0, hq => cases hq; exact k0'
    | 1, hq => cases hq; exact k1'
    | 2, hq => cases hq; exact k2'
    | 3, hq => cases hq; exact k3'
    | 4, hq => cases hq; exact k4'
    | 5, hq => cases hq; exact k5'
    | 6, hq => cases hq; exact k6'
    | 7, hq => cases hq; exact k7'
    | 8, hq => cases hq; exact k8'
    | 9, hq => cases hq; exact k9'
    | k + 10, hq => simp [mCl] at hq
  · match k, hq with
    | 0, hq => cases hq; exact ⟨e0, g0⟩
    | 1, hq => cases hq; exact ⟨e1, g1⟩
    | 2, hq => cases hq; exact ⟨e2, g2⟩
    | 3, hq => cases hq; exact ⟨e3, g3⟩
    | 4, hq => cases hq; exact ⟨e4, g4⟩
    | 5, hq => cases hq; exact ⟨e5, g5⟩
    | k + 6, hq => simp at hq
