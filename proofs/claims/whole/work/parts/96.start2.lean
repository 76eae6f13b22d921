theorem st_N {args : Array Value} {s : State} (hts : ∀ w ∈ lw_tbl, w.before args s = true) : ∀ w ∈ tables_1, misN w = true → va_Nw w s := by
  intro w hw hn
  have h := hts w (st_t w hw)
  cases w <;> first | exact va_Nw.of rfl h | (simp [misN] at hn)
def tRw : Term := .static "RoomMapper" "ROWS_OF_ACTS" "[I"
theorem st_R {args : Array Value} {s : State} (hts : ∀ w ∈ lw_tbl, w.before args s = true) (hgv : (Jvm.Cond.and given_1 narrow_1).before args s = true) : ∃ t, va_Z RX8 "ROWS_OF_ACTS" "[I" (.ref t) (fun q => s.heap.size ≤ q) s s.heap ∧ va_T .int t 7 (fun j => .int ([1, 5, 25, 125, 625, 3125, 15625].getD j 0)) (fun q => s.heap.size ≤ q) s s.heap := by
  have hs := flat_of_before _ hgv
  have hA : ∀ a : Nat, a < s.heap.size → ¬ (fun q => s.heap.size ≤ q) a := fun a h => Nat.not_le.mpr h
  obtain ⟨t, h1, h2⟩ := va_Tof (tm := tRw) (ty := .int) (N := 7) (f := fun j => .int ([1, 5, 25, 125, 625, 3125, 15625].getD j 0)) (A := fun q => s.heap.size ≤ q) (by decide) (hs (.arrayOf tRw .int) (by decide +kernel)) (va_eqt (hs (.eq (.length tRw) (.int 7)) (by decide +kernel))) (fun j hj => by
    match j, hj with
    | 0, _ => exact va_eqt (hs (.eq (.elem tRw (.int 0)) (.int 1)) (by decide +kernel))
    | 1, _ => exact va_eqt (hs (.eq (.elem tRw (.int 1)) (.int 5)) (by decide +kernel))
    | 2, _ => exact va_eqt (hs (.eq (.elem tRw (.int 2)) (.int 25)) (by decide +kernel))
    | 3, _ => exact va_eqt (hs (.eq (.elem tRw (.int 3)) (.int 125)) (by decide +kernel))
    | 4, _ => exact va_eqt (hs (.eq (.elem tRw (.int 4)) (.int 625)) (by decide +kernel))
    | 5, _ => exact va_eqt (hs (.eq (.elem tRw (.int 5)) (.int 3125)) (by decide +kernel))
    | 6, _ => exact va_eqt (hs (.eq (.elem tRw (.int 6)) (.int 15625)) (by decide +kernel))
    | k + 7, h => exact absurd h (by omega)) hA
  exact ⟨t, va_Zref (hts (.laysStatic "RoomMapper" "ROWS_OF_ACTS" "[I") (by decide +kernel)) (hts (.initialized "RoomMapper") (by decide +kernel)) h1 hA, h2⟩
theorem st_S {args : Array Value} {s : State} (hts : ∀ w ∈ lw_tbl, w.before args s = true) (hgv : (Jvm.Cond.and given_1 narrow_1).before args s = true) : ∀ w ∈ mStrs, ∃ sa, vk_R w.1 w.2.1 w.2.2 sa s := by
  have hs := flat_of_before _ hgv
  have one : ∀ (C : String) (k : Nat) (tx : String), (Cond.stringRef C k tx).before args s = true → (Cond.exactly (.string C k) "java/lang/String").before args s = true → ∃ sa, vk_R C k tx sa s := fun C k tx h1 h2 => by
    obtain ⟨a, c, cell, kk, h3, -⟩ := Cond.exactly_spec h2
    exact ⟨a, vk_R.of (A := args) h1 h3⟩
  intro w hw
  simp only [mStrs, List.mem_cons, List.not_mem_nil, or_false] at hw
  rcases hw with rfl | rfl | rfl | rfl
  · exact one _ _ _ (hts (.stringRef "RoomMapper" 255 "no such shelf") (by decide +kernel)) (hs (.exactly (.string "RoomMapper" 255) "java/lang/String") (by decide +kernel))
  · exact one _ _ _ (hts (.stringRef "RoomMapper" 265 "no row is held") (by decide +kernel)) (hs (.exactly (.string "RoomMapper" 265) "java/lang/String") (by decide +kernel))
  · exact one _ _ _ (hts (.stringRef "RoomMapper" 269 "the row has no such place") (by decide +kernel)) (hs (.exactly (.string "RoomMapper" 269) "java/lang/String") (by decide +kernel))
  · exact one _ _ _ (hts (.stringRef "RoomMapper$Shelf" 36 "the lead failed") (by decide +kernel)) (hs (.exactly (.string "RoomMapper$Shelf" 36) "java/lang/String") (by decide +kernel))
theorem st_Q {args : Array Value} {s : State} (hts : ∀ w ∈ lw_tbl, w.before args s = true) (hgv : (Jvm.Cond.and given_1 narrow_1).before args s = true) : vx_Zq Bundle.tN "UNASSIGNED_STACK" Bundle.steD (fun q => s.heap.size ≤ q) s s.heap ∧ vx_Zq Bundle.tN "SUPPRESSED_SENTINEL" Bundle.listD (fun q => s.heap.size ≤ q) s s.heap := by
  have hs := flat_of_before _ hgv
  have hA : ∀ a : Nat, a < s.heap.size → ¬ (fun q => s.heap.size ≤ q) a := fun a h => Nat.not_le.mpr h
  have hini : (Cond.initialized Bundle.tN).before args s = true := hts (.initialized Bundle.tN) (by decide +kernel)
  exact ⟨vx_Zqof (hts (.laysStatic Bundle.tN "UNASSIGNED_STACK" Bundle.steD) (by decide +kernel)) hini (hs (.isRef (.static Bundle.tN "UNASSIGNED_STACK" Bundle.steD)) (by decide +kernel)) hA, vx_Zqof (hts (.laysStatic Bundle.tN "SUPPRESSED_SENTINEL" Bundle.listD) (by decide +kernel)) hini (hs (.isRef (.static Bundle.tN "SUPPRESSED_SENTINEL" Bundle.listD)) (by decide +kernel)) hA⟩
theorem st_C {args : Array Value} {s : State} (hgv : (Jvm.Cond.and given_1 narrow_1).before args s = true) : va_Nc "java/lang/IllegalStateException" "java/lang/IllegalArgumentException" s := va_Nc.of (flat_of_before _ hgv (.not (.castable "java/lang/IllegalStateException" "java/lang/IllegalArgumentException")) (by decide +kernel))
def mE : mSt := (0, 0, fun _ => 0, fun _ _ => 0, fun _ _ => none, fun _ _ => 0)
theorem st_U {args : Array Value} {s : State} (hts : ∀ w ∈ lw_tbl, w.before args s = true) (hgv : (Jvm.Cond.and given_1 narrow_1).before args s = true) : ∃ G : mG, G.1 = s.heap.size ∧ G.2.2.2.1 = s.heap ∧ mU G s ∧ mWd G mE s.heap := by
  obtain ⟨D, f, hK⟩ := st_K hts
  obtain ⟨t, hZ, hT⟩ := st_R hts hgv
  obtain ⟨q1, q2⟩ := st_Q hts hgv
  refine ⟨(s.heap.size, D, f, s.heap, t), rfl, rfl, ⟨hK, st_N hts, hZ, hT, va_AO.of (hts _ (st_t _ st_a4)), va_AO.of (hts _ (st_t _ st_a5)), st_S hts hgv, q1, q2, st_C hgv⟩, ⟨rfl, rfl, Nat.zero_le _, Nat.zero_le _⟩, fun q _ => rfl, fun p h => absurd rfl h, fun p e h => ?_, fun p i q h => absurd rfl h⟩
  simp [mcell, mE, mK, mKi] at h
theorem st_fr {s t : State} {o : Outcome} {L : List Loc} {k n : Nat} (h : FrameEnd s o t L k n) (hf : ∀ q ∈ L, s.heap.size ≤ q.base) : Framed s o t [] k n := by
  obtain ⟨h1, h2, e1, e2, e3, e4, e5, e6⟩ := h
  refine ⟨h1, h2, e1, e2, e3, e4, e5, fun a c hc => ?_⟩
  obtain ⟨c', g1, g2, g3, g4⟩ := e6 a c hc
  refine ⟨c', g1, g2, g3, fun i _ => g4 i (fun hm => ?_)⟩
  have := hf _ hm
  have ha := (Array.getElem?_eq_some_iff.mp hc).1
  exact absurd this (Nat.not_le.mpr ha)
set_option maxHeartbeats 4000000 in
theorem whole_start {p : Program} {e : Env} {s : State} {m : MethodId} {below : List Frame} {meth : Method} {c : Code} (l : Launch) (hl : l.stackTraces = false) {b L : Nat} {xs : Nat → Int32} (hL : L ≤ 3072) (C0 : lw_At p s m meth c b L xs) : W p l e room_1 s m #[Value.ref b] below meth c s.heap [] 0 0 (lw_Z below #[Value.ref b] s) (entryFrame m ([Value.ref b] : List Value).toArray 8) := by
  obtain ⟨hx, hb, hr, hml, hown, hts, hX, hbl, hlocks, hgv, hnm⟩ := C0
  obtain ⟨G, hG1, hG2, hU, hWd⟩ := st_U hts hgv
  have F : mFx (p, l, e, room_1, s, m, #[Value.ref b], below, meth, c, G, mE, 8, MQ below (mQc G mE (mPz (fun r _ => r = 1))) #[Value.ref b] s (mCapC - mN mE) (mCapS - mT mE) (fun q => G.1 ≤ q)) G cL_law wsL_law RL "law" 2048 84000 (some .boolean) mE (mPz (fun r _ => r = 1)) :=
    ⟨rfl, rfl, hnm, hx, hb, hml, hown, fun w hw => hts w (st_ws w hw), hlocks, hr, rfl, rfl, rfl, rfl, hU, hWd, rfl⟩
  have hz := tL_law F rfl (b := b) (L := L) (xs := xs) ⟨by rw [hG2]; exact hX, by rw [hG1]; exact hbl⟩ hl (law_start (u := mE) (K := fun r _ => r = 1) hL (by rfl) (by rfl) (fun _ => rfl))
  have hl' := lv_entry ([.ref b]) (n := 8) (Nat.le_of_ble_eq_true rfl)
  rw [lg_entry_eq]
  have hw := hz s.heap [] _ hWd (Nat.le_refl _) (Nat.le_refl _) (by simp) (mEx.refl mE) hl'
  rw [Nat.sub_self, Nat.sub_self] at hw
  intro T hT X
  obtain ⟨t, a1, o, b1, b2, ⟨v, u, hv, ⟨r, hr1, hr2, hr3⟩, hex, hW⟩, L', hF, hf⟩ := hw T hT X
  refine ⟨t, a1, o, b1, b2, ?_, ?_⟩
  · rw [hv, hr1, hr3]
  · exact st_fr hF (fun q hq => by rw [← hG1]; exact hf q hq)
