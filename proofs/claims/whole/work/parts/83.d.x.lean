/-! THROWS -/
theorem mw_thr {X : mCx} {G : mG} {cc : ByteArray} {Ts : List Cond} {own mn : String} {fr lo : Nat} {ret : Option FieldType} {u0 : mSt} {P : Option Value → mSt → Prop} {XP : String → Prop} {u : mSt} {pc : Nat} {lv : List (Nat × Value)} {rest : List Value} {cls text : String} {names : List String} {B : List Cond} {ik is ic : Nat} (F : mFw X G cc Ts own mn fr lo ret u0 P) (hq : mQx X G u0 P XP) (hnt : mNt X) (hl : X.2.1.stackTraces = false)
    (hcls : Bundle.fit cls = true) (hnames : ∀ n ∈ names, Bundle.fit n = true) (hk : Cond.classLink own ik cls ∈ Ts) (hini : Cond.initialized cls ∈ Ts) (hstr : (own, is, text) ∈ mStrs) (hat1 : ∀ w ∈ (vx_atS own ic cls names).filter goodWord, w ∈ Ts) (hat2 : ∀ w ∈ (vx_atS own ic cls names).filter (fun w => !goodWord w), w ∈ B) (hB : ∀ w ∈ B, w ∈ tables_1 ∧ misN w = true ∧ w.onTables = true)
    (hgood : ∀ w ∈ Cond.classLink own ik cls :: Cond.initialized cls :: vx_atS own ic cls names, vx_ot w = true) (hcat : (rest.map fun v => v.category).sum ≤ 8) (hR : names.length + 3 < fr ∧ 8 + (13 * (names.length + 1) + 43) ≤ lo)
    (d0 : decode cc pc = .ok (.new ik, 3)) (d3 : decode cc (pc + 3) = .ok (.dup, 1)) (d4 : (decode cc (pc + 4) = .ok (.ldc is, 2) ∧ decode cc (pc + 6) = .ok (.invokespecial ic, 3) ∧ decode cc (pc + 9) = .ok (.athrow, 1)) ∨ (decode cc (pc + 4) = .ok (.ldc_w is, 3) ∧ decode cc (pc + 7) = .ok (.invokespecial ic, 3) ∧ decode cc (pc + 10) = .ok (.athrow, 1)))
    (hroom : mN u + 1 ≤ mCapC ∧ mT u + 6 ≤ mCapS) (hXP : XP cls) (hsame : u = u0) : mZ X u pc lv rest := by
  subst hsame
  obtain ⟨p, l, e, R, s, m, args, below, meth, c0, G', u1, nL, Q⟩ := X
  obtain ⟨rfl, rfl, hmn, hx, hb, hml, hown, hts, hlk, hrt, hfr, hlo, hrc, hrs, hU, hW0, -⟩ := F
  have hQ : Q = _ := hq
  intro H locs ls h1 h2 h3 h4 h5 hlv
  subst hQ
  have hz := h1.1
  have hz0 := hW0.1
  obtain ⟨sa, hsa⟩ := hU.2.2.2.2.2.2.1 _ hstr
  have hat : ∀ w ∈ vx_atS own ic cls names, w.before args s = true := vx_hat (B := B) (fun w hw => hts w (hat1 w hw)) hat2 (fun w hw => va_Nw.use (hB w hw).2.2 (hU.2.1 w (hB w hw).1 (hB w hw).2.1))
  have hkept : ∀ a : Nat, a < G'.2.2.2.1.size → ¬ (fun q => G'.1 ≤ q) a → s.heap[a]? = G'.2.2.2.1[a]? := fun a _ hn => hW0.2.1 a (Nat.not_le.mp hn)
  have hS : va_S (fun q => G'.1 ≤ q) s.heap H locs := ⟨h2, fun q _ hn => by rw [h1.2.1 q (Nat.not_le.mp hn), hW0.2.1 q (Nat.not_le.mp hn)], h4⟩
  have hX : ∀ t : State, s.vm.Alike t.vm → H.size ≤ t.heap.size → (∀ q : Nat, q < H.size → t.heap[q]? = H[q]?) → t.heap.size ≤ H.size + 1 → mtot t.heap ≤ mtot H + 6 → mXc G' u1 XP cls s t := fun t _ z hs z1 z6 => ⟨hXP, h1.jk z hs z1 z6 hroom⟩
  rcases d4 with ⟨d4, d6, d9⟩ | ⟨d4, d7, d10⟩
  · exact vy_throwS hx hb hl hown hcls hnames (hts _ hk) (hts _ hini) hsa hat hgood (hU.2.2.2.2.2.2.2.1.kept hkept) (hU.2.2.2.2.2.2.2.2.1.kept hkept) hS (hlv.1.trans hml.symm) d0 d3 d4 d6 d9 (fun x hx9 => absurd (hnt x hx9) (fun h => h)) (by rw [hfr]; exact hR.1) (by rw [hlo]; have := hR.2; omega) (by rw [hrc]; omega) (by rw [hrs]; omega) hlk hX h4 (by omega) (by omega)
  · exact vy_throwSW hx hb hl hown hcls hnames (hts _ hk) (hts _ hini) hsa hat hgood (hU.2.2.2.2.2.2.2.1.kept hkept) (hU.2.2.2.2.2.2.2.2.1.kept hkept) hS (hlv.1.trans hml.symm) d0 d3 d4 d7 d10 (fun x hx9 => absurd (hnt x hx9) (fun h => h)) (by rw [hfr]; exact hR.1) (by rw [hlo]; have := hR.2; omega) (by rw [hrc]; omega) (by rw [hrs]; omega) hlk hX h4 (by omega) (by omega)
theorem wiX5_fail_5 : ∀ w ∈ u_ws RX5 TX5 5, w ∈ wsX5_fail := by decide +kernel
theorem fX5_fail_19 : mFld wsX5_fail RX5 19 6 2 0 .int false := ⟨5, _, RX5, TX5, 5, tyX5, rfl, rfl, rfl, by decide, wiX5_fail_5, tyX5_ok, nmX5, rfl, rfl, Or.inl ⟨by decide +kernel, fun _ => rfl⟩⟩
def bdX (E : String) : List Cond := [Cond.castable E E, Cond.declares (Bundle.initS "java/lang/RuntimeException"), Cond.declares (Bundle.initS "java/lang/Exception"), Cond.declares (Bundle.initS Bundle.tN)]
theorem caISE : ∀ w ∈ bdX "java/lang/IllegalStateException", w ∈ tables_1 ∧ misN w = true ∧ w.onTables = true := by decide +kernel
theorem caIAE : ∀ w ∈ bdX "java/lang/IllegalArgumentException", w ∈ tables_1 ∧ misN w = true ∧ w.onTables = true := by decide +kernel
/-- fail: returns where the lead is a wall, else throws -/
def bX5_fail (this : Nat) (u : mSt) (K : mSt → Prop) : Prop := (mI u this 2 = 0 → K u) ∧ (¬ (mI u this 2 = 0) → mN u + 1 ≤ mCapC ∧ mT u + 6 ≤ mCapS)
set_option maxRecDepth 20000 in
theorem kX5_fail (l : Launch) (hl : l.stackTraces = false) (G : mG) {u : mSt} {K : mSt → Prop} {this : Nat} (kthis : mK u this = 6) (h : bX5_fail this u K) : mXt l G yX5_fail wsX5_fail 6 90 [.ref (G.1 + this)] u (mPv K) (fun E => E = "java/lang/IllegalStateException" ∧ ¬ (mI u this 2 = 0)) := by
  refine mXt.of (cc := cX5_fail) (maxL := 1) (ret := none) (by decide) rfl (Nat.le_of_ble_eq_true rfl) ?_
  intro X hX hN F hq hnt
  have hl2 : X.2.1.stackTraces = false := by rw [hX]; exact hl
  refine mw_aload_n F dX5_fail_0 rfl 0 rfl ?_
  refine mw_getI F dX5_fail_1 fX5_fail_19 kthis ?_
  refine mw_if_eq (tgt := 17) F dX5_fail_4 (by decide) (fun c => ?_) (fun c => ?_)
  · exact mw_vret F hq dX5_fail_17 ⟨rfl, h.1 c⟩
  · exact mw_thr (cls := "java/lang/IllegalStateException") (text := "the lead failed") (names := ["java/lang/RuntimeException", "java/lang/Exception"]) (ik := 34) (is := 36) (ic := 38) F hq hnt hl2 (by decide +kernel) (by decide +kernel) (by decide +kernel) (by decide +kernel) (by decide) (by decide +kernel) (by decide +kernel) caISE (by decide +kernel) (by decide) (by decide) dX5_fail_7 dX5_fail_10 (Or.inl ⟨dX5_fail_11, dX5_fail_13, dX5_fail_16⟩) (h.2 c) ⟨rfl, c⟩ rfl
/-! element -/
theorem bX8_within.imp {a b : Int32} {u : mSt} {K K' : Int32 → mSt → Prop} (k : ∀ r, K r u → K' r u) (h : bX8_within a b u K) : bX8_within a b u K' := ⟨fun c => k _ (h.1 c), fun c => ⟨fun d => k _ ((h.2 c).1 d), fun d => k _ ((h.2 c).2 d)⟩⟩
theorem bX5_isRow.imp {a : Nat} {u : mSt} {K K' : Int32 → mSt → Prop} (k : ∀ r, K r u → K' r u) (h : bX5_isRow a u K) : bX5_isRow a u K' := ⟨fun c => k _ (h.1 c), fun c => ⟨fun d => k _ ((h.2 c).1 d), fun d => k _ ((h.2 c).2 d)⟩⟩
theorem wiX8_element_8 : ∀ w ∈ u_ws RX8 TX8 9, w ∈ wsX8_element := by decide +kernel
theorem wiX8_element_5 : ∀ w ∈ u_ws RX5 TX5 5, w ∈ wsX8_element := by decide +kernel
theorem fX8_element_60 : mFld wsX8_element RX8 60 9 7 23 (.array (.object "RoomMapper$Shelf")) true := ⟨8, _, RX8, TX8, 9, tyX8, rfl, rfl, rfl, by decide, wiX8_element_8, tyX8_ok, nmX8, rfl, rfl, Or.inl ⟨by decide +kernel, fun _ => rfl⟩⟩
theorem nvF8_268 : Cond.fieldLinkNest RX8 268 RX5 "size" "I" "RoomMapper" ∈ tables_1 := by decide +kernel
theorem fX8_element_268 : mFld wsX8_element RX8 268 6 4 0 .int false := ⟨5, _, RX5, TX5, 5, tyX5, rfl, rfl, rfl, by decide, wiX8_element_5, tyX5_ok, nmX5, rfl, rfl, Or.inr ⟨"RoomMapper", nvF8_268⟩⟩
theorem fX8_element_271 : mFld wsX8_element RX8 271 6 0 19 (.array .long) true := ⟨5, _, RX5, TX5, 5, tyX5, rfl, rfl, rfl, by decide, wiX8_element_5, tyX5_ok, nmX5, rfl, rfl, Or.inr ⟨"RoomMapper", nwF8_271⟩⟩
theorem mX8_element_iniX5_isRow : Cond.initialized yX5_isRow.cls ∈ wsX8_element := by decide +kernel
theorem mX8_element_imX5_isRow : Cond.instanceMethod yX5_isRow ∈ wsX8_element := by decide +kernel
theorem mX8_element_seX5_isRow : Cond.selects RX5 yX5_isRow yX5_isRow ∈ wsX8_element := by decide +kernel
def mRm (u : mSt) : Prop := mN u + 1 ≤ mCapC ∧ mT u + 6 ≤ mCapS
def bX8_elem (this : Nat) (a1 a2 : Int32) (u : mSt) (A1 A2 : Prop) (K : Int64 → mSt → Prop) : Prop :=
  bX8_within a1 8 u (fun r u1 => u1 = u ∧ (r = 0 → mRm u1 ∧ A1) ∧ (¬ (r = 0) → ∃ q, mR u1 this 7 = some q ∧ vp_in a1 8 ∧ ∃ s, mR u1 q a1.toNatClampNeg = some s ∧ bX5_isRow s u1 (fun r2 u2 => u2 = u ∧
    (r2 = 0 → mRm u2 ∧ A2) ∧ (¬ (r2 = 0) → bX8_within a2 (mI u2 s 4) u2 (fun r3 u3 => u3 = u ∧ (r3 = 0 → mRm u3 ∧ A2) ∧ (¬ (r3 = 0) → ∃ w, mR u3 s 0 = some w ∧ vp_in a2 60 ∧ K (mL u3 w a2.toNatClampNeg) u3))))))
set_option maxRecDepth 20000 in
set_option maxHeartbeats 4000000 in
theorem kX8_element (l : Launch) (hl : l.stackTraces = false) (G : mG) {u : mSt} {A1 A2 : Prop} {K : Int64 → mSt → Prop} {this : Nat} {a1 a2 : Int32} (kthis : mK u this = 9) (h : bX8_elem this a1 a2 u A1 A2 K) : mXt l G yX8_element wsX8_element 6 100 [.ref (G.1 + this), .int a1, .int a2] u (mPl K) (fun E => (E = "java/lang/IllegalArgumentException" ∧ A1) ∨ (E = "java/lang/IllegalStateException" ∧ A2)) := by
  refine mXt.of (cc := cX8_element) (maxL := 4) (ret := some .long) (by decide) rfl (Nat.le_of_ble_eq_true rfl) ?_
  intro X hX hN F hq hnt
  have hl2 : X.2.1.stackTraces = false := by rw [hX]; exact hl
  refine mw_iload_n F dX8_element_0 rfl 1 rfl ?_
  refine mw_bipush (v := 8) F dX8_element_1 (by decide) ?_
  refine mw_callS (As := [_, _]) (n := 2) F dX8_element_3 rfl gX8_element_X8_within (by decide +kernel) (by decide) rfl (Nat.le_of_ble_eq_true rfl) (kX8_within _ G h) (mz_kZ fun r1 u1 b1 h hx1 => ?_)
  obtain ⟨e1, h⟩ := h
  replace kthis := hx1.2.2 _ _ (by decide) kthis
  refine mw_if_ne (tgt := 19) F dX8_element_6 (by decide) (fun c => ?_) (fun c => ?_)
  · obtain ⟨q, eq, hi, s, es, h⟩ := h.2 c
    refine mw_aload_n F dX8_element_19 rfl 0 rfl ?_
    refine mw_getR F dX8_element_20 fX8_element_60 (by decide) kthis eq (fun kq => ?_)
    refine mw_iload_n F dX8_element_23 rfl 1 rfl ?_
    refine mw_aald5 F dX8_element_24 kq rfl (by decide) hi es (fun ks => ?_)
    refine mw_astore_n F dX8_element_25 rfl hN (by decide) rfl ?_
    refine mw_aload_n F dX8_element_26 rfl 0 rfl ?_
    refine mw_callVN (As := []) (n := 0) F dX8_element_27 rfl ks rfl rfl gX8_element_X5_isRow_n260 nwM8_260 mX8_element_iniX5_isRow mX8_element_imX5_isRow mX8_element_seX5_isRow (by decide +kernel) (by decide) rfl (Nat.le_of_ble_eq_true rfl) (kX5_isRow _ G ks h) (mz_kZ fun r2 u2 b2 h hx2 => ?_)
    obtain ⟨e2, h⟩ := h
    replace ks := hx2.2.2 _ _ (by decide) ks
    refine mw_if_ne (tgt := 44) F dX8_element_30 (by decide) (fun c => ?_) (fun c => ?_)
    · have h := h.2 c
      refine mw_iload_n F dX8_element_44 rfl 3 rfl ?_
      refine mw_aload_n F dX8_element_45 rfl 0 rfl ?_
      refine mw_getI F dX8_element_46 fX8_element_268 ks ?_
      refine mw_callS (As := [_, _]) (n := 2) F dX8_element_49 rfl gX8_element_X8_within (by decide +kernel) (by decide) rfl (Nat.le_of_ble_eq_true rfl) (kX8_within _ G h) (mz_kZ fun r3 u3 b3 h hx3 => ?_)
      obtain ⟨e3, h⟩ := h
      replace ks := hx3.2.2 _ _ (by decide) ks
      refine mw_if_ne (tgt := 66) F dX8_element_52 (by decide) (fun c => ?_) (fun c => ?_)
      · obtain ⟨w, ew, hi2, h⟩ := h.2 c
        refine mw_aload_n F dX8_element_66 rfl 0 rfl ?_
        refine mw_getR F dX8_element_67 fX8_element_271 (by decide) ks ew (fun kw => ?_)
        refine mw_iload_n F dX8_element_70 rfl 3 rfl ?_
        refine mw_lald F dX8_element_71 kw rfl hi2 ?_
        exact mw_lret F hq dX8_element_72 ⟨_, rfl, h⟩
      · exact mw_thr (cls := "java/lang/IllegalStateException") (text := "the row has no such place") (names := ["java/lang/RuntimeException", "java/lang/Exception"]) (ik := 263) (is := 269) (ic := 267) F hq hnt hl2 (by decide +kernel) (by decide +kernel) (by decide +kernel) (by decide +kernel) (by decide) (by decide +kernel) (by decide +kernel) caISE (by decide +kernel) (by decide) (by decide) dX8_element_55 dX8_element_58 (Or.inr ⟨dX8_element_59, dX8_element_62, dX8_element_65⟩) (h.1 c).1 (Or.inr ⟨rfl, (h.1 c).2⟩) e3
    · exact mw_thr (cls := "java/lang/IllegalStateException") (text := "no row is held") (names := ["java/lang/RuntimeException", "java/lang/Exception"]) (ik := 263) (is := 265) (ic := 267) F hq hnt hl2 (by decide +kernel) (by decide +kernel) (by decide +kernel) (by decide +kernel) (by decide) (by decide +kernel) (by decide +kernel) caISE (by decide +kernel) (by decide) (by decide) dX8_element_33 dX8_element_36 (Or.inr ⟨dX8_element_37, dX8_element_40, dX8_element_43⟩) (h.1 c).1 (Or.inr ⟨rfl, (h.1 c).2⟩) e2
  · exact mw_thr (cls := "java/lang/IllegalArgumentException") (text := "no such shelf") (names := ["java/lang/RuntimeException", "java/lang/Exception"]) (ik := 253) (is := 255) (ic := 257) F hq hnt hl2 (by decide +kernel) (by decide +kernel) (by decide +kernel) (by decide +kernel) (by decide) (by decide +kernel) (by decide +kernel) caIAE (by decide +kernel) (by decide) (by decide) dX8_element_9 dX8_element_12 (Or.inl ⟨dX8_element_13, dX8_element_15, dX8_element_18⟩) (h.1 c).1 (Or.inl ⟨rfl, (h.1 c).2⟩) e1
