theorem mKi_len {c ty n b : Nat} (h : mKi c = some (.inr (ty, n, b))) : n ≤ 30150 := by
  have hall : ∀ k ∈ mTab, (match k with | .inl _ => true | .inr q => decide (q.2.1 ≤ 30150)) = true := by decide +kernel
  cases c with
  | zero => cases h
  | succ c =>
    have h1 := hall _ (List.mem_of_getElem? (show mTab[c]? = some (.inr (ty, n, b)) from h))
    simpa using h1
theorem mpI_mrI (u : mSt) (p i : Nat) (f : Nat → Int32) (v : Int32) : mpI (mrI u p f) p i v = mrI u p (fun j => if j = i then v else f j) := by
  simp only [mpI, mrI, mN, mT, mK, mI, mR, mL]
  congr 4
  funext q j
  simp only [mup, mrow]
  by_cases hq : q = p
  · subst hq; simp
  · simp [hq]
theorem mpL_mrL (u : mSt) (p i : Nat) (f : Nat → Int64) (v : Int64) : mpL (mrL u p f) p i v = mrL u p (fun j => if j = i then v else f j) := by
  simp only [mpL, mrL, mN, mT, mK, mI, mR, mL]
  congr 5
  funext q j
  simp only [mup, mrow]
  by_cases hq : q = p
  · subst hq; simp
  · simp [hq]
theorem mrI_self (u : mSt) (p : Nat) : mrI u p (mI u p) = u := by
  obtain ⟨a, b, c, d, e, f⟩ := u
  simp only [mrI, mN, mT, mK, mI, mR, mL]
  congr 4
  funext q j
  simp only [mrow]
  by_cases hq : q = p
  · subst hq; simp
  · simp [hq]
theorem mrL_self (u : mSt) (p : Nat) : mrL u p (mL u p) = u := by
  obtain ⟨a, b, c, d, e, f⟩ := u
  simp only [mrL, mN, mT, mK, mI, mR, mL]
  congr 5
  funext q j
  simp only [mrow]
  by_cases hq : q = p
  · subst hq; simp
  · simp [hq]
/-- Arrays.fill(int[], int) -/
def bJ7_fill_53178 (arr n : Nat) (v : Int32) (u : mSt) (K : mSt → Prop) : Prop := K (mrI u arr (fun j => if j < n then v else mI u arr j))
set_option maxRecDepth 100000 in
theorem tfillI {X : mCx} {G : mG} {u0 : mSt} {K : mSt → Prop} (F : mFx X G cJ7_fill_53178 wsJ7_fill_53178 RJ7 "fill" 0 0 none u0 (mPv K)) (hN : X.2.2.2.2.2.2.2.2.2.2.2.2.1 = 4) {arr c n : Nat} {v : Int32} {uu : mSt} (ka : mK uu arr = c) (hi : mKi c = some (.inr (0, n, 0))) (h : K (mrI uu arr (fun j => if j < n then v else mI uu arr j))) :
    ∀ (k i : Nat), i + k = n → mZ X (mrI uu arr (fun j => if j < i then v else mI uu arr j)) 5 [(0, .ref (G.1 + arr)), (1, .int v), (2, .int (nI i)), (3, .int (nI n))] [] := by
  have hn : n ≤ 30150 := mKi_len hi
  intro k
  induction k with
  | zero =>
    intro i hik
    refine mz_iload_n F dJ7_fill_53178_5 rfl 2 rfl ?_
    refine mz_iload_n F dJ7_fill_53178_6 rfl 3 rfl ?_
    refine mz_icmp_ge (tgt := 20) F dJ7_fill_53178_7 (by decide) (fun _ => ?_) (fun q => absurd (nI_le (by omega) (by omega)) q)
    rw [show i = n by omega]
    exact mz_vret F dJ7_fill_53178_20 ⟨rfl, h⟩
  | succ k ih =>
    intro i hik
    refine mz_iload_n F dJ7_fill_53178_5 rfl 2 rfl ?_
    refine mz_iload_n F dJ7_fill_53178_6 rfl 3 rfl ?_
    refine mz_icmp_ge (tgt := 20) F dJ7_fill_53178_7 (by decide) (fun q => absurd q (nI_ge (by omega) (by omega))) (fun _ => ?_)
    refine mz_aload_n F dJ7_fill_53178_10 rfl 0 rfl ?_
    refine mz_iload_n F dJ7_fill_53178_11 rfl 2 rfl ?_
    refine mz_iload_n F dJ7_fill_53178_12 rfl 1 rfl ?_
    refine mz_iast F dJ7_fill_53178_13 (show mK (mrI uu arr _) arr = c from ka) hi (vp_in_nI (by omega) (by omega)) (fun w9 ew9 _ => ?_)
    subst ew9
    refine mz_iinc (v := nI (i + 1)) (lv2 := [(2, .int (nI (i + 1))), (0, .ref (G.1 + arr)), (1, .int v), (3, .int (nI n))]) F dJ7_fill_53178_14 2 rfl (nI_succ i).symm hN (by decide) rfl ?_
    refine mz_goto (tgt := 5) F dJ7_fill_53178_17 (by decide) ?_
    refine mz_sub [1, 2, 0, 3] rfl ?_
    rw [nI_clamp (by omega), mpI_mrI]
    have e : (fun j => if j = i then v else if j < i then v else mI uu arr j) = (fun j => if j < i + 1 then v else mI uu arr j) := by
      funext j
      by_cases h1 : j = i
      · subst h1; simp
      · by_cases h2 : j < i
        · rw [if_neg h1, if_pos h2, if_pos (by omega)]
        · rw [if_neg h1, if_neg h2, if_neg (by omega)]
    rw [e]
    exact ih (i + 1) (by omega)
set_option maxRecDepth 100000 in
theorem kJ7_fill_53178 (l : Launch) (G : mG) {u : mSt} {K : mSt → Prop} {arr n c : Nat} {v : Int32} (ka : mK u arr = c) (hi : mKi c = some (.inr (0, n, 0))) (h : bJ7_fill_53178 arr n v u K) : mCt l G yJ7_fill_53178 wsJ7_fill_53178 0 0 [.ref (G.1 + arr), .int v] u (mPv K) := by
  refine mCt.of (cc := cJ7_fill_53178) (maxL := 4) (ret := none) (by decide) rfl (Nat.le_of_ble_eq_true rfl) ?_
  intro X hl hN F
  have F : mFx X G cJ7_fill_53178 wsJ7_fill_53178 RJ7 "fill" 0 0 none u (mPv K) := F
  refine mz_iconst (v := 0) F dJ7_fill_53178_0 (by decide) ?_
  refine mz_istore_n (lv2 := [(2, .int 0), (0, .ref (G.1 + arr)), (1, .int v)]) F dJ7_fill_53178_1 rfl hN (by decide) rfl ?_
  refine mz_aload_n F dJ7_fill_53178_2 rfl 1 rfl ?_
  refine mz_alen F dJ7_fill_53178_3 ka hi (by decide) ?_
  refine mz_istore_n (lv2 := [(3, .int (nI n)), (2, .int 0), (0, .ref (G.1 + arr)), (1, .int v)]) F dJ7_fill_53178_4 rfl hN (by decide) rfl ?_
  refine mz_sub [2, 3, 1, 0] rfl ?_
  have h0 := tfillI F hN ka hi h n 0 (by omega)
  simp only [Nat.not_lt_zero, if_false] at h0
  rw [mrI_self] at h0
  exact h0
/-- Arrays.fill(long[], long) -/
def bJ7_fill_d0a16 (arr n : Nat) (v : Int64) (u : mSt) (K : mSt → Prop) : Prop := K (mrL u arr (fun j => if j < n then v else mL u arr j))
set_option maxRecDepth 100000 in
theorem tfillL {X : mCx} {G : mG} {u0 : mSt} {K : mSt → Prop} (F : mFx X G cJ7_fill_d0a16 wsJ7_fill_d0a16 RJ7 "fill" 0 0 none u0 (mPv K)) (hN : X.2.2.2.2.2.2.2.2.2.2.2.2.1 = 5) {arr c n b : Nat} {v : Int64} {uu : mSt} (ka : mK uu arr = c) (hi : mKi c = some (.inr (3, n, b))) (h : K (mrL uu arr (fun j => if j < n then v else mL uu arr j))) :
    ∀ (k i : Nat), i + k = n → mZ X (mrL uu arr (fun j => if j < i then v else mL uu arr j)) 6 [(0, .ref (G.1 + arr)), (1, .long v), (3, .int (nI i)), (4, .int (nI n))] [] := by
  have hn : n ≤ 30150 := mKi_len hi
  intro k
  induction k with
  | zero =>
    intro i hik
    refine mz_iload_n F dJ7_fill_d0a16_6 rfl 2 rfl ?_
    refine mz_iload F dJ7_fill_d0a16_7 3 rfl ?_
    refine mz_icmp_ge (tgt := 22) F dJ7_fill_d0a16_9 (by decide) (fun _ => ?_) (fun q => absurd (nI_le (by omega) (by omega)) q)
    rw [show i = n by omega]
    exact mz_vret F dJ7_fill_d0a16_22 ⟨rfl, h⟩
  | succ k ih =>
    intro i hik
    refine mz_iload_n F dJ7_fill_d0a16_6 rfl 2 rfl ?_
    refine mz_iload F dJ7_fill_d0a16_7 3 rfl ?_
    refine mz_icmp_ge (tgt := 22) F dJ7_fill_d0a16_9 (by decide) (fun q => absurd q (nI_ge (by omega) (by omega))) (fun _ => ?_)
    refine mz_aload_n F dJ7_fill_d0a16_12 rfl 0 rfl ?_
    refine mz_iload_n F dJ7_fill_d0a16_13 rfl 2 rfl ?_
    refine mz_lload_n F dJ7_fill_d0a16_14 rfl 1 rfl ?_
    refine mz_last F dJ7_fill_d0a16_15 (show mK (mrL uu arr _) arr = c from ka) hi (vp_in_nI (by omega) (by omega)) (fun w9 ew9 _ => ?_)
    subst ew9
    refine mz_iinc (v := nI (i + 1)) (lv2 := [(3, .int (nI (i + 1))), (0, .ref (G.1 + arr)), (1, .long v), (4, .int (nI n))]) F dJ7_fill_d0a16_16 2 rfl (nI_succ i).symm hN (by decide) rfl ?_
    refine mz_goto (tgt := 6) F dJ7_fill_d0a16_19 (by decide) ?_
    refine mz_sub [1, 2, 0, 3] rfl ?_
    rw [nI_clamp (by omega), mpL_mrL]
    have e : (fun j => if j = i then v else if j < i then v else mL uu arr j) = (fun j => if j < i + 1 then v else mL uu arr j) := by
      funext j
      by_cases h1 : j = i
      · subst h1; simp
      · by_cases h2 : j < i
        · rw [if_neg h1, if_pos h2, if_pos (by omega)]
        · rw [if_neg h1, if_neg h2, if_neg (by omega)]
    rw [e]
    exact ih (i + 1) (by omega)
set_option maxRecDepth 100000 in
theorem kJ7_fill_d0a16 (l : Launch) (G : mG) {u : mSt} {K : mSt → Prop} {arr n c b : Nat} {v : Int64} (ka : mK u arr = c) (hi : mKi c = some (.inr (3, n, b))) (h : bJ7_fill_d0a16 arr n v u K) : mCt l G yJ7_fill_d0a16 wsJ7_fill_d0a16 0 0 [.ref (G.1 + arr), .long v] u (mPv K) := by
  refine mCt.of (cc := cJ7_fill_d0a16) (maxL := 5) (ret := none) (by decide) rfl (Nat.le_of_ble_eq_true rfl) ?_
  intro X hl hN F
  have F : mFx X G cJ7_fill_d0a16 wsJ7_fill_d0a16 RJ7 "fill" 0 0 none u (mPv K) := F
  refine mz_iconst (v := 0) F dJ7_fill_d0a16_0 (by decide) ?_
  refine mz_istore_n (lv2 := [(3, .int 0), (0, .ref (G.1 + arr)), (1, .long v)]) F dJ7_fill_d0a16_1 rfl hN (by decide) rfl ?_
  refine mz_aload_n F dJ7_fill_d0a16_2 rfl 1 rfl ?_
  refine mz_alen F dJ7_fill_d0a16_3 ka hi (by decide) ?_
  refine mz_istore (lv2 := [(4, .int (nI n)), (3, .int 0), (0, .ref (G.1 + arr)), (1, .long v)]) F dJ7_fill_d0a16_4 hN (by decide) rfl ?_
  refine mz_sub [2, 3, 1, 0] rfl ?_
  have h0 := tfillL F hN ka hi h n 0 (by omega)
  simp only [Nat.not_lt_zero, if_false] at h0
  rw [mrL_self] at h0
  exact h0
set_option maxRecDepth 100000 in
/-- Arrays.rangeCheck, where it finds nothing -/
theorem kJ7_rangeCheck_23922 (l : Launch) (G : mG) {u : mSt} {K : mSt → Prop} {a0 a1 a2 : Int32} (h : (a1 ≤ a2 ∧ 0 ≤ a1 ∧ a2 ≤ a0) ∧ K u) : mCt l G yJ7_rangeCheck_23922 wsJ7_rangeCheck_23922 0 0 [.int a0, .int a1, .int a2] u (mPv K) := by
  refine mCt.of (cc := cJ7_rangeCheck_23922) (maxL := 3) (ret := none) (by decide) rfl (Nat.le_of_ble_eq_true rfl) ?_
  intro X hl hN F
  obtain ⟨⟨h1, h2, h3⟩, h⟩ := h
  have F : mFx X G cJ7_rangeCheck_23922 wsJ7_rangeCheck_23922 RJ7 "rangeCheck" 0 0 none u (mPv K) := F
  refine mz_iload_n F dJ7_rangeCheck_23922_0 rfl 1 rfl ?_
  refine mz_iload_n F dJ7_rangeCheck_23922_1 rfl 2 rfl ?_
  refine mz_icmp_le (tgt := 46) F dJ7_rangeCheck_23922_2 (by decide) (fun _ => ?_) (fun q => absurd h1 q)
  refine mz_iload_n F dJ7_rangeCheck_23922_46 rfl 1 rfl ?_
  refine mz_if_ge (tgt := 59) F dJ7_rangeCheck_23922_47 (by decide) (fun _ => ?_) (fun q => absurd h2 q)
  refine mz_iload_n F dJ7_rangeCheck_23922_59 rfl 2 rfl ?_
  refine mz_iload_n F dJ7_rangeCheck_23922_60 rfl 0 rfl ?_
  refine mz_icmp_le (tgt := 73) F dJ7_rangeCheck_23922_61 (by decide) (fun _ => ?_) (fun q => absurd h3 q)
  exact mz_vret F dJ7_rangeCheck_23922_73 ⟨rfl, h⟩
/-- Arrays.fill(int[], int, int, int): from a to b -/
def bJ7_fill_fda19 (arr n : Nat) (a b v : Int32) (u : mSt) (K : mSt → Prop) : Prop := ∃ i j : Nat, a = nI i ∧ b = nI j ∧ i ≤ j ∧ j ≤ n ∧ K (mrI u arr (fun k => if i ≤ k ∧ k < j then v else mI u arr k))
set_option maxRecDepth 100000 in
theorem tfillR {X : mCx} {G : mG} {u0 : mSt} {K : mSt → Prop} (F : mFx X G cJ7_fill_fda19 wsJ7_fill_fda19 RJ7 "fill" 1 22 none u0 (mPv K)) (hN : X.2.2.2.2.2.2.2.2.2.2.2.2.1 = 5) {arr c n i0 n1 : Nat} {v : Int32} {uu : mSt} (ka : mK uu arr = c) (hi : mKi c = some (.inr (0, n, 0))) (hn1 : n1 ≤ n) (h : K (mrI uu arr (fun j => if i0 ≤ j ∧ j < n1 then v else mI uu arr j))) :
    ∀ (k i : Nat), i + k = n1 → i0 ≤ i → mZ X (mrI uu arr (fun j => if i0 ≤ j ∧ j < i then v else mI uu arr j)) 10 [(0, .ref (G.1 + arr)), (2, .int (nI n1)), (3, .int v), (4, .int (nI i))] [] := by
  have hn : n ≤ 30150 := mKi_len hi
  intro k
  induction k with
  | zero =>
    intro i hik h0
    refine mz_iload F dJ7_fill_fda19_10 3 rfl ?_
    refine mz_iload_n F dJ7_fill_fda19_12 rfl 1 rfl ?_
    refine mz_icmp_ge (tgt := 27) F dJ7_fill_fda19_13 (by decide) (fun _ => ?_) (fun q => absurd (nI_le (by omega) (by omega)) q)
    rw [show i = n1 by omega]
    exact mz_vret F dJ7_fill_fda19_27 ⟨rfl, h⟩
  | succ k ih =>
    intro i hik h0
    refine mz_iload F dJ7_fill_fda19_10 3 rfl ?_
    refine mz_iload_n F dJ7_fill_fda19_12 rfl 1 rfl ?_
    refine mz_icmp_ge (tgt := 27) F dJ7_fill_fda19_13 (by decide) (fun q => absurd q (nI_ge (by omega) (by omega))) (fun _ => ?_)
    refine mz_aload_n F dJ7_fill_fda19_16 rfl 0 rfl ?_
    refine mz_iload F dJ7_fill_fda19_17 3 rfl ?_
    refine mz_iload_n F dJ7_fill_fda19_19 rfl 2 rfl ?_
    refine mz_iast F dJ7_fill_fda19_20 (show mK (mrI uu arr _) arr = c from ka) hi (vp_in_nI (by omega) (by omega)) (fun w9 ew9 _ => ?_)
    subst ew9
    refine mz_iinc (v := nI (i + 1)) (lv2 := [(4, .int (nI (i + 1))), (0, .ref (G.1 + arr)), (2, .int (nI n1)), (3, .int v)]) F dJ7_fill_fda19_21 3 rfl (nI_succ i).symm hN (by decide) rfl ?_
    refine mz_goto (tgt := 10) F dJ7_fill_fda19_24 (by decide) ?_
    refine mz_sub [1, 2, 3, 0] rfl ?_
    rw [nI_clamp (by omega), mpI_mrI]
    have e : (fun j => if j = i then v else if i0 ≤ j ∧ j < i then v else mI uu arr j) = (fun j => if i0 ≤ j ∧ j < i + 1 then v else mI uu arr j) := by
      funext j
      by_cases h1 : j = i
      · subst h1; rw [if_pos rfl, if_pos (by omega)]
      · by_cases h2 : i0 ≤ j ∧ j < i
        · rw [if_neg h1, if_pos h2, if_pos (by omega)]
        · rw [if_neg h1, if_neg h2, if_neg (by omega)]
    rw [e]
    exact ih (i + 1) (by omega) (by omega)
set_option maxRecDepth 100000 in
theorem kJ7_fill_fda19 (l : Launch) (G : mG) {u : mSt} {K : mSt → Prop} {arr n c : Nat} {a b v : Int32} (ka : mK u arr = c) (hi : mKi c = some (.inr (0, n, 0))) (h : bJ7_fill_fda19 arr n a b v u K) : mCt l G yJ7_fill_fda19 wsJ7_fill_fda19 1 22 [.ref (G.1 + arr), .int a, .int b, .int v] u (mPv K) := by
  refine mCt.of (cc := cJ7_fill_fda19) (maxL := 5) (ret := none) (by decide) rfl (Nat.le_of_ble_eq_true rfl) ?_
  intro X hl hN F
  obtain ⟨i, j, rfl, rfl, hij, hjn, h⟩ := h
  have hn : n ≤ 30150 := mKi_len hi
  have F : mFx X G cJ7_fill_fda19 wsJ7_fill_fda19 RJ7 "fill" 1 22 none u (mPv K) := F
  refine mz_aload_n F dJ7_fill_fda19_0 rfl 0 rfl ?_
  refine mz_alen F dJ7_fill_fda19_1 ka hi (by decide) ?_
  refine mz_iload_n F dJ7_fill_fda19_2 rfl 1 rfl ?_
  refine mz_iload_n F dJ7_fill_fda19_3 rfl 2 rfl ?_
  refine mz_callS (n := 3) (As := [_, _, _]) (rest := []) F dJ7_fill_fda19_4 rfl gJ7_fill_fda19_J7_rangeCheck_23922 (by decide +kernel) (by decide) rfl (Nat.le_of_ble_eq_true rfl) (kJ7_rangeCheck_23922 _ G (K := fun u2 => u2 = u) ⟨⟨nI_le hij (by omega), nI_pos' (by omega), nI_le hjn (by omega)⟩, rfl⟩) (mz_kV fun u2 h2 hx => ?_)
  subst h2
  refine mz_iload_n F dJ7_fill_fda19_7 rfl 1 rfl ?_
  refine mz_istore (lv2 := [(4, .int (nI i)), (0, .ref (G.1 + arr)), (1, .int (nI i)), (2, .int (nI j)), (3, .int v)]) F dJ7_fill_fda19_8 hN (by decide) rfl ?_
  refine mz_sub [1, 3, 4, 0] rfl ?_
  have h0 := tfillR F hN ka hi hjn h (j - i) i (by omega) (Nat.le_refl _)
  have e : (fun k => if i ≤ k ∧ k < i then v else mI u2 arr k) = mI u2 arr := by
    funext k
    rw [if_neg (by omega)]
  rw [e, mrI_self] at h0
  exact h0
