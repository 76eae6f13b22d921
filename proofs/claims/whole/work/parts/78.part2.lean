/-! the acts of a row, and PART of the class -/
def dgt (n row i : Nat) : Nat := row / 5 ^ (n - 1 - i) % 5
theorem dgt_lt (n row : Nat) : ∀ i, dgt n row i < 5 := fun i => by unfold dgt; omega
theorem mRows_eq : ∀ j, j < 7 → mRows j = nI (5 ^ j) := by decide
theorem pow_lt : ∀ j, j < 7 → 5 ^ j < 20000 ∧ 0 < 5 ^ j := by decide
theorem s_countSets {T : List aSh} {n row : Nat} {u : mSt} {K : Int32 → mSt → Prop} (hr : cRf u) (hT : atS T u) (h0 : 0 < T.length) (hn : n ≤ 6) (hrow : row < 5 ^ n) (kk : ∀ v, fr pPt u v → K (nI (nSt T (dgt n row) n)) v) : bX2_countSets 12 9 (nI n) (nI row) u K := by
  have hl := hT.2.1
  have hp := pow_lt n (by omega)
  have rows : ∀ m i y Z, i + m = n → fr pPt u y → stR T (dgt n row) i Z y → bX2_countSets_51 (m + 1) 12 9 (nI n) (nI row) (nI (i + 1)) y K := by
    intro m
    induction m with
    | zero =>
      intro i y Z hi f s
      have : i = n := by omega
      subst this
      unfold bX2_countSets_51
      rw [s.1]
      exact br_t (nI_lt (by omega) (by omega)) (kk y f)
    | succ m ih =>
      intro i y Z hi f s
      have hpj := pow_lt (n - (i + 1)) (by omega)
      unfold bX2_countSets_51
      refine br_f (nI_nlt (by omega) (by omega)) ?_
      rw [pk_sub (by omega), nI_clamp (by omega), mRows_eq _ (by omega), pk_div (by omega) hpj.2 (by omega)]
      have hrp : row / 5 ^ (n - (i + 1)) ≤ row := Nat.div_le_self _ _
      rw [i_rem (by omega) k5 (by decide) (by decide), show row / 5 ^ (n - (i + 1)) % 5 = dgt n row i by unfold dgt; rw [show n - 1 - i = n - (i + 1) by omega]]
      refine ⟨vp_in_nI (by omega) (by decide), fun e => ?_, s_refine (f.cR hr) (hT.fr f rfl pPt_hi) (dgt_lt n row) s (fun v Z' g sv => ?_)⟩
      · rw [k0] at e
        have := (nI_eq (by omega) (by omega)).mp e
        omega
      · rintro _ rfl
        rw [nI_1]
        exact ih (i + 1) v Z' (by omega) (f.tr g) sv
  have init : ∀ m k y, k + m = T.length → fr pPt u y → mI y 12 3 = 1 → (∀ j, j < k → mI y 13 j = nI (sk T j).2.1 ∧ mI y 14 j = 0) → bX2_countSets_8 (m + 1) 12 9 (nI n) (nI row) (nI k) y K := by
    intro m
    induction m with
    | zero =>
      intro k y hk f e3 hlo
      have : k = T.length := by omega
      subst this
      unfold bX2_countSets_8
      rw [(hT.fr f rfl pPt_hi).1]
      refine br_t (nI_le (by omega) (by omega)) ?_
      have := rows n 0 y (fun _ => 0) (by omega) f ⟨by rw [e3, nSt_0 _ h0]; exact k1, fun k hk => ⟨(hlo k hk).1, by rw [(hlo k hk).2]; exact k0, by rw [nSt_0 _ h0]; exact Nat.one_pos⟩, fun j k _ _ => by simp [sq]⟩
      rw [show nI (0 + 1) = 1 from rfl] at this
      exact ⟨_, this⟩
    | succ m ih =>
      intro k y hk f e3 hlo
      obtain ⟨t1, t2, pn, t3, t4⟩ := hT.fr f rfl pPt_hi
      obtain ⟨q, q1, q2, q3, q4, q5, q6⟩ := t4 k (by omega)
      have j150 : vp_in (nI k) 150 := vp_in_nI (by omega) (by decide)
      unfold bX2_countSets_8
      rw [t1]
      refine br_f (nI_ge (by omega) (by omega)) ⟨13, (f.cR hr).get 12 0 13 (by decide), pn, t3, vp_in_nI (by omega) (by decide), q, by rw [nI_clamp (by omega)]; exact q1, j150, ?_⟩
      rw [nI_clamp (by omega), q3.2.1]
      rintro _ rfl
      have f1 : fr pPt u (mpI y 13 k (nI (sk T k).2.1)) := f.wp _ rfl
      refine ⟨14, (f1.cR hr).get 12 1 14 (by decide), j150, ?_⟩
      rintro _ rfl _ rfl
      rw [nI_1]
      refine ih (k + 1) _ (by omega) (f1.wp _ rfl) (by rw [up_ne _ _ (by omega), up_ne _ _ (by omega)]; exact e3) (fun j hj => ?_)
      by_cases z : j = k
      · subst z
        rw [up_ne _ _ (by omega), up_eq, up_eq]; exact ⟨rfl, rfl⟩
      · rw [up_ne _ _ (by omega), up_ne _ _ (by omega), up_ne _ _ (by omega), up_ne _ _ (by omega)]; exact hlo j (by omega)
  unfold bX2_countSets
  rintro _ rfl
  have := init T.length 0 (mpI u 12 3 1) (by omega) (fr.pI _ u _ rfl) (up_eq _ _ _ _) (fun j hj => by omega)
  rw [nI_0] at this
  exact ⟨_, this⟩
def dec1 (a : Int32) (hi : Nat) : Option Nat := match dec a (hi + 1) with
  | none => none
  | some m => if m = 0 then none else some m
theorem dec1_some {a : Int32} {hi m : Nat} (hh : hi < 2 ^ 31 - 1) (h1 : 0 < m) (h2 : m ≤ hi) (e : a = nI m) : dec1 a hi = some m := by
  unfold dec1
  rw [dec_some (n := hi + 1) (by omega) (by omega) e]
  dsimp only
  rw [if_neg (by omega)]
theorem dec1_none {a : Int32} {hi : Nat} (hh : hi < 2 ^ 31 - 1) (hno : ∀ m, 0 < m → m ≤ hi → a ≠ nI m) : dec1 a hi = none := by
  unfold dec1
  rcases dec_cases a (n := hi + 1) (by omega) with ⟨m, hm, e, d⟩ | ⟨-, d⟩ <;> rw [d]
  dsimp only
  by_cases z : m = 0
  · rw [if_pos z]
  · exact absurd e (hno m (by omega) (by omega))
theorem in1 {a : Int32} {hi : Nat} (hh : hi < 2 ^ 31 - 1) : (a < 1 → dec1 a hi = none) ∧ (¬ a < 1 → ∃ m, a = nI m ∧ 0 < m ∧ m < 2 ^ 31 ∧ (m ≤ hi → dec1 a hi = some m) ∧ (¬ m ≤ hi → dec1 a hi = none)) := by
  have hone : ∀ m : Nat, m < 2 ^ 31 → (nI m < 1 ↔ m < 1) := fun m hm => by rw [k1]; exact nI_ltI hm (by decide)
  refine ⟨fun c => dec1_none hh (fun m h1 h6 e => ?_), fun c => ?_⟩
  · rw [e, hone m (by omega)] at c; omega
  · have c0 : ¬ a < 0 := fun z => c (Int32.lt_trans z (by decide))
    obtain ⟨m, hm, rfl⟩ := nI_of c0
    rw [hone m hm] at c
    exact ⟨m, rfl, by omega, hm, fun h => dec1_some hh (by omega) h rfl, fun h => dec1_none hh (fun m' h1 h6 e => h (by rw [(nI_eq hm (by omega)).mp e]; exact h6))⟩
def unS3 (w : aWk) (t : aAt) (x : Int32) : Int32 := if w.1 = false then -2 else if t.2.1 = true then -3 else if t.2.2.length = 0 then -1 else x
def xPart (w : aWk) (t : aAt) (a1 a2 : Int32) : Int32 := match dec1 a1 6 with
  | none => -1
  | some n => match dec a2 (5 ^ n) with
    | none => -1
    | some row => unS3 w t (nI (nSt t.2.2 (dgt n row) n))
theorem s_unsh3 {w : aWk} {t : aAt} {pn ps : Nat} {g : Nat → Nat → Option Nat} {u : mSt} {K : Int32 → mSt → Prop} {K2 : mSt → Prop} {X : Int32 → mSt → Prop} (hr : cRf u) (hk : cWk w u) (hl : t.2.2.length ≤ 150) (ht : cAt t pn ps g u) (hX : ∀ r v, X r v = ((r = 0 → K2 v) ∧ (¬ r = 0 → K r v))) (k1' : w.1 = true → t.2.1 = false → 0 < t.2.2.length → K2 u) (k2 : ∀ x, ¬ (w.1 = true ∧ t.2.1 = false ∧ 0 < t.2.2.length) → K (unS3 w t x) u) : bX8_unsheeted 0 u X := by
  refine s_unsheeted hr hk hl ht ?_
  rw [hX]
  unfold unS3 at k2
  by_cases q : w.1 = false
  · have := k2 0 (fun h => by rw [q] at h; cases h.1)
    rw [if_pos q] at this ⊢
    exact br_f (by decide) this
  · rw [if_neg q]
    by_cases z : t.2.1 = true
    · have := k2 0 (fun h => by rw [z] at h; cases h.2.1)
      rw [if_neg q, if_pos z] at this
      rw [if_pos z]
      exact br_f (by decide) this
    · rw [if_neg z]
      by_cases z2 : t.2.2.length = 0
      · have := k2 0 (fun h => by omega)
        rw [if_neg q, if_neg z, if_pos z2] at this
        rw [if_pos z2]
        exact br_f (by decide) this
      · rw [if_neg z2]
        exact br_t rfl (k1' (by simpa using q) (by simpa using z) (by omega))
theorem C_part {h : aHo} {w : aWk} {t : aAt} {pn ps : Nat} {g : Nat → Nat → Option Nat} {u : mSt} {a1 a2 : Int32} {K : Int32 → mSt → Prop} (hr : cRf u) (ho : oAt w t) (hk : cWk w u) (ht : cAt t pn ps g u) (k : ∀ v, fr pPt u v → K (xPart w t a1 a2) v) : bX8_part 0 a1 a2 u K := by
  have hl := ho.2.2.2.1
  unfold bX8_part
  unfold xPart at k
  refine br_c (fun c => ?_) (fun c => ?_)
  · rw [(in1 (hi := 6) (by decide)).1 c] at k
    exact k u (fr.rf _ _)
  · obtain ⟨n, e1, n1, n2, i1, i2⟩ := (in1 (hi := 6) (by decide)).2 c
    rw [e1, k6, nI_ltI (by decide) n2]
    refine br_c (fun z => ?_) (fun z => ?_)
    · rw [i2 (by omega)] at k
      exact k u (fr.rf _ _)
    · rw [i1 (by omega)] at k
      dsimp only at k
      have hp := pow_lt n (by omega)
      rw [nI_clamp (by omega), mRows_eq n (by omega)]
      refine ⟨vp_in_nI (by omega) (by decide), s_withinN rfl (by omega) _ _ (fun row hrow e2 => br_f (by decide) ?_) (fun e => br_t rfl ?_)⟩
      · rw [dec_some (n := 5 ^ n) (by omega) hrow e2] at k
        dsimp only at k
        rw [e2]
        refine s_unsh3 hr hk hl ht (fun _ _ => rfl) (fun h1 h2 h3 => ⟨12, hr.get 0 3 12 (by decide), 9, hr.get 0 2 9 (by decide), s_countSets hr (ht.atS ho) h3 (by omega) hrow (fun v f => ?_)⟩) (fun x hx => ?_)
        · have := k v f
          unfold unS3 at this
          rw [if_neg (by simp [h1]), if_neg (by simp [h2]), if_neg (by omega)] at this
          exact this
        · have := k u (fr.rf _ _)
          unfold unS3 at this ⊢
          by_cases q : w.1 = false
          · rw [if_pos q] at this ⊢; exact this
          · rw [if_neg q] at this ⊢
            by_cases z : t.2.1 = true
            · rw [if_pos z] at this ⊢; exact this
            · rw [if_neg z] at this ⊢
              by_cases z2 : t.2.2.length = 0
              · rw [if_pos z2] at this ⊢; exact this
              · exact absurd ⟨by simpa using q, by simpa using z, by omega⟩ hx
      · rw [dec_none (n := 5 ^ n) (by omega) e] at k
        exact k u (fr.rf _ _)
/-! NEXT: the best row -/
def bR (T : List aSh) (len : Nat) (c : Nat × Nat) : Nat → Nat × Nat
  | 0 => c
  | r + 1 => if (bR T len c r).1 < nSt T (dgt len r) len then (nSt T (dgt len r) len, 200 * len + r) else bR T len c r
def bL (T : List aSh) : Nat → Nat × Nat
  | 0 => (0, 0)
  | l + 1 => bR T (l + 1) (bL T l) (5 ^ (l + 1))
theorem bR_le (T : List aSh) (len : Nat) {c : Nat × Nat} (hc : c.1 ≤ T.length) : ∀ r, (bR T len c r).1 ≤ T.length := by
  intro r
  induction r with
  | zero => exact hc
  | succ r ih =>
    simp only [bR]
    split
    · exact nSt_le _ _ _
    · exact ih
theorem bL_le (T : List aSh) : ∀ l, (bL T l).1 ≤ T.length := by
  intro l
  induction l with
  | zero => simp [bL]
  | succ l ih => exact bR_le T _ ih _
theorem bR_stay {T : List aSh} {len : Nat} {c : Nat × Nat} {r : Nat} (h : T.length ≤ (bR T len c r).1) : ∀ j, bR T len c (r + j) = bR T len c r := by
  intro j
  induction j with
  | zero => rfl
  | succ j ih =>
    rw [← Nat.add_assoc]
    simp only [bR]
    have := nSt_le T (dgt len (r + j)) len
    rw [ih, if_neg (by omega)]
theorem bR_b {T : List aSh} {len : Nat} {c : Nat × Nat} (hc : c.2 ≤ 2000) (hlen : len ≤ 3) : ∀ r, r ≤ 125 → (bR T len c r).2 ≤ 2000 := by
  intro r
  induction r with
  | zero => intro _; exact hc
  | succ r ih =>
    intro hr
    simp only [bR]
    split
    · dsimp only; omega
    · exact ih (by omega)
theorem s_bestRow {T : List aSh} {n : Nat} {u : mSt} {K : Int32 → mSt → Prop} (hr : cRf u) (hT : atS T u) (h0 : 0 < T.length) (hn : n ≤ 3) (kk : ∀ v, fr pPt u v → K (nI (bL T n).2) v) : bX2_bestRow 12 9 (nI n) u K := by
  have hl := hT.2.1
  have lens : ∀ m l y, l + m = n → fr pPt u y → bX2_bestRow_8 (m + 1) 12 9 (nI n) (nI (bL T l).1) (nI (bL T l).2) (nI (l + 1)) y K := by
    intro m
    induction m with
    | zero =>
      intro l y hlm f
      have : l = n := by omega
      subst this
      unfold bX2_bestRow_8
      exact br_t (nI_lt (by omega) (by omega)) (kk y f)
    | succ m ih =>
      intro l y hlm f
      unfold bX2_bestRow_8
      refine br_f (nI_nlt (by omega) (by omega)) ?_
      have hp := pow_lt (l + 1) (by omega)
      have hbl := bL_le T l
      have nextl : ∀ y c, fr pPt u y → c = bL T (l + 1) → bX2_bestRow_73 12 9 (nI n) (nI c.1) (nI c.2) (nI (l + 1)) y K (fun z0 z1 z2 z3 z4 z5 z6 => bX2_bestRow_8 (m + 1) z0 z1 z2 z3 z4 z5 z6 K) := by
        rintro y c f rfl
        unfold bX2_bestRow_73
        rintro _ rfl
        rw [nI_1]
        exact ih (l + 1) y (by omega) f
      have rowsL : ∀ j r y, r + j = 5 ^ (l + 1) → fr pPt u y → bX2_bestRow_17 (j + 1) 12 9 (nI n) (nI (bR T (l + 1) (bL T l) r).1) (nI (bR T (l + 1) (bL T l) r).2) (nI (l + 1)) (nI r) y K (fun z0 z1 z2 z3 z4 z5 z6 => bX2_bestRow_8 (m + 1) z0 z1 z2 z3 z4 z5 z6 K) := by
        intro j
        induction j with
        | zero =>
          intro r y hrj f
          have : r = 5 ^ (l + 1) := by omega
          subst this
          unfold bX2_bestRow_17
          rw [nI_clamp (by omega), mRows_eq _ (by omega)]
          exact ⟨vp_in_nI (by omega) (by decide), br_t (nI_le (by omega) (by omega)) (nextl y _ f rfl)⟩
        | succ j ihj =>
          intro r y hrj f
          have hble := bR_le T (l + 1) hbl r
          have hns := nSt_le T (dgt (l + 1) r) (l + 1)
          unfold bX2_bestRow_17
          rw [nI_clamp (by omega), mRows_eq _ (by omega), (hT.fr f rfl pPt_hi).1]
          refine ⟨vp_in_nI (by omega) (by decide), br_f (nI_ge (by omega) (by omega)) (pk_le T.length (bR T (l + 1) (bL T l) r).1 (fun z => ?_) (fun z => ?_) rfl rfl)⟩
          · refine nextl y _ f ?_
            have := bR_stay (T := T) (len := l + 1) (c := bL T l) z (j + 1)
            rw [hrj] at this
            exact this.symm
          · refine s_countSets (f.cR hr) (hT.fr f rfl pPt_hi) h0 (by omega) (by omega) (fun v g => ?_)
            have ihj' := fun y f => ihj (r + 1) y (by omega) f
            simp only [bR] at ihj'
            refine pk_le (nSt T (dgt (l + 1) r) (l + 1)) (bR T (l + 1) (bL T l) r).1 (fun z2 => ?_) (fun z2 => ?_) rfl rfl
            · unfold bX2_bestRow_67
              rintro _ rfl
              rw [nI_1]
              have := ihj' v (f.tr g)
              rw [if_neg (by omega)] at this
              exact this
            · rintro _ rfl
              unfold bX2_bestRow_67
              rintro _ rfl
              rw [nI_1, show (200 : Int32) = nI 200 by decide, pk_mul, nI_add]
              have := ihj' v (f.tr g)
              rw [if_pos (by omega)] at this
              exact this
      have := rowsL (5 ^ (l + 1)) 0 y (by omega) f
      rw [nI_0] at this
      exact ⟨_, this⟩
  unfold bX2_bestRow
  have := lens n 0 u (by omega) (fr.rf _ _)
  simp only [bL, nI_0] at this
  exact ⟨_, this⟩
def xNext (w : aWk) (t : aAt) (a1 : Int32) : Int32 := match dec1 a1 3 with
  | none => -1
  | some n => unS3 w t (nI (bL t.2.2 n).2)
theorem C_next {w : aWk} {t : aAt} {pn ps : Nat} {g : Nat → Nat → Option Nat} {u : mSt} {a1 : Int32} {K : Int32 → mSt → Prop} (hr : cRf u) (ho : oAt w t) (hk : cWk w u) (ht : cAt t pn ps g u) (k : ∀ v, fr pPt u v → K (xNext w t a1) v) : bX8_next 0 a1 u K := by
  have hl := ho.2.2.2.1
  unfold bX8_next
  unfold xNext at k
  refine br_c (fun c => ?_) (fun c => ?_)
  · rw [(in1 (hi := 3) (by decide)).1 c] at k
    exact k u (fr.rf _ _)
  · obtain ⟨n, e1, n1, n2, i1, i2⟩ := (in1 (hi := 3) (by decide)).2 c
    rw [e1, k3, nI_leI n2 (by decide)]
    refine br_c (fun z => ?_) (fun z => ?_)
    · rw [i1 (by omega)] at k
      dsimp only at k
      refine s_unsh3 hr hk hl ht (fun _ _ => rfl) (fun h1 h2 h3 => ⟨12, hr.get 0 3 12 (by decide), 9, hr.get 0 2 9 (by decide), s_bestRow hr (ht.atS ho) h3 (by omega) (fun v f => ?_)⟩) (fun x hx => ?_)
      · have := k v f
        unfold unS3 at this
        rw [if_neg (by simp [h1]), if_neg (by simp [h2]), if_neg (by omega)] at this
        exact this
      · have := k u (fr.rf _ _)
        unfold unS3 at this ⊢
        by_cases q : w.1 = false
        · rw [if_pos q] at this ⊢; exact this
        · rw [if_neg q] at this ⊢
          by_cases z : t.2.1 = true
          · rw [if_pos z] at this ⊢; exact this
          · rw [if_neg z] at this ⊢
            by_cases z2 : t.2.2.length = 0
            · rw [if_pos z2] at this ⊢; exact this
            · exact absurd ⟨by simpa using q, by simpa using z, by omega⟩ hx
    · rw [i2 (by omega)] at k
      exact k u (fr.rf _ _)
