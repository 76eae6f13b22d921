/-! PART: what the acts of a row show on a sheet -/
abbrev aSi : Type := Option (Bool × Nat × Bool)
def po (s : aSh) (d : Nat → Nat) : Nat → Option Nat
  | 0 => some s.2.1
  | i + 1 => match po s d i with
    | none => none
    | some p => match s.2.2.2.2 (5 * p + d i) with
      | 0 => none
      | 1 => some p
      | q + 2 => some q
def siA (s : aSh) (p a : Nat) : aSi := match s.2.2.2.2 (5 * p + a) with
  | 0 => none
  | 1 => some (true, s.2.2.2.1 p, decide (s.2.2.1 = some p))
  | q + 2 => some (false, s.2.2.2.1 q, decide (s.2.2.1 = some q))
def si (s : aSh) (d : Nat → Nat) (i : Nat) : aSi := match po s d i with
  | none => none
  | some p => siA s p (d i)
def sq (s : aSh) (d : Nat → Nat) (i : Nat) : List aSi := (List.range i).map (si s d)
def sk (T : List aSh) (k : Nat) : aSh := (T[k]?).getD (0, 0, none, fun _ => 0, fun _ => 0)
theorem sk_at {T : List aSh} {k : Nat} (h : k < T.length) : T[k]? = some (sk T k) := by
  unfold sk
  rw [List.getElem?_eq_getElem h]; rfl
theorem sk_mem {T : List aSh} {k : Nat} (h : k < T.length) : sk T k ∈ T := List.mem_of_getElem? (sk_at h)
theorem sq_len (s : aSh) (d : Nat → Nat) (i : Nat) : (sq s d i).length = i := by simp [sq]
theorem sq_succ (s : aSh) (d : Nat → Nat) (i : Nat) : sq s d (i + 1) = sq s d i ++ [si s d i] := by simp [sq, List.range_succ]
theorem sq_eq {s s' : aSh} {d : Nat → Nat} {i : Nat} : sq s d (i + 1) = sq s' d (i + 1) ↔ sq s d i = sq s' d i ∧ si s d i = si s' d i := by
  rw [sq_succ, sq_succ]
  constructor
  · intro h
    obtain ⟨h1, h2⟩ := List.append_inj h (by rw [sq_len, sq_len])
    exact ⟨h1, by simpa using h2⟩
  · rintro ⟨h1, h2⟩; rw [h1, h2]
def frs (T : List aSh) (d : Nat → Nat) (i k : Nat) : Bool := (List.range k).all (fun j => decide (sq (sk T j) d i ≠ sq (sk T k) d i))
theorem frs_iff {T : List aSh} {d : Nat → Nat} {i k : Nat} : frs T d i k = true ↔ ∀ j, j < k → sq (sk T j) d i ≠ sq (sk T k) d i := by simp [frs]
def nSt (T : List aSh) (d : Nat → Nat) (i : Nat) : Nat := cnt (frs T d i) T.length
theorem nSt_0 {T : List aSh} (d : Nat → Nat) (h : 0 < T.length) : nSt T d 0 = 1 := by
  unfold nSt
  have : ∀ n, 0 < n → cnt (frs T d 0) n = 1 := by
    intro n
    induction n with
    | zero => intro h; omega
    | succ n ih =>
      intro _
      simp only [cnt]
      by_cases z : n = 0
      · subst z
        rw [show frs T d 0 0 = true by rw [frs_iff]; intro j hj; omega]; rfl
      · rw [ih (by omega), show frs T d 0 n = false by
          cases hh : frs T d 0 n
          · rfl
          · exact absurd rfl (frs_iff.mp hh 0 (by omega))]
        rfl
  exact this _ h
theorem po_lt {s : aSh} {d : Nat → Nat} (hs : oSh 6 s) (hd : ∀ i, d i < 5) : ∀ i p, po s d i = some p → p < s.1 := by
  intro i
  induction i with
  | zero => intro p h; simp only [po, Option.some.injEq] at h; rw [← h]; exact hs.1.2.2.1
  | succ i ih =>
    intro p h
    simp only [po] at h
    cases hp : po s d i with
    | none => rw [hp] at h; cases h
    | some p' =>
      rw [hp] at h
      dsimp only at h
      have hp' := ih p' hp
      have hdi := hd i
      have hl := (hs.2.2 (5 * p' + d i) (by omega)).1
      generalize s.2.2.2.2 (5 * p' + d i) = l at *
      match l, hl, h with
      | 0, hl, h => cases h
      | 1, hl, h => cases h; exact hp'
      | q + 2, hl, h => cases h; omega
def okS (x : aSi) : Prop := ∀ b n p, x = some (b, n, p) → n < 4
theorem siA_ok {s : aSh} {p a : Nat} (hs : oSh 6 s) (hp : p < s.1) (ha : a < 5) : okS (siA s p a) := by
  have hl := (hs.2.2 (5 * p + a) (by omega)).1
  intro b n q h
  unfold siA at h
  generalize s.2.2.2.2 (5 * p + a) = l at *
  match l, hl, h with
  | 0, hl, h => cases h
  | 1, hl, h => cases h; exact hs.2.1 p hp
  | q + 2, hl, h => cases h; exact hs.2.1 q (by omega)
theorem si_ok {s : aSh} {d : Nat → Nat} (hs : oSh 6 s) (hd : ∀ i, d i < 5) (i : Nat) : okS (si s d i) := by
  unfold si
  cases hp : po s d i with
  | none => intro b n p h; cases h
  | some p => exact siA_ok hs (po_lt hs hd i p hp) (hd i)
def cC (x : aSi) : Nat := match x with
  | none => 16
  | some (b, s, p) => sgI b s p
theorem cC_lt {x : aSi} (h : okS x) : cC x < 17 := by
  match x, h with
  | none, _ => decide
  | some (b, s, p), h => have := sg_lt b p (h b s p rfl); unfold cC; dsimp only; omega
theorem cC_inj {x y : aSi} (hx : okS x) (hy : okS y) : cC x = cC y ↔ x = y := by
  constructor
  · intro e
    match x, y, hx, hy, e with
    | none, none, _, _, _ => rfl
    | none, some (b, s, p), _, hy, e => have := sg_lt b p (hy b s p rfl); unfold cC at e; dsimp only at e; omega
    | some (b, s, p), none, hx, _, e => have := sg_lt b p (hx b s p rfl); unfold cC at e; dsimp only at e; omega
    | some (b, s, p), some (b', s', p'), hx, hy, e =>
      unfold cC at e
      dsimp only at e
      obtain ⟨rfl, rfl, rfl⟩ := (sg_eq (hx b s p rfl) (hy b' s' p' rfl)).mp (by rw [e])
      rfl
  · intro e; rw [e]
def poI (o : Option Nat) : Int32 := match o with
  | none => -3
  | some p => nI p
def siI (x : aSi) : Int32 := match x with
  | none => -3
  | some (b, s, p) => nI (sgI b s p)
theorem shw_si (s : aSh) (p a : Nat) : shwI s p a = siI (siA s p a) := by
  unfold shwI siA
  generalize s.2.2.2.2 (5 * p + a) = l
  match l with
  | 0 => rfl
  | 1 => rfl
  | q + 2 => rfl
theorem siI_3 {x : aSi} (h : okS x) : siI x = -3 ↔ x = none := by
  match x, h with
  | none, _ => simp [siI]
  | some (b, s, p), h =>
    have := sg_lt b p (h b s p rfl)
    constructor
    · intro e; exact absurd e (nI_m3 (by omega))
    · intro e; cases e
theorem siI_c {x : aSi} (h : okS x) (hn : x ≠ none) : siI x = nI (cC x) := by
  match x, h, hn with
  | some (b, s, p), h, hn => rfl
def pPt : Nat → Nat → Bool := fun p i => p == 13 || p == 14 || p == 15 || (p == 12 && i == 3)
theorem pPt_hi : ∀ p i : Nat, 77 ≤ p → pPt p i = false := fun p i h => by simp [pPt]; omega
/-- the sets behind i acts -/
def stR (T : List aSh) (d : Nat → Nat) (i : Nat) (Z : Nat → Nat) (y : mSt) : Prop := mI y 12 3 = nI (nSt T d i) ∧ (∀ k, k < T.length → mI y 13 k = poI (po (sk T k) d i) ∧ mI y 14 k = nI (Z k) ∧ Z k < nSt T d i) ∧ ∀ j k, j < T.length → k < T.length → (Z j = Z k ↔ sq (sk T j) d i = sq (sk T k) d i)
/-- what the class needs of the atlas here -/
def atS (T : List aSh) (u : mSt) : Prop := mI u 9 2 = nI T.length ∧ T.length ≤ 150 ∧ ∃ pn, mR u 9 0 = some pn ∧ ∀ k, k < T.length → ∃ q, mR u pn k = some q ∧ 77 ≤ q ∧ cOne (sk T k) q u ∧ mR u q 0 = some (q + 1) ∧ mR u q 1 = some (q + 2) ∧ oSh 6 (sk T k)
theorem atS.fr {T : List aSh} {P : Nat → Nat → Bool} {u v : mSt} (h : atS T u) (f : fr P u v) (e : P 9 2 = false) (e2 : ∀ p i, 77 ≤ p → P p i = false) : atS T v := by
  obtain ⟨h1, h2, pn, h3, h4⟩ := h
  refine ⟨by rw [f.at e]; exact h1, h2, pn, by rw [f.2.1]; exact h3, fun k hk => ?_⟩
  obtain ⟨q, q1, q2, q3, q4, q5, q6⟩ := h4 k hk
  exact ⟨q, by rw [f.2.1]; exact q1, q2, q3.hi q2 f e2, by rw [f.2.1]; exact q4, by rw [f.2.1]; exact q5, q6⟩
theorem cAt.atS {w : aWk} {t : aAt} {pn ps : Nat} {g : Nat → Nat → Option Nat} {u : mSt} (ho : oAt w t) (ht : cAt t pn ps g u) : atS t.2.2 u := by
  have hl := ho.2.2.2.1
  have hpn : pn = 10 ∨ pn = 11 := by rcases ht.1.1 with ⟨q, -⟩ | ⟨q, -⟩ <;> omega
  refine ⟨ht.2.1, hl, pn, ht.1.2.1, fun k hk => ?_⟩
  obtain ⟨q, q1, q2⟩ := ht.2.2.2.2 k _ (sk_at hk)
  obtain ⟨x1, x2, x3, x4⟩ := ht.1.2.2.2.2.1 pn k q hpn (by omega) q1
  exact ⟨q, by rw [ht.1.2.2.2.1 pn k hpn (by omega)]; exact q1, x1, q2, x3, x4, (ho.2.2.2.2 _ (sk_mem hk)).1⟩
theorem nSt_le (T : List aSh) (d : Nat → Nat) (i : Nat) : nSt T d i ≤ T.length := cnt_le _ _
theorem s_refine {T : List aSh} {d : Nat → Nat} {i : Nat} {Z : Nat → Nat} {u : mSt} {K : mSt → Prop} (hr : cRf u) (hT : atS T u) (hd : ∀ i, d i < 5) (hS : stR T d i Z u) (k : ∀ v Z', fr pPt u v → stR T d (i + 1) Z' v → K v) : bX2_refine 12 9 (nI (d i)) u K := by
  have hl := hT.2.1
  have hc := nSt_le T d i
  obtain ⟨s1', s2', s3'⟩ := hS
  have hdi := hd i
  have oks : ∀ k, k < T.length → okS (si (sk T k) d i) := fun k hk => by
    obtain ⟨pn, -, h⟩ := hT.2.2
    obtain ⟨q, q1, q2, q3, q4, q5, q6⟩ := h k hk
    exact si_ok q6 hd i
  have key : ∀ j k, j < T.length → k < T.length → (Z j * 17 + cC (si (sk T j) d i) = Z k * 17 + cC (si (sk T k) d i) ↔ sq (sk T j) d (i + 1) = sq (sk T k) d (i + 1)) := by
    intro j k hj hk
    have c1 := cC_lt (oks j hj)
    have c2 := cC_lt (oks k hk)
    rw [sq_eq, ← s3' j k hj hk, ← cC_inj (oks j hj) (oks k hk)]
    omega
  generalize hKey : (fun k => Z k * 17 + cC (si (sk T k) d i)) = ky at *
  have ekey : ∀ k, Z k * 17 + cC (si (sk T k) d i) = ky k := fun k => by rw [← hKey]
  simp only [ekey] at key
  have hkl : ∀ k, k < T.length → ky k < nSt T d i * 17 := fun k hk => by
    have c1 := cC_lt (oks k hk)
    have := (s2' k hk).2.2
    rw [← ekey]; omega
  have loop : ∀ (n k' : Nat) (y : mSt) (F Z' : Nat → Nat) (cn : Nat), k' + n = T.length → fr pPt u y → mI y 12 3 = nI cn → cn = cnt (frs T d (i + 1)) k' → (∀ a, a < nSt T d i * 17 → mI y 15 a = nI (F a)) → (∀ a, F a = 0 ↔ ∀ j, j < k' → ky j ≠ a) → (∀ a, F a ≤ cn) → (∀ a b, F a = F b → F a ≠ 0 → a = b) → (∀ j, j < k' → F (ky j) = Z' j + 1 ∧ mI y 14 j = nI (Z' j) ∧ mI y 13 j = poI (po (sk T j) d (i + 1))) → (∀ j, k' ≤ j → j < T.length → mI y 14 j = nI (Z j) ∧ mI y 13 j = poI (po (sk T j) d i)) → bX2_refine_23 (n + 1) 12 9 (nI (d i)) (nI k') y K := by
    intro n
    induction n with
    | zero =>
      intro k' y F Z' cn hn f e3 hcn h15 hF0 hFc hFi hlo hhi
      obtain ⟨t1, t2, pn, t3, t4⟩ := hT.fr f rfl pPt_hi
      have : k' = T.length := by omega
      subst this
      unfold bX2_refine_23
      rw [t1]
      have hcn' : cn = nSt T d (i + 1) := hcn
      refine br_t (nI_le (by omega) (by omega)) (k y Z' f ⟨by rw [e3, hcn'], fun k hk => ?_, fun j k hj hk => ?_⟩)
      · obtain ⟨a1, a2, a3⟩ := hlo k hk
        have := hFc (ky k)
        exact ⟨a3, a2, by omega⟩
      · rw [← key j k hj hk]
        have a1 := (hlo j hj).1
        have a2 := (hlo k hk).1
        constructor
        · intro e
          exact hFi _ _ (by rw [a1, a2, e]) (by omega)
        · intro e
          rw [e] at a1
          omega
    | succ n ih =>
      intro k' y F Z' cn hn f e3 hcn h15 hF0 hFc hFi hlo hhi
      obtain ⟨t1, t2, pn, t3, t4⟩ := hT.fr f rfl pPt_hi
      have hk : k' < T.length := by omega
      obtain ⟨q, q1, q2, q3, q4, q5, q6⟩ := t4 k' hk
      have h6 := q6.1.2.1
      obtain ⟨z14, z13⟩ := hhi k' (by omega) hk
      have j150 : vp_in (nI k') 150 := vp_in_nI (by omega) (by decide)
      have r13 : mR y 12 0 = some 13 := (f.cR hr).get 12 0 13 (by decide)
      have r14 : mR y 12 1 = some 14 := (f.cR hr).get 12 1 14 (by decide)
      have r15 : mR y 12 2 = some 15 := (f.cR hr).get 12 2 15 (by decide)
      have hcl := cnt_le (frs T d (i + 1)) k'
      have okk := oks k' hk
      have hkk := hkl k' hk
      have hk2550 : ky k' < 2550 := by omega
      have jky : vp_in (nI (ky k')) 2550 := vp_in_nI hk2550 (by decide)
      have fin : ∀ y', fr pPt u y' → (∀ a, a < nSt T d i * 17 → mI y' 15 a = nI (F a)) → mI y' 12 3 = nI cn → mI y' 13 k' = poI (po (sk T k') d (i + 1)) → (∀ j, j ≠ k' → mI y' 13 j = mI y 13 j) → (∀ j, mI y' 14 j = mI y 14 j) → ∀ x1 : Int32, x1 = nI (ky k') → (∃ q_2, mR y' 12 2 = some q_2 ∧ (vp_in x1 2550 ∧ (((mI y' q_2 x1.toNatClampNeg) = 0 → (∀ u_4, u_4 = mpI y' 12 3 ((mI y' 12 3) + (1 : Int32)) → (∃ q_5, mR u_4 12 2 = some q_5 ∧ (vp_in x1 2550 ∧ ∀ u_7, u_7 = mpI u_4 q_5 x1.toNatClampNeg (mI u_4 12 3) → bX2_refine_156 12 9 (nI (d i)) (nI k') x1 u_7 K (fun z0 z1 z2 z3 z4 => bX2_refine_23 (n + 1) z0 z1 z2 z3 z4 K))))) ∧ (¬ ((mI y' q_2 x1.toNatClampNeg) = 0) → bX2_refine_156 12 9 (nI (d i)) (nI k') x1 y' K (fun z0 z1 z2 z3 z4 => bX2_refine_23 (n + 1) z0 z1 z2 z3 z4 K))))) := by
        rintro y' f' g15 g3 g13 g13' g14 _ rfl
        refine ⟨15, (f'.cR hr).get 12 2 15 (by decide), jky, ?_⟩
        rw [nI_clamp (by omega), g15 _ hkk, g3]
        have hFle := hFc (ky k')
        have hfr : F (ky k') = 0 ↔ frs T d (i + 1) k' = true := by
          rw [hF0, frs_iff]
          constructor
          · intro h j hj e
            exact h j hj ((key j k' (by omega) hk).mpr e)
          · intro h j hj e
            exact h j hj ((key j k' (by omega) hk).mp e)
        refine pk_eq (F (ky k')) 0 (fun z => ?_) (fun z => ?_) rfl k0
        · rintro _ rfl
          refine ⟨15, (f'.cR hr).get 12 2 15 (by decide), jky, ?_⟩
          rw [up_eq, nI_1]
          rintro _ rfl
          unfold bX2_refine_156
          have f2 : fr pPt u (mpI (mpI y' 12 3 (nI (cn + 1))) 15 (ky k') (nI (cn + 1))) := (f'.wp _ rfl).wp _ rfl
          refine ⟨14, (f2.cR hr).get 12 1 14 (by decide), 15, (f2.cR hr).get 12 2 15 (by decide), jky, j150, ?_⟩
          rw [nI_clamp (by omega), nI_clamp (by omega), up_eq, nI_pred]
          rintro _ rfl _ rfl
          rw [nI_1]
          refine ih (k' + 1) _ (fun a => if a = ky k' then cn + 1 else F a) (fun j => if j = k' then cn else Z' j) (cn + 1) (by omega) (f2.wp _ rfl) ?_ ?_ (fun a ha => ?_) (fun a => ?_) (fun a => ?_) (fun a b => ?_) (fun j hj => ?_) (fun j h1 h2 => ?_)
          · rw [up_ne _ _ (by omega), up_ne _ _ (by omega), up_eq]
          · simp only [cnt]; rw [hfr.mp z, ← hcn]; rfl
          · rw [up_ne _ _ (by omega)]
            by_cases za : a = ky k'
            · rw [za, up_eq, if_pos rfl]
            · rw [up_ne _ _ (by omega), up_ne _ _ (by omega), if_neg za]; exact g15 a ha
          · by_cases za : a = ky k'
            · rw [if_pos za]
              constructor
              · intro e; omega
              · intro e; exact absurd za.symm (e k' (by omega))
            · rw [if_neg za, hF0]
              constructor
              · intro e j hj
                by_cases zj : j = k'
                · rw [zj]; exact fun q => za q.symm
                · exact e j (by omega)
              · intro e j hj; exact e j (by omega)
          · have := hFc a
            split <;> omega
          · intro e hne
            have ha := hFc a
            have hb := hFc b
            by_cases za : a = ky k'
            · by_cases zb : b = ky k'
              · rw [za, zb]
              · rw [if_pos za, if_neg zb] at e; omega
            · by_cases zb : b = ky k'
              · rw [if_neg za, if_pos zb] at e; omega
              · rw [if_neg za, if_neg zb] at e
                rw [if_neg za] at hne
                exact hFi a b e hne
          · by_cases zj : j = k'
            · rw [zj, if_pos rfl, if_pos rfl]
              refine ⟨rfl, by rw [up_eq], ?_⟩
              rw [up_ne _ _ (by omega), up_ne _ _ (by omega), up_ne _ _ (by omega)]; exact g13
            · obtain ⟨a1, a2, a3⟩ := hlo j (by omega)
              have hne : ky j ≠ ky k' := hF0 (ky k') |>.mp z j (by omega)
              rw [if_neg hne, if_neg zj]
              refine ⟨a1, ?_, ?_⟩
              · rw [up_ne _ _ (by omega), up_ne _ _ (by omega), up_ne _ _ (by omega), g14]; exact a2
              · rw [up_ne _ _ (by omega), up_ne _ _ (by omega), up_ne _ _ (by omega), g13' j zj]; exact a3
          · obtain ⟨a1, a2⟩ := hhi j (by omega) h2
            rw [up_ne _ _ (by omega), up_ne _ _ (by omega), up_ne _ _ (by omega), up_ne _ _ (by omega), up_ne _ _ (by omega), up_ne _ _ (by omega), g14, g13' j (by omega)]
            exact ⟨a1, a2⟩
        · unfold bX2_refine_156
          refine ⟨14, (f'.cR hr).get 12 1 14 (by decide), 15, (f'.cR hr).get 12 2 15 (by decide), jky, j150, ?_⟩
          rw [nI_clamp (by omega), nI_clamp (by omega), g15 _ hkk]
          obtain ⟨m, em⟩ : ∃ m, F (ky k') = m + 1 := ⟨F (ky k') - 1, by omega⟩
          rw [em, nI_pred]
          rintro _ rfl _ rfl
          rw [nI_1]
          refine ih (k' + 1) _ F (fun j => if j = k' then m else Z' j) cn (by omega) (f'.wp _ rfl) ?_ ?_ (fun a ha => ?_) (fun a => ?_) hFc hFi (fun j hj => ?_) (fun j h1 h2 => ?_)
          · rw [up_ne _ _ (by omega)]; exact g3
          · simp only [cnt]
            rw [show frs T d (i + 1) k' = false by
              cases hh : frs T d (i + 1) k'
              · rfl
              · exact absurd (hfr.mpr hh) z, ← hcn]; rfl
          · rw [up_ne _ _ (by omega)]; exact g15 a ha
          · rw [hF0]
            constructor
            · intro e j hj
              by_cases zj : j = k'
              · rw [zj]
                intro q
                exact z ((hF0 _).mpr (by rw [q]; exact e))
              · exact e j (by omega)
            · intro e j hj; exact e j (by omega)
          · by_cases zj : j = k'
            · rw [zj, if_pos rfl]
              refine ⟨em, by rw [up_eq], ?_⟩
              rw [up_ne _ _ (by omega)]; exact g13
            · obtain ⟨a1, a2, a3⟩ := hlo j (by omega)
              rw [if_neg zj]
              refine ⟨a1, ?_, ?_⟩
              · rw [up_ne _ _ (by omega), g14]; exact a2
              · rw [up_ne _ _ (by omega), g13' j zj]; exact a3
          · obtain ⟨a1, a2⟩ := hhi j (by omega) h2
            rw [up_ne _ _ (by omega), up_ne _ _ (by omega), g14, g13' j (by omega)]
            exact ⟨a1, a2⟩
      have f98 : ∀ x : Int32, x = poI (po (sk T k') d (i + 1)) → bX2_refine_98 12 9 (nI (d i)) (nI k') (siI (si (sk T k') d i)) 13 (nI k') x y K (fun z0 z1 z2 z3 z4 => bX2_refine_23 (n + 1) z0 z1 z2 z3 z4 K) := by
        rintro _ rfl
        unfold bX2_refine_98
        rw [nI_clamp (by omega)]
        refine ⟨j150, ?_⟩
        rintro _ rfl
        have f1 : fr pPt u (mpI y 13 k' (poI (po (sk T k') d (i + 1)))) := f.wp _ rfl
        refine ⟨14, (f1.cR hr).get 12 1 14 (by decide), j150, ?_⟩
        rw [up_ne _ _ (by omega), z14, siI_3 okk, show (17 : Int32) = nI 17 by decide, pk_mul]
        have go := fin (mpI y 13 k' (poI (po (sk T k') d (i + 1)))) f1 (fun a ha => by rw [up_ne _ _ (by omega)]; exact h15 a ha) (by rw [up_ne _ _ (by omega)]; exact e3) (up_eq _ _ _ _) (fun j hj => by rw [up_ne _ _ (by omega)]) (fun j => by rw [up_ne _ _ (by omega)])
        refine br_c (fun z => ?_) (fun z => ?_)
        · unfold bX2_refine_122
          rintro _ rfl
          refine go _ ?_
          rw [show (16 : Int32) = nI 16 by decide, nI_add, ← ekey, z]; rfl
        · unfold bX2_refine_122
          rintro _ rfl
          refine go _ ?_
          rw [siI_c okk z, nI_add, ← ekey]
      have f67 : bX2_refine_67 12 9 (nI (d i)) (nI k') q (siI (si (sk T k') d i)) y K (fun z0 z1 z2 z3 z4 => bX2_refine_23 (n + 1) z0 z1 z2 z3 z4 K) := by
        unfold bX2_refine_67
        refine ⟨13, r13, ?_⟩
        rw [siI_3 okk]
        refine br_c (fun z => ?_) (fun z => ⟨13, r13, j150, ?_⟩)
        · refine f98 _ ?_
          have : po (sk T k') d (i + 1) = none := by
            simp only [po]
            unfold si siA at z
            cases hp : po (sk T k') d i with
            | none => rfl
            | some p =>
              rw [hp] at z
              dsimp only at z ⊢
              generalize (sk T k').2.2.2.2 (5 * p + d i) = l at *
              match l, z with
              | 0, z => rfl
              | 1, z => cases z
              | q + 2, z => cases z
          rw [this]; rfl
        · rw [nI_clamp (by omega), z13]
          cases hp : po (sk T k') d i with
          | none => unfold si at z; rw [hp] at z; exact absurd rfl z
          | some p =>
            have hpl := po_lt q6 hd i p hp
            refine s_placeAfter q6 q5 q3 hpl hdi ?_
            have := f98 (nI (nxt (sk T k') p (d i))) ?_
            · exact this
            · simp only [po, hp]
              unfold si siA at z
              rw [hp] at z
              dsimp only at z
              unfold nxt
              generalize (sk T k').2.2.2.2 (5 * p + d i) = l at *
              match l, z with
              | 0, z => exact absurd rfl z
              | 1, z => rfl
              | q + 2, z => rfl
      unfold bX2_refine_23
      rw [t1]
      refine br_f (nI_ge (by omega) (by omega)) ⟨pn, t3, vp_in_nI (by omega) (by decide), q, by rw [nI_clamp (by omega)]; exact q1, 13, r13, j150, ?_⟩
      rw [nI_clamp (by omega), z13]
      cases hp : po (sk T k') d i with
      | none =>
        have es : si (sk T k') d i = none := by unfold si; rw [hp]
        rw [es] at f67
        exact br_t rfl f67
      | some p =>
        have hpl := po_lt q6 hd i p hp
        have es : si (sk T k') d i = siA (sk T k') p (d i) := by unfold si; rw [hp]
        refine br_f (nI_m3 (by omega)) ⟨13, r13, j150, ?_⟩
        rw [z13, hp]
        refine s_sightAfter q6 q3 q4 q5 hpl hdi ?_
        rw [shw_si, ← es]
        exact f67
  unfold bX2_refine
  refine ⟨15, hr.get 12 2 15 (by decide), ?_⟩
  unfold bJ7_fill_fda19
  refine ⟨0, nSt T d i * 17, k0, by rw [s1', show (17 : Int32) = nI 17 by decide, pk_mul], by omega, by omega, ?_⟩
  have f1 : fr pPt u (mrI u 15 (fun k => if 0 ≤ k ∧ k < nSt T d i * 17 then 0 else mI u 15 k)) := (fr.rf _ u).rI _ (fun _ => rfl)
  rintro _ rfl
  have hrow : ∀ a, a < nSt T d i * 17 → mI (mrI u 15 (fun k => if 0 ≤ k ∧ k < nSt T d i * 17 then 0 else mI u 15 k)) 15 a = 0 := fun a ha => by
    rw [s10, mrow_self, if_pos ⟨by omega, ha⟩]
  have hoth : ∀ p, p ≠ 15 → mI (mrI u 15 (fun k => if 0 ≤ k ∧ k < nSt T d i * 17 then 0 else mI u 15 k)) p = mI u p := fun p hp => by
    rw [s10, mrow_ne _ hp]
  have := loop T.length 0 _ (fun _ => 0) (fun _ => 0) 0 (by omega) (f1.wp (q := 12) (j := 3) 0 rfl) (by rw [up_eq]; exact k0) rfl (fun a ha => by rw [up_ne _ _ (by omega), hrow a ha]; exact k0) (fun a => ⟨fun _ j hj => by omega, fun _ => rfl⟩) (fun a => Nat.le_refl _) (fun a b _ hne => absurd rfl hne) (fun j hj => by omega) (fun j _ h2 => by
    rw [up_ne _ _ (by omega), up_ne _ _ (by omega), hoth 14 (by omega), hoth 13 (by omega)]
    exact ⟨(s2' j h2).2.1, (s2' j h2).1⟩)
  rw [nI_0] at this
  exact ⟨_, this⟩
