/-! PART and NEXT: the reference -/
def cR (x : aSi) : Nat := match x with
  | none => 0
  | some (b, s, p) => 1 + b2n b + 2 * s + 8 * b2n p
theorem cR_lt {x : aSi} (h : okS x) : cR x < 20 := by
  match x, h with
  | none, _ => decide
  | some (b, s, p), h => have := h b s p rfl; have := b2n_lt b; have := b2n_lt p; unfold cR; dsimp only; omega
theorem cR_inj {x y : aSi} (hx : okS x) (hy : okS y) : cR x = cR y ↔ x = y := by
  constructor
  · intro e
    match x, y, hx, hy, e with
    | none, none, _, _, _ => rfl
    | none, some (b, s, p), _, hy, e => unfold cR at e; dsimp only at e; omega
    | some (b, s, p), none, hx, _, e => unfold cR at e; dsimp only at e; omega
    | some (b, s, p), some (b', s', p'), hx, hy, e =>
      have h1 := hx b s p rfl
      have h2 := hy b' s' p' rfl
      unfold cR at e
      dsimp only at e
      have e1 : b = b' := by cases b <;> cases b' <;> cases p <;> cases p' <;> simp [b2n] at e ⊢ <;> omega
      have e2 : p = p' := by cases b <;> cases b' <;> cases p <;> cases p' <;> simp [b2n] at e ⊢ <;> omega
      rw [e1, e2] at e ⊢
      have e3 : s = s' := by omega
      rw [e3]
  · intro e; rw [e]
theorem sq_iff {s s' : aSh} {d : Nat → Nat} : ∀ n, (sq s d n = sq s' d n ↔ ∀ i, i < n → si s d i = si s' d i) := by
  intro n
  induction n with
  | zero => simp [sq]
  | succ n ih =>
    rw [sq_eq, ih]
    constructor
    · rintro ⟨h1, h2⟩ i hi
      by_cases z : i = n
      · rw [z]; exact h2
      · exact h1 i (by omega)
    · intro h
      exact ⟨fun i hi => h i (by omega), h n (by omega)⟩
def rpI (o : Option Nat) : Int32 := match o with
  | none => -1
  | some p => nI p
def p64 : Nat → Nat → Bool := fun p _ => p == 64
theorem p64_no : ∀ p i : Nat, 51 ≤ p → p ≤ 55 → p64 p i = false := fun p i h1 h2 => by simp [p64]; omega
theorem m_show {s : aSh} {k n row : Nat} {u : mSt} {K : mSt → Prop} (hr : rRf u) (hs : oSh 6 s) (hk : k < 150) (ho : rOne s k u) (hn1 : 0 < n) (hn : n ≤ 6) (hrow : row < 5 ^ n) (kk : ∀ v, fr p64 u v → (∀ i, i < n → mI v 64 (6 * k + i) = nI (cR (si s (dgt n row) i))) → (∀ x, (x < 6 * k ∨ 6 * k + 6 ≤ x) → mI v 64 x = mI u 64 x) → K v) : bX9_show 42 (nI k) (nI n) (nI row) u K := by
  have h6 := hs.1.2.1
  have hpn := pow_lt n (by omega)
  have loop : ∀ m i y, i + m = n → fr p64 u y → (∀ j, j < i → mI y 64 (6 * k + j) = nI (cR (si s (dgt n row) j))) → (∀ x, (x < 6 * k ∨ 6 * k + 6 ≤ x) → mI y 64 x = mI u 64 x) → bX9_show_35 (m + 1) 42 (nI k) (nI n) (nI row) (rpI (po s (dgt n row) i)) (nI (5 ^ (n - 1 - i))) (nI i) y K := by
    intro m
    induction m with
    | zero =>
      intro i y hi f h1 h2
      have : i = n := by omega
      subst this
      unfold bX9_show_35
      exact br_t (nI_le (by omega) (by omega)) (kk y f h1 h2)
    | succ m ih =>
      intro i y hi f h1 h2
      obtain ⟨q1, q2, q3, q4, q5⟩ := ho.fr f p64_no
      have hpj := pow_lt (n - 1 - i) (by omega)
      have hrp : row / 5 ^ (n - 1 - i) ≤ row := Nat.div_le_self _ _
      have hd := dgt_lt n row i
      have okk := si_ok hs (dgt_lt n row) i
      have hcl := cR_lt okk
      unfold bX9_show_35
      refine br_f (nI_ge (by omega) (by omega)) ⟨fun e => ?_, ?_⟩
      · rw [k0] at e
        have := (nI_eq (by omega) (by omega)).mp e
        omega
      · rw [pk_div (by omega) hpj.2 (by omega), i_rem (by omega) k5 (by decide) (by decide), show row / 5 ^ (n - 1 - i) % 5 = dgt n row i from rfl]
        rintro _ rfl
        have go : ∀ by' : Int32, by' = nI (5 ^ (n - 1 - (i + 1))) → bX9_show_63 42 (nI k) (nI n) (nI row) (rpI (po s (dgt n row) i)) (nI i) (nI (dgt n row i)) by' y K (fun z0 z1 z2 z3 z4 z5 z6 z7 => bX9_show_35 (m + 1) z0 z1 z2 z3 z4 z5 z6 z7 K) := by
          rintro _ rfl
          have fin : ∀ x : Int32, x = nI (cR (si s (dgt n row) i)) → bX9_show_198 42 (nI k) (nI n) (nI row) (rpI (po s (dgt n row) (i + 1))) (nI (5 ^ (n - 1 - (i + 1)))) (nI i) 64 (6 * nI k + nI i) x y K (fun z0 z1 z2 z3 z4 z5 z6 z7 => bX9_show_35 (m + 1) z0 z1 z2 z3 z4 z5 z6 z7 K) := by
            rintro _ rfl
            unfold bX9_show_198
            rw [k6n, nI_clamp (by omega)]
            refine ⟨vp_in_nI (by omega) (by decide), ?_⟩
            rintro _ rfl _ rfl
            rw [nI_1]
            refine ih (i + 1) _ (by omega) (f.wp _ rfl) (fun j hj => ?_) (fun x hx => ?_)
            · by_cases z : j = i
              · rw [z, up_eq]
              · rw [up_ne _ _ (by omega)]; exact h1 j (by omega)
            · rw [up_ne _ _ (by omega)]; exact h2 x hx
          have r64 : mR y 42 39 = some 64 := (f.rR hr).get 42 39 64 (by decide)
          have fin2 : ∀ (q : Nat) (b : Bool) (w3 : Int32), q < s.1 → po s (dgt n row) (i + 1) = some q → si s (dgt n row) i = some (b, s.2.2.2.1 q, decide (s.2.2.1 = some q)) → w3 = b2i b → bX9_show_164 42 (nI k) (nI n) (nI row) (nI q) (nI (5 ^ (n - 1 - (i + 1)))) (nI i) 64 (6 * nI k + nI i) 1 w3 y K (fun z0 z1 z2 z3 z4 z5 z6 z7 => bX9_show_35 (m + 1) z0 z1 z2 z3 z4 z5 z6 z7 K) := by
            rintro q b _ hq hpo hsi rfl
            rw [hpo, hsi] at fin
            have hsq := hs.2.1 q hq
            unfold bX9_show_164
            refine ⟨52, (f.rR hr).get 42 22 52 (by decide), ?_⟩
            rw [k6n k q, nI_clamp (by omega), nI_clamp (by omega), q4 q hq]
            refine ⟨vp_in_nI (by omega) (by decide), 55, (f.rR hr).get 42 25 55 (by decide), vp_in_nI hk (by decide), ?_⟩
            rw [q3, pb_eq (fun d hd => by have := hs.1.2.2.2 d hd; omega) (by omega), b2i_n, k1, nI_add, k2, pk_mul, nI_add]
            refine br_c (fun z => ?_) (fun z => ?_)
            · unfold bX9_show_197
              refine fin _ ?_
              rw [k8, nI_add]
              simp only [z, decide_true]
              rfl
            · unfold bX9_show_197
              refine fin _ ?_
              rw [k0, nI_add]
              simp only [z, decide_false]
              rfl
          have f131 : ∀ (q : Nat) (b : Bool) (v9 : Int32), q < s.1 → po s (dgt n row) (i + 1) = some q → si s (dgt n row) i = some (b, s.2.2.2.1 q, decide (s.2.2.1 = some q)) → v9 = b2i b → bX9_show_131 42 (nI k) (nI n) (nI row) (nI (5 ^ (n - 1 - (i + 1)))) (nI i) v9 (nI q) y K (fun z0 z1 z2 z3 z4 z5 z6 z7 => bX9_show_35 (m + 1) z0 z1 z2 z3 z4 z5 z6 z7 K) := by
            rintro q b _ hq hpo hsi rfl
            unfold bX9_show_131
            refine ⟨64, r64, br_t (by rw [k0]; exact nI_le (by omega) (by omega)) ?_⟩
            cases b
            · exact br_t rfl (fin2 q false 0 hq hpo hsi rfl)
            · exact br_f (by decide) (fin2 q true 1 hq hpo hsi rfl)
          have fNone : ∀ v9 : Int32, po s (dgt n row) (i + 1) = none → si s (dgt n row) i = none → bX9_show_131 42 (nI k) (nI n) (nI row) (nI (5 ^ (n - 1 - (i + 1)))) (nI i) v9 (-1) y K (fun z0 z1 z2 z3 z4 z5 z6 z7 => bX9_show_35 (m + 1) z0 z1 z2 z3 z4 z5 z6 z7 K) := by
            intro v9 hpo hsi
            rw [hpo, hsi] at fin
            unfold bX9_show_131
            exact ⟨64, r64, br_f (by decide) (fin 0 k0)⟩
          unfold bX9_show_63
          cases hp : po s (dgt n row) i with
          | none =>
            have e1 : po s (dgt n row) (i + 1) = none := by simp only [po, hp]
            have e2 : si s (dgt n row) i = none := by unfold si; rw [hp]
            refine br_f (by decide) ?_
            unfold bX9_show_92
            refine br_f (by decide) ?_
            unfold bX9_show_106
            exact br_t rfl (br_t rfl (fNone _ e1 e2))
          | some p =>
            have hpl := po_lt hs (dgt_lt n row) i p hp
            have hx5 : 5 * p + dgt n row i < 5 * s.1 := by omega
            have hlx := (hs.2.2 _ hx5).1
            refine br_t (by show 0 ≤ nI p; rw [k0]; exact nI_le (by omega) (by omega)) ⟨53, (f.rR hr).get 42 23 53 (by decide), ?_⟩
            rw [show rpI (some p) = nI p from rfl, k305, nI_clamp (by omega), q5 _ hx5]
            refine ⟨vp_in_nI (by omega) (by decide), ?_⟩
            have e1 : po s (dgt n row) (i + 1) = (match s.2.2.2.2 (5 * p + dgt n row i) with
              | 0 => none
              | 1 => some p
              | q + 2 => some q) := by simp only [po, hp]; rfl
            have e2 : si s (dgt n row) i = siA s p (dgt n row i) := by unfold si; rw [hp]
            unfold siA at e2
            unfold bX9_show_92
            generalize s.2.2.2.2 (5 * p + dgt n row i) = l at *
            match l, hlx, e1, e2 with
            | 0, hlx, e1, e2 =>
              refine br_f (by decide) ?_
              unfold bX9_show_106
              exact br_t rfl (br_t rfl (fNone _ e1 e2))
            | 1, hlx, e1, e2 =>
              refine br_t rfl ?_
              unfold bX9_show_106
              exact br_f (by decide) (f131 p true 1 hpl e1 e2 rfl)
            | q + 2, hlx, e1, e2 =>
              refine br_f (nI_m2 (by omega)) ?_
              unfold bX9_show_106
              exact br_t rfl (br_f (nI_m3 (by omega)) (f131 q false 0 (by omega) e1 e2 rfl))
        refine pk_le 5 (5 ^ (n - 1 - i)) (fun z => go _ ?_) (fun z => go _ ?_) k5 rfl
        · rw [i_div (by omega) k5 (by decide) (by decide)]
          congr 1
          have : n - 1 - i = (n - 1 - (i + 1)) + 1 := by
            rcases Nat.eq_zero_or_pos (n - 1 - i) with h | h
            · rw [h] at z; omega
            · omega
          rw [this, Nat.pow_succ, Nat.mul_div_cancel _ (by omega)]
        · have : n - 1 - i = 0 := by
            rcases Nat.eq_zero_or_pos (n - 1 - i) with h | h
            · exact h
            · obtain ⟨j, hj⟩ : ∃ j, n - 1 - i = j + 1 := ⟨n - 1 - i - 1, by omega⟩
              rw [hj, Nat.pow_succ] at z
              have := Nat.pow_pos (n := j) (show 0 < 5 by decide)
              omega
          rw [show n - 1 - (i + 1) = 0 by omega]; exact k1
  have pre : ∀ m i, i + 1 + m = n → bX9_show_14 (m + 1) 42 (nI k) (nI n) (nI row) (nI s.2.1) (nI (5 ^ i)) (nI (i + 1)) u K := by
    intro m
    induction m with
    | zero =>
      intro i hi
      unfold bX9_show_14
      refine br_t (nI_le (by omega) (by omega)) ?_
      have := loop n 0 u (by omega) (fr.rf _ _) (fun j hj => by omega) (fun _ _ => rfl)
      rw [show n - 1 - 0 = i by omega, nI_0] at this
      exact ⟨_, this⟩
    | succ m ih =>
      intro i hi
      unfold bX9_show_14
      refine br_f (nI_ge (by omega) (by omega)) ?_
      rintro _ rfl _ rfl
      rw [nI_1, k5, pk_mul, ← Nat.pow_succ]
      exact ih (i + 1) (by omega)
  unfold bX9_show
  refine ⟨54, hr.get 42 24 54 (by decide), vp_in_nI hk (by decide), ?_⟩
  rw [nI_clamp (by omega), ho.2.1]
  rintro _ rfl
  exact ⟨_, pre (n - 1) 0 (by omega)⟩
def rtS (T : List aSh) (u : mSt) : Prop := mI u 42 19 = nI T.length ∧ T.length ≤ 150 ∧ ∀ k, k < T.length → rOne (sk T k) k u ∧ oSh 6 (sk T k)
theorem rtS.fr {T : List aSh} {P : Nat → Nat → Bool} {u v : mSt} (h : rtS T u) (f : fr P u v) (e : P 42 19 = false) (e2 : ∀ p i, 51 ≤ p → p ≤ 55 → P p i = false) : rtS T v := by
  obtain ⟨h1, h2, h3⟩ := h
  exact ⟨by rw [f.at e]; exact h1, h2, fun k hk => ⟨(h3 k hk).1.fr f e2, (h3 k hk).2⟩⟩
theorem rAt.rtS {w : aWk} {t : aAt} {u : mSt} (ho : oAt w t) (ht : rAt t u) : rtS t.2.2 u := ⟨ht.2.1, ho.2.2.2.1, fun k hk => ⟨ht.2.2.2 k _ (sk_at hk), (ho.2.2.2.2 _ (sk_mem hk)).1⟩⟩
theorem m_partsOf {T : List aSh} {n row : Nat} {u : mSt} {K : Int32 → mSt → Prop} (hr : rRf u) (hT : rtS T u) (hn1 : 0 < n) (hn : n ≤ 6) (hrow : row < 5 ^ n) (kk : ∀ v, fr p64 u v → K (nI (nSt T (dgt n row) n)) v) : bX9_partsOf 42 (nI n) (nI row) u K := by
  have hl := hT.2.1
  have oks : ∀ k i, k < T.length → okS (si (sk T k) (dgt n row) i) := fun k i hk => si_ok (hT.2.2 k hk).2 (dgt_lt n row) i
  have cntL : ∀ m k y, k + m = T.length → fr p64 u y → (∀ j i, j < T.length → i < n → mI y 64 (6 * j + i) = nI (cR (si (sk T j) (dgt n row) i))) → bX9_partsOf_28 (m + 1) 42 (nI n) (nI (cnt (frs T (dgt n row) n) k)) (nI k) y K := by
    intro m
    induction m with
    | zero =>
      intro k y hk f h64
      have : k = T.length := by omega
      subst this
      unfold bX9_partsOf_28
      rw [(hT.fr f rfl p64_no).1]
      exact br_t (nI_le (by omega) (by omega)) (kk y f)
    | succ m ih =>
      intro k y hk f h64
      have hkl : k < T.length := by omega
      have r64 : mR y 42 39 = some 64 := (f.rR hr).get 42 39 64 (by decide)
      unfold bX9_partsOf_28
      rw [(hT.fr f rfl p64_no).1]
      refine br_f (nI_ge (by omega) (by omega)) ?_
      have out : ∀ v5 : Int32, v5 = b2i (frs T (dgt n row) n k) → bX9_partsOf_132 42 (nI n) (nI (cnt (frs T (dgt n row) n) k)) (nI k) v5 y K (fun z0 z1 z2 z3 z4 => bX9_partsOf_28 (m + 1) z0 z1 z2 z3 z4 K) := by
        rintro _ rfl
        have ih' := ih (k + 1) y (by omega) f h64
        simp only [cnt] at ih'
        unfold bX9_partsOf_132
        rw [b2i_0]
        refine br_c (fun z => ?_) (fun z => ?_)
        · unfold bX9_partsOf_143
          rintro _ rfl _ rfl
          rw [nI_1, k0, nI_add]
          rw [z] at ih'
          exact ih'
        · unfold bX9_partsOf_143
          rintro _ rfl _ rfl
          rw [nI_1, nI_1]
          have z : frs T (dgt n row) n k = true := by simpa using z
          rw [z] at ih'
          exact ih'
      have js : ∀ m' j b, j + m' = k → (b = true ↔ ∀ j', j' < j → sq (sk T j') (dgt n row) n ≠ sq (sk T k) (dgt n row) n) → bX9_partsOf_43 (m' + 1) 42 (nI n) (nI (cnt (frs T (dgt n row) n) k)) (nI k) (b2i b) (nI j) y K (fun z0 z1 z2 z3 z4 => bX9_partsOf_28 (m + 1) z0 z1 z2 z3 z4 K) := by
        intro m'
        induction m' with
        | zero =>
          intro j b hj hb
          have : j = k := by omega
          subst this
          unfold bX9_partsOf_43
          refine br_t (nI_le (by omega) (by omega)) (out _ ?_)
          rw [← frs_iff] at hb
          cases b <;> cases hh : frs T (dgt n row) n j <;> simp [hh] at hb ⊢
        | succ m' ihj =>
          intro j b hj hb
          unfold bX9_partsOf_43
          refine br_f (nI_ge (by omega) (by omega)) ?_
          rw [b2i_0]
          refine br_c (fun z => out _ ?_) (fun z => ?_)
          · rw [z] at hb ⊢
            cases hh : frs T (dgt n row) n k
            · rfl
            · have h1 := frs_iff.mp hh
              exact absurd (hb.mpr (fun j' hj' => h1 j' (by omega))) (by decide)
          · have z : b = true := by simpa using z
            have hb' := hb.mp z
            have res : ∀ v7 : Int32, ∀ sm : Bool, v7 = b2i sm → (sm = true ↔ sq (sk T k) (dgt n row) n = sq (sk T j) (dgt n row) n) → bX9_partsOf_114 42 (nI n) (nI (cnt (frs T (dgt n row) n) k)) (nI k) (nI j) v7 y K (fun z0 z1 z2 z3 z4 => bX9_partsOf_28 (m + 1) z0 z1 z2 z3 z4 K) (fun z0 z1 z2 z3 z4 z5 z6 => bX9_partsOf_43 (m' + 1) z0 z1 z2 z3 z4 z5 z6 K (fun z0 z1 z2 z3 z4 => bX9_partsOf_28 (m + 1) z0 z1 z2 z3 z4 K)) := by
              rintro _ sm rfl hsm
              unfold bX9_partsOf_114
              rw [b2i_0]
              refine br_c (fun zs => ?_) (fun zs => ?_)
              · unfold bX9_partsOf_124
                rintro _ rfl
                rw [nI_1]
                refine ihj (j + 1) true (by omega) ⟨fun _ j' hj' => ?_, fun _ => rfl⟩
                by_cases zj : j' = j
                · rw [zj]
                  intro e
                  rw [hsm.mpr e.symm] at zs
                  cases zs
                · exact hb' j' (by omega)
              · have zs : sm = true := by simpa using zs
                unfold bX9_partsOf_124
                rintro _ rfl
                rw [nI_1]
                refine ihj (j + 1) false (by omega) ⟨fun q => (by cases q), fun hall => ?_⟩
                exact absurd (hsm.mp zs).symm (hall j (by omega))
            have is : ∀ m2 i sm, i + m2 = n → (sm = true ↔ ∀ i', i' < i → si (sk T k) (dgt n row) i' = si (sk T j) (dgt n row) i') → bX9_partsOf_61 (m2 + 1) 42 (nI n) (nI (cnt (frs T (dgt n row) n) k)) (nI k) (nI j) (b2i sm) (nI i) y K (fun z0 z1 z2 z3 z4 => bX9_partsOf_28 (m + 1) z0 z1 z2 z3 z4 K) (fun z0 z1 z2 z3 z4 z5 z6 => bX9_partsOf_43 (m' + 1) z0 z1 z2 z3 z4 z5 z6 K (fun z0 z1 z2 z3 z4 => bX9_partsOf_28 (m + 1) z0 z1 z2 z3 z4 K)) := by
              intro m2
              induction m2 with
              | zero =>
                intro i sm hi hsm
                have : i = n := by omega
                subst this
                unfold bX9_partsOf_61
                exact br_t (nI_le (by omega) (by omega)) (res _ sm rfl (by rw [sq_iff]; exact hsm))
              | succ m2 ihi =>
                intro i sm hi hsm
                unfold bX9_partsOf_61
                refine br_f (nI_ge (by omega) (by omega)) ?_
                rw [b2i_0]
                refine br_c (fun z2 => res _ sm rfl ?_) (fun z2 => ⟨64, r64, ?_⟩)
                · rw [z2] at hsm ⊢
                  rw [sq_iff]
                  constructor
                  · intro q; cases q
                  · intro hall; exact hsm.mpr (fun i' hi' => hall i' (by omega))
                · have z2 : sm = true := by simpa using z2
                  have h1 := hsm.mp z2
                  rw [k6n, k6n, nI_clamp (by omega), nI_clamp (by omega), h64 k i hkl (by omega)]
                  refine ⟨vp_in_nI (by omega) (by decide), 64, r64, vp_in_nI (by omega) (by decide), ?_⟩
                  rw [h64 j i (by omega) (by omega)]
                  have c1 := cR_lt (oks k i hkl)
                  have c2 := cR_lt (oks j i (by omega))
                  refine pk_eq (cR (si (sk T k) (dgt n row) i)) (cR (si (sk T j) (dgt n row) i)) (fun z3 => ?_) (fun z3 => ?_) rfl rfl
                  · rw [cR_inj (oks k i hkl) (oks j i (by omega))] at z3
                    unfold bX9_partsOf_106
                    rintro _ rfl
                    rw [nI_1]
                    refine ihi (i + 1) true (by omega) ⟨fun _ i' hi' => ?_, fun _ => rfl⟩
                    by_cases zi : i' = i
                    · rw [zi]; exact z3
                    · exact h1 i' (by omega)
                  · unfold bX9_partsOf_106
                    rintro _ rfl
                    rw [nI_1]
                    refine ihi (i + 1) false (by omega) ⟨fun q => (by cases q), fun hall => ?_⟩
                    exact absurd ((cR_inj (oks k i hkl) (oks j i (by omega))).mpr (hall i (by omega))) z3
            have := is n 0 true (by omega) (by simp)
            rw [nI_0] at this
            exact ⟨_, this⟩
      have := js k 0 true (by omega) (by simp)
      rw [nI_0] at this
      exact ⟨_, this⟩
  have showL : ∀ m k y, k + m = T.length → fr p64 u y → (∀ j i, j < k → i < n → mI y 64 (6 * j + i) = nI (cR (si (sk T j) (dgt n row) i))) → bX9_partsOf_2 (m + 1) 42 (nI n) (nI row) (nI k) y K := by
    intro m
    induction m with
    | zero =>
      intro k y hk f h64
      have : k = T.length := by omega
      subst this
      unfold bX9_partsOf_2
      rw [(hT.fr f rfl p64_no).1]
      refine br_t (nI_le (by omega) (by omega)) ?_
      have := cntL T.length 0 y (by omega) f h64
      simp only [cnt, nI_0] at this
      exact ⟨_, this⟩
    | succ m ih =>
      intro k y hk f h64
      obtain ⟨t1, t2, t3⟩ := hT.fr f rfl p64_no
      obtain ⟨o1, o2⟩ := t3 k (by omega)
      unfold bX9_partsOf_2
      rw [t1]
      refine br_f (nI_ge (by omega) (by omega)) (m_show (f.rR hr) o2 (by omega) o1 hn1 hn hrow (fun v g h1 h2 => ?_))
      rintro _ rfl
      rw [nI_1]
      refine ih (k + 1) v (by omega) (f.tr g) (fun j i hj hi => ?_)
      by_cases z : j = k
      · rw [z]; exact h1 i hi
      · rw [h2 _ (by omega)]; exact h64 j i (by omega) hi
  have := showL T.length 0 u (by omega) (fr.rf _ _) (fun j i hj => by omega)
  rw [nI_0] at this
  exact ⟨_, this⟩
theorem m_rowsOf {n : Nat} {u : mSt} {K : Int32 → mSt → Prop} (hn : n ≤ 6) (k : K (nI (5 ^ n)) u) : bX9_rowsOf (nI n) u K := by
  have loop : ∀ m i, i + m = n → bX9_rowsOf_4 (m + 1) (nI n) (nI (5 ^ i)) (nI i) u K := by
    intro m
    induction m with
    | zero =>
      intro i hi
      have : i = n := by omega
      subst this
      unfold bX9_rowsOf_4
      exact br_t (nI_le (by omega) (by omega)) k
    | succ m ih =>
      intro i hi
      unfold bX9_rowsOf_4
      refine br_f (nI_ge (by omega) (by omega)) ?_
      rintro _ rfl _ rfl
      rw [nI_1, k5, pk_mul, ← Nat.pow_succ]
      exact ih (i + 1) (by omega)
  have := loop n 0 (by omega)
  rw [nI_0] at this
  exact ⟨_, this⟩
def p64a : Nat → Nat → Bool := fun p i => p == 64 || (p == 42 && i == 0)
theorem p64_a {p i : Nat} (e : p64a p i = false) : p64 p i = false := by simp [p64a, p64] at e ⊢; omega
theorem M_part {h : aHo} {w : aWk} {t : aAt} {u : mSt} {a1 a2 : Int32} {K : Int32 → mSt → Prop} (hr : rRf u) (ho : oAt w t) (hrw : rWk h w u) (hrt : rAt t u) (k : ∀ v, fr p64a u v → K (xPart w t a1 a2) v) : bX9_part 42 a1 a2 u K := by
  have hl := ho.2.2.2.1
  have f0 : fr p64a u (mpI u 42 0 0) := fr.pI _ u _ rfl
  unfold bX9_part
  rintro _ rfl
  unfold xPart at k
  refine s_isInN (lo := 1) (hi := 6) (by decide) (by decide) (by decide) (by decide) _ _ (fun n n1 n6 e1 => br_f (by decide) ?_) (fun e => br_t rfl ?_)
  · rw [dec1_some (hi := 6) (by decide) n1 n6 e1] at k
    dsimp only at k
    have hp := pow_lt n (by omega)
    subst e1
    refine m_rowsOf n6 (s_isInN (lo := 0) (hi := 5 ^ n - 1) (by decide) (by rw [k1, pk_sub (by omega)]) (by omega) (by omega) _ _ (fun row _ hrow e2 => br_f (by decide) ?_) (fun e => br_t rfl ?_))
    · rw [dec_some (n := 5 ^ n) (by omega) (show row < 5 ^ n by omega) e2] at k
      dsimp only at k
      unfold unS3 at k
      rw [up_ne _ _ (by omega), hrw.1, b2i_0]
      refine br_c (fun q => ?_) (fun q => ?_)
      · rw [if_pos q] at k
        unfold bX9_part_49
        rw [up_ne _ _ (by omega), hrw.1, b2i_0]
        exact br_t q (k _ f0)
      · rw [if_neg q] at k
        rw [up_ne _ _ (by omega), hrt.2.2.1, b2i_0]
        refine br_c (fun z => ?_) (fun z => ?_)
        · rw [if_neg (by simp [z])] at k
          rw [up_ne _ _ (by omega), hrt.2.1]
          refine pk_eq t.2.2.length 0 (fun z2 => ?_) (fun z2 => ?_) rfl k0
          · rw [if_pos z2] at k; exact k _ f0
          · rw [if_neg z2] at k
            subst e2
            refine m_partsOf (f0.rR hr) ((hrt.rtS ho).fr f0 rfl (fun p i h1 h2 => by simp [p64a]; omega)) n1 n6 (by omega) (fun v f => k v (f0.tr (f.up (fun p i e => p64_a e))))
        · have z : t.2.1 = true := by simpa using z
          rw [if_pos z] at k
          unfold bX9_part_49
          rw [up_ne _ _ (by omega), hrw.1, b2i_0]
          exact br_f q (k _ f0)
    · rw [dec_none (n := 5 ^ n) (by omega) (fun j hj => e j (by omega) (by omega))] at k
      exact k _ f0
  · rw [dec1_none (hi := 6) (by decide) (fun m h1 h2 => e m (by omega) h2)] at k
    exact k _ f0
theorem M_next {h : aHo} {w : aWk} {t : aAt} {u : mSt} {a1 : Int32} {K : Int32 → mSt → Prop} (hr : rRf u) (ho : oAt w t) (hrw : rWk h w u) (hrt : rAt t u) (k : ∀ v, fr p64a u v → K (xNext w t a1) v) : bX9_next 42 a1 u K := by
  have hl := ho.2.2.2.1
  have f0 : fr p64a u (mpI u 42 0 0) := fr.pI _ u _ rfl
  unfold bX9_next
  rintro _ rfl
  unfold xNext at k
  refine s_isInN (lo := 1) (hi := 3) (by decide) (by decide) (by decide) (by decide) _ _ (fun n n1 n3 e1 => br_f (by decide) ?_) (fun e => br_t rfl ?_)
  · rw [dec1_some (hi := 3) (by decide) n1 n3 e1] at k
    dsimp only at k
    unfold unS3 at k
    subst e1
    rw [up_ne _ _ (by omega), hrw.1, b2i_0]
    refine br_c (fun q => ?_) (fun q => ?_)
    · rw [if_pos q] at k
      unfold bX9_next_33
      rw [up_ne _ _ (by omega), hrw.1, b2i_0]
      exact br_t q (k _ f0)
    · rw [if_neg q] at k
      rw [up_ne _ _ (by omega), hrt.2.2.1, b2i_0]
      refine br_c (fun z => ?_) (fun z => ?_)
      · rw [if_neg (by simp [z])] at k
        rw [up_ne _ _ (by omega), hrt.2.1]
        refine pk_eq t.2.2.length 0 (fun z2 => ?_) (fun z2 => ?_) rfl k0
        · rw [if_pos z2] at k; exact k _ f0
        · rw [if_neg z2] at k
          have hT0 := hrt.rtS ho
          generalize t.2.2 = T at *
          have hTf : ∀ y, fr p64a u y → rtS T y := fun y f => hT0.fr f rfl (fun p i h1 h2 => by simp [p64a]; omega)
          have lens : ∀ m l y, l + m = n → fr p64a u y → bX9_next_64 (m + 1) 42 (nI n) (nI (bL T l).2) (nI (bL T l).1) (nI (l + 1)) y K := by
            intro m
            induction m with
            | zero =>
              intro l y hlm f
              have : l = n := by omega
              subst this
              unfold bX9_next_64
              exact br_t (nI_lt (by omega) (by omega)) (k y f)
            | succ m ih =>
              intro l y hlm f
              unfold bX9_next_64
              refine br_f (nI_nlt (by omega) (by omega)) ?_
              have hp := pow_lt (l + 1) (by omega)
              have hbl := bL_le T l
              have rowsL : ∀ j r y, r + j = 5 ^ (l + 1) → fr p64a u y → bX9_next_73 (j + 1) 42 (nI n) (nI (bR T (l + 1) (bL T l) r).2) (nI (bR T (l + 1) (bL T l) r).1) (nI (l + 1)) (nI r) y K (fun z0 z1 z2 z3 z4 z5 => bX9_next_64 (m + 1) z0 z1 z2 z3 z4 z5 K) := by
                intro j
                induction j with
                | zero =>
                  intro r y hrj f
                  have : r = 5 ^ (l + 1) := by omega
                  subst this
                  unfold bX9_next_73
                  refine m_rowsOf (by omega) (br_t (nI_le (by omega) (by omega)) ?_)
                  rintro _ rfl
                  rw [nI_1]
                  exact ih (l + 1) y (by omega) f
                | succ j ihj =>
                  intro r y hrj f
                  have hble := bR_le T (l + 1) hbl r
                  have hns := nSt_le T (dgt (l + 1) r) (l + 1)
                  unfold bX9_next_73
                  refine m_rowsOf (by omega) (br_f (nI_ge (by omega) (by omega)) (m_partsOf (f.rR hr) (hTf y f) (by omega) (by omega) (by omega) (fun v g => ?_)))
                  have fv := f.tr (g.up (fun p i e => p64_a e))
                  have ihj' := fun y f => ihj (r + 1) y (by omega) f
                  simp only [bR] at ihj'
                  refine pk_le (nSt T (dgt (l + 1) r) (l + 1)) (bR T (l + 1) (bL T l) r).1 (fun z2 => ?_) (fun z2 => ?_) rfl rfl
                  · unfold bX9_next_112
                    refine br_t (nI_le z2 (by omega)) ?_
                    unfold bX9_next_125
                    rintro _ rfl
                    rw [nI_1]
                    have := ihj' v fv
                    rw [if_neg (by omega)] at this
                    exact this
                  · unfold bX9_next_112
                    refine br_f (nI_ge (by omega) (by omega)) ?_
                    unfold bX9_next_125
                    rintro _ rfl
                    rw [nI_1, show (200 : Int32) = nI 200 by decide, pk_mul, nI_add]
                    have := ihj' v fv
                    rw [if_pos (by omega)] at this
                    exact this
              have := rowsL (5 ^ (l + 1)) 0 y (by omega) f
              rw [nI_0] at this
              exact ⟨_, this⟩
          have := lens n 0 _ (by omega) f0
          simp only [bL, nI_0] at this
          exact ⟨_, this⟩
      · have z : t.2.1 = true := by simpa using z
        rw [if_pos z] at k
        unfold bX9_next_33
        rw [up_ne _ _ (by omega), hrw.1, b2i_0]
        exact br_f q (k _ f0)
  · rw [dec1_none (hi := 3) (by decide) (fun m h1 h2 => e m (by omega) h2)] at k
    exact k _ f0
