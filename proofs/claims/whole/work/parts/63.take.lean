def pT : Nat → Nat → Bool := fun p _ => decide (51 ≤ p) && decide (p ≤ 56)
def tInv (A n : Nat) (z0 z : mSt) : Prop := fr pT z0 z ∧ (∀ m, m < n → mI z 51 m = mI z0 57 m ∧ mI z 54 m = mI z0 60 m ∧ mI z 55 m = mI z0 61 m) ∧ (∀ i, i < 6 * n → mI z 52 i = mI z0 58 i) ∧ (∀ i, i < 30 * n → mI z 53 i = mI z0 59 i) ∧ ∀ m i, m < n → i ≤ A → mI z 56 (201 * m + i) = mI z0 62 (201 * m + i)
theorem m_take {N A : Nat} {z0 : mSt} {K : mSt → Prop} (hr : rRf z0) (hN : N ≤ 150) (h19 : mI z0 42 19 = nI N) (h12 : mI z0 42 12 = nI A) (hA : A ≤ 200) (hb : ∀ n i, n < N → i ≤ A → ∃ p, p < 8 ∧ mI z0 62 (201 * n + i) = nI p) (kk : ∀ v, tInv A N z0 v → K v) : ∃ n9, bX9_takeCome_21 n9 42 0 z0 K := by
  have l139 : ∀ n, n < N → ∀ (KL : Nat → Int32 → mSt → Prop), (∀ z', tInv A (n + 1) z0 z' → KL 42 (nI (n + 1)) z') → ∀ m i z, i + m = A + 1 → fr pT z0 z → (∀ m, m < n + 1 → mI z 51 m = mI z0 57 m ∧ mI z 54 m = mI z0 60 m ∧ mI z 55 m = mI z0 61 m) → (∀ i, i < 6 * (n + 1) → mI z 52 i = mI z0 58 i) → (∀ i, i < 30 * (n + 1) → mI z 53 i = mI z0 59 i) → (∀ m i', ((m < n ∧ i' ≤ A) ∨ (m = n ∧ i' < i)) → mI z 56 (201 * m + i') = mI z0 62 (201 * m + i')) → bX9_takeCome_139 (m + 1) 42 (nI n) (nI i) z K KL := by
    intro n hn KL hKL m
    induction m with
    | zero =>
      intro i z hi f a1 a2 a3 a4
      unfold bX9_takeCome_139
      rw [f.at rfl, h12]
      refine br_t (nI_lt (by omega) (by omega)) ?_
      rintro _ rfl
      rw [nI_1]
      exact hKL z ⟨f, a1, a2, a3, fun m i' h1 h2 => a4 m i' (by omega)⟩
    | succ m ih =>
      intro i z hi f a1 a2 a3 a4
      unfold bX9_takeCome_139
      rw [f.at rfl, h12]
      obtain ⟨p, hp, ep⟩ := hb n i hn (by omega)
      refine br_f (nI_nlt (by omega) (by omega)) ⟨56, (f.rR hr).get 42 26 56 (by decide), 62, (f.rR hr).get 42 33 62 (by decide), ?_⟩
      rw [k201n, nI_clamp (by omega), f.at (p := 62) rfl, ep, nar_b p hp]
      refine ⟨vp_in_nI (by omega) (by decide), vp_in_nI (by omega) (by decide), ?_⟩
      rintro _ rfl _ rfl
      rw [nI_1]
      refine ih (i + 1) _ (by omega) (f.wp _ rfl) (fun m h1 => ?_) (fun j h1 => ?_) (fun j h1 => ?_) (fun m' i' h1 => ?_)
      · rw [up_ne _ _ (by omega), up_ne _ _ (by omega), up_ne _ _ (by omega)]; exact a1 m h1
      · rw [up_ne _ _ (by omega)]; exact a2 j h1
      · rw [up_ne _ _ (by omega)]; exact a3 j h1
      · by_cases zz : m' = n ∧ i' = i
        · rw [zz.1, zz.2, up_eq, ep]
        · rw [up_ne _ _ (by omega)]; exact a4 m' i' (by omega)
  have l103 : ∀ n, n < N → ∀ (KL : Nat → Int32 → mSt → Prop), (∀ z', tInv A (n + 1) z0 z' → KL 42 (nI (n + 1)) z') → ∀ m i z, i + m = 30 → fr pT z0 z → (∀ m, m < n + 1 → mI z 51 m = mI z0 57 m ∧ mI z 54 m = mI z0 60 m ∧ mI z 55 m = mI z0 61 m) → (∀ i, i < 6 * (n + 1) → mI z 52 i = mI z0 58 i) → (∀ j, j < 30 * n + i → mI z 53 j = mI z0 59 j) → (∀ m i', m < n → i' ≤ A → mI z 56 (201 * m + i') = mI z0 62 (201 * m + i')) → bX9_takeCome_103 (m + 1) 42 (nI n) (nI i) z K KL := by
    intro n hn KL hKL m
    induction m with
    | zero =>
      intro i z hi f a1 a2 a3 a4
      unfold bX9_takeCome_103
      refine br_t (by rw [k30]; exact nI_le (by omega) (by omega)) ⟨A + 2, ?_⟩
      rw [k0]
      exact l139 n hn KL hKL (A + 1) 0 z (by omega) f a1 a2 (fun j h1 => a3 j (by omega)) (fun m' i' h1 => a4 m' i' (by omega) (by omega))
    | succ m ih =>
      intro i z hi f a1 a2 a3 a4
      unfold bX9_takeCome_103
      refine br_f (by rw [k30]; exact nI_ge (by omega) (by omega)) ⟨53, (f.rR hr).get 42 23 53 (by decide), 59, (f.rR hr).get 42 30 59 (by decide), ?_⟩
      rw [k30n, nI_clamp (by omega), f.at (p := 59) rfl]
      refine ⟨vp_in_nI (by omega) (by decide), vp_in_nI (by omega) (by decide), ?_⟩
      rintro _ rfl _ rfl
      rw [nI_1]
      refine ih (i + 1) _ (by omega) (f.wp _ rfl) (fun m h1 => ?_) (fun j h1 => ?_) (fun j h1 => ?_) (fun m' i' h1 h2 => ?_)
      · rw [up_ne _ _ (by omega), up_ne _ _ (by omega), up_ne _ _ (by omega)]; exact a1 m h1
      · rw [up_ne _ _ (by omega)]; exact a2 j h1
      · by_cases zz : j = 30 * n + i
        · rw [zz, up_eq]
        · rw [up_ne _ _ (by omega)]; exact a3 j (by omega)
      · rw [up_ne _ _ (by omega)]; exact a4 m' i' h1 h2
  have l67 : ∀ n, n < N → ∀ (KL : Nat → Int32 → mSt → Prop), (∀ z', tInv A (n + 1) z0 z' → KL 42 (nI (n + 1)) z') → ∀ m i z, i + m = 6 → fr pT z0 z → (∀ m, m < n + 1 → mI z 51 m = mI z0 57 m ∧ mI z 54 m = mI z0 60 m ∧ mI z 55 m = mI z0 61 m) → (∀ j, j < 6 * n + i → mI z 52 j = mI z0 58 j) → (∀ j, j < 30 * n → mI z 53 j = mI z0 59 j) → (∀ m i', m < n → i' ≤ A → mI z 56 (201 * m + i') = mI z0 62 (201 * m + i')) → bX9_takeCome_67 (m + 1) 42 (nI n) (nI i) z K KL := by
    intro n hn KL hKL m
    induction m with
    | zero =>
      intro i z hi f a1 a2 a3 a4
      unfold bX9_takeCome_67
      refine br_t (by rw [k6]; exact nI_le (by omega) (by omega)) ⟨31, ?_⟩
      rw [k0]
      exact l103 n hn KL hKL 30 0 z (by omega) f a1 (fun j h1 => a2 j (by omega)) a3 a4
    | succ m ih =>
      intro i z hi f a1 a2 a3 a4
      unfold bX9_takeCome_67
      refine br_f (by rw [k6]; exact nI_ge (by omega) (by omega)) ⟨52, (f.rR hr).get 42 22 52 (by decide), 58, (f.rR hr).get 42 29 58 (by decide), ?_⟩
      rw [k6n, nI_clamp (by omega), f.at (p := 58) rfl]
      refine ⟨vp_in_nI (by omega) (by decide), vp_in_nI (by omega) (by decide), ?_⟩
      rintro _ rfl _ rfl
      rw [nI_1]
      refine ih (i + 1) _ (by omega) (f.wp _ rfl) (fun m h1 => ?_) (fun j h1 => ?_) (fun j h1 => ?_) (fun m' i' h1 h2 => ?_)
      · rw [up_ne _ _ (by omega), up_ne _ _ (by omega), up_ne _ _ (by omega)]; exact a1 m h1
      · by_cases zz : j = 6 * n + i
        · rw [zz, up_eq]
        · rw [up_ne _ _ (by omega)]; exact a2 j (by omega)
      · rw [up_ne _ _ (by omega)]; exact a3 j h1
      · rw [up_ne _ _ (by omega)]; exact a4 m' i' h1 h2
  have l21 : ∀ m n z, n + m = N → tInv A n z0 z → bX9_takeCome_21 (m + 1) 42 (nI n) z K := by
    intro m
    induction m with
    | zero =>
      intro n z hn f
      unfold bX9_takeCome_21
      rw [f.1.at rfl, h19]
      exact br_t (nI_le (by omega) (by omega)) (kk z (by rw [← hn]; exact f))
    | succ m ih =>
      intro n z hn f
      obtain ⟨f, a1, a2, a3, a4⟩ := f
      have jn : vp_in (nI n) 150 := vp_in_nI (by omega) (by decide)
      unfold bX9_takeCome_21
      rw [f.at rfl, h19, nI_clamp (by omega)]
      refine br_f (nI_ge (by omega) (by omega)) ⟨51, (f.rR hr).get 42 21 51 (by decide), 57, (f.rR hr).get 42 28 57 (by decide), jn, jn, ?_⟩
      rintro _ rfl
      refine ⟨54, (f.rR hr).get 42 24 54 (by decide), 60, (f.rR hr).get 42 31 60 (by decide), jn, jn, ?_⟩
      rintro _ rfl
      refine ⟨55, (f.rR hr).get 42 25 55 (by decide), 61, (f.rR hr).get 42 32 61 (by decide), jn, jn, ?_⟩
      rintro _ rfl
      rw [up_ne _ _ (by omega), up_ne _ _ (by omega), up_ne _ _ (by omega), f.at (p := 57) rfl, f.at (p := 60) rfl, f.at (p := 61) rfl]
      refine ⟨7, ?_⟩
      rw [k0]
      refine l67 n (by omega) _ (fun z' hz => ih (n + 1) z' (by omega) hz) 6 0 _ (by omega) (((f.wp _ rfl).wp _ rfl).wp _ rfl) (fun m h1 => ?_) (fun j h1 => ?_) (fun j h1 => ?_) (fun m' i' h1 h2 => ?_)
      · by_cases zz : m = n
        · rw [zz, up_eq, up_ne _ _ (by omega), up_ne _ _ (by omega), up_eq, up_ne _ _ (by omega), up_eq]
          exact ⟨rfl, rfl, rfl⟩
        · rw [up_ne _ _ (by omega), up_ne _ _ (by omega), up_ne _ _ (by omega), up_ne _ _ (by omega), up_ne _ _ (by omega), up_ne _ _ (by omega), up_ne _ _ (by omega), up_ne _ _ (by omega), up_ne _ _ (by omega)]
          exact a1 m (by omega)
      · rw [up_ne _ _ (by omega), up_ne _ _ (by omega), up_ne _ _ (by omega)]; exact a2 j (by omega)
      · rw [up_ne _ _ (by omega), up_ne _ _ (by omega), up_ne _ _ (by omega)]; exact a3 j h1
      · rw [up_ne _ _ (by omega), up_ne _ _ (by omega), up_ne _ _ (by omega)]; exact a4 m' i' h1 h2
  have := l21 N 0 z0 (by omega) ⟨fr.rf _ _, fun m h => absurd h (by omega), fun m h => absurd h (by omega), fun m h => absurd h (by omega), fun m i h => absurd h (by omega)⟩
  rw [nI_0] at this
  exact ⟨_, this⟩
def pT9 : Nat → Nat → Bool := fun p i => (decide (51 ≤ p) && decide (p ≤ 56)) || (p == 42 && i == 19)
/-- the sheets that came become the sheets -/
theorem m_takeCome {sp : Bool} {L : List aSh} {evs : List aEv} {v : mSt} {K : mSt → Prop} (hr : rRf v) (h20 : mI v 42 20 = b2i sp) (h12 : mI v 42 12 = nI evs.length) (hA : evs.length ≤ 200) (hL : sp = false → L.length ≤ 150 ∧ mI v 42 27 = nI L.length ∧ ∀ n s, L[n]? = some s → nOne s n v ∧ nHi s evs n v ∧ s.1 ≤ 6 ∧ ∀ i, i ≤ evs.length → xPl s evs i < 8)
    (kk : ∀ y, fr pT9 v y → mI y 42 19 = nI (if sp = true then [] else L).length → (∀ n s, (if sp = true then [] else L)[n]? = some s → rOne s n y ∧ rHi s evs n y) → K y) : bX9_takeCome 42 v K := by
  unfold bX9_takeCome
  rw [h20, b2i_0]
  refine br_c (fun z => ?_) (fun z => ?_)
  · obtain ⟨l1, l2, l3⟩ := hL z
    unfold bX9_takeCome_16
    rw [l2]
    rintro _ rfl
    have f0 : fr pT9 v (mpI v 42 19 (nI L.length)) := fr.pI _ v _ rfl
    refine m_take (N := L.length) (A := evs.length) (f0.rR hr) l1 (up_eq _ _ _ _) (by rw [up_ne _ _ (by omega)]; exact h12) hA (fun n i h1 h2 => ?_) (fun y ty => ?_)
    · obtain ⟨-, q2, -, q4⟩ := l3 n _ (List.getElem?_eq_getElem h1)
      exact ⟨_, q4 i h2, by rw [up_ne _ _ (by omega)]; exact q2 i h2⟩
    · obtain ⟨t1, t2, t3, t4, t5⟩ := ty
      rw [z] at kk
      refine kk y (f0.tr (t1.up (fun p i e => ?_))) (by rw [t1.at rfl, up_eq]; rfl) (fun n s hs => ?_)
      · simp [pT, pT9] at e ⊢; exact e.1
      · replace hs : L[n]? = some s := hs
        have hn := (List.getElem?_eq_some_iff.mp hs).1
        obtain ⟨⟨q1, q2, q3, q4, q5⟩, q6, q7, q8⟩ := l3 n s hs
        obtain ⟨e1, e2, e3⟩ := t2 n hn
        refine ⟨⟨?_, ?_, ?_, fun p hp => ?_, fun x hx => ?_⟩, fun i hi => ?_⟩
        · rw [e1, up_ne _ _ (by omega)]; exact q1
        · rw [e2, up_ne _ _ (by omega)]; exact q2
        · rw [e3, up_ne _ _ (by omega)]; exact q3
        · rw [t3 _ (by omega), up_ne _ _ (by omega)]; exact q4 p hp
        · rw [t4 _ (by omega), up_ne _ _ (by omega)]; exact q5 x hx
        · rw [t5 n i hn hi, up_ne _ _ (by omega)]; exact q6 i hi
  · have z : sp = true := by simpa using z
    rw [z] at kk
    unfold bX9_takeCome_16
    rintro _ rfl
    refine ⟨1, ?_⟩
    unfold bX9_takeCome_21
    rw [up_eq]
    refine br_t (by decide) (kk _ (fr.pI _ v _ rfl) (by rw [up_eq]; exact k0) (fun n s hs => by simp at hs))
theorem m_182 {len c a sg : Nat} {P : Option Nat} {b : Bool} {y : mSt} {K : Int32 → mSt → Prop} (hr : rRf y) (h12 : mI y 42 12 = nI (len + 1)) (hl : len < 200) (h11 : mI y 42 11 = b2i b) (h7 : mI y 42 7 = nI c) (hc : c < 10) (h43 : mI y 43 c = nI sg) (h10 : mI y 42 10 = pbI P) (hP : ∀ d, P = some d → d < 10)
    (kk : ∀ v, fr (fun p i => (decide (47 ≤ p) && decide (p ≤ 50)) && i == len) y v → mI v 47 len = nI a → mI v 48 len = b2i b → mI v 49 len = nI sg → mI v 50 len = b2i (decide (P = some c)) → K (b2i b) v) : bX9_act_182 42 (nI a) y K := by
  have il : vp_in (nI len) 200 := vp_in_nI hl (by decide)
  unfold bX9_act_182
  rw [h12, nI_pred, nI_clamp (by omega)]
  refine ⟨47, hr.get 42 13 47 (by decide), il, ?_⟩
  rintro _ rfl
  rw [up_ne _ _ (by omega), up_ne _ _ (by omega), h11, h12, nI_pred]
  refine ⟨48, hr.get 42 14 48 (by decide), ?_⟩
  have tail : ∀ x : Int32, x = b2i b → bX9_act_216 42 48 (nI len) x (mpI y 47 len (nI a)) K := by
    intro x hx
    unfold bX9_act_216
    rw [nI_clamp (by omega)]
    refine ⟨il, ?_⟩
    rintro _ rfl
    have i12 : mI (mpI (mpI y 47 len (nI a)) 48 len x) 42 12 = nI (len + 1) := by rw [up_ne _ _ (by omega), up_ne _ _ (by omega), h12]
    have i7 : mI (mpI (mpI y 47 len (nI a)) 48 len x) 42 7 = nI c := by rw [up_ne _ _ (by omega), up_ne _ _ (by omega), h7]
    rw [i12, nI_pred, i7, nI_clamp (by omega), nI_clamp (by omega)]
    refine ⟨49, hr.get 42 15 49 (by decide), 43, hr.get 42 2 43 (by decide), vp_in_nI hc (by decide), il, ?_⟩
    rw [up_ne _ _ (by omega), up_ne _ _ (by omega), h43]
    rintro _ rfl
    refine ⟨50, by simp only [s2]; exact hr.get 42 16 50 (by decide), ?_⟩
    unfold bX9_liesHere
    have j12 : mI (mpI (mpI (mpI y 47 len (nI a)) 48 len x) 49 len (nI sg)) 42 12 = nI (len + 1) := by rw [up_ne _ _ (by omega), i12]
    have j10 : mI (mpI (mpI (mpI y 47 len (nI a)) 48 len x) 49 len (nI sg)) 42 10 = pbI P := by rw [up_ne _ _ (by omega), up_ne _ _ (by omega), up_ne _ _ (by omega), h10]
    have j7 : mI (mpI (mpI (mpI y 47 len (nI a)) 48 len x) 49 len (nI sg)) 42 7 = nI c := by rw [up_ne _ _ (by omega), i7]
    rw [j12, nI_pred, j10, j7, pb_eq (fun d hd => by have := hP d hd; omega) (by omega)]
    have fin : ∀ x2 : Int32, x2 = b2i (decide (P = some c)) → bX9_act_259 42 50 (nI len) x2 (mpI (mpI (mpI y 47 len (nI a)) 48 len x) 49 len (nI sg)) K := by
      intro x2 hx2
      unfold bX9_act_259
      rw [nI_clamp (by omega)]
      refine ⟨il, ?_⟩
      rintro _ rfl
      have := kk (mpI (mpI (mpI (mpI y 47 len (nI a)) 48 len x) 49 len (nI sg)) 50 len x2) (((((fr.rf _ y).wp _ (by simp)).wp _ (by simp)).wp _ (by simp)).wp _ (by simp)) (by rw [up_ne _ _ (by omega), up_ne _ _ (by omega), up_ne _ _ (by omega), up_eq]) (by rw [up_ne _ _ (by omega), up_ne _ _ (by omega), up_eq, hx]) (by rw [up_ne _ _ (by omega), up_eq]) (by rw [up_eq, hx2])
      rw [up_ne _ _ (by omega), up_ne _ _ (by omega), up_ne _ _ (by omega), up_ne _ _ (by omega), h11]
      cases b
      · exact br_t rfl this
      · exact br_f (by decide) this
    refine br_c (fun z => ?_) (fun z => ?_)
    · exact br_f (by decide) (fin 1 (by simp [z, b2i]))
    · exact br_t rfl (fin 0 (by simp [z, b2i]))
  cases b
  · exact br_t rfl (tail 0 rfl)
  · exact br_f (by decide) (tail 1 rfl)
