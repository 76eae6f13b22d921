def pP : Nat → Nat → Bool := fun p i => p == 55 || p == 56 || (p == 42 && i == 10)
theorem m_peb {T : List aSh} {P : Option Nat} {c A : Nat} {u : mSt} {K : mSt → Prop} (hr : rRf u) (h7 : mI u 42 7 = nI c) (hc : c < 10) (h10 : mI u 42 10 = pbI P) (hP : ∀ d, P = some d → d < 10) (h12 : mI u 42 12 = nI A) (hA : A ≤ 200) (h19 : mI u 42 19 = nI T.length) (hT : T.length ≤ 150) (hs : ∀ k s, T[k]? = some s → rOne s k u) (ho : ∀ s ∈ T, oSh 6 s ∧ ((s.2.2.1 = none ↔ P = none) ∧ (s.2.2.1 = some s.2.1 ↔ P = some c)))
    (kk : ∀ v, fr pP u v → mI v 42 10 = pbI (xMv P c) → (∀ k s, T[k]? = some s → rOne (shPeb s) k v ∧ mI v 56 (201 * k + A) = nI s.2.1) → (∀ k i, i ≠ A → i < 201 → mI v 56 (201 * k + i) = mI u 56 (201 * k + i)) → K v) : bX9_movePebble 42 u K := by
  have loop : ∀ n i y, i + n = T.length → fr pP u y → mI y 42 10 = pbI (xMv P c) → (∀ k s, T[k]? = some s → rOne (if k < i then shPeb s else s) k y ∧ (k < i → mI y 56 (201 * k + A) = nI s.2.1)) → (∀ k i, i ≠ A → i < 201 → mI y 56 (201 * k + i) = mI u 56 (201 * k + i)) → bX9_movePebble_63 (n + 1) 42 (b2i (decide (P = some c))) (b2i (decide (P = none))) (nI i) y K := by
    intro n
    induction n with
    | zero =>
      intro i y hi f e10 a1 a2
      unfold bX9_movePebble_63
      rw [f.at rfl, h19]
      refine br_t (nI_le (by omega) (by omega)) (kk y f e10 (fun k s hk => ?_) a2)
      have hl := (List.getElem?_eq_some_iff.mp hk).1
      obtain ⟨b1, b2⟩ := a1 k s hk
      rw [if_pos (by omega)] at b1
      exact ⟨b1, b2 (by omega)⟩
    | succ n ih =>
      intro i y hi f e10 a1 a2
      have hil : i < T.length := by omega
      have hge := List.getElem?_eq_getElem hil
      generalize T[i] = s at hge
      obtain ⟨⟨b1, b2, b3, b4, b5⟩, -⟩ := a1 i s hge
      rw [if_neg (by omega)] at b1 b2 b3 b4 b5
      obtain ⟨⟨⟨s1', s2', s3', s4'⟩, s5', s6'⟩, p1, p2⟩ := ho s (List.mem_of_getElem? hge)
      have ji : vp_in (nI i) 150 := vp_in_nI (by omega) (by decide)
      have fin : ∀ x : Int32, x = pbI (xMv s.2.2.1 s.2.1) → bX9_movePebble_104 42 (b2i (decide (P = some c))) (b2i (decide (P = none))) (nI i) 55 (nI i) x y K (fun z0 z1 z2 z3 z4 => bX9_movePebble_63 (n + 1) z0 z1 z2 z3 z4 K) := by
        rintro _ rfl
        unfold bX9_movePebble_104
        rw [nI_clamp (by omega)]
        refine ⟨ji, ?_⟩
        rintro _ rfl
        refine ⟨56, (f.rR hr).get 42 26 56 (by decide), 54, (f.rR hr).get 42 24 54 (by decide), ji, ?_⟩
        rw [up_ne _ _ (by omega), up_ne _ _ (by omega), f.at (p := 42) (i := 12) rfl, h12, k201n, b2, nar_c _ (by omega), nI_clamp (by omega)]
        refine ⟨vp_in_nI (by omega) (by decide), ?_⟩
        rintro _ rfl _ rfl
        rw [nI_1]
        refine ih (i + 1) _ (by omega) ((f.wp _ rfl).wp _ rfl) (by rw [up_ne _ _ (by omega), up_ne _ _ (by omega)]; exact e10) (fun k s' hk => ?_) (fun k j h1 h2 => ?_)
        · by_cases z : k = i
          · subst z
            rw [hge] at hk
            cases hk
            rw [if_pos (by omega)]
            refine ⟨⟨?_, ?_, ?_, fun p hp => ?_, fun x hx => ?_⟩, fun _ => ?_⟩
            · rw [up_ne _ _ (by omega), up_ne _ _ (by omega)]; exact b1
            · rw [up_ne _ _ (by omega), up_ne _ _ (by omega)]; exact b2
            · rw [up_ne _ _ (by omega), up_eq]; rfl
            · rw [up_ne _ _ (by omega), up_ne _ _ (by omega)]; exact b4 p hp
            · rw [up_ne _ _ (by omega), up_ne _ _ (by omega)]; exact b5 x hx
            · rw [up_eq]
          · obtain ⟨c0, c6⟩ := a1 k s' hk
            have : (if k < i + 1 then shPeb s' else s') = (if k < i then shPeb s' else s') := by by_cases zz : k < i <;> simp [zz, show (k < i + 1) ↔ (k < i) by omega]
            rw [this]
            obtain ⟨c1, c2, c3, c4, c5⟩ := c0
            refine ⟨⟨?_, ?_, ?_, fun p hp => ?_, fun x hx => ?_⟩, fun h1 => ?_⟩
            · rw [up_ne _ _ (by omega), up_ne _ _ (by omega)]; exact c1
            · rw [up_ne _ _ (by omega), up_ne _ _ (by omega)]; exact c2
            · rw [up_ne _ _ (by omega), up_ne _ _ (by omega)]; exact c3
            · rw [up_ne _ _ (by omega), up_ne _ _ (by omega)]; exact c4 p hp
            · rw [up_ne _ _ (by omega), up_ne _ _ (by omega)]; exact c5 x hx
            · rw [up_ne _ _ (by omega), up_ne _ _ (by omega)]; exact c6 (by omega)
        · rw [up_ne _ _ (by omega), up_ne _ _ (by omega)]; exact a2 k j h1 h2
      unfold bX9_movePebble_63
      rw [f.at rfl, h19, nI_clamp (by omega)]
      refine br_f (nI_ge (by omega) (by omega)) ⟨55, (f.rR hr).get 42 25 55 (by decide), ?_⟩
      rw [b2i_0, b2i_0]
      refine br_c (fun z => br_c (fun z2 => ⟨55, (f.rR hr).get 42 25 55 (by decide), ji, fin _ ?_⟩) (fun z2 => ⟨54, (f.rR hr).get 42 24 54 (by decide), ji, fin _ ?_⟩)) (fun z => fin _ ?_)
      · simp only [decide_eq_false_iff_not] at z z2
        rw [b3]
        cases hp : s.2.2.1 with
        | none => exact absurd (p1.mp hp) z2
        | some d =>
          simp only [xMv]
          rw [if_neg (fun q => z (p2.mp (by rw [hp, q])))]
      · have z2 : P = none := by simpa using z2
        rw [b2, p1.mpr z2]; rfl
      · have z : P = some c := by simpa using z
        rw [p2.mpr z]; simp [xMv, pbI]
  have tail : bX9_movePebble_32 42 (b2i (decide (P = some c))) (b2i (decide (P = none))) u K := by
    have go : ∀ x : Int32, x = pbI (xMv P c) → bX9_movePebble_58 42 (b2i (decide (P = some c))) (b2i (decide (P = none))) 42 x u K := by
      rintro _ rfl
      unfold bX9_movePebble_58
      rintro _ rfl
      have := loop T.length 0 (mpI u 42 10 (pbI (xMv P c))) (by omega) (fr.pI _ u _ rfl) (up_eq _ _ _ _) (fun k s hk => ⟨by
        rw [if_neg (by omega)]
        obtain ⟨c1, c2, c3, c4, c5⟩ := hs k s hk
        refine ⟨?_, ?_, ?_, fun p hp => ?_, fun x hx => ?_⟩
        · rw [up_ne _ _ (by omega)]; exact c1
        · rw [up_ne _ _ (by omega)]; exact c2
        · rw [up_ne _ _ (by omega)]; exact c3
        · rw [up_ne _ _ (by omega)]; exact c4 p hp
        · rw [up_ne _ _ (by omega)]; exact c5 x hx, fun h => absurd h (by omega)⟩) (fun k i _ _ => by rw [up_ne _ _ (by omega)])
      rw [nI_0] at this
      exact ⟨_, this⟩
    unfold bX9_movePebble_32
    rw [b2i_0, b2i_0, h10, h7]
    refine br_c (fun z => br_c (fun z2 => go _ ?_) (fun z2 => go _ ?_)) (fun z => go _ ?_)
    · simp only [decide_eq_false_iff_not] at z z2
      cases hp : P with
      | none => exact absurd hp z2
      | some d =>
        simp only [xMv]
        rw [if_neg (fun q => z (by rw [hp, q]))]
    · have z2 : P = none := by simpa using z2
      rw [z2]; rfl
    · have z : P = some c := by simpa using z
      rw [z]; simp [xMv, pbI]
  have hP' : ∀ d, P = some d → d < 2 ^ 31 := fun d hd => by have := hP d hd; omega
  have t19 : ∀ x : Int32, x = b2i (decide (P = some c)) → bX9_movePebble_19 42 x u K := by
    rintro _ rfl
    unfold bX9_movePebble_19
    rw [h10, pb_neg hP']
    refine br_c (fun z => ?_) (fun z => ?_)
    · rw [show (decide (P = none)) = false by simpa using z] at tail; exact tail
    · rw [show (decide (P = none)) = true by simpa using z] at tail; exact tail
  unfold bX9_movePebble
  have hneg : mI u 42 10 < 0 ↔ P = none := by
    rw [h10, ← Int32.not_le, pb_neg hP']; simp
  rw [hneg]
  refine br_c (fun z => ?_) (fun z => ?_)
  · unfold bX9_movePebble_18
    exact t19 0 (by simp [z, b2i])
  · unfold bX9_liesHere
    rw [h10, h7, pb_eq hP' (by omega)]
    refine br_c (fun z2 => br_f (by decide) (t19 1 (by simp [z2, b2i]))) (fun z2 => br_t rfl ?_)
    unfold bX9_movePebble_18
    exact t19 0 (by simp [z2, b2i])
