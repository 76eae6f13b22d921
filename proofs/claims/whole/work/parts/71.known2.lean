def p63a : Nat → Nat → Bool := fun p i => p == 63 || (p == 42 && i == 0)
theorem rch_6 {s : aSh} (hs : oSh 6 s) {p q : Nat} (hp : p < s.1) : rch (nxt s) p q ↔ wnB (nxt s) 6 p q = true := by
  have h6 := hs.1.2.1
  constructor
  · rintro ⟨n, h⟩
    exact wn_le (by omega) (wn_few hp (fun x a h1 h2 => nxt_lt hs h1 h2) h)
  · exact fun h => ⟨6, h⟩
theorem M_known {h : aHo} {w : aWk} {t : aAt} {u : mSt} {K : Int32 → mSt → Prop} (hr : rRf u) (ho : oAt w t) (hrw : rWk h w u) (hrt : rAt t u) (k : ∀ r v, isKn w t r → fr p63a u v → K r v) : bX9_known 42 u K := by
  have f0 : fr p63a u (mpI u 42 0 0) := fr.pI _ u _ rfl
  have c0 : (0 : Int32).toNatClampNeg = 0 := by decide
  unfold bX9_known
  rintro _ rfl
  unfold isKn at k
  rw [up_ne _ _ (by omega), hrw.1, b2i_0]
  refine br_c (fun q => ?_) (fun q => ?_)
  · unfold bX9_known_19
    simp only [if_pos q] at k
    rw [up_ne _ _ (by omega), hrw.1, b2i_0]
    exact br_t q (k _ _ rfl f0)
  · simp only [if_neg q] at k
    rw [up_ne _ _ (by omega), hrt.2.2.1, b2i_0]
    refine br_c (fun z => ?_) (fun z => ?_)
    · have zt : ¬ t.2.1 = true := by simp [z]
      simp only [if_neg zt] at k
      rw [up_ne _ _ (by omega), hrt.2.1]
      have hl := ho.2.2.2.1
      refine pk_eq t.2.2.length 1 (fun z1 => ?_) (fun z1 => ?_) rfl k1
      · obtain ⟨s, es⟩ : ∃ s, t.2.2 = [s] := List.length_eq_one_iff.mp z1
        have hge : t.2.2[0]? = some s := by rw [es]; rfl
        have hs := (ho.2.2.2.2 s (List.mem_of_getElem? hge)).1
        have h6 := hs.1.2.1
        have hw0 := hs.1.2.2.1
        have hone : rOne s 0 (mpI u 42 0 0) := rOne_th 0 (hrt.2.2.2 0 s hge)
        simp only [es] at k
        have hR : rRf (mpI u 42 0 0) := f0.rR hr
        have hR24 : mR (mpI u 42 0 0) 42 24 = some 54 := hR.get 42 24 54 (by decide)
        refine ⟨54, hR24, by rw [k0]; exact vp_in_nI (by decide) (by decide), ?_⟩
        rw [c0, hone.2.1]
        conv => arg 2; rw [k0]
        refine m_measure (s := s) (k := 0) hR hs (by decide) hone hw0 (fun v f hv => ?_)
        have f1 : fr p63a u v := f0.tr (f.up (fun p i e => by simp [p63a, p63] at e ⊢; omega))
        obtain ⟨q1, q2, q3, q4, q5⟩ := hone.fr f p63_no
        have loop : ∀ n x b, x + n = 5 * s.1 → (b = true ↔ ∀ x', x' < x → wnB (nxt s) 6 s.2.1 (x' / 5) = true → s.2.2.2.2 x' ≠ 0) → bX9_known_59 (n + 1) 42 (b2i b) (nI x) v K := by
          intro n
          induction n with
          | zero =>
            intro x b hx hb
            unfold bX9_known_59
            refine ⟨51, (f1.rR hr).get 42 21 51 (by decide), by rw [k0]; exact vp_in_nI (by decide) (by decide), ?_⟩
            rw [c0, q1, k5, pk_mul]
            have hiff : b = true ↔ allK s := by
              rw [hb]
              constructor
              · intro hA p a hp ha
                have hpl := rch_lt hs hp
                exact hA (5 * p + a) (by omega) (by rw [show (5 * p + a) / 5 = p by omega]; exact (rch_6 hs hw0).mp hp)
              · intro hA x' hx' h1
                have := hA (x' / 5) (x' % 5) ((rch_6 hs hw0).mpr h1) (by omega)
                rw [show 5 * (x' / 5) + x' % 5 = x' by omega] at this
                exact this
            refine br_t (nI_le (by omega) (by omega)) ?_
            rw [b2i_0]
            refine br_c (fun zb => ?_) (fun zb => ?_)
            · refine k 0 v ⟨fun hA => ?_, fun _ => rfl⟩ f1
              rw [hiff.mpr hA] at zb; cases zb
            · have zb : b = true := by simpa using zb
              exact k 1 v ⟨fun _ => rfl, fun hA => absurd (hiff.mp zb) hA⟩ f1
          | succ n ih =>
            intro x b hx hb
            have hlx := (hs.2.2 x (by omega)).1
            have nxtv : ∀ (b' : Bool) (x1 : Int32), x1 = b2i b' → (b' = true ↔ (b = true ∧ (wnB (nxt s) 6 s.2.1 (x / 5) = true → s.2.2.2.2 x ≠ 0))) → bX9_known_102 42 (nI x) x1 v K (fun z0 z1 z2 z3 => bX9_known_59 (n + 1) z0 z1 z2 z3 K) := by
              rintro b' _ rfl hb'
              unfold bX9_known_102
              rintro _ rfl
              rw [nI_1]
              refine ih (x + 1) b' (by omega) ?_
              rw [hb', hb]
              constructor
              · rintro ⟨a1, a2⟩ x' hx' h1
                by_cases zx : x' = x
                · rw [zx] at h1 ⊢; exact a2 h1
                · exact a1 x' (by omega) h1
              · intro a1
                exact ⟨fun x' hx' h1 => a1 x' (by omega) h1, fun h1 => a1 x (by omega) h1⟩
            unfold bX9_known_59
            refine ⟨51, (f1.rR hr).get 42 21 51 (by decide), by rw [k0]; exact vp_in_nI (by decide) (by decide), ?_⟩
            rw [c0, q1, k5, pk_mul]
            refine br_f (nI_ge (by omega) (by omega)) ?_
            rw [b2i_0]
            refine br_c (fun zb => ?_) (fun zb => ⟨63, (f1.rR hr).get 42 38 63 (by decide), ?_⟩)
            · unfold bX9_known_101
              exact nxtv false 0 rfl (by simp [zb])
            · have zb : b = true := by simpa using zb
              rw [pk_div (by omega) (by omega) (by omega), nI_clamp (by omega), hv (x / 5) (by omega), nI_clamp (by omega)]
              refine ⟨vp_in_nI (by omega) (by decide), ?_⟩
              unfold lv
              by_cases zw : wnB (nxt s) 6 s.2.1 (x / 5) = true
              · rw [if_pos zw]
                have hl6 := (lst_ok zw).1
                refine br_f (nI_pos (by omega)) ⟨53, (f1.rR hr).get 42 23 53 (by decide), vp_in_nI (by omega) (by decide), ?_⟩
                have := q5 x (by omega)
                rw [Nat.mul_zero, Nat.zero_add] at this
                rw [this, lI_m3 (by omega)]
                refine br_c (fun z0 => ?_) (fun z0 => ?_)
                · unfold bX9_known_101
                  exact nxtv false 0 rfl (by simp [zw, z0])
                · unfold bX9_known_97
                  exact nxtv true 1 rfl (by simp [zb, z0])
              · rw [if_neg zw]
                refine br_t (by decide) ?_
                unfold bX9_known_97
                exact nxtv true 1 rfl (by simp [zb, zw])
        have := loop (5 * s.1) 0 true (by omega) (by simp)
        rw [nI_0] at this
        exact ⟨_, this⟩
      · refine k 0 _ ?_ f0
        split
        · rename_i s es
          rw [es] at z1
          exact absurd rfl z1
        · rfl
    · have z : t.2.1 = true := by simpa using z
      simp only [if_pos z] at k
      unfold bX9_known_19
      rw [up_ne _ _ (by omega), hrw.1, b2i_0]
      exact br_f q (k _ _ rfl f0)
