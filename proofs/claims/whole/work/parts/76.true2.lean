def pTr : Nat → Nat → Bool := fun p i => p == 68 || (p == 42 && (i == 0 || i == 34 || i == 35 || i == 36 || i == 37))
theorem pS_Tr {p i : Nat} (e : pTr p i = false) : pS p i = false := by
  simp [pTr, pS] at e ⊢; omega
theorem pTr_no : ∀ p i : Nat, 51 ≤ p → p ≤ 55 → pTr p i = false := fun p i h1 h2 => by simp [pTr]; omega
def meO (b : Nat → Bool) (y : mSt) : Prop := ∀ x, x < 480 → mI y 68 x = b2i (b x)
theorem M_isTrue {h : aHo} {w : aWk} {t : aAt} {u : mSt} {a1 : Int32} {K : Int32 → mSt → Prop} (hr : rRf u) (hh : oHo h) (hw : oWk h w) (ho : oAt w t) (hrh : rHo h u) (hrw : rWk h w u) (hrt : rAt t u) (k : ∀ r v, isTr h w t a1 r → fr pTr u v → K r v) : bX9_isTrue 42 a1 u K := by
  have f0 : fr pTr u (mpI u 42 0 0) := fr.pI _ u _ rfl
  have hl := ho.2.2.2.1
  unfold bX9_isTrue
  rintro _ rfl
  unfold isTr at k
  refine s_isSheetN (h := h) ho (by rw [th_at u (by decide)]; exact hrw.1) (by rw [th_at u (by decide)]; exact hrt.2.1) (fun kk hi e => br_f (by decide) ?_) (fun e => br_t rfl ?_)
  · rw [dec_some (n := t.2.2.length) (by omega) hi e] at k
    have hge := List.getElem?_eq_getElem hi
    generalize t.2.2[kk] = s at hge
    simp only [hge] at k
    have h1 : w.1 = true := by
      cases hw1 : w.1
      · rw [ho.2.1 hw1] at hi; simp at hi
      · rfl
    have hs := (ho.2.2.2.2 s (List.mem_of_getElem? hge)).1
    have h6 := hs.1.2.1
    have h10 := hh.1
    have hw0 := hs.1.2.2.1
    obtain ⟨o1, o2, o3, o4⟩ := hw.1 h1
    obtain ⟨w7, w8, w9, w10, w11, w17⟩ := hrw.2.2.1 h1
    have hst0 := st_lt hh.1 o2 o3
    have is0 : isPr h s (80 * s.2.1 + stI w.2.1) := ⟨s.2.1, w.2.1, hs.1.2.2.1, ⟨o2, o3⟩, rfl⟩
    have hlt0 := isPr_lt hh hs is0
    have ok0 : okP h s (80 * s.2.1 + stI w.2.1) ↔ okQ h s s.2.1 w.2.1 := okP_at hh ⟨o2, o3⟩
    generalize hx0 : 80 * s.2.1 + stI w.2.1 = x0 at is0 hlt0 ok0
    have eT : allT h w s ↔ ∀ x, rch (fP h s) x0 x → okP h s x := by unfold allT; rw [hx0]
    have hrf : ∀ y, fr pTr u y → rHo h y := fun y f => hrh.fr f rfl (fun _ => rfl) (fun _ => rfl) (fun _ => rfl) (fun _ => rfl)
    have one' : ∀ y, fr pTr u y → rOne s kk y := fun y f => (hrt.2.2.2 kk s hge).fr f pTr_no
    have g68 : ∀ y, fr pTr u y → mR y 42 44 = some 68 := fun y f => (f.rR hr).get 42 44 68 (by decide)
    have e1 : vp_nar .boolean (1 : Int32) = 1 := by decide
    have e0 : vp_nar .boolean (0 : Int32) = 0 := by decide
    have k80 : (80 : Int32) = nI 80 := by decide
    have k480 : (480 : Int32) = nI 480 := by decide
    have no : ∀ y x, fr pTr u y → rch (fP h s) x0 x → ¬ okP h s x → K 0 y := fun y x f hx hn => k 0 y ⟨fun hA => absurd (eT.mp hA x hx) hn, fun _ => rfl⟩ f
    have rounds : ∀ N b y, 481 ≤ cnt b 480 + N → fr pTr u y → meO b y → (∀ x, b x = true → rch (fP h s) x0 x ∧ s.2.2.2.1 (x / 80) = h.2.1 (unS (x % 80)).1) → b x0 = true → bX9_isTrue_93 (N + 1) 42 (nI kk) 1 y K := by
      intro N
      induction N with
      | zero => intro b y hN; have := cnt_le b 480; omega
      | succ N ih =>
        intro b0 y0 hN f0 s0 r0 i0
        unfold bX9_isTrue_93
        refine br_f (by decide) ⟨481, ?_⟩
        have xs : ∀ n x b m y, x + n = 480 → fr pTr u y → meO b y → (∀ x, b x = true → rch (fP h s) x0 x ∧ s.2.2.2.1 (x / 80) = h.2.1 (unS (x % 80)).1) → b x0 = true → (m = false → b = b0 ∧ ∀ x', x' < x → b x' = true → ∀ a, a < 5 → b (fP h s x' a) = true ∧ (s.2.2.2.2 (5 * (x' / 80) + a) ≠ 0 → (s.2.2.2.2 (5 * (x' / 80) + a) = 1 ↔ xStep h (unS (x' % 80)) a = none))) → (m = true → cnt b0 480 < cnt b 480) → bX9_isTrue_101 (n + 1) 42 (nI kk) (b2i m) (nI x) y K (fun z0 z1 z2 z3 => bX9_isTrue_93 (N + 1) z0 z1 z2 z3 K) := by
          intro n
          induction n with
          | zero =>
            intro x b m y hx f s r i c1 c2
            unfold bX9_isTrue_101
            refine br_t (by rw [k480]; exact nI_le (by omega) (by omega)) ?_
            cases m with
            | false =>
              obtain ⟨-, c1⟩ := c1 rfl
              unfold bX9_isTrue_93
              refine br_t rfl (k 1 y ⟨fun _ => rfl, fun hn => absurd (eT.mpr (fun x' hx' => ?_)) hn⟩ f)
              have hb : b x' = true := rch_in (X := fun x => b x = true) (fun z a hz ha => (c1 z (by have := isPr_lt hh hs (isPr_rch hh hs is0 (r z hz).1); omega) hz a ha).1) i hx'
              have hlt := isPr_lt hh hs (isPr_rch hh hs is0 hx')
              exact ⟨(r x' hb).2, fun a ha => (c1 x' (by omega) hb a ha).2⟩
            | true =>
              have := c2 rfl
              exact ih b y (by omega) f s r i
          | succ n ihn =>
            intro x b m y hx f s' r i c1 c2
            unfold bX9_isTrue_101
            refine br_f (by rw [k480]; exact nI_ge (by omega) (by omega)) ⟨6, ?_⟩
            have jx : vp_in (nI x) 480 := vp_in_nI (by omega) (by decide)
            have acts : ∀ j a b m y, a + j = 5 → fr pTr u y → meO b y → (∀ x, b x = true → rch (fP h s) x0 x ∧ s.2.2.2.1 (x / 80) = h.2.1 (unS (x % 80)).1) → b x0 = true → (m = false → b = b0 ∧ (∀ x', x' < x → b x' = true → ∀ a, a < 5 → b (fP h s x' a) = true ∧ (s.2.2.2.2 (5 * (x' / 80) + a) ≠ 0 → (s.2.2.2.2 (5 * (x' / 80) + a) = 1 ↔ xStep h (unS (x' % 80)) a = none))) ∧ (b x = true → ∀ a', a' < a → b (fP h s x a') = true ∧ (s.2.2.2.2 (5 * (x / 80) + a') ≠ 0 → (s.2.2.2.2 (5 * (x / 80) + a') = 1 ↔ xStep h (unS (x % 80)) a' = none)))) → (m = true → cnt b0 480 < cnt b 480) → bX9_isTrue_111 (j + 1) 42 (nI kk) (b2i m) (nI x) (nI a) y K (fun z0 z1 z2 z3 => bX9_isTrue_93 (N + 1) z0 z1 z2 z3 K) (fun z0 z1 z2 z3 z4 => bX9_isTrue_101 (n + 1) z0 z1 z2 z3 z4 K (fun z0 z1 z2 z3 => bX9_isTrue_93 (N + 1) z0 z1 z2 z3 K)) := by
              intro j
              induction j with
              | zero =>
                intro a b m y ha f s' r i c1 c2
                unfold bX9_isTrue_111
                refine br_t (by rw [k5]; exact nI_le (by omega) (by omega)) ?_
                unfold bX9_isTrue_280
                rintro _ rfl
                rw [nI_1]
                refine ihn (x + 1) b m y (by omega) f s' r i (fun hm => ⟨(c1 hm).1, fun x' hx' hb a' ha' => ?_⟩) c2
                by_cases z : x' = x
                · rw [z] at hb ⊢; exact (c1 hm).2.2 hb a' (by omega)
                · exact (c1 hm).2.1 x' (by omega) hb a' ha'
              | succ j ihj =>
                intro a b m y ha f s' r i c1 c2
                unfold bX9_isTrue_111
                refine br_f (by rw [k5]; exact nI_ge (by omega) (by omega)) ⟨68, g68 y f, jx, ?_⟩
                rw [nI_clamp (by omega), s' x (by omega), b2i_0]
                refine br_c (fun z => ?_) (fun z => ⟨53, (f.rR hr).get 42 23 53 (by decide), ?_⟩)
                · unfold bX9_isTrue_280
                  rintro _ rfl
                  rw [nI_1]
                  refine ihn (x + 1) b m y (by omega) f s' r i (fun hm => ⟨(c1 hm).1, fun x' hx' hb a' ha' => ?_⟩) c2
                  by_cases z' : x' = x
                  · rw [z', z] at hb; cases hb
                  · exact (c1 hm).2.1 x' (by omega) hb a' ha'
                · have z : b x = true := by simpa using z
                  obtain ⟨hrx, hsgx⟩ := r x z
                  obtain ⟨p, cc, hp, hcc, ex⟩ := isPr_rch hh hs is0 hrx
                  have hst := st_lt hh.1 hcc.1 hcc.2
                  obtain ⟨d1, d2, d3⟩ := pr_at (s := s) (p := p) hh hcc
                  rw [← ex] at d1 d2 d3
                  have okx : okP h s x ↔ okQ h s p cc := by rw [ex]; exact okP_at hh hcc
                  have fx : fP h s x a = fQ h s p cc a := by rw [ex]; exact fP_at hh hcc
                  have hx5 : 5 * p + a < 5 * s.1 := by omega
                  have hlt := (hs.2.2 (5 * p + a) hx5).1
                  obtain ⟨q1, q2, q3, q4, q5⟩ := one' y f
                  rw [i_div (by omega) k80 (by decide) (by decide), d1, k305, nI_clamp (by omega), q5 _ hx5]
                  refine ⟨vp_in_nI (by omega) (by decide), ?_⟩
                  rintro _ rfl
                  rw [d1, d2] at c1 hsgx
                  have stay : ∀ v, fr pTr u v → meO b v → fP h s x a = x → (s.2.2.2.2 (5 * p + a) ≠ 0 → (s.2.2.2.2 (5 * p + a) = 1 ↔ xStep h cc a = none)) → bX9_isTrue_274 42 (nI kk) (b2i m) (nI x) (nI a) v K (fun z0 z1 z2 z3 => bX9_isTrue_93 (N + 1) z0 z1 z2 z3 K) (fun z0 z1 z2 z3 z4 => bX9_isTrue_101 (n + 1) z0 z1 z2 z3 z4 K (fun z0 z1 z2 z3 => bX9_isTrue_93 (N + 1) z0 z1 z2 z3 K)) (fun z0 z1 z2 z3 z4 z5 => bX9_isTrue_111 (j + 1) z0 z1 z2 z3 z4 z5 K (fun z0 z1 z2 z3 => bX9_isTrue_93 (N + 1) z0 z1 z2 z3 K) (fun z0 z1 z2 z3 z4 => bX9_isTrue_101 (n + 1) z0 z1 z2 z3 z4 K (fun z0 z1 z2 z3 => bX9_isTrue_93 (N + 1) z0 z1 z2 z3 K))) := by
                    intro v fv sv efx hok
                    unfold bX9_isTrue_274
                    rintro _ rfl
                    rw [nI_1]
                    refine ihj (a + 1) b m v (by omega) fv sv r i (fun hm => ⟨(c1 hm).1, (c1 hm).2.1, fun hb a' ha' => ?_⟩) c2
                    by_cases za : a' = a
                    · rw [za, efx, d1, d2]; exact ⟨z, hok⟩
                    · rw [d1, d2]; exact (c1 hm).2.2 hb a' (by omega)
                  rw [lI_m3 (by omega)]
                  refine br_c (fun z0 => ?_) (fun z0 => ?_)
                  · refine stay y f s' ?_ (fun h => absurd z0 h)
                    rw [fx]; unfold fQ; rw [z0]; exact ex.symm
                  · rw [show nI x - nI p * 80 = nI (stI cc) by
                      rw [← d3, ← d1, ← i_div (by omega) k80 (by decide) (by decide)]; exact i_rem (by omega) k80 (by decide) (by decide)]
                    refine m_standAt (by omega) (fun v1 g1 hs1 => ?_)
                    have f1 := f.tr (g1.up (fun p i e => pS_Tr e))
                    rw [unS_st hcc.2] at hs1
                    refine m_step (f1.rR hr) hh (hrf _ f1) hcc hs1 (by omega) (fun v2 g2 hs2 e37 => ?_)
                    have f2 := f1.tr (g2.up (fun p i e => pS_Tr e))
                    have s2 : meO b v2 := fun x' hx' => by rw [g2.at rfl, g1.at rfl]; exact s' x' hx'
                    have tail : ∀ (p' : Nat) (c' : Nat × Nat × Bool), (xStep h cc a).getD cc = c' → p' < s.1 → oSd h c' → fP h s x a = 80 * p' + stI c' → (s.2.2.2.2 (5 * p + a) ≠ 0 → (s.2.2.2.2 (5 * p + a) = 1 ↔ xStep h cc a = none)) → ∀ w1 : Int32, w1 = b2i (xStep h cc a).isNone → bX9_isTrue_205 42 (nI kk) (b2i m) (nI x) (nI a) (nI p') (mI v2 42 37) w1 v2 K (fun z0 z1 z2 z3 => bX9_isTrue_93 (N + 1) z0 z1 z2 z3 K) (fun z0 z1 z2 z3 z4 => bX9_isTrue_101 (n + 1) z0 z1 z2 z3 z4 K (fun z0 z1 z2 z3 => bX9_isTrue_93 (N + 1) z0 z1 z2 z3 K)) (fun z0 z1 z2 z3 z4 z5 => bX9_isTrue_111 (j + 1) z0 z1 z2 z3 z4 z5 K (fun z0 z1 z2 z3 => bX9_isTrue_93 (N + 1) z0 z1 z2 z3 K) (fun z0 z1 z2 z3 z4 => bX9_isTrue_101 (n + 1) z0 z1 z2 z3 z4 K (fun z0 z1 z2 z3 => bX9_isTrue_93 (N + 1) z0 z1 z2 z3 K))) := by
                      rintro p' c' ec hp' hc' efx hok _ rfl
                      rw [ec] at hs2
                      have hst' := st_lt hh.1 hc'.1 hc'.2
                      have hc1 := hc'.1
                      have hlt' : fP h s x a < 480 := by rw [efx]; omega
                      obtain ⟨t1, t2, t3, t4, t5⟩ := one' v2 f2
                      obtain ⟨D1, D2, D3⟩ := pr_at (s := s) (p := p') hh hc'
                      unfold bX9_isTrue_205
                      rw [e37]
                      refine br_t rfl ⟨43, (f2.rR hr).get 42 2 43 (by decide), ?_⟩
                      rw [hs2.1, nI_clamp (by omega), ((hrf _ f2).2.1 c'.1 hc'.1).1, k6n, nI_clamp (by omega)]
                      refine ⟨vp_in_nI (by omega) (by decide), 52, (f2.rR hr).get 42 22 52 (by decide), vp_in_nI (by omega) (by decide), ?_⟩
                      rw [t4 p' hp']
                      have hsg1 := hs.2.1 p' hp'
                      have hsg2 := hh.2.1 c'.1 hc'.1
                      refine pk_eq (h.2.1 c'.1) (s.2.2.2.1 p') (fun zs => ?_) (fun zs => ?_) rfl rfl
                      · refine m_standing hs2 ?_
                        rw [k80, pk_mul, nI_add, ← efx]
                        rintro _ rfl
                        have put : ∀ (m' : Bool) (w0 : Int32), w0 = b2i m' → (m' = (m || !(b (fP h s x a)))) → bX9_isTrue_265 42 (nI kk) (nI x) (nI a) (nI (fP h s x a)) w0 v2 K (fun z0 z1 z2 z3 => bX9_isTrue_93 (N + 1) z0 z1 z2 z3 K) (fun z0 z1 z2 z3 z4 => bX9_isTrue_101 (n + 1) z0 z1 z2 z3 z4 K (fun z0 z1 z2 z3 => bX9_isTrue_93 (N + 1) z0 z1 z2 z3 K)) (fun z0 z1 z2 z3 z4 z5 => bX9_isTrue_111 (j + 1) z0 z1 z2 z3 z4 z5 K (fun z0 z1 z2 z3 => bX9_isTrue_93 (N + 1) z0 z1 z2 z3 K) (fun z0 z1 z2 z3 z4 => bX9_isTrue_101 (n + 1) z0 z1 z2 z3 z4 K (fun z0 z1 z2 z3 => bX9_isTrue_93 (N + 1) z0 z1 z2 z3 K))) := by
                          rintro m' _ rfl hm'
                          unfold bX9_isTrue_265
                          refine ⟨68, g68 _ f2, vp_in_nI hlt' (by decide), ?_⟩
                          rw [nI_clamp (by omega), e1]
                          rintro _ rfl
                          unfold bX9_isTrue_274
                          rintro _ rfl
                          rw [nI_1]
                          cases hb' : b (fP h s x a) with
                          | true =>
                            have em : m' = m := by rw [hm', hb']; simp
                            rw [em]
                            refine ihj (a + 1) b m _ (by omega) (f2.wp (q := 68) (j := fP h s x a) 1 rfl) (fun x' hx' => ?_) r i (fun hm => ⟨(c1 hm).1, (c1 hm).2.1, fun hb a' ha' => ?_⟩) c2
                            · by_cases zx : x' = fP h s x a
                              · rw [zx, up_eq, hb']; rfl
                              · rw [up_ne _ _ (by omega)]; exact s2 x' hx'
                            · rw [d1, d2]
                              by_cases za : a' = a
                              · rw [za]; exact ⟨hb', hok⟩
                              · exact (c1 hm).2.2 hb a' (by omega)
                          | false =>
                            have em : m' = true := by rw [hm', hb']; simp
                            rw [em]
                            have hcnt : cnt (fun z => decide (z = fP h s x a) || b z) 480 = cnt b 480 + 1 := cnt_put 480 hlt' hb' (by simp) (fun y' hy' => by simp [hy'])
                            refine ihj (a + 1) (fun z => decide (z = fP h s x a) || b z) true _ (by omega) (f2.wp (q := 68) (j := fP h s x a) 1 rfl) (fun x' hx' => ?_) (fun x' hbx => ?_) (by simp [i]) (fun hm => by cases hm) (fun _ => ?_)
                            · by_cases zx : x' = fP h s x a
                              · rw [zx, up_eq]; simp [b2i]
                              · rw [up_ne _ _ (by omega), s2 x' hx']; simp [zx]
                            · by_cases zx : x' = fP h s x a
                              · rw [zx]
                                refine ⟨rch_nx hrx (by omega), ?_⟩
                                rw [efx, D1, D2]; exact zs.symm
                              · simp [zx] at hbx; exact r x' hbx
                            · rw [hcnt]
                              cases m with
                              | false => rw [(c1 rfl).1]; omega
                              | true => have := c2 rfl; omega
                        rw [b2i_0]
                        refine br_c (fun zm => ⟨68, g68 _ f2, vp_in_nI hlt' (by decide), ?_⟩) (fun zm => ?_)
                        · rw [nI_clamp (by omega), s2 _ hlt', b2i_0]
                          refine br_c (fun zb => ?_) (fun zb => ?_)
                          · unfold bX9_isTrue_260
                            exact put true 1 rfl (by simp [zb])
                          · exact put false 0 rfl (by
                              have zb : b (fP h s x a) = true := by simpa using zb
                              simp [zb, zm])
                        · unfold bX9_isTrue_260
                          have zm : m = true := by simpa using zm
                          exact put true 1 rfl (by simp [zm])
                      · refine no v2 (fP h s x a) f2 (rch_nx hrx (by omega)) (fun hok' => zs ?_)
                        have := hok'.1
                        rw [efx, D1, D2] at this
                        exact this.symm
                    have mism : ∀ (w0 : Int32) (v6 : Int32), (mI v2 42 37 = w0 → False) → ¬ okQ h s p cc → bX9_isTrue_205 42 (nI kk) (b2i m) (nI x) (nI a) v6 (mI v2 42 37) w0 v2 K (fun z0 z1 z2 z3 => bX9_isTrue_93 (N + 1) z0 z1 z2 z3 K) (fun z0 z1 z2 z3 z4 => bX9_isTrue_101 (n + 1) z0 z1 z2 z3 z4 K (fun z0 z1 z2 z3 => bX9_isTrue_93 (N + 1) z0 z1 z2 z3 K)) (fun z0 z1 z2 z3 z4 z5 => bX9_isTrue_111 (j + 1) z0 z1 z2 z3 z4 z5 K (fun z0 z1 z2 z3 => bX9_isTrue_93 (N + 1) z0 z1 z2 z3 K) (fun z0 z1 z2 z3 z4 => bX9_isTrue_101 (n + 1) z0 z1 z2 z3 z4 K (fun z0 z1 z2 z3 => bX9_isTrue_93 (N + 1) z0 z1 z2 z3 K))) := by
                      intro w0 v6 hne hno
                      unfold bX9_isTrue_205
                      exact br_f hne (no v2 x f2 hrx (fun hok => hno (okx.mp hok)))
                    have hbl : okQ h s p cc → (s.2.2.2.2 (5 * p + a) = 1 ↔ xStep h cc a = none) := fun hok => hok.2 a (by omega) z0
                    unfold fQ at fx
                    rw [show lI (s.2.2.2.2 (5 * p + a)) = -2 ↔ s.2.2.2.2 (5 * p + a) = 1 by
                      generalize s.2.2.2.2 (5 * p + a) = l at *
                      match l, hlt, z0 with
                      | 1, _, _ => simp [lI]
                      | q + 2, hlt, _ => exact ⟨fun e => absurd e (nI_m2 (by omega)), fun e => by omega⟩]
                    refine br_c (fun zl => ?_) (fun zl => ?_)
                    · unfold bX9_isTrue_187
                      rw [zl]
                      refine br_t rfl ?_
                      rw [zl] at fx tail hbl
                      dsimp only at fx
                      cases e : xStep h cc a with
                      | none =>
                        rw [e] at tail
                        exact tail p cc rfl hp hcc fx (fun _ => ⟨fun _ => rfl, fun _ => rfl⟩) 1 rfl
                      | some c' =>
                        refine mism 1 _ (fun q => ?_) (fun hok => ?_)
                        · rw [e37, e] at q; simp [b2i] at q
                        · have := (hbl hok).mp rfl
                          rw [e] at this; cases this
                    · obtain ⟨q, eq⟩ : ∃ q, s.2.2.2.2 (5 * p + a) = q + 2 := ⟨s.2.2.2.2 (5 * p + a) - 2, by omega⟩
                      unfold bX9_isTrue_187
                      rw [eq]
                      rw [eq] at fx tail hbl hlt
                      refine br_f (nI_m2 (by omega)) ?_
                      dsimp only at fx
                      cases e : xStep h cc a with
                      | none =>
                        refine mism 0 _ (fun q => ?_) (fun hok => ?_)
                        · rw [e37, e] at q; simp [b2i] at q
                        · have := (hbl hok).mpr e
                          omega
                      | some c' =>
                        rw [e] at tail fx
                        exact tail q c' rfl (by omega) (xStep_ok hh hcc e) fx (fun _ => ⟨fun q => by omega, fun q => by cases q⟩) 0 rfl
            have := acts 5 0 b m y (by omega) f s' r i (fun hm => ⟨(c1 hm).1, (c1 hm).2, fun _ a' ha' => by omega⟩) c2
            rw [nI_0] at this
            exact this
        have := xs 480 0 b0 false y0 (by omega) f0 s0 r0 i0 (fun _ => ⟨rfl, fun x' hx' => by omega⟩) (fun hm => by cases hm)
        rw [nI_0] at this
        exact this
    subst e
    have init : ∀ n x y, x + n = 480 → fr pTr u y → (∀ i, i ≠ 0 → mI y 42 i = mI u 42 i) → (∀ x', x' < x → mI y 68 x' = 0) → bX9_isTrue_17 (n + 1) 42 (nI kk) (nI x) y K := by
      intro n
      induction n with
      | zero =>
        intro x y hx f h42 h68
        unfold bX9_isTrue_17
        refine br_t (by rw [k480]; exact nI_le (by omega) (by omega)) (m_stand (h := h) (w := w) (by rw [h42 7 (by omega), w7]) (by rw [h42 8 (by omega), w8]) (by rw [h42 9 (by omega), w9]) (fun v g hsv => ?_))
        have f1 := f.tr (g.up (fun p i e => pS_Tr e))
        obtain ⟨q1, q2, q3, q4, q5⟩ := one' v f1
        refine ⟨43, (f1.rR hr).get 42 2 43 (by decide), ?_⟩
        rw [hsv.1, nI_clamp (by omega), nI_clamp (by omega), ((hrf _ f1).2.1 w.2.1.1 o2).1]
        refine ⟨vp_in_nI (by omega) (by decide), 52, (f1.rR hr).get 42 22 52 (by decide), 54, (f1.rR hr).get 42 24 54 (by decide), vp_in_nI (by omega) (by decide), ?_⟩
        rw [q2, k6n, nI_clamp (by omega), q4 _ hw0]
        refine ⟨vp_in_nI (by omega) (by decide), ?_⟩
        have hsg1 := hs.2.1 _ hw0
        have hsg2 := hh.2.1 _ o2
        refine pk_eq (h.2.1 w.2.1.1) (s.2.2.2.1 s.2.1) (fun zs => ⟨68, g68 _ f1, 54, (f1.rR hr).get 42 24 54 (by decide), vp_in_nI (by omega) (by decide), m_standing hsv ?_⟩) (fun zs => no v x0 f1 (rch_rf _ _) (fun hok => zs (ok0.mp hok).1.symm)) rfl rfl
        rw [q2, k80, pk_mul, nI_add, hx0, nI_clamp (by omega), e1]
        refine ⟨vp_in_nI hlt0 (by decide), ?_⟩
        rintro _ rfl
        refine ⟨482, ?_⟩
        refine rounds 481 (fun z => decide (z = x0)) _ (by omega) (f1.wp (q := 68) (j := x0) 1 rfl) (fun x' hx' => ?_) (fun x' hx' => ?_) (by simp)
        · by_cases zx : x' = x0
          · rw [zx, up_eq]; simp [b2i]
          · rw [up_ne _ _ (by omega), g.at rfl, h68 x' (by omega)]; simp [zx, b2i]
        · have : x' = x0 := by simpa using hx'
          rw [this]
          obtain ⟨D1, D2, D3⟩ := pr_at (s := s) (p := s.2.1) (c := w.2.1) hh ⟨o2, o3⟩
          rw [hx0] at D1 D2 D3
          exact ⟨rch_rf _ _, by rw [D1, D2]; exact zs.symm⟩
      | succ n ih =>
        intro x y hx f h42 h68
        unfold bX9_isTrue_17
        refine br_f (by rw [k480]; exact nI_ge (by omega) (by omega)) ⟨68, g68 _ f, vp_in_nI (by omega) (by decide), ?_⟩
        rw [nI_clamp (by omega), e0]
        rintro _ rfl _ rfl
        rw [nI_1]
        refine ih (x + 1) _ (by omega) (f.wp _ rfl) (fun i hi => by rw [up_ne _ _ (by omega)]; exact h42 i hi) (fun x' hx' => ?_)
        by_cases z : x' = x
        · rw [z, up_eq]
        · rw [up_ne _ _ (by omega)]; exact h68 x' (by omega)
    have := init 480 0 _ (by omega) f0 (fun i hi => by rw [up_ne _ _ (by omega)]) (fun x' hx' => by omega)
    rw [nI_0] at this
    exact ⟨_, this⟩
  · rw [dec_none (n := t.2.2.length) (by omega) e] at k
    exact k _ _ rfl f0
