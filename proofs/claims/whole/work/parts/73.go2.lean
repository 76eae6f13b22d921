/-! GO: the reference -/
theorem m_dist {s : aSh} {k p goal : Nat} {u : mSt} {K : Int32 → mSt → Prop} (hr : rRf u) (hs : oSh 6 s) (hk : k < 150) (ho : rOne s k u) (hp : p < s.1) (hg : goal < s.1) (kk : ∀ v, fr p63 u v → K (lv (nxt s) p goal 6) v) : bX9_distance 42 (nI k) (nI p) (nI goal) u K := by
  have h6 := hs.1.2.1
  unfold bX9_distance
  refine m_measure hr hs hk ho hp (fun v f hv => ⟨63, (f.rR hr).get 42 38 63 (by decide), vp_in_nI (by omega) (by decide), ?_⟩)
  rw [nI_clamp (by omega), hv goal (by omega)]
  exact kk v f
def pGr : Nat → Nat → Bool := fun p i => p == 63 || p == 65 || (p == 42 && (i == 0 || i == 40))
theorem pGr_no : ∀ p i : Nat, 51 ≤ p → p ≤ 55 → pGr p i = false := fun p i h1 h2 => by simp [pGr]; omega
theorem nI_down {a : Nat} : nI (a + 1) + -1 = nI a := by rw [← nI_1, Int32.add_assoc, show (1 : Int32) + -1 = 0 by decide, Int32.add_zero]
theorem M_go {h : aHo} {w : aWk} {t : aAt} {r : List Nat} {u : mSt} {a1 a2 : Int32} {K : Int32 → mSt → Prop} (hr : rRf u) (ho : oAt w t) (hrw : rWk h w u) (hrt : rAt t u) (hrr : rRt r u) (k : ∀ v, fr pGr u v → rRt (xGo t r a1 a2).2 v → K (xGo t r a1 a2).1 v) : bX9_go 42 a1 a2 u K := by
  have f0 : fr pGr u (mpI u 42 0 0) := fr.pI _ u _ rfl
  have same : ∀ v, fr pGr u v → mI v 42 40 = mI u 42 40 → mI v 65 = mI u 65 → rRt r v := fun v f e1 e2 => by
    unfold rRt
    rw [e1, e2]; exact hrr
  unfold bX9_go
  rintro _ rfl
  unfold xGo at k
  refine s_isPlaceM (f0.rR hr) ho (by rw [th_at u (by decide)]; exact hrw.1) (by rw [th_at u (by decide)]; exact hrt.2.1) (fun k s hk => rOne_th 0 (hrt.2.2.2 k s hk)) (fun i s p hk hi hp e1 e2 => br_f (by decide) ?_) (fun h0 => br_t rfl ?_)
  · rw [fPl_some ho hk hp e1 e2] at k
    dsimp only at k
    have hs := (ho.2.2.2.2 s (List.mem_of_getElem? hk)).1
    have h6 := hs.1.2.1
    have hw0 := hs.1.2.2.1
    have hone : rOne s i (mpI u 42 0 0) := rOne_th 0 (hrt.2.2.2 i s hk)
    have one' : ∀ y, fr pGr u y → rOne s i y := fun y f => (hrt.2.2.2 i s hk).fr f pGr_no
    refine ⟨54, (f0.rR hr).get 42 24 54 (by decide), ?_⟩
    rw [e1, e2, nI_clamp (by omega), hone.2.1]
    refine ⟨vp_in_nI hi (by decide), m_dist (f0.rR hr) hs hi hone hw0 hp (fun v f => ?_)⟩
    have fv : fr pGr u v := f0.tr (f.up (fun p i e => by simp [p63, pGr] at e ⊢; omega))
    by_cases zw : wnB (nxt s) 6 s.2.1 p = true
    · rw [if_pos zw] at k
      dsimp only at k
      have h5 := lst_5 hs hw0 zw
      have ea : lv (nxt s) s.2.1 p 6 = nI (lst (nxt s) s.2.1 p 6) := by unfold lv; rw [if_pos zw]
      rw [ea]
      have hD := isD_lst zw
      generalize hN : lst (nxt s) s.2.1 p 6 = N at *
      refine br_t (by rw [k0]; exact nI_le (by omega) (by omega)) ⟨54, (fv.rR hr).get 42 24 54 (by decide), vp_in_nI hi (by decide), ?_⟩
      rw [(one' v fv).2.1]
      rintro _ rfl
      have loop : ∀ m j pl y pre, j + m = N → pre.length = j → pre ++ xWy (nxt s) p m pl = xWy (nxt s) p N s.2.1 → pl < s.1 → isD (nxt s) p pl m → fr pGr u y → (∀ x a, pre[x]? = some a → mI y 65 x = nI a) → bX9_go_47 (m + 1) 42 (nI i) (nI p) (nI N) (nI pl) (nI j) y K := by
        intro m
        induction m with
        | zero =>
          intro j pl y pre hjm hpre heq hpl hd fy h65
          unfold bX9_go_47
          refine br_t (nI_le (by omega) (by omega)) ?_
          rintro _ rfl
          have : pre = xWy (nxt s) p N s.2.1 := by rw [← heq]; simp [xWy]
          rw [this] at h65
          refine k _ (fy.wp _ rfl) ⟨by rw [up_eq, xWy_len], fun x a hx => ?_⟩
          rw [up_ne _ _ (by omega)]; exact h65 x a hx
        | succ m ih =>
          intro j pl y pre hjm hpre heq hpl hd fy h65
          have hna := fs_lt (fun a => wnB (nxt s) m (nxt s pl a) p) 5 0 (by omega)
          have hdn := isD_nx hd
          have hnz : nxt s pl (nrA (nxt s) p m pl) ≠ pl := fun e => by
            have h1 := hdn.1
            rw [e, hd.2 m (by omega)] at h1
            cases h1
          unfold bX9_go_47
          refine br_f (nI_ge (by omega) (by omega)) ?_
          rw [show nI N - nI j - 1 = nI m by rw [pk_sub (by omega), k1, pk_sub (by omega)]; congr 1; omega]
          rintro _ rfl
          have down : ∀ n a y, a = n → a ≤ 5 → fr pGr u y → (∀ x a, pre[x]? = some a → mI y 65 x = nI a) → ((∃ b, a ≤ b ∧ b < 5 ∧ wnB (nxt s) m (nxt s pl b) p = true) → mI y 65 j = nI (fs (fun a => wnB (nxt s) m (nxt s pl a) p) (5 - a) a)) → bX9_go_64 (n + 1) 42 (nI i) (nI p) (nI N) (nI pl) (nI j) (nI m) (nI a + -1) y K (fun z0 z1 z2 z3 z4 z5 z6 => bX9_go_47 (m + 1) z0 z1 z2 z3 z4 z5 z6 K) := by
            intro n
            induction n with
            | zero =>
              intro a y ha ha5 fy h65 hb
              subst ha
              have e65 := hb ⟨nrA (nxt s) p m pl, by omega, hna, hdn.1⟩
              have e65 : mI y 65 j = nI (nrA (nxt s) p m pl) := e65
              obtain ⟨q1, q2, q3, q4, q5⟩ := one' y fy
              have hx : 5 * pl + nrA (nxt s) p m pl < 5 * s.1 := by unfold nrA; omega
              unfold bX9_go_64
              refine br_t (by decide) ⟨53, (fy.rR hr).get 42 23 53 (by decide), 65, (fy.rR hr).get 42 41 65 (by decide), vp_in_nI (by omega) (by decide), ?_⟩
              rw [nI_clamp (by omega), e65, k305, nI_clamp (by omega), q5 _ hx]
              refine ⟨vp_in_nI (by omega) (by decide), ?_⟩
              rintro _ rfl _ rfl
              rw [nI_1]
              have hlead : lI (s.2.2.2.2 (5 * pl + nrA (nxt s) p m pl)) = nI (nxt s pl (nrA (nxt s) p m pl)) := by
                generalize hna' : nrA (nxt s) p m pl = A at *
                unfold nxt at hnz ⊢
                generalize s.2.2.2.2 (5 * pl + A) = l at *
                match l, hnz with
                | 0, hnz => exact absurd rfl hnz
                | 1, hnz => exact absurd rfl hnz
                | l + 2, hnz => rfl
              rw [hlead]
              refine ih (j + 1) _ y (pre ++ [nrA (nxt s) p m pl]) (by omega) (by simp [hpre]) (by rw [← heq]; simp [xWy]) (nxt_lt hs hpl hna) hdn fy (fun x a hx => ?_)
              by_cases zj : x = j
              · subst zj
                rw [List.getElem?_append_right (by omega), hpre, Nat.sub_self] at hx
                cases hx
                exact e65
              · have hjl : x < pre.length := by
                  have := (List.getElem?_eq_some_iff.mp hx).1
                  rw [List.length_append] at this
                  simp at this; omega
                rw [List.getElem?_append_left hjl] at hx
                exact h65 x a hx
            | succ n ihn =>
              intro a y ha ha5 fy h65 hb
              subst ha
              obtain ⟨q1, q2, q3, q4, q5⟩ := one' y fy
              have hx : 5 * pl + n < 5 * s.1 := by omega
              have hlx := (hs.2.2 _ hx).1
              rw [nI_down]
              unfold bX9_go_64
              refine br_f (nI_pos (by omega)) ⟨53, (fy.rR hr).get 42 23 53 (by decide), ?_⟩
              rw [k305, nI_clamp (by omega), q5 _ hx]
              refine ⟨vp_in_nI (by omega) (by decide), ?_⟩
              rintro _ rfl
              have hneg : lI (s.2.2.2.2 (5 * pl + n)) < 0 ↔ s.2.2.2.2 (5 * pl + n) < 2 := by
                rw [← Int32.not_le, lI_neg (by omega)]; omega
              have skip : ∀ y', fr pGr u y' → mI y' 65 = mI y 65 → wnB (nxt s) m (nxt s pl n) p = false → bX9_go_115 42 (nI i) (nI p) (nI N) (nI pl) (nI j) (nI m) (nI n) y' K (fun z0 z1 z2 z3 z4 z5 z6 => bX9_go_47 (m + 1) z0 z1 z2 z3 z4 z5 z6 K) (fun z0 z1 z2 z3 z4 z5 z6 z7 z8 => bX9_go_64 (n + 1) z0 z1 z2 z3 z4 z5 z6 z7 z8 K (fun z0 z1 z2 z3 z4 z5 z6 => bX9_go_47 (m + 1) z0 z1 z2 z3 z4 z5 z6 K)) := by
                intro y' fy' e65 hf
                unfold bX9_go_115
                rintro _ rfl
                refine ihn n y' rfl (by omega) fy' (fun x a hx => by rw [e65]; exact h65 x a hx) (fun ⟨b, b1, b2, b3⟩ => ?_)
                have hbn : b ≠ n := fun e => by rw [e, hf] at b3; cases b3
                rw [e65, hb ⟨b, by omega, b2, b3⟩, show 5 - n = (5 - (n + 1)) + 1 by omega]
                congr 1
                conv => rhs; rw [fs]
                rw [if_neg (by simp [hf])]
              rw [hneg]
              refine br_c (fun zl => ?_) (fun zl => ?_)
              · refine skip y fy rfl ?_
                have : nxt s pl n = pl := by
                  unfold nxt
                  generalize s.2.2.2.2 (5 * pl + n) = l at *
                  match l, zl with
                  | 0, zl => rfl
                  | 1, zl => rfl
                rw [this]
                exact hd.2 m (by omega)
              · have hlead : lI (s.2.2.2.2 (5 * pl + n)) = nI (nxt s pl n) := by
                  unfold nxt
                  generalize s.2.2.2.2 (5 * pl + n) = l at *
                  match l, zl with
                  | 0, zl => exact absurd (by omega) zl
                  | 1, zl => exact absurd (by omega) zl
                  | l + 2, zl => rfl
                rw [hlead]
                have hnl := nxt_lt hs hpl (show n < 5 by omega)
                refine m_dist (fy.rR hr) hs hi (one' y fy) hnl hp (fun v fv' => ?_)
                have fyv : fr pGr u v := fy.tr (fv'.up (fun p i e => by simp [p63, pGr] at e ⊢; omega))
                have e65v : mI v 65 = mI y 65 := fv'.row (fun _ => rfl)
                have hiff : lv (nxt s) (nxt s pl n) p 6 = nI m ↔ wnB (nxt s) m (nxt s pl n) p = true := by
                  unfold lv
                  constructor
                  · intro e
                    split at e
                    · rename_i h6'
                      obtain ⟨l1, l2, l3⟩ := lst_ok h6'
                      have := (nI_eq (by omega) (by omega)).mp e
                      rw [this] at l2; exact l2
                    · exact absurd e.symm (nI_m1 (by omega))
                  · intro hw
                    have hDn : isD (nxt s) p (nxt s pl n) m := ⟨hw, fun e he => by
                      cases hh : wnB (nxt s) e (nxt s pl n) p
                      · rfl
                      · have := hd.2 (e + 1) (by omega)
                        rw [wn_s.mpr (Or.inr ⟨n, by omega, hh⟩)] at this
                        cases this⟩
                    obtain ⟨u1, u2⟩ := isD_un hDn (by omega)
                    rw [if_pos u1, u2]
                rw [hiff]
                refine br_c (fun z => ⟨65, (fyv.rR hr).get 42 41 65 (by decide), vp_in_nI (by omega) (by decide), ?_⟩) (fun z => skip v fyv e65v (by simpa using z))
                rw [nI_clamp (by omega)]
                rintro _ rfl
                unfold bX9_go_115
                rintro _ rfl
                refine ihn n _ rfl (by omega) (fyv.wp _ rfl) (fun x a hx => ?_) (fun _ => ?_)
                · have := (List.getElem?_eq_some_iff.mp hx).1
                  rw [up_ne _ _ (by omega), e65v]; exact h65 x a hx
                · rw [up_eq, show 5 - n = (4 - n) + 1 by omega]
                  rw [fs]
                  rw [if_pos z]
          refine ⟨6, ?_⟩
          have := down 5 5 y rfl (by omega) fy h65 (fun ⟨b, b1, b2, b3⟩ => by omega)
          rw [show nI 5 + -1 = 4 by decide] at this
          exact this
      have := loop N 0 s.2.1 v [] (by omega) rfl (by simp) hw0 hD fv (fun x a hx => by simp at hx)
      rw [nI_0] at this
      exact ⟨_, this⟩
    · rw [if_neg zw] at k
      have ea : lv (nxt s) s.2.1 p 6 = -1 := by unfold lv; rw [if_neg zw]
      rw [ea]
      refine br_f (by decide) (k v fv (same v fv ?_ ?_))
      · rw [f.at rfl, th_at u (by decide)]
      · rw [f.row (p := 65) (fun _ => rfl), th_ne u (by decide)]
  · rw [fPl_none ho h0] at k
    exact k _ f0 (same _ f0 (by rw [th_at u (by decide)]) (by rw [th_ne u (by decide)]))
