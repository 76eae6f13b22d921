def fillM (u y0 : mSt) (d i : Nat) (f : Nat → Int64) (y : mSt) : Prop := fM u y ∧ mI y = mI y0 ∧ (∀ j, (j < 60 * d ∨ 60 * d + 60 ≤ j) → mL y 74 j = mL u 74 j) ∧ ∀ x, x < i → mL y 74 (60 * d + x) = f x
theorem fillM_step {u y0 : mSt} {d i : Nat} {f : Nat → Int64} {y : mSt} {a : Int64} (h : fillM u y0 d i f y) (hi : i < 60) (ha : a = f i) : fillM u y0 d (i + 1) f (mpL y 74 (60 * d + i) a) := by
  obtain ⟨h1, h2, h3, h4⟩ := h
  refine ⟨h1.tr (fM.pL y (by decide)), h2, fun j hj => ?_, fun x hx => ?_⟩
  · simp only [s9, mup_at]
    rw [if_neg (by omega)]; exact h3 j hj
  · simp only [s9, mup_at]
    by_cases q : x = i
    · rw [if_pos ⟨trivial, by rw [q]⟩, ha, q]
    · rw [if_neg (by omega)]; exact h4 x (by omega)
theorem M_keep {h : aHo} {w : aWk} {t : aAt} {v : aSv} {u : mSt} {a1 a2 a3 : Int32} {K : Int32 → mSt → Prop} (hr : rRf u) (hh : oHo h) (hw : oWk h w) (hot : oAt w t) (hch : rHo h u) (hcw : rWk h w u) (hct : rAt t u) (ho : oSv v) (hc : rSv v u)
    (k : ∀ y, rSv (xKeep h w t v a1 a2 a3).2 y → fM u y → (∀ p, p ≠ 42 → p ≠ 70 → p ≠ 71 → p ≠ 72 → p ≠ 73 → mI y p = mI u p) → (∀ i, i ≠ 0 → mI y 42 i = mI u 42 i) → K (xKeep h w t v a1 a2 a3).1 y) : bX9_keep 42 a1 a2 a3 u K := by
  have f0 : fM u (mpI u 42 0 0) := fM.pI u (by decide)
  have hr' : rRf (mpI u 42 0 0) := hr.of rfl
  have h10 := hh.1
  have hl := hot.2.2.2.1
  have hlw := hw.2.2.1
  have hc' : rSv v (mpI u 42 0 0) := by
    intro d hd
    rw [th_ne u (by decide), th_ne u (by decide), th_ne u (by decide), th_ne u (by decide)]
    exact hc d hd
  have kr : xKeep h w t v a1 a2 a3 = (-1, v) → K (-1) (mpI u 42 0 0) := by
    intro e
    rw [e] at k
    exact k _ hc' f0 (fun p p1 _ _ _ _ => th_ne u p1 0) (fun i hi => th_at u hi 0)
  unfold bX9_keep
  rintro _ rfl
  refine s_isShelfN (fun d hd e1 => br_f (by decide) ?_) (fun e => br_t rfl (kr (xKx (Or.inl (dec_none (n := 8) (by decide) e)))))
  have ed := dec_some (n := 8) (by decide) hd e1
  have ind : vp_in a1 8 := by rw [e1]; exact vp_in_nI hd (by decide)
  have hcl : a1.toNatClampNeg = d := by rw [e1]; exact nI_clamp (by omega)
  have hixd : ∀ x, 60 * a1 + nI x = nI (60 * d + x) := fun x => by rw [e1, show (60 : Int32) = nI 60 by decide, pk_mul, nI_add]
  rw [hcl]
  -- the loop that fills the row, from a state y0 in which the size is z
  have loop : ∀ (y0 : mSt) (z : Nat) (f : Nat → Int64), z ≤ 60 → mI y0 71 d = nI z →
      (∀ i, i < z → ∀ y, fillM u y0 d i f y → (a2 = 3 → ∃ j, j < 200 ∧ mI y 42 12 - nI z + nI i = nI j ∧ (mI y 47 j).toInt64 = f i) ∧ (¬ a2 = 3 → ∃ j, j < 900 ∧ 6 * a3 + nI i = nI j ∧ (mI y 52 j).toInt64 = f i)) →
      (∀ y, fillM u y0 d z f y → K 0 y) → ∀ y, fillM u y0 d 0 f y → bX9_keep_119 42 a1 a2 a3 y K := by
    intro y0 z f hz hs hval hend y hy
    have lp : ∀ m i y, i + m = z → fillM u y0 d i f y → bX9_keep_122 (m + 1) 42 a1 a2 a3 (nI i) y K := by
      intro m
      induction m with
      | zero =>
        intro i y hm hy
        unfold bX9_keep_122
        refine ⟨71, by rw [hy.1.2.1]; exact hr.get 42 47 71 (by decide), ind, ?_⟩
        rw [hcl, hy.2.1, hs]
        refine br_t (nI_le (by omega) (by omega)) ?_
        rw [show i = z by omega] at hy
        exact hend y hy
      | succ m ih =>
        intro i y hm hy
        unfold bX9_keep_122
        refine ⟨71, by rw [hy.1.2.1]; exact hr.get 42 47 71 (by decide), ind, ?_⟩
        rw [hcl]
        have hs' : mI y 71 d = nI z := by rw [hy.2.1]; exact hs
        rw [hs']
        have hv := hval i (by omega) y hy
        have ih2 := fun a ha => ih (i + 1) _ (by omega) (fillM_step (a := a) hy (by omega) ha)
        refine br_f (nI_ge (by omega) (by omega)) ⟨74, by rw [hy.1.2.1]; exact hr.get 42 50 74 (by decide), ?_⟩
        unfold bX9_keep_185
        rw [hixd, nI_clamp (by omega)]
        refine br_c (fun c => ?_) (fun c => ?_)
        · obtain ⟨j, j1, j2, j3⟩ := hv.1 c
          refine ⟨47, by rw [hy.1.2.1]; exact hr.get 42 13 47 (by decide), 71, by rw [hy.1.2.1]; exact hr.get 42 47 71 (by decide), ind, ?_⟩
          rw [hs', j2, nI_clamp (by omega)]
          refine ⟨vp_in_nI j1 (by decide), vp_in_nI (by omega) (by decide), ?_⟩
          rintro _ rfl _ rfl
          rw [nI_1]
          exact ih2 _ j3
        · obtain ⟨j, j1, j2, j3⟩ := hv.2 c
          refine ⟨52, by rw [hy.1.2.1]; exact hr.get 42 22 52 (by decide), ?_⟩
          rw [j2, nI_clamp (by omega)]
          refine ⟨vp_in_nI j1 (by decide), vp_in_nI (by omega) (by decide), ?_⟩
          rintro _ rfl _ rfl
          rw [nI_1]
          exact ih2 _ j3
    unfold bX9_keep_119
    have h0 := lp z 0 y (by omega) hy
    exact ⟨z + 1, by simpa [nI_0] using h0⟩
  have f2 : ∀ x : Int32, fM u (mpI (mpI (mpI u 42 0 0) 70 d a2) 71 d x) := fun x => (f0.tr (fM.pI _ (by decide))).tr (fM.pI _ (by decide))
  have fin : ∀ (tg z : Nat) (f : Nat → Int64), xKeep h w t v a1 a2 a3 = (0, va_up v d (tg, 0, 0, z, f)) → a2 = nI tg → tg ≠ 1 → ∀ y, fillM u (mpI (mpI (mpI u 42 0 0) 70 d a2) 71 d (nI z)) d z f y → K 0 y := by
    intro tg z f hx ha ht y hy
    rw [hx] at k
    refine k y (rSv_up hc hd (fun j hj => ?_) (fun j hj => ?_) (fun j hj => ?_) (fun j hj => ?_) hy.2.2.1 ho ⟨?_, fun z => absurd z ht, fun _ => ⟨?_, hy.2.2.2⟩⟩) hy.1 (fun p p1 p2 p3 _ _ => ?_) (fun j hj => ?_)
    · rw [hy.2.1]; simp [s1, mup_at, hj]
    · rw [hy.2.1]; simp [s1, mup_at, hj]
    · rw [hy.2.1]; simp [s1, mup_at]
    · rw [hy.2.1]; simp [s1, mup_at]
    · rw [hy.2.1]; simp [s1, mup_at, ha]
    · rw [hy.2.1]; simp [s1, mup_at]
    · rw [hy.2.1]; simp only [s1]; rw [mup_ne _ p3, mup_ne _ p2, mup_ne _ p1]
    · rw [hy.2.1]; simp [s1, mup_at, hj]
  have go76 : ∀ (tg z : Nat) (f : Nat → Int64), xKeep h w t v a1 a2 a3 = (0, va_up v d (tg, 0, 0, z, f)) → a2 = nI tg → tg ≠ 1 → tg < 5 → z ≤ 60 →
      (∀ i, i < z → ∀ y, fillM u (mpI (mpI (mpI u 42 0 0) 70 d a2) 71 d (nI z)) d i f y → (a2 = 3 → ∃ j, j < 200 ∧ mI y 42 12 - nI z + nI i = nI j ∧ (mI y 47 j).toInt64 = f i) ∧ (¬ a2 = 3 → ∃ j, j < 900 ∧ 6 * a3 + nI i = nI j ∧ (mI y 52 j).toInt64 = f i)) →
      bX9_keep_76 42 a1 a2 a3 71 a1 (nI z) (mpI (mpI u 42 0 0) 70 d a2) K := by
    intro tg z f hx ha ht ht5 hz hval
    unfold bX9_keep_76
    refine ⟨ind, ?_⟩
    rw [hcl]
    rintro _ rfl
    refine br_f (fun q => ht ?_) (loop _ z f hz (by simp [s1, mup_at]) hval (fin tg z f hx ha ht) _ ⟨f2 _, rfl, fun j _ => rfl, fun x hx => absurd hx (by omega)⟩)
    rw [ha, k1] at q
    exact (nI_eq (by omega) (by decide)).mp q
  have r70 := hr'.get 42 46 70 (by decide)
  have r71 : mR (mpI (mpI u 42 0 0) 70 d a2) 42 47 = some 71 := hr.get 42 47 71 (by decide)
  have no : ∀ z : Nat, z = 0 → ∀ (P : Nat → Prop), (∀ i, i < z → P i) := fun z hz P i hi => absurd hi (by omega)
  unfold bX9_canKeep
  refine br_c (fun q0 => br_f (by decide) ⟨70, r70, ind, ?_⟩) (fun q0 => ?_)
  · rintro _ rfl
    refine ⟨71, r71, br_f (by rw [q0]; decide) (br_f (by rw [q0]; decide) ?_)⟩
    rw [k0]
    exact go76 0 0 (fun _ => 0) (xK0 ed q0) (by rw [q0]; decide) (by decide) (by decide) (by decide) (fun i hi => absurd hi (by omega))
  refine br_c (fun q1 => ?_) (fun q1 => ?_)
  · have bad : dec a3 (h.1 * 4) = none → K (-1) (mpI u 42 0 0) := fun e => kr (xK1n ed q1 e)
    refine br_c (fun c => br_t rfl (bad (dec_none (by omega) (fun j hj e => by rw [e] at c; exact absurd c (nI_pos (by omega)))))) (fun c => ?_)
    obtain ⟨n, hn, e3⟩ := nI_of c
    rw [e3, i_div hn k4 (by decide) (by decide)]
    refine s_isCellN (N := h.1) (by rw [th_at u (by decide)]; exact hch.1) (by omega) (fun j hj ej => br_f (by decide) (br_f (by decide) ?_)) (fun hno => br_t rfl (br_t rfl (bad (dec_none (by omega) (fun j hj e => ?_)))))
    · have hjn : n / 4 = j := (nI_eq (by omega) (by omega)).mp ej
      have hx4 : n < h.1 * 4 := by omega
      have hxx := xK1 (w := w) (t := t) (v := v) ed q1 (dec_some (a := a3) (n := h.1 * 4) (by omega) hx4 e3)
      rw [hxx] at k
      have in40 : vp_in (nI n) 40 := vp_in_nI (by omega) (by decide)
      have hcn : (nI n).toNatClampNeg = n := nI_clamp (by omega)
      have hk5 := hch.2.2 n (by omega)
      have ho5 := hh.2.2 n (by omega)
      refine ⟨70, r70, ind, ?_⟩
      rintro _ rfl
      refine ⟨71, r71, br_f (by rw [q1]; decide) (br_f (by rw [q1]; decide) ?_)⟩
      unfold bX9_keep_76
      refine ⟨ind, ?_⟩
      rw [hcl]
      rintro _ rfl
      refine br_t q1 ⟨72, hr.get 42 48 72 (by decide), ?_⟩
      unfold bX9_weightOf
      refine ⟨46, hr.get 42 5 46 (by decide), in40, ?_⟩
      rintro _ rfl
      refine ⟨45, hr.get 42 4 45 (by decide), in40, ?_⟩
      rintro _ rfl
      have m45 : mI (mpI (mpI (mpI u 42 0 0) 70 d a2) 71 d 0) 45 = mI u 45 := by simp only [s1]; rw [mup_ne _ (by decide), mup_ne _ (by decide), mup_ne _ (by decide)]
      have m46 : mI (mpI (mpI (mpI u 42 0 0) 70 d a2) 71 d 0) 46 = mI u 46 := by simp only [s1]; rw [mup_ne _ (by decide), mup_ne _ (by decide), mup_ne _ (by decide)]
      rw [hcn, m45, m46, hk5.1]
      -- the weight, then the failure
      have tail : ∀ wt' : Int32, wt' = nI (wt (h.2.2.2.1 n) (if h.2.2.2.1 n = 0 then 0 else h.2.2.2.2 n)) → vp_in a1 8 ∧ ∀ u_8, u_8 = mpI (mpI (mpI (mpI u 42 0 0) 70 d a2) 71 d 0) 72 d wt' → ∃ q_9, mR u_8 42 49 = some q_9 ∧ ∃ q_10, mR u_8 42 4 = some q_10 ∧ vp_in (nI n) 40 ∧ ((mI u_8 q_10 n = 0 → bX9_keep_118 42 a1 a2 (nI n) q_9 a1 (-15) u_8 K) ∧ (¬ mI u_8 q_10 n = 0 → ∃ q_12, mR u_8 42 5 = some q_12 ∧ vp_in (nI n) 40 ∧ bX9_keep_118 42 a1 a2 (nI n) q_9 a1 (mI u_8 q_12 n) u_8 K)) := by
        intro wt' hwt
        refine ⟨ind, ?_⟩
        rintro _ rfl
        refine ⟨73, hr.get 42 49 73 (by decide), 45, hr.get 42 4 45 (by decide), in40, ?_⟩
        have n45 : mI (mpI (mpI (mpI (mpI u 42 0 0) 70 d a2) 71 d 0) 72 d wt') 45 = mI u 45 := by simp only [s1]; rw [mup_ne _ (by decide), mup_ne _ (by decide), mup_ne _ (by decide), mup_ne _ (by decide)]
        have n46 : mI (mpI (mpI (mpI (mpI u 42 0 0) 70 d a2) 71 d 0) 72 d wt') 46 = mI u 46 := by simp only [s1]; rw [mup_ne _ (by decide), mup_ne _ (by decide), mup_ne _ (by decide), mup_ne _ (by decide)]
        have hz0 : nI (h.2.2.2.1 n) = 0 ↔ h.2.2.2.1 n = 0 := by rw [k0]; exact nI_eq (by omega) (by decide)
        rw [n45, hk5.1, hz0]
        have last : ∀ fl : Int32, fl = (if h.2.2.2.1 n = 0 then -15 else nI (h.2.2.2.2 n)) → bX9_keep_118 42 a1 a2 (nI n) 73 a1 fl (mpI (mpI (mpI (mpI u 42 0 0) 70 d a2) 71 d 0) 72 d wt') K := by
          intro fl hfl
          unfold bX9_keep_118
          refine ⟨ind, ?_⟩
          rw [hcl]
          rintro _ rfl
          rw [← e3]
          refine loop _ 0 (fun _ => 0) (by decide) (by simp [s1, mup_at, nI_0]) (fun i hi => absurd hi (by omega)) (fun y hy => ?_) _ ⟨((f2 0).tr (fM.pI _ (by decide))).tr (fM.pI _ (by decide)), rfl, fun j _ => rfl, fun x hx => absurd hx (by omega)⟩
          refine k y (rSv_up hc hd (fun j hj => ?_) (fun j hj => ?_) (fun j hj => ?_) (fun j hj => ?_) hy.2.2.1 ho ⟨?_, fun _ => ⟨?_, ?_⟩, fun z => by simp at z⟩) hy.1 (fun p p1 p2 p3 p4 p5 => ?_) (fun j hj => ?_)
          · rw [hy.2.1]; simp [s1, mup_at, hj]
          · rw [hy.2.1]; simp [s1, mup_at, hj]
          · rw [hy.2.1]; simp [s1, mup_at, hj]
          · rw [hy.2.1]; simp [s1, mup_at, hj]
          · rw [hy.2.1]; simp [s1, mup_at, q1]; decide
          · rw [hy.2.1]; simp [s1, mup_at]; exact hwt
          · rw [hy.2.1]; simp [s1, mup_at]; rw [hfl]
            by_cases z : h.2.2.2.1 n = 0
            · simp [z]
            · simp [z]
          · rw [hy.2.1]; simp only [s1]; rw [mup_ne _ p5, mup_ne _ p4, mup_ne _ p3, mup_ne _ p2, mup_ne _ p1]
          · rw [hy.2.1]; simp [s1, mup_at, hj]
        refine br_c (fun z => last _ (by rw [if_pos z])) (fun z => ⟨46, hr.get 42 5 46 (by decide), in40, ?_⟩)
        rw [n46, hk5.2 z]
        exact last _ (by rw [if_neg z])
      have hd6 := ho5.1
      have tgt : h.2.2.2.1 n ≠ 0 → mI u 46 n = nI (h.2.2.2.2 n) := hk5.2
      generalize h.2.2.2.1 n = dd at *
      rcases (show dd = 0 ∨ dd = 1 ∨ dd = 2 ∨ dd = 3 ∨ dd = 4 ∨ dd = 5 by omega) with rfl | rfl | rfl | rfl | rfl | rfl
      · exact br_t (by decide) (tail _ (by simp [wt]; decide))
      all_goals rw [tgt (by decide), show (10 : Int32) = nI 10 by decide, nI_add]
      · exact br_f (by decide) (br_t (by decide) (tail _ (by simp [wt])))
      · exact br_f (by decide) (br_f (by decide) (br_t (by decide) (tail _ (by rw [show (100 : Int32) = nI 100 by decide, nI_add]; simp [wt]))))
      · exact br_f (by decide) (br_f (by decide) (br_f (by decide) (br_t (by decide) (tail _ (by rw [show (1000 : Int32) = nI 1000 by decide, nI_add]; simp [wt])))))
      · exact br_f (by decide) (br_f (by decide) (br_f (by decide) (br_f (by decide) (br_t (by decide) (tail _ (by rw [show (2000 : Int32) = nI 2000 by decide, nI_add]; simp [wt]))))))
      · exact br_f (by decide) (br_f (by decide) (br_f (by decide) (br_f (by decide) (br_f (by decide) (br_t (by decide) (tail _ (by rw [show (100 : Int32) = nI 100 by decide, nI_add, k2, pk_mul]; simp [wt])))))))
    · have : n = j := (nI_eq hn (by omega)).mp (e3.symm.trans e)
      exact hno (n / 4) (by omega) rfl
  refine br_c (fun q2 => br_f (by rw [q2]; decide) (br_t rfl (kr (xKx (Or.inr ⟨q0, q1, by rw [q2]; decide, by rw [q2]; decide⟩))))) (fun q2 => ?_)
  refine br_c (fun q3 => ?_) (fun q3 => ?_)
  · rw [th_at u (by decide), hcw.1]
    refine ⟨by cases w.1 <;> decide, ?_⟩
    dsimp only
    rw [b2i_0]
    refine br_c (fun q => kr (xK3n ed q3 q)) (fun q => ⟨70, r70, ind, ?_⟩)
    rintro _ rfl
    refine ⟨71, r71, br_t q3 ?_⟩
    have h12 : mI (mpI (mpI u 42 0 0) 70 d a2) 42 12 = nI w.2.2.2.length := by simp only [s1]; rw [mup_ne _ (by decide)]; simp [mup_at]; exact hcw.2.1
    rw [h12]
    have hxx := xK3 (h := h) (t := t) (v := v) (a3 := a3) ed q3 q
    have g := go76 3 (min 60 w.2.2.2.length) _ hxx (by rw [q3]; decide) (by decide) (by decide) (Nat.min_le_left _ _) (fun i hi y hy => ⟨fun _ => ?_, fun z => absurd q3 z⟩)
    · rw [show (60 : Int32) = nI 60 by decide]
      refine br_c (fun c => ?_) (fun c => ?_)
      · have : 60 ≤ w.2.2.2.length := (nI_leI (by decide) (by omega)).mp c
        rw [Nat.min_eq_left this] at g; exact g
      · have : w.2.2.2.length ≤ 60 := by
          rcases Nat.le_total w.2.2.2.length 60 with h | h
          · exact h
          · exact absurd (nI_le h (by omega)) c
        rw [Nat.min_eq_right this] at g; exact g
    · have hzl : min 60 w.2.2.2.length ≤ w.2.2.2.length := Nat.min_le_right _ _
      have hlt : w.2.2.2.length - min 60 w.2.2.2.length + i < w.2.2.2.length := by omega
      refine ⟨w.2.2.2.length - min 60 w.2.2.2.length + i, by omega, ?_, ?_⟩
      · rw [hy.2.1]
        have : mI (mpI (mpI (mpI u 42 0 0) 70 d a2) 71 d (nI (min 60 w.2.2.2.length))) 42 12 = nI w.2.2.2.length := by rw [s1, mup_ne _ (by decide)]; exact h12
        rw [this, pk_sub hzl, nI_add]
      · rw [hy.2.1]
        have : mI (mpI (mpI (mpI u 42 0 0) 70 d a2) 71 d (nI (min 60 w.2.2.2.length))) 47 = mI u 47 := by simp only [s1]; rw [mup_ne _ (by decide), mup_ne _ (by decide), mup_ne _ (by decide)]
        rw [this, (hcw.2.2.2 _ _ (List.getElem?_eq_getElem hlt)).1]
        unfold lateA
        rw [List.getElem?_eq_getElem hlt]
  refine br_c (fun q4 => ?_) (fun q4 => br_t rfl (kr (xKx (Or.inr ⟨q0, q1, q3, q4⟩))))
  refine s_isSheetN (h := h) hot (by rw [th_at u (by decide)]; exact hcw.1) (by rw [th_at u (by decide)]; exact hct.2.1) (fun kk hk e3 => br_f (by decide) (br_f (by decide) ⟨70, r70, ind, ?_⟩)) (fun e => br_t rfl (br_t rfl (kr (xK4n ed q4 (dec_none (n := t.2.2.length) (by omega) e)))))
  rintro _ rfl
  have hs := (hot.2.2.2.2 _ (List.getElem_mem hk)).1.1.2.1
  have hcq := hct.2.2.2 kk _ (List.getElem?_eq_getElem hk)
  refine ⟨71, r71, br_f q3 (br_t q4 ⟨51, hr.get 42 21 51 (by decide), by rw [e3]; exact vp_in_nI (by omega) (by decide), ?_⟩)⟩
  have m51 : mI (mpI (mpI u 42 0 0) 70 d a2) 51 a3.toNatClampNeg = nI (t.2.2[kk]).1 := by rw [e3, nI_clamp (by omega)]; simp only [s1]; rw [mup_ne _ (by decide), mup_ne _ (by decide)]; exact hcq.1
  rw [m51]
  refine go76 4 (t.2.2[kk]).1 _ (xK4 ed q4 (dec_some (n := t.2.2.length) (by omega) hk e3) (List.getElem?_eq_getElem hk)) (by rw [q4]; decide) (by decide) (by decide) (by omega) (fun i hi y hy => ⟨fun z => absurd z q3, fun _ => ⟨6 * kk + i, by omega, by rw [e3, k6, pk_mul, nI_add], ?_⟩⟩)
  rw [hy.2.1]
  have : mI (mpI (mpI (mpI u 42 0 0) 70 d a2) 71 d (nI (t.2.2[kk]).1)) 52 = mI u 52 := by simp only [s1]; rw [mup_ne _ (by decide), mup_ne _ (by decide), mup_ne _ (by decide)]
  rw [this, hcq.2.2.2.1 i hi]
