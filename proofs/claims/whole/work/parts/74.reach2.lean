/-! REACHED -/
def unS (x : Nat) : Nat × Nat × Bool := (x / 8, x / 2 % 4, x % 2 == 1)
theorem unS_st {c : Nat × Nat × Bool} (h : c.2.1 < 4) : unS (stI c) = c := by
  obtain ⟨c1, c2, c3⟩ := c
  dsimp only at h
  unfold unS stI
  dsimp only
  refine Prod.ext ?_ (Prod.ext ?_ ?_)
  · have := b2n_lt c3; dsimp only; omega
  · have := b2n_lt c3; dsimp only; omega
  · dsimp only
    cases c3
    · simp [b2n]
    · simp [b2n]
def fS (h : aHo) (x a : Nat) : Nat := stI ((xStep h (unS x) a).getD (unS x))
def isSt (h : aHo) (x : Nat) : Prop := ∃ c, oSd h c ∧ x = stI c
theorem isSt_lt {h : aHo} (ho : oHo h) {x : Nat} (hx : isSt h x) : x < 80 := by
  obtain ⟨c, hc, rfl⟩ := hx
  exact st_lt ho.1 hc.1 hc.2
theorem isSt_nx {h : aHo} (ho : oHo h) {x a : Nat} (hx : isSt h x) : isSt h (fS h x a) := by
  obtain ⟨c, hc, rfl⟩ := hx
  unfold fS
  rw [unS_st hc.2]
  cases e : xStep h c a with
  | none => exact ⟨c, hc, rfl⟩
  | some c' => exact ⟨c', xStep_ok ho hc e, rfl⟩
theorem isSt_rch {h : aHo} (ho : oHo h) {s0 x : Nat} (h0 : isSt h s0) (hx : rch (fS h) s0 x) : isSt h x := rch_in (X := isSt h) (fun _ _ h1 _ => isSt_nx ho h1) h0 hx
def isRe (h : aHo) (w : aWk) (r : Int32) : Prop := if w.1 = false then r = -2 else ∃ b : Nat → Bool, (∀ x, b x = true ↔ rch (fS h) (stI w.2.1) x) ∧ r = nI (cnt b 80)
theorem isRe_un {h : aHo} {w : aWk} {r r' : Int32} (h1 : isRe h w r) (h2 : isRe h w r') : r = r' := by
  unfold isRe at h1 h2
  by_cases z : w.1 = false
  · rw [if_pos z] at h1 h2; rw [h1, h2]
  · rw [if_neg z] at h1 h2
    obtain ⟨b, b1, rfl⟩ := h1
    obtain ⟨c, c1, rfl⟩ := h2
    congr 1
    refine cnt_same 80 (fun x _ => ?_)
    have := (b1 x).trans (c1 x).symm
    cases hb : b x <;> cases hc : c x
    · rfl
    · rw [hb, hc] at this; simp at this
    · rw [hb, hc] at this; simp at this
    · rfl
theorem C_reached {h : aHo} {w : aWk} {L0 : List Nat} {u : mSt} {K : Int32 → mSt → Prop} (hr : cRf u) (ho : oHo h) (hw : oWk h w) (hch : cHo h u) (hcw : cWk w u) (od : oTd L0) (td : cTd L0 u) (k : ∀ r v L, isRe h w r → fr pTd u v → oTd L → cTd L v → K r v) : bX8_reached 0 u K := by
  unfold bX8_reached
  unfold isRe at k
  rw [hcw.1, b2i_0]
  refine br_c (fun q => ?_) (fun q => ⟨22, hr.get 0 6 22 (by decide), ?_⟩)
  · simp only [if_pos q] at k; exact k _ u L0 rfl (fr.rf _ _) od td
  · simp only [if_neg q] at k
    have h1 : w.1 = true := by simpa using q
    obtain ⟨o1, o2, o3, o4⟩ := hw.1 h1
    obtain ⟨e5, e6⟩ := hcw.2.2.1 h1
    have h10 := ho.1
    have is0 : isSt h (stI w.2.1) := ⟨w.2.1, ⟨o2, o3⟩, rfl⟩
    have hs80 := isSt_lt ho is0
    have hchf : ∀ y, fr pTd u y → cHo h y := fun y f => hch.fr f rfl (fun _ => rfl) (fun _ => rfl) (fun _ => rfl) (fun _ => rfl)
    have done : ∀ i y L, fr pTd u y → oTd L → cTd L y → (∀ x ∈ L, rch (fS h) (stI w.2.1) x) → stI w.2.1 ∈ L → (∀ j x, j < i → L[j]? = some x → ∀ a, a < 5 → fS h x a ∈ L) → L.length ≤ i → K (nI L.length) y := by
      intro i y L f o c hL h0 hcl hi
      refine k _ y L ⟨fun x => decide (x ∈ L), fun x => ?_, ?_⟩ f o c
      · rw [decide_eq_true_eq]
        constructor
        · exact hL x
        · exact rch_in (X := fun x => x ∈ L) (fun x a hx ha => by
            obtain ⟨j, hj⟩ := List.getElem?_of_mem hx
            exact hcl j x (by have := (List.getElem?_eq_some_iff.mp hj).1; omega) hj a ha) h0
      · have := cnt_cut (f := fun x => decide (x ∈ L)) (N := 80) 400 (fun x hx => by
          have : ¬ x ∈ L := fun q => by have := isSt_lt ho (isSt_rch ho is0 (hL x q)); omega
          simpa using this)
        rw [o.2, this]
    have outer : ∀ n i y L, i + n = 80 → fr pTd u y → oTd L → cTd L y → (∀ x ∈ L, rch (fS h) (stI w.2.1) x) → stI w.2.1 ∈ L → (∀ j x, j < i → L[j]? = some x → ∀ a, a < 5 → fS h x a ∈ L) → bX8_reached_33 (n + 1) 0 (nI i) y K := by
      intro n
      induction n with
      | zero =>
        intro i y L hn f o c hL h0 hcl
        have hlen := oTd_le o (N := 80) (by omega) (fun x hx => isSt_lt ho (isSt_rch ho is0 (hL x hx)))
        unfold bX8_reached_33
        refine ⟨22, (f.cR hr).get 0 6 22 (by decide), ?_⟩
        rw [c.1]
        refine br_t (nI_le (by omega) (by omega)) ⟨22, (f.cR hr).get 0 6 22 (by decide), ?_⟩
        rw [c.1]
        exact done i y L f o c hL h0 hcl (by omega)
      | succ n ih =>
        intro i y L hn f o c hL h0 hcl
        have hlen := oTd_le o (N := 80) (by omega) (fun x hx => isSt_lt ho (isSt_rch ho is0 (hL x hx)))
        unfold bX8_reached_33
        refine ⟨22, (f.cR hr).get 0 6 22 (by decide), ?_⟩
        rw [c.1]
        refine pk_le L.length i (fun z => ⟨22, (f.cR hr).get 0 6 22 (by decide), ?_⟩) (fun z => ?_) rfl rfl
        · rw [c.1]; exact done i y L f o c hL h0 hcl z
        · refine br_f (by rw [show (80 : Int32) = nI 80 by decide]; exact nI_ge (by omega) (by omega)) ⟨6, ?_⟩
          have hge := List.getElem?_eq_getElem (show i < L.length by omega)
          generalize L[i] = x at hge
          obtain ⟨cx, hcx, ecx⟩ := isSt_rch ho is0 (hL x (List.mem_of_getElem? hge))
          have inner : ∀ m a y L, a + m = 5 → fr pTd u y → oTd L → cTd L y → (∀ x ∈ L, rch (fS h) (stI w.2.1) x) → stI w.2.1 ∈ L → L[i]? = some x → (∀ j x, j < i → L[j]? = some x → ∀ a, a < 5 → fS h x a ∈ L) → (∀ b, b < a → fS h x b ∈ L) → bX8_reached_52 (m + 1) 0 (nI i) (nI a) y K (fun z0 z1 z2 => bX8_reached_33 (n + 1) z0 z1 z2 K) := by
            intro m
            induction m with
            | zero =>
              intro a y L ha f o c hL h0 hge hcl hb
              unfold bX8_reached_52
              refine br_t (by rw [k5]; exact nI_le (by omega) (by omega)) ?_
              rintro _ rfl
              rw [nI_1]
              refine ih (i + 1) y L (by omega) f o c hL h0 (fun j x' hj hjx a' ha' => ?_)
              by_cases zj : j = i
              · subst zj
                rw [hge] at hjx
                cases hjx
                exact hb a' (by omega)
              · exact hcl j x' (by omega) hjx a' ha'
            | succ m ihm =>
              intro a y L ha f o c hL h0 hge hcl hb
              unfold bX8_reached_52
              refine br_f (by rw [k5]; exact nI_ge (by omega) (by omega)) ⟨22, (f.cR hr).get 0 6 22 (by decide), 1, (f.cR hr).get 0 0 1 (by decide), 22, (f.cR hr).get 0 6 22 (by decide), 23, (f.cR hr).get 22 0 23 (by decide), vp_in_nI (by omega) (by decide), ?_⟩
              rw [nI_clamp (by omega), c.2.1 i x hge, ecx]
              refine s_after (f.cR hr) ho (hchf y f) hcx (by omega) ?_
              have hfx : fS h x a = stI ((xStep h cx a).getD cx) := by unfold fS; rw [ecx, unS_st hcx.2]
              have go : ∀ v L', fr pTd y v → oTd L' → cTd L' v → (∀ z, z ∈ L → z ∈ L') → (∀ z, z ∈ L' → z ∈ L ∨ z = fS h x a) → fS h x a ∈ L' → (∀ (j z : Nat), L[j]? = some z → L'[j]? = some z) → ∀ x_12, x_12 = nI a + 1 → bX8_reached_52 (m + 1) 0 (nI i) x_12 v K (fun z0 z1 z2 => bX8_reached_33 (n + 1) z0 z1 z2 K) := by
                intro v L' g o' c' m1 m2 m3 m4 _ rfl
                rw [nI_1]
                refine ihm (a + 1) v L' (by omega) (f.tr g) o' c' (fun z hz => ?_) (m1 _ h0) (m4 i x hge) (fun j x' hj hjx a' ha' => ?_) (fun b hb' => ?_)
                · rcases m2 z hz with hz | rfl
                  · exact hL z hz
                  · exact rch_nx (hL x (List.mem_of_getElem? hge)) (by omega)
                · have hj' : L[j]? = some x' := by
                    have hjl : j < L.length := by have := (List.getElem?_eq_some_iff.mp hge).1; omega
                    have := m4 j _ (List.getElem?_eq_getElem hjl)
                    rw [hjx] at this
                    rw [List.getElem?_eq_getElem hjl]
                    exact this.symm
                  exact m1 _ (hcl j x' hj hj' a' ha')
                · by_cases zb : b = a
                  · rw [zb]; exact m3
                  · exact m1 _ (hb b (by omega))
              cases e : xStep h cx a with
              | none =>
                rw [e] at hfx
                refine s_addNo (go y L (fr.rf _ _) o c (fun _ hz => hz) (fun _ hz => Or.inl hz) ?_ (fun _ _ hz => hz))
                rw [hfx]
                show stI cx ∈ L
                rw [← ecx]; exact List.mem_of_getElem? hge
              | some c' =>
                rw [e] at hfx
                have hfx : fS h x a = stI c' := hfx
                have hlt : stI c' < 80 := by have := xStep_ok ho hcx e; exact st_lt ho.1 this.1 this.2
                refine s_addOnce (f.cR hr) o c (by omega) (fun v g cv => go v _ g (oTd_add o (by omega)) cv (fun z hz => mem_tAdd.mpr (Or.inl hz)) (fun z hz => by rw [hfx]; exact mem_tAdd.mp hz) (by rw [hfx]; exact mem_tAdd.mpr (Or.inr rfl)) (fun j z hz => tAdd_get hz))
          have := inner 5 0 y L (by omega) f o c hL h0 hge hcl (fun b hb => by omega)
          rw [nI_0] at this
          exact this
    refine s_clear hr od td (fun v f c => ⟨22, (f.cR hr).get 0 6 22 (by decide), 1, (f.cR hr).get 0 0 1 (by decide), ?_⟩)
    rw [f.at (p := 1) rfl, e5]
    refine s_addOnce (f.cR hr) oTd_nil c (by omega) (fun y g cy => ⟨81, ?_⟩)
    have e : tAdd [] (stI w.2.1) = [stI w.2.1] := by simp [tAdd]
    rw [e] at cy
    have oo : oTd [stI w.2.1] := by have := oTd_add oTd_nil (x := stI w.2.1) (by omega); rw [e] at this; exact this
    have := outer 80 0 y [stI w.2.1] (by omega) (f.tr g) oo cy (fun x hx => by
      have : x = stI w.2.1 := by simpa using hx
      rw [this]; exact rch_rf _ _) (by simp) (fun j x hj => by omega)
    rw [nI_0] at this
    exact this
theorem m_standing {c : Nat × Nat × Bool} {y : mSt} {K : Int32 → mSt → Prop} (hS : hSt c y) (k : K (nI (stI c)) y) : bX9_standing 42 y K := by
  obtain ⟨e1, e2, e3⟩ := hS
  unfold bX9_standing
  rw [e1, e2, e3, k8, k2, pk_mul, pk_mul, nI_add, b2i_0]
  unfold stI at k
  refine br_c (fun z => ?_) (fun z => ?_)
  · rw [k0, nI_add]
    rw [z] at k
    rw [show 8 * c.1 + 2 * c.2.1 + 0 = (c.1 * 4 + c.2.1) * 2 + b2n false by simp [b2n]; omega]; exact k
  · have z : c.2.2 = true := by simpa using z
    rw [k1, nI_add]
    rw [z] at k
    rw [show 8 * c.1 + 2 * c.2.1 + 1 = (c.1 * 4 + c.2.1) * 2 + b2n true by simp [b2n]; omega]; exact k
theorem m_standAt {x : Nat} {y : mSt} {K : mSt → Prop} (hx : x < 80) (k : ∀ v, fr pS y v → hSt (unS x) v → K v) : bX9_standAt 42 (nI x) y K := by
  unfold bX9_standAt
  rw [i_div (by omega) k8 (by decide) (by decide), i_div (by omega) k2 (by decide) (by decide), i_rem (by omega) k4 (by decide) (by decide), show nI x - nI (x / 2) * 2 = nI (x % 2) by rw [← i_div (by omega) k2 (by decide) (by decide)]; exact i_rem (by omega) k2 (by decide) (by decide)]
  rintro _ rfl _ rfl
  have fin : ∀ b : Bool, b = (x % 2 == 1) → bX9_standAt_30 42 (b2i b) (mpI (mpI y 42 34 (nI (x / 8))) 42 35 (nI (x / 2 % 4))) K := by
    rintro b hb
    unfold bX9_standAt_30
    refine ⟨by cases b <;> simp [b2i], ?_⟩
    rintro _ rfl
    refine k _ ((((fr.rf _ y).wp _ rfl).wp _ rfl).wp _ rfl) ⟨?_, ?_, ?_⟩
    · rw [up_ne _ _ (by omega), up_ne _ _ (by omega), up_eq]; rfl
    · rw [up_ne _ _ (by omega), up_eq]; rfl
    · rw [up_eq, hb]; rfl
  refine pk_eq (x % 2) 1 (fun z => ?_) (fun z => ?_) rfl k1
  · exact fin true (by simp [z])
  · exact fin false (by simp [z])
def pRe : Nat → Nat → Bool := fun p i => p == 69 || (p == 42 && (i == 0 || i == 34 || i == 35 || i == 36 || i == 37))
theorem pS_Re {p i : Nat} (e : pRe p i = false) : pS p i = false := by
  simp [pRe, pS] at e ⊢; omega
/-- the stands that stood tells -/
def stO (b : Nat → Bool) (y : mSt) : Prop := ∀ x, x < 80 → mI y 69 x = b2i (b x)
theorem M_reached {h : aHo} {w : aWk} {u : mSt} {K : Int32 → mSt → Prop} (hr : rRf u) (ho : oHo h) (hw : oWk h w) (hrh : rHo h u) (hrw : rWk h w u) (k : ∀ r v, isRe h w r → fr pRe u v → K r v) : bX9_reached 42 u K := by
  have f0 : fr pRe u (mpI u 42 0 0) := fr.pI _ u _ rfl
  unfold bX9_reached
  rintro _ rfl
  unfold isRe at k
  rw [up_ne _ _ (by omega), hrw.1, b2i_0]
  refine br_c (fun q => ?_) (fun q => ?_)
  · simp only [if_pos q] at k; exact k _ _ rfl f0
  · simp only [if_neg q] at k
    have h1 : w.1 = true := by simpa using q
    obtain ⟨o1, o2, o3, o4⟩ := hw.1 h1
    obtain ⟨w7, w8, w9, w10, w11, w17⟩ := hrw.2.2.1 h1
    have h10 := ho.1
    have is0 : isSt h (stI w.2.1) := ⟨w.2.1, ⟨o2, o3⟩, rfl⟩
    have hs80 := isSt_lt ho is0
    have hrf : ∀ y, fr pRe u y → rHo h y := fun y f => hrh.fr f rfl (fun _ => rfl) (fun _ => rfl) (fun _ => rfl) (fun _ => rfl)
    have g69 : ∀ y, fr pRe u y → mR y 42 45 = some 69 := fun y f => (f.rR hr).get 42 45 69 (by decide)
    have e1 : vp_nar .boolean (1 : Int32) = 1 := by decide
    have e0 : vp_nar .boolean (0 : Int32) = 0 := by decide
    have rounds : ∀ N b y, 81 ≤ cnt b 80 + N → fr pRe u y → stO b y → (∀ x, b x = true → rch (fS h) (stI w.2.1) x) → b (stI w.2.1) = true → bX9_reached_54 (N + 1) 42 (nI (cnt b 80)) 1 y K := by
      intro N
      induction N with
      | zero => intro b y hN; have := cnt_le b 80; omega
      | succ N ih =>
        intro b0 y0 hN f0 s0 r0 i0
        unfold bX9_reached_54
        refine br_f (by decide) ⟨81, ?_⟩
        have xs : ∀ n x b m y, x + n = 80 → fr pRe u y → stO b y → (∀ x, b x = true → rch (fS h) (stI w.2.1) x) → b (stI w.2.1) = true → (m = false → b = b0 ∧ ∀ x', x' < x → b x' = true → ∀ a, a < 5 → b (fS h x' a) = true) → (m = true → cnt b0 80 < cnt b 80) → bX9_reached_62 (n + 1) 42 (nI (cnt b 80)) (b2i m) (nI x) y K (fun z0 z1 z2 z3 => bX9_reached_54 (N + 1) z0 z1 z2 z3 K) := by
          intro n
          induction n with
          | zero =>
            intro x b m y hx f s r i c1 c2
            unfold bX9_reached_62
            refine br_t (by rw [show (80 : Int32) = nI 80 by decide]; exact nI_le (by omega) (by omega)) ?_
            cases m with
            | false =>
              obtain ⟨-, c1⟩ := c1 rfl
              unfold bX9_reached_54
              refine br_t rfl (k _ y ⟨b, fun x' => ⟨r x', fun hx' => ?_⟩, rfl⟩ f)
              exact rch_in (X := fun x => b x = true) (fun z a hz ha => c1 z (by have := isSt_lt ho (isSt_rch ho is0 (r z hz)); omega) hz a ha) i hx'
            | true =>
              have := c2 rfl
              exact ih b y (by omega) f s r i
          | succ n ihn =>
            intro x b m y hx f s r i c1 c2
            unfold bX9_reached_62
            refine br_f (by rw [show (80 : Int32) = nI 80 by decide]; exact nI_ge (by omega) (by omega)) ⟨6, ?_⟩
            have jx : vp_in (nI x) 80 := vp_in_nI (by omega) (by decide)
            have acts : ∀ j a b m y, a + j = 5 → fr pRe u y → stO b y → (∀ x, b x = true → rch (fS h) (stI w.2.1) x) → b (stI w.2.1) = true → (m = false → b = b0 ∧ (∀ x', x' < x → b x' = true → ∀ a, a < 5 → b (fS h x' a) = true) ∧ (b x = true → ∀ a', a' < a → b (fS h x a') = true)) → (m = true → cnt b0 80 < cnt b 80) → bX9_reached_71 (j + 1) 42 (nI (cnt b 80)) (b2i m) (nI x) (nI a) y K (fun z0 z1 z2 z3 => bX9_reached_54 (N + 1) z0 z1 z2 z3 K) (fun z0 z1 z2 z3 z4 => bX9_reached_62 (n + 1) z0 z1 z2 z3 z4 K (fun z0 z1 z2 z3 => bX9_reached_54 (N + 1) z0 z1 z2 z3 K)) := by
              intro j
              induction j with
              | zero =>
                intro a b m y ha f s r i c1 c2
                unfold bX9_reached_71
                refine br_t (by rw [k5]; exact nI_le (by omega) (by omega)) ?_
                unfold bX9_reached_132
                rintro _ rfl
                rw [nI_1]
                refine ihn (x + 1) b m y (by omega) f s r i (fun hm => ⟨(c1 hm).1, fun x' hx' hb a' ha' => ?_⟩) c2
                by_cases z : x' = x
                · rw [z] at hb ⊢; exact (c1 hm).2.2 hb a' (by omega)
                · exact (c1 hm).2.1 x' (by omega) hb a' ha'
              | succ j ihj =>
                intro a b m y ha f s r i c1 c2
                unfold bX9_reached_71
                refine br_f (by rw [k5]; exact nI_ge (by omega) (by omega)) ⟨69, g69 y f, jx, ?_⟩
                rw [nI_clamp (by omega), s x (by omega), b2i_0]
                refine br_c (fun z => ?_) (fun z => ?_)
                · unfold bX9_reached_132
                  rintro _ rfl
                  rw [nI_1]
                  refine ihn (x + 1) b m y (by omega) f s r i (fun hm => ⟨(c1 hm).1, fun x' hx' hb a' ha' => ?_⟩) c2
                  by_cases z' : x' = x
                  · rw [z', z] at hb; cases hb
                  · exact (c1 hm).2.1 x' (by omega) hb a' ha'
                · have z : b x = true := by simpa using z
                  have hsx := isSt_rch ho is0 (r x z)
                  obtain ⟨cx, hcx, ecx⟩ := hsx
                  have hux : unS x = cx := by rw [ecx, unS_st hcx.2]
                  refine m_standAt (by omega) (fun v1 g1 hs1 => ?_)
                  have f1 := f.tr (g1.up (fun p i e => pS_Re e))
                  rw [hux] at hs1
                  refine m_step (f1.rR hr) ho (hrf _ f1) hcx hs1 (by omega) (fun v2 g2 hs2 _ => ?_)
                  have f2 := f1.tr (g2.up (fun p i e => pS_Re e))
                  have hfx : fS h x a = stI ((xStep h cx a).getD cx) := by unfold fS; rw [hux]
                  have hlt := isSt_lt ho (isSt_nx (a := a) ho ⟨cx, hcx, ecx⟩)
                  refine m_standing hs2 ?_
                  rw [← hfx]
                  have s2 : stO b v2 := fun x' hx' => by rw [g2.at rfl, g1.at rfl]; exact s x' hx'
                  refine ⟨69, g69 _ f2, vp_in_nI hlt (by decide), ?_⟩
                  rw [nI_clamp (by omega), s2 _ hlt, b2i_0]
                  refine br_c (fun zb => ⟨69, g69 _ f2, vp_in_nI hlt (by decide), ?_⟩) (fun zb => ?_)
                  · rw [e1]
                    rintro _ rfl _ rfl
                    unfold bX9_reached_126
                    rintro _ rfl
                    rw [nI_1, nI_1]
                    have hcnt : cnt (fun z => decide (z = fS h x a) || b z) 80 = cnt b 80 + 1 := cnt_put 80 hlt zb (by simp) (fun y' hy' => by simp [hy'])
                    have := ihj (a + 1) (fun z => decide (z = fS h x a) || b z) true _ (by omega) (f2.wp (q := 69) (j := fS h x a) 1 rfl) (fun x' hx' => ?_) (fun x' hb' => ?_) (by simp [i]) (fun hm => by cases hm) (fun _ => ?_)
                    · rw [hcnt] at this; exact this
                    · by_cases zx : x' = fS h x a
                      · rw [zx, up_eq]; simp [b2i]
                      · rw [up_ne _ _ (by omega), s2 x' hx']; simp [zx]
                    · by_cases zx : x' = fS h x a
                      · rw [zx]; exact rch_nx (r x z) (by omega)
                      · simp [zx] at hb'; exact r x' hb'
                    · rw [hcnt]
                      cases m with
                      | false => rw [(c1 rfl).1]; omega
                      | true => have := c2 rfl; omega
                  · have zb : b (fS h x a) = true := by simpa using zb
                    unfold bX9_reached_126
                    rintro _ rfl
                    rw [nI_1]
                    refine ihj (a + 1) b m v2 (by omega) f2 s2 r i (fun hm => ⟨(c1 hm).1, (c1 hm).2.1, fun hb a' ha' => ?_⟩) c2
                    by_cases za : a' = a
                    · rw [za]; exact zb
                    · exact (c1 hm).2.2 hb a' (by omega)
            have := acts 5 0 b m y (by omega) f s r i (fun hm => ⟨(c1 hm).1, (c1 hm).2, fun _ a' ha' => by omega⟩) c2
            rw [nI_0] at this
            exact this
        have := xs 80 0 b0 false y0 (by omega) f0 s0 r0 i0 (fun _ => ⟨rfl, fun x' hx' => by omega⟩) (fun hm => by cases hm)
        rw [nI_0] at this
        exact this
    have init : ∀ n x y, x + n = 80 → fr pRe u y → (∀ i, i ≠ 0 → mI y 42 i = mI u 42 i) → (∀ x', x' < x → mI y 69 x' = 0) → bX9_reached_17 (n + 1) 42 (nI x) y K := by
      intro n
      induction n with
      | zero =>
        intro x y hx f h42 h69
        unfold bX9_reached_17
        refine br_t (by rw [show (80 : Int32) = nI 80 by decide]; exact nI_le (by omega) (by omega)) (m_stand (h := h) (w := w) (by rw [h42 7 (by omega), w7]) (by rw [h42 8 (by omega), w8]) (by rw [h42 9 (by omega), w9]) (fun v g hs => ?_))
        have f1 := f.tr (g.up (fun p i e => pS_Re e))
        refine ⟨69, g69 _ f1, m_standing hs ⟨vp_in_nI hs80 (by decide), ?_⟩⟩
        rw [nI_clamp (by omega), e1]
        rintro _ rfl
        refine ⟨82, ?_⟩
        have hc0 : cnt (fun _ => false) 80 = 0 := by decide
        have hc1 : cnt (fun z => decide (z = stI w.2.1)) 80 = 1 := by
          have := cnt_put (f := fun _ => false) (g := fun z => decide (z = stI w.2.1)) (x := stI w.2.1) 80 hs80 rfl (by simp) (fun y hy => by simp [hy])
          rw [this, hc0]
        have := rounds 81 (fun z => decide (z = stI w.2.1)) _ (by omega) (f1.wp (q := 69) (j := stI w.2.1) 1 rfl) (fun x' hx' => ?_) (fun x' hx' => ?_) (by simp)
        · rw [hc1] at this; exact this
        · by_cases zx : x' = stI w.2.1
          · rw [zx, up_eq]; simp [b2i]
          · rw [up_ne _ _ (by omega), g.at rfl, h69 x' (by omega)]; simp [zx, b2i]
        · have : x' = stI w.2.1 := by simpa using hx'
          rw [this]; exact rch_rf _ _
      | succ n ih =>
        intro x y hx f h42 h69
        unfold bX9_reached_17
        refine br_f (by rw [show (80 : Int32) = nI 80 by decide]; exact nI_ge (by omega) (by omega)) ⟨69, g69 _ f, vp_in_nI (by omega) (by decide), ?_⟩
        rw [nI_clamp (by omega), e0]
        rintro _ rfl _ rfl
        rw [nI_1]
        refine ih (x + 1) _ (by omega) (f.wp _ rfl) (fun i hi => by rw [up_ne _ _ (by omega)]; exact h42 i hi) (fun x' hx' => ?_)
        by_cases z : x' = x
        · rw [z, up_eq]
        · rw [up_ne _ _ (by omega)]; exact h69 x' (by omega)
    have := init 80 0 _ (by omega) f0 (fun i hi => by rw [up_ne _ _ (by omega)]) (fun x' hx' => by omega)
    rw [nI_0] at this
    exact ⟨_, this⟩
