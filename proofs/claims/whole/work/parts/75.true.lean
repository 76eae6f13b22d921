/-! IS TRUE: pairs of a place and a stand -/
def fQ (h : aHo) (s : aSh) (p : Nat) (c : Nat × Nat × Bool) (a : Nat) : Nat := match s.2.2.2.2 (5 * p + a) with
  | 0 => 80 * p + stI c
  | 1 => 80 * p + stI c
  | q + 2 => match xStep h c a with
    | none => 80 * p + stI c
    | some c' => 80 * q + stI c'
def okQ (h : aHo) (s : aSh) (p : Nat) (c : Nat × Nat × Bool) : Prop := s.2.2.2.1 p = h.2.1 c.1 ∧ ∀ a, a < 5 → s.2.2.2.2 (5 * p + a) ≠ 0 → (s.2.2.2.2 (5 * p + a) = 1 ↔ xStep h c a = none)
def fP (h : aHo) (s : aSh) (x a : Nat) : Nat := fQ h s (x / 80) (unS (x % 80)) a
def okP (h : aHo) (s : aSh) (x : Nat) : Prop := okQ h s (x / 80) (unS (x % 80))
def isPr (h : aHo) (s : aSh) (x : Nat) : Prop := ∃ p c, p < s.1 ∧ oSd h c ∧ x = 80 * p + stI c
theorem pr_at {h : aHo} {s : aSh} {p : Nat} {c : Nat × Nat × Bool} (ho : oHo h) (hc : oSd h c) : (80 * p + stI c) / 80 = p ∧ unS ((80 * p + stI c) % 80) = c ∧ (80 * p + stI c) % 80 = stI c := by
  have := st_lt ho.1 hc.1 hc.2
  have e : (80 * p + stI c) % 80 = stI c := by omega
  exact ⟨by omega, by rw [e, unS_st hc.2], e⟩
theorem fP_at {h : aHo} {s : aSh} {p a : Nat} {c : Nat × Nat × Bool} (ho : oHo h) (hc : oSd h c) : fP h s (80 * p + stI c) a = fQ h s p c a := by
  obtain ⟨e1, e2, -⟩ := pr_at (s := s) (p := p) ho hc
  unfold fP; rw [e1, e2]
theorem okP_at {h : aHo} {s : aSh} {p : Nat} {c : Nat × Nat × Bool} (ho : oHo h) (hc : oSd h c) : okP h s (80 * p + stI c) ↔ okQ h s p c := by
  obtain ⟨e1, e2, -⟩ := pr_at (s := s) (p := p) ho hc
  unfold okP; rw [e1, e2]
theorem isPr_lt {h : aHo} {s : aSh} (ho : oHo h) (hs : oSh 6 s) {x : Nat} (hx : isPr h s x) : x < 480 := by
  obtain ⟨p, c, hp, hc, rfl⟩ := hx
  have := st_lt ho.1 hc.1 hc.2
  have := hs.1.2.1
  omega
theorem isPr_nx {h : aHo} {s : aSh} (ho : oHo h) (hs : oSh 6 s) {x a : Nat} (ha : a < 5) (hx : isPr h s x) : isPr h s (fP h s x a) := by
  obtain ⟨p, c, hp, hc, rfl⟩ := hx
  rw [fP_at ho hc]
  have hl := (hs.2.2 (5 * p + a) (by omega)).1
  unfold fQ
  generalize s.2.2.2.2 (5 * p + a) = l at *
  match l, hl with
  | 0, hl => exact ⟨p, c, hp, hc, rfl⟩
  | 1, hl => exact ⟨p, c, hp, hc, rfl⟩
  | q + 2, hl =>
    dsimp only
    cases e : xStep h c a with
    | none => exact ⟨p, c, hp, hc, rfl⟩
    | some c' => exact ⟨q, c', by omega, xStep_ok ho hc e, rfl⟩
theorem isPr_rch {h : aHo} {s : aSh} (ho : oHo h) (hs : oSh 6 s) {x0 x : Nat} (h0 : isPr h s x0) (hx : rch (fP h s) x0 x) : isPr h s x := rch_in (X := isPr h s) (fun _ _ h1 h2 => isPr_nx ho hs h2 h1) h0 hx
def allT (h : aHo) (w : aWk) (s : aSh) : Prop := ∀ x, rch (fP h s) (80 * s.2.1 + stI w.2.1) x → okP h s x
theorem s_agrees {h : aHo} {w : aWk} {s : aSh} {q : Nat} {L0 : List Nat} {u : mSt} {K : Int32 → mSt → Prop} (hr : cRf u) (ho : oHo h) (hw : oWk h w) (hch : cHo h u) (hcw : cWk w u) (h1 : w.1 = true) (hs : oSh 6 s) (hq : 77 ≤ q) (hc : cOne s q u) (r0 : mR u q 0 = some (q + 1)) (r1 : mR u q 1 = some (q + 2)) (od : oTd L0) (td : cTd L0 u)
    (k : ∀ r v L, isB (allT h w s) r → fr pTd u v → oTd L → cTd L v → K r v) : bX8_agreesWithHouse 0 q u K := by
  have h6 := hs.1.2.1
  have h10 := ho.1
  obtain ⟨o1, o2, o3, o4⟩ := hw.1 h1
  obtain ⟨e5, e6⟩ := hcw.2.2.1 h1
  have is0 : isPr h s (80 * s.2.1 + stI w.2.1) := ⟨s.2.1, w.2.1, hs.1.2.2.1, ⟨o2, o3⟩, rfl⟩
  have hlt0 := isPr_lt ho hs is0
  generalize hx0 : 80 * s.2.1 + stI w.2.1 = x0 at is0 hlt0
  have eT : allT h w s ↔ ∀ x, rch (fP h s) x0 x → okP h s x := by unfold allT; rw [hx0]
  have hchf : ∀ y, fr pTd u y → cHo h y := fun y f => hch.fr f rfl (fun _ => rfl) (fun _ => rfl) (fun _ => rfl) (fun _ => rfl)
  have k80 : (80 : Int32) = nI 80 := by decide
  have done : ∀ i y L, fr pTd u y → oTd L → cTd L y → x0 ∈ L → (∀ j x, j < i → L[j]? = some x → okP h s x ∧ ∀ a, a < 5 → fP h s x a ∈ L) → L.length ≤ i → K 1 y := by
    intro i y L f o c h0 hcl hi
    refine k 1 y L ⟨fun _ => rfl, fun hn => absurd (eT.mpr (fun x hx => ?_)) hn⟩ f o c
    have hin : x ∈ L := rch_in (X := fun x => x ∈ L) (fun x a hx ha => by
      obtain ⟨j, hj⟩ := List.getElem?_of_mem hx
      exact (hcl j x (by have := (List.getElem?_eq_some_iff.mp hj).1; omega) hj).2 a ha) h0 hx
    obtain ⟨j, hj⟩ := List.getElem?_of_mem hin
    exact (hcl j x (by have := (List.getElem?_eq_some_iff.mp hj).1; omega) hj).1
  have outer : ∀ n i y L, i + n = 480 → fr pTd u y → oTd L → cTd L y → (∀ x ∈ L, rch (fP h s) x0 x) → x0 ∈ L → (∀ j x, j < i → L[j]? = some x → okP h s x ∧ ∀ a, a < 5 → fP h s x a ∈ L) → bX8_agreesWithHouse_31 (n + 1) 0 q (nI i) y K := by
    intro n
    induction n with
    | zero =>
      intro i y L hn f o c hL h0 hcl
      have hlen := oTd_le o (N := 480) (by omega) (fun x hx => isPr_lt ho hs (isPr_rch ho hs is0 (hL x hx)))
      unfold bX8_agreesWithHouse_31
      refine ⟨22, (f.cR hr).get 0 6 22 (by decide), ?_⟩
      rw [c.1]
      exact br_t (nI_le (by omega) (by omega)) (done i y L f o c h0 hcl (by omega))
    | succ n ih =>
      intro i y L hn f o c hL h0 hcl
      have hlen := oTd_le o (N := 480) (by omega) (fun x hx => isPr_lt ho hs (isPr_rch ho hs is0 (hL x hx)))
      unfold bX8_agreesWithHouse_31
      refine ⟨22, (f.cR hr).get 0 6 22 (by decide), ?_⟩
      rw [c.1]
      refine pk_le L.length i (fun z => done i y L f o c h0 hcl z) (fun z => ?_) rfl rfl
      refine br_f (by rw [show (480 : Int32) = nI 480 by decide]; exact nI_ge (by omega) (by omega)) ⟨22, (f.cR hr).get 0 6 22 (by decide), 23, (f.cR hr).get 22 0 23 (by decide), vp_in_nI (by omega) (by decide), ?_⟩
      have hge := List.getElem?_eq_getElem (show i < L.length by omega)
      generalize L[i] = x at hge
      have hrx := hL x (List.mem_of_getElem? hge)
      have hprx := isPr_rch ho hs is0 hrx
      have hx480 := isPr_lt ho hs hprx
      obtain ⟨p, cc, hp, hcc, ex⟩ := hprx
      have hst := st_lt ho.1 hcc.1 hcc.2
      rw [nI_clamp (by omega), c.2.1 i x hge]
      rintro _ rfl
      rw [i_div (by omega) k80 (by decide) (by decide), show nI x - nI (x / 80) * 80 = nI (x % 80) by rw [← i_div (by omega) k80 (by decide) (by decide)]; exact i_rem (by omega) k80 (by decide) (by decide)]
      rw [show x / 80 = p by omega, show x % 80 = stI cc by omega]
      have okx : okP h s x ↔ okQ h s p cc := by rw [ex]; exact okP_at ho hcc
      have fx : ∀ a, fP h s x a = fQ h s p cc a := fun a => by rw [ex]; exact fP_at ho hcc
      have bad : ¬ okQ h s p cc → ∀ v L', fr pTd u v → oTd L' → cTd L' v → (((0 : Int32) = 0 → K 0 v) ∧ (¬ ((0 : Int32) = 0) → (∀ x_9, x_9 = nI i + (1 : Int32) → bX8_agreesWithHouse_31 (n + 1) 0 q x_9 v K))) := by
        intro hb v L' fv ov cv
        exact br_t rfl (k 0 v L' ⟨fun hA => absurd (okx.mp (eT.mp hA x hrx)) hb, fun _ => rfl⟩ fv ov cv)
      have ca := hc.td hq f
      unfold bX8_agreesAt
      refine ⟨q + 1, by rw [f.2.1]; exact r0, vp_in_nI (by omega) (by decide), 1, (f.cR hr).get 0 0 1 (by decide), 2, (f.cR hr).get 1 0 2 (by decide), s_cellOf (by omega) hcc.2 ⟨vp_in_nI (by have := hcc.1; omega) (by decide), ?_⟩⟩
      have hcc1 := hcc.1
      rw [nI_clamp (by omega), nI_clamp (by omega), ca.2.2.2.1 p hp, ((hchf y f).2.1 cc.1 hcc.1).1]
      have hsg1 := hs.2.1 p hp
      have hsg2 := ho.2.1 cc.1 hcc.1
      refine pk_eq (s.2.2.2.1 p) (h.2.1 cc.1) (fun zs => ?_) (fun zs => bad (fun hok => zs hok.1) y L f o c) rfl rfl
      have inner : ∀ m a y L, a + m = 5 → fr pTd u y → oTd L → cTd L y → (∀ x ∈ L, rch (fP h s) x0 x) → x0 ∈ L → L[i]? = some x → (∀ j x, j < i → L[j]? = some x → okP h s x ∧ ∀ a, a < 5 → fP h s x a ∈ L) → (∀ b, b < a → (s.2.2.2.2 (5 * p + b) ≠ 0 → (s.2.2.2.2 (5 * p + b) = 1 ↔ xStep h cc b = none)) ∧ fP h s x b ∈ L) → bX8_agreesAt_26 (m + 1) 0 q (nI p) (nI (stI cc)) (nI a) y (fun r_8 u_7 => ((r_8 = 0 → K 0 u_7) ∧ (¬ (r_8 = 0) → (∀ x_9, x_9 = nI i + (1 : Int32) → bX8_agreesWithHouse_31 (n + 1) 0 q x_9 u_7 K)))) := by
        intro m
        induction m with
        | zero =>
          intro a y L ha f o c hL h0 hge hcl hb
          unfold bX8_agreesAt_26
          refine br_t (by rw [k5]; exact nI_le (by omega) (by omega)) (br_f (by decide) ?_)
          rintro _ rfl
          rw [nI_1]
          refine ih (i + 1) y L (by omega) f o c hL h0 (fun j x' hj hjx => ?_)
          by_cases zj : j = i
          · subst zj
            rw [hge] at hjx
            cases hjx
            exact ⟨okx.mpr ⟨zs, fun b hb5 => (hb b (by omega)).1⟩, fun b hb5 => (hb b (by omega)).2⟩
          · exact hcl j x' (by omega) hjx
        | succ m ihm =>
          intro a y L ha f o c hL h0 hge hcl hb
          have ca := hc.td hq f
          have hlt := (hs.2.2 (5 * p + a) (by omega)).1
          have ra : mR y q 1 = some (q + 2) := by rw [f.2.1]; exact r1
          have go : ∀ v L', fr pTd y v → oTd L' → cTd L' v → (∀ z, z ∈ L → z ∈ L') → (∀ z, z ∈ L' → z ∈ L ∨ z = fP h s x a) → fP h s x a ∈ L' → (∀ (j z : Nat), L[j]? = some z → L'[j]? = some z) → (s.2.2.2.2 (5 * p + a) ≠ 0 → (s.2.2.2.2 (5 * p + a) = 1 ↔ xStep h cc a = none)) → bX8_agreesAt_114 0 q (nI p) (nI (stI cc)) (nI a) v (fun r_8 u_7 => ((r_8 = 0 → K 0 u_7) ∧ (¬ (r_8 = 0) → (∀ x_9, x_9 = nI i + (1 : Int32) → bX8_agreesWithHouse_31 (n + 1) 0 q x_9 u_7 K)))) (fun z0 z1 z2 z3 z4 z5 => bX8_agreesAt_26 (m + 1) z0 z1 z2 z3 z4 z5 (fun r_8 u_7 => ((r_8 = 0 → K 0 u_7) ∧ (¬ (r_8 = 0) → (∀ x_9, x_9 = nI i + (1 : Int32) → bX8_agreesWithHouse_31 (n + 1) 0 q x_9 u_7 K))))) := by
            intro v L' g o' c' m1 m2 m3 m4 hok
            unfold bX8_agreesAt_114
            rintro _ rfl
            rw [nI_1]
            refine ihm (a + 1) v L' (by omega) (f.tr g) o' c' (fun z hz => ?_) (m1 _ h0) (m4 i x hge) (fun j x' hj hjx => ?_) (fun b hb' => ?_)
            · rcases m2 z hz with hz | rfl
              · exact hL z hz
              · exact rch_nx hrx (by omega)
            · have hj' : L[j]? = some x' := by
                have hjl : j < L.length := by have := (List.getElem?_eq_some_iff.mp hge).1; omega
                have := m4 j _ (List.getElem?_eq_getElem hjl)
                rw [hjx] at this
                rw [List.getElem?_eq_getElem hjl]
                exact this.symm
              obtain ⟨c1, c2⟩ := hcl j x' hj hj'
              exact ⟨c1, fun a' ha' => m1 _ (c2 a' ha')⟩
            · by_cases zb : b = a
              · rw [zb]; exact ⟨hok, m3⟩
              · obtain ⟨c1, c2⟩ := hb b (by omega)
                exact ⟨c1, m1 _ c2⟩
          have hxL := List.mem_of_getElem? hge
          unfold bX8_agreesAt_26
          refine br_f (by rw [k5]; exact nI_ge (by omega) (by omega)) (s_leadFrom h6 ra ca hp (by omega) ?_)
          have fxa := fx a
          unfold fQ at fxa
          have hbl : ∀ (X : Prop), (okQ h s p cc → (s.2.2.2.2 (5 * p + a) ≠ 0 → (s.2.2.2.2 (5 * p + a) = 1 ↔ xStep h cc a = none))) := fun _ hok => hok.2 a (by omega)
          have hbl' := hbl True
          generalize s.2.2.2.2 (5 * p + a) = l at *
          match l, hlt, fxa, go, hbl' with
          | 0, hlt, fxa, go, hbl' =>
            refine br_t rfl (go y L (fr.rf _ _) o c (fun _ hz => hz) (fun _ hz => Or.inl hz) ?_ (fun _ _ hz => hz) (fun h => absurd rfl h))
            rw [fxa, ← ex]; exact hxL
          | 1, hlt, fxa, go, hbl' =>
            refine br_f (by decide) ⟨1, (f.cR hr).get 0 0 1 (by decide), s_after (f.cR hr) ho (hchf y f) hcc (by omega) (br_t rfl ?_)⟩
            unfold bX8_agreesAt_75
            cases e : xStep h cc a with
            | none =>
              refine br_t rfl ?_
              unfold bX8_agreesAt_87
              refine br_t rfl (br_t rfl (go y L (fr.rf _ _) o c (fun _ hz => hz) (fun _ hz => Or.inl hz) ?_ (fun _ _ hz => hz) (fun _ => by simp [e])))
              rw [fxa, ← ex]; exact hxL
            | some c' =>
              have hst' : stI c' < 80 := by have := xStep_ok ho hcc e; exact st_lt ho.1 this.1 this.2
              refine br_f (nI_m2 (by omega)) ?_
              unfold bX8_agreesAt_87
              refine br_f (by decide) (bad (fun hok => ?_) y L f o c)
              have := (hbl' hok (by omega)).mp rfl
              rw [e] at this; cases this
          | b + 2, hlt, fxa, go, hbl' =>
            refine br_f (nI_m3 (by omega)) ⟨1, (f.cR hr).get 0 0 1 (by decide), s_after (f.cR hr) ho (hchf y f) hcc (by omega) (br_f (nI_m2 (by omega)) ?_)⟩
            unfold bX8_agreesAt_75
            cases e : xStep h cc a with
            | none =>
              refine br_t rfl ?_
              unfold bX8_agreesAt_87
              refine br_f (by decide) (bad (fun hok => ?_) y L f o c)
              have := (hbl' hok (by omega)).mpr e
              omega
            | some c' =>
              have hst' : stI c' < 80 := by have := xStep_ok ho hcc e; exact st_lt ho.1 this.1 this.2
              rw [e] at fxa
              dsimp only at fxa
              refine br_f (nI_m2 (by omega)) ?_
              unfold bX8_agreesAt_87
              refine br_t rfl (br_f (nI_m2 (by omega)) ⟨22, (f.cR hr).get 0 6 22 (by decide), ?_⟩)
              rw [show lI (b + 2) * 80 + sdI (some c') = nI (fP h s x a) by rw [fxa]; show nI b * 80 + nI (stI c') = _; rw [k80, pk_mul, nI_add, Nat.mul_comm]]
              have hlt' : fP h s x a < 480 := by rw [fxa]; omega
              refine s_addOnce (f.cR hr) o c hlt' (fun v g cv => go v _ g (oTd_add o hlt') cv (fun z hz => mem_tAdd.mpr (Or.inl hz)) (fun z hz => mem_tAdd.mp hz) (mem_tAdd.mpr (Or.inr rfl)) (fun j z hz => tAdd_get hz) (fun _ => by simp [e]))
      refine ⟨6, ?_⟩
      have := inner 5 0 y L (by omega) f o c hL h0 hge hcl (fun b hb => by omega)
      rw [nI_0] at this
      exact this
  unfold bX8_agreesWithHouse
  refine ⟨22, hr.get 0 6 22 (by decide), s_clear hr od td (fun v f c => ⟨22, (f.cR hr).get 0 6 22 (by decide), 1, (f.cR hr).get 0 0 1 (by decide), ?_⟩)⟩
  rw [(hc.td hq f).2.1, f.at (p := 1) rfl, e5, k80, pk_mul, nI_add, Nat.mul_comm, hx0]
  refine s_addOnce (f.cR hr) oTd_nil c hlt0 (fun y g cy => ⟨481, ?_⟩)
  have e : tAdd [] x0 = [x0] := by simp [tAdd]
  rw [e] at cy
  have oo : oTd [x0] := by have := oTd_add oTd_nil (x := x0) hlt0; rw [e] at this; exact this
  have := outer 480 0 y [x0] (by omega) (f.tr g) oo cy (fun x hx => by
    have : x = x0 := by simpa using hx
    rw [this]; exact rch_rf _ _) (by simp) (fun j x hj => by omega)
  rw [nI_0] at this
  exact this
def isTr (h : aHo) (w : aWk) (t : aAt) (a1 : Int32) (r : Int32) : Prop := match dec a1 t.2.2.length with
  | none => r = -1
  | some k => match t.2.2[k]? with
    | none => r = -1
    | some s => isB (allT h w s) r
theorem C_isTrue {h : aHo} {w : aWk} {t : aAt} {pn ps : Nat} {g : Nat → Nat → Option Nat} {L0 : List Nat} {u : mSt} {a1 : Int32} {K : Int32 → mSt → Prop} (hr : cRf u) (hh : oHo h) (hw : oWk h w) (ho : oAt w t) (hch : cHo h u) (hcw : cWk w u) (ht : cAt t pn ps g u) (od : oTd L0) (td : cTd L0 u) (k : ∀ r v L, isTr h w t a1 r → fr pTd u v → oTd L → cTd L v → K r v) : bX8_isTrue 0 a1 u K := by
  have r2 := hr.get 0 2 9 (by decide)
  have hl := ho.2.2.2.1
  have hpn : pn = 10 ∨ pn = 11 := by rcases ht.1.1 with ⟨q, -⟩ | ⟨q, -⟩ <;> omega
  unfold bX8_isTrue
  unfold isTr at k
  refine ⟨9, r2, ?_⟩
  rw [ht.2.1]
  refine s_withinN rfl (by omega) _ _ (fun i hi e => br_f (by decide) ?_) (fun e => br_t rfl ?_)
  · rw [dec_some (n := t.2.2.length) (by omega) hi e] at k
    have hge := List.getElem?_eq_getElem hi
    generalize t.2.2[i] = s at hge
    simp only [hge] at k
    have h1 : w.1 = true := by
      cases hw1 : w.1
      · rw [ho.2.1 hw1] at hi; simp at hi
      · rfl
    obtain ⟨q, q1, q2⟩ := ht.2.2.2.2 i s hge
    obtain ⟨x1, x2, x3, x4⟩ := ht.1.2.2.2.2.1 pn i q hpn (by omega) q1
    refine ⟨9, r2, pn, ht.1.2.1, ?_⟩
    rw [e, nI_clamp (by omega), ht.1.2.2.2.1 pn i hpn (by omega)]
    refine ⟨vp_in_nI (by omega) (by decide), q, q1, s_agrees hr hh hw hch hcw h1 (ho.2.2.2.2 s (List.mem_of_getElem? hge)).1 x1 q2 x3 x4 od td (fun r v L hb f o c => ?_)⟩
    by_cases hA : allT h w s
    · rw [hb.1 hA]
      exact br_f (by decide) (k 1 v L ⟨fun _ => rfl, fun h => absurd hA h⟩ f o c)
    · rw [hb.2 hA]
      exact br_t rfl (k 0 v L ⟨fun h => absurd h hA, fun _ => rfl⟩ f o c)
  · rw [dec_none (n := t.2.2.length) (by omega) e] at k
    exact k _ u L0 rfl (fr.rf _ _) od td
