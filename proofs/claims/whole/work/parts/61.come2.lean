def nOne (s : aSh) (n : Nat) (y : mSt) : Prop := mI y 57 n = nI s.1 ∧ mI y 60 n = nI s.2.1 ∧ mI y 61 n = pbI s.2.2.1 ∧ (∀ p, p < s.1 → mI y 58 (6 * n + p) = nI (s.2.2.2.1 p)) ∧ ∀ x, x < 5 * s.1 → mI y 59 (30 * n + x) = lI (s.2.2.2.2 x)
def nHi (s : aSh) (evs : List aEv) (n : Nat) (y : mSt) : Prop := ∀ i, i ≤ evs.length → mI y 62 (201 * n + i) = nI (xPl s evs i)
def rHi (s : aSh) (evs : List aEv) (n : Nat) (y : mSt) : Prop := ∀ i, i ≤ evs.length → mI y 56 (201 * n + i) = nI (xPl s evs i)
def pN : Nat → Nat → Bool := fun p i => (decide (57 ≤ p) && decide (p ≤ 62)) || (p == 42 && (i == 20 || i == 27))
theorem pC_N {n p i : Nat} (e : pN p i = false) : pC n p i = false := by
  have h : ¬ (57 ≤ p ∧ p ≤ 62) ∧ ¬ (p = 42 ∧ (i = 20 ∨ i = 27)) := by
    constructor
    · intro z; simp [pN, z.1, z.2] at e
    · rintro ⟨rfl, rfl | rfl⟩ <;> simp [pN] at e
  simp [pC, p62, p589]; omega
def aCx (h : aHo) (c : Nat) (P : Option Nat) (b : Bool) (m : Nat) (T : List aSh) (evs : List aEv) (u0 : mSt) : Prop := rRf u0 ∧ rHo h u0 ∧ mI u0 42 7 = nI c ∧ mI u0 42 10 = pbI P ∧ mI u0 42 11 = b2i b ∧ mI u0 42 18 = nI m ∧ mI u0 42 12 = nI (evs.length + 1) ∧ mI u0 42 19 = nI T.length ∧ ∀ k s, T[k]? = some s → rOne s k u0 ∧ rHi s evs k u0
def oCx (h : aHo) (c : Nat) (P : Option Nat) (m : Nat) (T : List aSh) (evs : List aEv) : Prop := oHo h ∧ c < h.1 ∧ (∀ d, P = some d → d < h.1) ∧ m ≤ 6 ∧ T.length ≤ 150 ∧ evs.length < 200 ∧ (∀ e ∈ evs, e.1 < 6) ∧ ∀ s ∈ T, oSh 6 s ∧ oHi s evs
def rRun (u0 : mSt) (ev' : List aEv) (L : List aSh) (y : mSt) : Prop := fr pN u0 y ∧ mI y 42 27 = nI (min 150 L.length) ∧ mI y 42 20 = b2i (decide (150 < L.length)) ∧ ∀ n s, n < 150 → L[n]? = some s → nOne s n y ∧ nHi s ev' n y ∧ s.1 ≤ 6
theorem aCx.fr {h : aHo} {c m : Nat} {P : Option Nat} {b : Bool} {T : List aSh} {evs : List aEv} {u0 y : mSt} (x : aCx h c P b m T evs u0) (f : fr pN u0 y) : aCx h c P b m T evs y := by
  obtain ⟨x1, x2, x3, x4, x5, x6, x7, x8, x9⟩ := x
  refine ⟨f.rR x1, x2.fr f rfl (fun _ => rfl) (fun _ => rfl) (fun _ => rfl) (fun _ => rfl), ?_, ?_, ?_, ?_, ?_, ?_, fun k s hk => ?_⟩
  · rw [f.at rfl, x3]
  · rw [f.at rfl, x4]
  · rw [f.at rfl, x5]
  · rw [f.at rfl, x6]
  · rw [f.at rfl, x7]
  · rw [f.at rfl, x8]
  · have := x9 k s hk
    unfold rOne rHi at *
    rw [f.row (p := 51) (fun _ => rfl), f.row (p := 52) (fun _ => rfl), f.row (p := 53) (fun _ => rfl), f.row (p := 54) (fun _ => rfl), f.row (p := 55) (fun _ => rfl), f.row (p := 56) (fun _ => rfl)]
    exact this
theorem rRun_add {u0 y v : mSt} {ev' : List aEv} {L : List aSh} {s' : aSh} (r : rRun u0 ev' L y) (hev : ev'.length ≤ 200) (hn : L.length < 150) (f : fr (pC L.length) y v) (e27 : mI v 42 27 = nI (L.length + 1)) (h1 : nOne s' L.length v) (h2 : nHi s' ev' L.length v) (h6 : s'.1 ≤ 6) : rRun u0 ev' (L ++ [s']) v := by
  obtain ⟨r1, r2, r3, r4⟩ := r
  refine ⟨r1.tr (f.up (fun p i e => pC_N e)), ?_, ?_, fun n s hn' hs => ?_⟩
  · rw [e27, List.length_append]; congr 1; simp; omega
  · have e20 : pC L.length 42 20 = false := by simp [pC, p62, p589]
    rw [f.at e20, r3, List.length_append]; congr 1; simp; omega
  · by_cases z : n = L.length
    · subst z
      rw [List.getElem?_append_right (by omega), Nat.sub_self] at hs
      cases hs
      exact ⟨h1, h2, h6⟩
    · have hlt : n < L.length := by
        have := (List.getElem?_eq_some_iff.mp hs).1
        rw [List.length_append] at this
        simp at this; omega
      rw [List.getElem?_append_left hlt] at hs
      obtain ⟨⟨q1, q2, q3, q4, q5⟩, q6, q7⟩ := r4 n s hn' hs
      refine ⟨⟨?_, ?_, ?_, fun p hp => ?_, fun x hx => ?_⟩, fun i hi => ?_, q7⟩
      · rw [f.at (by simp [pC, p62, p589, z])]; exact q1
      · rw [f.at (by simp [pC, p62, p589, z])]; exact q2
      · rw [f.at (by simp [pC, p62, p589, z])]; exact q3
      · rw [f.at (by simp [pC, p62, p589]; omega)]; exact q4 p hp
      · rw [f.at (by simp [pC, p62, p589]; omega)]; exact q5 x hx
      · rw [f.at (by simp [pC, p62, p589]; omega)]; exact q6 i hi
theorem rRun_full {u0 y : mSt} {ev' : List aEv} {L M : List aSh} (r : rRun u0 ev' L y) (hn : 150 ≤ L.length) (hM : 0 < M.length) : rRun u0 ev' (L ++ M) (mpI y 42 20 1) := by
  obtain ⟨r1, r2, r3, r4⟩ := r
  refine ⟨r1.wp _ rfl, ?_, ?_, fun n s hn' hs => ?_⟩
  · rw [up_ne _ _ (by omega), r2, List.length_append]; congr 1; omega
  · rw [up_eq, List.length_append]
    have : 150 < L.length + M.length := by omega
    simp [this, b2i]
  · rw [List.getElem?_append_left (by omega)] at hs
    obtain ⟨⟨q1, q2, q3, q4, q5⟩, q6, q7⟩ := r4 n s hn' hs
    refine ⟨⟨?_, ?_, ?_, fun p hp => ?_, fun x hx => ?_⟩, fun i hi => ?_, q7⟩
    · rw [up_ne _ _ (by omega)]; exact q1
    · rw [up_ne _ _ (by omega)]; exact q2
    · rw [up_ne _ _ (by omega)]; exact q3
    · rw [up_ne _ _ (by omega)]; exact q4 p hp
    · rw [up_ne _ _ (by omega)]; exact q5 x hx
    · rw [up_ne _ _ (by omega)]; exact q6 i hi
theorem rRun_more {u0 y : mSt} {ev' : List aEv} {L : List aSh} (M : List aSh) (r : rRun u0 ev' L y) (hn : 150 < L.length) : rRun u0 ev' (L ++ M) y := by
  obtain ⟨r1, r2, r3, r4⟩ := r
  refine ⟨r1, ?_, ?_, fun n s hn' hs => ?_⟩
  · rw [r2, List.length_append]; congr 1; omega
  · rw [r3, List.length_append]; congr 1; simp; omega
  · rw [List.getElem?_append_left (by omega)] at hs
    exact r4 n s hn' hs
def nRaw (s : aSh) (pl : Nat) (evs : List aEv) (n : Nat) (y v : mSt) : Prop := fr (pC n) y v ∧ mI v 42 27 = nI (n + 1) ∧ mI v 57 n = nI s.1 ∧ mI v 60 n = nI pl ∧ mI v 61 n = pbI s.2.2.1 ∧ (∀ p, p < s.1 → mI v 58 (6 * n + p) = nI (s.2.2.2.1 p)) ∧ (∀ x, x < 5 * s.1 → mI v 59 (30 * n + x) = lI (s.2.2.2.2 x)) ∧ (∀ i, i ≤ evs.length → mI v 62 (201 * n + i) = nI (xPl s evs i)) ∧ mI v 62 (201 * n + (evs.length + 1)) = nI pl
theorem m_come1 {h : aHo} {c m k pl : Nat} {P : Option Nat} {b : Bool} {T L : List aSh} {evs ev' : List aEv} {u0 y : mSt} {s : aSh} {K : mSt → Prop} (o : oCx h c P m T evs) (x : aCx h c P b m T evs u0) (r : rRun u0 ev' L y) (hT : T[k]? = some s) (hpl : pl < 8)
    (k1 : ∀ v, L.length < 150 → nRaw s pl evs L.length y v → K v) (k2 : 150 ≤ L.length → K (mpI y 42 20 1)) : bX9_come 42 (nI k) (nI pl) y K := by
  obtain ⟨o1, o2, o3, o4, o5, o6, o7, o8⟩ := o
  obtain ⟨x1, x2, x3, x4, x5, x6, x7, x8, x9⟩ := x.fr r.1
  have hk := (List.getElem?_eq_some_iff.mp hT).1
  obtain ⟨os, oh⟩ := o8 s (List.mem_of_getElem? hT)
  obtain ⟨⟨q1, q2, q3, q4, q5⟩, q6⟩ := x9 k s hT
  have h6 := os.1.2.1
  by_cases z : L.length < 150
  · refine m_come x1 x7 (by omega) (by omega) z hpl (by rw [r.2.1]; congr 1; omega) (fun i hi => ⟨xPl s evs i, by have := xPl_lt os oh (i := i) (by omega); omega, q6 i (by omega)⟩) (fun v v1 v2 v3 v4 v5 v6 v7 v8 v9 => k1 v z ⟨v1, v2, by rw [v3, q1], v4, by rw [v5, q3], fun p hp => by rw [v6 p (by omega), q4 p hp], fun x hx => by rw [v7 x (by omega), q5 x hx], fun i hi => by rw [v8 i (by omega), q6 i hi], v9⟩)
  · unfold bX9_come
    rw [r.2.1]
    refine br_t ?_ ?_
    · rw [show min 150 L.length = 150 by omega]; decide
    · rintro _ rfl
      exact k2 (by omega)
theorem b2i_1 (b : Bool) : (1 : Int32) = b2i b ↔ b = true := by cases b <;> decide
theorem b2i_00 (b : Bool) : (0 : Int32) = b2i b ↔ b = false := by cases b <;> decide
theorem m_fits {h : aHo} {c m k p : Nat} {P : Option Nat} {b : Bool} {T : List aSh} {evs : List aEv} {y : mSt} {s : aSh} {K : Int32 → mSt → Prop} (o : oCx h c P m T evs) (x : aCx h c P b m T evs y) (hT : T[k]? = some s) (hp : p < s.1) (kk : K (b2i (fitP s p (h.2.1 c) (decide (P = some c)))) y) : bX9_fits 42 (nI k) (nI p) y K := by
  obtain ⟨o1, o2, o3, o4, o5, o6, o7, o8⟩ := o
  obtain ⟨x1, x2, x3, x4, x5, x6, x7, x8, x9⟩ := x
  have hk := (List.getElem?_eq_some_iff.mp hT).1
  obtain ⟨⟨⟨s1', s2', s3', s4'⟩, s5', s6'⟩, oh⟩ := o8 s (List.mem_of_getElem? hT)
  obtain ⟨⟨q1, q2, q3, q4, q5⟩, q6⟩ := x9 k s hT
  have h10 := o1.1
  have hsc := o1.2.1 c o2
  have hsp := s5' p hp
  unfold bX9_fits
  rw [x3, k6n, nI_clamp (by omega), nI_clamp (by omega), nI_clamp (by omega)]
  refine ⟨52, x1.get 42 22 52 (by decide), vp_in_nI (by omega) (by decide), 43, x1.get 42 2 43 (by decide), vp_in_nI (by omega) (by decide), ?_⟩
  rw [q4 p hp, (x2.2.1 c o2).1, nI_eq (by omega) (by omega)]
  have lies : ∀ w0 : Bool, K (b2i (w0 == decide (P = some c))) y → bX9_fits_38 42 (b2i w0) y K := by
    intro w0 kw
    unfold bX9_fits_38 bX9_liesHere
    rw [x4, x3, pb_eq (fun d hd => by have := o3 d hd; omega) (by omega)]
    refine br_c (fun z => ?_) (fun z => ?_)
    · simp only [z, decide_true] at kw
      cases w0
      · exact br_f (by decide) kw
      · exact br_t rfl kw
    · simp only [z, decide_false] at kw
      cases w0
      · exact br_t rfl kw
      · exact br_f (by decide) kw
  unfold fitP at kk
  refine br_c (fun z => ⟨55, x1.get 42 25 55 (by decide), vp_in_nI (by omega) (by decide), ?_⟩) (fun z => ?_)
  · rw [q3, pb_eq (fun d hd => by have := s4' d hd; omega) (by omega)]
    simp only [z, decide_true, Bool.true_and] at kk
    refine br_c (fun z2 => ?_) (fun z2 => ?_)
    · simp only [z2, decide_true] at kk; exact lies true kk
    · simp only [z2, decide_false] at kk; exact lies false kk
  · simp only [z, decide_false, Bool.false_and] at kk; exact kk
theorem m_known {h : aHo} {c m k a : Nat} {P : Option Nat} {b : Bool} {T L : List aSh} {evs : List aEv} {e : aEv} {u0 y : mSt} {s : aSh} {K : mSt → Prop} (o : oCx h c P m T evs) (x : aCx h c P b m T evs u0) (r : rRun u0 (evs ++ [e]) L y) (hT : T[k]? = some s) (ha : a < 5) (he : e.1 = a) (hl : s.2.2.2.2 (5 * s.2.1 + a) ≠ 0)
    (kk : ∀ v, rRun u0 (evs ++ [e]) (L ++ shNew m a b (h.2.1 c) (decide (P = some c)) s) v → K v) : bX9_comeKnown 42 (nI k) (nI a) y K := by
  have x' := x.fr r.1
  have o' := o
  obtain ⟨o1, o2, o3, o4, o5, o6, o7, o8⟩ := o'
  obtain ⟨x1, x2, x3, x4, x5, x6, x7, x8, x9⟩ := x'
  have hk := (List.getElem?_eq_some_iff.mp hT).1
  obtain ⟨os, oh⟩ := o8 s (List.mem_of_getElem? hT)
  have os' := os
  obtain ⟨⟨s1', s2', s3', s4'⟩, s5', s6'⟩ := os'
  obtain ⟨⟨q1, q2, q3, q4, q5⟩, q6⟩ := x9 k s hT
  have hx : 5 * s.2.1 + a < 5 * s.1 := by omega
  have hlt := (s6' _ hx).1
  have ik : vp_in (nI k) 150 := vp_in_nI (by omega) (by decide)
  unfold bX9_comeKnown
  refine ⟨53, x1.get 42 23 53 (by decide), 54, x1.get 42 24 54 (by decide), ik, ?_⟩
  rw [nI_clamp (by omega), q2, k305, nI_clamp (by omega), q5 _ hx]
  refine ⟨vp_in_nI (by omega) (by decide), ?_⟩
  rintro _ rfl
  have go : ∀ l pl : Nat, s.2.2.2.2 (5 * s.2.1 + a) = l → pl = (if l < 2 then s.2.1 else l - 2) → bX9_comeKnown_50 42 (nI k) (nI pl) (b2i (decide (l = 1))) y K := by
    intro l pl el epl
    have hplt : pl < s.1 := by rw [epl]; split <;> omega
    unfold bX9_comeKnown_50
    rw [x5]
    have hout : shNew m a b (h.2.1 c) (decide (P = some c)) s = if (decide (l = 1) = b ∧ fitP s pl (h.2.1 c) (decide (P = some c)) = true) then [shPut s a l (h.2.1 c)] else [] := by
      unfold shNew shOut
      rw [el, if_neg (by omega)]
      by_cases z : l = 1
      · rw [if_pos z, show pl = s.2.1 by rw [epl, if_pos (by omega)], z]
        by_cases zz : b = true ∧ fitP s s.2.1 (h.2.1 c) (decide (P = some c)) = true
        · rw [if_pos zz, if_pos ⟨by simp [zz.1], zz.2⟩]; rfl
        · rw [if_neg zz, if_neg (fun q => zz ⟨by rw [← q.1]; rfl, q.2⟩)]; rfl
      · rw [if_neg z, show pl = l - 2 by rw [epl, if_neg (by omega)]]
        by_cases zz : b = false ∧ fitP s (l - 2) (h.2.1 c) (decide (P = some c)) = true
        · rw [if_pos zz, if_pos ⟨by simp [zz.1, z], zz.2⟩]; rfl
        · rw [if_neg zz, if_neg (fun q => zz ⟨by rw [← q.1]; simp [z], q.2⟩)]; rfl
    rw [hout] at kk
    refine br_c (fun z => ?_) (fun z => kk y ?_)
    · have z : decide (l = 1) = b := by revert z; cases decide (l = 1) <;> cases b <;> decide
      refine m_fits o (x.fr r.1) hT hplt ?_
      rw [b2i_0]
      refine br_c (fun z2 => kk y ?_) (fun z2 => ?_)
      · rw [if_neg (fun q => by rw [z2] at q; exact absurd q.2 (by decide)), List.append_nil]; exact r
      · rw [if_pos ⟨z, by simpa using z2⟩] at kk
        refine m_come1 o x r hT (by omega) (fun v hn hv => kk v ?_) (fun hn => kk _ (rRun_full r hn (by simp)))
        obtain ⟨v1, v2, v3, v4, v5, v6, v7, v8, v9⟩ := hv
        obtain ⟨t1, t2, t3⟩ := oHi_put (sg := h.2.1 c) o7 os oh ha he (by omega) (Or.inr el)
        have hne : ¬ l = s.1 + 2 := by omega
        refine rRun_add r (by simp; omega) hn v1 v2 ⟨?_, ?_, ?_, fun p hp => ?_, fun x hx => ?_⟩ (fun i hi => ?_) (by simp only [shPut]; rw [if_neg hne]; exact s2')
        · rw [v3]; simp only [shPut]; rw [if_neg hne]
        · rw [v4, epl]; rfl
        · rw [v5]; rfl
        · simp only [shPut] at hp ⊢
          rw [if_neg hne] at hp ⊢
          exact v6 p hp
        · simp only [shPut] at hx ⊢
          rw [if_neg hne] at hx
          rw [v7 x hx]
          by_cases zz : x = 5 * s.2.1 + a
          · rw [if_pos zz, zz, el]
          · rw [if_neg zz, if_pos hx]
        · by_cases zz : i = evs.length + 1
          · rw [zz, v9, t3, epl]; rfl
          · have hi' : i ≤ evs.length := by simp at hi; omega
            rw [v8 i hi', t2 i hi']
    · rw [if_neg (fun q => z (by rw [← q.1])), List.append_nil]; exact r
  have hcase : s.2.2.2.2 (5 * s.2.1 + a) = 1 ∨ ∃ n, s.2.2.2.2 (5 * s.2.1 + a) = n + 2 := by
    match s.2.2.2.2 (5 * s.2.1 + a), hl with
    | 1, _ => exact Or.inl rfl
    | n + 2, _ => exact Or.inr ⟨n, rfl⟩
  rcases hcase with el | ⟨n, el⟩
  · rw [el]
    refine br_t rfl ⟨54, x1.get 42 24 54 (by decide), ik, ?_⟩
    rw [q2]
    unfold bX9_comeKnown_37
    exact br_t rfl (go 1 s.2.1 el rfl)
  · rw [el]
    have hn2 : ¬ lI (n + 2) = -2 := nI_m2 (by omega)
    refine br_f hn2 ?_
    unfold bX9_comeKnown_37
    have := go (n + 2) n el (by rw [if_neg (by omega)]; omega)
    rw [show decide (n + 2 = 1) = false by simp] at this
    exact br_f hn2 this
