/-! what an act keeps -/
theorem put_ok {s : aSh} {evs : List aEv} {e : aEv} {a l sg m : Nat} (hev : ∀ e ∈ evs, e.1 < 6) (hs : oSh 6 s) (hsm : s.1 ≤ m) (hm : m ≤ 6) (hi : oHi s evs) (ha : a < 5) (he : e.1 = a) (hsg : sg < 4) (hl0 : l ≠ 0) (hl : s.2.2.2.2 (5 * s.2.1 + a) = 0 ∨ s.2.2.2.2 (5 * s.2.1 + a) = l) (hl2 : l < s.1 + 2 ∨ (l = s.1 + 2 ∧ s.1 < m)) (h41 : a = 4 → l ≠ 1) : oSh 6 (shPut s a l sg) ∧ (shPut s a l sg).1 ≤ m ∧ oHi (shPut s a l sg) (evs ++ [e]) := by
  have hp := oHi_put (sg := sg) hev hs hi ha he hl0 hl
  obtain ⟨⟨s1', s2', s3', s4'⟩, s5', s6'⟩ := hs
  have h1 : s.1 ≤ (shPut s a l sg).1 := by simp only [shPut]; split <;> omega
  have h2 : (shPut s a l sg).1 ≤ m := by simp only [shPut]; split <;> omega
  refine ⟨⟨⟨by omega, by omega, ?_, fun q hq => ?_⟩, fun p hp => ?_, fun x hx => ?_⟩, h2, hp.1⟩
  · simp only [shPut]
    split <;> split <;> omega
  · have := s4' q hq; omega
  · simp only [shPut] at hp ⊢
    by_cases z : l = s.1 + 2
    · rw [if_pos z] at hp ⊢
      unfold va_up
      by_cases z2 : p = s.1
      · rw [if_pos z2]; exact hsg
      · rw [if_neg z2]; exact s5' p (by omega)
    · rw [if_neg z] at hp ⊢
      exact s5' p hp
  · have hlt : l < (shPut s a l sg).1 + 2 := by simp only [shPut]; split <;> omega
    generalize hS : (shPut s a l sg).1 = S at *
    simp only [shPut]
    by_cases z : x = 5 * s.2.1 + a
    · rw [if_pos z]
      exact ⟨hlt, fun z4 => h41 (by omega)⟩
    · rw [if_neg z]
      by_cases z2 : x < 5 * s.1
      · rw [if_pos z2]
        obtain ⟨q1, q2⟩ := s6' x z2
        exact ⟨by omega, q2⟩
      · rw [if_neg z2]; exact ⟨by omega, fun _ => by omega⟩
theorem new_ok {s s' : aSh} {evs : List aEv} {e : aEv} {a sg m : Nat} {b pb : Bool} (hev : ∀ e ∈ evs, e.1 < 6) (hs : oSh 6 s) (hsm : s.1 ≤ m) (hm : m ≤ 6) (hi : oHi s evs) (ha : a < 5) (he : e.1 = a) (hsg : sg < 4) (h4 : a = 4 → b = false) (hbp : b = true → (decide (s.2.2.1 = some s.2.1) = pb)) (hin : s' ∈ shNew m a b sg pb s) : oSh 6 s' ∧ s'.1 ≤ m ∧ oHi s' (evs ++ [e]) ∧ s'.2.2.1 = s.2.2.1 ∧ decide (s'.2.2.1 = some s'.2.1) = pb := by
  unfold shNew at hin
  obtain ⟨l, hl, rfl⟩ := List.mem_map.mp hin
  have hpk := fun h1 h2 h3 h4 => put_ok (l := l) (sg := sg) hev hs hsm hm hi ha he hsg h1 h2 h3 h4
  obtain ⟨⟨s1', s2', s3', s4'⟩, s5', s6'⟩ := hs
  have hx := s6' (5 * s.2.1 + a) (by omega)
  have wl : ∀ l, 2 ≤ l → (shPut s a l sg).2.1 = l - 2 := fun l h => by simp only [shPut]; rw [if_neg (by omega)]
  unfold shOut at hl
  by_cases z0 : s.2.2.2.2 (5 * s.2.1 + a) = 0
  · rw [if_pos z0] at hl
    by_cases zb : b = true
    · rw [if_pos zb] at hl
      have : l = 1 := by simpa using hl
      subst this
      obtain ⟨g1, g2, g3⟩ := hpk (by omega) (Or.inl z0) (Or.inl (by omega)) (fun q => by rw [h4 q] at zb; cases zb)
      exact ⟨g1, g2, g3, rfl, hbp zb⟩
    · rw [if_neg zb] at hl
      rcases List.mem_append.mp hl with hl | hl
      · obtain ⟨q, hq, rfl⟩ := List.mem_map.mp hl
        obtain ⟨q1, q2⟩ := List.mem_filter.mp hq
        have q1 : q < s.1 := by simpa using q1
        obtain ⟨g1, g2, g3⟩ := hpk (by omega) (Or.inl z0) (Or.inl (by omega)) (fun _ => by omega)
        refine ⟨g1, g2, g3, rfl, ?_⟩
        rw [wl (q + 2) (by omega), Nat.add_sub_cancel]
        unfold fitP at q2
        simp only [Bool.and_eq_true, beq_iff_eq] at q2
        exact q2.2
      · split at hl
        · rename_i zz
          have : l = s.1 + 2 := by simpa using hl
          subst this
          obtain ⟨g1, g2, g3⟩ := hpk (by omega) (Or.inl z0) (Or.inr ⟨rfl, zz.1⟩) (fun _ => by omega)
          refine ⟨g1, g2, g3, rfl, ?_⟩
          rw [wl (s.1 + 2) (by omega), Nat.add_sub_cancel, zz.2]
          have : ¬ s.2.2.1 = some s.1 := fun q => by have := s4' _ q; omega
          exact decide_eq_false this
        · simp at hl
  · rw [if_neg z0] at hl
    by_cases z1 : s.2.2.2.2 (5 * s.2.1 + a) = 1
    · rw [if_pos z1] at hl
      split at hl
      · rename_i zz
        have : l = 1 := by simpa using hl
        subst this
        obtain ⟨g1, g2, g3⟩ := hpk (by omega) (Or.inr z1) (Or.inl (by omega)) (fun q => by have := hx.2 (by omega); omega)
        refine ⟨g1, g2, g3, rfl, hbp zz.1⟩
      · simp at hl
    · rw [if_neg z1] at hl
      split at hl
      · rename_i zz
        have : l = s.2.2.2.2 (5 * s.2.1 + a) := by simpa using hl
        obtain ⟨g1, g2, g3⟩ := hpk (by omega) (Or.inr this.symm) (Or.inl (by omega)) (fun _ => by omega)
        refine ⟨g1, g2, g3, rfl, ?_⟩
        have q2 := zz.2
        unfold fitP at q2
        simp only [Bool.and_eq_true, beq_iff_eq] at q2
        rw [wl l (by omega), this]
        exact q2.2
      · simp at hl
def oPb (w : aWk) (t : aAt) : Prop := ∀ s ∈ t.2.2, (s.2.2.1 = none ↔ w.2.2.1 = none) ∧ (s.2.2.1 = some s.2.1 ↔ w.2.2.1 = some w.2.1.1)
def oTr (w : aWk) (t : aAt) : Prop := ∀ s ∈ t.2.2, oHi s w.2.2.2
theorem acB_4 {h : aHo} {w : aWk} : acB h w 4 = false := by unfold acB xStep; simp
theorem acB_c {h : aHo} {w : aWk} {a : Nat} (hb : acB h w a = true) : acC h w a = w.2.1 ∧ a ≠ 5 := by
  unfold acB at hb
  unfold acC
  by_cases z : a = 5
  · rw [if_pos z] at hb; cases hb
  · rw [if_neg z] at hb ⊢
    cases e : xStep h w.2.1 a with
    | none => exact ⟨rfl, z⟩
    | some c => rw [e] at hb; cases hb
theorem acNew_ok {h : aHo} {w : aWk} {t : aAt} {a : Nat} {s' : aSh} (hh : oHo h) (hw : oWk h w) (hot : oAt w t) (hpb : oPb w t) (htr : oTr w t) (h1 : w.1 = true) (ha : a < 5) (hin : s' ∈ atNew t a (acB h w a) (h.2.1 (acC h w a).1) (acH h w a)) : oSh 6 s' ∧ s'.1 ≤ t.1 ∧ oHi s' (acW h w a).2.2.2 ∧ (s'.2.2.1 = none ↔ w.2.2.1 = none) ∧ (s'.2.2.1 = some s'.2.1 ↔ (acW h w a).2.2.1 = some (acC h w a).1) := by
  unfold atNew at hin
  obtain ⟨s, hs, hin⟩ := List.mem_flatMap.mp hin
  obtain ⟨o1, o2⟩ := hot.2.2.2.2 s hs
  obtain ⟨⟨q1, q2⟩, q3⟩ := ac_ok hh hw h1 (a := a) (by omega)
  obtain ⟨p1, p2⟩ := hpb s hs
  have e5 : acP w a = w.2.2.1 := by unfold acP; rw [if_neg (by omega)]
  obtain ⟨g1, g2, g3, g4, g5⟩ := new_ok (e := acE h w a) (fun e he => (hw.2.2.2 e he).1) o1 (o2 h1) (hot.1 h1).2 (htr s hs) ha rfl (hh.2.1 _ q1) (fun z => by rw [z]; exact acB_4) (fun zb => by
    unfold acH
    rw [e5, (acB_c zb).1]
    exact decide_eq_decide.mpr p2) hin
  refine ⟨g1, g2, g3, by rw [g4]; exact p1, ?_⟩
  unfold acH at g5
  exact decide_eq_decide.mp g5
theorem xMv_self {p : Option Nat} {c : Nat} : (xMv p c = none ↔ p = some c) ∧ (xMv p c = some c ↔ p = none) := by
  cases p with
  | none => simp [xMv]
  | some d =>
    simp only [xMv]
    by_cases z : d = c
    · simp [z]
    · simp [z]
theorem acT_ok {h : aHo} {w : aWk} {t : aAt} {a : Nat} (hh : oHo h) (hw : oWk h w) (hot : oAt w t) (hpb : oPb w t) (htr : oTr w t) (h1 : w.1 = true) (ha : a < 6) : oAt (acW h w a) (acT h w t a) ∧ oPb (acW h w a) (acT h w t a) ∧ oTr (acW h w a) (acT h w t a) := by
  obtain ⟨t1, t2, t3, t4, t5⟩ := hot
  unfold acT
  by_cases z : a = 5
  · rw [if_pos z]
    have eP : acP w a = xMv w.2.2.1 w.2.1.1 := by unfold acP; rw [if_pos z]
    have eC : acC h w a = w.2.1 := by unfold acC; rw [if_pos z]
    refine ⟨⟨fun _ => t1 h1, fun q => by simp [acW] at q, fun q => by simp [t3 q], by simpa using t4, fun s' hs' => ?_⟩, fun s' hs' => ?_, fun s' hs' => ?_⟩
    · obtain ⟨s, hs, rfl⟩ := List.mem_map.mp hs'
      obtain ⟨⟨⟨s1', s2', s3', s4'⟩, s5', s6'⟩, o2⟩ := t5 s hs
      exact ⟨⟨⟨s1', s2', s3', xMv_lt s4' s3'⟩, s5', s6'⟩, fun _ => o2 h1⟩
    · obtain ⟨s, hs, rfl⟩ := List.mem_map.mp hs'
      obtain ⟨p1, p2⟩ := hpb s hs
      simp only [acW, shPeb]
      rw [eP, eC]
      refine ⟨?_, ?_⟩
      · rw [xMv_self.1, xMv_self.1]; exact p2
      · rw [xMv_self.2, xMv_self.2]; exact p1
    · obtain ⟨s, hs, rfl⟩ := List.mem_map.mp hs'
      exact (oHi_peb (e := acE h w a) (htr s hs) (t5 s hs).1 z).1
  · rw [if_neg z]
    have hnew := fun s' hin => acNew_ok (s' := s') hh hw ⟨t1, t2, t3, t4, t5⟩ hpb htr h1 (a := a) (by omega) hin
    have eP : acP w a = w.2.2.1 := by unfold acP; rw [if_neg z]
    unfold atAdv
    by_cases zs : (t.2.1 || decide (150 < (atNew t a (acB h w a) (h.2.1 (acC h w a).1) (acH h w a)).length)) = true
    · rw [if_pos zs]
      exact ⟨⟨fun _ => t1 h1, fun _ => rfl, fun _ => rfl, by simp, fun s' hs' => by simp at hs'⟩, fun s' hs' => by simp at hs', fun s' hs' => by simp at hs'⟩
    · rw [if_neg zs]
      have zl : ¬ 150 < (atNew t a (acB h w a) (h.2.1 (acC h w a).1) (acH h w a)).length := by simp at zs; omega
      refine ⟨⟨fun _ => t1 h1, fun q => by simp [acW] at q, fun q => absurd q zs, Nat.not_lt.mp zl, fun s' hs' => ?_⟩, fun s' hs' => ?_, fun s' hs' => ?_⟩
      · obtain ⟨g1, g2, g3, g4, g5⟩ := hnew s' hs'
        exact ⟨g1, fun _ => g2⟩
      · obtain ⟨g1, g2, g3, g4, g5⟩ := hnew s' hs'
        exact ⟨by simp only [acW]; rw [eP]; exact g4, g5⟩
      · exact (hnew s' hs').2.2.1
