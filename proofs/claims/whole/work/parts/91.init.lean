/-! THE CONSTRUCTORS: n places and z slots, ints A and references B, all else 0 -/
def lkI : List (Nat × Nat × Nat × Int32) → Nat → Nat → Int32
  | [], _, _ => 0
  | t :: A, p, i => if p = t.1 ∧ t.2.1 ≤ i ∧ i < t.2.2.1 then t.2.2.2 else lkI A p i
def lkR : List (Nat × Nat × Nat) → Nat → Nat → Option Nat
  | [], _, _ => none
  | t :: B, p, i => if p = t.1 ∧ i = t.2.1 then some t.2.2 else lkR B p i
theorem lkI_no {A : List (Nat × Nat × Nat × Int32)} {p : Nat} (h : A.all (fun t => decide (t.1 ≠ p)) = true) (i : Nat) : lkI A p i = 0 := by
  induction A with
  | nil => rfl
  | cons t A ih =>
    simp only [List.all_cons, Bool.and_eq_true, decide_eq_true_eq] at h
    simp only [lkI]
    rw [if_neg (fun q => h.1 q.1.symm)]
    exact ih h.2
theorem lkR_no {B : List (Nat × Nat × Nat)} {p : Nat} (h : B.all (fun t => decide (t.1 ≠ p)) = true) (i : Nat) : lkR B p i = none := by
  induction B with
  | nil => rfl
  | cons t B ih =>
    simp only [List.all_cons, Bool.and_eq_true, decide_eq_true_eq] at h
    simp only [lkR]
    rw [if_neg (fun q => h.1 q.1.symm)]
    exact ih h.2
def iS (n z : Nat) (A : List (Nat × Nat × Nat × Int32)) (B : List (Nat × Nat × Nat)) (u : mSt) : Prop := mN u = n ∧ mT u = z ∧ (∀ p, p < n → ∀ i, mI u p i = lkI A p i) ∧ (∀ p, p < n → ∀ i, mR u p i = lkR B p i) ∧ ∀ p, p < n → ∀ i, mL u p i = 0
theorem lt_ne {n : Nat} : ∀ {t : Nat}, decide (t < n) = true → decide (t ≠ n) = true := fun h => by simp at h ⊢; omega
theorem nw_step {n z m z' c k : Nat} {A : List (Nat × Nat × Nat × Int32)} {B : List (Nat × Nat × Nat)} {u : mSt} {Kt : Nat → mSt → Prop} (s : iS n z A B u) (hm : m = n + 1) (hz : z' = z + k) (hA : A.all (fun t => decide (t.1 < n)) = true) (hB : B.all (fun t => decide (t.1 < n)) = true) (hr : n + 1 ≤ 601024 ∧ z + k ≤ 7293033) (kk : ∀ v, iS m z' A B v → Kt n v) : ((mN u + 1 ≤ mCapC ∧ mT u + k ≤ mCapS) ∧ ∀ p v, p = mN u → v = mnw u c k → Kt p v) := by
  obtain ⟨s1', s2', s3', s4', s5'⟩ := s
  refine ⟨by rw [s1', s2']; exact hr, ?_⟩
  rintro _ _ rfl rfl
  rw [s1']
  have hA' : A.all (fun t => decide (t.1 ≠ n)) = true := List.all_eq_true.mpr (fun t ht => lt_ne (List.all_eq_true.mp hA t ht))
  have hB' : B.all (fun t => decide (t.1 ≠ n)) = true := List.all_eq_true.mpr (fun t ht => lt_ne (List.all_eq_true.mp hB t ht))
  refine kk _ ⟨?_, ?_, fun p hp i => ?_, fun p hp i => ?_, fun p hp i => ?_⟩
  · show mN u + 1 = m; rw [s1', hm]
  · show mT u + k = z'; rw [s2', hz]
  · show mrow (mI u) (mN u) (fun _ => 0) p i = _
    by_cases z : p = mN u
    · rw [z, mrow_self, s1', lkI_no hA']
    · rw [mrow_ne _ z]; exact s3' p (by omega) i
  · show mrow (mR u) (mN u) (fun _ => none) p i = _
    by_cases z : p = mN u
    · rw [z, mrow_self, s1', lkR_no hB']
    · rw [mrow_ne _ z]; exact s4' p (by omega) i
  · show mrow (mL u) (mN u) (fun _ => 0) p i = _
    by_cases z : p = mN u
    · rw [z, mrow_self]
    · rw [mrow_ne _ z]; exact s5' p (by omega) i
theorem pR_step {n z p i q : Nat} {A : List (Nat × Nat × Nat × Int32)} {B : List (Nat × Nat × Nat)} {u : mSt} {Kt : mSt → Prop} (s : iS n z A B u) (kk : ∀ v, iS n z A ((p, i, q) :: B) v → Kt v) : ∀ v, v = mpR u p i (some q) → Kt v := by
  rintro _ rfl
  obtain ⟨s1', s2', s3', s4', s5'⟩ := s
  refine kk _ ⟨s1', s2', s3', fun p' hp i' => ?_, s5'⟩
  rw [s5, mup_at]
  simp only [lkR]
  by_cases z : p' = p ∧ i' = i
  · rw [if_pos z, if_pos z]
  · rw [if_neg z, if_neg z]; exact s4' p' hp i'
theorem pI_step {n z p i : Nat} {x : Int32} {A : List (Nat × Nat × Nat × Int32)} {B : List (Nat × Nat × Nat)} {u : mSt} {Kt : mSt → Prop} (s : iS n z A B u) (kk : ∀ v, iS n z ((p, i, i + 1, x) :: A) B v → Kt v) : ∀ v, v = mpI u p i x → Kt v := by
  rintro _ rfl
  obtain ⟨s1', s2', s3', s4', s5'⟩ := s
  refine kk _ ⟨s1', s2', fun p' hp i' => ?_, s4', s5'⟩
  rw [s1, mup_at]
  simp only [lkI]
  by_cases z : p' = p ∧ i' = i
  · rw [if_pos z, if_pos ⟨z.1, by omega, by omega⟩]
  · rw [if_neg z, if_neg (fun q => z ⟨q.1, by omega⟩)]; exact s3' p' hp i'
theorem fill_step {n z p n2 : Nat} {x : Int32} {A : List (Nat × Nat × Nat × Int32)} {B : List (Nat × Nat × Nat)} {u : mSt} {Kt : mSt → Prop} (s : iS n z A B u) (kk : ∀ v, iS n z ((p, 0, n2, x) :: A) B v → Kt v) : Kt (mrI u p (fun j => if j < n2 then x else mI u p j)) := by
  obtain ⟨s1', s2', s3', s4', s5'⟩ := s
  refine kk _ ⟨s1', s2', fun p' hp i' => ?_, s4', s5'⟩
  rw [s10]
  simp only [lkI]
  by_cases z : p' = p
  · rw [z, mrow_self]
    by_cases z2 : i' < n2
    · rw [if_pos z2, if_pos ⟨rfl, by omega, z2⟩]
    · rw [if_neg z2, if_neg (fun q => z2 q.2.2), ← z]; exact s3' p' hp i'
  · rw [mrow_ne _ z, if_neg (fun q => z q.1)]; exact s3' p' hp i'
theorem iS.gR {n z p i q : Nat} {A : List (Nat × Nat × Nat × Int32)} {B : List (Nat × Nat × Nat)} {u : mSt} (s : iS n z A B u) (hp : p < n) (e : lkR B p i = some q) : mR u p i = some q := by rw [s.2.2.2.1 p hp]; exact e
theorem iS.gI {n z p i : Nat} {x : Int32} {A : List (Nat × Nat × Nat × Int32)} {B : List (Nat × Nat × Nat)} {u : mSt} (s : iS n z A B u) (hp : p < n) (e : lkI A p i = x) : mI u p i = x := by rw [s.2.2.1 p hp]; exact e
def AC : List (Nat × Nat × Nat × Int32) := [(40, 1, 2, 0), (38, 1, 2, 0), (36, 1, 2, 0), (34, 1, 2, 0), (32, 1, 2, 0), (30, 1, 2, 0), (28, 1, 2, 0), (26, 1, 2, 0), (21, 0, 30, -3), (19, 4, 5, -2), (1, 6, 7, -2)]
def BC : List (Nat × Nat × Nat) := [(25, 7, 40), (40, 0, 41), (25, 6, 38), (38, 0, 39), (25, 5, 36), (36, 0, 37), (25, 4, 34), (34, 0, 35), (25, 3, 32), (32, 0, 33), (25, 2, 30), (30, 0, 31), (25, 1, 28), (28, 0, 29), (25, 0, 26), (26, 0, 27), (0, 7, 25), (0, 6, 22), (22, 1, 24), (22, 0, 23), (0, 5, 19), (19, 1, 21), (19, 0, 20), (0, 4, 16), (16, 1, 18), (16, 0, 17), (0, 3, 12), (12, 2, 15), (12, 1, 14), (12, 0, 13), (0, 2, 9), (9, 1, 11), (9, 0, 10), (0, 1, 6), (6, 1, 8), (6, 0, 7), (0, 0, 1), (1, 3, 5), (1, 2, 4), (1, 1, 3), (1, 0, 2)]
set_option maxRecDepth 4000 in
theorem s_initC {u : mSt} {K : mSt → Prop} (s : iS 1 9 [] [] u) (k : ∀ v, iS 42 5228 AC BC v → K v) : bX8_init 0 u K := by
  unfold bX8_init
  refine nw_step (m := 2) (z' := 16) s rfl rfl rfl rfl (by decide) (fun u s => ?_)
  unfold bX1_init
  refine nw_step (m := 3) (z' := 26) s rfl rfl rfl rfl (by decide) (fun u s => ?_)
  refine pR_step s (fun u s => ?_)
  refine nw_step (m := 4) (z' := 36) s rfl rfl rfl rfl (by decide) (fun u s => ?_)
  refine pR_step s (fun u s => ?_)
  refine nw_step (m := 5) (z' := 76) s rfl rfl rfl rfl (by decide) (fun u s => ?_)
  refine pR_step s (fun u s => ?_)
  refine nw_step (m := 6) (z' := 116) s rfl rfl rfl rfl (by decide) (fun u s => ?_)
  refine pR_step s (fun u s => ?_)
  refine pI_step s (fun u s => ?_)
  refine pR_step s (fun u s => ?_)
  refine nw_step (m := 7) (z' := 119) s rfl rfl rfl rfl (by decide) (fun u s => ?_)
  unfold bX7_init
  refine nw_step (m := 8) (z' := 319) s rfl rfl rfl rfl (by decide) (fun u s => ?_)
  refine pR_step s (fun u s => ?_)
  refine nw_step (m := 9) (z' := 519) s rfl rfl rfl rfl (by decide) (fun u s => ?_)
  refine pR_step s (fun u s => ?_)
  refine pR_step s (fun u s => ?_)
  refine nw_step (m := 10) (z' := 525) s rfl rfl rfl rfl (by decide) (fun u s => ?_)
  unfold bX0_init
  refine nw_step (m := 11) (z' := 676) s rfl rfl rfl rfl (by decide) (fun u s => ?_)
  refine pR_step s (fun u s => ?_)
  refine nw_step (m := 12) (z' := 827) s rfl rfl rfl rfl (by decide) (fun u s => ?_)
  refine pR_step s (fun u s => ?_)
  refine pR_step s (fun u s => ?_)
  refine nw_step (m := 13) (z' := 831) s rfl rfl rfl rfl (by decide) (fun u s => ?_)
  unfold bX2_init
  refine nw_step (m := 14) (z' := 981) s rfl rfl rfl rfl (by decide) (fun u s => ?_)
  refine pR_step s (fun u s => ?_)
  refine nw_step (m := 15) (z' := 1131) s rfl rfl rfl rfl (by decide) (fun u s => ?_)
  refine pR_step s (fun u s => ?_)
  refine nw_step (m := 16) (z' := 3681) s rfl rfl rfl rfl (by decide) (fun u s => ?_)
  refine pR_step s (fun u s => ?_)
  refine pR_step s (fun u s => ?_)
  refine nw_step (m := 17) (z' := 3684) s rfl rfl rfl rfl (by decide) (fun u s => ?_)
  unfold bX3_init
  refine nw_step (m := 18) (z' := 3690) s rfl rfl rfl rfl (by decide) (fun u s => ?_)
  refine pR_step s (fun u s => ?_)
  refine nw_step (m := 19) (z' := 3696) s rfl rfl rfl rfl (by decide) (fun u s => ?_)
  refine pR_step s (fun u s => ?_)
  refine pR_step s (fun u s => ?_)
  refine nw_step (m := 20) (z' := 3701) s rfl rfl rfl rfl (by decide) (fun u s => ?_)
  unfold bX4_init
  refine nw_step (m := 21) (z' := 3707) s rfl rfl rfl rfl (by decide) (fun u s => ?_)
  refine pR_step s (fun u s => ?_)
  refine nw_step (m := 22) (z' := 3737) s rfl rfl rfl rfl (by decide) (fun u s => ?_)
  refine pR_step s (fun u s => ?_)
  refine pI_step s (fun u s => ?_)
  refine ⟨21, s.gR (by decide) rfl, ?_⟩
  unfold bJ7_fill_53178
  refine fill_step (n2 := 30) (x := -3) s ?_
  intro u s
  refine pR_step s (fun u s => ?_)
  refine nw_step (m := 23) (z' := 3740) s rfl rfl rfl rfl (by decide) (fun u s => ?_)
  unfold bX6_init
  refine nw_step (m := 24) (z' := 4220) s rfl rfl rfl rfl (by decide) (fun u s => ?_)
  refine pR_step s (fun u s => ?_)
  refine nw_step (m := 25) (z' := 4700) s rfl rfl rfl rfl (by decide) (fun u s => ?_)
  refine pR_step s (fun u s => ?_)
  refine pR_step s (fun u s => ?_)
  refine nw_step (m := 26) (z' := 4708) s rfl rfl rfl rfl (by decide) (fun u s => ?_)
  refine pR_step s (fun u s => ?_)
  refine ⟨9, ?_⟩
  unfold bX8_init_92
  refine br_f (by decide) ⟨25, s.gR (by decide) rfl, ?_⟩
  refine nw_step (m := 27) (z' := 4713) s rfl rfl rfl rfl (by decide) (fun u s => ?_)
  unfold bX5_init
  refine nw_step (m := 28) (z' := 4773) s rfl rfl rfl rfl (by decide) (fun u s => ?_)
  refine pR_step s (fun u s => ?_)
  refine pI_step s (fun u s => ?_)
  refine ⟨by unfold vp_in; decide, ?_⟩
  rw [show (0 : Int32).toNatClampNeg = 0 by decide]
  refine pR_step s (fun u s => ?_)
  rintro _ rfl
  rw [show (0 : Int32) + 1 = 1 by decide]
  unfold bX8_init_92
  refine br_f (by decide) ⟨25, s.gR (by decide) rfl, ?_⟩
  refine nw_step (m := 29) (z' := 4778) s rfl rfl rfl rfl (by decide) (fun u s => ?_)
  unfold bX5_init
  refine nw_step (m := 30) (z' := 4838) s rfl rfl rfl rfl (by decide) (fun u s => ?_)
  refine pR_step s (fun u s => ?_)
  refine pI_step s (fun u s => ?_)
  refine ⟨by unfold vp_in; decide, ?_⟩
  rw [show (1 : Int32).toNatClampNeg = 1 by decide]
  refine pR_step s (fun u s => ?_)
  rintro _ rfl
  rw [show (1 : Int32) + 1 = 2 by decide]
  unfold bX8_init_92
  refine br_f (by decide) ⟨25, s.gR (by decide) rfl, ?_⟩
  refine nw_step (m := 31) (z' := 4843) s rfl rfl rfl rfl (by decide) (fun u s => ?_)
  unfold bX5_init
  refine nw_step (m := 32) (z' := 4903) s rfl rfl rfl rfl (by decide) (fun u s => ?_)
  refine pR_step s (fun u s => ?_)
  refine pI_step s (fun u s => ?_)
  refine ⟨by unfold vp_in; decide, ?_⟩
  rw [show (2 : Int32).toNatClampNeg = 2 by decide]
  refine pR_step s (fun u s => ?_)
  rintro _ rfl
  rw [show (2 : Int32) + 1 = 3 by decide]
  unfold bX8_init_92
  refine br_f (by decide) ⟨25, s.gR (by decide) rfl, ?_⟩
  refine nw_step (m := 33) (z' := 4908) s rfl rfl rfl rfl (by decide) (fun u s => ?_)
  unfold bX5_init
  refine nw_step (m := 34) (z' := 4968) s rfl rfl rfl rfl (by decide) (fun u s => ?_)
  refine pR_step s (fun u s => ?_)
  refine pI_step s (fun u s => ?_)
  refine ⟨by unfold vp_in; decide, ?_⟩
  rw [show (3 : Int32).toNatClampNeg = 3 by decide]
  refine pR_step s (fun u s => ?_)
  rintro _ rfl
  rw [show (3 : Int32) + 1 = 4 by decide]
  unfold bX8_init_92
  refine br_f (by decide) ⟨25, s.gR (by decide) rfl, ?_⟩
  refine nw_step (m := 35) (z' := 4973) s rfl rfl rfl rfl (by decide) (fun u s => ?_)
  unfold bX5_init
  refine nw_step (m := 36) (z' := 5033) s rfl rfl rfl rfl (by decide) (fun u s => ?_)
  refine pR_step s (fun u s => ?_)
  refine pI_step s (fun u s => ?_)
  refine ⟨by unfold vp_in; decide, ?_⟩
  rw [show (4 : Int32).toNatClampNeg = 4 by decide]
  refine pR_step s (fun u s => ?_)
  rintro _ rfl
  rw [show (4 : Int32) + 1 = 5 by decide]
  unfold bX8_init_92
  refine br_f (by decide) ⟨25, s.gR (by decide) rfl, ?_⟩
  refine nw_step (m := 37) (z' := 5038) s rfl rfl rfl rfl (by decide) (fun u s => ?_)
  unfold bX5_init
  refine nw_step (m := 38) (z' := 5098) s rfl rfl rfl rfl (by decide) (fun u s => ?_)
  refine pR_step s (fun u s => ?_)
  refine pI_step s (fun u s => ?_)
  refine ⟨by unfold vp_in; decide, ?_⟩
  rw [show (5 : Int32).toNatClampNeg = 5 by decide]
  refine pR_step s (fun u s => ?_)
  rintro _ rfl
  rw [show (5 : Int32) + 1 = 6 by decide]
  unfold bX8_init_92
  refine br_f (by decide) ⟨25, s.gR (by decide) rfl, ?_⟩
  refine nw_step (m := 39) (z' := 5103) s rfl rfl rfl rfl (by decide) (fun u s => ?_)
  unfold bX5_init
  refine nw_step (m := 40) (z' := 5163) s rfl rfl rfl rfl (by decide) (fun u s => ?_)
  refine pR_step s (fun u s => ?_)
  refine pI_step s (fun u s => ?_)
  refine ⟨by unfold vp_in; decide, ?_⟩
  rw [show (6 : Int32).toNatClampNeg = 6 by decide]
  refine pR_step s (fun u s => ?_)
  rintro _ rfl
  rw [show (6 : Int32) + 1 = 7 by decide]
  unfold bX8_init_92
  refine br_f (by decide) ⟨25, s.gR (by decide) rfl, ?_⟩
  refine nw_step (m := 41) (z' := 5168) s rfl rfl rfl rfl (by decide) (fun u s => ?_)
  unfold bX5_init
  refine nw_step (m := 42) (z' := 5228) s rfl rfl rfl rfl (by decide) (fun u s => ?_)
  refine pR_step s (fun u s => ?_)
  refine pI_step s (fun u s => ?_)
  refine ⟨by unfold vp_in; decide, ?_⟩
  rw [show (7 : Int32).toNatClampNeg = 7 by decide]
  refine pR_step s (fun u s => ?_)
  rintro _ rfl
  rw [show (7 : Int32) + 1 = 8 by decide]
  unfold bX8_init_92
  refine br_t (by decide) (k u s)
def AM : List (Nat × Nat × Nat × Int32) := [(67, 29, 30, 7), (67, 28, 29, 7), (67, 27, 28, 7), (67, 26, 27, 7), (67, 25, 26, 7), (67, 24, 25, 7), (67, 23, 24, 7), (67, 22, 23, 7), (67, 21, 22, 7), (67, 20, 21, 7), (67, 19, 20, 7), (67, 18, 19, 7), (67, 17, 18, 7), (67, 16, 17, 7), (67, 15, 16, 7), (67, 14, 15, 7), (67, 13, 14, 7), (67, 12, 13, 7), (67, 11, 12, 7), (67, 10, 11, 7), (67, 9, 10, 7), (67, 8, 9, 7), (67, 7, 8, 7), (67, 6, 7, 7), (67, 5, 6, 7), (67, 4, 5, 7), (67, 3, 4, 7), (67, 2, 3, 7), (67, 1, 2, 7), (67, 0, 1, 7), (40, 1, 2, 0), (38, 1, 2, 0), (36, 1, 2, 0), (34, 1, 2, 0), (32, 1, 2, 0), (30, 1, 2, 0), (28, 1, 2, 0), (26, 1, 2, 0), (21, 0, 30, -3), (19, 4, 5, -2), (1, 6, 7, -2)]
def BM : List (Nat × Nat × Nat) := [(42, 51, 75), (42, 50, 74), (42, 49, 73), (42, 48, 72), (42, 47, 71), (42, 46, 70), (42, 45, 69), (42, 44, 68), (42, 43, 67), (42, 42, 66), (42, 41, 65), (42, 39, 64), (42, 38, 63), (42, 33, 62), (42, 32, 61), (42, 31, 60), (42, 30, 59), (42, 29, 58), (42, 28, 57), (42, 26, 56), (42, 25, 55), (42, 24, 54), (42, 23, 53), (42, 22, 52), (42, 21, 51), (42, 16, 50), (42, 15, 49), (42, 14, 48), (42, 13, 47), (42, 5, 46), (42, 4, 45), (42, 3, 44), (42, 2, 43), (25, 7, 40), (40, 0, 41), (25, 6, 38), (38, 0, 39), (25, 5, 36), (36, 0, 37), (25, 4, 34), (34, 0, 35), (25, 3, 32), (32, 0, 33), (25, 2, 30), (30, 0, 31), (25, 1, 28), (28, 0, 29), (25, 0, 26), (26, 0, 27), (0, 7, 25), (0, 6, 22), (22, 1, 24), (22, 0, 23), (0, 5, 19), (19, 1, 21), (19, 0, 20), (0, 4, 16), (16, 1, 18), (16, 0, 17), (0, 3, 12), (12, 2, 15), (12, 1, 14), (12, 0, 13), (0, 2, 9), (9, 1, 11), (9, 0, 10), (0, 1, 6), (6, 1, 8), (6, 0, 7), (0, 0, 1), (1, 3, 5), (1, 2, 4), (1, 1, 3), (1, 0, 2)]
set_option maxRecDepth 4000 in
theorem s_initM {u : mSt} {K : mSt → Prop} (s : iS 43 5280 AC BC u) (k : ∀ v, iS 76 80260 AM BM v → K v) : bX9_init 42 u K := by
  unfold AC BC at s
  unfold bX9_init
  refine nw_step (m := 44) (z' := 5290) s rfl rfl rfl rfl (by decide) (fun u s => ?_)
  refine pR_step s (fun u s => ?_)
  refine nw_step (m := 45) (z' := 5300) s rfl rfl rfl rfl (by decide) (fun u s => ?_)
  refine pR_step s (fun u s => ?_)
  refine nw_step (m := 46) (z' := 5340) s rfl rfl rfl rfl (by decide) (fun u s => ?_)
  refine pR_step s (fun u s => ?_)
  refine nw_step (m := 47) (z' := 5380) s rfl rfl rfl rfl (by decide) (fun u s => ?_)
  refine pR_step s (fun u s => ?_)
  refine nw_step (m := 48) (z' := 5580) s rfl rfl rfl rfl (by decide) (fun u s => ?_)
  refine pR_step s (fun u s => ?_)
  refine nw_step (m := 49) (z' := 5780) s rfl rfl rfl rfl (by decide) (fun u s => ?_)
  refine pR_step s (fun u s => ?_)
  refine nw_step (m := 50) (z' := 5980) s rfl rfl rfl rfl (by decide) (fun u s => ?_)
  refine pR_step s (fun u s => ?_)
  refine nw_step (m := 51) (z' := 6180) s rfl rfl rfl rfl (by decide) (fun u s => ?_)
  refine pR_step s (fun u s => ?_)
  refine nw_step (m := 52) (z' := 6330) s rfl rfl rfl rfl (by decide) (fun u s => ?_)
  refine pR_step s (fun u s => ?_)
  refine nw_step (m := 53) (z' := 7230) s rfl rfl rfl rfl (by decide) (fun u s => ?_)
  refine pR_step s (fun u s => ?_)
  refine nw_step (m := 54) (z' := 11730) s rfl rfl rfl rfl (by decide) (fun u s => ?_)
  refine pR_step s (fun u s => ?_)
  refine nw_step (m := 55) (z' := 11880) s rfl rfl rfl rfl (by decide) (fun u s => ?_)
  refine pR_step s (fun u s => ?_)
  refine nw_step (m := 56) (z' := 12030) s rfl rfl rfl rfl (by decide) (fun u s => ?_)
  refine pR_step s (fun u s => ?_)
  refine nw_step (m := 57) (z' := 42180) s rfl rfl rfl rfl (by decide) (fun u s => ?_)
  refine pR_step s (fun u s => ?_)
  refine nw_step (m := 58) (z' := 42330) s rfl rfl rfl rfl (by decide) (fun u s => ?_)
  refine pR_step s (fun u s => ?_)
  refine nw_step (m := 59) (z' := 43230) s rfl rfl rfl rfl (by decide) (fun u s => ?_)
  refine pR_step s (fun u s => ?_)
  refine nw_step (m := 60) (z' := 47730) s rfl rfl rfl rfl (by decide) (fun u s => ?_)
  refine pR_step s (fun u s => ?_)
  refine nw_step (m := 61) (z' := 47880) s rfl rfl rfl rfl (by decide) (fun u s => ?_)
  refine pR_step s (fun u s => ?_)
  refine nw_step (m := 62) (z' := 48030) s rfl rfl rfl rfl (by decide) (fun u s => ?_)
  refine pR_step s (fun u s => ?_)
  refine nw_step (m := 63) (z' := 78180) s rfl rfl rfl rfl (by decide) (fun u s => ?_)
  refine pR_step s (fun u s => ?_)
  refine nw_step (m := 64) (z' := 78186) s rfl rfl rfl rfl (by decide) (fun u s => ?_)
  refine pR_step s (fun u s => ?_)
  refine nw_step (m := 65) (z' := 79086) s rfl rfl rfl rfl (by decide) (fun u s => ?_)
  refine pR_step s (fun u s => ?_)
  refine nw_step (m := 66) (z' := 79092) s rfl rfl rfl rfl (by decide) (fun u s => ?_)
  refine pR_step s (fun u s => ?_)
  refine nw_step (m := 67) (z' := 79098) s rfl rfl rfl rfl (by decide) (fun u s => ?_)
  refine pR_step s (fun u s => ?_)
  refine nw_step (m := 68) (z' := 79128) s rfl rfl rfl rfl (by decide) (fun u s => ?_)
  refine ⟨by unfold vp_in; decide, ?_⟩
  rw [show (0 : Int32).toNatClampNeg = 0 by decide]
  refine pI_step s (fun u s => ?_)
  refine ⟨by unfold vp_in; decide, ?_⟩
  rw [show (1 : Int32).toNatClampNeg = 1 by decide]
  refine pI_step s (fun u s => ?_)
  refine ⟨by unfold vp_in; decide, ?_⟩
  rw [show (2 : Int32).toNatClampNeg = 2 by decide]
  refine pI_step s (fun u s => ?_)
  refine ⟨by unfold vp_in; decide, ?_⟩
  rw [show (3 : Int32).toNatClampNeg = 3 by decide]
  refine pI_step s (fun u s => ?_)
  refine ⟨by unfold vp_in; decide, ?_⟩
  rw [show (4 : Int32).toNatClampNeg = 4 by decide]
  refine pI_step s (fun u s => ?_)
  refine ⟨by unfold vp_in; decide, ?_⟩
  rw [show (5 : Int32).toNatClampNeg = 5 by decide]
  refine pI_step s (fun u s => ?_)
  refine ⟨by unfold vp_in; decide, ?_⟩
  rw [show (6 : Int32).toNatClampNeg = 6 by decide]
  refine pI_step s (fun u s => ?_)
  refine ⟨by unfold vp_in; decide, ?_⟩
  rw [show (7 : Int32).toNatClampNeg = 7 by decide]
  refine pI_step s (fun u s => ?_)
  refine ⟨by unfold vp_in; decide, ?_⟩
  rw [show (8 : Int32).toNatClampNeg = 8 by decide]
  refine pI_step s (fun u s => ?_)
  refine ⟨by unfold vp_in; decide, ?_⟩
  rw [show (9 : Int32).toNatClampNeg = 9 by decide]
  refine pI_step s (fun u s => ?_)
  refine ⟨by unfold vp_in; decide, ?_⟩
  rw [show (10 : Int32).toNatClampNeg = 10 by decide]
  refine pI_step s (fun u s => ?_)
  refine ⟨by unfold vp_in; decide, ?_⟩
  rw [show (11 : Int32).toNatClampNeg = 11 by decide]
  refine pI_step s (fun u s => ?_)
  refine ⟨by unfold vp_in; decide, ?_⟩
  rw [show (12 : Int32).toNatClampNeg = 12 by decide]
  refine pI_step s (fun u s => ?_)
  refine ⟨by unfold vp_in; decide, ?_⟩
  rw [show (13 : Int32).toNatClampNeg = 13 by decide]
  refine pI_step s (fun u s => ?_)
  refine ⟨by unfold vp_in; decide, ?_⟩
  rw [show (14 : Int32).toNatClampNeg = 14 by decide]
  refine pI_step s (fun u s => ?_)
  refine ⟨by unfold vp_in; decide, ?_⟩
  rw [show (15 : Int32).toNatClampNeg = 15 by decide]
  refine pI_step s (fun u s => ?_)
  refine ⟨by unfold vp_in; decide, ?_⟩
  rw [show (16 : Int32).toNatClampNeg = 16 by decide]
  refine pI_step s (fun u s => ?_)
  refine ⟨by unfold vp_in; decide, ?_⟩
  rw [show (17 : Int32).toNatClampNeg = 17 by decide]
  refine pI_step s (fun u s => ?_)
  refine ⟨by unfold vp_in; decide, ?_⟩
  rw [show (18 : Int32).toNatClampNeg = 18 by decide]
  refine pI_step s (fun u s => ?_)
  refine ⟨by unfold vp_in; decide, ?_⟩
  rw [show (19 : Int32).toNatClampNeg = 19 by decide]
  refine pI_step s (fun u s => ?_)
  refine ⟨by unfold vp_in; decide, ?_⟩
  rw [show (20 : Int32).toNatClampNeg = 20 by decide]
  refine pI_step s (fun u s => ?_)
  refine ⟨by unfold vp_in; decide, ?_⟩
  rw [show (21 : Int32).toNatClampNeg = 21 by decide]
  refine pI_step s (fun u s => ?_)
  refine ⟨by unfold vp_in; decide, ?_⟩
  rw [show (22 : Int32).toNatClampNeg = 22 by decide]
  refine pI_step s (fun u s => ?_)
  refine ⟨by unfold vp_in; decide, ?_⟩
  rw [show (23 : Int32).toNatClampNeg = 23 by decide]
  refine pI_step s (fun u s => ?_)
  refine ⟨by unfold vp_in; decide, ?_⟩
  rw [show (24 : Int32).toNatClampNeg = 24 by decide]
  refine pI_step s (fun u s => ?_)
  refine ⟨by unfold vp_in; decide, ?_⟩
  rw [show (25 : Int32).toNatClampNeg = 25 by decide]
  refine pI_step s (fun u s => ?_)
  refine ⟨by unfold vp_in; decide, ?_⟩
  rw [show (26 : Int32).toNatClampNeg = 26 by decide]
  refine pI_step s (fun u s => ?_)
  refine ⟨by unfold vp_in; decide, ?_⟩
  rw [show (27 : Int32).toNatClampNeg = 27 by decide]
  refine pI_step s (fun u s => ?_)
  refine ⟨by unfold vp_in; decide, ?_⟩
  rw [show (28 : Int32).toNatClampNeg = 28 by decide]
  refine pI_step s (fun u s => ?_)
  refine ⟨by unfold vp_in; decide, ?_⟩
  rw [show (29 : Int32).toNatClampNeg = 29 by decide]
  refine pI_step s (fun u s => ?_)
  refine pR_step s (fun u s => ?_)
  refine nw_step (m := 69) (z' := 79608) s rfl rfl rfl rfl (by decide) (fun u s => ?_)
  refine pR_step s (fun u s => ?_)
  refine nw_step (m := 70) (z' := 79688) s rfl rfl rfl rfl (by decide) (fun u s => ?_)
  refine pR_step s (fun u s => ?_)
  refine nw_step (m := 71) (z' := 79696) s rfl rfl rfl rfl (by decide) (fun u s => ?_)
  refine pR_step s (fun u s => ?_)
  refine nw_step (m := 72) (z' := 79704) s rfl rfl rfl rfl (by decide) (fun u s => ?_)
  refine pR_step s (fun u s => ?_)
  refine nw_step (m := 73) (z' := 79712) s rfl rfl rfl rfl (by decide) (fun u s => ?_)
  refine pR_step s (fun u s => ?_)
  refine nw_step (m := 74) (z' := 79720) s rfl rfl rfl rfl (by decide) (fun u s => ?_)
  refine pR_step s (fun u s => ?_)
  refine nw_step (m := 75) (z' := 80200) s rfl rfl rfl rfl (by decide) (fun u s => ?_)
  refine pR_step s (fun u s => ?_)
  refine nw_step (m := 76) (z' := 80260) s rfl rfl rfl rfl (by decide) (fun u s => ?_)
  refine pR_step s (fun u s => ?_)
  exact k u s
