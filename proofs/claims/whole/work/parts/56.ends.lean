/-! THE MODEL'S ENDS: each point has two; what it has laid tells which covers may still come -/
def eI (T U E : Nat → Nat) (p : Nat) : Prop := (∀ e, U e < 2 ^ p) ∧ (∀ e, 2 * p ≤ e → U e = 0) ∧ (∀ k, k < p → E (2 * k) < 2 * p ∧ E (2 * k + 1) < 2 * p ∧ E (2 * k) ≠ E (2 * k + 1) ∧ ∀ e, (U e).testBit k = true ↔ (e = E (2 * k) ∨ e = E (2 * k + 1))) ∧ (∀ e, U e ≠ 0 → ks_fst (U e) (e / 2)) ∧ (∀ j k, j < p → k < p → j ≠ k → ((T j).testBit k = true ↔ ∃ e, (U e).testBit j = true ∧ (U e).testBit k = true)) ∧ ∀ e e' j k, j ≠ k → (U e).testBit j = true → (U e).testBit k = true → (U e').testBit j = true → (U e').testBit k = true → e = e'
def gv (U : Nat → Nat) (p a b : Nat) : Nat → Nat := fun e => if e = a ∨ e = b then U e ||| 2 ^ p else U e
def gE (E : Nat → Nat) (p a b : Nat) : Nat → Nat := fun i => if i = 2 * p then a else if i = 2 * p + 1 then b else E i
def fre (U : Nat → Nat) (e : Nat) : Prop := e % 2 = 0 ∨ U (e - 1) ≠ U e
def okc (U : Nat → Nat) (p a b : Nat) : Prop := (a = 2 * p ∧ b = 2 * p + 1) ∨ (a < 2 * p ∧ U a ≠ 0 ∧ fre U a ∧ b = 2 * p) ∨ (a < b ∧ b < 2 * p ∧ U a ≠ 0 ∧ U b ≠ 0 ∧ fre U a ∧ fre U b)
def nr (T : Nat → Nat) (p : Nat) : Nat := T p &&& (2 ^ p - 1)
def ftc (T U : Nat → Nat) (p a b : Nat) : Prop := U a &&& U b = 0 ∧ U a ||| U b = nr T p
theorem nr_bit {T : Nat → Nat} {p i : Nat} : (nr T p).testBit i = true ↔ ((T p).testBit i = true ∧ i < p) := by
  unfold nr
  rw [Nat.testBit_and, Bool.and_eq_true, ks_am_bit, decide_eq_true_eq]
theorem gv_n {U : Nat → Nat} {p a b e i : Nat} (hi : i ≠ p) : (gv U p a b e).testBit i = (U e).testBit i := by
  unfold gv
  split
  · rw [Nat.testBit_or, ks_p2, decide_eq_false (Ne.symm hi), Bool.or_false]
  · rfl
theorem gv_p {U : Nat → Nat} {p a b e : Nat} (hU : U e < 2 ^ p) : (gv U p a b e).testBit p = true ↔ (e = a ∨ e = b) := by
  unfold gv
  by_cases h : e = a ∨ e = b
  · rw [if_pos h, Nat.testBit_or, ks_p2, decide_eq_true rfl, Bool.or_true]
    exact ⟨fun _ => h, fun _ => rfl⟩
  · rw [if_neg h, Nat.testBit_lt_two_pow hU]
    exact ⟨fun q => (by cases q), fun q => absurd q h⟩
theorem ftc_or {T U : Nat → Nat} {p a b i : Nat} (h : ftc T U p a b) : (nr T p).testBit i = true ↔ ((U a).testBit i = true ∨ (U b).testBit i = true) := by rw [← h.2, Nat.testBit_or, Bool.or_eq_true]
theorem ftc_no {T U : Nat → Nat} {p a b i : Nat} (h : ftc T U p a b) (ha : (U a).testBit i = true) (hb : (U b).testBit i = true) : False := by
  have := congrArg (fun x => Nat.testBit x i) h.1
  simp only [Nat.testBit_and, ha, hb, Nat.zero_testBit] at this
  cases this
theorem okc_ne {U : Nat → Nat} {p a b : Nat} (h : okc U p a b) : a ≠ b ∧ a < 2 * p + 2 ∧ b < 2 * p + 2 ∧ (U a = 0 → a = 2 * p ∧ b = 2 * p + 1) ∧ (a < 2 * p → U a ≠ 0 ∧ fre U a) ∧ (b < 2 * p → U b ≠ 0 ∧ fre U b) ∧ (a < 2 * p ∨ a = 2 * p) ∧ (b < 2 * p ∨ b = 2 * p ∨ b = 2 * p + 1) := by
  rcases h with ⟨h1, h2⟩ | ⟨h1, h2, h3, h4⟩ | ⟨h1, h2, h3, h4, h5, h6⟩
  · exact ⟨by omega, by omega, by omega, fun _ => ⟨h1, h2⟩, fun q => by omega, fun q => by omega, Or.inr h1, Or.inr (Or.inr h2)⟩
  · exact ⟨by omega, by omega, by omega, fun q => absurd q h2, fun _ => ⟨h2, h3⟩, fun q => by omega, Or.inl h1, Or.inr (Or.inl h4)⟩
  · exact ⟨by omega, by omega, by omega, fun q => absurd q h3, fun _ => ⟨h3, h5⟩, fun _ => ⟨h4, h6⟩, Or.inl (by omega), Or.inl h2⟩
theorem eI_0 {T : Nat → Nat} {E : Nat → Nat} : eI T (fun _ => 0) E 0 := by
  refine ⟨fun e => Nat.zero_lt_one, fun e _ => rfl, fun k hk => absurd hk (Nat.not_lt_zero k), fun e he => absurd rfl he, fun j k hj => absurd hj (Nat.not_lt_zero j), fun e e' j k _ h => ?_⟩
  rw [Nat.zero_testBit] at h
  cases h
theorem eI_s {n p a b : Nat} {T U E : Nat → Nat} (hw : gw n T) (h : eI T U E p) (hc : okc U p a b) (hf : ftc T U p a b) : eI T (gv U p a b) (gE E p a b) (p + 1) := by
  obtain ⟨i1, i2, i3, i4, i5, i6⟩ := h
  obtain ⟨c1, c2, c3, c4, c5, c6, c7, c8⟩ := okc_ne hc
  have bp : ∀ {e k : Nat}, (U e).testBit k = true → k < p := fun {e k} hk => ks_bit_lt (i1 e) hk
  refine ⟨fun e => ks_lt fun i hi => ?_, fun e he => ?_, fun k hk => ?_, fun e he => ?_, fun j k hj hk hjk => ?_, fun e e' j k hjk h1 h2 h3 h4 => ?_⟩
  · by_cases q : i = p
    · omega
    · rw [gv_n q] at hi
      have := bp hi
      omega
  · unfold gv
    rw [if_neg (by omega)]
    exact i2 e (by omega)
  · by_cases q : k = p
    · subst q
      have e1 : gE E k a b (2 * k) = a := if_pos rfl
      have e2 : gE E k a b (2 * k + 1) = b := by
        unfold gE
        rw [if_neg (by omega), if_pos rfl]
      rw [e1, e2]
      exact ⟨by omega, by omega, c1, fun e => gv_p (i1 e)⟩
    · obtain ⟨k1, k2, k3, k4⟩ := i3 k (by omega)
      have e1 : gE E p a b (2 * k) = E (2 * k) := by
        unfold gE
        rw [if_neg (by omega), if_neg (by omega)]
      have e2 : gE E p a b (2 * k + 1) = E (2 * k + 1) := by
        unfold gE
        rw [if_neg (by omega), if_neg (by omega)]
      rw [e1, e2]
      refine ⟨by omega, by omega, k3, fun e => ?_⟩
      rw [gv_n q]
      exact k4 e
  · by_cases q : U e = 0
    · have he' : e = a ∨ e = b := by
        refine Classical.byContradiction fun w => he ?_
        unfold gv
        rw [if_neg w]
        exact q
      have : e / 2 = p := by
        rcases he' with w | w
        · subst w
          have := (c4 q).1
          omega
        · subst w
          rcases c8 with w | w | w
          · exact absurd q (c6 w).1
          · omega
          · omega
      have e2 : gv U p a b e = 2 ^ p := by
        unfold gv
        rw [if_pos he', q, Nat.zero_or]
      rw [this, e2]
      exact ⟨by rw [ks_p2, decide_eq_true rfl], fun i hi => by rw [ks_p2, decide_eq_false (by omega)]⟩
    · obtain ⟨k1, k2⟩ := i4 e q
      have := bp k1
      exact ⟨by rw [gv_n (by omega)]; exact k1, fun i hi => by rw [gv_n (by omega)]; exact k2 i hi⟩
  · have one : ∀ {j : Nat}, j < p → ((T j).testBit p = true ↔ ∃ e, (gv U p a b e).testBit j = true ∧ (gv U p a b e).testBit p = true) := fun {j} hj => by
      have e0 : (T j).testBit p = true ↔ (nr T p).testBit j = true := by
        rw [nr_bit, hw.2.2.2.1 j p]
        exact ⟨fun q => ⟨q, hj⟩, fun q => q.1⟩
      rw [e0, ftc_or hf]
      constructor
      · rintro (q | q)
        · exact ⟨a, by rw [gv_n (by omega)]; exact q, (gv_p (i1 a)).mpr (Or.inl rfl)⟩
        · exact ⟨b, by rw [gv_n (by omega)]; exact q, (gv_p (i1 b)).mpr (Or.inr rfl)⟩
      · rintro ⟨e, q1, q2⟩
        rw [gv_n (by omega)] at q1
        rcases (gv_p (i1 e)).mp q2 with w | w
        · subst w
          exact Or.inl q1
        · subst w
          exact Or.inr q1
    by_cases q : j = p
    · subst q
      have := one (j := k) (by omega)
      rw [hw.2.2.2.1 j k, this]
      exact ⟨fun ⟨e, h1, h2⟩ => ⟨e, h2, h1⟩, fun ⟨e, h1, h2⟩ => ⟨e, h2, h1⟩⟩
    · by_cases q2 : k = p
      · subst q2
        exact one (by omega)
      · rw [i5 j k (by omega) (by omega) hjk]
        constructor
        · rintro ⟨e, h1, h2⟩
          exact ⟨e, by rw [gv_n q]; exact h1, by rw [gv_n q2]; exact h2⟩
        · rintro ⟨e, h1, h2⟩
          rw [gv_n q] at h1
          rw [gv_n q2] at h2
          exact ⟨e, h1, h2⟩
  · have one : ∀ {j : Nat}, j ≠ p → (gv U p a b e).testBit j = true → (gv U p a b e').testBit j = true → (gv U p a b e).testBit p = true → (gv U p a b e').testBit p = true → e = e' := fun {j} hj g1 g2 g3 g4 => by
      rw [gv_n hj] at g1 g2
      rw [gv_p (i1 _)] at g3 g4
      rcases g3 with w | w <;> rcases g4 with v | v <;> subst w <;> subst v
      · rfl
      · exact (ftc_no hf g1 g2).elim
      · exact (ftc_no hf g2 g1).elim
      · rfl
    by_cases q : j = p
    · subst q
      exact one (Ne.symm hjk) h2 h4 h1 h3
    · by_cases q2 : k = p
      · subst q2
        exact one q h1 h3 h2 h4
      · rw [gv_n q] at h1 h3
        rw [gv_n q2] at h2 h4
        exact i6 e e' j k hjk h1 h2 h3 h4
theorem fre_u {T U E : Nat → Nat} {p x y : Nat} (h : eI T U E p) (hx : U x ≠ 0) (e : U x = U y) (fx : fre U x) (fy : fre U y) : x = y := by
  have h1 := h.2.2.2.1 x hx
  have h2 := h.2.2.2.1 y (by rw [← e]; exact hx)
  rw [e] at h1
  have h3 := ks_fst_u h1 h2
  rcases Nat.lt_trichotomy x y with q | q | q
  · rcases fy with w | w
    · omega
    · exact absurd (by rw [show y - 1 = x from by omega]; exact e) w
  · exact q
  · rcases fx with w | w
    · omega
    · exact absurd (by rw [show x - 1 = y from by omega]; exact e.symm) w
/-- which covers may still come -/
def mtc (U : Nat → Nat) (p : Nat) (R : List Nat) : Prop := ∀ e i j, i ≠ j → (U e).testBit i = true → (U e).testBit j = true → ∃ C, C ∈ R ∧ ∀ x, (U e).testBit x = (decide (x < p) && C.testBit x)
theorem mtc_0 {R : List Nat} : mtc (fun _ => 0) 0 R := fun e i j _ h _ => by rw [Nat.zero_testBit] at h; cases h
theorem mt_down {T U E : Nat → Nat} {p a b : Nat} {R : List Nat} (h : eI T U E p) (hm : mtc (gv U p a b) (p + 1) R) : mtc U p R := by
  intro e i j hij h1 h2
  have b1 := ks_bit_lt (h.1 e) h1
  have b2 := ks_bit_lt (h.1 e) h2
  obtain ⟨C, hC, hx⟩ := hm e i j hij (by rw [gv_n (by omega)]; exact h1) (by rw [gv_n (by omega)]; exact h2)
  refine ⟨C, hC, fun x => ?_⟩
  by_cases q : x < p
  · have := hx x
    rw [gv_n (by omega), decide_eq_true (by omega)] at this
    rw [decide_eq_true q]
    exact this
  · rw [decide_eq_false q, Bool.false_and]
    cases u : (U e).testBit x with
    | false => rfl
    | true => exact absurd (ks_bit_lt (h.1 e) u) q
/-- what a clique has below p -/
def cD (C p : Nat) : Nat := C &&& (2 ^ p - 1)
theorem cD_bit {C p i : Nat} : (cD C p).testBit i = (decide (i < p) && C.testBit i) := by
  unfold cD
  rw [Nat.testBit_and, ks_am_bit, Bool.and_comm]
theorem cD_t {C p i : Nat} : (cD C p).testBit i = true ↔ (i < p ∧ C.testBit i = true) := by rw [cD_bit, Bool.and_eq_true, decide_eq_true_eq]
theorem mt_K {n p : Nat} {T U E : Nat → Nat} {R : List Nat} (hw : gw n T) (hR : cvr T z0 R) (h : eI T U E p) (hm : mtc U p R) {C : Nat} (hC : C ∈ R) (hD : cD C p ≠ 0) : ∃ e, e < 2 * p ∧ U e = cD C p ∧ fre U e := by
  have key : ∃ e, U e = cD C p := by
    obtain ⟨i, hi⟩ := ks_ne0.mp hD
    obtain ⟨ip, iC⟩ := cD_t.mp hi
    by_cases q : ∃ j, j ≠ i ∧ (cD C p).testBit j = true
    · obtain ⟨j, ji, hj⟩ := q
      obtain ⟨jp, jC⟩ := cD_t.mp hj
      have ht := (cv_A R T z0 hw hR i j).mpr ⟨Ne.symm ji, C, hC, iC, jC⟩
      obtain ⟨e, e1, e2⟩ := (h.2.2.2.2.1 i j ip jp (Ne.symm ji)).mp ht
      obtain ⟨C', c1, c2⟩ := hm e i j (Ne.symm ji) e1 e2
      have a1 := c2 i
      have a2 := c2 j
      rw [e1, decide_eq_true ip, Bool.true_and] at a1
      rw [e2, decide_eq_true jp, Bool.true_and] at a2
      have := cv_B R T z0 hw hR C' C c1 hC i j (Ne.symm ji) a1.symm a2.symm iC jC
      subst this
      exact ⟨e, ks_ext fun x => by rw [c2 x, cD_bit]⟩
    · have only : ∀ j, (cD C p).testBit j = true → j = i := fun j hj => Classical.byContradiction fun w => q ⟨j, w, hj⟩
      obtain ⟨k1, k2, k3, k4⟩ := h.2.2.1 i ip
      have m1 := (k4 (E (2 * i))).mpr (Or.inl rfl)
      have m2 := (k4 (E (2 * i + 1))).mpr (Or.inr rfl)
      have alone : ∀ e, (U e).testBit i = true → (∀ j, (U e).testBit j = true → j = i) → U e = cD C p := fun e e1 e2 => ks_ext fun x => by
        rw [Bool.eq_iff_iff]
        exact ⟨fun w => by rw [e2 x w]; exact hi, fun w => by rw [only x w]; exact e1⟩
      by_cases w1 : ∀ j, (U (E (2 * i))).testBit j = true → j = i
      · exact ⟨_, alone _ m1 w1⟩
      by_cases w2 : ∀ j, (U (E (2 * i + 1))).testBit j = true → j = i
      · exact ⟨_, alone _ m2 w2⟩
      have two : ∀ e, (U e).testBit i = true → (¬ ∀ j, (U e).testBit j = true → j = i) → ∃ j D, j ≠ i ∧ (U e).testBit j = true ∧ D ∈ R ∧ D.testBit i = true ∧ D.testBit j = true ∧ D ≠ C := fun e e1 e2 => by
        obtain ⟨j, hj⟩ := Classical.not_forall.mp e2
        have hj1 : (U e).testBit j = true := Classical.byContradiction fun u => hj fun v => absurd v u
        have hj2 : j ≠ i := fun u => hj fun _ => u
        obtain ⟨D, d1, d2⟩ := hm e i j (Ne.symm hj2) e1 hj1
        have jp := ks_bit_lt (h.1 e) hj1
        have a1 := d2 i
        have a2 := d2 j
        rw [e1, decide_eq_true ip, Bool.true_and] at a1
        rw [hj1, decide_eq_true jp, Bool.true_and] at a2
        refine ⟨j, D, hj2, hj1, d1, a1.symm, a2.symm, fun u => ?_⟩
        subst u
        exact hj2 (only j (cD_t.mpr ⟨jp, a2.symm⟩))
      obtain ⟨j1, D1, p1, p2, p3, p4, p5, p6⟩ := two _ m1 w1
      obtain ⟨j2, D2, q1, q2, q3, q4, q5, q6⟩ := two _ m2 w2
      rcases cv_D3 hR (p := i) (Nat.zero_le _) p3 q3 hC p4 q4 iC with u | u | u
      · subst u
        obtain ⟨X, x1, x2⟩ := hm _ i j1 (Ne.symm p1) m1 p2
        obtain ⟨Y, y1, y2⟩ := hm _ i j2 (Ne.symm q1) m2 q2
        have jp1 := ks_bit_lt (h.1 _) p2
        have jp2 := ks_bit_lt (h.1 _) q2
        have bx1 := x2 i
        have bx2 := x2 j1
        have by1 := y2 i
        have by2 := y2 j2
        rw [m1, decide_eq_true ip, Bool.true_and] at bx1
        rw [p2, decide_eq_true jp1, Bool.true_and] at bx2
        rw [m2, decide_eq_true ip, Bool.true_and] at by1
        rw [q2, decide_eq_true jp2, Bool.true_and] at by2
        have ex := cv_B R T z0 hw hR X D1 x1 p3 i j1 (Ne.symm p1) bx1.symm bx2.symm p4 p5
        have ey := cv_B R T z0 hw hR Y D1 y1 p3 i j2 (Ne.symm q1) by1.symm by2.symm q4 q5
        subst ex
        subst ey
        have := y2 j1
        rw [decide_eq_true jp1, p5, Bool.true_and] at this
        exact absurd (h.2.2.2.2.2 _ _ i j1 (Ne.symm p1) m1 p2 m2 this) k3
      · exact absurd u p6
      · exact absurd u q6
  obtain ⟨e, he⟩ := key
  have lt : ∀ {x : Nat}, U x = cD C p → x < 2 * p := fun {x} hx => Nat.lt_of_not_le fun w => hD (by rw [← hx]; exact h.2.1 x w)
  by_cases q : fre U e
  · exact ⟨e, lt he, he, q⟩
  · have q1 : ¬ e % 2 = 0 := fun w => q (Or.inl w)
    have q2 : U (e - 1) = U e := Classical.byContradiction fun w => q (Or.inr w)
    exact ⟨e - 1, lt (q2.trans he), q2.trans he, Or.inl (by omega)⟩
