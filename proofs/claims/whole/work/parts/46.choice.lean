/-! THE GREATEST SETS: of points each two of which are friends -/
def cq (F : Nat → Nat) (S : Nat) : Prop := ∀ p q, S.testBit p = true → S.testBit q = true → p ≠ q → (F p).testBit q = true
def mx (F : Nat → Nat) (A k : Nat) : Prop := (∃ S, ks_sub S A ∧ cq F S ∧ ks_pop S = k) ∧ ∀ S, ks_sub S A → cq F S → ks_pop S ≤ k
theorem cq_sub {F : Nat → Nat} {A B : Nat} (h : cq F B) (hs : ks_sub A B) : cq F A := fun p q hp hq => h p q (hs p hp) (hs q hq)
theorem ks_sub_lt {A B n : Nat} (h : ks_sub A B) (hB : B < 2 ^ n) : A < 2 ^ n := ks_lt fun i hi => ks_bit_lt hB (h i hi)
theorem ks_sub_0 {A : Nat} (h : ks_sub A 0) : A = 0 := ks_zero.mpr fun i => by
  cases e : A.testBit i with
  | false => rfl
  | true => have := h i e; rw [Nat.zero_testBit] at this; cases this
theorem cq_0 {F : Nat → Nat} : cq F 0 := fun p q hp => by rw [Nat.zero_testBit] at hp; cases hp
theorem ks_pop00 : ks_pop 0 = 0 := by decide +kernel
theorem mx_0 {F : Nat → Nat} : mx F 0 0 := ⟨⟨0, fun _ h => h, cq_0, ks_pop00⟩, fun S hs _ => by rw [ks_sub_0 hs, ks_pop00]; exact Nat.le_refl 0⟩
theorem ks_pop_m {A B n : Nat} (hn : n ≤ 14) (hB : B < 2 ^ n) (h : ks_sub A B) : ks_pop A ≤ ks_pop B := by
  by_cases e : A = B
  · rw [e]
    exact Nat.le_refl _
  · exact Nat.le_of_lt (ks_pop_s hn (ks_sub_lt h hB) hB h e)
theorem ks_pop_ins {S p : Nat} (hS : S < 16384) (hp : p < 14) (h : S.testBit p = false) : ks_pop (S ||| 2 ^ p) = ks_pop S + 1 := by
  have h1 : S ||| 2 ^ p < 16384 := ks_or_lt (n := 14) hS (ks_p2_lt hp)
  have h2 : (S ||| 2 ^ p).testBit p = true := by rw [Nat.testBit_or, ks_p2, decide_eq_true rfl, Bool.or_true]
  have h3 : ks_nd (S ||| 2 ^ p) (2 ^ p) = S := ks_ext fun i => by
    rw [ks_nd1 h1, Nat.testBit_or, ks_p2]
    by_cases e : p = i
    · subst e
      rw [h]
      simp
    · simp [e]
  have := ks_pop_nd h1 h2
  rw [h3] at this
  exact this.symm
theorem cq_ins {F : Nat → Nat} {n S p : Nat} (hw : gw n F) (h : cq F S) (hs : ks_sub S (F p)) : cq F (S ||| 2 ^ p) := by
  intro i j hi hj hij
  rw [Nat.testBit_or, ks_p2, Bool.or_eq_true, decide_eq_true_eq] at hi hj
  rcases hi with hi | rfl
  · rcases hj with hj | rfl
    · exact h i j hi hj hij
    · rw [hw.2.2.2.1]
      exact hs i hi
  · rcases hj with hj | rfl
    · exact hs j hj
    · exact absurd rfl hij
theorem ks_nd1t {S a i : Nat} (hS : S < 16384) : (ks_nd S (2 ^ a)).testBit i = true ↔ (S.testBit i = true ∧ a ≠ i) := by
  rw [ks_nd1 hS, Bool.and_eq_true, Bool.not_eq_true', decide_eq_false_iff_not]
theorem mx_s {F : Nat → Nat} {n A p k1 k2 : Nat} (hw : gw n F) (hA : A < 2 ^ n) (hp : A.testBit p = true) (h1 : mx F (ks_nd A (2 ^ p) &&& F p) k1) (h2 : mx F (ks_nd A (2 ^ p)) k2) : mx F A (max (k1 + 1) k2) := by
  have hA' := ks_p14 hw.1 hA
  have hpn : p < n := ks_bit_lt hA hp
  have hn := hw.1
  obtain ⟨⟨S1, a1, a2, a3⟩, a4⟩ := h1
  obtain ⟨⟨S2, b1, b2, b3⟩, b4⟩ := h2
  have a1' : ∀ i, S1.testBit i = true → (A.testBit i = true ∧ p ≠ i) ∧ (F p).testBit i = true := fun i hi => by
    have := a1 i hi
    rw [Nat.testBit_and, Bool.and_eq_true, ks_nd1t hA'] at this
    exact this
  have s1 : ks_sub S1 A := fun i hi => (a1' i hi).1.1
  have l1 : S1 < 16384 := ks_p14 hn (ks_sub_lt s1 hA)
  have n1 : S1.testBit p = false := by
    cases e : S1.testBit p with
    | false => rfl
    | true => exact absurd rfl (a1' p e).1.2
  have p1 : ks_pop (S1 ||| 2 ^ p) = k1 + 1 := by rw [ks_pop_ins l1 (by omega) n1, a3]
  refine ⟨?_, fun S hs hc => ?_⟩
  · rcases Nat.le_total k2 (k1 + 1) with q | q
    · refine ⟨S1 ||| 2 ^ p, fun i hi => ?_, cq_ins hw a2 fun i hi => (a1' i hi).2, by rw [p1, Nat.max_eq_left q]⟩
      rw [Nat.testBit_or, ks_p2, Bool.or_eq_true, decide_eq_true_eq] at hi
      rcases hi with hi | rfl
      · exact s1 i hi
      · exact hp
    · exact ⟨S2, fun i hi => ((ks_nd1t hA').mp (b1 i hi)).1, b2, by rw [b3, Nat.max_eq_right q]⟩
  · by_cases e : S.testBit p = true
    · have lS : S < 16384 := ks_p14 hn (ks_sub_lt hs hA)
      have q0 := ks_pop_nd lS e
      have q1 : ks_sub (ks_nd S (2 ^ p)) (ks_nd A (2 ^ p) &&& F p) := fun i hi => by
        rw [ks_nd1t lS] at hi
        rw [Nat.testBit_and, Bool.and_eq_true, ks_nd1t hA']
        exact ⟨⟨hs i hi.1, hi.2⟩, hc p i e hi.1 hi.2⟩
      have q2 := a4 _ q1 (cq_sub hc fun i hi => ((ks_nd1t lS).mp hi).1)
      have := Nat.le_max_left (k1 + 1) k2
      omega
    · have q1 : ks_sub S (ks_nd A (2 ^ p)) := fun i hi => (ks_nd1t hA').mpr ⟨hs i hi, fun q => e (q ▸ hi)⟩
      exact Nat.le_trans (b4 S q1 hc) (Nat.le_max_right _ _)
/-- of the greatest ones the least number -/
def lmc (F : Nat → Nat) (A v : Nat) : Prop := ks_sub v A ∧ cq F v ∧ ∀ S, ks_sub S A → cq F S → ks_pop S < ks_pop v ∨ (ks_pop S = ks_pop v ∧ v ≤ S)
theorem lmc_mx {F : Nat → Nat} {A v : Nat} (h : lmc F A v) : mx F A (ks_pop v) := ⟨⟨v, h.1, h.2.1, rfl⟩, fun S a b => by have := h.2.2 S a b; omega⟩
theorem mx_u {F : Nat → Nat} {A k k' : Nat} (h : mx F A k) (h' : mx F A k') : k = k' := by
  obtain ⟨⟨S, a1, a2, a3⟩, a4⟩ := h
  obtain ⟨⟨R, b1, b2, b3⟩, b4⟩ := h'
  have := a4 R b1 b2
  have := b4 S a1 a2
  omega
theorem lmc_u {F : Nat → Nat} {A : Nat} : ∀ a b, lmc F A a → lmc F A b → a = b := by
  intro a b h h'
  have h1 := h.2.2 b h'.1 h'.2.1
  have h2 := h'.2.2 a h.1 h.2.1
  omega
theorem ks_ge {S p : Nat} (h : S.testBit p = true) : 2 ^ p ≤ S := by
  rcases Nat.lt_or_ge S (2 ^ p) with q | q
  · rw [Nat.testBit_lt_two_pow q] at h
    cases h
  · exact q
theorem ks_or_add {b p : Nat} (h : b < 2 ^ p) : b ||| 2 ^ p = b + 2 ^ p := by
  have := Nat.two_pow_add_eq_or_of_lt h 1
  rw [Nat.mul_one] at this
  rw [Nat.or_comm, ← this, Nat.add_comm]
theorem ks_nd_top {A p : Nat} (hA : A < 2 ^ (p + 1)) (hA' : A < 16384) : ks_nd A (2 ^ p) < 2 ^ p := ks_lt fun i hi => by
  obtain ⟨h1, h2⟩ := (ks_nd1t hA').mp hi
  have := ks_bit_lt hA h1
  omega
theorem lmc_out {F : Nat → Nat} {A p v : Nat} (hA : A < 2 ^ (p + 1)) (hA' : A < 16384) (h : lmc F (ks_nd A (2 ^ p)) v) (hk : ∀ S, ks_sub S A → cq F S → ks_pop S ≤ ks_pop v) : lmc F A v := by
  refine ⟨fun i hi => ((ks_nd1t hA').mp (h.1 i hi)).1, h.2.1, fun S hs hc => ?_⟩
  by_cases e : S.testBit p = true
  · have h1 := hk S hs hc
    have h2 := ks_ge e
    have h3 := ks_sub_lt h.1 (ks_nd_top hA hA')
    omega
  · exact h.2.2 S (fun i hi => (ks_nd1t hA').mpr ⟨hs i hi, fun q => e (q ▸ hi)⟩) hc
theorem lmc_in {F : Nat → Nat} {n A p v : Nat} (hw : gw n F) (hp : p < 14) (hA : A < 2 ^ (p + 1)) (hA' : A < 16384) (hpA : A.testBit p = true) (h : lmc F (ks_nd A (2 ^ p) &&& F p) v) (hk : ∀ S, ks_sub S (ks_nd A (2 ^ p)) → cq F S → ks_pop S < ks_pop v + 1) : lmc F A (v ||| 2 ^ p) := by
  have a1 : ∀ i, v.testBit i = true → (A.testBit i = true ∧ p ≠ i) ∧ (F p).testBit i = true := fun i hi => by
    have := h.1 i hi
    rw [Nat.testBit_and, Bool.and_eq_true, ks_nd1t hA'] at this
    exact this
  have vl : v < 2 ^ p := ks_sub_lt (fun i hi => (ks_nd1t hA').mpr (a1 i hi).1) (ks_nd_top hA hA')
  have v14 : v < 16384 := Nat.lt_trans vl (ks_p2_lt (n := 14) hp)
  have n1 : v.testBit p = false := Nat.testBit_lt_two_pow vl
  have pv := ks_pop_ins v14 hp n1
  refine ⟨fun i hi => ?_, cq_ins hw h.2.1 fun i hi => (a1 i hi).2, fun S hs hc => ?_⟩
  · rw [Nat.testBit_or, ks_p2, Bool.or_eq_true, decide_eq_true_eq] at hi
    rcases hi with hi | rfl
    · exact (a1 i hi).1.1
    · exact hpA
  · rw [pv]
    have lS := ks_sub_lt hs (n := 14) hA'
    by_cases e : S.testBit p = true
    · have q0 := ks_pop_nd lS e
      have q1 : ks_sub (ks_nd S (2 ^ p)) (ks_nd A (2 ^ p) &&& F p) := fun i hi => by
        rw [ks_nd1t lS] at hi
        rw [Nat.testBit_and, Bool.and_eq_true, ks_nd1t hA']
        exact ⟨⟨hs i hi.1, hi.2⟩, hc p i e hi.1 hi.2⟩
      have q2 := h.2.2 _ q1 (cq_sub hc fun i hi => ((ks_nd1t lS).mp hi).1)
      have lt : ks_nd S (2 ^ p) < 2 ^ p := ks_nd_top (ks_sub_lt hs hA) lS
      have eS : S = ks_nd S (2 ^ p) ||| 2 ^ p := ks_ext fun i => by
        rw [Nat.testBit_or, ks_nd1 lS, ks_p2]
        by_cases q : p = i
        · subst q
          rw [e]
          simp
        · simp [q]
      rw [ks_or_add vl]
      rw [ks_or_add lt] at eS
      omega
    · have q1 : ks_sub S (ks_nd A (2 ^ p)) := fun i hi => (ks_nd1t hA').mpr ⟨hs i hi, fun q => e (q ▸ hi)⟩
      exact Or.inl (hk S q1 hc)
/-- the friends: tied points, or untied ones -/
def gF (b : Bool) (n : Nat) (T : Nat → Nat) : Nat → Nat := fun p => if b = true then T p else if p < n then ks_nd (ks_nd (2 ^ n - 1) (T p)) (2 ^ p) else 0
theorem ks_am_bit {n i : Nat} : (2 ^ n - 1).testBit i = decide (i < n) := Nat.testBit_two_pow_sub_one n i
theorem ks_am14 {n : Nat} (hn : n ≤ 14) : 2 ^ n - 1 < 16384 := ks_p14 hn (ks_am n)
theorem gF_bit {n p q : Nat} {T : Nat → Nat} (hn : n ≤ 14) : (gF false n T p).testBit q = true ↔ (p < n ∧ q < n ∧ p ≠ q ∧ (T p).testBit q = false) := by
  unfold gF
  rw [if_neg (by decide)]
  by_cases h : p < n
  · rw [if_pos h, ks_nd1t (ks_nd_lt (ks_am14 hn)), ks_nd_bit (by have := ks_am14 hn; omega), ks_am_bit, Bool.and_eq_true, decide_eq_true_eq, Bool.not_eq_true']
    exact ⟨fun q => ⟨h, q.1.1, q.2, q.1.2⟩, fun q => ⟨⟨q.2.1, q.2.2.2⟩, q.2.2.1⟩⟩
  · rw [if_neg h, Nat.zero_testBit]
    exact ⟨fun q => (by cases q), fun q => absurd q.1 h⟩
theorem gw_gF {b : Bool} {n : Nat} {T : Nat → Nat} (hw : gw n T) : gw n (gF b n T) := by
  cases b with
  | true =>
    have : gF true n T = T := by funext p; exact if_pos rfl
    rw [this]
    exact hw
  | false =>
    refine ⟨hw.1, fun p => ks_lt fun i hi => ((gF_bit hw.1).mp hi).2.1, fun p hp => ks_zero.mpr fun i => ?_, fun p q => ?_, fun p => ?_⟩
    · cases e : (gF false n T p).testBit i with
      | false => rfl
      | true => have := ((gF_bit hw.1).mp e).1; omega
    · rw [Bool.eq_iff_iff, gF_bit hw.1, gF_bit hw.1, hw.2.2.2.1 q p]
      exact ⟨fun h => ⟨h.2.1, h.1, Ne.symm h.2.2.1, h.2.2.2⟩, fun h => ⟨h.2.1, h.1, Ne.symm h.2.2.1, h.2.2.2⟩⟩
    · cases e : (gF false n T p).testBit p with
      | false => rfl
      | true => exact absurd rfl ((gF_bit hw.1).mp e).2.2.1
def alk (b : Bool) (T : Nat → Nat) (S p : Nat) : Prop := ∀ q, S.testBit q = true → p ≠ q → (T p).testBit q = b
theorem cq_alk {b : Bool} {n S : Nat} {T : Nat → Nat} (hw : gw n T) (hS : S < 2 ^ n) : cq (gF b n T) S ↔ ∀ p, S.testBit p = true → alk b T S p := by
  cases b with
  | true =>
    have : gF true n T = T := by funext p; exact if_pos rfl
    rw [this]
    exact ⟨fun h p hp q hq hn => h p q hp hq hn, fun h p q hp hq hn => h p hp q hq hn⟩
  | false =>
    constructor
    · intro h p hp q hq hn
      exact ((gF_bit hw.1).mp (h p q hp hq hn)).2.2.2
    · intro h p q hp hq hn
      exact (gF_bit hw.1).mpr ⟨ks_bit_lt hS hp, ks_bit_lt hS hq, hn, h p hp q hq hn⟩
theorem alk_0 {S p : Nat} {T : Nat → Nat} (hS : S < 16384) : T p &&& ks_nd S (2 ^ p) = 0 ↔ alk false T S p := by
  rw [ks_zero]
  constructor
  · intro h q hq hn
    have := h q
    rw [Nat.testBit_and, (ks_nd1t hS).mpr ⟨hq, hn⟩, Bool.and_true] at this
    exact this
  · intro h i
    rw [Nat.testBit_and]
    cases e : (ks_nd S (2 ^ p)).testBit i with
    | false => rw [Bool.and_false]
    | true =>
      obtain ⟨h1, h2⟩ := (ks_nd1t hS).mp e
      rw [h i h1 h2]
      rfl
theorem alk_1 {S p : Nat} {T : Nat → Nat} (hS : S < 16384) : T p &&& ks_nd S (2 ^ p) = ks_nd S (2 ^ p) ↔ alk true T S p := by
  constructor
  · intro h q hq hn
    have h1 := (ks_nd1t hS).mpr ⟨hq, hn⟩
    rw [← h, Nat.testBit_and, Bool.and_eq_true] at h1
    exact h1.1
  · intro h
    refine ks_ext fun i => ?_
    rw [Nat.testBit_and]
    cases e : (ks_nd S (2 ^ p)).testBit i with
    | false => rw [Bool.and_false]
    | true =>
      obtain ⟨h1, h2⟩ := (ks_nd1t hS).mp e
      rw [h i h1 h2]
      rfl
