/-! COVERS: rows of cliques, each the one of the first line that is left -/
def kO (O : Nat → Nat) (C : Nat) : Nat → Nat := fun p => if C.testBit p = true then ks_nd (O p) C else O p
def kS (s : Nat → Nat) (C : Nat) : Nat → Nat := fun p => if C.testBit p = true then s p + 1 else s p
def fo (O : Nat → Nat) (a b : Nat) : Prop := (∀ i, i < a → O i = 0) ∧ ks_fst (O a) b
def clq (O : Nat → Nat) (C : Nat) : Prop := ∀ p q, C.testBit p = true → C.testBit q = true → p ≠ q → (O p).testBit q = true
def stp (O s : Nat → Nat) (C : Nat) : Prop := (∃ a b, fo O a b ∧ C.testBit a = true ∧ C.testBit b = true) ∧ clq O C ∧ ∀ p, C.testBit p = true → s p ≤ 1
def cvr : (Nat → Nat) → (Nat → Nat) → List Nat → Prop
  | O, _, [] => ∀ p, O p = 0
  | O, s, C :: R => stp O s C ∧ cvr (kO O C) (kS s C) R
def val : (Nat → Nat) → (Nat → Nat) → List Nat → Prop
  | _, _, [] => True
  | O, s, C :: R => stp O s C ∧ val (kO O C) (kS s C) R
def kOR : (Nat → Nat) → List Nat → Nat → Nat
  | O, [] => O
  | O, C :: R => kOR (kO O C) R
def kSR : (Nat → Nat) → List Nat → Nat → Nat
  | s, [] => s
  | s, C :: R => kSR (kS s C) R
theorem kO_bit {n p q C : Nat} {O : Nat → Nat} (hw : gw n O) : (kO O C p).testBit q = true ↔ ((O p).testBit q = true ∧ ¬ (C.testBit p = true ∧ C.testBit q = true)) := by
  unfold kO
  have := gw_ok hw p
  by_cases h : C.testBit p = true
  · rw [if_pos h, ks_nd_bit (by omega), Bool.and_eq_true, Bool.not_eq_true']
    constructor
    · rintro ⟨h1, h2⟩
      exact ⟨h1, fun q => by rw [q.2] at h2; cases h2⟩
    · rintro ⟨h1, h2⟩
      refine ⟨h1, ?_⟩
      cases e : C.testBit q with
      | false => rfl
      | true => exact absurd ⟨h, e⟩ h2
  · rw [if_neg h]
    exact ⟨fun q => ⟨q, fun r => h r.1⟩, fun q => q.1⟩
theorem gw_kO {n C : Nat} {O : Nat → Nat} (hw : gw n O) : gw n (kO O C) := by
  refine ⟨hw.1, fun p => ks_lt fun i hi => ks_bit_lt (hw.2.1 p) ((kO_bit hw).mp hi).1, fun p hp => ks_zero.mpr fun i => ?_, fun p q => ?_, fun p => ?_⟩
  · cases e : (kO O C p).testBit i with
    | false => rfl
    | true =>
      have := ((kO_bit hw).mp e).1
      rw [hw.2.2.1 p hp, Nat.zero_testBit] at this
      cases this
  · rw [Bool.eq_iff_iff, kO_bit hw, kO_bit hw, hw.2.2.2.1 p q, and_comm (a := C.testBit p = true)]
  · cases e : (kO O C p).testBit p with
    | false => rfl
    | true =>
      have := ((kO_bit hw).mp e).1
      rw [hw.2.2.2.2 p] at this
      cases this
theorem gw_kOR {n : Nat} : ∀ (R : List Nat) {O : Nat → Nat}, gw n O → gw n (kOR O R)
  | [], _, h => h
  | _ :: R, _, h => gw_kOR R (gw_kO h)
theorem cvr_app : ∀ (R1 : List Nat) (O s : Nat → Nat) (R2 : List Nat), cvr O s (R1 ++ R2) ↔ (val O s R1 ∧ cvr (kOR O R1) (kSR s R1) R2)
  | [], _, _, _ => ⟨fun h => ⟨trivial, h⟩, fun h => h.2⟩
  | C :: R1, O, s, R2 => by
    show (stp O s C ∧ cvr (kO O C) (kS s C) (R1 ++ R2)) ↔ ((stp O s C ∧ val (kO O C) (kS s C) R1) ∧ _)
    rw [cvr_app R1, and_assoc]
    exact Iff.rfl
theorem val_snoc : ∀ (R1 : List Nat) (O s : Nat → Nat) (C : Nat), val O s (R1 ++ [C]) ↔ (val O s R1 ∧ stp (kOR O R1) (kSR s R1) C)
  | [], _, _, _ => ⟨fun h => ⟨trivial, h.1⟩, fun h => ⟨h.2, trivial⟩⟩
  | D :: R1, O, s, C => by
    show (stp O s D ∧ val (kO O D) (kS s D) (R1 ++ [C])) ↔ ((stp O s D ∧ val (kO O D) (kS s D) R1) ∧ _)
    rw [val_snoc R1, and_assoc]
    exact Iff.rfl
theorem kOR_snoc : ∀ (R1 : List Nat) (O : Nat → Nat) (C : Nat), kOR O (R1 ++ [C]) = kO (kOR O R1) C
  | [], _, _ => rfl
  | _ :: R1, _, C => kOR_snoc R1 _ C
theorem kSR_snoc : ∀ (R1 : List Nat) (s : Nat → Nat) (C : Nat), kSR s (R1 ++ [C]) = kS (kSR s R1) C
  | [], _, _ => rfl
  | _ :: R1, _, C => kSR_snoc R1 _ C
theorem fo_ne {O : Nat → Nat} {a b : Nat} (h : fo O a b) : O a ≠ 0 := fun e => by
  have := h.2.1
  rw [e, Nat.zero_testBit] at this
  cases this
theorem fo_u {O : Nat → Nat} {a b a' b' : Nat} (h : fo O a b) (h' : fo O a' b') : a = a' ∧ b = b' := by
  have e : a = a' := by
    rcases Nat.lt_trichotomy a a' with q | q | q
    · exact absurd (h'.1 a q) (fo_ne h)
    · exact q
    · exact absurd (h.1 a' q) (fo_ne h')
  subst e
  exact ⟨rfl, ks_fst_u h.2 h'.2⟩
theorem fo_lt {n : Nat} {O : Nat → Nat} {a b : Nat} (hw : gw n O) (h : fo O a b) : a < b ∧ b < n := by
  have h1 := h.2.1
  have h2 : (O b).testBit a = true := by rw [hw.2.2.2.1]; exact h1
  have hb : b < n := ks_bit_lt (hw.2.1 a) h1
  refine ⟨?_, hb⟩
  rcases Nat.lt_trichotomy a b with q | q | q
  · exact q
  · subst q
    rw [hw.2.2.2.2] at h1
    cases h1
  · rw [h.1 b q, Nat.zero_testBit] at h2
    cases h2
theorem fo_ex {n : Nat} {O : Nat → Nat} (hw : gw n O) : (∀ p, O p = 0) ∨ ∃ a b, fo O a b := by
  have key : ∀ m, (∀ p, p < m → O p = 0) ∨ ∃ a b, fo O a b := by
    intro m
    induction m with
    | zero => exact Or.inl fun p hp => absurd hp (Nat.not_lt_zero p)
    | succ m ih =>
      rcases ih with h | h
      · by_cases e : O m = 0
        · left
          intro p hp
          rcases Nat.lt_or_ge p m with q | q
          · exact h p q
          · obtain rfl : p = m := by omega
            exact e
        · obtain ⟨b, hb⟩ := ks_fst_ex e
          exact Or.inr ⟨m, b, h, hb⟩
      · exact Or.inr h
  rcases key n with h | h
  · left
    intro p
    rcases Nat.lt_or_ge p n with q | q
    · exact h p q
    · exact hw.2.2.1 p q
  · exact Or.inr h
theorem stp_ne {n C : Nat} {O s : Nat → Nat} (hw : gw n O) (h : stp O s C) : (∃ a b, a < b ∧ C.testBit a = true ∧ C.testBit b = true ∧ (O a).testBit b = true) ∧ C < 2 ^ n := by
  obtain ⟨⟨a, b, h1, h2, h3⟩, h4, -⟩ := h
  refine ⟨⟨a, b, (fo_lt hw h1).1, h2, h3, h1.2.1⟩, ks_lt fun i hi => ?_⟩
  by_cases e : a = i
  · subst e
    have := fo_lt hw h1
    omega
  · exact ks_bit_lt (hw.2.1 a) (h4 a i h2 hi e)
theorem cv_A {n : Nat} : ∀ (R : List Nat) (O s : Nat → Nat), gw n O → cvr O s R → ∀ p q, (O p).testBit q = true ↔ (p ≠ q ∧ ∃ C, C ∈ R ∧ C.testBit p = true ∧ C.testBit q = true)
  | [], O, s, hw, h, p, q => by
    rw [h p, Nat.zero_testBit]
    exact ⟨fun h => (by cases h), fun ⟨_, C, hC, _⟩ => (by cases hC)⟩
  | D :: R, O, s, hw, h, p, q => by
    have ih := cv_A R (kO O D) (kS s D) (gw_kO hw) h.2 p q
    rw [kO_bit hw] at ih
    constructor
    · intro hpq
      by_cases e : D.testBit p = true ∧ D.testBit q = true
      · refine ⟨fun u => ?_, D, List.mem_cons_self, e⟩
        subst u
        rw [hw.2.2.2.2] at hpq
        cases hpq
      · obtain ⟨h1, C, h2, h3⟩ := ih.mp ⟨hpq, e⟩
        exact ⟨h1, C, List.mem_cons_of_mem _ h2, h3⟩
    · rintro ⟨h1, C, h2, h3⟩
      rcases List.mem_cons.mp h2 with u | u
      · subst u
        exact h.1.2.1 p q h3.1 h3.2 h1
      · exact (ih.mpr ⟨h1, C, u, h3⟩).1
theorem cv_nm {n : Nat} {R : List Nat} {O s : Nat → Nat} {C D p q : Nat} (hw : gw n O) (h : cvr O s (C :: R)) (hD : D ∈ R) (hpq : p ≠ q) (c1 : C.testBit p = true) (c2 : C.testBit q = true) (d1 : D.testBit p = true) (d2 : D.testBit q = true) : False := by
  have := (cv_A R _ _ (gw_kO hw) h.2 p q).mpr ⟨hpq, D, hD, d1, d2⟩
  exact ((kO_bit hw).mp this).2 ⟨c1, c2⟩
theorem cv_B {n : Nat} : ∀ (R : List Nat) (O s : Nat → Nat), gw n O → cvr O s R → ∀ C D, C ∈ R → D ∈ R → ∀ p q, p ≠ q → C.testBit p = true → C.testBit q = true → D.testBit p = true → D.testBit q = true → C = D
  | [], _, _, _, _, C, _, hC, _, _, _, _, _, _, _, _ => by cases hC
  | E :: R, O, s, hw, h, C, D, hC, hD, p, q, hpq, c1, c2, d1, d2 => by
    rcases List.mem_cons.mp hC with u | u
    · rcases List.mem_cons.mp hD with v | v
      · rw [u, v]
      · subst u
        exact (cv_nm hw h v hpq c1 c2 d1 d2).elim
    · rcases List.mem_cons.mp hD with v | v
      · subst v
        exact (cv_nm hw h u hpq d1 d2 c1 c2).elim
      · exact cv_B R _ _ (gw_kO hw) h.2 C D u v p q hpq c1 c2 d1 d2
theorem cv_C {n : Nat} : ∀ (R : List Nat) (O s : Nat → Nat), gw n O → cvr O s R → ∀ C, C ∈ R → (∃ a b, a < b ∧ C.testBit a = true ∧ C.testBit b = true ∧ (O a).testBit b = true) ∧ C < 2 ^ n
  | [], _, _, _, _, C, hC => by cases hC
  | E :: R, O, s, hw, h, C, hC => by
    rcases List.mem_cons.mp hC with u | u
    · subst u
      exact stp_ne hw h.1
    · obtain ⟨⟨a, b, h1, h2, h3, h4⟩, h5⟩ := cv_C R _ _ (gw_kO hw) h.2 C u
      exact ⟨⟨a, b, h1, h2, h3, ((kO_bit hw).mp h4).1⟩, h5⟩
theorem cv_D : ∀ (R : List Nat) (O s : Nat → Nat), cvr O s R → ∀ p, s p ≤ 2 → s p + (R.filter fun C => C.testBit p).length ≤ 2
  | [], _, _, _, _, hs => hs
  | C :: R, O, s, h, p, hs => by
    by_cases e : C.testBit p = true
    · have h1 := h.1.2.2 p e
      have e2 : kS s C p = s p + 1 := if_pos e
      have := cv_D R _ _ h.2 p (by rw [e2]; omega)
      rw [e2] at this
      rw [List.filter_cons_of_pos (p := fun C => Nat.testBit C p) e, List.length_cons]
      omega
    · have e2 : kS s C p = s p := if_neg e
      have := cv_D R _ _ h.2 p (by rw [e2]; omega)
      rw [e2] at this
      rw [List.filter_cons_of_neg (p := fun C => Nat.testBit C p) (by simpa using e)]
      exact this
theorem ll_2 : ∀ {L : List Nat}, L.length ≤ 2 → ∀ a b c, a ∈ L → b ∈ L → c ∈ L → a = b ∨ a = c ∨ b = c
  | [], _, a, _, _, ha, _, _ => by cases ha
  | [x], _, a, b, c, ha, hb, _ => by
    rw [List.mem_singleton] at ha hb
    exact Or.inl (ha.trans hb.symm)
  | [x, y], _, a, b, c, ha, hb, hc => by
    simp only [List.mem_cons, List.not_mem_nil, or_false] at ha hb hc
    omega
  | _ :: _ :: _ :: _, h, _, _, _, _, _, _ => by
    simp only [List.length_cons] at h
    omega
theorem ll_1 : ∀ {L : List Nat}, L.length ≤ 1 → ∀ a b, a ∈ L → b ∈ L → a = b
  | [], _, a, _, ha, _ => by cases ha
  | [x], _, a, b, ha, hb => by
    rw [List.mem_singleton] at ha hb
    exact ha.trans hb.symm
  | _ :: _ :: _, h, _, _, _, _ => by
    simp only [List.length_cons] at h
    omega
theorem cv_D3 {R : List Nat} {O s : Nat → Nat} (h : cvr O s R) {p : Nat} (hs : s p ≤ 2) {A B C : Nat} (hA : A ∈ R) (hB : B ∈ R) (hC : C ∈ R) (a : A.testBit p = true) (b : B.testBit p = true) (c : C.testBit p = true) : A = B ∨ A = C ∨ B = C := by
  have := cv_D R O s h p hs
  exact ll_2 (L := R.filter fun C => C.testBit p) (by omega) A B C (List.mem_filter.mpr ⟨hA, a⟩) (List.mem_filter.mpr ⟨hB, b⟩) (List.mem_filter.mpr ⟨hC, c⟩)
theorem cv_D2 {R : List Nat} {O s : Nat → Nat} (h : cvr O s R) {p : Nat} (hs : s p ≤ 2) (hs1 : 1 ≤ s p) {A B : Nat} (hA : A ∈ R) (hB : B ∈ R) (a : A.testBit p = true) (b : B.testBit p = true) : A = B := by
  have := cv_D R O s h p hs
  exact ll_1 (L := R.filter fun C => C.testBit p) (by omega) A B (List.mem_filter.mpr ⟨hA, a⟩) (List.mem_filter.mpr ⟨hB, b⟩)
theorem cv_not {R : List Nat} {O s : Nat → Nat} (h : cvr O s R) {C : Nat} (hC : C ∈ R) {n : Nat} (hw : gw n O) : ∃ a b, fo O a b := by
  obtain ⟨⟨a, b, -, -, -, h4⟩, -⟩ := cv_C R O s hw h C hC
  rcases fo_ex hw with q | q
  · rw [q a, Nat.zero_testBit] at h4
    cases h4
  · exact q
theorem cv_ext {n : Nat} : ∀ (R : List Nat) (O s : Nat → Nat) (R' : List Nat), gw n O → cvr O s R → cvr O s R' → (∀ C, C ∈ R ↔ C ∈ R') → R = R'
  | [], O, s, [], hw, h, h', e => rfl
  | [], O, s, D :: R', hw, h, h', e => by
    have := (e D).mpr List.mem_cons_self
    cases this
  | C :: R, O, s, [], hw, h, h', e => by
    have := (e C).mp List.mem_cons_self
    cases this
  | C :: R, O, s, D :: R', hw, h, h', e => by
    obtain ⟨⟨a, b, f1, c1, c2⟩, -⟩ := h.1
    obtain ⟨⟨a', b', f2, d1, d2⟩, -⟩ := h'.1
    obtain ⟨rfl, rfl⟩ := fo_u f1 f2
    have hab : a ≠ b := Nat.ne_of_lt (fo_lt hw f1).1
    have cd : C = D := cv_B (C :: R) O s hw h C D List.mem_cons_self ((e D).mpr List.mem_cons_self) a b hab c1 c2 d1 d2
    subst cd
    have m1 : C ∉ R := fun q => cv_nm hw h q hab c1 c2 c1 c2
    have m2 : C ∉ R' := fun q => cv_nm hw h' q hab c1 c2 c1 c2
    rw [cv_ext R _ _ R' (gw_kO hw) h.2 h'.2 fun E => ?_]
    have := e E
    rw [List.mem_cons, List.mem_cons] at this
    constructor
    · intro q
      rcases this.mp (Or.inr q) with u | u
      · subst u
        exact absurd q m1
      · exact u
    · intro q
      rcases this.mpr (Or.inr q) with u | u
      · subst u
        exact absurd q m2
      · exact u
theorem ks_pop2 {S a b : Nat} (hS : S < 16384) (ha : S.testBit a = true) (hb : S.testBit b = true) (hab : a ≠ b) : 2 ≤ ks_pop S := by
  have h1 := ks_pop_nd hS ha
  have h2 := ks_pop_nd (S := ks_nd S (2 ^ a)) (a := b) (ks_nd_lt hS) ((ks_nd1t hS).mpr ⟨hb, hab⟩)
  omega
theorem gs_kS {s : Nat → Nat} {C n : Nat} (hn : n ≤ 14) (hC : C < 2 ^ n) : gs (kS s C) n = gs s n + ks_pop C := by
  rw [ks_popn hn hC, ← gs_add]
  refine gs_eq fun i _ => ?_
  unfold kS
  by_cases e : C.testBit i = true
  · rw [if_pos e, g1_t e]
  · rw [if_neg e, g1_f e, Nat.add_zero]
theorem val_len {n : Nat} : ∀ (R : List Nat) (O s : Nat → Nat), gw n O → val O s R → (∀ p, s p ≤ 2) → (∀ p, kSR s R p ≤ 2) ∧ gs s n + 2 * R.length ≤ gs (kSR s R) n
  | [], _, s, _, _, hs => ⟨hs, Nat.le_refl _⟩
  | C :: R, O, s, hw, h, hs => by
    have h1 : ∀ p, kS s C p ≤ 2 := fun p => by
      unfold kS
      split
      · rename_i e
        have := h.1.2.2 p e
        omega
      · exact hs p
    obtain ⟨h2, h3⟩ := val_len R _ _ (gw_kO hw) h.2 h1
    refine ⟨h2, ?_⟩
    obtain ⟨⟨a, b, q1, q2, q3, -⟩, q4⟩ := stp_ne hw h.1
    rw [gs_kS hw.1 q4] at h3
    have := ks_pop2 (ks_p14 hw.1 q4) q2 q3 (by omega)
    show gs s n + 2 * (R.length + 1) ≤ gs (kSR (kS s C) R) n
    omega
theorem val_n {n : Nat} {R : List Nat} {O s : Nat → Nat} (hw : gw n O) (h : val O s R) (hs : ∀ p, s p ≤ 2) : R.length ≤ n := by
  obtain ⟨h1, h2⟩ := val_len R O s hw h hs
  have : gs (kSR s R) n ≤ 2 * n := gs_le fun i _ => h1 i
  omega
theorem cvr_val {R : List Nat} {O s : Nat → Nat} (h : cvr O s R) : val O s R := by
  have := (cvr_app R O s []).mp (by rw [List.append_nil]; exact h)
  exact this.1
/-! what the class tries -/
def wh (O : Nat → Nat) (a b : Nat) : Nat := 2 ^ a ||| 2 ^ b ||| (O a &&& O b)
theorem wh_bit {O : Nat → Nat} {a b i : Nat} : (wh O a b).testBit i = true ↔ (i = a ∨ i = b ∨ ((O a).testBit i = true ∧ (O b).testBit i = true)) := by
  unfold wh
  rw [Nat.testBit_or, Nat.testBit_or, Nat.testBit_and, ks_p2, ks_p2, Bool.or_eq_true, Bool.or_eq_true, Bool.and_eq_true, decide_eq_true_eq, decide_eq_true_eq, eq_comm (a := a), eq_comm (a := b), or_assoc]
theorem wh_lt {n : Nat} {O : Nat → Nat} {a b : Nat} (hw : gw n O) (h : fo O a b) : wh O a b < 2 ^ n := by
  have := fo_lt hw h
  refine ks_lt fun i hi => ?_
  rcases wh_bit.mp hi with q | q | q
  · omega
  · omega
  · exact ks_bit_lt (hw.2.1 a) q.1
theorem cv_sub {n : Nat} {R : List Nat} {O s : Nat → Nat} {C a b : Nat} (hw : gw n O) (h : cvr O s (C :: R)) (hf : fo O a b) : C.testBit a = true ∧ C.testBit b = true ∧ (∀ i, C.testBit i = true → (wh O a b).testBit i = true) ∧ ∀ x y, (O a &&& O b).testBit x = true → (O a &&& O b).testBit y = true → C.testBit x = false → C.testBit y = false → x = y := by
  obtain ⟨⟨a', b', f, c1, c2⟩, hc, hs⟩ := h.1
  obtain ⟨rfl, rfl⟩ := fo_u f hf
  have hab : a' ≠ b' := Nat.ne_of_lt (fo_lt hw hf).1
  refine ⟨c1, c2, fun i hi => wh_bit.mpr ?_, fun x y hx hy nx ny => ?_⟩
  · by_cases e1 : i = a'
    · exact Or.inl e1
    · by_cases e2 : i = b'
      · exact Or.inr (Or.inl e2)
      · exact Or.inr (Or.inr ⟨hc a' i c1 hi (Ne.symm e1), hc b' i c2 hi (Ne.symm e2)⟩)
  · rw [Nat.testBit_and, Bool.and_eq_true] at hx hy
    refine Classical.byContradiction fun hxy => ?_
    have out : ∀ {u v : Nat}, (O u).testBit v = true → C.testBit v = false → ∃ D, D ∈ R ∧ D.testBit u = true ∧ D.testBit v = true := fun {u v} q1 q2 => by
      obtain ⟨-, D, d1, d2⟩ := (cv_A R _ _ (gw_kO hw) h.2 u v).mp ((kO_bit hw).mpr ⟨q1, fun w => by rw [q2] at w; cases w.2⟩)
      exact ⟨D, d1, d2⟩
    have one : ∀ {u : Nat}, C.testBit u = true → ∀ {D E : Nat}, D ∈ R → E ∈ R → D.testBit u = true → E.testBit u = true → D = E := fun {u} q1 {D E} q2 q3 q4 q5 => by
      have e : kS s C u = s u + 1 := if_pos q1
      have := hs u q1
      exact cv_D2 h.2 (p := u) (by rw [e]; omega) (by rw [e]; omega) q2 q3 q4 q5
    obtain ⟨D1, i1, i2, i3⟩ := out hx.1 nx
    obtain ⟨D2, j1, j2, j3⟩ := out hy.1 ny
    obtain ⟨E1, k1, k2, k3⟩ := out hx.2 nx
    obtain ⟨E2, l1, l2, l3⟩ := out hy.2 ny
    have e1 := one c1 i1 j1 i2 j2
    have e2 := one c2 k1 l1 k2 l2
    subst e1
    subst e2
    have e3 := cv_B R _ _ (gw_kO hw) h.2 D1 E1 i1 k1 x y hxy i3 j3 k3 l3
    subst e3
    exact cv_nm hw h i1 hab c1 c2 i2 k2
theorem cv_cand {n : Nat} {R : List Nat} {O s : Nat → Nat} {C a b : Nat} (hw : gw n O) (h : cvr O s (C :: R)) (hf : fo O a b) : C = wh O a b ∨ ∃ x, (O a &&& O b).testBit x = true ∧ C = ks_nd (wh O a b) (2 ^ x) := by
  obtain ⟨c1, c2, c3, c4⟩ := cv_sub hw h hf
  have hl := ks_p14 hw.1 (wh_lt hw hf)
  by_cases e : ∃ x, (O a &&& O b).testBit x = true ∧ C.testBit x = false
  · obtain ⟨x, x1, x2⟩ := e
    refine Or.inr ⟨x, x1, ks_ext fun i => ?_⟩
    rw [Bool.eq_iff_iff, ks_nd1t hl]
    constructor
    · intro hi
      refine ⟨c3 i hi, fun u => ?_⟩
      subst u
      rw [x2] at hi
      cases hi
    · rintro ⟨h1, h2⟩
      rcases wh_bit.mp h1 with q | q | q
      · rw [q]
        exact c1
      · rw [q]
        exact c2
      · cases u : C.testBit i with
        | true => rfl
        | false => exact absurd (c4 x i x1 (by rw [Nat.testBit_and, q.1, q.2]; rfl) x2 u) h2
  · refine Or.inl (ks_ext fun i => ?_)
    rw [Bool.eq_iff_iff]
    refine ⟨c3 i, fun hi => ?_⟩
    rcases wh_bit.mp hi with q | q | q
    · rw [q]
      exact c1
    · rw [q]
      exact c2
    · cases u : C.testBit i with
      | true => rfl
      | false => exact absurd ⟨i, by rw [Nat.testBit_and, q.1, q.2]; rfl, u⟩ e
def fitp (O s : Nat → Nat) (C p : Nat) : Prop := s p ≤ 1 ∧ ks_nd C (O p) = 2 ^ p ∧ (ks_nd (O p) C = 0 ∨ (s p ≠ 1 ∧ g_each O (ks_nd (O p) C)))
def fit (O s : Nat → Nat) (C : Nat) : Prop := ∀ p, C.testBit p = true → fitp O s C p
theorem clq_nd {n C : Nat} {O : Nat → Nat} (hw : gw n O) (hC : C < 2 ^ n) : clq O C ↔ ∀ p, C.testBit p = true → ks_nd C (O p) = 2 ^ p := by
  have hC' := ks_p14 hw.1 hC
  constructor
  · intro h p hp
    refine ks_ext fun i => ?_
    rw [Bool.eq_iff_iff, ks_nd_bit (by omega), ks_p2, Bool.and_eq_true, Bool.not_eq_true', decide_eq_true_eq]
    constructor
    · rintro ⟨h1, h2⟩
      refine Classical.byContradiction fun u => ?_
      rw [h p i hp h1 u] at h2
      cases h2
    · rintro rfl
      exact ⟨hp, hw.2.2.2.2 p⟩
  · intro h p q hp hq hpq
    cases e : (O p).testBit q with
    | true => rfl
    | false =>
      have h1 : (ks_nd C (O p)).testBit q = true := by rw [ks_nd_bit (by omega), hq, e]; rfl
      rw [h p hp, ks_p2, decide_eq_true_eq] at h1
      exact absurd h1 hpq
theorem cv_fit {n : Nat} {R : List Nat} {O s : Nat → Nat} {C : Nat} (hw : gw n O) (h : cvr O s (C :: R)) : fit O s C := by
  intro p hp
  have hC := (stp_ne hw h.1).2
  obtain ⟨-, hc, hs⟩ := h.1
  have hOp := gw_ok hw p
  refine ⟨hs p hp, (clq_nd hw hC).mp hc p hp, ?_⟩
  by_cases e : ks_nd (O p) C = 0
  · exact Or.inl e
  have e2 : kS s C p = s p + 1 := if_pos hp
  have hsp := hs p hp
  have lf : ∀ {i : Nat}, (ks_nd (O p) C).testBit i = true → (kO O C p).testBit i = true ∧ C.testBit i = false := fun {i} hi => by
    rw [ks_nd_bit (by omega), Bool.and_eq_true, Bool.not_eq_true'] at hi
    exact ⟨(kO_bit hw).mpr ⟨hi.1, fun w => by rw [hi.2] at w; cases w.2⟩, hi.2⟩
  have at' : ∀ {i : Nat}, (ks_nd (O p) C).testBit i = true → ∃ D, D ∈ R ∧ D.testBit p = true ∧ D.testBit i = true := fun {i} hi => by
    obtain ⟨-, D, d1, d2⟩ := (cv_A R _ _ (gw_kO hw) h.2 p i).mp (lf hi).1
    exact ⟨D, d1, d2⟩
  refine Or.inr ⟨fun u => ?_, ?_⟩
  · obtain ⟨i, hi⟩ := ks_ne0.mp e
    obtain ⟨D, d1, d2, d3⟩ := at' hi
    have := cv_D R _ _ h.2 p (by rw [e2]; omega)
    have m : D ∈ R.filter fun C => C.testBit p := List.mem_filter.mpr ⟨d1, d2⟩
    have := List.length_pos_of_mem m
    omega
  · have hl : ks_nd (O p) C < 2 ^ n := Nat.lt_of_le_of_lt (ks_nd_le _ _) (hw.2.1 p)
    refine (g_each_of hw hl).mpr ?_
    rintro ⟨x, y, hxy, hx, hy, h4⟩
    obtain ⟨D, d1, d2, d3⟩ := at' hx
    obtain ⟨E, k1, k2, k3⟩ := at' hy
    have := cv_D2 h.2 (p := p) (by rw [e2]; omega) (by rw [e2]; omega) d1 k1 d2 k2
    subst this
    have := (cv_A R _ _ (gw_kO hw) h.2 x y).mpr ⟨hxy, D, d1, d3, k3⟩
    rw [((kO_bit hw).mp this).1] at h4
    cases h4
theorem fit_stp {n : Nat} {O s : Nat → Nat} {C a b : Nat} (hw : gw n O) (hC : C < 2 ^ n) (h : fit O s C) (hf : fo O a b) (ha : C.testBit a = true) (hb : C.testBit b = true) : stp O s C := ⟨⟨a, b, hf, ha, hb⟩, (clq_nd hw hC).mpr fun p hp => (h p hp).2.1, fun p hp => (h p hp).1⟩
