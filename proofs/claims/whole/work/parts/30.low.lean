/-! THE LEAST POINT OF A SET -/
def ks_fst (S a : Nat) : Prop := S.testBit a = true ∧ ∀ i, i < a → S.testBit i = false
theorem ks_fst_ex {S : Nat} (h : S ≠ 0) : ∃ a, ks_fst S a := by
  obtain ⟨i, hi⟩ := ks_ne0.mp h
  obtain ⟨a, h1, h2⟩ := pk_least (fun k => S.testBit k = true) ⟨i, hi⟩
  exact ⟨a, h1, fun i hi => by
    have := h2 i hi
    rwa [Bool.not_eq_true] at this⟩
theorem ks_pred_bit : ∀ (a S i : Nat), ks_fst S a → (S - 1).testBit i = if i < a then true else if i = a then false else S.testBit i := by
  intro a
  induction a with
  | zero =>
    rintro S i ⟨h1, -⟩
    rw [Nat.testBit_zero, decide_eq_true_eq] at h1
    rw [if_neg (Nat.not_lt_zero i)]
    cases i with
    | zero =>
      rw [if_pos rfl, Nat.testBit_zero, decide_eq_false (by omega)]
    | succ j =>
      rw [if_neg (by omega), Nat.testBit_succ, Nat.testBit_succ, show (S - 1) / 2 = S / 2 by omega]
  | succ a ih =>
    rintro S i ⟨h1, h2⟩
    have h0 := h2 0 (by omega)
    rw [Nat.testBit_zero, decide_eq_false_iff_not] at h0
    have hS : S ≠ 0 := fun e => by rw [e, Nat.zero_testBit] at h1; cases h1
    cases i with
    | zero =>
      rw [if_pos (by omega), Nat.testBit_zero, decide_eq_true (by omega)]
    | succ j =>
      have q : ks_fst (S / 2) a := by
        refine ⟨by rw [← Nat.testBit_succ]; exact h1, fun k hk => ?_⟩
        rw [← Nat.testBit_succ]
        exact h2 _ (by omega)
      rw [Nat.testBit_succ, Nat.testBit_succ, show (S - 1) / 2 = S / 2 - 1 by omega, ih (S / 2) j q]
      by_cases e : j < a
      · rw [if_pos e, if_pos (show j + 1 < a + 1 by omega)]
      · rw [if_neg e, if_neg (show ¬ j + 1 < a + 1 by omega)]
        by_cases e2 : j = a
        · rw [if_pos e2, if_pos (show j + 1 = a + 1 by omega)]
        · rw [if_neg e2, if_neg (show ¬ j + 1 = a + 1 by omega)]
theorem nI_neg {S : Nat} (h : S ≤ 2 ^ 32) : -nI S = nI (2 ^ 32 - S) := by
  apply Int32.toBitVec_inj.1
  show -BitVec.ofNat 32 S = BitVec.ofNat 32 (2 ^ 32 - S)
  apply BitVec.eq_of_toNat_eq
  rw [BitVec.toNat_neg, BitVec.toNat_ofNat, BitVec.toNat_ofNat]
  omega
theorem ks_neg {S a : Nat} (hS : S < 2 ^ 31) (h : ks_fst S a) : nI S &&& -nI S = nI (2 ^ a) := by
  have h0 : S ≠ 0 := fun e => by
    have := h.1
    rw [e, Nat.zero_testBit] at this
    cases this
  rw [nI_neg (by omega), nx_and]
  congr 1
  apply ks_ext
  intro i
  rw [Nat.testBit_and, show 2 ^ 32 - S = 2 ^ 32 - ((S - 1) + 1) by omega, Nat.testBit_two_pow_sub_succ (by omega), ks_pred_bit a S i h, ks_p2]
  by_cases e : i < a
  · rw [h.2 i e, decide_eq_false (show ¬ a = i by omega), Bool.false_and]
  · rw [if_neg e]
    by_cases e2 : i = a
    · subst e2
      have : i < 31 := ks_bit_lt hS h.1
      rw [if_pos rfl, h.1, decide_eq_true rfl, decide_eq_true (by omega)]
      rfl
    · rw [if_neg e2, decide_eq_false (show ¬ a = i by omega)]
      cases S.testBit i <;> simp
theorem ks_popm : ∀ a, a < 14 → ks_pop (2 ^ a - 1) = a := by decide +kernel
/-- lowest of the class -/
theorem ks_low {S a : Nat} (hS : S < 16384) (h : ks_fst S a) : qJ6_bitCount_0f7a4 ((nI S &&& -nI S) - 1) = nI a := by
  have ha : a < 14 := ks_bit_lt (n := 14) hS h.1
  rw [ks_neg (by omega) h]
  have hp := Nat.pow_pos (a := 2) (n := a) (by decide)
  have hp2 : 2 ^ a < 2 ^ 14 := Nat.pow_lt_pow_right (by decide) ha
  rw [show 2 ^ a = (2 ^ a - 1) + 1 by omega, nI_pred, ks_cnt (by omega), ks_popm a ha]
/-- a set without its least point -/
theorem ks_less {S a : Nat} (h : ks_fst S a) (i : Nat) : (S &&& (S - 1)).testBit i = (S.testBit i && !decide (i = a)) := by
  rw [Nat.testBit_and, ks_pred_bit a S i h]
  by_cases e : i < a
  · rw [h.2 i e, Bool.false_and, Bool.false_and]
  · rw [if_neg e]
    by_cases e2 : i = a
    · rw [if_pos e2, decide_eq_true e2, Bool.and_false]
      simp
    · rw [if_neg e2, decide_eq_false e2, Bool.and_self]
      simp
theorem nI_sub1 {S : Nat} (h : S ≠ 0) : nI S - 1 = nI (S - 1) := by
  obtain ⟨t, rfl⟩ : ∃ t, S = t + 1 := ⟨S - 1, by omega⟩
  exact nI_pred t
/-- least of the model -/
theorem s_least {M : mm_Mem} {S a : Nat} (hS : S < 16384) (h : ks_fst S a) : mm_S 1 mX10_least 0 0 [.int (nI S)] M (mm_Eq (some (.int (nI a))) M) := by
  have ha : a < 14 := ks_bit_lt (n := 14) hS h.1
  refine mm_S.of rfl rfl (Nat.le_of_ble_eq_true rfl) mm_ndi (bX10_least_0 ?_)
  refine fld (s := 0) (n := a) (G := fun j (_ : Unit) => mm_X mX10_least 1 none (0, 0) 2 [.int (nI S), .int (nI j)] [] M (mm_Eq (some (.int (nI a))) M)) (I := fun _ _ => True) (v0 := ()) (Nat.zero_le a) trivial ?_
  intro j _ _ hj _ ih
  refine bX10_least_2 (by decide) (fun c => ⟨?_, rfl⟩) (fun c => ?_)
  · rw [ks_mhas (by omega) (by omega), ks_b0, Classical.not_not] at c
    rcases Nat.lt_or_ge j a with e | e
    · rw [h.2 j e] at c
      cases c
    · obtain rfl : j = a := by omega
      rfl
  · rw [ks_mhas (by omega) (by omega), ks_b0] at c
    rw [nI_1]
    refine ih () ?_ trivial
    rcases Nat.lt_or_ge j a with e | e
    · exact e
    · obtain rfl : j = a := by omega
      exact absurd h.1 c
