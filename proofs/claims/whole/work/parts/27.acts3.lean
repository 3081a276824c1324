/-! THE MODEL: tie, part, come, go -/
theorem q_isIn {n : Nat} (hn : n ≤ 14) (x : Int32) : qX10_isIn x 0 (nI n - 1) = ks_b (∃ p, p < n ∧ x = nI p) := by
  unfold qX10_isIn
  cases n with
  | zero =>
    rw [ks_bf (by rintro ⟨p, hp, -⟩; omega)]
    by_cases h : x < 0
    · rw [if_pos h]
    · rw [if_neg h, if_pos]
      rw [show nI 0 - 1 = (-1 : Int32) from by decide, Int32.lt_iff_toInt_lt]
      rw [Int32.lt_iff_toInt_lt] at h
      have e1 : (-1 : Int32).toInt = -1 := by decide
      have e2 : (0 : Int32).toInt = 0 := by decide
      omega
  | succ m =>
    rw [nI_pred]
    by_cases h : x < 0
    · rw [if_pos h, ks_bf]
      rintro ⟨p, hp, rfl⟩
      exact nI_pos (by omega) h
    · rw [if_neg h]
      by_cases h2 : nI m < x
      · rw [if_pos h2, ks_bf]
        rintro ⟨p, hp, rfl⟩
        rw [ks_ltI (by omega) (by omega)] at h2
        omega
      · obtain ⟨j, h3, h4⟩ := nI_of2 (M := nI m) (n := m) (nI_toInt (by omega)) h (Int32.not_lt.mp h2)
        rw [if_neg h2, ks_bt ⟨j, by omega, h4⟩]
