/-! THE MODEL'S NETS: points come and go, ties turn -/
theorem gk_upd {n j v : Nat} {T : Nat → Nat} (hj : j < 2 ^ 30) : upd (gk_f n T) (Int32.toNatClampNeg (1 + nI j)) (nI v) = gk_f n (fun p => if p = j then v else T p) := by
  rw [show (1 : Int32) = nI 1 from rfl, nI_add, nI_clamp (by omega)]
  funext i
  unfold upd gk_f
  by_cases e : i = 1 + j
  · rw [if_pos e, if_neg (by omega)]
    show nI v = nI (if i - 1 = j then v else T (i - 1))
    rw [if_pos (by omega)]
  · rw [if_neg e]
    by_cases e0 : i = 0
    · rw [if_pos e0, if_pos e0]
    · rw [if_neg e0, if_neg e0]
      show nI (T (i - 1)) = nI (if i - 1 = j then v else T (i - 1))
      rw [if_neg (by omega)]
theorem gk_upd0 {n m : Nat} {T : Nat → Nat} : upd (gk_f n T) (Int32.toNatClampNeg 0) (nI m) = gk_f m T := by
  funext i
  show (if i = 0 then nI m else gk_f n T i) = gk_f m T i
  unfold gk_f
  by_cases e : i = 0 <;> simp [e]
theorem gk_eq {n : Nat} {T T' : Nat → Nat} (h : ∀ p, p < 14 → T p = T' p) (hz : ∀ p, 14 ≤ p → T p = T' p) : gk_f n T = gk_f n T' := by
  have : T = T' := funext fun p => by
    rcases Nat.lt_or_ge p 14 with q | q
    · exact h p q
    · exact hz p q
  rw [this]
/-- what turns writes -/
theorem gk_turns {n a b : Nat} {T : Nat → Nat} (ha : a < 14) (hb : b < 14) (hab : a ≠ b) : upd (upd (gk_f n T) (Int32.toNatClampNeg (1 + nI a)) ((gk_f n T (Int32.toNatClampNeg (1 + nI a))) ^^^ (mm_shl 1 (nI b)))) (Int32.toNatClampNeg (1 + nI b)) (((upd (gk_f n T) (Int32.toNatClampNeg (1 + nI a)) ((gk_f n T (Int32.toNatClampNeg (1 + nI a))) ^^^ (mm_shl 1 (nI b)))) (Int32.toNatClampNeg (1 + nI b))) ^^^ (mm_shl 1 (nI a))) = gk_f n (g_flip T a b) := by
  rw [gk_1 (by omega), ks_shl1 _ (by omega), ks_shl1 _ (by omega), nx_xor, gk_upd (by omega), gk_1 (by omega), nx_xor, gk_upd (by omega)]
  congr 1
  funext p
  unfold g_flip
  by_cases h1 : p = b
  · subst h1
    simp [Ne.symm hab]
  · by_cases h2 : p = a <;> simp [h1, h2, hab]
theorem s_comes {M : mm_Mem} {a n S : Nat} {T : Nat → Nat} (o : ra M a n T) (hw : gw n T) (hn : n < 14) (hS : S < 2 ^ n) : mm_S 1 mX10_comes 0 0 [.ref a, .int (nI S)] M (mm_Eq none (mm_up M a (mm_aI 15 (gk_f (n + 1) (g_add n T S))))) := by
  have hS' := ks_p14 (by omega) hS
  refine mm_S.of rfl rfl (Nat.le_of_ble_eq_true rfl) mm_ndn (bX10_comes_0 o gk_in0 gk_in0 gk_in0 (by rw [gk_0]; exact gk_in1 hn) ?_)
  rw [gk_0, nI_1, gk_upd0, show (0 : Int32) = nI 0 from rfl, gk_upd (by omega)]
  refine fld (s := 0) (n := n) (G := fun j F => mm_X mX10_comes 1 none (0, 0) 19 [.ref a, .int (nI S), .int (nI n), .int (nI j)] [] (mm_up M a (mm_aI 15 (gk_f (n + 1) F))) (mm_Eq none (mm_up M a (mm_aI 15 (gk_f (n + 1) (g_add n T S)))))) (I := fun j F => (∀ p, p < j → F p = g_add n T S p) ∧ (∀ p, j ≤ p → p ≠ n → F p = T p) ∧ ∀ i, (F n).testBit i = (S.testBit i && decide (i < j))) (Nat.zero_le n) ⟨fun p h => absurd h (Nat.not_lt_zero p), fun p _ h => by rw [if_neg h], fun i => by simp⟩ ?_
  intro j F _ hj hI ih
  obtain ⟨i1, i2, i3⟩ := hI
  have o' : mm_at (mm_up M a (mm_aI 15 (gk_f (n + 1) F))) a (mm_aI 15 (gk_f (n + 1) F)) := mm_at.s o.1
  have lt : ¬ nI n ≤ nI j → j < n := by
    intro h
    rw [ks_le (by omega) (by omega)] at h
    omega
  have gan : ∀ p, p ≠ n → g_add n T S p = if S.testBit p then T p ||| 2 ^ n else T p := fun p h => by
    unfold g_add
    rw [if_neg h]
  refine bX10_comes_19 o' (by decide) (fun c => ⟨rfl, ?_⟩) (fun c c1 => ?_) (fun _ _ => gk_in1 (by omega)) (fun _ _ => gk_in1 (by omega)) (fun c _ => gk_in1 (by have := lt c; omega)) (fun c _ => gk_in1 (by have := lt c; omega)) (fun c c1 => ?_)
  · simp (disch := omega) only [ks_le, ks_ltI, ks_eqI, ks_eq0, ks_le14, ks_has, ks_mhas, ks_at, ks_b0, gk_0, gk_1, ks_andn, nx_and, nx_or, nx_xor, ks_shl1, ks_shl2, Classical.not_not, nI_1] at c
    have : F = g_add n T S := by
      funext p
      rcases Nat.lt_or_ge p j with e | e
      · exact i1 p e
      · by_cases e2 : p = n
        · subst e2
          unfold g_add
          rw [if_pos rfl]
          apply ks_ext
          intro i
          rw [i3]
          cases hb : S.testBit i with
          | false => rfl
          | true => rw [decide_eq_true (by have := ks_bit_lt hS hb; omega)]; rfl
        · rw [i2 p e e2, gan p e2, if_neg]
          rw [Nat.testBit_lt_two_pow (Nat.lt_of_lt_of_le hS (Nat.pow_le_pow_right (by decide) (by omega)))]
          decide
    rw [this]
  · have := lt c
    rw [ks_mhas (by omega) (by omega), ks_b0] at c1
    rw [nI_1]
    refine ih F (by omega) ⟨fun p hp => ?_, fun p hp => i2 p (by omega), fun i => ?_⟩
    · rcases Nat.lt_or_ge p j with e | e
      · exact i1 p e
      · obtain rfl : p = j := by omega
        rw [i2 p (by omega) (by omega), gan p (by omega), if_neg c1]
    · rw [i3]
      by_cases e : i = j
      · subst e
        simp at c1
        rw [c1]
        rfl
      · congr 1
        exact decide_eq_decide.mpr ⟨fun h => by omega, fun h => by omega⟩
  · have := lt c
    rw [ks_mhas (by omega) (by omega), ks_b0, Classical.not_not] at c1
    rw [gk_turns (by omega) (by omega) (by omega), mm_up_up, nI_1]
    have low : (T j).testBit n = false := Nat.testBit_lt_two_pow (hw.2.1 j)
    refine ih _ (by omega) ⟨fun p hp => ?_, fun p hp h2 => ?_, fun i => ?_⟩
    · unfold g_flip
      by_cases e : p = j
      · subst e
        rw [if_pos rfl, i2 p (by omega) (by omega), gan p (by omega), if_pos c1]
        apply ks_ext
        intro i
        rw [Nat.testBit_xor, Nat.testBit_or, ks_p2]
        by_cases e2 : n = i
        · subst e2
          rw [low]
          simp
        · simp [e2]
      · rw [if_neg e, if_neg (by omega)]
        exact i1 p (by omega)
    · unfold g_flip
      rw [if_neg (by omega), if_neg h2]
      exact i2 p (by omega) h2
    · unfold g_flip
      rw [if_neg (by omega), if_pos rfl, Nat.testBit_xor, i3, ks_p2]
      by_cases e : j = i
      · subst e
        rw [c1, decide_eq_false (by omega), decide_eq_true rfl, decide_eq_true (by omega)]
        rfl
      · rw [decide_eq_false e, Bool.xor_false]
        congr 1
        exact decide_eq_decide.mpr ⟨fun h => by omega, fun h => by omega⟩
