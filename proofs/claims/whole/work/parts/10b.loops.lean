/-! LOOPS, and the two classes' ints as numbers -/
/-- a search: on to the next while P doesn't hold -/
theorem srch {G P : Nat → Prop} {s n : Nat} (h : s ≤ n) (hs : ∀ j, s ≤ j → j ≤ n → (∀ a, s ≤ a → a < j → ¬ P a) → (j < n → ¬ P j → G (j + 1)) → G j) : G s := by
  have H : ∀ j, j ≤ n → s ≤ j → (∀ a, s ≤ a → a < j → ¬ P a) → G j := by
    refine up_ind ?_
    intro j hj ih h1 h2
    refine hs j h1 hj h2 (fun hlt hp => ih hlt (by omega) (fun a ha hb => ?_))
    rcases Nat.lt_or_ge a j with q | q
    · exact h2 a ha q
    · obtain rfl : a = j := by omega
      exact hp
  exact H s h (Nat.le_refl s) (fun a h1 h2 => by omega)
/-- a fold: a value that I holds at every step -/
theorem fld {σ : Type} {G I : Nat → σ → Prop} {s n : Nat} {v0 : σ} (h : s ≤ n) (h0 : I s v0) (hs : ∀ j v, s ≤ j → j ≤ n → I j v → (∀ v', j < n → I (j + 1) v' → G (j + 1) v') → G j v) : G s v0 := by
  have H : ∀ j, j ≤ n → s ≤ j → ∀ v, I j v → G j v := by
    refine up_ind ?_
    intro j hj ih h1 v hv
    exact hs j v h1 hj hv (fun v' hlt hv' => ih hlt (by omega) v' hv')
  exact H s h (Nat.le_refl s) v0 h0
theorem ks_ltI {a b : Nat} (ha : a < 2 ^ 31) (hb : b < 2 ^ 31) : nI a < nI b ↔ a < b := nI_ltI ha hb
theorem ks_eqI {a b : Nat} (ha : a < 2 ^ 31) (hb : b < 2 ^ 31) : nI a = nI b ↔ a = b := nI_eq ha hb
theorem ks_eq0 {a : Nat} (ha : a < 2 ^ 31) : nI a = 0 ↔ a = 0 := by rw [show (0 : Int32) = nI 0 from rfl, nI_eq ha (by omega)]
theorem ks_le14 {b : Nat} (hb : b < 2 ^ 31) : (14 : Int32) ≤ nI b ↔ 14 ≤ b := nI_leI (by decide) hb
theorem ks_shrN {n : Nat} (h : n < 2 ^ 31) : ∀ k, k < 31 → mm_shr (nI n) (nI k) = nI (n >>> k) := by
  intro k hk
  unfold mm_shr
  rw [Nat.shiftRight_eq_div_pow]
  have e : ∀ k, k < 31 → ((nI k &&& 31 : Int32).toBitVec.smod 32).toNat = k := by decide +kernel
  exact pk_shrN h _ k (e k hk)
theorem ks_mhas {a p : Nat} (ha : a < 2 ^ 31) (hp : p < 31) : qX10_has (nI a) (nI p) = ks_b (a.testBit p = true) := by
  unfold qX10_has
  rw [ks_shrN ha p hp, show (1 : Int32) = nI 1 from rfl, nx_and, Nat.and_one_is_mod]
  have h2 : (a >>> p) % 2 < 2 := Nat.mod_lt _ (by decide)
  by_cases h : a.testBit p = true
  · have := ks_tb.mp h
    rw [ks_bt h, this]
    rfl
  · have h3 : (a >>> p) % 2 = 0 := by
      rw [ks_tb] at h
      omega
    rw [ks_bf h, h3]
    rfl
/-- a network in a row of the model -/
def gk_f (n : Nat) (T : Nat → Nat) : Nat → Int32 := fun p => nI (if p = 0 then n else T (p - 1))
theorem gk_0 {n : Nat} {T : Nat → Nat} : gk_f n T (Int32.toNatClampNeg 0) = nI n := rfl
theorem gk_1 {n : Nat} {T : Nat → Nat} {j : Nat} (hj : j < 2 ^ 30) : gk_f n T (Int32.toNatClampNeg (1 + nI j)) = nI (T j) := by
  rw [show (1 : Int32) = nI 1 from rfl, nI_add, nI_clamp (by omega)]
  unfold gk_f
  rw [if_neg (by omega), show 1 + j - 1 = j from by omega]
theorem gk_in0 : vp_in 0 15 := vp_in_nI (n := 0) (by decide) (by decide)
theorem gk_in1 {j : Nat} (hj : j < 14) : vp_in (1 + nI j) 15 := by
  rw [show (1 : Int32) = nI 1 from rfl, nI_add]
  exact vp_in_nI (by omega) (by decide)
theorem ks_and2 {a b n : Nat} (h : b < 2 ^ n) : a &&& b < 2 ^ n := Nat.lt_of_le_of_lt Nat.and_le_right h
theorem ks_p14 {a n : Nat} (hn : n ≤ 14) (h : a < 2 ^ n) : a < 16384 := Nat.lt_of_lt_of_le h (Nat.le_trans (Nat.pow_le_pow_right (by decide) hn) (by decide))
theorem ks_or_lt {a b n : Nat} (ha : a < 2 ^ n) (hb : b < 2 ^ n) : a ||| b < 2 ^ n := Nat.or_lt_two_pow ha hb
theorem ks_xor_lt {a b n : Nat} (ha : a < 2 ^ n) (hb : b < 2 ^ n) : a ^^^ b < 2 ^ n := Nat.xor_lt_two_pow ha hb
theorem ks_p2_lt {j n : Nat} (h : j < n) : 2 ^ j < 2 ^ n := Nat.pow_lt_pow_right (by decide) h
