/-! SETS AS NUMBERS: an int that holds a set of points is nI of a number; here what the two classes' bit tricks come to. The rows nx_ began as kit/laws' (BITS). -/
theorem nx_and (a b : Nat) : nI a &&& nI b = nI (a &&& b) := by
  apply Int32.toBitVec_inj.1
  show BitVec.ofNat 32 a &&& BitVec.ofNat 32 b = BitVec.ofNat 32 (a &&& b)
  apply BitVec.eq_of_getLsbD_eq
  intro i hi
  simp [hi]
theorem nx_xor (a b : Nat) : nI a ^^^ nI b = nI (a ^^^ b) := by
  apply Int32.toBitVec_inj.1
  show BitVec.ofNat 32 a ^^^ BitVec.ofNat 32 b = BitVec.ofNat 32 (a ^^^ b)
  apply BitVec.eq_of_getLsbD_eq
  intro i hi
  simp [hi]
theorem nx_cnt : ∀ j : Fin 32, (UInt32.ofNat j.val &&& Int32.toUInt32 31).toNat % 32 = j.val := by decide +kernel
theorem nx_ush {k j : Nat} (hk : k < 65536) (hj : j < 32) : ((nI k).toUInt32 >>> ((nI j).toUInt32 &&& Int32.toUInt32 31)).toInt32 = nI (k >>> j) := by
  have hs : k >>> j ≤ k := by
    rw [Nat.shiftRight_eq_div_pow]
    exact Nat.div_le_self _ _
  have e2 : UInt32.ofNat k >>> (UInt32.ofNat j &&& Int32.toUInt32 31) = UInt32.ofNat (k >>> j) := by
    apply UInt32.toNat_inj.1
    have h1 : (UInt32.ofNat k).toNat = k := Nat.mod_eq_of_lt (by omega)
    have h2 : (UInt32.ofNat (k >>> j)).toNat = k >>> j := Nat.mod_eq_of_lt (by omega)
    rw [UInt32.toNat_shiftRight, nx_cnt ⟨j, hj⟩, h1, h2]
  show (UInt32.ofNat k >>> (UInt32.ofNat j &&& Int32.toUInt32 31)).toInt32 = _
  rw [e2]
  rfl
theorem nx_bit {k j : Nat} (hk : k < 65536) (hj : j < 16) : (((nI k).toUInt32 >>> ((nI j).toUInt32 &&& Int32.toUInt32 31)).toInt32 &&& 1) = 0 ↔ k.testBit j = false := by
  rw [nx_ush hk (by omega)]
  show nI (k >>> j) &&& nI 1 = 0 ↔ _
  rw [nx_and, Nat.and_one_is_mod, ← nI_0, nI_eq (by omega) (by omega), Nat.testBit_eq_decide_div_mod_eq, Nat.shiftRight_eq_div_pow, decide_eq_false_iff_not]
  generalize k / 2 ^ j = z
  omega

theorem nx_or (a b : Nat) : nI a ||| nI b = nI (a ||| b) := by
  apply Int32.toBitVec_inj.1
  show BitVec.ofNat 32 a ||| BitVec.ofNat 32 b = BitVec.ofNat 32 (a ||| b)
  apply BitVec.eq_of_getLsbD_eq
  intro i hi
  simp [hi]
theorem ks_m1 : (-1 : Int32) = nI 4294967295 := by decide
theorem ks_0 : (0 : Int32) = nI 0 := rfl
theorem ks_1 : (1 : Int32) = nI 1 := rfl
theorem ks_not (b : Nat) : nI b ^^^ (-1) = nI (b ^^^ 4294967295) := by rw [ks_m1, nx_xor]
/-- a without b -/
def ks_nd (a b : Nat) : Nat := a &&& (b ^^^ 4294967295)
theorem ks_andn (a b : Nat) : nI a &&& (nI b ^^^ (-1)) = nI (ks_nd a b) := by rw [ks_not, nx_and]; rfl
theorem ks_nd_bit {a b i : Nat} (ha : a < 4294967296) : (ks_nd a b).testBit i = (a.testBit i && !b.testBit i) := by
  unfold ks_nd
  rw [Nat.testBit_and, Nat.testBit_xor, show (4294967295 : Nat) = 2 ^ 32 - 1 from rfl, Nat.testBit_two_pow_sub_one]
  by_cases hi : i < 32
  · rw [decide_eq_true hi]
    cases a.testBit i <;> cases b.testBit i <;> rfl
  · rw [Nat.testBit_lt_two_pow (Nat.lt_of_lt_of_le (show a < 2 ^ 32 from ha) (Nat.pow_le_pow_right (by decide) (by omega)))]
    rfl
theorem ks_shl1 : ∀ p, p < 31 → mm_shl 1 (nI p) = nI (2 ^ p) := by decide +kernel
/-- all behind p -/
def ks_bh (p : Nat) : Nat := 4294967295 ^^^ (2 ^ (p + 1) - 1)
theorem ks_shl2 : ∀ p, p < 31 → mm_shl (-2) (nI p) = nI (ks_bh p) := by decide +kernel
theorem ks_bh_bit {p i : Nat} (hi : i < 32) : (ks_bh p).testBit i = decide (p < i) := by
  unfold ks_bh
  rw [Nat.testBit_xor, show (4294967295 : Nat) = 2 ^ 32 - 1 from rfl, Nat.testBit_two_pow_sub_one, Nat.testBit_two_pow_sub_one, decide_eq_true hi]
  by_cases h : p < i
  · rw [decide_eq_true h, decide_eq_false (by omega)]; rfl
  · rw [decide_eq_false h, decide_eq_true (by omega)]; rfl
theorem ks_bit_lt {a n i : Nat} (h : a < 2 ^ n) (hi : a.testBit i = true) : i < n := by
  rcases Nat.lt_or_ge i n with q | q
  · exact q
  · rw [Nat.testBit_lt_two_pow (Nat.lt_of_lt_of_le h (Nat.pow_le_pow_right (by decide) q))] at hi
    cases hi
theorem ks_ext {a b : Nat} (h : ∀ i, a.testBit i = b.testBit i) : a = b := Nat.eq_of_testBit_eq h
theorem ks_zero {a : Nat} : a = 0 ↔ ∀ i, a.testBit i = false := ⟨fun h i => by rw [h, Nat.zero_testBit], fun h => ks_ext fun i => by rw [h i, Nat.zero_testBit]⟩
theorem ks_ne0 {a : Nat} : a ≠ 0 ↔ ∃ i, a.testBit i = true := by
  rw [Ne, ks_zero]
  constructor
  · intro h
    rcases Classical.em (∃ i, a.testBit i = true) with q | q
    · exact q
    · exact absurd (fun i => by
        cases e : a.testBit i with
        | false => rfl
        | true => exact absurd ⟨i, e⟩ q) h
  · rintro ⟨i, h⟩ q
    rw [q i] at h
    cases h
theorem ks_lt {a n : Nat} (h : ∀ i, a.testBit i = true → i < n) : a < 2 ^ n := by
  apply Nat.lt_pow_two_of_testBit
  intro i hi
  cases e : a.testBit i with
  | false => rfl
  | true => have := h i e; omega
theorem ks_and_lt {a b n : Nat} (h : a < 2 ^ n) : a &&& b < 2 ^ n := Nat.lt_of_le_of_lt Nat.and_le_left h
theorem ks_nd_le (a b : Nat) : ks_nd a b ≤ a := Nat.and_le_left
theorem ks_p2 (p i : Nat) : (2 ^ p).testBit i = decide (p = i) := Nat.testBit_two_pow
/-- 1 or 0 -/
noncomputable def ks_b (P : Prop) : Int32 := @ite _ P (Classical.propDecidable P) 1 0
theorem ks_bt {P : Prop} (h : P) : ks_b P = 1 := by unfold ks_b; rw [if_pos h]
theorem ks_bf {P : Prop} (h : ¬ P) : ks_b P = 0 := by unfold ks_b; rw [if_neg h]
theorem ks_b0 {P : Prop} : ks_b P = 0 ↔ ¬ P := by
  by_cases h : P
  · rw [ks_bt h]; simp [h]
  · rw [ks_bf h]; simp [h]
theorem ks_bc {P Q : Prop} (h : P ↔ Q) : ks_b P = ks_b Q := by
  by_cases q : Q
  · rw [ks_bt q, ks_bt (h.mpr q)]
  · rw [ks_bf q, ks_bf (fun p => q (h.mp p))]
theorem ks_bz (P : Prop) : narrow .boolean (.int (ks_b P)) = .int (ks_b P) := by
  by_cases h : P
  · rw [ks_bt h]; rfl
  · rw [ks_bf h]; rfl
theorem ks_ushr {k j : Nat} (hk : k < 65536) (hj : j < 32) : mm_ushr (nI k) (nI j) = nI (k >>> j) := nx_ush hk hj
theorem ks_tb {a p : Nat} : a.testBit p = true ↔ (a >>> p) % 2 = 1 := by rw [Nat.testBit_eq_decide_div_mod_eq, decide_eq_true_eq, Nat.shiftRight_eq_div_pow]
/-- has of the class -/
theorem ks_has {a p : Nat} (ha : a < 65536) (hp : p < 14) : qX9_has (nI a) (nI p) = ks_b (a.testBit p = true) := by
  unfold qX9_has
  rw [if_neg (nI_pos (by omega)), if_neg (by rw [show (14 : Int32) = nI 14 from rfl, nI_leI (by omega) (by omega)]; omega), show (1 : Int32) = nI 1 from rfl, ks_ushr ha (by omega), nx_and, Nat.and_one_is_mod, show (0 : Int32) = nI 0 from rfl]
  have h2 : (a >>> p) % 2 < 2 := Nat.mod_lt _ (by decide)
  by_cases h : a.testBit p = true
  · rw [ks_bt h, if_neg]
    · rfl
    · rw [nI_eq (by omega) (by omega), ks_tb.mp h]
      decide
  · rw [ks_bf h, if_pos]
    · rfl
    · rw [nI_eq (by omega) (by omega)]
      rw [ks_tb] at h
      omega
theorem ks_has_big {x i : Int32} (h : ¬ (0 ≤ i.toInt ∧ i.toInt < 14)) : qX9_has x i = 0 := by
  unfold qX9_has
  by_cases h0 : i < 0
  · rw [if_pos h0]
  · rw [if_neg h0, if_pos]
    rw [Int32.le_iff_toInt_le]
    have := mt Int32.lt_iff_toInt_lt.mpr h0
    simp at this ⊢
    omega
/-- a row of the class -/
theorem ks_at {i n : Nat} {f : Nat → Int32} (hn : n < 2 ^ 31) (h : i < n) : qX9_at (nI i) n f = f i := by
  unfold qX9_at
  rw [if_neg (nI_pos (by omega)), if_neg (by rw [show Int32.ofNat n = nI n from rfl, nI_leI (by omega) (by omega)]; omega), nI_clamp (by omega)]
theorem ks_put {i n : Nat} {f : Nat → Int32} {v : Int32} (hn : n < 2 ^ 31) (h : i < n) : qX9_put (nI i) v n f = upd f i v := by
  unfold qX9_put
  rw [if_neg (nI_pos (by omega)), if_neg (by rw [show Int32.ofNat n = nI n from rfl, nI_leI (by omega) (by omega)]; omega), nI_clamp (by omega)]
/-- how many points a set has -/
def ks_pop (a : Nat) : Nat := (List.range 14).countP fun i => a.testBit i
def ks_chk (f : Nat → Bool) (lo : Nat) : Bool := (List.range 1024).all fun i => f (lo + i)
theorem ks_chk_all {f : Nat → Bool} (h : (List.range 16).all (fun j => ks_chk f (1024 * j)) = true) : ∀ a, a < 16384 → f a = true := by
  intro a ha
  have h1 := List.all_eq_true.mp h (a / 1024) (List.mem_range.mpr (by omega))
  have h2 := List.all_eq_true.mp h1 (a % 1024) (List.mem_range.mpr (by omega))
  rwa [show 1024 * (a / 1024) + a % 1024 = a from by omega] at h2
theorem ks_cnt_q0 : ks_chk (fun a => decide (qJ6_bitCount_0f7a4 (nI a) = nI (ks_pop a))) (1024 * 0) = true := by decide +kernel
theorem ks_cnt_q1 : ks_chk (fun a => decide (qJ6_bitCount_0f7a4 (nI a) = nI (ks_pop a))) (1024 * 1) = true := by decide +kernel
theorem ks_cnt_q2 : ks_chk (fun a => decide (qJ6_bitCount_0f7a4 (nI a) = nI (ks_pop a))) (1024 * 2) = true := by decide +kernel
theorem ks_cnt_q3 : ks_chk (fun a => decide (qJ6_bitCount_0f7a4 (nI a) = nI (ks_pop a))) (1024 * 3) = true := by decide +kernel
theorem ks_cnt_q4 : ks_chk (fun a => decide (qJ6_bitCount_0f7a4 (nI a) = nI (ks_pop a))) (1024 * 4) = true := by decide +kernel
theorem ks_cnt_q5 : ks_chk (fun a => decide (qJ6_bitCount_0f7a4 (nI a) = nI (ks_pop a))) (1024 * 5) = true := by decide +kernel
theorem ks_cnt_q6 : ks_chk (fun a => decide (qJ6_bitCount_0f7a4 (nI a) = nI (ks_pop a))) (1024 * 6) = true := by decide +kernel
theorem ks_cnt_q7 : ks_chk (fun a => decide (qJ6_bitCount_0f7a4 (nI a) = nI (ks_pop a))) (1024 * 7) = true := by decide +kernel
theorem ks_cnt_q8 : ks_chk (fun a => decide (qJ6_bitCount_0f7a4 (nI a) = nI (ks_pop a))) (1024 * 8) = true := by decide +kernel
theorem ks_cnt_q9 : ks_chk (fun a => decide (qJ6_bitCount_0f7a4 (nI a) = nI (ks_pop a))) (1024 * 9) = true := by decide +kernel
theorem ks_cnt_q10 : ks_chk (fun a => decide (qJ6_bitCount_0f7a4 (nI a) = nI (ks_pop a))) (1024 * 10) = true := by decide +kernel
theorem ks_cnt_q11 : ks_chk (fun a => decide (qJ6_bitCount_0f7a4 (nI a) = nI (ks_pop a))) (1024 * 11) = true := by decide +kernel
theorem ks_cnt_q12 : ks_chk (fun a => decide (qJ6_bitCount_0f7a4 (nI a) = nI (ks_pop a))) (1024 * 12) = true := by decide +kernel
theorem ks_cnt_q13 : ks_chk (fun a => decide (qJ6_bitCount_0f7a4 (nI a) = nI (ks_pop a))) (1024 * 13) = true := by decide +kernel
theorem ks_cnt_q14 : ks_chk (fun a => decide (qJ6_bitCount_0f7a4 (nI a) = nI (ks_pop a))) (1024 * 14) = true := by decide +kernel
theorem ks_cnt_q15 : ks_chk (fun a => decide (qJ6_bitCount_0f7a4 (nI a) = nI (ks_pop a))) (1024 * 15) = true := by decide +kernel
theorem ks_cnt_qs : ∀ j, j < 16 → ks_chk (fun a => decide (qJ6_bitCount_0f7a4 (nI a) = nI (ks_pop a))) (1024 * j) = true
  | 0, _ => ks_cnt_q0
  | 1, _ => ks_cnt_q1
  | 2, _ => ks_cnt_q2
  | 3, _ => ks_cnt_q3
  | 4, _ => ks_cnt_q4
  | 5, _ => ks_cnt_q5
  | 6, _ => ks_cnt_q6
  | 7, _ => ks_cnt_q7
  | 8, _ => ks_cnt_q8
  | 9, _ => ks_cnt_q9
  | 10, _ => ks_cnt_q10
  | 11, _ => ks_cnt_q11
  | 12, _ => ks_cnt_q12
  | 13, _ => ks_cnt_q13
  | 14, _ => ks_cnt_q14
  | 15, _ => ks_cnt_q15
  | j + 16, h => absurd h (by omega)
theorem ks_cnt_chk : (List.range 16).all (fun j => ks_chk (fun a => decide (qJ6_bitCount_0f7a4 (nI a) = nI (ks_pop a))) (1024 * j)) = true := List.all_eq_true.mpr fun j hj => ks_cnt_qs j (List.mem_range.mp hj)
theorem ks_cnt {a : Nat} (h : a < 16384) : qJ6_bitCount_0f7a4 (nI a) = nI (ks_pop a) := of_decide_eq_true (ks_chk_all (f := fun a => decide (qJ6_bitCount_0f7a4 (nI a) = nI (ks_pop a))) ks_cnt_chk a h)
theorem up_ind {P : Nat → Prop} {n : Nat} (h : ∀ j, j ≤ n → (j < n → P (j + 1)) → P j) : ∀ j, j ≤ n → P j := by
  intro j hj
  obtain ⟨k, hk⟩ : ∃ k, k = n - j := ⟨_, rfl⟩
  induction k generalizing j with
  | zero => exact h j hj (fun q => by omega)
  | succ k ih => exact h j hj (fun q => ih (j + 1) (by omega) (by omega))
