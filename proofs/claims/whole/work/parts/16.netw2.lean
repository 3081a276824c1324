/-! THE CLASS'S NET: a point comes, a point goes, a tie turns -/
theorem ks_all : ∀ n, n < 15 → mm_shl 1 (nI n) - 1 = nI (2 ^ n - 1) := by decide +kernel
theorem ks_p2m (n : Nat) : 2 ^ n - 1 < 2 ^ n := by have := Nat.pow_pos (n := n) (show 0 < 2 by decide); omega
/-- a set of points, as an int that may be any -/
def g_set (n : Nat) (x : Int32) : Prop := ∃ S, S < 2 ^ n ∧ x = nI S
theorem g_set_all {n : Nat} (hn : n < 15) (x : Int32) : x &&& (nI (2 ^ n - 1) ^^^ (-1)) = 0 ↔ g_set n x := by
  obtain ⟨s, hs, rfl⟩ : ∃ s, s < 2 ^ 32 ∧ x = nI s := ⟨x.toBitVec.toNat, x.toBitVec.isLt, Int32.toBitVec_inj.mp (by show x.toBitVec = BitVec.ofNat 32 _; rw [BitVec.ofNat_toNat]; simp)⟩
  rw [ks_andn]
  have b : ∀ i, (ks_nd s (2 ^ n - 1)).testBit i = (s.testBit i && !decide (i < n)) := by
    intro i
    rw [ks_nd_bit hs, Nat.testBit_two_pow_sub_one]
  have e : nI (ks_nd s (2 ^ n - 1)) = 0 ↔ ks_nd s (2 ^ n - 1) = 0 := by
    rw [show (0 : Int32) = nI 0 from rfl]
    constructor
    · intro h
      have h1 : (nI (ks_nd s (2 ^ n - 1))).toBitVec.toNat = (nI 0).toBitVec.toNat := by rw [h]
      have := ks_nd_le s (2 ^ n - 1)
      rw [pk_tn (by omega), pk_tn (by omega)] at h1
      exact h1
    · intro h
      rw [h]
  rw [e, ks_zero]
  constructor
  · intro h
    refine ⟨s, ks_lt (fun i hi => ?_), rfl⟩
    rcases Nat.lt_or_ge i n with q | q
    · exact q
    · have := h i
      rw [b, hi, decide_eq_false (by omega)] at this
      cases this
  · rintro ⟨S, hS, hx⟩ i
    have h1 : (nI s).toBitVec.toNat = (nI S).toBitVec.toNat := by rw [hx]
    have hS2 : S < 2 ^ 32 := Nat.lt_of_lt_of_le hS (Nat.pow_le_pow_right (by decide) (by omega))
    rw [pk_tn hs, pk_tn hS2] at h1
    subst h1
    rw [b]
    cases hb : s.testBit i with
    | false => rfl
    | true => rw [decide_eq_true (ks_bit_lt hS hb)]; rfl
theorem q_mayAdd {n : Nat} (hn : n ≤ 14) (x : Int32) : qX3_mayAdd x (nI n) = ks_b (n < 14 ∧ g_set n x) := by
  unfold qX3_mayAdd
  by_cases h : n < 14
  · rw [if_neg (by rw [ks_le14 (by omega)]; omega), ks_all n (by omega)]
    by_cases h2 : g_set n x
    · rw [if_pos ((g_set_all (by omega) x).mpr h2), ks_bt ⟨h, h2⟩]
    · rw [if_neg (fun q => h2 ((g_set_all (by omega) x).mp q)), ks_bf (fun q => h2 q.2)]
  · rw [if_pos (by rw [ks_le14 (by omega)]; omega), ks_bf (fun q => h q.1)]
def g_add (n : Nat) (T : Nat → Nat) (S : Nat) : Nat → Nat := fun p => if p = n then S else if S.testBit p then T p ||| 2 ^ n else T p
theorem gw_add {n S : Nat} {T : Nat → Nat} (hw : gw n T) (hn : n < 14) (hS : S < 2 ^ n) : gw (n + 1) (g_add n T S) := by
  have hp : 2 ^ n < 2 ^ (n + 1) := ks_p2_lt (by omega)
  have low : ∀ p, (T p).testBit n = false := fun p => Nat.testBit_lt_two_pow (hw.2.1 p)
  have tb : ∀ p q, p ≠ n → (g_add n T S p).testBit q = ((T p).testBit q || (S.testBit p && decide (n = q))) := by
    intro p q h
    unfold g_add
    rw [if_neg h]
    cases hb : S.testBit p
    · simp
    · rw [if_pos rfl, Nat.testBit_or, ks_p2]; simp
  have tn : ∀ q, (g_add n T S n).testBit q = S.testBit q := fun q => by unfold g_add; rw [if_pos rfl]
  refine ⟨by omega, fun p => ?_, fun p hp2 => ?_, fun p q => ?_, fun p => ?_⟩
  · unfold g_add
    split
    · omega
    · have := hw.2.1 p
      split
      · exact ks_or_lt (by omega) hp
      · omega
  · unfold g_add
    rw [if_neg (by omega), if_neg, hw.2.2.1 p (by omega)]
    rw [Nat.testBit_lt_two_pow (Nat.lt_of_lt_of_le hS (Nat.pow_le_pow_right (by decide) (by omega)))]
    decide
  · by_cases h1 : p = n <;> by_cases h2 : q = n
    · rw [h1, h2]
    · subst h1
      rw [tn, tb q p h2, low, decide_eq_true rfl]
      simp
    · subst h2
      rw [tn, tb p q h1, low, decide_eq_true rfl]
      simp
    · rw [tb p q h1, tb q p h2, hw.2.2.2.1 p q, decide_eq_false (Ne.symm h1), decide_eq_false (Ne.symm h2)]
      simp
  · by_cases h : p = n
    · subst h
      rw [tn, Nat.testBit_lt_two_pow hS]
    · rw [tb p p h, hw.2.2.2.2 p, decide_eq_false (Ne.symm h)]
      simp
theorem s_add {M : mm_Mem} {k n S : Nat} {T : Nat → Nat} (o : na M k n T) (hw : gw n T) (hn : n < 14) (hS : S < 2 ^ n) : mm_S 2 mX3_add 0 0 [.ref k, .int (nI S)] M (mm_Eq none (mm_net M k (n + 1) (g_add n T S))) := by
  have hk := o.k
  have hS' := ks_p14 (by omega) hS
  refine mm_S.of rfl rfl (Nat.le_of_ble_eq_true rfl) mm_ndn (bX3_add_0 o.1 o.2 (by omega) (by decide) (fun _ => ?_) (fun c => ?_))
  · rw [nI_1, show mm_up M k (mm_aO 3 [.int (nI (n + 1)), .ref (k + 1)]) = mm_net M k (n + 1) T from by rw [← mm_net_pt (n := n), mm_net_id o], ks_put (by decide) (by omega), gt_upd, mm_net_up rfl]
    refine fld (G := fun j F => mm_X mX3_add 2 none (0, 0) 32 [.ref k, .int (nI S), .int (nI n), .int (nI j)] [] (mm_net M k (n + 1) F) (mm_Eq none (mm_net M k (n + 1) (g_add n T S)))) (I := fun j F => (∀ p, p < j → F p = g_add n T S p) ∧ (∀ p, j ≤ p → p ≠ n → F p = T p) ∧ F n = S) (Nat.zero_le n) ⟨fun p h => absurd h (Nat.not_lt_zero p), fun p _ h => by simp [h], by simp⟩ ?_
    intro j F _ hj hI ih
    obtain ⟨i1, i2, i3⟩ := hI
    have q := mm_net_na (M := M) (n := n + 1) (T := F) hk
    refine bX3_add_32 q.1 q.2 (by decide) (fun c => ⟨rfl, ?_⟩) (fun c c1 => ?_) (fun c c1 => ?_)
    · simp (disch := omega) only [ks_le, ks_ltI, ks_eqI, ks_eq0, ks_le14, ks_has, ks_mhas, ks_at, ks_b0, gk_0, gk_1, ks_andn, nx_and, nx_or, nx_xor, ks_shl1, ks_shl2, Classical.not_not, nI_1] at c
      have : F = g_add n T S := by
        funext p
        rcases Nat.lt_or_ge p j with e | e
        · exact i1 p e
        · by_cases e2 : p = n
          · subst e2
            rw [i3]
            unfold g_add
            rw [if_pos rfl]
          · rw [i2 p e e2]
            unfold g_add
            rw [if_neg e2, if_neg]
            rw [Nat.testBit_lt_two_pow (Nat.lt_of_lt_of_le hS (Nat.pow_le_pow_right (by decide) (by omega)))]
            decide
      rw [this]
    · simp (disch := omega) only [ks_le, ks_ltI, ks_eqI, ks_eq0, ks_le14, ks_has, ks_mhas, ks_at, ks_b0, gk_0, gk_1, ks_andn, nx_and, nx_or, nx_xor, ks_shl1, ks_shl2, Classical.not_not, nI_1] at c
      simp (disch := omega) only [ks_le, ks_ltI, ks_eqI, ks_eq0, ks_le14, ks_has, ks_mhas, ks_at, ks_b0, gk_0, gk_1, ks_andn, nx_and, nx_or, nx_xor, ks_shl1, ks_shl2, Classical.not_not, nI_1] at c1
      rw [nI_1]
      refine ih F (by omega) ⟨fun p hp => ?_, fun p hp => i2 p (by omega), i3⟩
      rcases Nat.lt_or_ge p j with e | e
      · exact i1 p e
      · obtain rfl : p = j := by omega
        rw [i2 p (by omega) (by omega)]
        unfold g_add
        rw [if_neg (by omega), if_neg c1]
    · simp (disch := omega) only [ks_le, ks_ltI, ks_eqI, ks_eq0, ks_le14, ks_has, ks_mhas, ks_at, ks_b0, gk_0, gk_1, ks_andn, nx_and, nx_or, nx_xor, ks_shl1, ks_shl2, Classical.not_not, nI_1] at c
      simp (disch := omega) only [ks_le, ks_ltI, ks_eqI, ks_eq0, ks_le14, ks_has, ks_mhas, ks_at, ks_b0, gk_0, gk_1, ks_andn, nx_and, nx_or, nx_xor, ks_shl1, ks_shl2, Classical.not_not, nI_1] at c1
      rw [ks_at (by decide) (by omega), ks_shl1 _ (by omega), nx_or, ks_put (by decide) (by omega), gt_upd, mm_net_up rfl, nI_1]
      refine ih _ (by omega) ⟨fun p hp => ?_, fun p hp h2 => ?_, ?_⟩
      · by_cases e : p = j
        · subst e
          rw [if_pos rfl, i2 p (by omega) (by omega)]
          unfold g_add
          rw [if_neg (by omega), if_pos c1]
        · rw [if_neg e]
          exact i1 p (by omega)
      · rw [if_neg (by omega)]
        exact i2 p (by omega) h2
      · rw [if_neg (by omega)]
        exact i3
  · rw [q_mayAdd (by omega), ks_b0] at c
    exact absurd ⟨hn, S, hS, rfl⟩ c
def g_flip (T : Nat → Nat) (a b : Nat) : Nat → Nat := fun p => if p = b then T b ^^^ 2 ^ a else if p = a then T a ^^^ 2 ^ b else T p
theorem gw_flip {n a b : Nat} {T : Nat → Nat} (hw : gw n T) (ha : a < n) (hb : b < n) (hab : a ≠ b) : gw n (g_flip T a b) := by
  have tb : ∀ p q, (g_flip T a b p).testBit q = ((T p).testBit q ^^ (decide (p = a ∧ q = b) || decide (p = b ∧ q = a))) := by
    intro p q
    unfold g_flip
    by_cases h1 : p = b
    · subst h1
      rw [if_pos rfl, Nat.testBit_xor, ks_p2]
      by_cases h2 : a = q
      · simp [h2]
      · have : ¬ q = a := fun e => h2 e.symm
        simp [h2, this, Ne.symm hab]
    · rw [if_neg h1]
      by_cases h2 : p = a
      · subst h2
        rw [if_pos rfl, Nat.testBit_xor, ks_p2]
        by_cases h3 : b = q
        · simp [h3]
        · have : ¬ q = b := fun e => h3 e.symm
          simp [h3, this, h1]
      · rw [if_neg h2]
        simp [h1, h2]
  refine ⟨hw.1, fun p => ?_, fun p hp => ?_, fun p q => ?_, fun p => ?_⟩
  · unfold g_flip
    split
    · exact ks_xor_lt (hw.2.1 b) (ks_p2_lt ha)
    · split
      · exact ks_xor_lt (hw.2.1 a) (ks_p2_lt hb)
      · exact hw.2.1 p
  · unfold g_flip
    rw [if_neg (by omega), if_neg (by omega), hw.2.2.1 p hp]
  · rw [tb, tb, hw.2.2.2.1 p q]
    congr 1
    rw [Bool.or_comm]
    congr 1 <;> (apply decide_eq_decide.mpr; exact And.comm)
  · rw [tb, hw.2.2.2.2 p, decide_eq_false (fun h => hab (h.1.symm.trans h.2)), decide_eq_false (fun h => hab (h.2.symm.trans h.1))]
    rfl
/-- what flip writes -/
theorem g_flip_f {a b : Nat} {T : Nat → Nat} (ha : a < 14) (hb : b < 14) (hab : a ≠ b) : qX9_put (nI b) ((qX9_at (nI b) 14 (qX9_put (nI a) ((qX9_at (nI a) 14 (gt_f T)) ^^^ (mm_shl 1 (nI b))) 14 (gt_f T))) ^^^ (mm_shl 1 (nI a))) 14 (qX9_put (nI a) ((qX9_at (nI a) 14 (gt_f T)) ^^^ (mm_shl 1 (nI b))) 14 (gt_f T)) = gt_f (g_flip T a b) := by
  rw [ks_at (by decide) ha, ks_shl1 _ (by omega), nx_xor, ks_put (by decide) ha, gt_upd, ks_at (by decide) hb, ks_shl1 _ (by omega), nx_xor, ks_put (by decide) hb, gt_upd]
  congr 1
  funext p
  unfold g_flip
  by_cases h1 : p = b
  · subst h1
    simp [Ne.symm hab]
  · by_cases h2 : p = a <;> simp [h1, h2, hab]
