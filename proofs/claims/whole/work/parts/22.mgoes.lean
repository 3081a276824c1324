/-! THE MODEL'S NETS: a point goes -/
theorem ks_shlN {a k : Nat} (hk : k < 31) (h : a * 2 ^ k < 2 ^ 32) : mm_shl (nI a) (nI k) = nI (a * 2 ^ k) := by
  unfold mm_shl
  have e : ∀ k, k < 31 → ((nI k &&& 31 : Int32).toBitVec.smod 32).toNat = k := by decide +kernel
  exact pk_shlN _ k (e k hk) h
theorem g_rm_m {p S : Nat} (hS : S < 16384) (hp : p < 14) : (nI S &&& (mm_shl 1 (nI p) - 1)) ||| mm_shl (mm_shr (nI S) (nI p + 1)) (nI p) = nI (g_rm p S) := by
  have hq : S >>> (p + 1) * 2 ^ p ≤ S := by
    rw [Nat.shiftRight_eq_div_pow, Nat.pow_succ, ← Nat.div_div_eq_div_mul]
    have h1 := Nat.div_mul_le_self S (2 ^ p)
    have h2 : S / 2 ^ p / 2 * 2 ^ p ≤ S / 2 ^ p * 2 ^ p := Nat.mul_le_mul_right _ (Nat.div_le_self _ _)
    omega
  rw [ks_all p (by omega), nx_and, nI_1, ks_shrN (by omega) _ (by omega), ks_shlN (by omega) (by omega), nx_or]
  congr 1
  apply ks_ext
  intro i
  rw [g_rm_bit (by omega), Nat.testBit_or, Nat.testBit_and, Nat.testBit_two_pow_sub_one, Nat.mul_comm, Nat.testBit_two_pow_mul, Nat.testBit_shiftRight]
  by_cases h : i < p
  · rw [if_pos h, decide_eq_true h, decide_eq_false (by omega)]
    simp
  · rw [if_neg h, decide_eq_false h, decide_eq_true (by omega), show p + 1 + (i - p) = i + 1 by omega]
    simp
theorem s_goes {M : mm_Mem} {a n p : Nat} {T : Nat → Nat} (o : ra M a (n + 1) T) (hw : gw (n + 1) T) (hp : p ≤ n) : mm_S 1 mX10_goes 0 0 [.ref a, .int (nI p)] M (mm_Eq none (mm_up M a (mm_aI 15 (gk_f n (g_drop n T p))))) := by
  have hn := hw.1
  refine mm_S.of rfl rfl (Nat.le_of_ble_eq_true rfl) mm_ndn (bX10_goes_0 ?_)
  rw [show mm_X mX10_goes 1 none (0, 0) 2 [.ref a, .int (nI p), .int 0] [] M = mm_X mX10_goes 1 none (0, 0) 2 [.ref a, .int (nI p), .int 0] [] (mm_up M a (mm_aI 15 (gk_f (n + 1) T))) from by rw [mm_up_id o.2]]
  refine fld (s := 0) (n := n + 1) (G := fun j F => mm_X mX10_goes 1 none (0, 0) 2 [.ref a, .int (nI p), .int (nI j)] [] (mm_up M a (mm_aI 15 (gk_f (n + 1) F))) (mm_Eq none (mm_up M a (mm_aI 15 (gk_f n (g_drop n T p)))))) (I := fun j F => (∀ q, q < j → F q = g_rm p (T q)) ∧ ∀ q, j ≤ q → F q = T q) (Nat.zero_le _) ⟨fun q h => absurd h (Nat.not_lt_zero q), fun q _ => rfl⟩ ?_
  intro j F _ hj hI ih
  obtain ⟨i1, i2⟩ := hI
  have o' : mm_at (mm_up M a (mm_aI 15 (gk_f (n + 1) F))) a (mm_aI 15 (gk_f (n + 1) F)) := mm_at.s o.1
  have lt : ¬ gk_f (n + 1) F (Int32.toNatClampNeg 0) ≤ nI j → j < n + 1 := by
    intro h
    rw [gk_0, ks_le (by omega) (by omega)] at h
    omega
  refine bX10_goes_2 o' (by decide) gk_in0 (fun c => ?_) (fun c => gk_in1 (by have := lt c; omega)) (fun c => gk_in1 (by have := lt c; omega)) (fun c => ?_)
  · rw [gk_0, ks_le (by omega) (by omega)] at c
    obtain rfl : j = n + 1 := by omega
    have hF : ∀ q, F q = g_rm p (T q) := fun q => by
      rcases Nat.lt_or_ge q (n + 1) with e | e
      · exact i1 q e
      · rw [i2 q e, hw.2.2.1 q e, g_rm_0]
    refine fld (s := p) (n := n) (G := fun j F => mm_X mX10_goes 1 none (0, 0) 31 [.ref a, .null, .int (nI j)] [] (mm_up M a (mm_aI 15 (gk_f (n + 1) F))) (mm_Eq none (mm_up M a (mm_aI 15 (gk_f n (g_drop n T p)))))) (I := fun j F => (∀ q, q < p → F q = g_rm p (T q)) ∧ (∀ q, p ≤ q → q < j → F q = g_rm p (T (q + 1))) ∧ ∀ q, j ≤ q → F q = g_rm p (T q)) hp ⟨fun q _ => hF q, fun q h1 h2 => by omega, fun q _ => hF q⟩ ?_
    intro i D hpi hi hJ ih2
    obtain ⟨g1, g2, g3⟩ := hJ
    have od : mm_at (mm_up M a (mm_aI 15 (gk_f (n + 1) D))) a (mm_aI 15 (gk_f (n + 1) D)) := mm_at.s o.1
    have e1 : gk_f (n + 1) D (Int32.toNatClampNeg 0) - 1 = nI n := by rw [gk_0, nI_pred]
    have lt2 : ¬ gk_f (n + 1) D (Int32.toNatClampNeg 0) - 1 ≤ nI i → i < n := by
      intro h
      rw [e1, ks_le (by omega) (by omega)] at h
      omega
    refine bX10_goes_31 od gk_in0 (fun _ => gk_in0) (fun _ => by rw [gk_0]; exact vp_in_nI (by omega) (by decide)) (fun _ => gk_in0) (fun _ => gk_in0) (fun c2 => ⟨rfl, ?_⟩) (fun c2 => ?_) (fun c2 => gk_in1 (by have := lt2 c2; omega)) (fun c2 => ?_)
    · rw [e1, ks_le (by omega) (by omega)] at c2
      obtain rfl : i = n := by omega
      rw [gk_0, show nI (i + 1) = 1 + nI i from by rw [show (1 : Int32) = nI 1 from rfl, nI_add, Nat.add_comm], show (0 : Int32) = nI 0 from rfl, gk_upd (by omega)]
      rw [show upd (gk_f (i + 1) fun q => if q = i then 0 else D q) (Int32.toNatClampNeg (nI 0)) ((gk_f (i + 1) fun q => if q = i then 0 else D q) (Int32.toNatClampNeg (nI 0)) - 1) = gk_f i fun q => if q = i then 0 else D q from by
        rw [show (gk_f (i + 1) fun q => if q = i then 0 else D q) (Int32.toNatClampNeg (nI 0)) - 1 = nI i from nI_pred i]
        exact gk_upd0]
      rw [mm_up_up]
      rw [show (fun q => if q = i then 0 else D q) = g_drop i T p from funext fun q => ?_]
      unfold g_drop
      by_cases e : q = i
      · subst e
        rw [if_pos rfl]
        by_cases e2 : q < p
        · omega
        · rw [if_neg e2, hw.2.2.1 _ (by omega), g_rm_0]
      · rw [if_neg e]
        by_cases e2 : q < p
        · rw [if_pos e2, g1 q e2]
        · rw [if_neg e2]
          rcases Nat.lt_or_ge q i with e3 | e3
          · exact g2 q (by omega) e3
          · rw [g3 q e3, hw.2.2.1 q (by omega), hw.2.2.1 _ (by omega)]
    · have := lt2 c2
      rw [show (2 : Int32) = nI 2 from rfl, nI_add]
      exact vp_in_nI (by omega) (by decide)
    · have := lt2 c2
      rw [show gk_f (n + 1) D (Int32.toNatClampNeg (2 + nI i)) = nI (D (i + 1)) from by
        rw [show (2 : Int32) + nI i = 1 + nI (i + 1) from by rw [show (2 : Int32) = nI 2 from rfl, show (1 : Int32) = nI 1 from rfl, nI_add, nI_add, show 2 + i = 1 + (i + 1) by omega]]
        exact gk_1 (by omega), gk_upd (by omega), mm_up_up, nI_1]
      refine ih2 _ (by omega) ⟨fun q h => ?_, fun q h1 h2 => ?_, fun q h => ?_⟩
      · rw [if_neg (by omega)]
        exact g1 q h
      · by_cases e : q = i
        · subst e
          rw [if_pos rfl, g3 _ (by omega)]
        · rw [if_neg e]
          exact g2 q h1 (by omega)
      · rw [if_neg (by omega)]
        exact g3 q (by omega)
  · have := lt c
    rw [gk_1 (by omega), i2 j (Nat.le_refl j), g_rm_m (gw_ok hw j) (by omega), gk_upd (by omega), mm_up_up, nI_1]
    refine ih _ (by omega) ⟨fun q h => ?_, fun q h => ?_⟩
    · by_cases e : q = j
      · rw [if_pos e, e]
      · rw [if_neg e]
        exact i1 q (by omega)
    · rw [if_neg (by omega)]
      exact i2 q (by omega)
