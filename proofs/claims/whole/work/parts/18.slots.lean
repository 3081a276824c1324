/-! ROWS OF NETWORKS: fifteen ints each, the class's shelf and the model's rows alike -/
def sl_put (C : Nat → Int32) (s n : Nat) (T : Nat → Nat) : Nat → Int32 := fun i => if s ≤ i ∧ i < s + 15 then gk_f n T (i - s) else C i
def sl_at (C : Nat → Int32) (s n : Nat) (T : Nat → Nat) : Prop := ∀ p, p < 15 → C (s + p) = gk_f n T p
theorem sl_put_at {C : Nat → Int32} {s n : Nat} {T : Nat → Nat} : sl_at (sl_put C s n T) s n T := by
  intro p hp
  unfold sl_put
  rw [if_pos ⟨by omega, by omega⟩, show s + p - s = p by omega]
theorem sl_put_n {C : Nat → Int32} {s s' n n' : Nat} {T T' : Nat → Nat} (h : sl_at C s' n' T') (hd : s' + 15 ≤ s ∨ s + 15 ≤ s') : sl_at (sl_put C s n T) s' n' T' := by
  intro p hp
  unfold sl_put
  rw [if_neg (by omega)]
  exact h p hp
theorem ks_15 : (15 : Int32) = nI 15 := rfl
theorem s_save {M : mm_Mem} {a c k n s : Nat} {T : Nat → Nat} {C : Nat → Int32} (oa : mm_at M a (mm_aO 7 [.ref c])) (oc : mm_at M c (mm_aI 120 C)) (o : na M k n T) (hs : s < 8) (h1 : a ≠ c) (h2 : k ≠ c) (h3 : k + 1 ≠ c) : mm_S 2 mX7_save 0 0 [.ref a, .int (nI s), .ref k] M (mm_Eq none (mm_up M c (mm_aI 120 (sl_put C (15 * s) n T)))) := by
  refine mm_S.of rfl rfl (Nat.le_of_ble_eq_true rfl) mm_ndn (bX7_save_0 oa o.1 oc (by decide) ?_)
  rw [ks_15, pk_mul, Nat.mul_comm s 15, ks_put (by decide) (by omega)]
  refine fld (s := 0) (G := fun j F => mm_X mX7_save 2 none (0, 0) 20 [.ref a, .null, .ref k, .int (nI (15 * s)), .int (nI j)] [] (mm_up M c (mm_aI 120 F)) (mm_Eq none (mm_up M c (mm_aI 120 (sl_put C (15 * s) n T))))) (I := fun j F => ∀ i, F i = if 15 * s ≤ i ∧ i < 15 * s + 1 + j then gk_f n T (i - 15 * s) else C i) (Nat.zero_le 14) (fun i => ?_) ?_
  · unfold upd
    by_cases e : i = 15 * s
    · rw [if_pos e, if_pos (by omega), e, Nat.sub_self]
      rfl
    · rw [if_neg e, if_neg (by omega)]
  · intro j F _ hj hI ih
    have oc' : mm_at (mm_up M c (mm_aI 120 F)) c (mm_aI 120 F) := mm_at.s oc.1
    refine bX7_save_20 (oa.n h1) (o.1.n h2) (o.2.n h3) oc' (by decide) (fun c1 => ⟨rfl, ?_⟩) (fun c1 => ?_)
    · simp (disch := omega) only [ks_le, ks_ltI, ks_eqI, ks_eq0, ks_le14, ks_has, ks_mhas, ks_at, ks_b0, gk_0, gk_1, ks_andn, nx_and, nx_or, nx_xor, ks_shl1, ks_shl2, Classical.not_not, nI_1] at c1
      have : F = sl_put C (15 * s) n T := by
        funext i
        rw [hI i]
        unfold sl_put
        have : j = 14 := by omega
        subst this
        rfl
      rw [this]
    · simp (disch := omega) only [ks_le, ks_ltI, ks_eqI, ks_eq0, ks_le14, ks_has, ks_mhas, ks_at, ks_b0, gk_0, gk_1, ks_andn, nx_and, nx_or, nx_xor, ks_shl1, ks_shl2, Classical.not_not, nI_1] at c1
      rw [nI_1, nI_1, nI_add, ks_at (by decide) (by omega), ks_put (by decide) (by omega), mm_up_up]
      refine ih _ (by omega) (fun i => ?_)
      unfold upd
      by_cases e : i = 15 * s + 1 + j
      · rw [if_pos e, if_pos (by omega), e]
        unfold gk_f
        rw [if_neg (by omega), show 15 * s + 1 + j - 15 * s - 1 = j by omega]
      · rw [if_neg e, hI i]
        by_cases e2 : 15 * s ≤ i ∧ i < 15 * s + 1 + j
        · rw [if_pos e2, if_pos (by omega)]
        · rw [if_neg e2, if_neg (by omega)]
theorem s_load {M : mm_Mem} {a c k n s n' : Nat} {T T' : Nat → Nat} {C : Nat → Int32} (oa : mm_at M a (mm_aO 7 [.ref c])) (oc : mm_at M c (mm_aI 120 C)) (o : na M k n T) (hw : gw n T) (hl : sl_at C (15 * s) n' T') (hw' : gw n' T') (hs : s < 8) (h1 : a ≠ k) (h1b : a ≠ k + 1) (h2 : c ≠ k) (h3 : c ≠ k + 1) : mm_S 2 mX7_load 0 0 [.ref a, .int (nI s), .ref k] M (mm_Eq none (mm_net M k n' T')) := by
  have hk := o.k
  have hn' := hw'.1
  have e0 : C (15 * s) = nI n' := hl 0 (by decide)
  refine mm_S.of rfl rfl (Nat.le_of_ble_eq_true rfl) mm_ndn (bX7_load_0 oa oc o.1 (by decide) ?_)
  rw [ks_15, pk_mul, Nat.mul_comm s 15, ks_at (by decide) (by omega), e0]
  refine mm_Call.eq (s_clear o (gw_z hw) hn') (by decide) (bX7_load_17 ?_)
  refine fld (s := 0) (G := fun j F => mm_X mX7_load 2 none (0, 0) 20 [.ref a, .null, .ref k, .int (nI (15 * s)), .int (nI j)] [] (mm_net M k n' F) (mm_Eq none (mm_net M k n' T'))) (I := fun j F => (∀ p, p < j → F p = T' p) ∧ ∀ p, j ≤ p → F p = 0) (Nat.zero_le n') ⟨fun p h => absurd h (Nat.not_lt_zero p), fun p _ => rfl⟩ ?_
  intro j F _ hj hI ih
  have q := mm_net_na (M := M) (n := n') (T := F) hk
  have oa' : mm_at (mm_net M k n' F) a (mm_aO 7 [.ref c]) := ⟨oa.1, (mm_net_n h1 h1b).trans oa.2⟩
  have oc' : mm_at (mm_net M k n' F) c (mm_aI 120 C) := ⟨oc.1, (mm_net_n h2 h3).trans oc.2⟩
  refine bX7_load_20 q.1 oa' oc' q.2 (by decide) (fun c1 => ⟨rfl, ?_⟩) (fun c1 => ?_)
  · simp (disch := omega) only [ks_le, ks_ltI, ks_eqI, ks_eq0, ks_le14, ks_has, ks_mhas, ks_at, ks_b0, gk_0, gk_1, ks_andn, nx_and, nx_or, nx_xor, ks_shl1, ks_shl2, Classical.not_not, nI_1] at c1
    have : F = T' := by
      funext p
      rcases Nat.lt_or_ge p j with e | e
      · exact hI.1 p e
      · rw [hI.2 p e, hw'.2.2.1 p (by omega)]
    rw [this]
  · simp (disch := omega) only [ks_le, ks_ltI, ks_eqI, ks_eq0, ks_le14, ks_has, ks_mhas, ks_at, ks_b0, gk_0, gk_1, ks_andn, nx_and, nx_or, nx_xor, ks_shl1, ks_shl2, Classical.not_not, nI_1] at c1
    have e1 : C (15 * s + 1 + j) = nI (T' j) := by
      have := hl (1 + j) (by omega)
      rw [show 15 * s + (1 + j) = 15 * s + 1 + j by omega] at this
      rw [this]
      unfold gk_f
      rw [if_neg (by omega), show 1 + j - 1 = j by omega]
    rw [nI_1, nI_1, nI_add, ks_at (by decide) (by omega), e1, ks_put (by decide) (by omega), gt_upd, mm_net_up rfl]
    refine ih _ (by omega) ⟨fun p hp => ?_, fun p hp => ?_⟩
    · by_cases e : p = j
      · simp [e]
      · simp only [e, if_false]
        exact hI.1 p (by omega)
    · simp only [show p ≠ j by omega, if_false]
      exact hI.2 p (by omega)
/-- the model's copy of a row -/
theorem s_copyM {M : mm_Mem} {a b na' nb s t n : Nat} {T : Nat → Nat} {A B : Nat → Int32} (oa : mm_at M a (mm_aI na' A)) (ob : mm_at M b (mm_aI nb B)) (hab : a ≠ b) (hA : sl_at A s n T) (hs : s + 15 ≤ na') (ht : t + 15 ≤ nb) (hna : na' < 1000) (hnb : nb < 1000) : mm_S 0 mX10_copy 0 0 [.ref a, .int (nI s), .ref b, .int (nI t)] M (mm_Eq none (mm_up M b (mm_aI nb (sl_put B t n T)))) := by
  refine mm_S.of rfl rfl (Nat.le_of_ble_eq_true rfl) mm_ndn (bX10_copy_0 ?_)
  rw [show mm_X mX10_copy 0 none (0, 0) 3 [.ref a, .int (nI s), .ref b, .int (nI t), .int 0] [] M = mm_X mX10_copy 0 none (0, 0) 3 [.ref a, .int (nI s), .ref b, .int (nI t), .int 0] [] (mm_up M b (mm_aI nb B)) from by rw [mm_up_id ob.2]]
  refine fld (s := 0) (G := fun j F => mm_X mX10_copy 0 none (0, 0) 3 [.ref a, .int (nI s), .ref b, .int (nI t), .int (nI j)] [] (mm_up M b (mm_aI nb F)) (mm_Eq none (mm_up M b (mm_aI nb (sl_put B t n T))))) (I := fun j F => ∀ i, F i = if t ≤ i ∧ i < t + j then gk_f n T (i - t) else B i) (Nat.zero_le 15) (fun i => by rw [if_neg (by omega)]) ?_
  intro j F _ hj hI ih
  have ob' : mm_at (mm_up M b (mm_aI nb F)) b (mm_aI nb F) := mm_at.s ob.1
  have lt15 : ¬ (15 : Int32) ≤ nI j → j < 15 := by
    intro h
    rw [ks_15, ks_le (by decide) (by omega)] at h
    omega
  refine bX10_copy_3 (oa.n hab) ob' (fun c1 => ⟨rfl, ?_⟩) (fun c1 => ?_) (fun c1 => ?_) (fun c1 => ?_)
  · rw [ks_15, ks_le (by decide) (by omega)] at c1
    obtain rfl : j = 15 := by omega
    rw [show F = sl_put B t n T from funext fun i => hI i]
  · have := lt15 c1
    rw [nI_add]
    exact vp_in_nI (by omega) (by omega)
  · have := lt15 c1
    rw [nI_add]
    exact vp_in_nI (by omega) (by omega)
  · have := lt15 c1
    rw [nI_add, nI_add, nI_clamp (by omega), nI_clamp (by omega), hA j this, mm_up_up, nI_1]
    refine ih _ this (fun i => ?_)
    unfold upd
    by_cases e : i = t + j
    · rw [if_pos e, if_pos (by omega), e, show t + j - t = j by omega]
    · rw [if_neg e, hI i]
      by_cases e2 : t ≤ i ∧ i < t + j
      · rw [if_pos e2, if_pos (by omega)]
      · rw [if_neg e2, if_neg (by omega)]
