/-! THE CLASS'S NET: writing it -/
theorem ks_14b : (14 : Int32) = nI 14 := rfl
/-- the Net at k is this one now -/
def mm_net (M : mm_Mem) (k n : Nat) (T : Nat → Nat) : mm_Mem := mm_up (mm_up M k (mm_aO 3 [.int (nI n), .ref (k + 1)])) (k + 1) (mm_aI 14 (gt_f T))
theorem mm_net_na {M : mm_Mem} {k n : Nat} {T : Nat → Nat} (hk : k + 1 < mm_K) : na (mm_net M k n T) k n T := ⟨⟨by omega, by unfold mm_net; rw [mm_up_n (by omega), mm_up_s]⟩, ⟨hk, mm_up_s⟩⟩
theorem na.k {M : mm_Mem} {k n : Nat} {T : Nat → Nat} (o : na M k n T) : k + 1 < mm_K := o.2.1
theorem mm_net_n {M : mm_Mem} {k n j : Nat} {T : Nat → Nat} (h1 : j ≠ k) (h2 : j ≠ k + 1) : mm_net M k n T j = M j := by unfold mm_net; rw [mm_up_n h2, mm_up_n h1]
theorem mm_net_up {M : mm_Mem} {k n : Nat} {T : Nat → Nat} {f : Nat → Int32} {T' : Nat → Nat} (h : f = gt_f T') : mm_up (mm_net M k n T) (k + 1) (mm_aI 14 f) = mm_net M k n T' := by
  subst h
  exact mm_up_up
theorem mm_net_pt {M : mm_Mem} {k n n' : Nat} {T : Nat → Nat} : mm_up (mm_net M k n T) k (mm_aO 3 [.int (nI n'), .ref (k + 1)]) = mm_net M k n' T := by
  unfold mm_net
  rw [mm_up_comm (by omega), mm_up_up]
theorem mm_net_net {M : mm_Mem} {k n n' : Nat} {T T' : Nat → Nat} : mm_net (mm_net M k n T) k n' T' = mm_net M k n' T' := by
  show mm_up (mm_up (mm_net M k n T) k _) (k + 1) _ = _
  rw [mm_net_pt, mm_net_up rfl]
theorem mm_net_id {M : mm_Mem} {k n : Nat} {T : Nat → Nat} (o : na M k n T) : mm_net M k n T = M := by
  unfold mm_net
  rw [mm_up_id o.1.2, mm_up_id o.2.2]
theorem na.net {M : mm_Mem} {k k' n n' : Nat} {T T' : Nat → Nat} (o : na M k n T) (h1 : k ≠ k') (h2 : k ≠ k' + 1) (h3 : k + 1 ≠ k') : na (mm_net M k' n' T') k n T := ⟨⟨o.1.1, (mm_net_n h1 h2).trans o.1.2⟩, ⟨o.2.1, (mm_net_n h3 (by omega)).trans o.2.2⟩⟩
theorem gt_upd {T : Nat → Nat} {j v : Nat} : upd (gt_f T) j (nI v) = gt_f (fun p => if p = j then v else T p) := by
  funext p
  unfold upd gt_f
  by_cases h : p = j <;> simp [h]
theorem s_clear {M : mm_Mem} {k n s : Nat} {T : Nat → Nat} (o : na M k n T) (hz : ∀ p, 14 ≤ p → T p = 0) (hs : s ≤ 14) : mm_S 1 mX3_clear 0 0 [.ref k, .int (nI s)] M (mm_Eq none (mm_net M k s (fun _ => 0))) := by
  have hk := o.k
  refine mm_S.of rfl rfl (Nat.le_of_ble_eq_true rfl) mm_ndn (bX3_clear_0 o.1 (fun c => ?_) (fun _ c => ?_) (fun _ _ => ?_))
  · exact absurd c (nI_pos (by omega))
  · rw [ks_14b, ks_ltI (by omega) (by omega)] at c
    omega
  · rw [show mm_up M k (mm_aO 3 [.int (nI s), .ref (k + 1)]) = mm_net M k s T from by rw [← mm_net_pt (n := n), mm_net_id o]]
    refine fld (G := fun j F => mm_X mX3_clear 1 none (0, 0) 21 [.ref k, .null, .int (nI j)] [] (mm_net M k s F) (mm_Eq none (mm_net M k s (fun _ => 0)))) (I := fun j F => (∀ p, p < j → F p = 0) ∧ ∀ p, 14 ≤ p → F p = 0) (Nat.zero_le 14) ⟨fun p h => absurd h (Nat.not_lt_zero p), hz⟩ ?_
    intro j F _ hj hI ih
    have q := mm_net_na (M := M) (n := s) (T := F) hk
    refine bX3_clear_21 q.1 q.2 (by decide) (fun c => ⟨rfl, ?_⟩) (fun c => ?_)
    · simp (disch := omega) only [ks_le, ks_ltI, ks_eqI, ks_eq0, ks_le14, ks_has, ks_mhas, ks_at, ks_b0, gk_0, gk_1, ks_andn, nx_and, nx_or, nx_xor, ks_shl1, ks_shl2, Classical.not_not, nI_1] at c
      have : F = fun _ => 0 := by
        funext p
        rcases Nat.lt_or_ge p j with e | e
        · exact hI.1 p e
        · exact hI.2 p (by omega)
      rw [this]
    · simp (disch := omega) only [ks_le, ks_ltI, ks_eqI, ks_eq0, ks_le14, ks_has, ks_mhas, ks_at, ks_b0, gk_0, gk_1, ks_andn, nx_and, nx_or, nx_xor, ks_shl1, ks_shl2, Classical.not_not, nI_1] at c
      rw [ks_put (by decide) (by omega), show (0 : Int32) = nI 0 from rfl, gt_upd, mm_net_up rfl, nI_1]
      refine ih _ (by omega) ⟨fun p hp => ?_, fun p hp => ?_⟩
      · by_cases e : p = j
        · simp [e]
        · simp only [e, if_false]
          exact hI.1 p (by omega)
      · simp only [show p ≠ j by omega, if_false]
        exact hI.2 p hp
theorem gw_z {n : Nat} {T : Nat → Nat} (h : gw n T) : ∀ p, 14 ≤ p → T p = 0 := fun p hp => h.2.2.1 p (Nat.le_trans h.1 hp)
theorem s_copyN {M : mm_Mem} {k n k2 n2 : Nat} {T T2 : Nat → Nat} (o : na M k n T) (o2 : na M k2 n2 T2) (hw : gw n T) (hw2 : gw n2 T2) (h1 : k2 ≠ k) (h2 : k2 ≠ k + 1) (h3 : k2 + 1 ≠ k) : mm_S 2 mX3_copy 0 0 [.ref k, .ref k2] M (mm_Eq none (mm_net M k n2 T2)) := by
  have hk := o.k
  have hn2 := hw2.1
  refine mm_S.of rfl rfl (Nat.le_of_ble_eq_true rfl) mm_ndn (bX3_copy_0 o2.1 o.1 (mm_Call.eq (s_clear o (gw_z hw) hn2) (by decide) (bX3_copy_8 ?_)))
  refine fld (G := fun j F => mm_X mX3_copy 2 none (0, 0) 10 [.ref k, .ref k2, .int (nI j)] [] (mm_net M k n2 F) (mm_Eq none (mm_net M k n2 T2))) (I := fun j F => (∀ p, p < j → F p = T2 p) ∧ ∀ p, j ≤ p → F p = 0) (Nat.zero_le n2) ⟨fun p h => absurd h (Nat.not_lt_zero p), fun p _ => rfl⟩ ?_
  intro j F _ hj hI ih
  have q := mm_net_na (M := M) (n := n2) (T := F) hk
  have q2 := o2.net (n' := n2) (T' := F) h1 h2 h3
  refine bX3_copy_10 q.1 q2.1 q2.2 q.2 (by decide) (fun c => ⟨rfl, ?_⟩) (fun c => ?_)
  · simp (disch := omega) only [ks_le, ks_ltI, ks_eqI, ks_eq0, ks_le14, ks_has, ks_mhas, ks_at, ks_b0, gk_0, gk_1, ks_andn, nx_and, nx_or, nx_xor, ks_shl1, ks_shl2, Classical.not_not, nI_1] at c
    have : F = T2 := by
      funext p
      rcases Nat.lt_or_ge p j with e | e
      · exact hI.1 p e
      · rw [hI.2 p e, hw2.2.2.1 p (by omega)]
    rw [this]
  · simp (disch := omega) only [ks_le, ks_ltI, ks_eqI, ks_eq0, ks_le14, ks_has, ks_mhas, ks_at, ks_b0, gk_0, gk_1, ks_andn, nx_and, nx_or, nx_xor, ks_shl1, ks_shl2, Classical.not_not, nI_1] at c
    rw [ks_at (by decide) (by omega), ks_put (by decide) (by omega), gt_upd, mm_net_up rfl, nI_1]
    refine ih _ (by omega) ⟨fun p hp => ?_, fun p hp => ?_⟩
    · by_cases e : p = j
      · simp [e]
      · simp only [e, if_false]
        exact hI.1 p (by omega)
    · simp only [show p ≠ j by omega, if_false]
      exact hI.2 p (by omega)
theorem s_equalTo {M : mm_Mem} {k n k2 n2 : Nat} {T T2 : Nat → Nat} (o : na M k n T) (o2 : na M k2 n2 T2) (hw : gw n T) (hw2 : gw n2 T2) : mm_S 1 mX3_equalTo 0 0 [.ref k, .ref k2] M (mm_Eq (some (.int (ks_b (n = n2 ∧ T = T2)))) M) := by
  have hn := hw.1
  have hn2 := hw2.1
  refine mm_S.of rfl rfl (Nat.le_of_ble_eq_true rfl) mm_ndi (bX3_equalTo_0 o.1 o2.1 (fun c => ?_) (fun c => ⟨?_, rfl⟩))
  · rw [ks_eqI (by omega) (by omega)] at c
    subst c
    refine srch (G := fun j => mm_X mX3_equalTo 1 none (0, 0) 15 [.ref k, .ref k2, .int (nI j)] [] M (mm_Eq (some (.int (ks_b (n = n ∧ T = T2)))) M)) (P := fun j => T j ≠ T2 j) (Nat.zero_le n) ?_
    intro j _ hj hI ih
    have t1 := gw_ok hw j
    have t2 := gw_ok hw2 j
    refine bX3_equalTo_15 o.1 o.2 o2.1 o2.2 (by decide) (fun c => ⟨?_, rfl⟩) (fun c c1 => ?_) (fun c c1 => ⟨?_, rfl⟩)
    · simp (disch := omega) only [ks_le, ks_ltI, ks_eqI, ks_eq0, ks_le14, ks_has, ks_mhas, ks_at, ks_b0, gk_0, gk_1, ks_andn, nx_and, nx_or, nx_xor, ks_shl1, ks_shl2, Classical.not_not, nI_1] at c
      rw [ks_bt]
      refine ⟨rfl, funext fun p => ?_⟩
      rcases Nat.lt_or_ge p n with e | e
      · exact Classical.not_not.mp (hI p (Nat.zero_le p) (by omega))
      · rw [hw.2.2.1 p e, hw2.2.2.1 p e]
    · simp (disch := omega) only [ks_le, ks_ltI, ks_eqI, ks_eq0, ks_le14, ks_has, ks_mhas, ks_at, ks_b0, gk_0, gk_1, ks_andn, nx_and, nx_or, nx_xor, ks_shl1, ks_shl2, Classical.not_not, nI_1] at c
      rw [ks_at (by decide) (by omega), ks_at (by decide) (by omega), ks_eqI (by omega) (by omega)] at c1
      rw [nI_1]
      exact ih (by omega) (fun h => h c1)
    · simp (disch := omega) only [ks_le, ks_ltI, ks_eqI, ks_eq0, ks_le14, ks_has, ks_mhas, ks_at, ks_b0, gk_0, gk_1, ks_andn, nx_and, nx_or, nx_xor, ks_shl1, ks_shl2, Classical.not_not, nI_1] at c
      rw [ks_at (by decide) (by omega), ks_at (by decide) (by omega), ks_eqI (by omega) (by omega)] at c1
      rw [ks_bf]
      rintro ⟨-, h⟩
      exact c1 (congrFun h j)
  · rw [ks_eqI (by omega) (by omega)] at c
    rw [ks_bf (fun h => c h.1)]
