/-! THE CLASS'S NET: a point goes -/
/-- a set without the point p, those behind it one less -/
def g_rm (p S : Nat) : Nat := (S &&& (2 ^ p - 1)) ||| ks_nd (S >>> 1) (2 ^ p - 1)
theorem g_rm_bit {p S i : Nat} (hS : S < 4294967296) : (g_rm p S).testBit i = if i < p then S.testBit i else S.testBit (i + 1) := by
  have h2 : S >>> 1 < 4294967296 := by rw [Nat.shiftRight_eq_div_pow]; omega
  unfold g_rm
  rw [Nat.testBit_or, Nat.testBit_and, Nat.testBit_two_pow_sub_one, ks_nd_bit h2, Nat.testBit_two_pow_sub_one, Nat.testBit_shiftRight, Nat.add_comm 1 i]
  by_cases h : i < p
  · rw [if_pos h, decide_eq_true h]; simp
  · rw [if_neg h, decide_eq_false h]; simp
theorem ks_ushr1 {k : Nat} (hk : k < 65536) : mm_ushr (nI k) 1 = nI (k >>> 1) := ks_ushr (j := 1) hk (by decide)
def g_drop (n : Nat) (T : Nat → Nat) (p : Nat) : Nat → Nat := fun q => if q < p then g_rm p (T q) else g_rm p (T (q + 1))
theorem g_rm_0 (p : Nat) : g_rm p 0 = 0 := by
  apply ks_ext
  intro i
  rw [g_rm_bit (by omega)]
  simp
theorem g_rm_lt {n p S : Nat} (hn : n ≤ 13) (hS : S < 2 ^ (n + 1)) (hp : p ≤ n) : g_rm p S < 2 ^ n := by
  have hb : S < 4294967296 := Nat.lt_of_lt_of_le hS (Nat.le_trans (Nat.pow_le_pow_right (by decide) (show n + 1 ≤ 14 by omega)) (by decide))
  refine ks_lt (fun i hi => ?_)
  rw [g_rm_bit hb] at hi
  split at hi
  · omega
  · have := ks_bit_lt hS hi
    omega
theorem gw_drop {n p : Nat} {T : Nat → Nat} (hw : gw (n + 1) T) (hp : p ≤ n) : gw n (g_drop n T p) := by
  have hn := hw.1
  have hT : ∀ q, T q < 4294967296 := fun q => Nat.lt_of_lt_of_le (gw_ok hw q) (by decide)
  have tb : ∀ q i, (g_drop n T p q).testBit i = (T (if q < p then q else q + 1)).testBit (if i < p then i else i + 1) := by
    intro q i
    unfold g_drop
    by_cases h : q < p
    · rw [if_pos h, if_pos h, g_rm_bit (hT q)]
      split <;> rfl
    · rw [if_neg h, if_neg h, g_rm_bit (hT _)]
      split <;> rfl
  refine ⟨by omega, fun q => ?_, fun q hq => ?_, fun q i => ?_, fun q => ?_⟩
  · unfold g_drop
    split
    · exact g_rm_lt (by omega) (hw.2.1 _) hp
    · exact g_rm_lt (by omega) (hw.2.1 _) hp
  · unfold g_drop
    rw [if_neg (by omega), hw.2.2.1 _ (by omega), g_rm_0]
  · rw [tb, tb, hw.2.2.2.1]
  · rw [tb, hw.2.2.2.2]
theorem q_holds {n : Nat} (hn : n ≤ 14) (x : Int32) : qX3_holds x (nI n) = ks_b (∃ p, p < n ∧ x = nI p) := by
  unfold qX3_holds
  rcases pk_ix x (n := n) (by omega) with h | h | ⟨j, hj, rfl⟩
  · rw [if_pos h, ks_bf]
    rintro ⟨p, hp, rfl⟩
    exact nI_pos (by omega) h
  · by_cases h0 : x < 0
    · rw [if_pos h0, ks_bf]
      rintro ⟨p, hp, rfl⟩
      exact nI_pos (by omega) h0
    · rw [if_neg h0, if_pos h, ks_bf]
      rintro ⟨p, hp, rfl⟩
      rw [ks_le (by omega) (by omega)] at h
      omega
  · rw [if_neg (nI_pos (by omega)), if_neg (by rw [ks_le (by omega) (by omega)]; omega), ks_bt ⟨j, hj, rfl⟩]
theorem s_drop {M : mm_Mem} {k n p : Nat} {T : Nat → Nat} (o : na M k (n + 1) T) (hw : gw (n + 1) T) (hp : p ≤ n) : mm_S 1 mX3_drop 0 0 [.ref k, .int (nI p)] M (mm_Eq none (mm_net M k n (g_drop n T p))) := by
  have hk := o.k
  have hn := hw.1
  have hT := gw_ok hw
  refine mm_S.of rfl rfl (Nat.le_of_ble_eq_true rfl) mm_ndn (bX3_drop_0 o.1 (by decide) (fun _ => ?_) (fun c => ?_))
  · rw [show M = mm_net M k (n + 1) T from (mm_net_id o).symm]
    rw [show mm_net (mm_net M k (n + 1) T) k n (g_drop n T p) = mm_net M k n (g_drop n T p) from mm_net_net]
    refine fld (G := fun j F => mm_X mX3_drop 1 none (0, 0) 11 [.ref k, .int (nI p), .int (nI j), .null, .null] [] (mm_net M k (n + 1) F) (mm_Eq none (mm_net M k n (g_drop n T p)))) (I := fun j F => (∀ q, q < p → F q = T q) ∧ (∀ q, p ≤ q → q < j → F q = T (q + 1)) ∧ (∀ q, j ≤ q → F q = T q)) hp ⟨fun q _ => rfl, fun q h1 h2 => by omega, fun q _ => rfl⟩ ?_
    intro j F hpj hj hI ih
    obtain ⟨i1, i2, i3⟩ := hI
    have q := mm_net_na (M := M) (n := n + 1) (T := F) hk
    refine bX3_drop_11 q.1 q.2 (by omega) (by decide) (fun c => ?_) (fun c => ?_)
    · rw [nI_1, ks_le (by omega) (by omega)] at c
      obtain rfl : j = n := by omega
      rw [nI_pred, mm_net_pt, show (0 : Int32) = nI 0 from rfl, ks_put (by decide) (by omega), gt_upd, mm_net_up rfl, ks_all p (by omega)]
      refine fld (G := fun i F => mm_X mX3_drop 1 none (0, 0) 75 [.ref k, .null, .int (nI (2 ^ p - 1)), .int (nI i), .null] [] (mm_net M k j F) (mm_Eq none (mm_net M k j (g_drop j T p)))) (I := fun i F => (∀ q, q < i → F q = g_drop j T p q) ∧ (∀ q, i ≤ q → q < p → F q = T q) ∧ (∀ q, i ≤ q → p ≤ q → F q = T (q + 1))) (Nat.zero_le j) ⟨fun q h => absurd h (Nat.not_lt_zero q), fun q _ h => by rw [if_neg (by omega)]; exact i1 q h, fun q _ h => ?_⟩ ?_
      · by_cases e : q = j
        · rw [if_pos e, hw.2.2.1 _ (by omega)]
        · rw [if_neg e]
          rcases Nat.lt_or_ge q j with e2 | e2
          · exact i2 q h e2
          · rw [i3 q e2, hw.2.2.1 _ (by omega), hw.2.2.1 _ (by omega)]
      · intro i F2 _ hi hI2 ih2
        obtain ⟨g1, g2, g3⟩ := hI2
        have q2 := mm_net_na (M := M) (n := j) (T := F2) hk
        refine bX3_drop_75 q2.1 q2.2 (by decide) (fun c2 => ⟨rfl, ?_⟩) (fun c2 => ?_)
        · simp (disch := omega) only [ks_le, ks_ltI, ks_eqI, ks_eq0, ks_le14, ks_has, ks_mhas, ks_at, ks_b0, gk_0, gk_1, ks_andn, nx_and, nx_or, nx_xor, ks_shl1, ks_shl2, Classical.not_not, nI_1] at c2
          have : F2 = g_drop j T p := by
            funext x
            rcases Nat.lt_or_ge x i with e | e
            · exact g1 x e
            · rw [g3 x e (by omega), hw.2.2.1 _ (by omega)]
              unfold g_drop
              rw [if_neg (by omega), hw.2.2.1 _ (by omega), g_rm_0]
          rw [this]
        · simp (disch := omega) only [ks_le, ks_ltI, ks_eqI, ks_eq0, ks_le14, ks_has, ks_mhas, ks_at, ks_b0, gk_0, gk_1, ks_andn, nx_and, nx_or, nx_xor, ks_shl1, ks_shl2, Classical.not_not, nI_1] at c2
          have hF : F2 i < 16384 := by
            rcases Nat.lt_or_ge i p with e | e
            · rw [g2 i (Nat.le_refl i) e]; exact hT i
            · rw [g3 i (Nat.le_refl i) e]; exact hT _
          rw [ks_at (by decide) (by omega), ks_ushr1 (by omega), nx_and, ks_andn, nx_or, ks_put (by decide) (by omega), gt_upd, mm_net_up rfl, nI_1]
          refine ih2 _ (by omega) ⟨fun x hx => ?_, fun x h1 h2 => ?_, fun x h1 h2 => ?_⟩
          · by_cases e : x = i
            · subst e
              rw [if_pos rfl]
              show g_rm p (F2 x) = _
              unfold g_drop
              rcases Nat.lt_or_ge x p with e2 | e2
              · rw [if_pos e2, g2 x (Nat.le_refl x) e2]
              · rw [if_neg (by omega), g3 x (Nat.le_refl x) e2]
            · rw [if_neg e]
              exact g1 x (by omega)
          · rw [if_neg (by omega)]
            exact g2 x (by omega) h2
          · rw [if_neg (by omega)]
            exact g3 x (by omega) h2
    · rw [nI_1, ks_le (by omega) (by omega)] at c
      rw [nI_1, ks_at (by decide) (by omega), ks_put (by decide) (by omega), gt_upd, mm_net_up rfl]
      refine ih _ (by omega) ⟨fun q h => ?_, fun q h1 h2 => ?_, fun q h => ?_⟩
      · rw [if_neg (by omega)]
        exact i1 q h
      · by_cases e : q = j
        · subst e
          rw [if_pos rfl, i3 _ (by omega)]
        · rw [if_neg e]
          exact i2 q h1 (by omega)
      · rw [if_neg (by omega)]
        exact i3 q (by omega)
  · rw [q_holds (by omega), ks_b0] at c
    exact absurd ⟨p, by omega, rfl⟩ c
