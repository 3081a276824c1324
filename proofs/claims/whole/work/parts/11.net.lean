/-! THE CLASS'S NET: what its searches answer -/
theorem mm_nd {v : Value} {M1 : mm_Mem} (hv : ∀ x, v ≠ .double x) : ∀ r M', mm_Eq (some v) M1 r M' → ∀ x, r ≠ some (.double x) := by
  intro r M' h x e
  rw [h.1] at e
  exact hv x (Option.some.inj e)
theorem mm_ndi {v : Int32} {M1 : mm_Mem} : ∀ r M', mm_Eq (some (.int v)) M1 r M' → ∀ x, r ≠ some (.double x) := mm_nd (fun x h => by cases h)
theorem mm_ndn {M1 : mm_Mem} : ∀ r M', mm_Eq none M1 r M' → ∀ x, r ≠ some (.double x) := by
  intro r M' h x e
  rw [h.1] at e
  cases e
theorem ks_14 : (14 : Int32) = nI 14 := rfl
theorem ks_le {a b : Nat} (ha : a < 2 ^ 31) (hb : b < 2 ^ 31) : nI a ≤ nI b ↔ a ≤ b := nI_leI ha hb
/-- a row of 14 sets of points -/
def gt_ok (T : Nat → Nat) : Prop := ∀ p, T p < 16384
abbrev gt_f (T : Nat → Nat) : Nat → Int32 := fun p => nI (T p)
/-- a network: so many points, and what each is tied to -/
def gw (n : Nat) (T : Nat → Nat) : Prop := n ≤ 14 ∧ (∀ p, T p < 2 ^ n) ∧ (∀ p, n ≤ p → T p = 0) ∧ (∀ p q, (T p).testBit q = (T q).testBit p) ∧ ∀ p, (T p).testBit p = false
theorem gw_ok {n : Nat} {T : Nat → Nat} (h : gw n T) : gt_ok T := fun p => Nat.lt_of_lt_of_le (h.2.1 p) (Nat.le_trans (Nat.pow_le_pow_right (by decide) h.1) (by decide))
/-- a Net of the class at k -/
def na (M : mm_Mem) (k n : Nat) (T : Nat → Nat) : Prop := mm_at M k (mm_aO 3 [.int (nI n), .ref (k + 1)]) ∧ mm_at M (k + 1) (mm_aI 14 (gt_f T))
def g_each (T : Nat → Nat) (S : Nat) : Prop := ∀ p, p < 14 → S.testBit p = true → ks_nd S (T p) = 2 ^ p
theorem s_eachTwo {M : mm_Mem} {a S : Nat} {T : Nat → Nat} (o : mm_at M a (mm_aI 14 (gt_f T))) (hS : S < 16384) : mm_S 1 mX9_eachTwo 0 0 [.ref a, .int (nI S)] M (mm_Eq (some (.int (ks_b (g_each T S)))) M) := by
  refine mm_S.of rfl rfl (Nat.le_of_ble_eq_true rfl) mm_ndi ?_
  have H : ∀ j, j ≤ 14 → (∀ p, p < j → S.testBit p = true → ks_nd S (T p) = 2 ^ p) → mm_X mX9_eachTwo 1 none (0, 0) 2 [.ref a, .int (nI S), .int (nI j)] [] M (mm_Eq (some (.int (ks_b (g_each T S)))) M) := by
    refine up_ind ?_
    intro j hj ih hI
    refine bX9_eachTwo_2 o (Nat.le_refl 1) (fun c => ⟨?_, rfl⟩) (fun c c1 => ?_) (fun c c1 c2 => ?_) (fun c c1 c2 => ⟨?_, rfl⟩)
    · rw [ks_14, ks_le (by decide) (by omega)] at c
      rw [ks_bt (show g_each T S from fun p hp => hI p (by omega))]
    · rw [ks_14, ks_le (by decide) (by omega)] at c
      rw [ks_has (by omega) (by omega), ks_b0] at c1
      rw [nI_1]
      refine ih (by omega) (fun p hp hb => ?_)
      rcases Nat.lt_or_ge p j with q | q
      · exact hI p q hb
      · obtain rfl : p = j := by omega
        exact absurd hb c1
    · rw [ks_14, ks_le (by decide) (by omega)] at c
      rw [ks_at (by decide) (by omega), ks_andn, ks_shl1 _ (by omega), nI_eq (by have := ks_nd_le S (T j); omega) (by have := Nat.pow_lt_pow_right (a := 2) (by decide) (show j < 31 by omega); omega)] at c2
      rw [nI_1]
      refine ih (by omega) (fun p hp hb => ?_)
      rcases Nat.lt_or_ge p j with q | q
      · exact hI p q hb
      · obtain rfl : p = j := by omega
        exact c2
    · rw [ks_14, ks_le (by decide) (by omega)] at c
      rw [ks_has (by omega) (by omega), ks_b0, Classical.not_not] at c1
      rw [ks_at (by decide) (by omega), ks_andn, ks_shl1 _ (by omega), nI_eq (by have := ks_nd_le S (T j); omega) (by have := Nat.pow_lt_pow_right (a := 2) (by decide) (show j < 31 by omega); omega)] at c2
      rw [ks_bf (fun h => c2 (h j (by omega) c1))]
  exact bX9_eachTwo_0 (H 0 (by omega) (fun p hp => by omega))
theorem ks_sub3 : ∀ a, a < 14 → ∀ b, b < 14 → ∀ e, e < 14 → a < b → b < e → List.isSublist [a, b, e] (List.range 14) = true := by decide +kernel
theorem ks_pop3 {S a b e : Nat} (h1 : a < b) (h2 : b < e) (h3 : e < 14) (ha : S.testBit a = true) (hb : S.testBit b = true) (he : S.testBit e = true) : 3 ≤ ks_pop S := by
  have h := List.isSublist_iff_sublist.mp (ks_sub3 a (by omega) b (by omega) e h3 h1 h2)
  have h4 := List.Sublist.countP_le (p := fun i => S.testBit i) h
  simp only [List.countP_cons, List.countP_nil, ha, hb, he, if_true] at h4
  exact h4
def g_three (n : Nat) (T : Nat → Nat) (S : Nat) : Prop := ∃ a b e, a < b ∧ b < e ∧ e < n ∧ S.testBit a = true ∧ S.testBit b = true ∧ S.testBit e = true ∧ (T a).testBit b = false ∧ (T a).testBit e = false ∧ (T b).testBit e = false
theorem s_hasThreeUntied {M : mm_Mem} {k n S : Nat} {T : Nat → Nat} (o : na M k n T) (hn : n ≤ 14) (hS : S < 2 ^ n) : mm_S 1 mX3_hasThreeUntied 0 0 [.ref k, .int (nI S)] M (mm_Eq (some (.int (ks_b (g_three n T S)))) M) := by
  have hS' : S < 16384 := Nat.lt_of_lt_of_le hS (Nat.le_trans (Nat.pow_le_pow_right (by decide) hn) (by decide))
  refine mm_S.of rfl rfl (Nat.le_of_ble_eq_true rfl) mm_ndi ?_
  have H : ∀ j, j ≤ n → (∀ a, a < j → ¬ ∃ b e, a < b ∧ b < e ∧ e < n ∧ S.testBit a = true ∧ S.testBit b = true ∧ S.testBit e = true ∧ (T a).testBit b = false ∧ (T a).testBit e = false ∧ (T b).testBit e = false) → mm_X mX3_hasThreeUntied 1 none (0, 0) 12 [.ref k, .int (nI S), .int (nI j), .null, .null] [] M (mm_Eq (some (.int (ks_b (g_three n T S)))) M) := by
    refine up_ind ?_
    intro j hj ih hI
    have next : j < n → (¬ ∃ b e, j < b ∧ b < e ∧ e < n ∧ S.testBit j = true ∧ S.testBit b = true ∧ S.testBit e = true ∧ (T j).testBit b = false ∧ (T j).testBit e = false ∧ (T b).testBit e = false) → mm_X mX3_hasThreeUntied 1 none (0, 0) 12 [.ref k, .int (nI S), .int (nI j + 1), .null, .null] [] M (mm_Eq (some (.int (ks_b (g_three n T S)))) M) := by
      intro hlt h
      rw [nI_1]
      refine ih hlt (fun a ha => ?_)
      rcases Nat.lt_or_ge a j with q | q
      · exact hI a q
      · obtain rfl : a = j := by omega
        exact h
    refine bX3_hasThreeUntied_12 o.1 o.2 (Nat.le_refl 1) (fun c => ⟨?_, rfl⟩) (fun c c1 => ?_) (fun c c1 => ?_)
    · rw [ks_le (by omega) (by omega)] at c
      rw [ks_bf]
      rintro ⟨a, b, e, h1, h2, h3, h⟩
      exact hI a (by omega) ⟨b, e, h1, h2, h3, h⟩
    · rw [ks_le (by omega) (by omega)] at c
      rw [ks_has (by omega) (by omega), ks_b0, Classical.not_not] at c1
      rw [ks_at (by decide) (by omega), ks_shl2 _ (by omega), nx_and, ks_andn, nI_1]
      have hF : ∀ i, (ks_nd (S &&& ks_bh j) (T j)).testBit i = (S.testBit i && decide (j < i) && !(T j).testBit i) := by
        intro i
        rw [ks_nd_bit (Nat.lt_of_le_of_lt Nat.and_le_left (by omega)), Nat.testBit_and]
        cases hb : S.testBit i with
        | false => rfl
        | true =>
          have := ks_bit_lt (n := 14) hS' hb
          rw [ks_bh_bit (by omega)]
      have hFl : ks_nd (S &&& ks_bh j) (T j) < 16384 := Nat.lt_of_le_of_lt (Nat.le_trans (ks_nd_le _ _) Nat.and_le_left) hS'
      generalize hFe : ks_nd (S &&& ks_bh j) (T j) = F at hF hFl
      have H2 : ∀ i, i ≤ n → j < i → (∀ b, b < i → ¬ ∃ e, j < b ∧ b < e ∧ e < n ∧ S.testBit j = true ∧ S.testBit b = true ∧ S.testBit e = true ∧ (T j).testBit b = false ∧ (T j).testBit e = false ∧ (T b).testBit e = false) → mm_X mX3_hasThreeUntied 1 none (0, 0) 54 [.ref k, .int (nI S), .int (nI j), .int (nI F), .int (nI i)] [] M (mm_Eq (some (.int (ks_b (g_three n T S)))) M) := by
        refine up_ind ?_
        intro i hi ih2 hji hJ
        have next2 : i < n → (¬ ∃ e, j < i ∧ i < e ∧ e < n ∧ S.testBit j = true ∧ S.testBit i = true ∧ S.testBit e = true ∧ (T j).testBit i = false ∧ (T j).testBit e = false ∧ (T i).testBit e = false) → mm_X mX3_hasThreeUntied 1 none (0, 0) 54 [.ref k, .int (nI S), .int (nI j), .int (nI F), .int (nI i + 1)] [] M (mm_Eq (some (.int (ks_b (g_three n T S)))) M) := by
          intro hlt h
          rw [nI_1]
          refine ih2 hlt (by omega) (fun a ha => ?_)
          rcases Nat.lt_or_ge a i with q | q
          · exact hJ a q
          · obtain rfl : a = i := by omega
            exact h
        refine bX3_hasThreeUntied_54 o.1 o.2 (Nat.le_refl 1) (fun c2 => ?_) (fun c2 c3 => ?_) (fun c2 c3 c4 => ?_) (fun c2 c3 c4 => ⟨?_, rfl⟩)
        · rw [ks_le (by omega) (by omega)] at c2
          refine next (by omega) ?_
          rintro ⟨b, e, h1, h2, h3, h⟩
          exact hJ b (by omega) ⟨e, h1, h2, h3, h⟩
        · rw [ks_le (by omega) (by omega)] at c2
          rw [ks_has (by omega) (by omega), ks_b0, hF] at c3
          refine next2 (by omega) ?_
          rintro ⟨e, h1, h2, h3, h4, h5, h6, h7, h8⟩
          exact c3 (by rw [h5, h7, decide_eq_true h1]; rfl)
        · rw [ks_le (by omega) (by omega)] at c2
          rw [ks_at (by decide) (by omega), ks_shl2 _ (by omega), nx_and, ks_andn, show (0 : Int32) = nI 0 from rfl, nI_eq (by have := ks_nd_le (F &&& ks_bh i) (T i); have := Nat.and_le_left (n := F) (m := ks_bh i); omega) (by omega), ks_zero] at c4
          refine next2 (by omega) ?_
          rintro ⟨e, h1, h2, h3, h4, h5, h6, h7, h8, h9⟩
          have := c4 e
          rw [ks_nd_bit (Nat.lt_of_le_of_lt Nat.and_le_left (by omega)), Nat.testBit_and, hF, ks_bh_bit (by omega), h6, h8, h9, decide_eq_true (show j < e by omega), decide_eq_true h2] at this
          cases this
        · rw [ks_le (by omega) (by omega)] at c2
          rw [ks_has (by omega) (by omega), ks_b0, Classical.not_not, hF] at c3
          rw [ks_at (by decide) (by omega), ks_shl2 _ (by omega), nx_and, ks_andn, show (0 : Int32) = nI 0 from rfl, nI_eq (by have := ks_nd_le (F &&& ks_bh i) (T i); have := Nat.and_le_left (n := F) (m := ks_bh i); omega) (by omega), ← Ne, ks_ne0] at c4
          obtain ⟨e, he⟩ := c4
          rw [ks_nd_bit (Nat.lt_of_le_of_lt Nat.and_le_left (by omega)), Nat.testBit_and, hF] at he
          simp only [Bool.and_eq_true, decide_eq_true_eq, Bool.not_eq_true'] at he c3
          obtain ⟨⟨⟨⟨e1, e2⟩, e3⟩, e4⟩, e5⟩ := he
          obtain ⟨⟨f1, f2⟩, f3⟩ := c3
          have hen : e < n := ks_bit_lt hS e1
          rw [ks_bh_bit (by omega)] at e4
          rw [ks_bt ⟨j, i, e, by omega, of_decide_eq_true e4, hen, c1, f1, e1, f3, e3, e5⟩]
      exact H2 (j + 1) (by omega) (by omega) (fun b hb => by rintro ⟨e, h1, -⟩; omega)
    · rw [ks_le (by omega) (by omega)] at c
      rw [ks_has (by omega) (by omega), ks_b0] at c1
      refine next (by omega) ?_
      rintro ⟨b, e, h1, h2, h3, h4, h5⟩
      exact c1 h4
  refine bX3_hasThreeUntied_0 (Nat.le_refl 1) (fun c => ?_) (fun c => ⟨?_, rfl⟩)
  · exact H 0 (by omega) (fun a ha => by omega)
  · rw [ks_cnt hS', show (3 : Int32) = nI 3 from rfl, ks_le (by omega) (by have : ks_pop S ≤ 14 := List.countP_le_length; omega)] at c
    rw [ks_bf]
    rintro ⟨a, b, e, h1, h2, h3, h4, h5, h6, -⟩
    exact c (ks_pop3 h1 h2 (by omega) h4 h5 h6)
