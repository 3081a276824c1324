/-! THE MODEL: whether a set is covered -/
abbrev ra (M : mm_Mem) (a n : Nat) (T : Nat → Nat) : Prop := mm_at M a (mm_aI 15 (gk_f n T))
theorem gk_inc {n j : Nat} {T : Nat → Nat} (hn : n ≤ 14) (hj : j ≤ n) (c : ¬ gk_f n T (Int32.toNatClampNeg 0) ≤ nI j) : vp_in (1 + nI j) 15 := by
  rw [gk_0, ks_le (by omega) (by omega)] at c
  exact gk_in1 (by omega)
theorem ks_and_half (a b : Nat) : (a &&& b) / 2 = a / 2 &&& b / 2 := by
  apply ks_ext
  intro i
  rw [Nat.testBit_and, ← Nat.testBit_succ, ← Nat.testBit_succ, ← Nat.testBit_succ, Nat.testBit_and]
def ks_pc (m a : Nat) : Nat := (List.range m).countP fun i => a.testBit i
theorem ks_pc_s (m a : Nat) : ks_pc (m + 1) a = ks_pc m (a / 2) + a % 2 := by
  unfold ks_pc
  rw [List.range_succ_eq_map, List.countP_cons, List.countP_map]
  have e : ((fun i => a.testBit i) ∘ Nat.succ) = fun i => (a / 2).testBit i := by
    funext i
    exact Nat.testBit_succ a i
  rw [e, Nat.testBit_zero]
  by_cases h : a % 2 = 1
  · rw [if_pos (by simp [h]), h]
  · rw [if_neg (by simp [h])]
    omega
theorem ks_pc_bits : ∀ m s, s ≠ 0 → s < 2 ^ m → ks_pc m (s &&& (s - 1)) + 1 = ks_pc m s := by
  intro m
  induction m with
  | zero =>
    intro s h0 h
    rw [Nat.pow_zero] at h
    omega
  | succ m ih =>
    intro s h0 h
    rw [Nat.pow_succ] at h
    have e2 : (s &&& (s - 1)) % 2 = 0 := by
      have : (s &&& (s - 1)).testBit 0 = false := by
        rw [Nat.testBit_and, Nat.testBit_zero, Nat.testBit_zero]
        by_cases q : s % 2 = 1
        · rw [decide_eq_false (show ¬ (s - 1) % 2 = 1 by omega), Bool.and_false]
        · rw [decide_eq_false q, Bool.false_and]
      rw [Nat.testBit_zero] at this
      have := of_decide_eq_false this
      omega
    rw [ks_pc_s, ks_pc_s, ks_and_half, e2]
    by_cases q : s % 2 = 1
    · rw [show (s - 1) / 2 = s / 2 by omega, Nat.and_self, q]
    · rw [show (s - 1) / 2 = s / 2 - 1 by omega]
      have := ih (s / 2) (by omega) (by omega)
      omega
theorem ks_bits {s : Nat} (h : s < 16384) (h0 : s ≠ 0) : ks_pop (s &&& (s - 1)) + 1 = ks_pop s := ks_pc_bits 14 s h0 h
theorem ks_pop_le (a : Nat) : ks_pop a ≤ 14 := List.countP_le_length
theorem s_bits {M : mm_Mem} {a : Nat} (ha : a < 16384) : mm_S 0 mX10_bits 0 0 [.int (nI a)] M (mm_Eq (some (.int (nI (ks_pop a)))) M) := by
  refine mm_S.of rfl rfl (Nat.le_of_ble_eq_true rfl) mm_ndi (bX10_bits_0 ?_)
  have H : ∀ s, s < 16384 → ∀ c, c + ks_pop s = ks_pop a → mm_X mX10_bits 0 none (0, 0) 4 [.null, .int (nI c), .int (nI s)] [] M (mm_Eq (some (.int (nI (ks_pop a)))) M) := by
    intro s
    induction s using Nat.strongRecOn with
    | _ s ih =>
      intro hs c hc
      refine bX10_bits_4 (fun h => ⟨?_, rfl⟩) (fun h => ?_)
      · rw [ks_eq0 (by omega)] at h
        subst h
        rw [show ks_pop 0 = 0 from rfl, Nat.add_zero] at hc
        rw [hc]
      · rw [ks_eq0 (by omega)] at h
        obtain ⟨t, rfl⟩ : ∃ t, s = t + 1 := ⟨s - 1, by omega⟩
        rw [nI_1, nI_pred, nx_and]
        have hle : (t + 1) &&& t ≤ t := Nat.and_le_right
        have hb := ks_bits hs (by omega)
        rw [show t + 1 - 1 = t from rfl] at hb
        exact ih _ (by omega) (by omega) _ (by omega)
  exact H a ha 0 (by omega)
theorem ks_rem2 {a : Nat} (ha : a < 2 ^ 31) : mm_rem (nI a) 2 = nI (a % 2) := pk_rem ha (by decide) (by decide)
def ks_three (p q r : Nat) (b1 b2 b3 : Bool) : Nat := ((if b1 then 2 ^ p else 0) ||| (if b2 then 2 ^ q else 0)) ||| (if b3 then 2 ^ r else 0)
theorem ks_three_chk : (List.range 14).all (fun p => (List.range 14).all fun q => (List.range 14).all fun r => decide (p = q) || decide (p = r) || decide (q = r) || ([true, false].all fun b1 => [true, false].all fun b2 => [true, false].all fun b3 => decide (ks_pop (ks_three p q r b1 b2 b3) % 2 = 1) == ((b1 ^^ b2) ^^ b3))) = true := by decide +kernel
theorem ks_three_odd {p q r : Nat} (hp : p < 14) (hq : q < 14) (hr : r < 14) (h1 : p ≠ q) (h2 : p ≠ r) (h3 : q ≠ r) (b1 b2 b3 : Bool) : ks_pop (ks_three p q r b1 b2 b3) % 2 = 1 ↔ ((b1 ^^ b2) ^^ b3) = true := by
  have h := List.all_eq_true.mp (List.all_eq_true.mp (List.all_eq_true.mp ks_three_chk p (List.mem_range.mpr hp)) q (List.mem_range.mpr hq)) r (List.mem_range.mpr hr)
  simp only [Bool.or_eq_true, decide_eq_true_eq, h1, h2, h3, false_or] at h
  have h4 := List.all_eq_true.mp (List.all_eq_true.mp (List.all_eq_true.mp h b1 (by cases b1 <;> simp)) b2 (by cases b2 <;> simp)) b3 (by cases b3 <;> simp)
  rw [beq_iff_eq] at h4
  rw [← h4, decide_eq_true_eq]
theorem ks_and_three (A p q r : Nat) : A &&& (2 ^ p ||| 2 ^ q ||| 2 ^ r) = ks_three p q r (A.testBit p) (A.testBit q) (A.testBit r) := by
  have e : ∀ (b : Bool) (k i : Nat), (if b = true then 2 ^ k else 0).testBit i = (b && decide (k = i)) := by
    intro b k i
    cases b
    · simp
    · simp [Nat.testBit_two_pow]
  apply ks_ext
  intro i
  unfold ks_three
  rw [Nat.testBit_and, Nat.testBit_or, Nat.testBit_or, Nat.testBit_or, Nat.testBit_or, e, e, e, ks_p2, ks_p2, ks_p2]
  by_cases h1 : p = i <;> by_cases h2 : q = i <;> by_cases h3 : r = i <;> simp [h1, h2, h3] <;> simp_all
def g_odd (T : Nat → Nat) (S p q r : Nat) : Prop := ∃ x, S.testBit x = true ∧ (((T p).testBit x ^^ (T q).testBit x) ^^ (T r).testBit x) = true
theorem s_isOddM {M : mm_Mem} {a n S p q r : Nat} {T : Nat → Nat} (o : ra M a n T) (hw : gw n T) (hS : S < 2 ^ n) (hp : p < n) (hq : q < n) (hr : r < n) (h1 : (T p).testBit q = true) (h2 : (T p).testBit r = true) (h3 : (T q).testBit r = true) : mm_S 1 mX10_isOdd 0 0 [.ref a, .int (nI S), .int (nI p), .int (nI q), .int (nI r)] M (mm_Eq (some (.int (ks_b (g_odd T S p q r)))) M) := by
  have hn := hw.1
  have hS' := ks_p14 hn hS
  have n1 : p ≠ q := fun e => by rw [e, hw.2.2.2.2 q] at h1; cases h1
  have n2 : p ≠ r := fun e => by rw [e, hw.2.2.2.2 r] at h2; cases h2
  have n3 : q ≠ r := fun e => by rw [e, hw.2.2.2.2 r] at h3; cases h3
  refine mm_S.of rfl rfl (Nat.le_of_ble_eq_true rfl) mm_ndi (bX10_isOdd_0 ?_)
  rw [ks_shl1 _ (by omega), ks_shl1 _ (by omega), ks_shl1 _ (by omega), nx_or, nx_or]
  have hX : ∀ x, x < n → (ks_pop (T x &&& (2 ^ p ||| 2 ^ q ||| 2 ^ r)) % 2 = 1 ↔ (((T p).testBit x ^^ (T q).testBit x) ^^ (T r).testBit x) = true) := by
    intro x hx
    rw [ks_and_three, ks_three_odd (by omega) (by omega) (by omega) n1 n2 n3, hw.2.2.2.1 x p, hw.2.2.2.1 x q, hw.2.2.2.1 x r]
  have hE : ∀ x, x = p ∨ x = q ∨ x = r → (((T p).testBit x ^^ (T q).testBit x) ^^ (T r).testBit x) = false := by
    intro x hx
    have s := hw.2.2.2.1
    have i := hw.2.2.2.2
    rcases hx with rfl | rfl | rfl
    · rw [i, s q, h1, s r, h2]; rfl
    · rw [i, h1, s r, h3]; rfl
    · rw [i, h2, h3]; rfl
  refine srch (G := fun j => mm_X mX10_isOdd 1 none (0, 0) 17 [.ref a, .int (nI S), .null, .null, .null, .int (nI (2 ^ p ||| 2 ^ q ||| 2 ^ r)), .int (nI j)] [] M (mm_Eq (some (.int (ks_b (g_odd T S p q r)))) M)) (P := fun x => S.testBit x = true ∧ (((T p).testBit x ^^ (T q).testBit x) ^^ (T r).testBit x) = true) (Nat.zero_le n) ?_
  intro j h0 hj hI ih
  have hnd : (ks_nd S (2 ^ p ||| 2 ^ q ||| 2 ^ r)).testBit j = (S.testBit j && !(decide (p = j) || decide (q = j) || decide (r = j))) := by
    rw [ks_nd_bit (by omega), Nat.testBit_or, Nat.testBit_or, ks_p2, ks_p2, ks_p2]
  have hndl : ks_nd S (2 ^ p ||| 2 ^ q ||| 2 ^ r) < 2 ^ 31 := by
    have := ks_nd_le S (2 ^ p ||| 2 ^ q ||| 2 ^ r)
    omega
  refine bX10_isOdd_17 o (by decide) gk_in0 (fun c => ⟨?_, rfl⟩) (fun c c1 => ?_) (fun c _ => gk_inc hn hj c) (fun c c1 => ?_)
  · simp (disch := omega) only [ks_le, ks_ltI, ks_eqI, ks_eq0, ks_le14, ks_has, ks_mhas, ks_at, ks_b0, gk_0, gk_1, ks_andn, nx_and, nx_or, nx_xor, ks_shl1, ks_shl2, Classical.not_not, nI_1] at c
    rw [ks_bf]
    rintro ⟨x, h1, h2⟩
    exact hI x (Nat.zero_le x) (by have := ks_bit_lt hS h1; omega) ⟨h1, h2⟩
  · simp (disch := omega) only [ks_le, ks_ltI, ks_eqI, ks_eq0, ks_le14, ks_has, ks_mhas, ks_at, ks_b0, gk_0, gk_1, ks_andn, nx_and, nx_or, nx_xor, ks_shl1, ks_shl2, Classical.not_not, nI_1] at c
    rw [ks_andn, ks_mhas hndl (by omega), ks_b0, hnd] at c1
    rw [nI_1]
    refine ih (by omega) (fun h => ?_)
    by_cases e : j = p ∨ j = q ∨ j = r
    · rw [hE j e] at h
      cases h.2
    · apply c1
      have e1 : ¬ p = j := fun q => e (Or.inl q.symm)
      have e2 : ¬ q = j := fun q => e (Or.inr (Or.inl q.symm))
      have e3 : ¬ r = j := fun q => e (Or.inr (Or.inr q.symm))
      rw [h.1, decide_eq_false e1, decide_eq_false e2, decide_eq_false e3]
      rfl
  · simp (disch := omega) only [ks_le, ks_ltI, ks_eqI, ks_eq0, ks_le14, ks_has, ks_mhas, ks_at, ks_b0, gk_0, gk_1, ks_andn, nx_and, nx_or, nx_xor, ks_shl1, ks_shl2, Classical.not_not, nI_1] at c
    rw [ks_andn, ks_mhas hndl (by omega), ks_b0, Classical.not_not, hnd] at c1
    have hSj : S.testBit j = true := by
      cases h : S.testBit j with
      | true => rfl
      | false => rw [h] at c1; cases c1
    rw [gk_1 (by omega), nx_and]
    refine mm_Call.eq (s_bits (Nat.lt_of_le_of_lt Nat.and_le_left (ks_p14 hn (hw.2.1 j)))) (by decide) (bX10_isOdd_51 (fun c2 => ?_) (fun c2 => ⟨?_, rfl⟩))
    · rw [ks_rem2 (by have := ks_pop_le (T j &&& (2 ^ p ||| 2 ^ q ||| 2 ^ r)); omega), show (1 : Int32) = nI 1 from rfl, nI_eq (by omega) (by omega), hX j (by omega)] at c2
      rw [nI_1]
      exact ih (by omega) (fun h => c2 h.2)
    · rw [ks_rem2 (by have := ks_pop_le (T j &&& (2 ^ p ||| 2 ^ q ||| 2 ^ r)); omega), show (1 : Int32) = nI 1 from rfl, nI_eq (by omega) (by omega), hX j (by omega)] at c2
      rw [ks_bt (show g_odd T S p q r from ⟨j, hSj, c2⟩)]
theorem ks_shl2q : ∀ q, q < 30 → mm_shl 2 (nI q) - 1 = nI (2 ^ (q + 1) - 1) := by decide +kernel
theorem s_hasClawM {M : mm_Mem} {a n S : Nat} {T : Nat → Nat} (o : ra M a n T) (hw : gw n T) (hS : S < 2 ^ n) : mm_S 2 mX10_hasClaw 0 0 [.ref a, .int (nI S)] M (mm_Eq (some (.int (ks_b (g_claw n T S)))) M) := by
  have hn := hw.1
  have hS' := ks_p14 hn hS
  refine mm_S.of rfl rfl (Nat.le_of_ble_eq_true rfl) mm_ndi (bX10_hasClaw_0 ?_)
  refine srch (G := fun j => mm_X mX10_hasClaw 2 none (0, 0) 2 [.ref a, .int (nI S), .int (nI j), .null, .null, .null] [] M (mm_Eq (some (.int (ks_b (g_claw n T S)))) M)) (P := fun c => S.testBit c = true ∧ g_three n T (T c &&& S)) (Nat.zero_le n) ?_
  intro j h0 hj hI ih
  refine bX10_hasClaw_2 o (by decide) gk_in0 (fun c => ⟨?_, rfl⟩) (fun c _ => gk_inc hn hj c) (fun c c1 => ?_) (fun c c1 => ?_)
  · simp (disch := omega) only [ks_le, ks_ltI, ks_eqI, ks_eq0, ks_le14, ks_has, ks_mhas, ks_at, ks_b0, gk_0, gk_1, ks_andn, nx_and, nx_or, nx_xor, ks_shl1, ks_shl2, Classical.not_not, nI_1] at c
    rw [ks_bf]
    rintro ⟨x, h1, h2⟩
    exact hI x (Nat.zero_le x) (by omega) h2
  · simp (disch := omega) only [ks_le, ks_ltI, ks_eqI, ks_eq0, ks_le14, ks_has, ks_mhas, ks_at, ks_b0, gk_0, gk_1, ks_andn, nx_and, nx_or, nx_xor, ks_shl1, ks_shl2, Classical.not_not, nI_1] at c
    simp (disch := omega) only [ks_le, ks_ltI, ks_eqI, ks_eq0, ks_le14, ks_has, ks_mhas, ks_at, ks_b0, gk_0, gk_1, ks_andn, nx_and, nx_or, nx_xor, ks_shl1, ks_shl2, Classical.not_not, nI_1] at c1
    rw [gk_1 (by omega), nx_and]
    have hF : T j &&& S < 2 ^ n := ks_and2 hS
    generalize hFe : T j &&& S = F at hF ⊢
    have hF' := ks_p14 hn hF
    refine srch (G := fun p => mm_X mX10_hasClaw 2 none (0, 0) 31 [.ref a, .int (nI S), .int (nI j), .int (nI F), .int (nI p), .null] [] M (mm_Eq (some (.int (ks_b (g_claw n T S)))) M)) (P := fun p => ∃ b e, p < b ∧ b < e ∧ e < n ∧ F.testBit p = true ∧ F.testBit b = true ∧ F.testBit e = true ∧ (T p).testBit b = false ∧ (T p).testBit e = false ∧ (T b).testBit e = false) (Nat.zero_le n) ?_
    intro p g0 hp hJ ih2
    refine bX10_hasClaw_31 o (by decide) gk_in0 (fun c2 => ?_) (fun c2 c3 => ?_) (fun c2 c3 => ?_)
    · simp (disch := omega) only [ks_le, ks_ltI, ks_eqI, ks_eq0, ks_le14, ks_has, ks_mhas, ks_at, ks_b0, gk_0, gk_1, ks_andn, nx_and, nx_or, nx_xor, ks_shl1, ks_shl2, Classical.not_not, nI_1] at c2
      rw [nI_1]
      refine ih (by omega) ?_
      rintro ⟨-, x, b, e, k1, k2, k3, k⟩
      rw [hFe] at k
      exact hJ x (Nat.zero_le x) (by omega) ⟨b, e, k1, k2, k3, k⟩
    · simp (disch := omega) only [ks_le, ks_ltI, ks_eqI, ks_eq0, ks_le14, ks_has, ks_mhas, ks_at, ks_b0, gk_0, gk_1, ks_andn, nx_and, nx_or, nx_xor, ks_shl1, ks_shl2, Classical.not_not, nI_1] at c2
      simp (disch := omega) only [ks_le, ks_ltI, ks_eqI, ks_eq0, ks_le14, ks_has, ks_mhas, ks_at, ks_b0, gk_0, gk_1, ks_andn, nx_and, nx_or, nx_xor, ks_shl1, ks_shl2, Classical.not_not, nI_1] at c3
      rw [nI_1]
      refine srch (G := fun q => mm_X mX10_hasClaw 2 none (0, 0) 57 [.ref a, .int (nI S), .int (nI j), .int (nI F), .int (nI p), .int (nI q)] [] M (mm_Eq (some (.int (ks_b (g_claw n T S)))) M)) (P := fun q => ∃ e, q < e ∧ F.testBit q = true ∧ F.testBit e = true ∧ (T p).testBit q = false ∧ (T p).testBit e = false ∧ (T q).testBit e = false) (show p + 1 ≤ n by omega) ?_
      intro q g1 hq hL ih3
      have hcalc : ∀ q, q < n → ((ks_nd (ks_nd (ks_nd F (T p)) (T q)) (2 ^ (q + 1) - 1) = 0) ↔ ¬ ∃ e, q < e ∧ F.testBit e = true ∧ (T p).testBit e = false ∧ (T q).testBit e = false) := by
        intro q hq
        have b : ∀ i, (ks_nd (ks_nd (ks_nd F (T p)) (T q)) (2 ^ (q + 1) - 1)).testBit i = (((F.testBit i && !(T p).testBit i) && !(T q).testBit i) && !decide (i < q + 1)) := by
          intro i
          have l1 := ks_nd_le F (T p)
          have l2 := ks_nd_le (ks_nd F (T p)) (T q)
          rw [ks_nd_bit (by omega), ks_nd_bit (by omega), ks_nd_bit (by omega), Nat.testBit_two_pow_sub_one]
        rw [ks_zero]
        constructor
        · rintro h ⟨e, k1, k2, k3, k4⟩
          have := h e
          rw [b, k2, k3, k4, decide_eq_false (by omega)] at this
          cases this
        · intro h i
          rw [b]
          cases e1 : F.testBit i <;> cases e2 : (T p).testBit i <;> cases e3 : (T q).testBit i <;> try rfl
          by_cases e4 : i < q + 1
          · rw [decide_eq_true e4]; rfl
          · exact absurd ⟨i, by omega, e1, e2, e3⟩ h
      have hbig : ∀ q, q < n → (((nI F &&& (nI (T p) ^^^ (-1))) &&& (nI (T q) ^^^ (-1))) &&& ((mm_shl 2 (nI q) - 1) ^^^ (-1))) = nI (ks_nd (ks_nd (ks_nd F (T p)) (T q)) (2 ^ (q + 1) - 1)) := by
        intro q hq
        rw [ks_shl2q _ (by omega), ks_andn, ks_andn, ks_andn]
      have hlt : ks_nd (ks_nd (ks_nd F (T p)) (T q)) (2 ^ (q + 1) - 1) < 2 ^ 31 := by
        have l1 := ks_nd_le F (T p)
        have l2 := ks_nd_le (ks_nd F (T p)) (T q)
        have l3 := ks_nd_le (ks_nd (ks_nd F (T p)) (T q)) (2 ^ (q + 1) - 1)
        omega
      have hTp := ks_p14 hn (hw.2.1 p)
      refine bX10_hasClaw_57 o (by decide) gk_in0 (fun c4 => ?_) (fun c4 c5 => ?_) (fun _ _ => gk_in1 (by omega)) (fun _ _ _ => gk_in1 (by omega)) (fun c _ _ => gk_inc hn hq c) (fun c4 c5 c6 c7 => ?_) (fun c4 c5 c6 c7 => ⟨?_, rfl⟩) (fun c4 c5 c6 => ?_)
      · simp (disch := omega) only [ks_le, ks_ltI, ks_eqI, ks_eq0, ks_le14, ks_has, ks_mhas, ks_at, ks_b0, gk_0, gk_1, ks_andn, nx_and, nx_or, nx_xor, ks_shl1, ks_shl2, Classical.not_not, nI_1] at c4
        rw [nI_1]
        refine ih2 (by omega) ?_
        rintro ⟨b, e, k1, k2, k3, k4, k5, k6, k7, k8, k9⟩
        exact hL b (by omega) (by omega) ⟨e, k2, k5, k6, k7, k8, k9⟩
      · simp (disch := omega) only [ks_le, ks_ltI, ks_eqI, ks_eq0, ks_le14, ks_has, ks_mhas, ks_at, ks_b0, gk_0, gk_1, ks_andn, nx_and, nx_or, nx_xor, ks_shl1, ks_shl2, Classical.not_not, nI_1] at c4
        simp (disch := omega) only [ks_le, ks_ltI, ks_eqI, ks_eq0, ks_le14, ks_has, ks_mhas, ks_at, ks_b0, gk_0, gk_1, ks_andn, nx_and, nx_or, nx_xor, ks_shl1, ks_shl2, Classical.not_not, nI_1] at c5
        rw [nI_1]
        exact ih3 (by omega) (by rintro ⟨e, -, k, -⟩; exact c5 k)
      · simp (disch := omega) only [ks_le, ks_ltI, ks_eqI, ks_eq0, ks_le14, ks_has, ks_mhas, ks_at, ks_b0, gk_0, gk_1, ks_andn, nx_and, nx_or, nx_xor, ks_shl1, ks_shl2, Classical.not_not, nI_1] at c4
        rw [gk_1 (by omega), gk_1 (by omega), hbig q (by omega), ks_eq0 hlt, hcalc q (by omega)] at c7
        rw [nI_1]
        exact ih3 (by omega) (by rintro ⟨e, k1, k2, k3, k4, k5, k6⟩; exact c7 ⟨e, k1, k3, k5, k6⟩)
      · simp (disch := omega) only [ks_le, ks_ltI, ks_eqI, ks_eq0, ks_le14, ks_has, ks_mhas, ks_at, ks_b0, gk_0, gk_1, ks_andn, nx_and, nx_or, nx_xor, ks_shl1, ks_shl2, Classical.not_not, nI_1] at c4
        simp (disch := omega) only [ks_le, ks_ltI, ks_eqI, ks_eq0, ks_le14, ks_has, ks_mhas, ks_at, ks_b0, gk_0, gk_1, ks_andn, nx_and, nx_or, nx_xor, ks_shl1, ks_shl2, Classical.not_not, nI_1] at c5
        rw [gk_1 (by omega), ks_mhas (by omega) (by omega), ks_b0] at c6
        rw [gk_1 (by omega), gk_1 (by omega), hbig q (by omega), ks_eq0 hlt, hcalc q (by omega), Classical.not_not] at c7
        obtain ⟨e, k1, k2, k3, k4⟩ := c7
        have hen := ks_bit_lt hF k2
        rw [ks_bt (show g_claw n T S from ⟨j, by omega, c1, by rw [hFe]; exact ⟨p, q, e, by omega, k1, hen, c3, c5, k2, by simpa using c6, k3, k4⟩⟩)]
      · simp (disch := omega) only [ks_le, ks_ltI, ks_eqI, ks_eq0, ks_le14, ks_has, ks_mhas, ks_at, ks_b0, gk_0, gk_1, ks_andn, nx_and, nx_or, nx_xor, ks_shl1, ks_shl2, Classical.not_not, nI_1] at c4
        rw [gk_1 (by omega), ks_mhas (by omega) (by omega), ks_b0, Classical.not_not] at c6
        rw [nI_1]
        exact ih3 (by omega) (by rintro ⟨e, k1, k2, k3, k4, k5, k6⟩; rw [c6] at k4; cases k4)
    · simp (disch := omega) only [ks_le, ks_ltI, ks_eqI, ks_eq0, ks_le14, ks_has, ks_mhas, ks_at, ks_b0, gk_0, gk_1, ks_andn, nx_and, nx_or, nx_xor, ks_shl1, ks_shl2, Classical.not_not, nI_1] at c2
      simp (disch := omega) only [ks_le, ks_ltI, ks_eqI, ks_eq0, ks_le14, ks_has, ks_mhas, ks_at, ks_b0, gk_0, gk_1, ks_andn, nx_and, nx_or, nx_xor, ks_shl1, ks_shl2, Classical.not_not, nI_1] at c3
      rw [nI_1]
      exact ih2 (by omega) (by rintro ⟨b, e, -, -, -, k, -⟩; exact c3 k)
  · simp (disch := omega) only [ks_le, ks_ltI, ks_eqI, ks_eq0, ks_le14, ks_has, ks_mhas, ks_at, ks_b0, gk_0, gk_1, ks_andn, nx_and, nx_or, nx_xor, ks_shl1, ks_shl2, Classical.not_not, nI_1] at c
    simp (disch := omega) only [ks_le, ks_ltI, ks_eqI, ks_eq0, ks_le14, ks_has, ks_mhas, ks_at, ks_b0, gk_0, gk_1, ks_andn, nx_and, nx_or, nx_xor, ks_shl1, ks_shl2, Classical.not_not, nI_1] at c1
    rw [nI_1]
    exact ih (by omega) (fun h => c1 h.1)
