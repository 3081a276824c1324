/-! APART, CLUMP: of the model -/
theorem s_isAlike {M : mm_Mem} {n S : Nat} {b : Bool} {T : Nat → Nat} (hf : mm_fd M 31 10 10 (.ref 33)) (o : ra M 33 n T) (hw : gw n T) (hS : S < 2 ^ n) : mm_S 1 mX10_isAlike 0 0 [.ref 31, .int (nI S), .int (ks_o b)] M (mm_Eq (some (.int (ks_b (cq (gF b n T) S)))) M) := by
  have hn := hw.1
  have hS' := ks_p14 hn hS
  have hc := cq_alk (b := b) hw hS
  refine mm_S.of rfl rfl (Nat.le_of_ble_eq_true rfl) mm_ndi (bX10_isAlike_0 ?_)
  rw [show (0 : Int32) = nI 0 from rfl]
  refine srch (G := fun p => mm_X mX10_isAlike 1 none (0, 0) 2 [.ref 31, .int (nI S), .int (ks_o b), .int (nI p), .null] [] M (mm_Eq (some (.int (ks_b (cq (gF b n T) S)))) M)) (P := fun p => ¬ (S.testBit p = true → alk b T S p)) (Nat.zero_le n) ?_
  intro p _ hp hI ih
  have lt : ¬ gk_f n T (Int32.toNatClampNeg 0) ≤ nI p → p < n := by
    intro c
    rw [gk_0, ks_le (by omega) (by omega)] at c
    omega
  have no : p < n → S.testBit p = true → ¬ alk b T S p → ks_b (cq (gF b n T) S) = 0 := fun _ h1 h2 => ks_bf fun q => h2 (hc.mp q p h1)
  refine bX10_isAlike_2 o hf (by decide) gk_in0 (fun c => ⟨?_, rfl⟩) (fun c _ => gk_in1 (by have := lt c; omega)) (fun c c1 c2 c3 => ?_) (fun c c1 c2 c3 => ⟨?_, rfl⟩) (fun c c1 c2 c3 => ?_) (fun c c1 c2 c3 => ⟨?_, rfl⟩) (fun c c1 => ?_)
  · rw [gk_0, ks_le (by omega) (by omega)] at c
    rw [ks_bt]
    refine hc.mpr fun p' hp' => Classical.byContradiction fun q => hI p' (Nat.zero_le _) (by have := ks_bit_lt hS hp'; omega) fun u => q (u hp')
  · have lp := lt c
    have hTp := ks_p14 hn (hw.2.1 p)
    cases b with
    | true => cases c2
    | false =>
      rw [gk_1 (by omega), ks_shl1 _ (by omega), ks_andn, nx_and, ks_eq0 (Nat.lt_of_le_of_lt Nat.and_le_left (by omega)), alk_0 hS'] at c3
      rw [nI_1]
      exact ih lp fun q => q fun _ => c3
  · have lp := lt c
    have hTp := ks_p14 hn (hw.2.1 p)
    rw [ks_mhas (by omega) (by omega), ks_b0, Classical.not_not] at c1
    cases b with
    | true => cases c2
    | false =>
      rw [gk_1 (by omega), ks_shl1 _ (by omega), ks_andn, nx_and, ks_eq0 (Nat.lt_of_le_of_lt Nat.and_le_left (by omega)), alk_0 hS'] at c3
      rw [no lp c1 c3]
  · have lp := lt c
    have hTp := ks_p14 hn (hw.2.1 p)
    cases b with
    | false => exact absurd rfl c2
    | true =>
      rw [gk_1 (by omega), ks_shl1 _ (by omega), ks_andn, nx_and, ks_eqI (Nat.lt_of_le_of_lt Nat.and_le_left (by omega)) (Nat.lt_of_le_of_lt (ks_nd_le _ _) (by omega)), alk_1 hS'] at c3
      rw [nI_1]
      exact ih lp fun q => q fun _ => c3
  · have lp := lt c
    have hTp := ks_p14 hn (hw.2.1 p)
    rw [ks_mhas (by omega) (by omega), ks_b0, Classical.not_not] at c1
    cases b with
    | false => exact absurd rfl c2
    | true =>
      rw [gk_1 (by omega), ks_shl1 _ (by omega), ks_andn, nx_and, ks_eqI (Nat.lt_of_le_of_lt Nat.and_le_left (by omega)) (Nat.lt_of_le_of_lt (ks_nd_le _ _) (by omega)), alk_1 hS'] at c3
      rw [no lp c1 c3]
  · have lp := lt c
    rw [ks_mhas (by omega) (by omega), ks_b0] at c1
    rw [nI_1]
    exact ih lp fun q => q fun u => absurd u c1
/-- among those below s -/
def lpf (F : Nat → Nat) (s v : Nat) : Prop := v < s ∧ cq F v ∧ ∀ S, S < s → cq F S → ks_pop S < ks_pop v ∨ (ks_pop S = ks_pop v ∧ v ≤ S)
theorem lpf_end {F : Nat → Nat} {n v : Nat} (h : lpf F (2 ^ n) v) : lmc F (2 ^ n - 1) v :=
  ⟨fun i hi => by rw [ks_am_bit, decide_eq_true (ks_bit_lt h.1 hi)], h.2.1, fun S hs hc => h.2.2 S (ks_sub_lt hs (ks_am n)) hc⟩
theorem s_mostM {M : mm_Mem} {σ : g_st} {b : Bool} {x : Int32} (h : MS M σ) : OM 2 mX10_most [.int (ks_o b), .int x] M (o_most b σ x) := by
  obtain ⟨n, T, L, K, t, f, fk⟩ := σ
  obtain ⟨th, h⟩ := h
  obtain ⟨F, w, m1, m2⟩ := h.mo
  obtain ⟨-, hw⟩ := h.now
  have hn := hw.1
  have hz := h.z
  obtain ⟨o, -⟩ := hz.now
  have hf := hz.fdr 10 33 (by decide)
  refine mm_S.of rfl rfl (Nat.le_of_ble_eq_true rfl) ndM (bX10_most_0 (m1.i 0 (by decide)) (by decide) (fun c => ?_) (fun c => ?_))
  · rw [q_isIn1, ks_b0, Classical.not_not] at c
    have hm : 2 ^ n ≤ 16384 := Nat.pow_le_pow_right (n := 2) (by decide) hn
    have p0 := Nat.pow_pos (a := 2) (n := n) (by decide)
    have e0 : fM M (mm_upF M 31 0 (.int 0)) := fM_z
    generalize mm_upF M 31 0 (.int 0) = M1 at hz o hf e0 ⊢
    rw [show (0 : Int32) = nI 0 from rfl, show (1 : Int32) = nI 1 from rfl]
    refine fld (s := 1) (n := 2 ^ n) (G := fun S (v : Nat) => mm_X mX10_most 2 none (0, 0) 21 [.ref 31, .int (ks_o b), .int x, .int (nI v), .int (nI S)] [] M1 _) (v0 := 0) (I := fun S v => lpf (gF b n T) S v) (by omega) ⟨by decide, cq_0, fun S hS _ => by rw [show S = 0 from by omega]; exact Or.inr ⟨rfl, Nat.le_refl 0⟩⟩ ?_
    rintro S v h1S hS hv ih
    have hv14 : v < 16384 := by have := hv.1; omega
    refine bX10_most_21 o hf (by decide) gk_in0 (fun c1 c2 => ?_) (fun c1 c2 => ?_) (fun c1 => ?_)
    · rw [gk_0, ks_all n (by omega), ks_ltI (by omega) (by omega)] at c1
      obtain rfl : S = 2 ^ n := by omega
      refine ⟨?_, ⟨_, hz⟩, e0⟩
      dsimp only [o_most]
      rw [if_neg c2, if_pos (by rcases c with q | q; exact absurd q c2; exact q), lmc_ex (lpf_end hv)]
    · rw [gk_0, ks_all n (by omega), ks_ltI (by omega) (by omega)] at c1
      obtain rfl : S = 2 ^ n := by omega
      refine mm_Call.eq (s_bits hv14) (by decide) (bX10_most_72 ⟨?_, ⟨_, hz⟩, e0⟩)
      dsimp only [o_most]
      rw [if_pos c2, lmc_ex (lpf_end hv)]
    · rw [gk_0, ks_all n (by omega), ks_ltI (by omega) (by omega)] at c1
      have lS : S < 2 ^ n := by omega
      have pS := ks_pop_le S
      have pv := ks_pop_le v
      refine mm_Call.eq (s_bits (by omega)) (by decide) (bX10_most_38 (mm_Call.eq (s_bits hv14) (by decide) (bX10_most_42 hf.rc (fun c2 => ?_) (fun c2 => ?_))))
      · rw [ks_le (by omega) (by omega)] at c2
        rw [nI_1]
        refine ih v lS ⟨by have := hv.1; omega, hv.2.1, fun R hR hc => ?_⟩
        rcases Nat.lt_or_ge R S with q | q
        · exact hv.2.2 R q hc
        · obtain rfl : R = S := by omega
          have := hv.1
          omega
      · rw [ks_le (by omega) (by omega)] at c2
        refine mm_Call.eq (s_isAlike (b := b) hf o hw lS) (by decide) (bX10_most_52 (fun c3 => ?_) (fun c3 => ?_))
        · rw [ks_b0] at c3
          rw [nI_1]
          refine ih v lS ⟨by have := hv.1; omega, hv.2.1, fun R hR hc => ?_⟩
          rcases Nat.lt_or_ge R S with q | q
          · exact hv.2.2 R q hc
          · obtain rfl : R = S := by omega
            exact absurd hc c3
        · rw [ks_b0, Classical.not_not] at c3
          rw [nI_1]
          refine ih S lS ⟨by omega, c3, fun R hR hc => ?_⟩
          rcases Nat.lt_or_ge R S with q | q
          · have := hv.2.2 R q hc
            omega
          · obtain rfl : R = S := by omega
            exact Or.inr ⟨rfl, Nat.le_refl _⟩
  · rw [q_isIn1, ks_b0] at c
    refine ⟨?_, ⟨_, hz⟩, fM_z⟩
    dsimp only [o_most]
    rw [if_neg (fun q => c (Or.inl q)), if_neg (fun q => c (Or.inr q))]
theorem oM_apart {M : mm_Mem} {σ : g_st} {x : Int32} (h : MS M σ) : OM 3 mX10_apart [.int x] M (o_most false σ x) :=
  mm_S.of rfl rfl (Nat.le_of_ble_eq_true rfl) ndM (bX10_apart_0 h.rc (mm_Call.of (s_mostM (b := false) h) (by decide) fun r M' q => by obtain ⟨rfl, q2, q3⟩ := q; exact bX10_apart_6 ⟨rfl, q2, q3⟩))
theorem oM_clump {M : mm_Mem} {σ : g_st} {x : Int32} (h : MS M σ) : OM 3 mX10_clump [.int x] M (o_most true σ x) :=
  mm_S.of rfl rfl (Nat.le_of_ble_eq_true rfl) ndM (bX10_clump_0 h.rc (mm_Call.of (s_mostM (b := true) h) (by decide) fun r M' q => by obtain ⟨rfl, q2, q3⟩ := q; exact bX10_clump_6 ⟨rfl, q2, q3⟩))
