/-! QUESTIONS OF BOTH SIDES: now, near, line, odd, claw, pieces -/
noncomputable def o_now : g_st → Int32 → Int32 × g_st
  | (n, T, L, K, t, f, fk), x => (if x = 0 then nI n else if x = 1 then nI (g_lines n T) else if x = 2 then nI (g_parts n T) else if x = 3 then nI (gmx (fun p => ks_pop (T p)) n) else if x = 4 then nI (g_tri false n T) else if x = 5 then nI (g_tri true n T) else if x = 6 then nI (g_claws n T) else if x = 7 then nI L.length else if x = 8 then nI t else -1, (n, T, L, K, t, f, fk))
theorem oC_now {M : mm_Mem} {σ : g_st} {x : Int32} (h : CS M σ) : OC 4 mX9_now [.int x] M (o_now σ x) := by
  obtain ⟨n, T, L, K, t, f, fk⟩ := σ
  obtain ⟨⟨pf, sd, h1, h2⟩, h3, h4, h5, h6, h7, h8, h9, h10, h11⟩ := id h
  obtain ⟨oo, C, ac1⟩ := id h11
  have ok : ∀ {v : Int32}, v = (o_now (n, T, L, K, t, f, fk) x).1 → some (Value.int v) = some (.int (o_now (n, T, L, K, t, f, fk) x).1) ∧ CS M (o_now (n, T, L, K, t, f, fk) x).2 ∧ fC M M := fun e => ⟨by rw [e], h, fun _ _ => rfl⟩
  refine mm_S.of rfl rfl (Nat.le_of_ble_eq_true rfl) ndC (bX9_now_0 h3.1 ac1.1 h6.1 (h1.r 0 1 (by decide)) (h1.r 8 26 (by decide)) (h1.r 2 5 (by decide)) (by decide) (fun c => ok ?_) (fun c c1 => ?_) (fun c c1 c2 => ?_) (fun c c1 c2 c3 => ?_) (fun c c1 c2 c3 c4 => ?_) (fun c c1 c2 c3 c4 c5 => ?_) (fun c c1 c2 c3 c4 c5 c6 => ?_) (fun c c1 c2 c3 c4 c5 c6 c7 => ok ?_) (fun c c1 c2 c3 c4 c5 c6 c7 c8 => ok ?_) (fun c c1 c2 c3 c4 c5 c6 c7 c8 => ok ?_))
  · dsimp only [o_now]
    rw [if_pos c]
  · refine mm_Call.eq (s_lines h3 h4) (by decide) (bX9_now_67 (ok ?_))
    dsimp only [o_now]
    rw [if_neg c, if_pos c1]
  · refine mm_Call.eq (s_parts h3 h4) (by decide) (bX9_now_75 (ok ?_))
    dsimp only [o_now]
    rw [if_neg c, if_neg c1, if_pos c2]
  · refine mm_Call.eq (s_mostLines h3 h4) (by decide) (bX9_now_83 (ok ?_))
    dsimp only [o_now]
    rw [if_neg c, if_neg c1, if_neg c2, if_pos c3]
  · refine mm_Call.eq (s_triangles false h3 h4) (by decide) (bX9_now_92 (ok ?_))
    dsimp only [o_now]
    rw [if_neg c, if_neg c1, if_neg c2, if_neg c3, if_pos c4]
  · refine mm_Call.eq (s_triangles true h3 h4) (by decide) (bX9_now_101 (ok ?_))
    dsimp only [o_now]
    rw [if_neg c, if_neg c1, if_neg c2, if_neg c3, if_neg c4, if_pos c5]
  · refine mm_Call.eq (s_claws h3 h4) (by decide) (bX9_now_109 (ok ?_))
    dsimp only [o_now]
    rw [if_neg c, if_neg c1, if_neg c2, if_neg c3, if_neg c4, if_neg c5, if_pos c6]
  · dsimp only [o_now]
    rw [if_neg c, if_neg c1, if_neg c2, if_neg c3, if_neg c4, if_neg c5, if_neg c6, if_pos c7]
  · dsimp only [o_now]
    rw [if_neg c, if_neg c1, if_neg c2, if_neg c3, if_neg c4, if_neg c5, if_neg c6, if_neg c7, if_pos c8]
  · dsimp only [o_now]
    rw [if_neg c, if_neg c1, if_neg c2, if_neg c3, if_neg c4, if_neg c5, if_neg c6, if_neg c7, if_neg c8]
theorem oM_now {M : mm_Mem} {σ : g_st} {x : Int32} (h : MS M σ) : OM 4 mX10_now [.int x] M (o_now σ x) := by
  obtain ⟨n, T, L, K, t, f, fk⟩ := σ
  obtain ⟨th, h⟩ := h
  obtain ⟨F, w, m1, m2, m3, m4, m5⟩ := h.mo
  obtain ⟨o, hw⟩ := h.now
  have hz := h.z
  obtain ⟨oz, -⟩ := hz.now
  have mz := m1.s0
  have f21 := m1.i 21 (by decide)
  rw [m5] at f21
  have f2 := m1.i 2 (by decide)
  rw [m3] at f2
  have ok : ∀ {v : Int32}, v = (o_now (n, T, L, K, t, f, fk) x).1 → some (Value.int v) = some (.int (o_now (n, T, L, K, t, f, fk) x).1) ∧ MS (mm_upF M 31 0 (.int 0)) (o_now (n, T, L, K, t, f, fk) x).2 ∧ fM M (mm_upF M 31 0 (.int 0)) := fun e => ⟨by rw [e], ⟨_, hz⟩, fM_z⟩
  refine mm_S.of rfl rfl (Nat.le_of_ble_eq_true rfl) ndM (bX10_now_0 o (m1.i 0 (by decide)) (m1.r 10 33 (by decide)) f21 f2 (by decide) (fun _ => gk_in0) (fun c => ok ?_) (fun c c1 => ?_) (fun c c1 c2 => ?_) (fun c c1 c2 c3 => ?_) (fun c c1 c2 c3 c4 => ?_) (fun c c1 c2 c3 c4 c5 => ?_) (fun c c1 c2 c3 c4 c5 c6 => ?_) (fun c c1 c2 c3 c4 c5 c6 c7 => ok ?_) (fun c c1 c2 c3 c4 c5 c6 c7 c8 => ok ?_) (fun c c1 c2 c3 c4 c5 c6 c7 c8 => ok ?_))
  · dsimp only [o_now]
    rw [if_pos c, gk_0]
  · refine mm_Call.eq (s_lineMany oz hw) (by decide) (bX10_now_70 (ok ?_))
    dsimp only [o_now]
    rw [if_neg c, if_pos c1]
  · refine mm_Call.eq (s_partsM oz hw) (by decide) (bX10_now_78 (ok ?_))
    dsimp only [o_now]
    rw [if_neg c, if_neg c1, if_pos c2]
  · refine mm_Call.eq (s_mostLinesM mz oz hw) (by decide) (bX10_now_83 (ok ?_))
    dsimp only [o_now]
    rw [if_neg c, if_neg c1, if_neg c2, if_pos c3]
  · refine mm_Call.eq (s_trianglesM false mz oz hw) (by decide) (bX10_now_89 (ok ?_))
    dsimp only [o_now]
    rw [if_neg c, if_neg c1, if_neg c2, if_neg c3, if_pos c4]
  · refine mm_Call.eq (s_trianglesM true mz oz hw) (by decide) (bX10_now_95 (ok ?_))
    dsimp only [o_now]
    rw [if_neg c, if_neg c1, if_neg c2, if_neg c3, if_neg c4, if_pos c5]
  · refine mm_Call.eq (s_clawsM mz oz hw) (by decide) (bX10_now_100 (ok ?_))
    dsimp only [o_now]
    rw [if_neg c, if_neg c1, if_neg c2, if_neg c3, if_neg c4, if_neg c5, if_pos c6]
  · dsimp only [o_now]
    rw [if_neg c, if_neg c1, if_neg c2, if_neg c3, if_neg c4, if_neg c5, if_neg c6, if_pos c7]
  · dsimp only [o_now]
    rw [if_neg c, if_neg c1, if_neg c2, if_neg c3, if_neg c4, if_neg c5, if_neg c6, if_neg c7, if_pos c8]
  · dsimp only [o_now]
    rw [if_neg c, if_neg c1, if_neg c2, if_neg c3, if_neg c4, if_neg c5, if_neg c6, if_neg c7, if_neg c8]
/-! triangles -/
noncomputable def o_odd : g_st → Int32 → Int32 → Int32 → Int32 × g_st
  | (n, T, L, K, t, f, fk), x, y, z => (pif (∃ a b c, (a < n ∧ b < n ∧ c < n) ∧ (x = nI a ∧ y = nI b ∧ z = nI c) ∧ (T a).testBit b = true ∧ (T a).testBit c = true ∧ (T b).testBit c = true) (ks_b (g_odd T (2 ^ n - 1) x.toNatClampNeg y.toNatClampNeg z.toNatClampNeg)) (-1), (n, T, L, K, t, f, fk))
theorem ks_has_0 (x : Int32) : qX9_has 0 x = 0 := by
  by_cases h : 0 ≤ x.toInt ∧ x.toInt < 14
  · have h0 : ¬ x < 0 := by
      rw [Int32.lt_iff_toInt_lt]
      have e2 : (0 : Int32).toInt = 0 := by decide
      omega
    obtain ⟨j, hj, rfl⟩ := nI_of h0
    rw [nI_toInt hj] at h
    rw [show (0 : Int32) = nI 0 from rfl, ks_has (by decide) (by omega)]
    rw [Nat.zero_testBit, ks_bf (by decide)]
    rfl
  · exact ks_has_big h
theorem q_tied {n : Nat} {T : Nat → Nat} (hw : gw n T) (x y : Int32) : ¬ qX9_has (qX9_at x 14 (gt_f T)) y = 0 ↔ ∃ a b, a < n ∧ b < n ∧ x = nI a ∧ y = nI b ∧ (T a).testBit b = true := by
  have hn := hw.1
  constructor
  · intro h
    rcases pk_ix x (n := 14) (by decide) with q | q | ⟨a, ha, rfl⟩
    · rw [show qX9_at x 14 (gt_f T) = 0 from by unfold qX9_at; rw [if_pos q]] at h
      exact absurd (ks_has_0 y) h
    · have z : qX9_at x 14 (gt_f T) = 0 := by
        unfold qX9_at
        by_cases q0 : x < 0
        · rw [if_pos q0]
        · rw [if_neg q0, if_pos (show Int32.ofNat 14 ≤ x from q)]
      rw [z] at h
      exact absurd (ks_has_0 y) h
    · rw [ks_at (by decide) (by omega)] at h
      have ta := gw_ok hw a
      by_cases hy : 0 ≤ y.toInt ∧ y.toInt < 14
      · have h0 : ¬ y < 0 := by
          rw [Int32.lt_iff_toInt_lt]
          have e2 : (0 : Int32).toInt = 0 := by decide
          omega
        obtain ⟨b, hb, rfl⟩ := nI_of h0
        rw [nI_toInt hb] at hy
        rw [ks_has (by omega) (by omega), ks_b0, Classical.not_not] at h
        have hb2 := ks_bit_lt (hw.2.1 a) h
        refine ⟨a, b, ?_, hb2, rfl, rfl, h⟩
        rcases Nat.lt_or_ge a n with e | e
        · exact e
        · rw [hw.2.2.1 a e, Nat.zero_testBit] at h
          cases h
      · exact absurd (ks_has_big hy) h
  · rintro ⟨a, b, ha, hb, rfl, rfl, h⟩
    have ta := gw_ok hw a
    rw [ks_at (by decide) (by omega), ks_has (by omega) (by omega), ks_b0]
    exact fun q => q h
theorem q_isOddC {n a b c : Nat} {T : Nat → Nat} (hw : gw n T) (ha : a < n) (hb : b < n) (hc : c < n) : qX3_isOdd (nI a) (nI b) (nI c) 14 (gt_f T) = ks_b (g_odd T (2 ^ n - 1) a b c) := by
  have hn := hw.1
  unfold qX3_isOdd
  rw [ks_at (by decide) (by omega), ks_at (by decide) (by omega), ks_at (by decide) (by omega), nx_xor, nx_xor]
  have lX : (T a ^^^ T b) ^^^ T c < 2 ^ n := ks_xor_lt (ks_xor_lt (hw.2.1 a) (hw.2.1 b)) (hw.2.1 c)
  have lX' := ks_p14 hn lX
  by_cases h : (T a ^^^ T b) ^^^ T c = 0
  · rw [if_pos (by rw [h]; rfl), ks_bf]
    rintro ⟨x, -, h2⟩
    rw [← Nat.testBit_xor, ← Nat.testBit_xor, h, Nat.zero_testBit] at h2
    cases h2
  · rw [if_neg (by rw [ks_eq0 (by omega)]; exact h), ks_bt]
    obtain ⟨x, hx⟩ := ks_ne0.mp h
    refine ⟨x, by rw [Nat.testBit_two_pow_sub_one, decide_eq_true (ks_bit_lt lX hx)], ?_⟩
    rwa [Nat.testBit_xor, Nat.testBit_xor] at hx
theorem oC_odd {M : mm_Mem} {σ : g_st} {x y z : Int32} (h : CS M σ) : OC 2 mX9_odd [.int x, .int y, .int z] M (o_odd σ x y z) := by
  obtain ⟨n, T, L, K, t, f, fk⟩ := σ
  obtain ⟨⟨pf, sd, h1, h2⟩, h3, h4, h5, h6, h7, h8, h9, h10, h11⟩ := id h
  have hn := h4.1
  have no : (¬ ∃ a b c, (a < n ∧ b < n ∧ c < n) ∧ (x = nI a ∧ y = nI b ∧ z = nI c) ∧ (T a).testBit b = true ∧ (T a).testBit c = true ∧ (T b).testBit c = true) → some (Value.int (-1)) = some (.int (o_odd (n, T, L, K, t, f, fk) x y z).1) ∧ CS M (o_odd (n, T, L, K, t, f, fk) x y z).2 ∧ fC M M := by
    intro q
    dsimp only [o_odd]
    rw [pif_f q]
    exact ⟨rfl, h, fun _ _ => rfl⟩
  have inj : ∀ {a b : Nat}, a < n → b < n → nI a = nI b → a = b := fun ha hb e => (ks_eqI (by omega) (by omega)).mp e
  have good : ∀ {P : Prop}, ¬ qX9_has (qX9_at x 14 (gt_f T)) y = 0 → ¬ qX9_has (qX9_at x 14 (gt_f T)) z = 0 → ¬ qX9_has (qX9_at y 14 (gt_f T)) z = 0 → (∀ a b c, a < n → b < n → c < n → x = nI a → y = nI b → z = nI c → (T a).testBit b = true → (T a).testBit c = true → (T b).testBit c = true → P) → P := by
    intro P c1 c2 c3 k
    obtain ⟨a, b, q1, q2, q3, q4, q5⟩ := (q_tied h4 x y).mp c1
    obtain ⟨a', c, r1, r2, r3, r4, r5⟩ := (q_tied h4 x z).mp c2
    obtain ⟨b', c', s1, s2, s3, s4, s5⟩ := (q_tied h4 y z).mp c3
    obtain rfl := inj q1 r1 (q3.symm.trans r3)
    obtain rfl := inj q2 s1 (q4.symm.trans s3)
    obtain rfl := inj r2 s2 (r4.symm.trans s4)
    exact k a b c q1 q2 r2 q3 q4 r4 q5 r5 s5
  refine mm_S.of rfl rfl (Nat.le_of_ble_eq_true rfl) ndC (bX9_odd_0 h3.1 h3.2 (h1.r 0 1 (by decide)) (by decide) (fun c => no ?_) (fun _ c => no ?_) (fun c c1 c2 c3 => good c c1 c2 fun a b c' ha hb hc e1 e2 e3 t1 t2 t3 => ?_) (fun c c1 c2 c3 => good c c1 c2 fun a b c' ha hb hc e1 e2 e3 t1 t2 t3 => ?_) (fun _ _ c => no ?_))
  · rintro ⟨a, b, e, ⟨q1, q2, q3⟩, ⟨r1, r2, r3⟩, s1, s2, s3⟩
    exact (q_tied h4 x y).mpr ⟨a, b, q1, q2, r1, r2, s1⟩ c
  · rintro ⟨a, b, e, ⟨q1, q2, q3⟩, ⟨r1, r2, r3⟩, s1, s2, s3⟩
    exact (q_tied h4 x z).mpr ⟨a, e, q1, q3, r1, r3, s2⟩ c
  · subst e1 e2 e3
    rw [q_isOddC h4 ha hb hc] at c3
    dsimp only [o_odd]
    rw [pif_t ⟨a, b, c', ⟨ha, hb, hc⟩, ⟨rfl, rfl, rfl⟩, t1, t2, t3⟩, nI_clamp (by omega), nI_clamp (by omega), nI_clamp (by omega), c3]
    exact ⟨rfl, h, fun _ _ => rfl⟩
  · subst e1 e2 e3
    rw [q_isOddC h4 ha hb hc, ks_b0, Classical.not_not] at c3
    dsimp only [o_odd]
    rw [pif_t ⟨a, b, c', ⟨ha, hb, hc⟩, ⟨rfl, rfl, rfl⟩, t1, t2, t3⟩, nI_clamp (by omega), nI_clamp (by omega), nI_clamp (by omega), ks_bt c3]
    exact ⟨rfl, h, fun _ _ => rfl⟩
  · rintro ⟨a, b, e, ⟨q1, q2, q3⟩, ⟨r1, r2, r3⟩, s1, s2, s3⟩
    exact (q_tied h4 y z).mpr ⟨b, e, q2, q3, r2, r3, s3⟩ c
theorem s_areThree {M : mm_Mem} {F : Nat → Int32} {w : Int64} {n : Nat} {T : Nat → Nat} {x y z : Int32} (h : mo M F w) (o : ra M 33 n T) (hw : gw n T) : mm_S 3 mX10_areThree 0 0 [.ref 31, .int x, .int y, .int z] M (mm_Eq (some (.int (ks_b (∃ a b c, (a < n ∧ b < n ∧ c < n) ∧ (x = nI a ∧ y = nI b ∧ z = nI c) ∧ (T a).testBit b = true ∧ (T a).testBit c = true ∧ (T b).testBit c = true)))) M) := by
  have hn := hw.1
  have inj : ∀ {a b : Nat}, a < n → b < n → nI a = nI b → a = b := fun ha hb e => (ks_eqI (by omega) (by omega)).mp e
  have no : ∀ {P : Prop}, ¬ P → mm_X mX10_areThree 3 none (0, 0) 41 [.null, .null, .null, .null] [] M (mm_Eq (some (.int (ks_b P))) M) := fun q => bX10_areThree_41 (bX10_areThree_42 rfl ⟨by rw [ks_bf q], rfl⟩)
  have pt : ∀ {v : Int32}, ¬ qX10_isIn v 0 (gk_f n T (Int32.toNatClampNeg 0) - 1) = 0 → ∃ a, a < n ∧ v = nI a := by
    intro v c
    rwa [gk_0, q_isIn hn, ks_b0, Classical.not_not] at c
  have np : ∀ {v : Int32}, qX10_isIn v 0 (gk_f n T (Int32.toNatClampNeg 0) - 1) = 0 → ¬ ∃ a, a < n ∧ v = nI a := by
    intro v c
    rwa [gk_0, q_isIn hn, ks_b0] at c
  have in1 : ∀ {v : Int32}, ¬ qX10_isIn v 0 (gk_f n T (Int32.toNatClampNeg 0) - 1) = 0 → vp_in (1 + v) 15 := by
    intro v c
    obtain ⟨a, ha, rfl⟩ := pt c
    exact gk_in1 (by omega)
  refine mm_S.of rfl rfl (Nat.le_of_ble_eq_true rfl) mm_ndi (bX10_areThree_0 o (h.r 10 33 (by decide)) (by decide) gk_in0 (fun c => no ?_) (fun _ => gk_in0) (fun _ c => no ?_) (fun _ _ => gk_in0) (fun _ _ c => no ?_) (fun c _ _ => in1 c) (fun c _ _ _ => in1 c) (fun _ c _ _ _ => in1 c) (fun c c1 c2 c3 => no ?_) (fun c c1 c2 c3 => ?_))
  · rintro ⟨a, b, e, ⟨q1, q2, q3⟩, ⟨r1, r2, r3⟩, -⟩
    exact np c ⟨a, q1, r1⟩
  · rintro ⟨a, b, e, ⟨q1, q2, q3⟩, ⟨r1, r2, r3⟩, -⟩
    exact np c ⟨b, q2, r2⟩
  · rintro ⟨a, b, e, ⟨q1, q2, q3⟩, ⟨r1, r2, r3⟩, -⟩
    exact np c ⟨e, q3, r3⟩
  all_goals
    obtain ⟨a, ha, rfl⟩ := pt c
    obtain ⟨b, hb, rfl⟩ := pt c1
    obtain ⟨e, he, rfl⟩ := pt c2
    rw [q_tri hw ha hb he, ks_b0] at c3
  · rintro ⟨a', b', e', ⟨q1, q2, q3⟩, ⟨r1, r2, r3⟩, s⟩
    obtain rfl := inj ha q1 r1
    obtain rfl := inj hb q2 r2
    obtain rfl := inj he q3 r3
    exact c3 s
  · rw [Classical.not_not] at c3
    exact bX10_areThree_42 rfl ⟨by rw [ks_bt ⟨a, b, e, ⟨ha, hb, he⟩, ⟨rfl, rfl, rfl⟩, c3⟩], rfl⟩
theorem oM_odd {M : mm_Mem} {σ : g_st} {x y z : Int32} (h : MS M σ) : OM 4 mX10_odd [.int x, .int y, .int z] M (o_odd σ x y z) := by
  obtain ⟨n, T, L, K, t, f, fk⟩ := σ
  obtain ⟨th, h⟩ := h
  obtain ⟨F, w, m1, m2, m3, m4, m5⟩ := h.mo
  obtain ⟨o, hw⟩ := h.now
  have hn := hw.1
  have hz := h.z
  obtain ⟨oz, -⟩ := hz.now
  refine mm_S.of rfl rfl (Nat.le_of_ble_eq_true rfl) ndM (bX10_odd_0 (m1.i 0 (by decide)) (mm_Call.eq (s_areThree m1.s0 oz hw) (by decide) (bX10_odd_12 oz (hz.fdr 10 33 (by decide)) (by decide) (fun _ => gk_in0) (fun c => ?_) (fun c => ?_))))
  · rw [ks_b0, Classical.not_not] at c
    obtain ⟨a, b, e, ⟨ha, hb, he⟩, ⟨rfl, rfl, rfl⟩, t1, t2, t3⟩ := c
    rw [gk_0, ks_all n (by omega)]
    dsimp only [o_odd]
    rw [pif_t ⟨a, b, e, ⟨ha, hb, he⟩, ⟨rfl, rfl, rfl⟩, t1, t2, t3⟩, nI_clamp (by omega), nI_clamp (by omega), nI_clamp (by omega)]
    refine mm_Call.eq (s_isOddM oz hw (ks_am n) ha hb he t1 t2 t3) (by decide) (bX10_odd_34 (fun c => ?_) (fun c => ?_))
    · rw [c]
      exact ⟨rfl, ⟨_, hz⟩, fM_z⟩
    · rw [ks_b0, Classical.not_not] at c
      rw [ks_bt c]
      exact ⟨rfl, ⟨_, hz⟩, fM_z⟩
  · rw [ks_b0] at c
    dsimp only [o_odd]
    rw [pif_f c]
    exact ⟨rfl, ⟨_, hz⟩, fM_z⟩
/-! the least claw -/
noncomputable def g_the (P : Nat → Prop) : Nat := @Classical.epsilon Nat ⟨0⟩ P
theorem g_the_eq {P : Nat → Prop} {v : Nat} (h : P v) (u : ∀ a b, P a → P b → a = b) : g_the P = v := u _ _ (Classical.epsilon_spec (p := P) ⟨v, h⟩) h
noncomputable def o_claw : g_st → Int32 × g_st
  | (n, T, L, K, t, f, fk) => (nI (g_the (g_mn (g_clS n T))), (n, T, L, K, t, f, fk))
theorem oC_claw {M : mm_Mem} {σ : g_st} (h : CS M σ) : OC 4 mX9_claw [] M (o_claw σ) := by
  obtain ⟨n, T, L, K, t, f, fk⟩ := σ
  obtain ⟨⟨pf, sd, h1, h2⟩, h3, h4, -⟩ := id h
  refine mm_S.of rfl rfl (Nat.le_of_ble_eq_true rfl) ndC (bX9_claw_0 h3.1 (h1.r 0 1 (by decide)) (mm_Call.of (s_leastClaw h3 h4) (by decide) ?_))
  rintro _ _ ⟨rfl, v, rfl, hv⟩
  dsimp only [o_claw]
  rw [g_the_eq hv fun a b => g_mn_u]
  exact bX9_claw_7 ⟨rfl, h, fun _ _ => rfl⟩
theorem oM_claw {M : mm_Mem} {σ : g_st} (h : MS M σ) : OM 4 mX10_claw [] M (o_claw σ) := by
  obtain ⟨n, T, L, K, t, f, fk⟩ := σ
  obtain ⟨th, h⟩ := h
  obtain ⟨F, w, m1, m2, m3, m4, m5⟩ := h.mo
  obtain ⟨o, hw⟩ := h.now
  refine mm_S.mono (s_clawM m1 o hw) ?_
  rintro _ _ ⟨rfl, v, rfl, hv⟩
  dsimp only [o_claw]
  rw [g_the_eq hv fun a b => g_mn_u]
  exact ⟨rfl, ⟨_, h.z⟩, fM_z⟩
/-! pieces -/
noncomputable def o_piece : g_st → Int32 × g_st
  | (n, T, L, K, t, f, fk) => (nI (g_the (g_lp (g_pc n T) (2 ^ n))), (n, T, L, K, t, f, fk))
noncomputable def o_pieces : g_st → Int32 × g_st
  | (n, T, L, K, t, f, fk) => (nI (g_pcs n T), (n, T, L, K, t, f, fk))
noncomputable def o_blamed : g_st → Int32 → Int32 × g_st
  | (n, T, L, K, t, f, fk), x => (pif (∃ p, p < n ∧ x = nI p) (nI (g_blm n T x.toNatClampNeg)) (-1), (n, T, L, K, t, f, fk))
theorem s_lookP' {M : mm_Mem} {n : Nat} {T : Nat → Nat} {L : g_nets} {K : g_kept} {t : Nat} {f : Nat → Int32} {fk : Int32} (h : CS M (n, T, L, K, t, f, fk)) : mm_S 5 mX5_look 0 0 [.ref 16, .ref 1] M (fun r M' => r = none ∧ CS M' (n, T, L, K, t, f, fk) ∧ pvw M' n T ∧ fC M M') := by
  obtain ⟨⟨pf, sd, h1, h2⟩, h3, h4, h5, h6, h7, h8, h9, h10, h11⟩ := id h
  refine mm_S.mono (s_lookP h9 h3 h4) ?_
  rintro _ M' ⟨rfl, k1, k2⟩
  exact ⟨rfl, h.scr (h5.eq (k2 3 (by decide)) (k2 4 (by decide))) (h8.eq fun j _ _ => k2 j (by omega)) ⟨n, T, h4, k1⟩ (h10.eq fun j _ _ => k2 j (by omega)) fun j j1 j2 j3 j4 => k2 j (by omega), k1, fun j hj => k2 j (by omega)⟩
theorem CS.pf {M : mm_Mem} {σ : g_st} (h : CS M σ) : ∃ a b, mm_at M 16 (mm_aO 5 [.ref 17, .ref 19, .ref 20, .int a, .int b]) := by
  obtain ⟨n, T, L, K, t, f, fk⟩ := σ
  obtain ⟨-, -, -, -, -, -, -, ⟨n0, T0, -, least, fb, C, hx, -⟩, -⟩ := h
  exact ⟨_, _, hx.1⟩
theorem oC_piece {M : mm_Mem} {σ : g_st} (h : CS M σ) : OC 6 mX9_piece [] M (o_piece σ) := by
  obtain ⟨n, T, L, K, t, f, fk⟩ := σ
  obtain ⟨a, b, p⟩ := h.pf
  refine mm_S.of rfl rfl (Nat.le_of_ble_eq_true rfl) ndC (bX9_piece_0 p (h.fd 5 16 (by decide)) (h.fd 0 1 (by decide)) (mm_Call.of (s_lookP' h) (by decide) ?_))
  rintro _ M' ⟨rfl, k1, ⟨least, fb, C, hx, hl, hb⟩, k3⟩
  dsimp only [o_piece]
  rw [g_the_eq hl fun a b => g_lp_u]
  exact bX9_piece_11 hx.1 (k1.fd 5 16 (by decide)) (by decide) ⟨rfl, k1, k3⟩
theorem oC_pieces {M : mm_Mem} {σ : g_st} (h : CS M σ) : OC 6 mX9_pieces [] M (o_pieces σ) := by
  obtain ⟨n, T, L, K, t, f, fk⟩ := σ
  obtain ⟨a, b, p⟩ := h.pf
  refine mm_S.of rfl rfl (Nat.le_of_ble_eq_true rfl) ndC (bX9_pieces_0 p (h.fd 5 16 (by decide)) (h.fd 0 1 (by decide)) (mm_Call.of (s_lookP' h) (by decide) ?_))
  rintro _ M' ⟨rfl, k1, ⟨least, fb, C, hx, hl, hb⟩, k3⟩
  exact bX9_pieces_11 hx.1 (k1.fd 5 16 (by decide)) (by decide) ⟨rfl, k1, k3⟩
theorem oC_blamed {M : mm_Mem} {σ : g_st} {x : Int32} (h : CS M σ) : OC 6 mX9_blamed [.int x] M (o_blamed σ x) := by
  obtain ⟨n, T, L, K, t, f, fk⟩ := σ
  obtain ⟨⟨pf, sd, h1, h2⟩, h3, h4, -⟩ := id h
  have hn := h4.1
  obtain ⟨a, b, p⟩ := h.pf
  refine mm_S.of rfl rfl (Nat.le_of_ble_eq_true rfl) ndC (bX9_blamed_0 h3.1 p (h.fd 0 1 (by decide)) (h.fd 5 16 (by decide)) (by decide) (fun c => ?_) (fun c => ?_))
  · rw [q_holds hn, ks_b0, Classical.not_not] at c
    obtain ⟨q, hq, rfl⟩ := c
    refine mm_Call.of (s_lookP' h) (by decide) ?_
    rintro _ M' ⟨rfl, k1, ⟨least, fb, C, hx, hl, hb⟩, k3⟩
    dsimp only [o_blamed]
    rw [pif_t ⟨q, hq, rfl⟩, nI_clamp (by omega)]
    refine bX9_blamed_24 hx.1 hx.2.2.2 (k1.fd 5 16 (by decide)) (by decide) ⟨?_, k1, k3⟩
    rw [ks_at (by decide) (by omega), hb q (by omega)]
  · rw [q_holds hn, ks_b0] at c
    dsimp only [o_blamed]
    rw [pif_f c]
    exact ⟨rfl, h, fun _ _ => rfl⟩
theorem s_laysPieces' {M : mm_Mem} {n : Nat} {T : Nat → Nat} {L : g_nets} {K : g_kept} {t : Nat} {f : Nat → Int32} {fk th : Int32} (h : MT M th (n, T, L, K, t, f, fk)) : mm_S 5 mX10_laysPieces 0 0 [.ref 31] M (fun r M' => r = none ∧ MT M' th (n, T, L, K, t, f, fk) ∧ (∃ least fb, mm_fd M' 31 10 33 (.int (nI (g_pcs n T))) ∧ mm_fd M' 31 10 34 (.int (nI least)) ∧ mm_at M' 50 (mm_aI 14 fb) ∧ g_lp (g_pc n T) (2 ^ n) least ∧ ∀ p, p < 14 → fb p = nI (g_blm n T p)) ∧ fM M M') := by
  obtain ⟨F, w, m1, m2, m3, m4, m5⟩ := h.mo
  obtain ⟨o, hw⟩ := h.now
  refine mm_S.mono (s_laysPieces m1 o hw (h.sc 50 14 (by decide))) ?_
  rintro _ M' ⟨rfl, ⟨least, fb, k1, k2, k3, k4⟩, k5⟩
  have hu : ∀ k, k ≠ 33 → k ≠ 34 → mp_F F (g_pcs n T) least k = F k := fun k a b => by
    unfold mp_F
    rw [pk_un b, pk_un a]
  have := h.scr m1 k1 (hu 2 (by decide) (by decide)) (hu 7 (by decide) (by decide)) (hu 21 (by decide) (by decide)) (fun j hj => k5 j (by omega) (by omega)) (h.msc.up (fun q hq => ?_) (fun a ha => Or.inl (k5 a (by have := mk_nets_in a ha; omega) (by have := mk_nets_in a ha; omega))) (Or.inl (k5 42 (by decide) (by decide))))
  · rw [hu 0 (by decide) (by decide), m2] at this
    have f33 := k1.i 33 (by decide)
    have f34 := k1.i 34 (by decide)
    rw [show mp_F F (g_pcs n T) least 33 = nI (g_pcs n T) from by unfold mp_F; rw [pk_un (by decide), pk_us]] at f33
    rw [show mp_F F (g_pcs n T) least 34 = nI least from by unfold mp_F; rw [pk_us]] at f34
    exact ⟨rfl, this, ⟨least, fb, f33, f34, k2, k3, k4⟩, fun j hj => k5 j (by omega) (by omega)⟩
  · by_cases e : q.1 = 50
    · have : q = (50, 14) := by
        have hh : ∀ q ∈ mk_scr, q.1 = 50 → q = (50, 14) := by decide
        exact hh q hq e
      subst this
      exact Or.inr ⟨_, k2⟩
    · exact Or.inl (k5 q.1 (by have := mk_scr_in q hq; omega) e)
theorem oM_piece {M : mm_Mem} {σ : g_st} (h : MS M σ) : OM 6 mX10_piece [] M (o_piece σ) := by
  obtain ⟨n, T, L, K, t, f, fk⟩ := σ
  obtain ⟨th, h⟩ := h
  obtain ⟨F, w, m1, m2, m3, m4, m5⟩ := h.mo
  refine mm_S.of rfl rfl (Nat.le_of_ble_eq_true rfl) ndM (bX10_piece_0 (m1.i 0 (by decide)) (mm_Call.of (s_laysPieces' h.z) (by decide) ?_))
  rintro _ M' ⟨rfl, k1, ⟨least, fb, f33, f34, k2, k3, k4⟩, k5⟩
  dsimp only [o_piece]
  rw [g_the_eq k3 fun a b => g_lp_u]
  exact bX10_piece_9 f34 ⟨rfl, ⟨_, k1⟩, fun j hj => (k5 j hj).trans (mm_upF_n (by omega))⟩
theorem oM_pieces {M : mm_Mem} {σ : g_st} (h : MS M σ) : OM 6 mX10_pieces [] M (o_pieces σ) := by
  obtain ⟨n, T, L, K, t, f, fk⟩ := σ
  obtain ⟨th, h⟩ := h
  obtain ⟨F, w, m1, m2, m3, m4, m5⟩ := h.mo
  refine mm_S.of rfl rfl (Nat.le_of_ble_eq_true rfl) ndM (bX10_pieces_0 (m1.i 0 (by decide)) (mm_Call.of (s_laysPieces' h.z) (by decide) ?_))
  rintro _ M' ⟨rfl, k1, ⟨least, fb, f33, f34, k2, k3, k4⟩, k5⟩
  exact bX10_pieces_9 f33 ⟨rfl, ⟨_, k1⟩, fun j hj => (k5 j hj).trans (mm_upF_n (by omega))⟩
theorem oM_blamed {M : mm_Mem} {σ : g_st} {x : Int32} (h : MS M σ) : OM 6 mX10_blamed [.int x] M (o_blamed σ x) := by
  obtain ⟨n, T, L, K, t, f, fk⟩ := σ
  obtain ⟨th, h⟩ := h
  obtain ⟨F, w, m1, m2, m3, m4, m5⟩ := h.mo
  obtain ⟨o, hw⟩ := h.now
  have hn := hw.1
  refine mm_S.of rfl rfl (Nat.le_of_ble_eq_true rfl) ndM (bX10_blamed_0 o (m1.i 0 (by decide)) (m1.r 10 33 (by decide)) (by decide) (by decide) gk_in0 (fun c => ?_) (fun c => ?_))
  · rw [gk_0, q_isIn hn, ks_b0, Classical.not_not] at c
    obtain ⟨q, hq, rfl⟩ := c
    refine mm_Call.of (s_laysPieces' h.z) (by decide) ?_
    rintro _ M' ⟨rfl, k1, ⟨least, fb, f33, f34, k2, k3, k4⟩, k5⟩
    dsimp only [o_blamed]
    rw [pif_t ⟨q, hq, rfl⟩, nI_clamp (by omega)]
    refine bX10_blamed_27 k2 (k1.fdr 32 50 (by decide)) (vp_in_nI (by omega) (by decide)) ⟨?_, ⟨_, k1⟩, fun j hj => (k5 j hj).trans (mm_upF_n (by omega))⟩
    rw [nI_clamp (by omega), k4 q (by omega)]
  · rw [gk_0, q_isIn hn, ks_b0] at c
    dsimp only [o_blamed]
    rw [pif_f c]
    exact ⟨rfl, ⟨_, h.z⟩, fM_z⟩
