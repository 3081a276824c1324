/-! PARTS: points that lines join -/
def gcs (T : Nat → Nat) (C : Nat) : Prop := ∀ q r, C.testBit q = true → (T q).testBit r = true → C.testBit r = true
def gr (T : Nat → Nat) (p i : Nat) : Prop := ∀ D : Nat, D.testBit p = true → gcs T D → D.testBit i = true
theorem gr_t {T : Nat → Nat} {p q i : Nat} (h : gr T q p) (h' : gr T p i) : gr T q i := fun D h1 h2 => h' D (h D h1 h2) h2
theorem gs_lt {f g : Nat → Nat} : ∀ {n : Nat}, (∀ i, i < n → f i ≤ g i) → ∀ {k : Nat}, k < n → f k < g k → gs f n < gs g n
  | 0, _, k, h, _ => absurd h (Nat.not_lt_zero k)
  | n + 1, h, k, hk, hl => by
    show gs f n + f n < gs g n + g n
    have h1 := h n (by omega)
    rcases Nat.lt_or_ge k n with q | q
    · have := gs_lt (n := n) (fun i hi => h i (by omega)) q hl
      omega
    · obtain rfl : k = n := by omega
      have : gs f k ≤ gs g k := by
        have aux : ∀ m, m ≤ k → gs f m ≤ gs g m := by
          intro m
          induction m with
          | zero => intro _; exact Nat.le_refl _
          | succ m ih =>
            intro hm
            have := ih (by omega)
            have := h m (by omega)
            show gs f m + f m ≤ gs g m + g m
            omega
        exact aux k (Nat.le_refl k)
      omega
def ks_sub (A B : Nat) : Prop := ∀ i, A.testBit i = true → B.testBit i = true
theorem ks_sub_eq {A B : Nat} (h : ks_sub A B) (h' : ks_sub B A) : A = B := ks_ext fun i => by
  rw [Bool.eq_iff_iff]
  exact ⟨h i, h' i⟩
theorem ks_pop_s {A B n : Nat} (hn : n ≤ 14) (hA : A < 2 ^ n) (hB : B < 2 ^ n) (h : ks_sub A B) (hne : A ≠ B) : ks_pop A < ks_pop B := by
  rw [ks_popn hn hA, ks_popn hn hB]
  have : ∃ i, B.testBit i = true ∧ ¬ A.testBit i = true := by
    apply Classical.byContradiction
    intro q
    apply hne
    refine ks_sub_eq h fun i hi => ?_
    apply Classical.byContradiction
    intro q2
    exact q ⟨i, hi, q2⟩
  obtain ⟨i, h1, h2⟩ := this
  refine gs_lt (fun j _ => ?_) (ks_bit_lt hB h1) ?_
  · by_cases c : A.testBit j = true
    · rw [g1_t c, g1_t (h j c)]
      exact Nat.le_refl _
    · rw [g1_f c]
      exact Nat.zero_le _
  · rw [g1_f h2, g1_t h1]
    decide
theorem ks_pop_n {A n : Nat} (hn : n ≤ 14) (hA : A < 2 ^ n) : ks_pop A ≤ n := by
  rw [ks_popn hn hA]
  have := gs_le (f := fun i => g1 (A.testBit i = true)) (c := 1) (n := n) fun i _ => g1_le _
  omega
theorem s_reach {M : mm_Mem} {k n p : Nat} {T : Nat → Nat} (o : na M k n T) (hw : gw n T) (hp : p < n) : mm_S 1 mX3_reach 0 0 [.ref k, .int (nI p)] M (fun r M' => M' = M ∧ ∃ C, r = some (.int (nI C)) ∧ C < 2 ^ n ∧ ∀ i, C.testBit i = true ↔ gr T p i) := by
  have hn := hw.1
  refine mm_S.of rfl rfl (Nat.le_of_ble_eq_true rfl) (fun r M' h x e => by obtain ⟨-, v, h, -⟩ := h; rw [h] at e; cases e) (bX3_reach_0 ?_)
  rw [ks_shl1 _ (by omega)]
  refine fld (s := 0) (G := fun j R => mm_X mX3_reach 1 none (0, 0) 6 [.ref k, .null, .int (nI R), .int (nI j), .null] [] M _) (I := fun j R => R < 2 ^ n ∧ R.testBit p = true ∧ (∀ i, R.testBit i = true → gr T p i) ∧ (gcs T R ∨ j + 1 ≤ ks_pop R)) (Nat.zero_le n) ⟨ks_p2_lt hp, by rw [ks_p2, decide_eq_true rfl], fun i hi => ?_, Or.inr ?_⟩ ?_
  · rw [ks_p2, decide_eq_true_eq] at hi
    subst hi
    exact fun D h _ => h
  · rw [ks_popn hn (ks_p2_lt hp)]
    refine Nat.le_trans (Nat.le_of_eq ?_) (Nat.le_of_eq (gs_eq (g := fun i => g1 (p = i)) fun i _ => g1_c (by rw [ks_p2, decide_eq_true_eq])).symm)
    rw [gs_one, g1_t hp]
  rintro j R _ hj ⟨h1, h2, h3, h4⟩ ih
  refine bX3_reach_6 o.1 (fun c => ⟨rfl, R, rfl, h1, fun i => ⟨h3 i, fun q => ?_⟩⟩) (fun c => ?_)
  · simp (disch := omega) only [ks_le, ks_ltI, ks_eqI, ks_eq0, ks_le14, ks_has, ks_mhas, ks_at, ks_b0, gk_0, gk_1, ks_andn, nx_and, nx_or, nx_xor, ks_shl1, ks_shl2, Classical.not_not, nI_1] at c
    obtain rfl : j = n := by omega
    rcases h4 with h4 | h4
    · exact q R h2 h4
    · have := ks_pop_n hn h1
      omega
  simp (disch := omega) only [ks_le, ks_ltI, ks_eqI, ks_eq0, ks_le14, ks_has, ks_mhas, ks_at, ks_b0, gk_0, gk_1, ks_andn, nx_and, nx_or, nx_xor, ks_shl1, ks_shl2, Classical.not_not, nI_1] at c
  refine fld (s := 0) (G := fun q D => mm_X mX3_reach 1 none (0, 0) 17 [.ref k, .null, .int (nI D), .int (nI j), .int (nI q)] [] M _) (I := fun q D => D < 2 ^ n ∧ ks_sub R D ∧ (∀ i, D.testBit i = true → gr T p i) ∧ (∀ q', q' < q → R.testBit q' = true → ks_sub (T q') D) ∧ (gcs T R → D = R)) (Nat.zero_le n) ⟨h1, fun i hi => hi, h3, fun q' hq => absurd hq (Nat.not_lt_zero _), fun _ => rfl⟩ ?_
  rintro q D _ hq ⟨g1', g2, g3, g4, g5⟩ ih2
  have lD := ks_p14 hn g1'
  have tq := gw_ok hw q
  refine bX3_reach_17 o.1 o.2 (by decide) (fun c2 => ?_) (fun c2 c3 => ?_) (fun c2 c3 => ?_)
  · simp (disch := omega) only [ks_le, ks_ltI, ks_eqI, ks_eq0, ks_le14, ks_has, ks_mhas, ks_at, ks_b0, gk_0, gk_1, ks_andn, nx_and, nx_or, nx_xor, ks_shl1, ks_shl2, Classical.not_not, nI_1] at c2
    obtain rfl : q = n := by omega
    rw [nI_1]
    refine ih D (by omega) ⟨g1', g2 p h2, g3, ?_⟩
    by_cases e : R = D
    · left
      rw [← e]
      intro a b ha hb
      have := g4 a (ks_bit_lt h1 ha) ha b hb
      rwa [← e] at this
    · rcases h4 with h4 | h4
      · exact absurd (g5 h4).symm e
      · have := ks_pop_s hn h1 g1' g2 e
        right
        omega
  · simp (disch := omega) only [ks_le, ks_ltI, ks_eqI, ks_eq0, ks_le14, ks_has, ks_mhas, ks_at, ks_b0, gk_0, gk_1, ks_andn, nx_and, nx_or, nx_xor, ks_shl1, ks_shl2, Classical.not_not, nI_1] at c2
    rw [ks_has (by omega) (by omega), ks_b0] at c3
    rw [nI_1]
    refine ih2 D (by omega) ⟨g1', g2, g3, fun q' hq' hb => ?_, g5⟩
    rcases Nat.lt_or_ge q' q with e | e
    · exact g4 q' e hb
    · obtain rfl : q' = q := by omega
      exact absurd (g2 q' hb) c3
  · simp (disch := omega) only [ks_le, ks_ltI, ks_eqI, ks_eq0, ks_le14, ks_has, ks_mhas, ks_at, ks_b0, gk_0, gk_1, ks_andn, nx_and, nx_or, nx_xor, ks_shl1, ks_shl2, Classical.not_not, nI_1] at c2
    rw [ks_has (by omega) (by omega), ks_b0, Classical.not_not] at c3
    rw [ks_at (by decide) (by omega), nx_or, nI_1]
    have sub : ks_sub D (D ||| T q) := fun i hi => by rw [Nat.testBit_or, hi]; rfl
    refine ih2 _ (by omega) ⟨ks_or_lt g1' (hw.2.1 q), fun i hi => sub i (g2 i hi), fun i hi => ?_, fun q' hq' hb => ?_, fun hc => ?_⟩
    · rw [Nat.testBit_or, Bool.or_eq_true] at hi
      rcases hi with hi | hi
      · exact g3 i hi
      · exact fun E e1 e2 => e2 q i (g3 q c3 E e1 e2) hi
    · rcases Nat.lt_or_ge q' q with e | e
      · exact fun i hi => sub i (g4 q' e hb i hi)
      · obtain rfl : q' = q := by omega
        exact fun i hi => by rw [Nat.testBit_or, hi, Bool.or_true]
    · have := g5 hc
      subst this
      refine ks_sub_eq (fun i hi => ?_) sub
      rw [Nat.testBit_or, Bool.or_eq_true] at hi
      rcases hi with hi | hi
      · exact hi
      · exact hc q i c3 hi
/-- a point that no lesser one reaches -/
def g_top (T : Nat → Nat) (p : Nat) : Prop := ∀ q, q < p → ¬ gr T q p
noncomputable def g_parts (n : Nat) (T : Nat → Nat) : Nat := gs (fun p => g1 (g_top T p)) n
def g_left (n : Nat) (T : Nat → Nat) (p L : Nat) : Prop := L < 2 ^ n ∧ ∀ i, L.testBit i = true ↔ (i < n ∧ ∀ q, q < p → ¬ gr T q i)
theorem g_left_0 {n : Nat} {T : Nat → Nat} : g_left n T 0 (2 ^ n - 1) := ⟨ks_am n, fun i => by
  rw [Nat.testBit_two_pow_sub_one, decide_eq_true_eq]
  exact ⟨fun h => ⟨h, fun q hq => absurd hq (Nat.not_lt_zero q)⟩, fun h => h.1⟩⟩
theorem g_left_t {n p L : Nat} {T : Nat → Nat} (h : g_left n T p L) (hp : p < n) : L.testBit p = true ↔ g_top T p := by
  rw [h.2 p]
  exact ⟨fun q => q.2, fun q => ⟨hp, q⟩⟩
theorem g_left_s {n p L C : Nat} {T : Nat → Nat} (hn : n ≤ 14) (h : g_left n T p L) (hC : ∀ i, C.testBit i = true ↔ gr T p i) : g_left n T (p + 1) (ks_nd L C) := by
  have l := ks_p14 hn h.1
  refine ⟨ks_nd_lt h.1, fun i => ?_⟩
  rw [ks_nd_bit (by omega), Bool.and_eq_true, h.2 i, Bool.not_eq_true', ← Bool.not_eq_true, hC]
  constructor
  · rintro ⟨⟨h1, h2⟩, h3⟩
    refine ⟨h1, fun q hq => ?_⟩
    rcases Nat.lt_or_ge q p with e | e
    · exact h2 q e
    · obtain rfl : q = p := by omega
      exact h3
  · rintro ⟨h1, h2⟩
    exact ⟨⟨h1, fun q hq => h2 q (by omega)⟩, h2 p (by omega)⟩
theorem g_left_n {n p L : Nat} {T : Nat → Nat} (hp : p < n) (h : g_left n T p L) (hb : ¬ L.testBit p = true) : g_left n T (p + 1) L := by
  refine ⟨h.1, fun i => ?_⟩
  rw [h.2 i]
  constructor
  · rintro ⟨h1, h2⟩
    refine ⟨h1, fun q hq hg => ?_⟩
    rcases Nat.lt_or_ge q p with e | e
    · exact h2 q e hg
    · obtain rfl : q = p := by omega
      rw [h.2 q] at hb
      apply hb
      refine ⟨hp, fun q' hq' hg' => ?_⟩
      exact h2 q' hq' (gr_t hg' hg)
  · rintro ⟨h1, h2⟩
    exact ⟨h1, fun q hq => h2 q (by omega)⟩
theorem s_parts {M : mm_Mem} {k n : Nat} {T : Nat → Nat} (o : na M k n T) (hw : gw n T) : mm_S 2 mX3_parts 0 0 [.ref k] M (mm_Eq (some (.int (nI (g_parts n T)))) M) := by
  have hn := hw.1
  refine mm_S.of rfl rfl (Nat.le_of_ble_eq_true rfl) mm_ndi (bX3_parts_0 o.1 (by decide) ?_)
  rw [ks_all n (by omega)]
  refine fld (s := 0) (G := fun j (q : Nat × Nat) => mm_X mX3_parts 2 none (0, 0) 9 [.ref k, .int (nI q.1), .int (nI q.2), .int (nI j)] [] M (mm_Eq (some (.int (nI (g_parts n T)))) M)) (v0 := (2 ^ n - 1, 0)) (I := fun j q => g_left n T j q.1 ∧ q.2 = gs (fun p => g1 (g_top T p)) j) (Nat.zero_le n) ⟨g_left_0, rfl⟩ ?_
  rintro p ⟨L, v⟩ _ hp ⟨hL, hv⟩ ih
  dsimp only at hL hv
  have lL := ks_p14 hn hL.1
  refine bX3_parts_9 o.1 (by decide) (fun c => ⟨?_, rfl⟩) (fun c c1 => ?_) (fun c c1 => ?_)
  · simp (disch := omega) only [ks_le, ks_ltI, ks_eqI, ks_eq0, ks_le14, ks_has, ks_mhas, ks_at, ks_b0, gk_0, gk_1, ks_andn, nx_and, nx_or, nx_xor, ks_shl1, ks_shl2, Classical.not_not, nI_1] at c
    obtain rfl : p = n := by omega
    rw [hv]
    rfl
  · simp (disch := omega) only [ks_le, ks_ltI, ks_eqI, ks_eq0, ks_le14, ks_has, ks_mhas, ks_at, ks_b0, gk_0, gk_1, ks_andn, nx_and, nx_or, nx_xor, ks_shl1, ks_shl2, Classical.not_not, nI_1] at c
    rw [ks_has (by omega) (by omega), ks_b0] at c1
    rw [nI_1]
    refine ih (L, v) (by omega) ⟨g_left_n (by omega) hL c1, ?_⟩
    show v = _ + g1 (g_top T p)
    rw [g1_f (fun h => c1 ((g_left_t hL (by omega)).mpr h)), hv]
    rfl
  · simp (disch := omega) only [ks_le, ks_ltI, ks_eqI, ks_eq0, ks_le14, ks_has, ks_mhas, ks_at, ks_b0, gk_0, gk_1, ks_andn, nx_and, nx_or, nx_xor, ks_shl1, ks_shl2, Classical.not_not, nI_1] at c
    rw [ks_has (by omega) (by omega), ks_b0, Classical.not_not] at c1
    refine mm_Call.of (s_reach o hw (show p < n by omega)) (by decide) ?_
    rintro _ _ ⟨rfl, C, rfl, hC, hb⟩
    refine bX3_parts_31 ?_
    rw [ks_andn, nI_1, nI_1]
    refine ih (_, v + 1) (by omega) ⟨g_left_s hn hL hb, ?_⟩
    show v + 1 = _ + g1 (g_top T p)
    rw [g1_t ((g_left_t hL (by omega)).mp c1), hv]
/-- the model's: one part after the other -/
theorem s_partsM {M : mm_Mem} {a n : Nat} {T : Nat → Nat} (o : ra M a n T) (hw : gw n T) : mm_S 2 mX10_parts 0 0 [.ref a] M (mm_Eq (some (.int (nI (g_parts n T)))) M) := by
  have hn := hw.1
  refine mm_S.of rfl rfl (Nat.le_of_ble_eq_true rfl) mm_ndi (bX10_parts_0 o (by decide) gk_in0 ?_)
  rw [gk_0, ks_all n (by omega)]
  have H : ∀ m p L v, n - p ≤ m → p ≤ n → g_left n T p L → v = gs (fun p => g1 (g_top T p)) p → mm_X mX10_parts 2 none (0, 0) 7 [.ref a, .int (nI L), .int (nI v), .null, .null, .null] [] M (mm_Eq (some (.int (nI (g_parts n T)))) M) := by
    intro m
    induction m with
    | zero =>
      intro p L v hm hp hL hv
      obtain rfl : p = n := by omega
      have z : L = 0 := by
        rw [ks_zero]
        intro i
        cases e : L.testBit i with
        | false => rfl
        | true =>
          have q := (hL.2 i).mp e
          exact absurd (fun D h _ => h) (q.2 i q.1)
      subst z
      refine bX10_parts_7 (fun _ => ⟨?_, rfl⟩) (fun c => absurd rfl c)
      rw [hv]
      rfl
    | succ m ih =>
      intro p L v hm hp hL hv
      have lL := ks_p14 hn hL.1
      have skip : ∀ b, p ≤ b → b ≤ n → (∀ i, p ≤ i → i < b → ¬ L.testBit i = true) → g_left n T b L ∧ v = gs (fun p => g1 (g_top T p)) b := by
        intro b
        induction b with
        | zero =>
          intro h1 _ _
          obtain rfl : p = 0 := by omega
          exact ⟨hL, hv⟩
        | succ b ihb =>
          intro h1 h2 h3
          rcases Nat.lt_or_ge b p with e | e
          · obtain rfl : p = b + 1 := by omega
            exact ⟨hL, hv⟩
          · obtain ⟨k1, k2⟩ := ihb e (by omega) (fun i q1 q2 => h3 i q1 (by omega))
            have nb := h3 b e (Nat.lt_succ_self b)
            refine ⟨g_left_n (by omega) k1 nb, ?_⟩
            show v = _ + g1 (g_top T b)
            rw [g1_f (fun h => nb ((g_left_t k1 (by omega)).mpr h)), k2]
            rfl
      refine bX10_parts_7 (fun c => ⟨?_, rfl⟩) (fun c => ?_)
      · rw [ks_eq0 (by omega)] at c
        subst c
        obtain ⟨-, k2⟩ := skip n hp (Nat.le_refl n) (fun i _ _ => by rw [Nat.zero_testBit]; decide)
        rw [k2]
        rfl
      · rw [ks_eq0 (by omega)] at c
        obtain ⟨b, hb⟩ := ks_fst_ex c
        have bn := ks_bit_lt hL.1 hb.1
        have pb : p ≤ b := by
          rcases Nat.lt_or_ge b p with e | e
          · exact absurd (fun D h _ => h) (((hL.2 b).mp hb.1).2 b e)
          · exact e
        obtain ⟨k1, k2⟩ := skip b pb (by omega) (fun i _ q => by rw [hb.2 i q]; decide)
        refine mm_Call.eq (s_least lL hb) (by decide) (bX10_parts_16 ?_)
        rw [show (1 : Int32) = nI 1 from rfl, show mm_shl (nI 1) (nI b) = nI (2 ^ b) from ks_shl1 b (by omega)]
        have H2 : ∀ x S W, 15 - ks_pop W ≤ x → S < 2 ^ n → W < 2 ^ n → S.testBit b = true → ks_sub W S → (∀ q, W.testBit q = true → ks_sub (T q) S) → (∀ i, S.testBit i = true → gr T b i) → mm_X mX10_parts 2 none (0, 0) 21 [.ref a, .int (nI L), .int (nI v), .int (nI S), .int (nI W), .null] [] M (mm_Eq (some (.int (nI (g_parts n T)))) M) := by
          intro x
          induction x with
          | zero =>
            intro S W h1
            have := ks_pop_le W
            omega
          | succ x ihx =>
            intro S W h1 hS hW hb1 h2 h3 h4
            have lS := ks_p14 hn hS
            have lW := ks_p14 hn hW
            refine bX10_parts_21 (fun c2 => ?_) (fun c2 => ?_)
            · rw [ks_eqI (by omega) (by omega)] at c2
              subst c2
              rw [ks_andn, nI_1]
              refine ih (b + 1) _ _ (by omega) (by omega) (g_left_s hn k1 fun i => ⟨h4 i, fun q => q S hb1 (fun a' b' e1 e2 => h3 a' e1 b' e2)⟩) ?_
              show v + 1 = _ + g1 (g_top T b)
              rw [g1_t ((g_left_t k1 bn).mp hb.1), k2]
            · rw [ks_eqI (by omega) (by omega)] at c2
              have pp := ks_pop_s hn hW hS h2 (fun e => c2 e.symm)
              refine fld (s := 0) (G := fun q D => mm_X mX10_parts 2 none (0, 0) 33 [.ref a, .int (nI L), .int (nI v), .int (nI D), .int (nI S), .int (nI q)] [] M _) (I := fun q D => D < 2 ^ n ∧ ks_sub S D ∧ (∀ i, D.testBit i = true → gr T b i) ∧ (∀ q', q' < q → S.testBit q' = true → ks_sub (T q') D)) (Nat.zero_le n) ⟨hS, fun i hi => hi, h4, fun q' hq => absurd hq (Nat.not_lt_zero _)⟩ ?_
              rintro q D _ hq ⟨g1', g2, g3, g4⟩ ih2
              have lD := ks_p14 hn g1'
              have tq := gw_ok hw q
              have lt : ¬ gk_f n T (Int32.toNatClampNeg 0) ≤ nI q → q < n := by
                intro c
                rw [gk_0, ks_le (by omega) (by omega)] at c
                omega
              refine bX10_parts_33 o (by decide) gk_in0 (fun c3 => ?_) (fun c3 c4 => ?_) (fun c3 _ => gk_inc hn hq c3) (fun c3 c4 => ?_)
              · rw [gk_0, ks_le (by omega) (by omega)] at c3
                obtain rfl : q = n := by omega
                exact ihx D S (by omega) g1' hS (g2 b hb1) g2 (fun q' hq' => g4 q' (ks_bit_lt hS hq') hq') g3
              · have := lt c3
                rw [ks_mhas (by omega) (by omega), ks_b0] at c4
                rw [nI_1]
                refine ih2 D this ⟨g1', g2, g3, fun q' hq' hb' => ?_⟩
                rcases Nat.lt_or_ge q' q with e | e
                · exact g4 q' e hb'
                · obtain rfl : q' = q := by omega
                  exact absurd hb' c4
              · have := lt c3
                rw [ks_mhas (by omega) (by omega), ks_b0, Classical.not_not] at c4
                rw [gk_1 (by omega), nx_or, nI_1]
                have sub : ks_sub D (D ||| T q) := fun i hi => by rw [Nat.testBit_or, hi]; rfl
                refine ih2 _ this ⟨ks_or_lt g1' (hw.2.1 q), fun i hi => sub i (g2 i hi), fun i hi => ?_, fun q' hq' hb' => ?_⟩
                · rw [Nat.testBit_or, Bool.or_eq_true] at hi
                  rcases hi with hi | hi
                  · exact g3 i hi
                  · exact fun E e1 e2 => e2 q i (g3 q (g2 q c4) E e1 e2) hi
                · rcases Nat.lt_or_ge q' q with e | e
                  · exact fun i hi => sub i (g4 q' e hb' i hi)
                  · obtain rfl : q' = q := by omega
                    exact fun i hi => by rw [Nat.testBit_or, hi, Bool.or_true]
        refine H2 15 _ 0 (by omega) (ks_p2_lt bn) (Nat.pow_pos (by decide)) (by rw [ks_p2, decide_eq_true rfl]) (fun i hi => by rw [Nat.zero_testBit] at hi; cases hi) (fun q hq => by rw [Nat.zero_testBit] at hq; cases hq) (fun i hi => ?_)
        rw [ks_p2, decide_eq_true_eq] at hi
        subst hi
        exact fun D h _ => h
  exact H n 0 _ 0 (by omega) (Nat.zero_le n) g_left_0 rfl
