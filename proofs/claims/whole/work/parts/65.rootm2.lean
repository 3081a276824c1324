/-! ROOT, ROOTLINE, BACK, DEPTH: of the model -/
noncomputable def lat (B : List Nat) (n x : Nat) : Nat := gs (fun p => g1 (re B p 0 = x ∨ re B p 1 = x)) n
theorem lh_2 {M : mm_Mem} {n : Nat} {B : List Nat} (h : lh M n B (fun _ => 2)) : ∃ f g, mm_at M 48 (mm_aI 14 f) ∧ mm_at M 49 (mm_aI 14 g) ∧ ∀ p, p < n → f p = nI (re B p 0) ∧ g p = nI (re B p 1) := by
  obtain ⟨f, g, h1, h2, h3⟩ := h
  exact ⟨f, g, h1, h2, h3⟩
theorem lat_le {B : List Nat} {n x : Nat} : lat B n x ≤ n := by
  have : lat B n x ≤ 1 * n := gs_le fun i _ => g1_le _
  omega
theorem s_linesAt {M : mm_Mem} {n x : Nat} {T : Nat → Nat} {B : List Nat} (fn : mm_fd M 31 10 10 (.ref 33)) (fl : mm_fd M 31 10 29 (.ref 48)) (fh : mm_fd M 31 10 30 (.ref 49)) (o : ra M 33 n T) (hl : lh M n B (fun _ => 2)) (h2 : two B) (hB : B.length ≤ 14) (hn : n ≤ 14) (hx : x < 2 ^ 20) : mm_S 1 mX10_linesAt 0 0 [.ref 31, .int (nI x)] M (mm_Eq (some (.int (nI (lat B n x)))) M) := by
  obtain ⟨f, g, o1, o2, hv⟩ := lh_2 hl
  refine mm_S.of rfl rfl (Nat.le_of_ble_eq_true rfl) mm_ndi (bX10_linesAt_0 ?_)
  rw [show (0 : Int32) = nI 0 from rfl]
  refine fld (s := 0) (n := n) (G := fun p v => mm_X mX10_linesAt 1 none (0, 0) 4 [.ref 31, .int (nI x), .int (nI v), .int (nI p)] [] M (mm_Eq (some (.int (nI (lat B n x)))) M)) (v0 := 0) (I := fun p v => v = lat B p x) (Nat.zero_le n) rfl ?_
  rintro p v _ hp rfl ih
  have lt : ¬ gk_f n T (Int32.toNatClampNeg 0) ≤ nI p → p < n := by
    intro c
    rw [gk_0, ks_le (by omega) (by omega)] at c
    omega
  have cp : (nI p).toNatClampNeg = p := nI_clamp (by omega)
  have key : p < n → (f p = nI x ↔ re B p 0 = x) ∧ (g p = nI x ↔ re B p 1 = x) := fun q => by
    obtain ⟨w1, w2⟩ := hv p q
    have b0 := re_b (w := 0) h2 hB hn q (by decide)
    have b1 := re_b (w := 1) h2 hB hn q (by decide)
    rw [w1, w2, ks_eqI (by omega) (by omega), ks_eqI (by omega) (by omega)]
    exact ⟨Iff.rfl, Iff.rfl⟩
  have yes : p < n → (re B p 0 = x ∨ re B p 1 = x) → mm_X mX10_linesAt 1 none (0, 0) 4 [.ref 31, .int (nI x), .int (nI (lat B p x) + 1), .int (nI p + 1)] [] M (mm_Eq (some (.int (nI (lat B n x)))) M) := fun q h => by
    rw [nI_1, nI_1]
    exact ih _ q (by show lat B p x + 1 = lat B p x + g1 (re B p 0 = x ∨ re B p 1 = x); rw [g1_t h])
  refine bX10_linesAt_4 o o1 o2 fn fl fh gk_in0 (fun c => ⟨?_, rfl⟩) (fun c => vp_in_nI (by have := lt c; omega) (by decide)) (fun c c1 => ?_) (fun c c1 => vp_in_nI (by have := lt c; omega) (by decide)) (fun c c1 c2 => ?_) (fun c c1 c2 => ?_)
  · rw [gk_0, ks_le (by omega) (by omega)] at c
    rw [show p = n from by omega]
  · rw [cp, (key (lt c)).1] at c1
    exact yes (lt c) (Or.inl c1)
  · rw [cp, (key (lt c)).1] at c1
    rw [cp, (key (lt c)).2] at c2
    rw [nI_1]
    exact ih _ (lt c) (by show lat B p x = lat B p x + g1 (re B p 0 = x ∨ re B p 1 = x); rw [g1_f (fun q => q.elim c1 c2), Nat.add_zero])
  · rw [cp, (key (lt c)).2] at c2
    exact yes (lt c) (Or.inr c2)
theorem lat_c {B : List Nat} {n x : Nat} (h2 : two B) (hn : n ≤ 14) (vB : ∀ C, C ∈ B → C < 2 ^ n) (hx : x < B.length) : lat B n x = ks_pop (B.getD x 0) := by
  have hC := ks_getD hx
  rw [ks_popn hn (vB _ (List.mem_of_getElem? hC))]
  refine gs_eq fun p hp => g1_c ?_
  obtain ⟨v0, v1, r0, r1⟩ := reg_of h2 (n := n) p hp
  have n0 := nah_0 (B := B) (p := p)
  constructor
  · rintro (q | q)
    · rw [re_eq r0] at q
      rcases r0 with ⟨-, -, w, -⟩ | ⟨-, w⟩
      · rw [← q]
        exact w
      · omega
    · rw [re_eq r1] at q
      rcases r1 with ⟨-, -, w, -⟩ | ⟨-, w⟩
      · rw [← q]
        exact w
      · omega
  · intro q
    have lt := ctk_lt (l := B.length) hx q
    have := h2 p
    have hre : re B p (ctk B p x) = x := re_eq (Or.inl ⟨lt, hx, q, rfl⟩)
    have cn : cnt B p = ctk B p B.length := rfl
    rcases Nat.lt_or_ge (ctk B p x) 1 with u | u
    · rw [show ctk B p x = 0 from by omega] at hre
      exact Or.inl hre
    · rw [show ctk B p x = 1 from by omega] at hre
      exact Or.inr hre
theorem lat_f {B : List Nat} {n x : Nat} (h2 : two B) (h1 : B.length ≤ x) (hx : x < nah B n) : lat B n x = 1 := by
  have ex : ∀ m, x < nah B m → ∃ p, p < m ∧ nah B p ≤ x ∧ x < nah B (p + 1) := by
    intro m
    induction m with
    | zero =>
      intro h
      have : nah B 0 = B.length := rfl
      omega
    | succ m ih =>
      intro h
      rcases Nat.lt_or_ge x (nah B m) with q | q
      · obtain ⟨p, p1, p2⟩ := ih q
        exact ⟨p, by omega, p2⟩
      · exact ⟨m, by omega, q, h⟩
  obtain ⟨p0, p1, p2, p3⟩ := ex n hx
  unfold lat
  refine (gs_eq (g := fun i => g1 (p0 = i)) fun p hp => g1_c ?_).trans (by rw [gs_one, g1_t p1])
  obtain ⟨v0, v1, r0, r1⟩ := reg_of h2 (n := n) p hp
  have un : nah B p ≤ x → x < nah B (p + 1) → p0 = p := fun q1 q2 => by
    rcases Nat.lt_trichotomy p0 p with w | w | w
    · have := nah_m (B := B) (show p0 + 1 ≤ p from w)
      omega
    · exact w
    · have := nah_m (B := B) (show p + 1 ≤ p0 from w)
      omega
  constructor
  · have side : ∀ {w v : Nat}, w < 2 → RE B p w v → v = x → p0 = p := fun {w v} hw r e => by
      subst e
      rcases r with ⟨-, z, -⟩ | ⟨z1, z2⟩
      · omega
      · have h := nah_s B p
        have := h2 p
        exact un (by omega) (by omega)
    rintro (q | q)
    · rw [re_eq r0] at q
      exact side (by decide) r0 q
    · rw [re_eq r1] at q
      exact side (by decide) r1 q
  · rintro rfl
    have h := nah_s B p0
    have := h2 p0
    have hre : re B p0 (cnt B p0 + (x - nah B p0)) = x := re_eq (Or.inr ⟨by omega, by omega⟩)
    rcases Nat.lt_or_ge (cnt B p0 + (x - nah B p0)) 1 with u | u
    · rw [show cnt B p0 + (x - nah B p0) = 0 from by omega] at hre
      exact Or.inl hre
    · rw [show cnt B p0 + (x - nah B p0) = 1 from by omega] at hre
      exact Or.inr hre
theorem gmx_c {f g : Nat → Nat} : ∀ n, (∀ i, i < n → f i = g i) → gmx f n = gmx g n
  | 0, _ => rfl
  | n + 1, h => by
    show (if gmx f n < f n then f n else gmx f n) = (if gmx g n < g n then g n else gmx g n)
    rw [gmx_c n fun i hi => h i (by omega), h n (by omega)]
theorem gmx_1 {f : Nat → Nat} {l : Nat} : ∀ m, l ≤ m → (∀ x, l ≤ x → x < m → f x = 1) → gmx f m = max (if m ≤ l then 0 else 1) (gmx f l) := by
  intro m
  induction m with
  | zero =>
    intro h _
    obtain rfl : l = 0 := by omega
    rfl
  | succ m ih =>
    intro h hf
    rcases Nat.lt_or_ge m l with q | q
    · obtain rfl : l = m + 1 := by omega
      rw [if_pos (Nat.le_refl _), Nat.max_eq_right (Nat.zero_le _)]
    · have e := ih q fun x h1 h2 => hf x h1 (by omega)
      show (if gmx f m < f m then f m else gmx f m) = _
      rw [hf m q (by omega), if_neg (show ¬ m + 1 ≤ l by omega), e]
      generalize gmx f l = y
      by_cases u : m ≤ l
      · rw [if_pos u, Nat.max_eq_right (Nat.zero_le y)]
        by_cases v : y < 1
        · rw [if_pos v, Nat.max_eq_left (by omega)]
        · rw [if_neg v, Nat.max_eq_right (by omega)]
      · rw [if_neg u]
        have := Nat.le_max_left 1 y
        rw [if_neg (by omega)]
theorem rms_eq {B : List Nat} {n : Nat} (h2 : two B) (hn : n ≤ 14) (vB : ∀ C, C ∈ B → C < 2 ^ n) : gmx (lat B n) (nah B n) = rms B n := by
  rw [gmx_1 (l := B.length) (nah B n) nah_0 fun x h1 hx => lat_f h2 h1 hx]
  unfold rms
  rw [gmx_c B.length fun i hi => lat_c h2 hn vB hi]
theorem oM_root {M : mm_Mem} {σ : g_st} {x : Int32} (h : MS M σ) : OM 36 mX10_root [.int x] M (o_root σ x) := by
  obtain ⟨n, T, L, K, t, f, fk⟩ := σ
  obtain ⟨th, h⟩ := h
  obtain ⟨F, w, m1, m2⟩ := h.mo
  have hz := h.z
  obtain ⟨o, hw⟩ := hz.now
  have hn := hw.1
  have nay : ∀ {M1 : mm_Mem} {th' : Int32}, MT M1 th' (n, T, L, K, t, f, fk) → fM M M1 → (o_root (n, T, L, K, t, f, fk) x).1 = -1 → some (Value.int (-1)) = some (.int (o_root (n, T, L, K, t, f, fk) x).1) ∧ MS M1 (o_root (n, T, L, K, t, f, fk) x).2 ∧ fM M M1 := fun {M1 th'} q1 q2 q3 => ⟨by rw [q3], ⟨_, q1⟩, q2⟩
  refine mm_S.of rfl rfl (Nat.le_of_ble_eq_true rfl) ndM (bX10_root_0 (m1.i 0 (by decide)) (m1.r 10 33 (by decide)) (by decide) (fun c => nay hz fM_z ?_) (fun c => mm_Call.of (s_laysRoot hz o hw (by decide)) (by decide) ?_))
  · rw [q_isIn2, ks_b0] at c
    dsimp only [o_root]
    rw [if_neg (fun q => c (Or.inl q)), if_neg (fun q => c (Or.inr (Or.inl q))), if_neg (fun q => c (Or.inr (Or.inr q)))]
    by_cases q : g_any T
    · rw [pif_t q]
    · rw [pif_f q]
  rw [q_isIn2, ks_b0, Classical.not_not] at c
  rintro r M1 ⟨rfl, ⟨h1, o1⟩, k1, k2⟩
  have fr : fM M M1 := fun j hj => (k2 j (by omega) (by omega)).trans (fM_z j hj)
  obtain ⟨x31, f31⟩ := h1.fi 31 (by decide)
  by_cases hA : g_any T
  · rw [ks_bt hA]
    obtain ⟨q1, ⟨q2, q2'⟩, q3, q4⟩ := k1 hA
    have nb := nah_le (B := g_fst T) (p := n)
    refine bX10_root_22 (h1.fdr 10 33 (by decide)) q4 (fun _ c1 c2 => ?_) (fun _ c1 c2 => ?_) (fun _ c1 => ?_) (fun c1 => absurd c1 (by decide))
    · rw [show (0 : Int32) = nI 0 from rfl]
      refine fld (s := 0) (n := nah (g_fst T) n) (G := fun y v => mm_X mX10_root 36 none (0, 0) 53 [.ref 31, .null, .int (nI v), .int (nI y)] [] M1 _) (v0 := 0) (I := fun y v => v = gmx (lat (g_fst T) n) y) (Nat.zero_le _) rfl ?_
      rintro y v _ hy rfl ih
      have lg : gmx (lat (g_fst T) n) y ≤ n := gmx_le fun i _ => lat_le
      have ly := lat_le (B := g_fst T) (n := n) (x := y)
      refine bX10_root_53 q4 (fun c3 => ?_) (fun c3 => ?_)
      · rw [ks_le (by omega) (by omega)] at c3
        obtain rfl : y = nah (g_fst T) n := by omega
        refine ⟨?_, ⟨_, h1⟩, fr⟩
        dsimp only [o_root]
        rw [pif_t hA, if_neg c1, if_pos (by rcases c with q | q | q; exact absurd q c1; exact q; exact absurd q c2), rms_eq q1 hn q2']
      · rw [ks_le (by omega) (by omega)] at c3
        have hS := s_linesAt (x := y) (h1.fdr 10 33 (by decide)) (h1.fdr 29 48 (by decide)) (h1.fdr 30 49 (by decide)) o1 q3 q1 q2 hn (by omega)
        have e : gmx (lat (g_fst T) n) (y + 1) = if gmx (lat (g_fst T) n) y < lat (g_fst T) n y then lat (g_fst T) n y else gmx (lat (g_fst T) n) y := rfl
        refine mm_Call.eq hS (by decide) (bX10_root_66 (h1.fdr 10 33 (by decide)).rc (fun c4 => ?_) (fun c4 => ?_))
        · rw [ks_le (by omega) (by omega)] at c4
          rw [nI_1]
          exact ih _ (by omega) (by rw [e, if_neg (by omega)])
        · rw [ks_le (by omega) (by omega)] at c4
          refine mm_Call.eq hS (by decide) (bX10_root_75 ?_)
          rw [nI_1]
          exact ih _ (by omega) (by rw [e, if_pos (by omega)])
    · refine mm_Call.eq (s_partsM o1 hw) (by decide) (bX10_root_48 ⟨?_, ⟨_, h1⟩, fr⟩)
      dsimp only [o_root]
      subst c2
      rw [pif_t hA, if_neg c1, if_neg (by decide), if_pos rfl]
    · refine ⟨?_, ⟨_, h1⟩, fr⟩
      dsimp only [o_root]
      rw [pif_t hA, if_pos c1]
  · rw [ks_bf hA]
    refine bX10_root_22 (h1.fdr 10 33 (by decide)) f31 (fun c1 => absurd rfl c1) (fun c1 => absurd rfl c1) (fun c1 => absurd rfl c1) (fun _ => nay h1 fr ?_)
    dsimp only [o_root]
    rw [pif_f hA]
theorem sM_rootLine {M : mm_Mem} {σ : g_st} {x y : Int32} (h : MS M σ) : mm_S 36 mX10_rootLine 0 0 [.ref 31, .int x, .int y] M (xM M σ (o_rootLine σ x y)) := by
  obtain ⟨n, T, L, K, t, f, fk⟩ := σ
  obtain ⟨th, h⟩ := h
  obtain ⟨F, w, m1, m2⟩ := h.mo
  have hz := h.z
  obtain ⟨o, hw⟩ := hz.now
  have hn := hw.1
  have nay : ¬ (g_any T ∧ (∃ p, p < n ∧ x = nI p) ∧ (y = 0 ∨ y = 1)) → o_rootLine (n, T, L, K, t, f, fk) x y = none := fun q => by
    dsimp only [o_rootLine]
    rw [pif_f q]
  have out : ∀ {M1 : mm_Mem}, o_rootLine (n, T, L, K, t, f, fk) x y = none → MT M1 0 (n, T, L, K, t, f, fk) → fM M M1 → xM M (n, T, L, K, t, f, fk) (o_rootLine (n, T, L, K, t, f, fk) x y) (some (.int 0)) (mm_upF M1 31 0 (.int 1)) := fun {M1} q q1 q2 => by
    rw [q]
    exact ⟨rfl, by rw [if_pos rfl]; exact q1.th1, fun j hj => (mm_upF_n (by omega)).trans (q2 j hj)⟩
  refine mm_S.of rfl rfl (Nat.le_of_ble_eq_true rfl) xM_nd (bX10_rootLine_0 h.now.1 (m1.i 0 (by decide)) (m1.r 10 33 (by decide)) (by decide) (by decide) gk_in0 (fun c => out (nay fun q => ?_) hz fM_z) (fun c c1 => out (nay fun q => ?_) hz fM_z) (fun c c1 => mm_Call.of (s_laysRoot hz o hw (by decide)) (by decide) ?_))
  · rw [gk_0, q_isIn hn, ks_b0] at c
    exact c q.2.1
  · rw [q_isIn1, ks_b0] at c1
    exact c1 q.2.2
  rw [gk_0, q_isIn hn, ks_b0, Classical.not_not] at c
  rw [q_isIn1, ks_b0, Classical.not_not] at c1
  rintro r M1 ⟨rfl, ⟨h1, o1⟩, k1, k2⟩
  have fr : fM M M1 := fun j hj => (k2 j (by omega) (by omega)).trans (fM_z j hj)
  obtain ⟨g48, o48⟩ := h1.sc 48 14 (by decide)
  obtain ⟨g49, o49⟩ := h1.sc 49 14 (by decide)
  obtain ⟨x0, f0⟩ := h1.fi 0 (by decide)
  obtain ⟨p, hp, rfl⟩ := id c
  have cp : (nI p).toNatClampNeg = p := nI_clamp (by omega)
  have inp : vp_in (nI p) 14 := vp_in_nI (by omega) (by decide)
  by_cases hA : g_any T
  · rw [ks_bt hA]
    obtain ⟨q1, q2, q3, q4⟩ := k1 hA
    obtain ⟨f1, f2, w1, w2, w3⟩ := lh_2 q3
    obtain ⟨w4, w5⟩ := w3 p hp
    have fin : ∀ {v : Int32}, v = nI (re (g_fst T) p y.toNatClampNeg) → xM M (n, T, L, K, t, f, fk) (o_rootLine (n, T, L, K, t, f, fk) (nI p) y) (some (.int v)) M1 := fun {v} e => by
      dsimp only [o_rootLine]
      rw [pif_t ⟨hA, c, c1⟩, cp, e]
      exact ⟨rfl, by rw [if_neg (by simp)]; exact h1, fr⟩
    refine bX10_rootLine_38 w2 w1 (h1.fdr 30 49 (by decide)) (h1.fdr 29 48 (by decide)) f0 (by decide) (fun _ _ => inp) (fun _ e => fin ?_) (fun _ _ => inp) (fun _ e => fin ?_) (fun e => absurd e (by decide))
    · have e1 : y = 1 := c1.resolve_left e
      rw [cp, w5, e1]
      rfl
    · rw [cp, w4, e]
      rfl
  · rw [ks_bf hA]
    exact bX10_rootLine_38 o49 o48 (h1.fdr 30 49 (by decide)) (h1.fdr 29 48 (by decide)) f0 (by decide) (fun _ _ => inp) (fun e => absurd rfl e) (fun _ _ => inp) (fun e => absurd rfl e) (fun _ => out (nay fun q => hA q.1) h1 fr)
abbrev fI (M M' : mm_Mem) : Prop := ∀ j, j ≠ 31 → j ≠ 39 → j ≠ 40 → (j < 44 ∨ 49 < j) → M' j = M j
theorem s_goesBack {M : mm_Mem} {th : Int32} {σ : g_st} {n : Nat} {T : Nat → Nat} (h : MT M th σ) (o : ra M 39 n T) (hw : gw n T) : mm_S 36 mX10_goesBack 0 0 [.ref 31, .ref 39] M (fun r M' => MT M' th σ ∧ ((gok (n, T) ∧ r = some (.int 1) ∧ ra M' 39 (gbk (n, T)).1 (gbk (n, T)).2 ∧ gw (gbk (n, T)).1 (gbk (n, T)).2) ∨ (¬ gok (n, T) ∧ r = some (.int 0))) ∧ fI M M') := by
  have hn := hw.1
  have nd : ∀ (r : Option Value) (M' : mm_Mem), (MT M' th σ ∧ ((gok (n, T) ∧ r = some (.int 1) ∧ ra M' 39 (gbk (n, T)).1 (gbk (n, T)).2 ∧ gw (gbk (n, T)).1 (gbk (n, T)).2) ∨ (¬ gok (n, T) ∧ r = some (.int 0))) ∧ fI M M') → ∀ x, r ≠ some (.double x) := by
    rintro r M' ⟨-, ⟨-, h, -⟩ | ⟨-, h⟩, -⟩ x e <;> (rw [h] at e; cases e)
  refine mm_S.of rfl rfl (Nat.le_of_ble_eq_true rfl) nd (bX10_goesBack_0 (h.fdr 10 33 (by decide)).rc (mm_Call.of (s_laysRoot h o hw (by decide)) (by decide) ?_))
  rintro r M1 ⟨rfl, ⟨h1, o1⟩, k1, k2⟩
  have fr : fI M M1 := fun j j1 _ _ j2 => k2 j j1 j2
  obtain ⟨x31, f31⟩ := h1.fi 31 (by decide)
  by_cases hA : g_any T
  rotate_left
  · rw [ks_bf hA]
    exact bX10_goesBack_5 f31 (fun _ => ⟨h1, Or.inr ⟨fun q => hA q.1, rfl⟩, fr⟩) (fun e => absurd rfl e) (fun e => absurd rfl e)
  rw [ks_bt hA]
  obtain ⟨q1, ⟨q2, q2'⟩, q3, q4⟩ := k1 hA
  have nb := nah_le (B := g_fst T) (p := n)
  refine bX10_goesBack_5 q4 (fun e => absurd e (by decide)) (fun _ c => ?_) (fun _ c => ?_)
  rotate_left
  · rw [show (14 : Int32) = nI 14 from rfl, ks_le (by omega) (by omega)] at c
    exact ⟨h1, Or.inr ⟨fun q => c q.2, rfl⟩, fr⟩
  rw [show (14 : Int32) = nI 14 from rfl, ks_le (by omega) (by omega)] at c
  have hgk : gok (n, T) := ⟨hA, c⟩
  obtain ⟨n4, T4, a1, a2⟩ := h1.rn 40 (by decide)
  have hreg := reg_of q1 (n := n)
  have gwr := gw_rt c hreg
  rw [show M1 = mm_up M1 40 (mm_aI 15 (gk_f n4 T4)) from (mm_up_id a1.2).symm, show (0 : Int32) = nI 0 from rfl]
  refine fld (s := 0) (n := 15) (G := fun k X => mm_X mX10_goesBack 36 none (0, 0) 21 [.ref 31, .ref 39, .int (nI k)] [] (mm_up M1 40 (mm_aI 15 X)) _) (I := fun k X => ∀ i, X i = if i < k then 0 else gk_f n4 T4 i) (Nat.zero_le 15) (fun i => by rw [if_neg (Nat.not_lt_zero i)]) ?_
  intro k X _ hk hI ih
  have oX : mm_at (mm_up M1 40 (mm_aI 15 X)) 40 (mm_aI 15 X) := mm_at.s a1.1
  refine bX10_goesBack_21 oX ((h1.fdr 17 40 (by decide)).o (by decide)) (q4.o (by decide)) (fun _ => gk_in0) (fun c1 => ?_) (fun c1 => ?_) (fun c1 => ?_)
  rotate_left
  · rw [ks_15, ks_le (by decide) (by omega)] at c1
    exact vp_in_nI (by omega) (by decide)
  · rw [ks_15, ks_le (by decide) (by omega)] at c1
    rw [nI_clamp (by omega), nI_1, mm_up_up]
    refine ih _ (by omega) fun i => ?_
    by_cases u : i = k
    · subst u
      rw [pk_us, if_pos (by omega)]
    · rw [pk_un u, hI i]
      by_cases v : i < k
      · rw [if_pos v, if_pos (by omega)]
      · rw [if_neg v, if_neg (by omega)]
  rw [ks_15, ks_le (by decide) (by omega)] at c1
  obtain rfl : k = 15 := by omega
  have eX : X = gk_f 0 fun _ => 0 := by
    funext i
    rw [hI i]
    unfold gk_f
    by_cases e : i < 15
    · rw [if_pos e]
      by_cases e0 : i = 0 <;> simp [e0] <;> rfl
    · have := a2.1
      rw [if_neg e, if_neg (by omega), if_neg (by omega), a2.2.2.1 _ (by omega)]
  rw [eX, gk_upd0, mm_up_up]
  refine fld (s := 0) (n := n) (G := fun p G => mm_X mX10_goesBack 36 none (0, 0) 52 [.ref 31, .ref 39, .int (nI p)] [] (mm_up M1 40 (mm_aI 15 (gk_f (nah (g_fst T) n) G))) _) (v0 := fun _ => 0) (I := fun p G => G = rtT (g_fst T) p) (Nat.zero_le n) rfl ?_
  rintro p _ _ hp rfl ih2
  have r1 : mm_at (mm_up M1 40 (mm_aI 15 (gk_f (nah (g_fst T) n) (rtT (g_fst T) p)))) 40 (mm_aI 15 (gk_f (nah (g_fst T) n) (rtT (g_fst T) p))) := mm_at.s a1.1
  obtain ⟨fl, fh, w1, w2, w3⟩ := lh_2 q3
  have lt : ¬ gk_f n T (Int32.toNatClampNeg 0) ≤ nI p → p < n := by
    intro c
    rw [gk_0, ks_le (by omega) (by omega)] at c
    omega
  have cp : (nI p).toNatClampNeg = p := nI_clamp (by omega)
  have o39 : ra (mm_up M1 40 (mm_aI 15 (gk_f (nah (g_fst T) n) (rtT (g_fst T) p)))) 39 n T := o1.n (by decide)
  have bnd : p < n → fl p = nI (re (g_fst T) p 0) ∧ fh p = nI (re (g_fst T) p 1) ∧ re (g_fst T) p 0 < nah (g_fst T) n ∧ re (g_fst T) p 1 < nah (g_fst T) n ∧ re (g_fst T) p 0 ≠ re (g_fst T) p 1 := fun q => by
    obtain ⟨v0, v1, r0, r1⟩ := hreg p q
    obtain ⟨z1, z2⟩ := w3 p q
    refine ⟨z1, z2, ?_, ?_, ?_⟩
    · rw [re_eq r0]
      exact RE_lt q (by decide) r0
    · rw [re_eq r1]
      exact RE_lt q (by decide) r1
    · rw [re_eq r0, re_eq r1]
      exact RE_ne r0 r1
  refine bX10_goesBack_52 o39 (w1.n (by decide)) (w2.n (by decide)) r1 ((h1.fdr 17 40 (by decide)).o (by decide)) ((h1.fdr 29 48 (by decide)).o (by decide)) ((h1.fdr 30 49 (by decide)).o (by decide)) (by decide) gk_in0 (fun c2 => ?_) (fun c2 => vp_in_nI (by have := lt c2; omega) (by decide)) (fun c2 => vp_in_nI (by have := lt c2; omega) (by decide)) (fun c2 => ?_) (fun c2 => ?_) (fun c2 => ?_) (fun c2 => ?_) (fun c2 => ?_)
  · rw [gk_0, ks_le (by omega) (by omega)] at c2
    obtain rfl : p = n := by omega
    have gwp := gwr p (Nat.le_refl p)
    refine mm_Call.eq (s_copyM (s := 0) (t := 0) r1 o39 (by decide) gk_at0 (by decide) (by decide) (by decide) (by decide)) (by decide) (bX10_goesBack_94 ?_)
    rw [sl_row hw gwp]
    have e1 : ∀ j, j ≠ 39 → j ≠ 40 → mm_up (mm_up M1 40 (mm_aI 15 (gk_f (nah (g_fst T) p) (rtT (g_fst T) p)))) 39 (mm_aI 15 (gk_f (nah (g_fst T) p) (rtT (g_fst T) p))) j = M1 j := fun j j1 j2 => (mm_up_n j1).trans (mm_up_n j2)
    exact ⟨(h1.rnet (by decide) gwp).rnet (by decide) gwp, Or.inl ⟨hgk, rfl, mm_at.s o39.1, gwp⟩, fun j j1 j2 j3 j4 => (e1 j j2 j3).trans (fr j j1 j2 j3 j4)⟩
  · obtain ⟨z1, z2, z3, z4, z5⟩ := bnd (lt c2)
    rw [cp, z1]
    exact gk_in1 (by omega)
  · obtain ⟨z1, z2, z3, z4, z5⟩ := bnd (lt c2)
    rw [cp, z1]
    exact gk_in1 (by omega)
  · obtain ⟨z1, z2, z3, z4, z5⟩ := bnd (lt c2)
    rw [cp, z2]
    exact gk_in1 (by omega)
  · obtain ⟨z1, z2, z3, z4, z5⟩ := bnd (lt c2)
    rw [cp, z2]
    exact gk_in1 (by omega)
  · obtain ⟨z1, z2, z3, z4, z5⟩ := bnd (lt c2)
    rw [cp, z1, z2, gk_turns (by omega) (by omega) z5, mm_up_up, nI_1]
    exact ih2 _ (lt c2) rfl
theorem oM_back {M : mm_Mem} {σ : g_st} (h : MS M σ) : OM 37 mX10_back [] M (o_back σ) := by
  obtain ⟨n, T, L, K, t, f, fk⟩ := σ
  obtain ⟨th, h⟩ := h
  obtain ⟨F, w, m1, m2⟩ := h.mo
  have hz := h.z
  obtain ⟨oz, hw⟩ := hz.now
  have hn := hw.1
  obtain ⟨n4, T4, a1, a2⟩ := hz.rn 39 (by decide)
  refine mm_S.of rfl rfl (Nat.le_of_ble_eq_true rfl) ndM (bX10_back_0 (m1.i 0 (by decide)) (m1.r 10 33 (by decide)) (m1.r 16 39 (by decide)) (mm_Call.eq (s_copyM (s := 0) (t := 0) oz a1 (by decide) gk_at0 (by decide) (by decide) (by decide) (by decide)) (by decide) ?_))
  rw [sl_row a2 hw]
  have h1 := hz.rnet (a := 39) (by decide) hw
  have q4 : ra (mm_up (mm_upF M 31 0 (.int 0)) 39 (mm_aI 15 (gk_f n T))) 39 n T := mm_at.s a1.1
  have e1 : fM M (mm_up (mm_upF M 31 0 (.int 0)) 39 (mm_aI 15 (gk_f n T))) := fun j hj => (mm_up_n (by omega)).trans (mm_upF_n (by omega))
  generalize mm_up (mm_upF M 31 0 (.int 0)) 39 (mm_aI 15 (gk_f n T)) = M1 at h1 q4 e1 ⊢
  refine bX10_back_18 (h1.fdr 16 39 (by decide)) (mm_Call.of (s_goesBack h1 q4 hw) (by decide) ?_)
  rintro r M2 ⟨h2, k1, k2⟩
  have e2 : fM M M2 := fun j hj => (k2 j (by omega) (by omega) (by omega) (by omega)).trans (e1 j hj)
  rcases k1 with ⟨g1, rfl, g2, g3⟩ | ⟨g1, rfl⟩
  · dsimp only [o_back]
    rw [pif_t g1]
    refine bX10_back_26 (h2.fdr 10 33 (by decide)).rc (fun _ => mm_Call.of (s_snap' h2) (by decide) ?_) (fun e => absurd e (by decide))
    rintro _ M3 ⟨rfl, h3, k3⟩
    have r39 : ra M3 39 (gbk (n, T)).1 (gbk (n, T)).2 := mm_at.eq g2 (k3 39 (by decide) (by decide))
    obtain ⟨o3, -⟩ := h3.now
    refine bX10_back_35 (h3.fdr 16 39 (by decide)) (h3.fdr 10 33 (by decide)) (mm_Call.eq (s_copyM (s := 0) (t := 0) r39 o3 (by decide) gk_at0 (by decide) (by decide) (by decide) (by decide)) (by decide) ?_)
    rw [sl_row hw g3]
    have h4 := h3.net g3
    have o4 : ra (mm_up M3 33 (mm_aI 15 (gk_f (gbk (n, T)).1 (gbk (n, T)).2))) 33 (gbk (n, T)).1 (gbk (n, T)).2 := mm_at.s o3.1
    refine bX10_back_48 o4 (h4.fdr 10 33 (by decide)) gk_in0 ⟨by rw [gk_0], ⟨_, h4⟩, fun j hj => ?_⟩
    rw [mm_up_n (by omega), k3 j (by omega) (by omega), e2 j hj]
  · dsimp only [o_back]
    rw [pif_f g1]
    exact bX10_back_26 (h2.fdr 10 33 (by decide)).rc (fun e => absurd rfl e) (fun _ => ⟨rfl, ⟨_, h2⟩, e2⟩)
theorem oM_depth {M : mm_Mem} {σ : g_st} (h : MS M σ) : OM 37 mX10_depth [] M (o_depth σ) := by
  obtain ⟨n, T, L, K, t, f, fk⟩ := σ
  obtain ⟨th, h⟩ := h
  obtain ⟨F, w, m1, m2⟩ := h.mo
  have hz := h.z
  obtain ⟨oz, hw⟩ := hz.now
  have hn := hw.1
  obtain ⟨n4, T4, a1, a2⟩ := hz.rn 39 (by decide)
  refine mm_S.of rfl rfl (Nat.le_of_ble_eq_true rfl) ndM (bX10_depth_0 (m1.i 0 (by decide)) (m1.r 10 33 (by decide)) (m1.r 16 39 (by decide)) (mm_Call.eq (s_copyM (s := 0) (t := 0) oz a1 (by decide) gk_at0 (by decide) (by decide) (by decide) (by decide)) (by decide) (bX10_depth_18 ?_)))
  rw [sl_row a2 hw]
  have h1 := hz.rnet (a := 39) (by decide) hw
  have q4 : ra (mm_up (mm_upF M 31 0 (.int 0)) 39 (mm_aI 15 (gk_f n T))) 39 n T := mm_at.s a1.1
  have e1 : fM M (mm_up (mm_upF M 31 0 (.int 0)) 39 (mm_aI 15 (gk_f n T))) := fun j hj => (mm_up_n (by omega)).trans (mm_upF_n (by omega))
  generalize mm_up (mm_upF M 31 0 (.int 0)) 39 (mm_aI 15 (gk_f n T)) = M1 at h1 q4 e1 ⊢
  rw [show (0 : Int32) = nI 0 from rfl]
  refine fld (s := 0) (n := 20) (G := fun k (q : mm_Mem × (Nat × (Nat → Nat))) => mm_X mX10_depth 37 none (0, 0) 20 [.ref 31, .int (nI k)] [] q.1 _) (v0 := (M1, (n, T))) (I := fun k q => MT q.1 0 (n, T, L, K, t, f, fk) ∧ fM M q.1 ∧ ra q.1 39 q.2.1 q.2.2 ∧ gw q.2.1 q.2.2 ∧ dpt 20 (n, T) = k + dpt (20 - k) q.2) (Nat.zero_le _) ⟨h1, e1, q4, hw, (Nat.zero_add _).symm⟩ ?_
  rintro k ⟨M2, m, U⟩ _ hk ⟨b1, b2, b3, b4, b5⟩ ih
  dsimp only at b1 b2 b3 b4 b5
  refine bX10_depth_20 (b1.fdr 16 39 (by decide)) (fun c => ?_) (fun c => ?_)
  · rw [show (20 : Int32) = nI 20 from rfl, ks_le (by omega) (by omega)] at c
    obtain rfl : k = 20 := by omega
    refine ⟨?_, ⟨_, b1⟩, b2⟩
    dsimp only [o_depth]
    rw [b5]
    rfl
  rw [show (20 : Int32) = nI 20 from rfl, ks_le (by omega) (by omega)] at c
  refine mm_Call.of (s_goesBack b1 b3 b4) (by decide) ?_
  rintro r M3 ⟨h2, k1, k2⟩
  have e2 : fM M M3 := fun j hj => (k2 j (by omega) (by omega) (by omega) (by omega)).trans (b2 j hj)
  rcases k1 with ⟨g1, rfl, g2, g3⟩ | ⟨g1, rfl⟩
  · refine bX10_depth_34 (fun e => absurd e (by decide)) (fun _ => ?_)
    rw [nI_1]
    refine ih (_, gbk (m, U)) (by omega) ⟨h2, e2, g2, g3, ?_⟩
    rw [b5, show 20 - k = (20 - (k + 1)) + 1 from by omega, dpt_y g1]
    exact (Nat.add_assoc _ _ _).symm
  · refine bX10_depth_34 (fun _ => ⟨?_, ⟨_, h2⟩, e2⟩) (fun e => absurd rfl e)
    dsimp only [o_depth]
    rw [b5, dpt_n g1]
    rfl
