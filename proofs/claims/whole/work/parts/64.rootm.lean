/-! THE ROOT of the model -/
abbrev fH (M M' : mm_Mem) : Prop := ∀ j, j ≠ 31 → (j < 44 ∨ 49 < j) → M' j = M j
noncomputable def lw (B : List Nat) (c p : Nat) : Int32 := if 0 < c then nI (re B p 0) else -1
noncomputable def hg (B : List Nat) (c p : Nat) : Int32 := if 1 < c then nI (re B p 1) else -1
def lh (M : mm_Mem) (n : Nat) (B : List Nat) (c : Nat → Nat) : Prop := ∃ f g, mm_at M 48 (mm_aI 14 f) ∧ mm_at M 49 (mm_aI 14 g) ∧ ∀ p, p < n → f p = lw B (c p) p ∧ g p = hg B (c p) p
theorem lh.c {M : mm_Mem} {n : Nat} {B : List Nat} {c c' : Nat → Nat} (h : lh M n B c) (e : ∀ p, p < n → c p = c' p) : lh M n B c' := by
  obtain ⟨f, g, h1, h2, h3⟩ := h
  exact ⟨f, g, h1, h2, fun p hp => by rw [← e p hp]; exact h3 p hp⟩
theorem lh.eq {M M' : mm_Mem} {n : Nat} {B : List Nat} {c : Nat → Nat} (h : lh M n B c) (e : M' 48 = M 48) (e' : M' 49 = M 49) : lh M' n B c := by
  obtain ⟨f, g, h1, h2, h3⟩ := h
  exact ⟨f, g, h1.eq e, h2.eq e', h3⟩
theorem re_b {B : List Nat} {n p w : Nat} (h2 : two B) (hB : B.length ≤ 14) (hn : n ≤ 14) (hp : p < n) (hw : w < 2) : re B p w < 2 ^ 20 := by
  obtain ⟨v0, v1, r0, r1⟩ := reg_of h2 (n := n) p hp
  have h := nah_le (B := B) (p := n)
  rcases Nat.lt_or_ge w 1 with q | q
  · obtain rfl : w = 0 := by omega
    rw [re_eq r0]
    have := RE_lt hp (by decide) r0
    omega
  · obtain rfl : w = 1 := by omega
    rw [re_eq r1]
    have := RE_lt hp (by decide) r1
    omega
theorem nI_m1 {v : Nat} (h : v < 2 ^ 31) : nI v ≠ -1 := fun q => nI_pos (n := v) h (by rw [q]; decide)
theorem s_joins {M : mm_Mem} {n p : Nat} {x : Int32} {B : List Nat} {c : Nat → Nat} (fl : mm_fd M 31 10 29 (.ref 48)) (fh : mm_fd M 31 10 30 (.ref 49)) (h : lh M n B c) (h2 : two B) (hB : B.length ≤ 14) (hn : n ≤ 14) (hp : p < n) (hx : (c p = 0 ∧ x = nI (re B p 0)) ∨ (c p = 1 ∧ x = nI (re B p 1))) : mm_S 0 mX10_joins 0 0 [.ref 31, .int (nI p), .int x] M (fun r M' => r = none ∧ lh M' n B (fun q => if q = p then c p + 1 else c q) ∧ (∃ f, M' = mm_up M 48 (mm_aI 14 f) ∨ M' = mm_up M 49 (mm_aI 14 f))) := by
  obtain ⟨f, g, o1, o2, hv⟩ := h
  obtain ⟨v1, v2⟩ := hv p hp
  have b0 := re_b (w := 0) h2 hB hn hp (by decide)
  have cp : (nI p).toNatClampNeg = p := nI_clamp (by omega)
  refine mm_S.of rfl rfl (Nat.le_of_ble_eq_true rfl) (fun r M' h x e => by rw [h.1] at e; cases e) (bX10_joins_0 o1 o2 fl fh (vp_in_nI (by omega) (by decide)) (fun _ => vp_in_nI (by omega) (by decide)) (fun e => ?_) (fun _ => vp_in_nI (by omega) (by decide)) (fun e => ?_))
  · rw [cp, v1] at e
    have c1 : c p = 1 := by
      rcases hx with ⟨q, -⟩ | ⟨q, -⟩
      · unfold lw at e
        rw [q] at e
        exact absurd rfl e
      · exact q
    have hx1 : x = nI (re B p 1) := by
      rcases hx with ⟨q, -⟩ | ⟨-, q⟩
      · omega
      · exact q
    rw [cp]
    refine ⟨rfl, ⟨f, _, o1.n (by decide), mm_at.s o2.1, fun q hq => ?_⟩, _, Or.inr rfl⟩
    obtain ⟨w1, w2⟩ := hv q hq
    dsimp only
    by_cases u : q = p
    · subst u
      rw [pk_us, if_pos rfl, c1, hx1]
      refine ⟨?_, rfl⟩
      rw [v1, c1]
      rfl
    · rw [pk_un u, if_neg u]
      exact ⟨w1, w2⟩
  · rw [cp, v1] at e
    have c0' : c p = 0 := by
      rcases hx with ⟨q, -⟩ | ⟨q, -⟩
      · exact q
      · unfold lw at e
        rw [q, if_pos (by decide)] at e
        exact absurd e (nI_m1 (by omega))
    have hx0 : x = nI (re B p 0) := by
      rcases hx with ⟨-, q⟩ | ⟨q, -⟩
      · exact q
      · omega
    rw [cp]
    refine ⟨rfl, ⟨_, g, mm_at.s o1.1, o2.n (by decide), fun q hq => ?_⟩, _, Or.inl rfl⟩
    obtain ⟨w1, w2⟩ := hv q hq
    dsimp only
    by_cases u : q = p
    · subst u
      rw [pk_us, if_pos rfl, c0', hx0]
      refine ⟨rfl, ?_⟩
      rw [v2, c0']
      rfl
    · rw [pk_un u, if_neg u]
      exact ⟨w1, w2⟩
def lr (M0 M : mm_Mem) (th : Int32) (σ : g_st) (a n : Nat) (T : Nat → Nat) (B : List Nat) (c : Nat → Nat) : Prop := (MT M th σ ∧ ra M a n T) ∧ lh M n B c ∧ mm_fd M 31 10 27 (.int (nI B.length)) ∧ rwb M 47 B ∧ fH M0 M
theorem lr_j {M0 M M' : mm_Mem} {th : Int32} {σ : g_st} {a n : Nat} {T : Nat → Nat} {B : List Nat} {c c' : Nat → Nat} (ha : a ≠ 31 ∧ a < 44) (h : lr M0 M th σ a n T B c) (hl : lh M' n B c') (e : ∃ f, M' = mm_up M 48 (mm_aI 14 f) ∨ M' = mm_up M 49 (mm_aI 14 f)) : lr M0 M' th σ a n T B c' ∧ ∀ j, j ≠ 48 → j ≠ 49 → M' j = M j := by
  obtain ⟨⟨h1, h2⟩, h3, h4, h5, h6⟩ := h
  have e' : ∀ j, j ≠ 48 → j ≠ 49 → M' j = M j := by
    obtain ⟨f, rfl | rfl⟩ := e
    · exact fun j j1 _ => mm_up_n j1
    · exact fun j _ j2 => mm_up_n j2
  have hm : MT M' th σ := by
    obtain ⟨f, rfl | rfl⟩ := e
    · exact h1.upA 48 14 f (by decide) (by decide)
    · exact h1.upA 49 14 f (by decide) (by decide)
  exact ⟨⟨⟨hm, mm_at.eq h2 (e' a (by omega) (by omega))⟩, hl, h4.eq (e' 31 (by decide) (by decide)), h5.eq (e' 47 (by decide) (by decide)), fun j j1 j2 => (e' j (by omega) (by omega)).trans (h6 j j1 j2)⟩, e'⟩
theorem s_laysRoot {M : mm_Mem} {th : Int32} {σ : g_st} {a n : Nat} {T : Nat → Nat} (h : MT M th σ) (o : ra M a n T) (hw : gw n T) (ha : a ≠ 31 ∧ a < 44) : mm_S 35 mX10_laysRoot 0 0 [.ref 31, .ref a] M (fun r M' => r = some (.int (ks_b (g_any T))) ∧ (MT M' th σ ∧ ra M' a n T) ∧ (g_any T → two (g_fst T) ∧ ((g_fst T).length ≤ 14 ∧ ∀ C, C ∈ g_fst T → C < 2 ^ n) ∧ lh M' n (g_fst T) (fun _ => 2) ∧ mm_fd M' 31 10 31 (.int (nI (nah (g_fst T) n)))) ∧ fH M M') := by
  have hn := hw.1
  refine mm_S.of rfl rfl (Nat.le_of_ble_eq_true rfl) (fun r M' h x e => by rw [h.1] at e; cases e) (bX10_laysRoot_0 (h.fdr 10 33 (by decide)).rc (mm_Call.of (s_laysCovers h o hw ha) (by decide) ?_))
  rintro r M1 ⟨h1, ⟨N, B, rfl, k1, k2, k3, k4⟩, k5⟩
  have o1 : ra M1 a n T := mm_at.eq o (k5 a ha.1 (Or.inl ha.2))
  have f0 : fH M M1 := fun j j1 j2 => k5 j j1 (by omega)
  refine bX10_laysRoot_5 (fun c => ?_) (fun c => ?_)
  rotate_left
  · rw [ks_eq0 (by omega)] at c
    have := lkq_n k2 c
    exact ⟨by rw [ks_bf this], ⟨h1, o1⟩, fun q => absurd q this, f0⟩
  rw [ks_eq0 (by omega)] at c
  obtain ⟨q1, q2, q3⟩ := lkq_y k2 c
  obtain ⟨lB, vB⟩ := lkq_len hw k2
  have lB14 : B.length ≤ 14 := by omega
  rw [q2, ks_bt q1, show (0 : Int32) = nI 0 from rfl]
  have rb : ∀ {p w : Nat}, p < n → w < 2 → re B p w < 2 ^ 20 := fun {p w} hp hw' => re_b q3 lB14 hn hp hw'
  have nb := nah_le (B := B) (p := n)
  obtain ⟨f48, o48⟩ := h1.sc 48 14 (by decide)
  obtain ⟨f49, o49⟩ := h1.sc 49 14 (by decide)
  -- nothing is joined yet
  refine fld (s := 0) (n := n) (G := fun p (q : mm_Mem) => mm_X mX10_laysRoot 35 none (0, 0) 12 [.ref 31, .ref a, .int (nI p), .null] [] q _) (v0 := M1) (I := fun p q => MT q th σ ∧ (∃ f g, mm_at q 48 (mm_aI 14 f) ∧ mm_at q 49 (mm_aI 14 g) ∧ ∀ i, i < p → f i = -1 ∧ g i = -1) ∧ ∀ j, j ≠ 48 → j ≠ 49 → q j = M1 j) (Nat.zero_le n) ⟨h1, ⟨f48, f49, o48, o49, fun i hi => absurd hi (Nat.not_lt_zero i)⟩, fun _ _ _ => rfl⟩ ?_
  rintro p M2 _ hp ⟨h2, ⟨f, g, w1, w2, w3⟩, e2⟩ ih
  have o2 : ra M2 a n T := mm_at.eq o1 (e2 a (by omega) (by omega))
  obtain ⟨x31, f31⟩ := h2.fi 31 (by decide)
  have f27 := k3.eq (e2 31 (by decide) (by decide))
  refine bX10_laysRoot_12 o2 w1 w2 f27 f31 (h2.fdr 29 48 (by decide)) (h2.fdr 30 49 (by decide)) (by decide) (by decide) gk_in0 (fun c1 => ?_) (fun c1 => ?_) (fun c1 => ?_) (fun c1 => ?_)
  rotate_left
  · rw [gk_0, ks_le (by omega) (by omega)] at c1
    exact vp_in_nI (by omega) (by decide)
  · rw [gk_0, ks_le (by omega) (by omega)] at c1
    exact vp_in_nI (by omega) (by decide)
  · rw [gk_0, ks_le (by omega) (by omega)] at c1
    rw [nI_clamp (by omega), nI_1]
    refine ih _ (by omega) ⟨(h2.upA 48 14 _ (by decide) (by decide)).upA 49 14 _ (by decide) (by decide), ⟨_, _, (mm_at.s w1.1).n (by decide), mm_at.s w2.1, fun i hi => ?_⟩, fun j j1 j2 => ((mm_up_n j2).trans (mm_up_n j1)).trans (e2 j j1 j2)⟩
    by_cases u : i = p
    · subst u
      rw [pk_us, pk_us]
      exact ⟨rfl, rfl⟩
    · rw [pk_un u, pk_un u]
      exact w3 i (by omega)
  rw [gk_0, ks_le (by omega) (by omega)] at c1
  obtain rfl : p = n := by omega
  have l0 : lr M (mm_upF M2 31 31 (.int (nI B.length))) th σ a p T B (fun _ => 0) := by
    have e3 : ∀ j, j ≠ 31 → mm_upF M2 31 31 (.int (nI B.length)) j = M2 j := fun j hj => mm_upF_n hj
    refine ⟨⟨h2.upI 31 _ (by decide) (by decide) (by decide) (by decide) (by decide), mm_at.eq o2 (e3 a ha.1)⟩, ⟨f, g, w1.eq (e3 48 (by decide)), w2.eq (e3 49 (by decide)), w3⟩, f27.n (by decide), k4.eq ((e3 47 (by decide)).trans (e2 47 (by decide) (by decide))), fun j j1 j2 => by rw [e3 j j1, e2 j (by omega) (by omega), f0 j j1 j2]⟩
  have r0 : mm_fd (mm_upF M2 31 31 (.int (nI B.length))) 31 10 31 (.int (nI B.length)) := f31.s
  generalize mm_upF M2 31 31 (.int (nI B.length)) = M3 at l0 r0 ⊢
  clear f31 f27 o2 e2 w1 w2 w3 h2 ih
  -- by the cliques
  refine fld (s := 0) (n := B.length) (G := fun k (q : mm_Mem) => mm_X mX10_laysRoot 35 none (0, 0) 49 [.ref 31, .ref a, .int (nI k), .null] [] q _) (v0 := M3) (I := fun k q => lr M q th σ a p T B (fun x => ctk B x k) ∧ mm_fd q 31 10 31 (.int (nI B.length))) (Nat.zero_le _) ⟨l0, r0⟩ ?_
  rintro k M4 _ hk ⟨l4, r4⟩ ih
  refine bX10_laysRoot_49 l4.2.2.1 (fun c2 => ?_) (fun c2 => ?_)
  rotate_left
  · rw [ks_le (by omega) (by omega)] at c2
    rw [show (0 : Int32) = nI 0 from rfl]
    have hC := ks_getD (B := B) (k := k) (by omega)
    have vC := vB _ (List.mem_of_getElem? hC)
    have vC' := ks_p14 hn vC
    refine fld (s := 0) (n := p) (G := fun i (q : mm_Mem) => mm_X mX10_laysRoot 35 none (0, 0) 59 [.ref 31, .ref a, .int (nI k), .int (nI i)] [] q _) (v0 := M4) (I := fun i q => lr M q th σ a p T B (fun x => if x < i then ctk B x (k + 1) else ctk B x k) ∧ mm_fd q 31 10 31 (.int (nI B.length))) (Nat.zero_le _) ⟨⟨l4.1, l4.2.1.c fun x _ => by rw [if_neg (Nat.not_lt_zero x)], l4.2.2⟩, r4⟩ ?_
    rintro i M5 _ hi ⟨l5, r5⟩ ih2
    obtain ⟨fb, b1, b2⟩ := id l5.2.2.2.1
    refine bX10_laysRoot_59 l5.1.2 b1 (l5.1.1.fdr 25 47 (by decide)) (by decide) gk_in0 (fun c3 => ?_) (fun c3 => ?_) (fun c3 c4 => ?_) (fun c3 c4 => ?_)
    · rw [gk_0, ks_le (by omega) (by omega)] at c3
      rw [nI_1]
      exact ih M5 (by omega) ⟨⟨l5.1, l5.2.1.c fun x hx => by rw [if_pos (by omega)], l5.2.2⟩, r5⟩
    · exact vp_in_nI (by omega) (by decide)
    · rw [gk_0, ks_le (by omega) (by omega)] at c3
      rw [nI_clamp (by omega), b2 k _ hC, ks_mhas (by omega) (by omega), ks_b0] at c4
      refine bX10_laysRoot_85 ?_
      rw [nI_1]
      refine ih2 M5 (by omega) ⟨⟨l5.1, l5.2.1.c fun x hx => ?_, l5.2.2⟩, r5⟩
      by_cases u : x = i
      · subst u
        rw [if_neg (by omega), if_pos (by omega), ctk_s, if_neg c4, Nat.add_zero]
      · by_cases v : x < i
        · rw [if_pos v, if_pos (by omega)]
        · rw [if_neg v, if_neg (by omega)]
    · rw [gk_0, ks_le (by omega) (by omega)] at c3
      rw [nI_clamp (by omega), b2 k _ hC, ks_mhas (by omega) (by omega), ks_b0, Classical.not_not] at c4
      have hlt := ctk_lt (l := B.length) (by omega) c4
      have h2i := q3 i
      have cn : cnt B i = ctk B i B.length := rfl
      have hre : re B i (ctk B i k) = k := re_eq (Or.inl ⟨hlt, by omega, c4, rfl⟩)
      refine mm_Call.of (s_joins (n := p) (x := nI k) (l5.1.1.fdr 29 48 (by decide)) (l5.1.1.fdr 30 49 (by decide)) l5.2.1 q3 lB14 hn (show i < p by omega) ?_) (by decide) ?_
      · rw [if_neg (Nat.lt_irrefl i)]
        rcases Nat.lt_or_ge (ctk B i k) 1 with u | u
        · have u0 : ctk B i k = 0 := by omega
          rw [u0] at hre
          exact Or.inl ⟨u0, by rw [hre]⟩
        · have u1 : ctk B i k = 1 := by omega
          rw [u1] at hre
          exact Or.inr ⟨u1, by rw [hre]⟩
      rintro _ M6 ⟨rfl, z1, z2⟩
      obtain ⟨l6, e6⟩ := lr_j ha l5 z1 z2
      refine bX10_laysRoot_85 ?_
      rw [nI_1]
      refine ih2 M6 (by omega) ⟨⟨l6.1, l6.2.1.c fun x hx => ?_, l6.2.2⟩, r5.eq (e6 31 (by decide) (by decide))⟩
      by_cases u : x = i
      · subst u
        rw [if_pos rfl, if_neg (Nat.lt_irrefl x), if_pos (by omega), ctk_s, if_pos c4]
      · rw [if_neg u]
        by_cases v : x < i
        · rw [if_pos v, if_pos (by omega)]
        · rw [if_neg v, if_neg (by omega)]
  rw [ks_le (by omega) (by omega)] at c2
  obtain rfl : k = B.length := by omega
  clear ih
  rw [show (0 : Int32) = nI 0 from rfl]
  -- the points given
  refine fld (s := 0) (n := p) (G := fun i (q : mm_Mem) => mm_X mX10_laysRoot 35 none (0, 0) 99 [.ref 31, .ref a, .int (nI i), .null] [] q _) (v0 := M4) (I := fun i q => lr M q th σ a p T B (fun x => if x < i then 2 else cnt B x) ∧ mm_fd q 31 10 31 (.int (nI (nah B i)))) (Nat.zero_le _) ⟨⟨l4.1, l4.2.1.c fun x _ => by rw [if_neg (Nat.not_lt_zero x)]; rfl, l4.2.2⟩, r4⟩ ?_
  rintro i M5 _ hi ⟨l5, r5⟩ ih
  refine bX10_laysRoot_99 l5.1.2 gk_in0 (fun c3 => ?_) (fun c3 => ?_)
  · rw [gk_0, ks_le (by omega) (by omega)] at c3
    obtain rfl : i = p := by omega
    exact ⟨rfl, l5.1, fun _ => ⟨q3, ⟨lB14, vB⟩, l5.2.1.c fun x hx => by rw [if_pos hx], r5⟩, l5.2.2.2.2⟩
  rw [gk_0, ks_le (by omega) (by omega)] at c3
  have h2i := q3 i
  have H : ∀ m c, cnt B i ≤ c → c + m = 2 → ∀ M6, lr M M6 th σ a p T B (fun x => if x < i then 2 else if x = i then c else cnt B x) → mm_fd M6 31 10 31 (.int (nI (nah B i + (c - cnt B i)))) → mm_X mX10_laysRoot 35 none (0, 0) 106 [.ref 31, .ref a, .int (nI i), .null] [] M6 (fun r M' => r = some (.int 1) ∧ (MT M' th σ ∧ ra M' a p T) ∧ (g_any T → two B ∧ (B.length ≤ 14 ∧ ∀ C, C ∈ B → C < 2 ^ p) ∧ lh M' p B (fun _ => 2) ∧ mm_fd M' 31 10 31 (.int (nI (nah B p)))) ∧ fH M M') := by
    intro m
    induction m with
    | zero =>
      intro c hc hm M6 l6 r6
      obtain rfl : c = 2 := by omega
      obtain ⟨g1, g2, g3, g4, g5⟩ := id l6.2.1
      have v2 := (g5 i (by omega)).2
      dsimp only at v2
      rw [if_neg (Nat.lt_irrefl i), if_pos rfl] at v2
      have b1 := rb (p := i) (w := 1) (by omega) (by decide)
      refine bX10_laysRoot_106 g4 (l6.1.1.fdr 30 49 (by decide)) r6 (vp_in_nI (by omega) (by decide)) (fun _ => ?_) (fun e => ?_)
      · rw [nI_1]
        refine ih M6 (by omega) ⟨⟨l6.1, l6.2.1.c fun x hx => ?_, l6.2.2⟩, by rw [nah_s]; exact r6⟩
        by_cases u : x = i
        · subst u
          rw [if_neg (Nat.lt_irrefl x), if_pos rfl, if_pos (by omega)]
        · by_cases v : x < i
          · rw [if_pos v, if_pos (by omega)]
          · rw [if_neg v, if_neg u, if_neg (by omega)]
      · rw [nI_clamp (by omega), v2] at e
        exact absurd e (nI_m1 (by omega))
    | succ m im =>
      intro c hc hm M6 l6 r6
      obtain ⟨g1, g2, g3, g4, g5⟩ := id l6.2.1
      have v2 := (g5 i (by omega)).2
      dsimp only at v2
      rw [if_neg (Nat.lt_irrefl i), if_pos rfl] at v2
      have c1' : c ≤ 1 := by omega
      have hre : re B i c = nah B i + (c - cnt B i) := re_eq (Or.inr ⟨hc, rfl⟩)
      refine bX10_laysRoot_106 g4 (l6.1.1.fdr 30 49 (by decide)) r6 (vp_in_nI (by omega) (by decide)) (fun e => ?_) (fun _ => ?_)
      · rw [nI_clamp (by omega), v2] at e
        unfold hg at e
        rw [if_neg (by omega)] at e
        exact absurd rfl e
      · refine mm_Call.of (s_joins (n := p) (l6.1.1.fdr 29 48 (by decide)) (l6.1.1.fdr 30 49 (by decide)) l6.2.1 q3 lB14 hn (show i < p by omega) ?_) (by decide) ?_
        · rw [if_neg (Nat.lt_irrefl i), if_pos rfl]
          rcases Nat.lt_or_ge c 1 with u | u
          · obtain rfl : c = 0 := by omega
            exact Or.inl ⟨rfl, by rw [hre]⟩
          · obtain rfl : c = 1 := by omega
            exact Or.inr ⟨rfl, by rw [hre]⟩
        rintro _ M7 ⟨rfl, z1, z2⟩
        obtain ⟨l7, e7⟩ := lr_j ha l6 z1 z2
        have r7 := r6.eq (e7 31 (by decide) (by decide))
        refine bX10_laysRoot_125 r7 ?_
        rw [nI_1]
        have e8 : ∀ j, j ≠ 31 → mm_upF M7 31 31 (.int (nI (nah B i + (c - cnt B i) + 1))) j = M7 j := fun j hj => mm_upF_n hj
        refine im (c + 1) (by omega) (by omega) _ ⟨⟨l7.1.1.upI 31 _ (by decide) (by decide) (by decide) (by decide) (by decide), mm_at.eq l7.1.2 (e8 a ha.1)⟩, (l7.2.1.c fun x hx => ?_).eq (e8 48 (by decide)) (e8 49 (by decide)), l7.2.2.1.n (by decide), l7.2.2.2.1.eq (e8 47 (by decide)), fun j j1 j2 => (e8 j j1).trans (l7.2.2.2.2 j j1 j2)⟩ ?_
        · by_cases u : x = i
          · subst u
            rw [if_pos rfl, if_neg (Nat.lt_irrefl x), if_pos rfl, if_neg (Nat.lt_irrefl x), if_pos rfl]
          · rw [if_neg u]
            by_cases v : x < i
            · rw [if_pos v, if_pos v]
            · rw [if_neg v, if_neg u, if_neg v, if_neg u]
        · rw [show nah B i + (c + 1 - cnt B i) = nah B i + (c - cnt B i) + 1 from by omega]
          exact r7.s
  refine H (2 - cnt B i) (cnt B i) (Nat.le_refl _) (by omega) M5 ⟨l5.1, l5.2.1.c fun x hx => ?_, l5.2.2⟩ (by rw [Nat.sub_self, Nat.add_zero]; exact r5)
  by_cases u : x = i
  · subst u
    rw [if_neg (Nat.lt_irrefl x), if_neg (Nat.lt_irrefl x), if_pos rfl]
  · by_cases v : x < i
    · rw [if_pos v, if_pos v]
    · rw [if_neg v, if_neg v, if_neg u]
