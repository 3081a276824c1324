/-! THE LINES IN THEIR ORDER -/
abbrev g_prs : Type := List (Nat × Nat)
def gl_row (T : Nat → Nat) (a : Nat) : Nat → g_prs
  | 0 => []
  | b + 1 => gl_row T a b ++ (if a < b ∧ (T a).testBit b = true then [(a, b)] else [])
def gl_pre (n : Nat) (T : Nat → Nat) : Nat → g_prs
  | 0 => []
  | a + 1 => gl_pre n T a ++ gl_row T a n
def gl (n : Nat) (T : Nat → Nat) : g_prs := gl_pre n T n
theorem gl_row_0 {T : Nat → Nat} {a : Nat} : ∀ b, b ≤ a + 1 → gl_row T a b = []
  | 0, _ => rfl
  | b + 1, h => by
    show gl_row T a b ++ _ = []
    rw [gl_row_0 b (by omega), if_neg (by omega)]
    rfl
theorem gl_row_pre {T : Nat → Nat} {a b : Nat} : ∀ c, b ≤ c → ∃ R, gl_row T a c = gl_row T a b ++ R
  | 0, h => by
    obtain rfl : b = 0 := by omega
    exact ⟨[], rfl⟩
  | c + 1, h => by
    rcases Nat.lt_or_ge c b with q | q
    · obtain rfl : b = c + 1 := by omega
      exact ⟨[], (List.append_nil _).symm⟩
    · obtain ⟨R, hR⟩ := gl_row_pre (T := T) (a := a) c q
      exact ⟨R ++ (if a < c ∧ (T a).testBit c = true then [(a, c)] else []), by
        show gl_row T a c ++ _ = _
        rw [hR, List.append_assoc]⟩
theorem gl_pre_pre {n : Nat} {T : Nat → Nat} {a : Nat} : ∀ c, a ≤ c → ∃ R, gl_pre n T c = gl_pre n T a ++ R
  | 0, h => by
    obtain rfl : a = 0 := by omega
    exact ⟨[], rfl⟩
  | c + 1, h => by
    rcases Nat.lt_or_ge c a with q | q
    · obtain rfl : a = c + 1 := by omega
      exact ⟨[], (List.append_nil _).symm⟩
    · obtain ⟨R, hR⟩ := gl_pre_pre (n := n) (T := T) c q
      exact ⟨R ++ gl_row T c n, by
        show gl_pre n T c ++ _ = _
        rw [hR, List.append_assoc]⟩
/-- what is ahead of a and b -/
def glp (n : Nat) (T : Nat → Nat) (a b : Nat) : g_prs := gl_pre n T a ++ gl_row T a b
theorem glp_pre {n a b : Nat} {T : Nat → Nat} (ha : a < n) (hb : b ≤ n) : ∃ R, gl n T = glp n T a b ++ R := by
  obtain ⟨R1, h1⟩ := gl_pre_pre (n := n) (T := T) (a := a + 1) n ha
  obtain ⟨R2, h2⟩ := gl_row_pre (T := T) (a := a) (b := b) n hb
  refine ⟨R2 ++ R1, ?_⟩
  show gl_pre n T n = _
  rw [h1]
  show gl_pre n T a ++ gl_row T a n ++ R1 = gl_pre n T a ++ gl_row T a b ++ (R2 ++ R1)
  rw [h2, List.append_assoc, List.append_assoc, List.append_assoc]
theorem glp_s {n a b : Nat} {T : Nat → Nat} (h : a < b) (ht : (T a).testBit b = true) : glp n T a (b + 1) = glp n T a b ++ [(a, b)] := by
  show gl_pre n T a ++ (gl_row T a b ++ _) = _
  rw [if_pos ⟨h, ht⟩, ← List.append_assoc]
  rfl
theorem glp_n {n a b : Nat} {T : Nat → Nat} (ht : ¬ (T a).testBit b = true) : glp n T a (b + 1) = glp n T a b := by
  show gl_pre n T a ++ (gl_row T a b ++ _) = _
  rw [if_neg (fun h => ht h.2), List.append_nil]
  rfl
theorem glp_e {n a : Nat} {T : Nat → Nat} (h : a < n) : glp n T (a + 1) (a + 1 + 1) = glp n T a n := by
  unfold glp
  rw [gl_row_0 _ (Nat.le_refl _), List.append_nil]
  rfl
theorem glp_e0 {n a : Nat} {T : Nat → Nat} : glp n T a (a + 1) = gl_pre n T a := by
  unfold glp
  rw [gl_row_0 _ (Nat.le_refl _), List.append_nil]
theorem glp_at {n a b : Nat} {T : Nat → Nat} (ha : a < n) (hb : b < n) (h : a < b) (ht : (T a).testBit b = true) : (gl n T)[(glp n T a b).length]? = some (a, b) := by
  obtain ⟨R, hR⟩ := glp_pre (T := T) ha (show b + 1 ≤ n from hb)
  rw [hR, glp_s h ht, List.append_assoc, List.getElem?_append_right (Nat.le_refl _), Nat.sub_self]
  rfl
theorem glp_lt {n a b : Nat} {T : Nat → Nat} (ha : a < n) (hb : b < n) (h : a < b) (ht : (T a).testBit b = true) : (glp n T a b).length < (gl n T).length := (List.getElem?_eq_some_iff.mp (glp_at ha hb h ht)).1
theorem gl_row_mem {T : Nat → Nat} {a : Nat} : ∀ {b : Nat} {q : Nat × Nat}, q ∈ gl_row T a b → q.1 = a ∧ a < q.2 ∧ q.2 < b ∧ (T a).testBit q.2 = true
  | 0, _, h => by cases h
  | b + 1, q, h => by
    rcases List.mem_append.mp h with h | h
    · obtain ⟨h1, h2, h3, h4⟩ := gl_row_mem h
      exact ⟨h1, h2, by omega, h4⟩
    · by_cases c : a < b ∧ (T a).testBit b = true
      · rw [if_pos c] at h
        obtain rfl := List.mem_singleton.mp h
        exact ⟨rfl, c.1, Nat.lt_succ_self b, c.2⟩
      · rw [if_neg c] at h
        cases h
theorem gl_pre_mem {n : Nat} {T : Nat → Nat} : ∀ {a : Nat} {q : Nat × Nat}, q ∈ gl_pre n T a → q.1 < a ∧ q.1 < q.2 ∧ q.2 < n ∧ (T q.1).testBit q.2 = true
  | 0, _, h => by cases h
  | a + 1, q, h => by
    rcases List.mem_append.mp h with h | h
    · obtain ⟨h1, h2, h3, h4⟩ := gl_pre_mem h
      exact ⟨by omega, h2, h3, h4⟩
    · obtain ⟨h1, h2, h3, h4⟩ := gl_row_mem h
      rw [h1]
      exact ⟨Nat.lt_succ_self a, h2, h3, h4⟩
theorem gl_at {n i : Nat} {T : Nat → Nat} {q : Nat × Nat} (h : (gl n T)[i]? = some q) : q.1 < q.2 ∧ q.2 < n ∧ (T q.1).testBit q.2 = true := (gl_pre_mem (List.mem_of_getElem? h)).2
theorem gl_row_len {T : Nat → Nat} {a : Nat} : ∀ b, (gl_row T a b).length ≤ b - (a + 1)
  | 0 => Nat.zero_le _
  | b + 1 => by
    have := gl_row_len (T := T) (a := a) b
    show (gl_row T a b ++ _).length ≤ _
    rw [List.length_append]
    by_cases c : a < b ∧ (T a).testBit b = true
    · rw [if_pos c, List.length_singleton]
      omega
    · rw [if_neg c]
      show _ + 0 ≤ _
      omega
theorem gl_pre_len {n : Nat} {T : Nat → Nat} (hn : n ≤ 14) : ∀ a, a ≤ 14 → (gl_pre n T a).length ≤ gs (fun i => 13 - i) a
  | 0, _ => Nat.zero_le _
  | a + 1, h => by
    have h1 := gl_pre_len (T := T) hn a (by omega)
    have h2 := gl_row_len (T := T) (a := a) n
    show (gl_pre n T a ++ _).length ≤ gs _ a + (13 - a)
    rw [List.length_append]
    omega
theorem gl_len {n : Nat} {T : Nat → Nat} (hn : n ≤ 14) : (gl n T).length ≤ 91 := by
  refine Nat.le_trans (gl_pre_len hn n hn) ?_
  have : ∀ m, m ≤ 14 → gs (fun i => 13 - i) m ≤ 91 := by decide
  exact this n hn
theorem glp_le {n a b : Nat} {T : Nat → Nat} (hn : n ≤ 14) (ha : a < n) (hb : b ≤ n) : (glp n T a b).length ≤ 91 := by
  obtain ⟨R, hR⟩ := glp_pre (T := T) ha hb
  have := gl_len (T := T) hn
  rw [hR, List.length_append] at this
  omega
/-! how many: every line is counted at both ends -/
theorem gs_add {f g : Nat → Nat} : ∀ n, gs (fun i => f i + g i) n = gs f n + gs g n
  | 0 => rfl
  | n + 1 => by
    show gs (fun i => f i + g i) n + (f n + g n) = gs f n + f n + (gs g n + g n)
    rw [gs_add n]
    omega
theorem gs_swap {f : Nat → Nat → Nat} (m : Nat) : ∀ n, gs (fun a => gs (fun b => f a b) m) n = gs (fun b => gs (fun a => f a b) n) m
  | 0 => (gs_z (f := fun b => gs (fun a => f a b) 0) fun _ _ => rfl).symm
  | n + 1 => by
    show gs (fun a => gs (fun b => f a b) m) n + gs (fun b => f n b) m = gs (fun b => gs (fun a => f a b) n + f n b) m
    rw [gs_swap m n, gs_add (f := fun b => gs (fun a => f a b) n) (g := fun b => f n b)]
theorem gl_row_cnt {T : Nat → Nat} {a : Nat} : ∀ b, (gl_row T a b).length = gs (fun x => g1 (a < x ∧ (T a).testBit x = true)) b
  | 0 => rfl
  | b + 1 => by
    show (gl_row T a b ++ _).length = gs _ b + g1 _
    rw [List.length_append, gl_row_cnt b]
    by_cases c : a < b ∧ (T a).testBit b = true
    · rw [if_pos c, g1_t c]
      rfl
    · rw [if_neg c, g1_f c]
      rfl
theorem gl_pre_cnt {n : Nat} {T : Nat → Nat} : ∀ a, (gl_pre n T a).length = gs (fun x => gs (fun y => g1 (x < y ∧ (T x).testBit y = true)) n) a
  | 0 => rfl
  | a + 1 => by
    show (gl_pre n T a ++ _).length = gs _ a + gs _ n
    rw [List.length_append, gl_pre_cnt a, gl_row_cnt]
theorem g_lines_len {n : Nat} {T : Nat → Nat} (hw : gw n T) : g_lines n T = (gl n T).length := by
  have h1 : gs (fun p => ks_pop (T p)) n = gs (fun a => gs (fun b => g1 (a < b ∧ (T a).testBit b = true) + g1 (b < a ∧ (T a).testBit b = true)) n) n := by
    refine gs_eq fun a ha => ?_
    rw [ks_popn hw.1 (hw.2.1 a)]
    refine gs_eq fun b hb => ?_
    by_cases c : (T a).testBit b = true
    · rcases Nat.lt_trichotomy a b with q | q | q
      · rw [g1_t c, g1_t ⟨q, c⟩, g1_f fun h => by omega]
      · subst q
        rw [hw.2.2.2.2 a] at c
        cases c
      · rw [g1_t c, g1_f (fun h => by omega), g1_t ⟨q, c⟩]
    · rw [g1_f c, g1_f fun h => c h.2, g1_f fun h => c h.2]
  have h2 : gs (fun a => gs (fun b => g1 (b < a ∧ (T a).testBit b = true)) n) n = gs (fun a => gs (fun b => g1 (a < b ∧ (T a).testBit b = true)) n) n := by
    rw [gs_swap]
    refine gs_eq fun a ha => gs_eq fun b hb => g1_c ?_
    rw [hw.2.2.2.1 b a]
  unfold g_lines
  show gs (fun p => ks_pop (T p)) n / 2 = (gl_pre n T n).length
  rw [gl_pre_cnt, h1]
  rw [show gs (fun a => gs (fun b => g1 (a < b ∧ (T a).testBit b = true) + g1 (b < a ∧ (T a).testBit b = true)) n) n = gs (fun a => gs (fun b => g1 (a < b ∧ (T a).testBit b = true)) n + gs (fun b => g1 (b < a ∧ (T a).testBit b = true)) n) n from gs_eq fun a _ => gs_add n, gs_add (f := fun a => gs (fun b => g1 (a < b ∧ (T a).testBit b = true)) n), h2]
  omega
/-! the class: the two points of a line -/
theorem s_endsOf {M : mm_Mem} {k n : Nat} {T : Nat → Nat} {x : Int32} (o : na M k n T) (hw : gw n T) : mm_S 2 mX3_endsOf 0 0 [.ref k, .int x] M (fun r M' => (∃ i a b, x = nI i ∧ (gl n T)[i]? = some (a, b) ∧ r = some (.int (nI (2 ^ a ||| 2 ^ b))) ∧ M' = M) ∨ (¬ (∃ i, i < (gl n T).length ∧ x = nI i) ∧ r = some (.int 0) ∧ M' = M)) := by
  have hn := hw.1
  refine mm_S.of rfl rfl (Nat.le_of_ble_eq_true rfl) (fun r M' h x e => by rcases h with ⟨i, a, b, h⟩ | h <;> (first | rw [h.2.2.1] at e | rw [h.2.1] at e) <;> cases e) (bX3_endsOf_0 ?_)
  refine fld (s := 0) (G := fun j v => mm_X mX3_endsOf 2 none (0, 0) 4 [.ref k, .int x, .int (nI v), .int (nI j), .null] [] M _) (I := fun j v => v = (gl_pre n T j).length ∧ ∀ i, i < v → x ≠ nI i) (Nat.zero_le n) ⟨rfl, fun i h => absurd h (Nat.not_lt_zero i)⟩ ?_
  rintro a v _ ha ⟨rfl, hx⟩ ih
  have ta := gw_ok hw a
  refine bX3_endsOf_4 o.1 (fun c => Or.inr ⟨?_, rfl, rfl⟩) (fun c => ?_)
  · simp (disch := omega) only [ks_le, ks_ltI, ks_eqI, ks_eq0, ks_le14, ks_has, ks_mhas, ks_at, ks_b0, gk_0, gk_1, ks_andn, nx_and, nx_or, nx_xor, ks_shl1, ks_shl2, Classical.not_not, nI_1] at c
    obtain rfl : a = n := by omega
    rintro ⟨i, hi, e⟩
    exact hx i hi e
  simp (disch := omega) only [ks_le, ks_ltI, ks_eqI, ks_eq0, ks_le14, ks_has, ks_mhas, ks_at, ks_b0, gk_0, gk_1, ks_andn, nx_and, nx_or, nx_xor, ks_shl1, ks_shl2, Classical.not_not, nI_1] at c
  rw [nI_1]
  refine fld (s := a + 1) (n := n) (G := fun j v => mm_X mX3_endsOf 2 none (0, 0) 17 [.ref k, .int x, .int (nI v), .int (nI a), .int (nI j)] [] M _) (I := fun j v => v = (glp n T a j).length ∧ ∀ i, i < v → x ≠ nI i) (by omega) ⟨by rw [glp_e0], hx⟩ ?_
  rintro b v hab hb ⟨rfl, hx⟩ ih2
  have hl := glp_le (T := T) hn (show a < n by omega) hb
  refine bX3_endsOf_17 o.1 o.2 (by decide) (fun c2 => ?_) (fun c2 c3 c4 => ?_) (fun c2 c3 c4 => ?_) (fun c2 c3 => ?_)
  · simp (disch := omega) only [ks_le, ks_ltI, ks_eqI, ks_eq0, ks_le14, ks_has, ks_mhas, ks_at, ks_b0, gk_0, gk_1, ks_andn, nx_and, nx_or, nx_xor, ks_shl1, ks_shl2, Classical.not_not, nI_1] at c2
    obtain rfl : b = n := by omega
    rw [nI_1]
    exact ih _ (by omega) ⟨rfl, hx⟩
  · simp (disch := omega) only [ks_le, ks_ltI, ks_eqI, ks_eq0, ks_le14, ks_has, ks_mhas, ks_at, ks_b0, gk_0, gk_1, ks_andn, nx_and, nx_or, nx_xor, ks_shl1, ks_shl2, Classical.not_not, nI_1] at c2
    simp (disch := omega) only [ks_le, ks_ltI, ks_eqI, ks_eq0, ks_le14, ks_has, ks_mhas, ks_at, ks_b0, gk_0, gk_1, ks_andn, nx_and, nx_or, nx_xor, ks_shl1, ks_shl2, Classical.not_not, nI_1] at c3
    rw [nI_1, nI_1]
    refine ih2 _ (by omega) ⟨by rw [glp_s (by omega) c3, List.length_append]; rfl, fun i hi => ?_⟩
    rcases Nat.lt_or_ge i (glp n T a b).length with q | q
    · exact hx i q
    · obtain rfl : i = (glp n T a b).length := by omega
      exact fun e => c4 e.symm
  · simp (disch := omega) only [ks_le, ks_ltI, ks_eqI, ks_eq0, ks_le14, ks_has, ks_mhas, ks_at, ks_b0, gk_0, gk_1, ks_andn, nx_and, nx_or, nx_xor, ks_shl1, ks_shl2, Classical.not_not, nI_1] at c2
    simp (disch := omega) only [ks_le, ks_ltI, ks_eqI, ks_eq0, ks_le14, ks_has, ks_mhas, ks_at, ks_b0, gk_0, gk_1, ks_andn, nx_and, nx_or, nx_xor, ks_shl1, ks_shl2, Classical.not_not, nI_1] at c3
    rw [ks_shl1 _ (by omega), ks_shl1 _ (by omega), nx_or]
    exact Or.inl ⟨_, a, b, c4.symm, glp_at (by omega) (by omega) (by omega) c3, rfl, rfl⟩
  · simp (disch := omega) only [ks_le, ks_ltI, ks_eqI, ks_eq0, ks_le14, ks_has, ks_mhas, ks_at, ks_b0, gk_0, gk_1, ks_andn, nx_and, nx_or, nx_xor, ks_shl1, ks_shl2, Classical.not_not, nI_1] at c2
    simp (disch := omega) only [ks_le, ks_ltI, ks_eqI, ks_eq0, ks_le14, ks_has, ks_mhas, ks_at, ks_b0, gk_0, gk_1, ks_andn, nx_and, nx_or, nx_xor, ks_shl1, ks_shl2, Classical.not_not, nI_1] at c3
    rw [nI_1]
    exact ih2 _ (by omega) ⟨by rw [glp_n c3], hx⟩
/-! the model: its two rows of points -/
def g_two_f (L : g_prs) (f g : Nat → Int32) : Prop := ∀ (i : Nat) (q : Nat × Nat), L[i]? = some q → f i = nI q.1 ∧ g i = nI q.2
theorem g_two_add {L : g_prs} {f g : Nat → Int32} {a b : Nat} (h : g_two_f L f g) : g_two_f (L ++ [(a, b)]) (upd f L.length (nI a)) (upd g L.length (nI b)) := by
  intro i q hi
  by_cases e : i < L.length
  · rw [List.getElem?_append_left e] at hi
    rw [pk_un (by omega), pk_un (by omega)]
    exact h i q hi
  · rw [List.getElem?_append_right (by omega)] at hi
    have e2 : i = L.length := by
      have := (List.getElem?_eq_some_iff.mp hi).1
      simp at this
      omega
    subst e2
    rw [Nat.sub_self] at hi
    cases hi
    rw [pk_us, pk_us]
    exact ⟨rfl, rfl⟩
theorem s_laysLines {M : mm_Mem} {F : Nat → Int32} {w : Int64} {k n : Nat} {T : Nat → Nat} (h : mo M F w) (o : ra M k n T) (hw : gw n T) (h1 : rj M 51 91) (h2 : rj M 52 91) (k1 : k ≠ 51) (k2 : k ≠ 52) : mm_S 2 mX10_laysLines 0 0 [.ref 31, .ref k] M (fun r M' => r = some (.int (nI (gl n T).length)) ∧ (∃ f g, mm_at M' 51 (mm_aI 91 f) ∧ mm_at M' 52 (mm_aI 91 g) ∧ g_two_f (gl n T) f g) ∧ ∀ j, j ≠ 51 → j ≠ 52 → M' j = M j) := by
  have hn := hw.1
  obtain ⟨f0, o1⟩ := h1
  obtain ⟨g0, o2⟩ := h2
  have lt : ∀ j, j ≤ n → ¬ gk_f n T (Int32.toNatClampNeg 0) ≤ nI j → j < n := by
    intro j hj c
    rw [gk_0, ks_le (by omega) (by omega)] at c
    omega
  have eq : ∀ j, j ≤ n → gk_f n T (Int32.toNatClampNeg 0) ≤ nI j → j = n := by
    intro j hj c
    rw [gk_0, ks_le (by omega) (by omega)] at c
    omega
  refine mm_S.of rfl rfl (Nat.le_of_ble_eq_true rfl) (fun r M' h x e => by rw [h.1] at e; cases e) (bX10_laysLines_0 ?_)
  refine fld (s := 0) (G := fun j (q : Nat × mm_Mem) => mm_X mX10_laysLines 2 none (0, 0) 4 [.ref 31, .ref k, .int (nI q.1), .int (nI j), .null] [] q.2 _) (v0 := (0, M)) (I := fun j q => q.1 = (gl_pre n T j).length ∧ (∃ f g, mm_at q.2 51 (mm_aI 91 f) ∧ mm_at q.2 52 (mm_aI 91 g) ∧ g_two_f (gl_pre n T j) f g) ∧ ∀ j, j ≠ 51 → j ≠ 52 → q.2 j = M j) (Nat.zero_le n) ⟨rfl, ⟨f0, g0, o1, o2, fun i q h => by cases h⟩, fun _ _ _ => rfl⟩ ?_
  rintro a ⟨v, M1⟩ _ ha ⟨hv, hfg, hM⟩ ih
  dsimp only at hv hfg hM
  subst hv
  refine bX10_laysLines_4 (o.eq (hM k k1 k2)) gk_in0 (fun c => ?_) (fun c => ?_)
  · obtain rfl := eq a ha c
    exact ⟨rfl, hfg, hM⟩
  have la := lt a ha c
  rw [nI_1]
  refine fld (s := a + 1) (n := n) (G := fun j (q : Nat × mm_Mem) => mm_X mX10_laysLines 2 none (0, 0) 16 [.ref 31, .ref k, .int (nI q.1), .int (nI a), .int (nI j)] [] q.2 _) (v0 := ((gl_pre n T a).length, M1)) (I := fun j q => q.1 = (glp n T a j).length ∧ (∃ f g, mm_at q.2 51 (mm_aI 91 f) ∧ mm_at q.2 52 (mm_aI 91 g) ∧ g_two_f (glp n T a j) f g) ∧ ∀ j, j ≠ 51 → j ≠ 52 → q.2 j = M j) (by omega) ⟨by rw [glp_e0], by rw [glp_e0]; exact hfg, hM⟩ ?_
  rintro b ⟨v, M2⟩ hab hb ⟨hv, hfg2, hM2⟩ ih2
  dsimp only at hv hfg2 hM2
  subst hv
  obtain ⟨f, g, p1, p2, p3⟩ := hfg2
  have hm : mo M2 F w := h.eq (hM2 31 (by decide) (by decide))
  have ta := gw_ok hw a
  have bit : ¬ qX10_has (gk_f n T (Int32.toNatClampNeg (1 + nI a))) (nI b) = 0 → (T a).testBit b = true := by
    intro c
    rw [gk_1 (by omega), ks_mhas (by omega) (by omega), ks_b0, Classical.not_not] at c
    exact c
  refine bX10_laysLines_16 (o.eq (hM2 k k1 k2)) p1 p2 (hm.r 35 51 (by decide)) (hm.r 36 52 (by decide)) (by decide) (by decide) (by decide) gk_in0 (fun c2 => ?_) (fun _ => gk_in1 (by omega)) (fun c2 c3 => ?_) (fun c2 c3 => ?_) (fun c2 c3 => ?_) (fun c2 c3 => ?_)
  · obtain rfl := eq b hb c2
    rw [nI_1]
    exact ih ((glp b T a b).length, M2) la ⟨rfl, ⟨f, g, p1, p2, p3⟩, hM2⟩
  · have lb := lt b hb c2
    have := glp_lt la lb (by omega) (bit c3)
    have := gl_len (T := T) hn
    exact vp_in_nI (by omega) (by decide)
  · have lb := lt b hb c2
    have := glp_lt la lb (by omega) (bit c3)
    have := gl_len (T := T) hn
    exact vp_in_nI (by omega) (by decide)
  · have lb := lt b hb c2
    have hl := glp_lt la lb (by omega) (bit c3)
    have := gl_len (T := T) hn
    rw [nI_clamp (by omega), nI_1, nI_1]
    refine ih2 ((glp n T a b).length + 1, _) lb ⟨?_, ⟨_, _, (mm_at.s p1.1).n (by decide), mm_at.s p2.1, ?_⟩, fun j j1 j2 => ?_⟩
    · rw [glp_s (by omega) (bit c3), List.length_append]
      rfl
    · rw [glp_s (by omega) (bit c3)]
      exact g_two_add p3
    · show mm_up (mm_up M2 51 _) 52 _ j = M j
      rw [mm_up_n j2, mm_up_n j1, hM2 j j1 j2]
  · have lb := lt b hb c2
    rw [gk_1 (by omega), ks_mhas (by omega) (by omega), ks_b0] at c3
    rw [nI_1]
    exact ih2 ((glp n T a b).length, M2) lb ⟨by rw [glp_n c3], ⟨f, g, p1, p2, by rw [glp_n c3]; exact p3⟩, hM2⟩
