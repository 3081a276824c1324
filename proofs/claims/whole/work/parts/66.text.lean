/-! THE TEXT: its tokens, and what it tells, step by step -/
def isB (x : Int32) : Prop := x = 32 ∨ x = 10
def isLt (x : Int32) : Prop := ¬ x < 97 ∧ ¬ 122 < x
def dgt (x : Int32) : Nat := x.toNatClampNeg - 96
theorem isLt_d {x : Int32} (h : isLt x) : 1 ≤ dgt x ∧ dgt x ≤ 26 ∧ x = nI (96 + dgt x) := by
  have h0 : ¬ x < 0 := fun q => h.1 (Int32.lt_trans q (by decide))
  obtain ⟨j, hj, rfl⟩ := nI_of h0
  have h1 := h.1
  have h2 := h.2
  rw [show (97 : Int32) = nI 97 from rfl, ks_ltI hj (by omega)] at h1
  rw [show (122 : Int32) = nI 122 from rfl, ks_ltI (by omega) hj] at h2
  unfold dgt
  rw [nI_clamp hj]
  exact ⟨by omega, by omega, by rw [show 96 + (j - 96) = j from by omega]⟩
/-- past all that are such -/
def pst (P : Int32 → Prop) (t : Nat) (f : Nat → Int32) (p q : Nat) : Prop := p ≤ q ∧ q ≤ t ∧ (∀ i, p ≤ i → i < q → P (f i)) ∧ (q < t → ¬ P (f q))
theorem pst_u {P : Int32 → Prop} {t p : Nat} {f : Nat → Int32} : ∀ a b, pst P t f p a → pst P t f p b → a = b := by
  rintro a b ⟨h1, h2, h3, h4⟩ ⟨g1, g2, g3, g4⟩
  rcases Nat.lt_trichotomy a b with q | q | q
  · exact absurd (g3 a h1 q) (h4 (by omega))
  · exact q
  · exact absurd (h3 b g1 q) (g4 (by omega))
noncomputable def pas (P : Int32 → Prop) (t : Nat) (f : Nat → Int32) (p : Nat) : Nat := g_the (pst P t f p)
theorem pas_eq {P : Int32 → Prop} {t p q : Nat} {f : Nat → Int32} (h : pst P t f p q) : pas P t f p = q := g_the_eq h pst_u
theorem pas_ex {P : Int32 → Prop} {t p : Nat} {f : Nat → Int32} (h : p ≤ t) : pst P t f p (pas P t f p) := by
  have key : ∀ m p, p + m = t → ∃ q, pst P t f p q := by
    intro m
    induction m with
    | zero =>
      intro p hp
      exact ⟨p, Nat.le_refl p, by omega, fun i _ _ => by omega, fun _ => by omega⟩
    | succ m ih =>
      intro p hp
      by_cases e : P (f p)
      · obtain ⟨q, q1, q2, q3, q4⟩ := ih (p + 1) (by omega)
        refine ⟨q, by omega, q2, fun i h1 h2 => ?_, q4⟩
        by_cases u : i = p
        · rw [u]
          exact e
        · exact q3 i (by omega) h2
      · exact ⟨p, Nat.le_refl p, by omega, fun i _ _ => by omega, fun _ => e⟩
  obtain ⟨q, hq⟩ := key (t - p) p (by omega)
  rw [pas_eq hq]
  exact hq
/-- a word as a number -/
def vl (b : Nat) (L : List Nat) : Nat := L.foldl (fun v d => v * b + d) 0
theorem vl_snoc {b d : Nat} {L : List Nat} : vl b (L ++ [d]) = vl b L * b + d := by
  unfold vl
  rw [List.foldl_append]
  rfl
def okd (L : List Nat) : Prop := ∀ d, d ∈ L → 1 ≤ d ∧ d ≤ 26
theorem okd_snoc {L : List Nat} {d : Nat} (h : okd (L ++ [d])) : okd L ∧ 1 ≤ d ∧ d ≤ 26 := ⟨fun x hx => h x (List.mem_append.mpr (Or.inl hx)), h d (List.mem_append.mpr (Or.inr (List.mem_singleton.mpr rfl)))⟩
theorem ll_rev (L : List Nat) : L = [] ∨ ∃ K d, L = K ++ [d] := by
  rcases List.eq_nil_or_concat L with h | ⟨K, d, h⟩
  · exact Or.inl h
  · exact Or.inr ⟨K, d, by rw [h, List.concat_eq_append]⟩
theorem vl_inj {b : Nat} (hb : 27 ≤ b) : ∀ k (L L' : List Nat), L.length ≤ k → okd L → okd L' → vl b L = vl b L' → L = L' := by
  intro k
  induction k with
  | zero =>
    intro L L' h1 h2 h3 h4
    obtain rfl : L = [] := List.length_eq_zero_iff.mp (by omega)
    rcases ll_rev L' with rfl | ⟨K', d', rfl⟩
    · rfl
    · have := (okd_snoc h3).2
      rw [vl_snoc, show vl b [] = 0 from rfl] at h4
      omega
  | succ k ih =>
    intro L L' h1 h2 h3 h4
    rcases ll_rev L with rfl | ⟨K, d, rfl⟩
    · rcases ll_rev L' with rfl | ⟨K', d', rfl⟩
      · rfl
      · have := (okd_snoc h3).2
        rw [vl_snoc, show vl b [] = 0 from rfl] at h4
        omega
    · obtain ⟨o1, o2⟩ := okd_snoc h2
      rcases ll_rev L' with rfl | ⟨K', d', rfl⟩
      · rw [vl_snoc, show vl b [] = 0 from rfl] at h4
        omega
      · obtain ⟨o3, o4⟩ := okd_snoc h3
        rw [vl_snoc, vl_snoc] at h4
        have e1 : ∀ {v x : Nat}, x ≤ 26 → (v * b + x) % b = x := fun {v x} hx => by
          rw [Nat.mul_comm, Nat.mul_add_mod, Nat.mod_eq_of_lt (by omega)]
        have e2 : ∀ {v x : Nat}, x ≤ 26 → (v * b + x) / b = v := fun {v x} hx => by
          rw [Nat.mul_comm, Nat.mul_add_div (by omega), Nat.div_eq_of_lt (by omega), Nat.add_zero]
        have ed : d = d' := by rw [← e1 (v := vl b K) o2.2, h4, e1 o4.2]
        have ek : vl b K = vl b K' := by rw [← e2 (v := vl b K) o2.2, h4, e2 o4.2]
        rw [List.length_append, List.length_singleton] at h1
        rw [ih K K' (by omega) o1 o3 ek, ed]
theorem vl_lt {b : Nat} (hb : 27 ≤ b) : ∀ k (L : List Nat), L.length ≤ k → okd L → vl b L < b ^ k := by
  intro k
  induction k with
  | zero =>
    intro L h1 _
    obtain rfl : L = [] := List.length_eq_zero_iff.mp (by omega)
    exact Nat.zero_lt_one
  | succ k ih =>
    intro L h1 h2
    rcases ll_rev L with rfl | ⟨K, d, rfl⟩
    · exact Nat.pow_pos (by omega)
    · obtain ⟨o1, o2⟩ := okd_snoc h2
      rw [List.length_append, List.length_singleton] at h1
      have h3 := ih K (by omega) o1
      have h4 : (vl b K + 1) * b ≤ b ^ k * b := Nat.mul_le_mul_right b h3
      rw [Nat.add_mul, Nat.one_mul] at h4
      rw [vl_snoc, Nat.pow_succ]
      omega
def okw (L : List Nat) : Prop := L.length ≤ 7 ∧ okd L
theorem vl_27 {L : List Nat} (h : okw L) : vl 27 L < 2 ^ 63 := Nat.lt_trans (vl_lt (by decide) 7 L h.1 h.2) (by decide)
theorem vl_32 {L : List Nat} (h : okw L) : vl 32 L < 2 ^ 63 := Nat.lt_trans (vl_lt (by decide) 7 L h.1 h.2) (by decide)
theorem lc_27 {L L' : List Nat} (h : okw L) (h' : okw L') : lg_cmp (lN (vl 27 L)) (lN (vl 27 L')) = 0 ↔ L = L' := by
  rw [lg_cmp_eq, pk_lEQ (vl_27 h) (vl_27 h')]
  exact ⟨vl_inj (by decide) 7 L L' h.1 h.2 h'.2, fun e => by rw [e]⟩
theorem lc_32 {L L' : List Nat} (h : okw L) (h' : okw L') : lg_cmp (lN (vl 32 L)) (lN (vl 32 L')) = 0 ↔ L = L' := by
  rw [lg_cmp_eq, pk_lEQ (vl_32 h) (vl_32 h')]
  exact ⟨vl_inj (by decide) 7 L L' h.1 h.2 h'.2, fun e => by rw [e]⟩
def wPT : List Nat := [16, 15, 9, 14, 20]
def wLN : List Nat := [12, 9, 14, 5]
theorem okPT : okw wPT := ⟨by decide, by unfold okd wPT; decide⟩
theorem okLN : okw wLN := ⟨by decide, by unfold okd wLN; decide⟩
theorem c_PT : (17278420 : Int64) = lN (vl 32 wPT) := by decide
theorem c_LN : (402885 : Int64) = lN (vl 32 wLN) := by decide
theorem m_PT : qX10_spelt 112 111 105 110 116 = lN (vl 27 wPT) := by decide
theorem m_LN : qX10_spelt 108 105 110 101 0 = lN (vl 27 wLN) := by decide
def wd (f : Nat → Int32) (p q : Nat) : List Nat := (List.range (q - p)).map fun i => dgt (f (p + i))
theorem wd_s {f : Nat → Int32} {p q : Nat} (h : p ≤ q) : wd f p (q + 1) = wd f p q ++ [dgt (f q)] := by
  unfold wd
  rw [show q + 1 - p = (q - p) + 1 from by omega, List.range_succ, List.map_append, List.map_singleton, show p + (q - p) = q from by omega]
theorem wd_0 {f : Nat → Int32} {p : Nat} : wd f p p = [] := by
  unfold wd
  rw [Nat.sub_self]
  rfl
theorem wd_len {f : Nat → Int32} {p q : Nat} : (wd f p q).length = q - p := by
  unfold wd
  rw [List.length_map, List.length_range]
theorem wd_ok {f : Nat → Int32} {p q : Nat} (h : ∀ i, p ≤ i → i < q → isLt (f i)) : okd (wd f p q) := by
  intro d hd
  obtain ⟨i, hi, rfl⟩ := List.mem_map.mp hd
  rw [List.mem_range] at hi
  have := isLt_d (h (p + i) (by omega) (by omega))
  exact ⟨this.1, this.2.1⟩
/-- the token at p: its kind (0 none, 1 one that can't come, 2 a word, 3 the sign), place, end, word -/
noncomputable def tkd (t : Nat) (f : Nat → Int32) (p : Nat) : Nat := if 700 < t ∧ 700 ≤ pas isB t f p then 1 else if t ≤ pas isB t f p then 0 else pif (isLt (f (pas isB t f p))) (if pas isLt t f (pas isB t f p) - pas isB t f p ≤ 7 then 2 else 1) (if f (pas isB t f p) = 59 then 3 else 1)
noncomputable def tpl (t : Nat) (f : Nat → Int32) (p : Nat) : Nat := if 700 < t ∧ 700 ≤ pas isB t f p then 700 else pas isB t f p
noncomputable def taf (t : Nat) (f : Nat → Int32) (p : Nat) : Nat := pif (isLt (f (pas isB t f p))) (pas isLt t f (pas isB t f p)) (pas isB t f p + 1)
noncomputable def twd (t : Nat) (f : Nat → Int32) (p : Nat) : List Nat := wd f (pas isB t f p) (pas isLt t f (pas isB t f p))
theorem taf_gt {t p : Nat} {f : Nat → Int32} (hp : p ≤ t) (hq : pas isB t f p < t) : p < taf t f p ∧ taf t f p ≤ t := by
  have h1 := pas_ex (P := isB) (f := f) hp
  have h2 := pas_ex (P := isLt) (f := f) (Nat.le_of_lt hq)
  unfold taf
  by_cases e : isLt (f (pas isB t f p))
  · rw [pif_t e]
    obtain ⟨g1, g2, g3, g4⟩ := h2
    refine ⟨?_, g2⟩
    have := h1.1
    rcases Nat.lt_or_ge p (pas isLt t f (pas isB t f p)) with u | u
    · exact u
    · have e2 : pas isLt t f (pas isB t f p) = pas isB t f p := by omega
      rw [e2] at g4
      exact absurd e (g4 hq)
  · rw [pif_f e]
    have := h1.1
    omega
theorem tkd_lt {t p : Nat} {f : Nat → Int32} (h : tkd t f p = 2 ∨ tkd t f p = 3) : pas isB t f p < t ∧ ¬ (700 < t ∧ 700 ≤ pas isB t f p) := by
  unfold tkd at h
  by_cases e : 700 < t ∧ 700 ≤ pas isB t f p
  · rw [if_pos e] at h
    omega
  · rw [if_neg e] at h
    by_cases e2 : t ≤ pas isB t f p
    · rw [if_pos e2] at h
      omega
    · exact ⟨by omega, e⟩
theorem twd_ok {t p : Nat} {f : Nat → Int32} (h : tkd t f p = 2) : okw (twd t f p) := by
  obtain ⟨h1, h2⟩ := tkd_lt (Or.inl h)
  unfold tkd at h
  rw [if_neg h2, if_neg (by omega)] at h
  by_cases e : isLt (f (pas isB t f p))
  · rw [pif_t e] at h
    refine ⟨?_, wd_ok fun i g1 g2 => (pas_ex (P := isLt) (f := f) (Nat.le_of_lt h1)).2.2.1 i g1 g2⟩
    unfold twd
    rw [wd_len]
    by_cases u : pas isLt t f (pas isB t f p) - pas isB t f p ≤ 7
    · exact u
    · rw [if_neg u] at h
      omega
  · rw [pif_f e] at h
    split at h <;> omega
/-- aw (0 a row, 1 a name, 2 the first point, 3 the second, 4 the sign), place, points, ties, names, rows, first point -/
abbrev p_st : Type := Nat × Nat × Nat × (Nat → Nat) × List (List Nat) × Nat × Nat
abbrev p_rs : Type := Int32 × Int32 × Option (Nat × (Nat → Nat))
noncomputable def ixw (N : List (List Nat)) (w : List Nat) : Nat := g_the (fun i => N[i]? = some w ∧ ∀ j, j < i → N[j]? ≠ some w)
theorem ixw_eq {N : List (List Nat)} {w : List Nat} {i : Nat} (h1 : N[i]? = some w) (h2 : ∀ j, j < i → N[j]? ≠ some w) : ixw N w = i := g_the_eq ⟨h1, h2⟩ fun a b ha hb => by
  rcases Nat.lt_trichotomy a b with q | q | q
  · exact absurd ha.1 (hb.2 a q)
  · exact q
  · exact absurd hb.1 (ha.2 b q)
noncomputable def p_bad (t : Nat) (f : Nat → Int32) (p : Nat) (k : Int32) : p_rs ⊕ p_st := .inl (-1 - nI (tpl t f p), k, none)
noncomputable def p_step (t : Nat) (f : Nat → Int32) : p_st → p_rs ⊕ p_st
  | (aw, p, n, T, N, rows, fp) =>
    if tkd t f p = 0 then (if aw = 0 then .inl (nI rows, 0, some (n, T)) else p_bad t f p 1)
    else if tkd t f p = 1 then p_bad t f p 1
    else if aw = 4 then (if tkd t f p = 3 then .inr (0, taf t f p, n, T, N, rows + 1, fp) else p_bad t f p 1)
    else if tkd t f p = 3 then p_bad t f p 1
    else if aw = 0 then (if twd t f p = wPT then (if n = 14 then p_bad t f p 3 else .inr (1, taf t f p, n, T, N, rows, fp)) else if twd t f p = wLN then .inr (2, taf t f p, n, T, N, rows, fp) else p_bad t f p 1)
    else if twd t f p = wPT ∨ twd t f p = wLN then p_bad t f p 1
    else if aw = 1 then (if twd t f p ∈ N then p_bad t f p 2 else .inr (4, taf t f p, n + 1, g_add n T 0, N ++ [twd t f p], rows, fp))
    else if twd t f p ∉ N then p_bad t f p 2
    else if aw = 2 then .inr (3, taf t f p, n, T, N, rows, ixw N (twd t f p))
    else if ixw N (twd t f p) = fp ∨ (T fp).testBit (ixw N (twd t f p)) = true then p_bad t f p 2
    else .inr (4, taf t f p, n, g_flip T fp (ixw N (twd t f p)), N, rows, fp)
noncomputable def p_run (t : Nat) (f : Nat → Int32) : Nat → p_st → p_rs
  | 0, _ => (0, 0, none)
  | k + 1, s => match p_step t f s with
    | .inl r => r
    | .inr s' => p_run t f k s'
noncomputable def p_all (t : Nat) (f : Nat → Int32) : p_rs := p_run t f 742 (0, 0, 0, fun _ => 0, [], 0, 0)
def p_fin (t : Nat) (f : Nat → Int32) (R : p_rs) (s : p_st) : Prop := ∃ k, 742 ≤ k + s.2.1 ∧ p_run t f k s = R
theorem p_fin_0 {t : Nat} {f : Nat → Int32} : p_fin t f (p_all t f) (0, 0, 0, fun _ => 0, [], 0, 0) := ⟨742, Nat.le_refl _, rfl⟩
theorem p_fin_l {t : Nat} {f : Nat → Int32} {R r : p_rs} {s : p_st} (h : p_fin t f R s) (hp : s.2.1 ≤ 740) (hs : p_step t f s = .inl r) : R = r := by
  obtain ⟨k, h1, h2⟩ := h
  obtain ⟨j, rfl⟩ : ∃ j, k = j + 1 := ⟨k - 1, by omega⟩
  rw [← h2]
  show (match p_step t f s with
    | .inl r => r
    | .inr s' => p_run t f j s') = r
  rw [hs]
theorem p_fin_r {t : Nat} {f : Nat → Int32} {R : p_rs} {s s' : p_st} (h : p_fin t f R s) (hp : s.2.1 ≤ 740) (hs : p_step t f s = .inr s') (hl : s.2.1 < s'.2.1) : p_fin t f R s' := by
  obtain ⟨k, h1, h2⟩ := h
  obtain ⟨j, rfl⟩ : ∃ j, k = j + 1 := ⟨k - 1, by omega⟩
  refine ⟨j, by omega, ?_⟩
  rw [← h2]
  show _ = (match p_step t f s with
    | .inl r => r
    | .inr s' => p_run t f j s')
  rw [hs]
/-- what holds of a state -/
def p_ok (t : Nat) : p_st → Prop
  | (aw, p, n, T, N, _, fp) => p ≤ t ∧ gw n T ∧ N.length = n ∧ (∀ w, w ∈ N → okw w) ∧ aw ≤ 4 ∧ (aw = 1 → n < 14) ∧ (aw = 3 → fp < n)
theorem ixw_ex {N : List (List Nat)} {w : List Nat} (h : w ∈ N) : N[ixw N w]? = some w ∧ ixw N w < N.length ∧ ∀ j, j < ixw N w → N[j]? ≠ some w := by
  obtain ⟨i, hi⟩ := List.mem_iff_getElem?.mp h
  have key : ∀ (m i : Nat), i ≤ m → N[i]? = some w → ∃ i : Nat, N[i]? = some w ∧ ∀ j, j < i → N[j]? ≠ some w := by
    intro m
    induction m with
    | zero =>
      intro i h1 h2
      exact ⟨i, h2, fun j hj => by omega⟩
    | succ m ih =>
      intro i h1 h2
      by_cases e : ∃ j, j < i ∧ N[j]? = some w
      · obtain ⟨j, j1, j2⟩ := e
        exact ih j (by omega) j2
      · exact ⟨i, h2, fun j hj q => e ⟨j, hj, q⟩⟩
  obtain ⟨i, h1, h2⟩ := key i i (Nat.le_refl i) hi
  rw [ixw_eq h1 h2]
  exact ⟨h1, (List.getElem?_eq_some_iff.mp h1).1, h2⟩
theorem p_step_ok {t : Nat} {f : Nat → Int32} {s s' : p_st} (h : p_ok t s) (hs : p_step t f s = .inr s') : p_ok t s' ∧ s.2.1 < s'.2.1 := by
  obtain ⟨aw, p, n, T, N, rows, fp⟩ := s
  obtain ⟨h1, h2, h3, h4, h5, h6, h7⟩ := h
  have hn := h2.1
  dsimp only [p_step, p_bad] at hs
  by_cases k0 : tkd t f p = 0
  · rw [if_pos k0] at hs
    split at hs <;> cases hs
  rw [if_neg k0] at hs
  by_cases k1 : tkd t f p = 1
  · rw [if_pos k1] at hs
    cases hs
  rw [if_neg k1] at hs
  have gt : (tkd t f p = 2 ∨ tkd t f p = 3) → p < taf t f p ∧ taf t f p ≤ t := fun q => taf_gt h1 (tkd_lt q).1
  by_cases a4 : aw = 4
  · rw [if_pos a4] at hs
    by_cases k3 : tkd t f p = 3
    · rw [if_pos k3] at hs
      cases hs
      obtain ⟨g1, g2⟩ := gt (Or.inr k3)
      exact ⟨⟨g2, h2, h3, h4, by omega, fun q => (by cases q), fun q => (by cases q)⟩, g1⟩
    · rw [if_neg k3] at hs
      cases hs
  rw [if_neg a4] at hs
  by_cases k3 : tkd t f p = 3
  · rw [if_pos k3] at hs
    cases hs
  rw [if_neg k3] at hs
  have k2 : tkd t f p = 2 := by
    have : tkd t f p ≤ 3 := by
      unfold tkd pif
      repeat' (first | omega | split)
    omega
  have wk := twd_ok k2
  obtain ⟨g1, g2⟩ := gt (Or.inl k2)
  by_cases a0 : aw = 0
  · rw [if_pos a0] at hs
    by_cases w1 : twd t f p = wPT
    · rw [if_pos w1] at hs
      by_cases n14 : n = 14
      · rw [if_pos n14] at hs
        cases hs
      · rw [if_neg n14] at hs
        cases hs
        exact ⟨⟨g2, h2, h3, h4, by omega, fun _ => by omega, fun q => (by cases q)⟩, g1⟩
    · rw [if_neg w1] at hs
      by_cases w2 : twd t f p = wLN
      · rw [if_pos w2] at hs
        cases hs
        exact ⟨⟨g2, h2, h3, h4, by omega, fun q => (by cases q), fun q => (by cases q)⟩, g1⟩
      · rw [if_neg w2] at hs
        cases hs
  rw [if_neg a0] at hs
  by_cases w1 : twd t f p = wPT ∨ twd t f p = wLN
  · rw [if_pos w1] at hs
    cases hs
  rw [if_neg w1] at hs
  by_cases a1 : aw = 1
  · rw [if_pos a1] at hs
    by_cases w2 : twd t f p ∈ N
    · rw [if_pos w2] at hs
      cases hs
    · rw [if_neg w2] at hs
      cases hs
      refine ⟨⟨g2, gw_add h2 (h6 a1) (Nat.pow_pos (by decide)), by rw [List.length_append, h3]; rfl, fun w hw => ?_, by omega, fun q => (by cases q), fun q => (by cases q)⟩, g1⟩
      rcases List.mem_append.mp hw with q | q
      · exact h4 w q
      · rw [List.mem_singleton.mp q]
        exact wk
  rw [if_neg a1] at hs
  by_cases w2 : twd t f p ∈ N
  rotate_left
  · rw [if_pos w2] at hs
    cases hs
  rw [if_neg (fun q => q w2)] at hs
  obtain ⟨x1, x2, x3⟩ := ixw_ex w2
  by_cases a2 : aw = 2
  · rw [if_pos a2] at hs
    cases hs
    exact ⟨⟨g2, h2, h3, h4, by omega, fun q => (by cases q), fun _ => by omega⟩, g1⟩
  rw [if_neg a2] at hs
  by_cases w3 : ixw N (twd t f p) = fp ∨ (T fp).testBit (ixw N (twd t f p)) = true
  · rw [if_pos w3] at hs
    cases hs
  · rw [if_neg w3] at hs
    cases hs
    have a3 : aw = 3 := by omega
    exact ⟨⟨g2, gw_flip h2 (h7 a3) (by omega) (fun q => w3 (Or.inl q.symm)), h3, h4, by omega, fun q => (by cases q), fun q => (by cases q)⟩, g1⟩
