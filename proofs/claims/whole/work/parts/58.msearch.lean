/-! THE MODEL'S SEARCH for covers -/
def usr (M : mm_Mem) (U : Nat → Nat) : Prop := ∃ f, mm_at M 45 (mm_aI 29 f) ∧ ∀ e, e < 29 → f e = nI (U e)
def eds (M : mm_Mem) (E : Nat → Nat) (p : Nat) : Prop := ∃ g, mm_at M 44 (mm_aI 28 g) ∧ ∀ i, i < 2 * p → g i = nI (E i)
def rwb (M : mm_Mem) (a : Nat) (R : List Nat) : Prop := ∃ f, mm_at M a (mm_aI 91 f) ∧ ∀ (k C : Nat), R[k]? = some C → f k = nI C
def bsm (Ls : List (List Nat)) (B : List Nat) : Prop := (Ls = [] ∧ B = []) ∨ (B ∈ Ls ∧ ∀ R, R ∈ Ls → R = B ∨ lsl B R)
def mac (M : mm_Mem) (Ls : List (List Nat)) : Prop := mm_fd M 31 10 26 (.int (nI Ls.length)) ∧ ∃ B, mm_fd M 31 10 27 (.int (nI B.length)) ∧ rwb M 47 B ∧ bsm Ls B
def mcs (M : mm_Mem) (th : Int32) (σ : g_st) (a n : Nat) (T U E : Nat → Nat) (p : Nat) (Ls : List (List Nat)) : Prop := MT M th σ ∧ ra M a n T ∧ usr M U ∧ eds M E p ∧ mac M Ls
abbrev fG (M M' : mm_Mem) : Prop := ∀ j, j ≠ 31 → (j < 44 ∨ 47 < j) → M' j = M j
theorem ks_2m : ∀ p, p < 15 → (2 : Int32) * nI p = nI (2 * p) := by decide +kernel
theorem usr.eq {M M' : mm_Mem} {U : Nat → Nat} (h : usr M U) (e : M' 45 = M 45) : usr M' U := by
  obtain ⟨f, h1, h2⟩ := h
  exact ⟨f, h1.eq e, h2⟩
theorem eds.eq {M M' : mm_Mem} {E : Nat → Nat} {p : Nat} (h : eds M E p) (e : M' 44 = M 44) : eds M' E p := by
  obtain ⟨f, h1, h2⟩ := h
  exact ⟨f, h1.eq e, h2⟩
theorem rwb.eq {M M' : mm_Mem} {a : Nat} {R : List Nat} (h : rwb M a R) (e : M' a = M a) : rwb M' a R := by
  obtain ⟨f, h1, h2⟩ := h
  exact ⟨f, h1.eq e, h2⟩
theorem s_isFree {M : mm_Mem} {U : Nat → Nat} {e : Nat} (hf : mm_fd M 31 10 23 (.ref 45)) (u : usr M U) (hU : ∀ e, U e < 16384) (he : e < 29) : mm_S 1 mX10_isFree 0 0 [.ref 31, .int (nI e)] M (mm_Eq (some (.int (ks_b (fre U e)))) M) := by
  obtain ⟨f, u1, u2⟩ := u
  have h1 := hU e
  have h2 := hU (e - 1)
  have ev : mm_rem (nI e) 2 = 0 ↔ e % 2 = 0 := by rw [ks_rem2 (by omega), ks_eq0 (by omega)]
  have od : ¬ mm_rem (nI e) 2 = 0 → e ≠ 0 := fun c => by
    rw [ev] at c
    omega
  refine mm_S.of rfl rfl (Nat.le_of_ble_eq_true rfl) mm_ndi (bX10_isFree_0 u1 hf (fun c => ⟨?_, rfl⟩) (fun c => ?_) (fun c => vp_in_nI he (by decide)) (fun c c1 => ⟨?_, rfl⟩) (fun c c1 => ⟨?_, rfl⟩))
  · rw [ev] at c
    rw [ks_bt (show fre U e from Or.inl c)]
  · rw [nI_sub1 (od c)]
    exact vp_in_nI (by omega) (by decide)
  · have o := od c
    rw [ev] at c
    rw [nI_sub1 o, nI_clamp (by omega), nI_clamp (by omega), u2 _ (by omega), u2 e he, ks_eqI (by omega) (by omega)] at c1
    rw [ks_bf (show ¬ fre U e from fun q => by
      rcases q with q | q
      · exact c q
      · exact q c1)]
  · have o := od c
    rw [ev] at c
    rw [nI_sub1 o, nI_clamp (by omega), nI_clamp (by omega), u2 _ (by omega), u2 e he, ks_eqI (by omega) (by omega)] at c1
    rw [ks_bt (show fre U e from Or.inr c1)]
theorem s_fitsM {M : mm_Mem} {n w p a b : Nat} {T U : Nat → Nat} {x y : Int32} (hf : mm_fd M 31 10 23 (.ref 45)) (u : usr M U) (hU : ∀ e, U e < 16384) (o : ra M w n T) (hw : gw n T) (hp : p < n) (hx : (x = -1 ∧ U a = 0) ∨ (x = nI a ∧ a < 29)) (hy : (y = -1 ∧ U b = 0) ∨ (y = nI b ∧ b < 29)) : mm_S 2 mX10_fits 0 0 [.ref 31, .ref w, .int (nI p), .int x, .int y] M (mm_Eq (some (.int (ks_b (ftc T U p a b)))) M) := by
  have hn := hw.1
  obtain ⟨f, u1, u2⟩ := id u
  have hTp := gw_ok hw p
  have ha := hU a
  have hb := hU b
  have ne : ∀ {c : Nat}, c < 29 → ¬ nI c = -1 := fun {c} hc q => nI_pos (n := c) (by omega) (by rw [q]; decide)
  have G34 : mm_X mX10_fits 2 none (0, 0) 34 [.null, .ref w, .int (nI p), .null, .null, .int (nI (U a)), .null, .null] [.int (nI (U b))] M (mm_Eq (some (.int (ks_b (ftc T U p a b)))) M) := by
    have e1 : gk_f n T (Int32.toNatClampNeg (1 + nI p)) &&& (mm_shl 1 (nI p) - 1) = nI (nr T p) := by
      rw [gk_1 (by omega), ks_all p (by omega), nx_and]
      rfl
    have lA : U a &&& U b < 2 ^ 31 := Nat.lt_of_le_of_lt Nat.and_le_left (by omega)
    have lO : U a ||| U b < 16384 := ks_or_lt (n := 14) ha hb
    have lN : nr T p < 2 ^ 31 := Nat.lt_of_le_of_lt Nat.and_le_left (by omega)
    refine bX10_fits_34 o (gk_in1 (by omega)) (fun c => ?_) (fun c c1 => ?_) (fun c c1 => ?_)
    · rw [nx_and, ks_eq0 lA] at c
      exact bX10_fits_71 (bX10_fits_72 rfl ⟨by rw [ks_bf (show ¬ ftc T U p a b from fun q => c q.1)], rfl⟩)
    · rw [e1, nx_or, ks_eqI (by omega) lN] at c1
      exact bX10_fits_71 (bX10_fits_72 rfl ⟨by rw [ks_bf (show ¬ ftc T U p a b from fun q => c1 q.2)], rfl⟩)
    · rw [nx_and, ks_eq0 lA] at c
      rw [e1, nx_or, ks_eqI (by omega) lN] at c1
      exact bX10_fits_72 rfl ⟨by rw [ks_bt (show ftc T U p a b from ⟨c, c1⟩)], rfl⟩
  have G15 : mm_X mX10_fits 2 none (0, 0) 15 [.ref 31, .ref w, .int (nI p), .null, .int y, .null, .null, .null] [.int (nI (U a))] M (mm_Eq (some (.int (ks_b (ftc T U p a b)))) M) := by
    rcases hy with ⟨rfl, q⟩ | ⟨rfl, q⟩
    · refine bX10_fits_15 u1 hf (fun c => absurd rfl c) (fun c => absurd rfl c) (fun _ => ?_)
      rw [q] at G34
      exact G34
    · refine bX10_fits_15 u1 hf (fun _ => vp_in_nI q (by decide)) (fun _ => ?_) (fun c => absurd c (ne q))
      rw [nI_clamp (by omega), u2 b q]
      exact G34
  refine mm_S.of rfl rfl (Nat.le_of_ble_eq_true rfl) mm_ndi ?_
  rcases hx with ⟨rfl, q⟩ | ⟨rfl, q⟩
  · refine bX10_fits_0 u1 hf (fun c => absurd rfl c) (fun c => absurd rfl c) (fun _ => ?_)
    rw [q] at G15
    exact G15
  · refine bX10_fits_0 u1 hf (fun _ => vp_in_nI q (by decide)) (fun _ => ?_) (fun c => absurd c (ne q))
    rw [nI_clamp (by omega), u2 a q]
    exact G15
theorem s_endBoth {M : mm_Mem} {n j k e : Nat} {T U E : Nat → Nat} (hf : mm_fd M 31 10 22 (.ref 44)) (u : eds M E n) (hI : eI T U E n) (hn : n ≤ 14) (hj : j < n) (hk : k < n) (hjk : j ≠ k) (h1 : (U e).testBit j = true) (h2 : (U e).testBit k = true) : mm_S 1 mX10_endBoth 0 0 [.ref 31, .int (nI j), .int (nI k)] M (mm_Eq (some (.int (nI e))) M) := by
  obtain ⟨g, u1, u2⟩ := u
  obtain ⟨j1, j2, j3, j4⟩ := hI.2.2.1 j hj
  obtain ⟨k1, k2, k3, k4⟩ := hI.2.2.1 k hk
  have ej := (j4 e).mp h1
  have ek := (k4 e).mp h2
  have com : ∀ {x : Nat}, (x = E (2 * j) ∨ x = E (2 * j + 1)) → (x = E (2 * k) ∨ x = E (2 * k + 1)) → x = e := fun {x} q1 q2 => hI.2.2.2.2.2 x e j k hjk ((j4 x).mpr q1) ((k4 x).mpr q2) h1 h2
  have vk : g (2 * k) = nI (E (2 * k)) := u2 _ (by omega)
  have vk1 : g (2 * k + 1) = nI (E (2 * k + 1)) := u2 _ (by omega)
  have rk1 : (2 : Int32) * nI k + 1 = nI (2 * k + 1) := by rw [ks_2m k (by omega), nI_1]
  have one : ∀ c, c < 2 → ((E (2 * j + c) ≠ e) → c = 0) → (E (2 * j + c) ≠ e → mm_X mX10_endBoth 1 none (0, 0) 2 [.ref 31, .int (nI j), .int (nI k), .int (nI (c + 1))] [] M (mm_Eq (some (.int (nI e))) M)) → mm_X mX10_endBoth 1 none (0, 0) 2 [.ref 31, .int (nI j), .int (nI k), .int (nI c)] [] M (mm_Eq (some (.int (nI e))) M) := by
    intro c hc _ nx
    have rj : (2 : Int32) * nI j + nI c = nI (2 * j + c) := by rw [ks_2m j (by omega), nI_add]
    have vj : g (2 * j + c) = nI (E (2 * j + c)) := u2 _ (by omega)
    have lv : E (2 * j + c) < 2 * n := by
      rcases Nat.lt_or_ge c 1 with q | q
      · obtain rfl : c = 0 := by omega
        exact j1
      · obtain rfl : c = 1 := by omega
        exact j2
    have ec : E (2 * j + c) = E (2 * j) ∨ E (2 * j + c) = E (2 * j + 1) := by
      rcases Nat.lt_or_ge c 1 with q | q
      · obtain rfl : c = 0 := by omega
        exact Or.inl rfl
      · obtain rfl : c = 1 := by omega
        exact Or.inr rfl
    have inj : vp_in ((2 : Int32) * nI j + nI c) 28 := by
      rw [rj]
      exact vp_in_nI (by omega) (by decide)
    have ink : vp_in ((2 : Int32) * nI k) 28 := by
      rw [ks_2m k (by omega)]
      exact vp_in_nI (by omega) (by decide)
    have ink1 : vp_in ((2 : Int32) * nI k + 1) 28 := by
      rw [rk1]
      exact vp_in_nI (by omega) (by decide)
    have cv : ∀ {m : Nat}, m < 2 ^ 31 → (nI m).toNatClampNeg = m := fun h => nI_clamp h
    refine bX10_endBoth_2 u1 hf (fun c1 => ?_) (fun _ => inj) (fun _ => ink) (fun _ _ => inj) (fun _ c2 => ⟨?_, rfl⟩) (fun _ _ => inj) (fun _ _ => ink1) (fun _ c2 c3 => ?_) (fun _ _ _ => inj) (fun _ c2 c3 => ⟨?_, rfl⟩)
    · rw [show (2 : Int32) = nI 2 from rfl, ks_le (by omega) (by omega)] at c1
      omega
    · rw [rj, ks_2m k (by omega), cv (by omega), cv (by omega), vj, vk, ks_eqI (by omega) (by omega)] at c2
      rw [rj, cv (by omega), vj, com ec (Or.inl c2)]
    · rw [rj, ks_2m k (by omega), cv (by omega), cv (by omega), vj, vk, ks_eqI (by omega) (by omega)] at c2
      rw [rj, rk1, cv (by omega), cv (by omega), vj, vk1, ks_eqI (by omega) (by omega)] at c3
      rw [nI_1]
      refine nx fun q => ?_
      rw [q] at c2 c3
      rcases ek with w | w
      · exact c2 w
      · exact c3 w
    · rw [rj, rk1, cv (by omega), cv (by omega), vj, vk1, ks_eqI (by omega) (by omega)] at c3
      rw [rj, cv (by omega), vj, com ec (Or.inr c3)]
  refine mm_S.of rfl rfl (Nat.le_of_ble_eq_true rfl) mm_ndi (bX10_endBoth_0 ?_)
  refine one 0 (by decide) (fun _ => rfl) fun q => one 1 (by decide) (fun w => ?_) fun w => ?_
  · exact absurd (ej.resolve_left fun v => q v.symm).symm w
  · exact absurd (ej.resolve_left fun v => q v.symm).symm w
theorem s_isLess {M : mm_Mem} {R B : List Nat} (f28 : mm_fd M 31 10 28 (.int (nI R.length))) (f27 : mm_fd M 31 10 27 (.int (nI B.length))) (f24 : mm_fd M 31 10 24 (.ref 46)) (f25 : mm_fd M 31 10 25 (.ref 47)) (hr : rwb M 46 R) (hb : rwb M 47 B) (lR : R.length ≤ 14) (lB : B.length ≤ 14) (vR : ∀ C, C ∈ R → C < 16384) (vB : ∀ C, C ∈ B → C < 16384) : mm_S 1 mX10_isLess 0 0 [.ref 31] M (mm_Eq (some (.int (ks_b (lsl R B)))) M) := by
  obtain ⟨f, r1, r2⟩ := hr
  obtain ⟨g, b1, b2⟩ := hb
  refine mm_S.of rfl rfl (Nat.le_of_ble_eq_true rfl) mm_ndi (bX10_isLess_0 ?_)
  have gR : ∀ {k : Nat}, k < R.length → ∃ C, R[k]? = some C ∧ f k = nI C ∧ C < 16384 := fun {k} hk => by
    have e : R[k]? = some R[k] := List.getElem?_eq_getElem hk
    exact ⟨_, e, r2 k _ e, vR _ (List.mem_of_getElem? e)⟩
  have gB : ∀ {k : Nat}, k < B.length → ∃ C, B[k]? = some C ∧ g k = nI C ∧ C < 16384 := fun {k} hk => by
    have e : B[k]? = some B[k] := List.getElem?_eq_getElem hk
    exact ⟨_, e, b2 k _ e, vB _ (List.mem_of_getElem? e)⟩
  have no : ∀ {P : Prop}, ¬ P → mm_X mX10_isLess 1 none (0, 0) 74 [.null, .null] [] M (mm_Eq (some (.int (ks_b P))) M) := fun {P} q => bX10_isLess_74 (bX10_isLess_75 rfl ⟨by rw [ks_bf q], rfl⟩)
  have H39 : ∀ k, k ≤ 14 → (∀ j, j < k → R[j]? = B[j]?) → (k < R.length → k < B.length → R[k]? ≠ B[k]?) → mm_X mX10_isLess 1 none (0, 0) 39 [.ref 31, .int (nI k)] [] M (mm_Eq (some (.int (ks_b (lsl R B)))) M) := by
    intro k hk ha hd
    have no' : ∀ {c d : Nat}, R[k]? = some c → B[k]? = some d → ¬ c < d → ¬ lsl R B := fun {c d} q1 q2 q3 => by
      rintro ⟨i, u, v, w1, w2, w3, w4⟩
      rcases Nat.lt_trichotomy i k with z | z | z
      · have := ha i z
        rw [w1, w2] at this
        have := Option.some.inj this
        omega
      · subst z
        rw [w1] at q1
        rw [w2] at q2
        have := Option.some.inj q1
        have := Option.some.inj q2
        omega
      · have := w4 k z
        refine hd (List.getElem?_eq_some_iff.mp q1).1 (List.getElem?_eq_some_iff.mp q2).1 this
    have nl : (R.length ≤ k ∨ B.length ≤ k) → ¬ lsl R B := fun q => by
      rintro ⟨i, u, v, w1, w2, w3, w4⟩
      have h1 := (List.getElem?_eq_some_iff.mp w1).1
      have h2 := (List.getElem?_eq_some_iff.mp w2).1
      have := ha i (by omega)
      rw [w1, w2] at this
      have := Option.some.inj this
      omega
    refine bX10_isLess_39 r1 b1 f28 f27 f24 f25 (fun c => no (nl ?_)) (fun _ c => no (nl ?_)) (fun c _ => ?_) (fun c c1 => ?_) (fun c c1 c2 => ?_) (fun c c1 c2 => ?_)
    · rw [ks_le (by omega) (by omega)] at c
      exact Or.inl c
    · rw [ks_le (by omega) (by omega)] at c
      exact Or.inr c
    · rw [ks_le (by omega) (by omega)] at c
      exact vp_in_nI (by omega) (by decide)
    · rw [ks_le (by omega) (by omega)] at c1
      exact vp_in_nI (by omega) (by decide)
    · rw [ks_le (by omega) (by omega)] at c c1
      obtain ⟨x, x1, x2, x3⟩ := gR (k := k) (by omega)
      obtain ⟨y, y1, y2, y3⟩ := gB (k := k) (by omega)
      rw [nI_clamp (by omega), x2, y2, ks_le (by omega) (by omega)] at c2
      exact no (no' x1 y1 (by omega))
    · rw [ks_le (by omega) (by omega)] at c c1
      obtain ⟨x, x1, x2, x3⟩ := gR (k := k) (by omega)
      obtain ⟨y, y1, y2, y3⟩ := gB (k := k) (by omega)
      rw [nI_clamp (by omega), x2, y2, ks_le (by omega) (by omega)] at c2
      exact bX10_isLess_75 rfl ⟨by rw [ks_bt (show lsl R B from ⟨k, x, y, x1, y1, by omega, ha⟩)], rfl⟩
  refine fld (s := 0) (n := 14) (G := fun k (_ : Unit) => mm_X mX10_isLess 1 none (0, 0) 2 [.ref 31, .int (nI k)] [] M (mm_Eq (some (.int (ks_b (lsl R B)))) M)) (v0 := ()) (I := fun k _ => ∀ j, j < k → R[j]? = B[j]?) (Nat.zero_le _) (fun j hj => absurd hj (Nat.not_lt_zero j)) ?_
  intro k _ _ hk ha ih
  refine bX10_isLess_2 r1 b1 f28 f27 f24 f25 (fun c => ?_) (fun _ c => ?_) (fun c _ => ?_) (fun c c1 => ?_) (fun c c1 c2 => ?_) (fun c c1 c2 => ?_)
  · rw [ks_le (by omega) (by omega)] at c
    exact H39 k hk ha fun h => by omega
  · rw [ks_le (by omega) (by omega)] at c
    exact H39 k hk ha fun _ h => by omega
  · rw [ks_le (by omega) (by omega)] at c
    exact vp_in_nI (by omega) (by decide)
  · rw [ks_le (by omega) (by omega)] at c1
    exact vp_in_nI (by omega) (by decide)
  · rw [ks_le (by omega) (by omega)] at c c1
    obtain ⟨x, x1, x2, x3⟩ := gR (k := k) (by omega)
    obtain ⟨y, y1, y2, y3⟩ := gB (k := k) (by omega)
    rw [nI_clamp (by omega), x2, y2, ks_eqI (by omega) (by omega)] at c2
    exact H39 k hk ha fun _ _ q => by
      rw [x1, y1] at q
      exact c2 (Option.some.inj q)
  · rw [ks_le (by omega) (by omega)] at c c1
    obtain ⟨x, x1, x2, x3⟩ := gR (k := k) (by omega)
    obtain ⟨y, y1, y2, y3⟩ := gB (k := k) (by omega)
    rw [nI_clamp (by omega), x2, y2, ks_eqI (by omega) (by omega)] at c2
    rw [nI_1]
    refine ih () (by omega) fun j hj => ?_
    rcases Nat.lt_or_ge j k with q | q
    · exact ha j q
    · obtain rfl : j = k := by omega
      rw [x1, y1, c2]
