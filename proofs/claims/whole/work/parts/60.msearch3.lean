def gPo (M : mm_Mem) (th : Int32) (σ : g_st) (a n : Nat) (T U E : Nat → Nat) (p m : Nat) (Ls : List (List Nat)) (r : Option Value) (M' : mm_Mem) : Prop := r = none ∧ (∃ L', L'.Nodup ∧ (∀ R, R ∈ L' ↔ (cvr T z0 R ∧ mtc U p R)) ∧ L'.length ≤ 2 ^ m ∧ mcs M' th σ a n T U E p (Ls ++ L')) ∧ fG M M'
theorem gPo_nd {M : mm_Mem} {th : Int32} {σ : g_st} {a n p m : Nat} {T U E : Nat → Nat} {Ls : List (List Nat)} : ∀ r M', gPo M th σ a n T U E p m Ls r M' → ∀ x, r ≠ some (.double x) := fun r M' h x e => by rw [h.1] at e; cases e
/-- the choices that have been gone through, and the covers found by them -/
def gsp (M0 M1 : mm_Mem) (th : Int32) (σ : g_st) (a n : Nat) (T U E : Nat → Nat) (p m : Nat) (Ls : List (List Nat)) (D : Nat × Nat → Prop) : Prop := ∃ (chs : List (Nat × Nat)) (L1 : List (List Nat)), chs.Nodup ∧ (∀ c, c ∈ chs ↔ (okc U p c.1 c.2 ∧ ftc T U p c.1 c.2 ∧ D c)) ∧ L1.Nodup ∧ (∀ R, R ∈ L1 ↔ (cvr T z0 R ∧ ∃ c, c ∈ chs ∧ mtc (gv U p c.1 c.2) (p + 1) R)) ∧ L1.length ≤ chs.length * 2 ^ m ∧ mcs M1 th σ a n T U E p (Ls ++ L1) ∧ fG M0 M1
theorem gsp_c {M0 M1 : mm_Mem} {th : Int32} {σ : g_st} {a n p m : Nat} {T U E : Nat → Nat} {Ls : List (List Nat)} {D D' : Nat × Nat → Prop} (h : gsp M0 M1 th σ a n T U E p m Ls D) (e : ∀ c, okc U p c.1 c.2 → ftc T U p c.1 c.2 → (D c ↔ D' c)) : gsp M0 M1 th σ a n T U E p m Ls D' := by
  obtain ⟨chs, L1, h1, h2, h3⟩ := h
  refine ⟨chs, L1, h1, fun c => (h2 c).trans ⟨?_, ?_⟩, h3⟩
  · rintro ⟨q1, q2, q3⟩
    exact ⟨q1, q2, (e c q1 q2).mp q3⟩
  · rintro ⟨q1, q2, q3⟩
    exact ⟨q1, q2, (e c q1 q2).mpr q3⟩
theorem gsp_mcs {M0 M1 : mm_Mem} {th : Int32} {σ : g_st} {a n p m : Nat} {T U E : Nat → Nat} {Ls : List (List Nat)} {D : Nat × Nat → Prop} (h : gsp M0 M1 th σ a n T U E p m Ls D) : MT M1 th σ ∧ ra M1 a n T ∧ usr M1 U := by
  obtain ⟨chs, L1, -, -, -, -, -, h6, -⟩ := h
  exact ⟨h6.1, h6.2.1, h6.2.2.1⟩
theorem s_gives {M0 M1 : mm_Mem} {th : Int32} {σ : g_st} {a n p m d : Nat} {T U E : Nat → Nat} {Ls : List (List Nat)} {D : Nat × Nat → Prop} {x y : Int32} {c1 c2 : Nat} (hw : gw n T) (ha : a ≠ 31 ∧ a < 44) (hp : p < n) (ih : ∀ U' E' M Ls, eI T U' E' (p + 1) → mcs M th σ a n T U' E' (p + 1) Ls → (∀ R, R ∈ Ls → cvr T z0 R) → Ls.length + 2 ^ m ≤ 2 ^ 20 → mm_S d mX10_goesOn 0 0 [.ref 31, .ref a, .int (nI (p + 1))] M (gPo M th σ a n T U' E' (p + 1) m Ls)) (hI : eI T U E p) (hL : ∀ R, R ∈ Ls → cvr T z0 R) (hb : Ls.length + 2 * 2 ^ m ≤ 2 ^ 20) (hg : gsp M0 M1 th σ a n T U E p m Ls D) (hok : okc U p c1 c2) (hft : ftc T U p c1 c2) (hD : ¬ D (c1, c2)) (hx : (x = -1 ∧ c1 = 2 * p) ∨ (x = nI c1 ∧ c1 < 2 * p)) (hy : (y = nI c2 ∧ c2 < 2 * p) ∨ (y = -1 ∧ x ≠ -1 ∧ c2 = 2 * p) ∨ (y = -1 ∧ x = -1 ∧ c2 = 2 * p + 1)) : mm_S (d + 1) mX10_gives 0 0 [.ref 31, .ref a, .int (nI p), .int x, .int y] M1 (fun r M' => r = none ∧ gsp M0 M' th σ a n T U E p m Ls (fun c => D c ∨ c = (c1, c2))) := by
  have hn := hw.1
  obtain ⟨chs, L1, h1, h2, h3, h4, h5, ⟨b1, b2, b3, b4, b5⟩, b6⟩ := hg
  have hU : ∀ e, U e < 16384 := fun e => ks_p14 (show p ≤ 14 by omega) (hI.1 e)
  obtain ⟨o1, o2, o3, -⟩ := okc_ne hok
  have hnc : (c1, c2) ∉ chs := fun q => hD ((h2 _).mp q).2.2
  have nd2 : (chs ++ [(c1, c2)]).Nodup := List.nodup_append.mpr ⟨h1, List.pairwise_singleton _ _, fun u hu v hv w => hnc (by rw [List.mem_singleton] at hv; rw [← hv, ← w]; exact hu)⟩
  have mem2 : ∀ c, c ∈ chs ++ [(c1, c2)] ↔ (okc U p c.1 c.2 ∧ ftc T U p c.1 c.2 ∧ (D c ∨ c = (c1, c2))) := fun c => by
    rw [List.mem_append, List.mem_singleton, h2]
    constructor
    · rintro (⟨q1, q2, q3⟩ | rfl)
      · exact ⟨q1, q2, Or.inl q3⟩
      · exact ⟨hok, hft, Or.inr rfl⟩
    · rintro ⟨q1, q2, q3 | q3⟩
      · exact Or.inl ⟨q1, q2, q3⟩
      · exact Or.inr q3
  have l2 := ch_2 hI _ nd2 fun c hc => ⟨((mem2 c).mp hc).1, ((mem2 c).mp hc).2.1⟩
  rw [List.length_append, List.length_singleton] at l2
  have l1 : L1.length ≤ 2 ^ m := Nat.le_trans h5 (by
    have : chs.length * 2 ^ m ≤ 1 * 2 ^ m := Nat.mul_le_mul_right _ (by omega)
    omega)
  obtain ⟨f, u1, u2⟩ := id b3
  obtain ⟨g, g1, g2⟩ := id b4
  have tp : (2 : Int32) * nI p = nI (2 * p) := ks_2m p (by omega)
  have tp1 : (2 : Int32) * nI p + 1 = nI (2 * p + 1) := by rw [tp, nI_1]
  have in1 : vp_in ((2 : Int32) * nI p) 28 := by
    rw [tp]
    exact vp_in_nI (by omega) (by decide)
  have in2 : vp_in ((2 : Int32) * nI p + 1) 28 := by
    rw [tp1]
    exact vp_in_nI (by omega) (by decide)
  have ne : ∀ {c : Nat}, c < 29 → ¬ nI c = -1 := fun {c} hc q => nI_pos (n := c) (by omega) (by rw [q]; decide)
  have f23 := b1.fdr 23 45 (by decide)
  have f22 := b1.fdr 22 44 (by decide)
  refine mm_S.of rfl rfl (Nat.le_of_ble_eq_true rfl) (fun r M' h x e => by rw [h.1] at e; cases e) ?_
  have G56 : mm_X mX10_gives (d + 1) none (0, 0) 56 [.ref 31, .ref a, .int (nI p), .null, .null] [.int (nI c2), .int ((2 : Int32) * nI p + 1), .ref 44] (mm_up M1 44 (mm_aI 28 (upd g (Int32.toNatClampNeg ((2 : Int32) * nI p)) (nI c1)))) (fun r M' => r = none ∧ gsp M0 M' th σ a n T U E p m Ls (fun c => D c ∨ c = (c1, c2))) := by
    rw [tp1, tp, nI_clamp (by omega)]
    refine mm_iast (pc := 56) dX10_gives_56 (show 44 < mm_K by decide) mm_up_s (vp_in_nI (by omega) (by decide)) ?_
    rw [mm_up_up, nI_clamp (by omega)]
    have eN : ∀ j, j ≠ 44 → mm_up M1 44 (mm_aI 28 (upd (upd g (2 * p) (nI c1)) (2 * p + 1) (nI c2))) j = M1 j := fun j hj => mm_up_n hj
    have gN : mm_at (mm_up M1 44 (mm_aI 28 (upd (upd g (2 * p) (nI c1)) (2 * p + 1) (nI c2)))) 44 (mm_aI 28 (upd (upd g (2 * p) (nI c1)) (2 * p + 1) (nI c2))) := mm_at.s g1.1
    have mN := b1.upA 44 28 (upd (upd g (2 * p) (nI c1)) (2 * p + 1) (nI c2)) (by decide) (by decide)
    have v1 : upd (upd g (2 * p) (nI c1)) (2 * p + 1) (nI c2) (2 * p) = nI c1 := by rw [pk_un (by omega), pk_us]
    have v2 : upd (upd g (2 * p) (nI c1)) (2 * p + 1) (nI c2) (2 * p + 1) = nI c2 := pk_us
    have v3 : ∀ i, i < 2 * (p + 1) → upd (upd g (2 * p) (nI c1)) (2 * p + 1) (nI c2) i = nI (gE E p c1 c2 i) := fun i hi => by
      unfold gE
      by_cases q : i = 2 * p
      · subst q
        rw [v1, if_pos rfl]
      · by_cases q2 : i = 2 * p + 1
        · subst q2
          rw [v2, if_neg q, if_pos rfl]
        · rw [pk_un q2, pk_un q, if_neg q, if_neg q2]
          exact g2 i (by omega)
    generalize upd (upd g (2 * p) (nI c1)) (2 * p + 1) (nI c2) = g3 at gN mN v1 v2 v3 eN ⊢
    generalize mm_up M1 44 (mm_aI 28 g3) = M2 at gN mN eN ⊢
    have cv1 : (nI c1).toNatClampNeg = c1 := nI_clamp (by omega)
    have cv2 : (nI c2).toNatClampNeg = c2 := nI_clamp (by omega)
    have cp1 : (nI (2 * p)).toNatClampNeg = 2 * p := nI_clamp (by omega)
    have cp2 : (nI (2 * p + 1)).toNatClampNeg = 2 * p + 1 := nI_clamp (by omega)
    have i1 : vp_in (g3 (Int32.toNatClampNeg ((2 : Int32) * nI p))) 29 := by
      rw [tp, cp1, v1]
      exact vp_in_nI (by omega) (by decide)
    have i2 : vp_in (g3 (Int32.toNatClampNeg ((2 : Int32) * nI p + 1))) 29 := by
      rw [tp1, cp2, v2]
      exact vp_in_nI (by omega) (by decide)
    refine bX10_gives_57 gN (u1.eq (eN 45 (by decide))) (f23.eq (eN 31 (by decide))) (f22.eq (eN 31 (by decide))) (by decide) (by decide) in1 i1 i1 in2 i2 i2 ?_
    rw [tp1, tp, cp1, cp2, v1, v2, cv1, cv2, ks_shl1 _ (by omega), pk_un (Ne.symm o1), u2 c1 (by omega), u2 c2 (by omega), nx_or, nx_or, nI_1]
    have mN2 := mN.upA 45 29 (upd (upd f c1 (nI (U c1 ||| 2 ^ p))) c2 (nI (U c2 ||| 2 ^ p))) (by decide) (by decide)
    have eN2 : ∀ j, j ≠ 44 → j ≠ 45 → mm_up M2 45 (mm_aI 29 (upd (upd f c1 (nI (U c1 ||| 2 ^ p))) c2 (nI (U c2 ||| 2 ^ p)))) j = M1 j := fun j h1 h2 => (mm_up_n h2).trans (eN j h1)
    have e44 : mm_up M2 45 (mm_aI 29 (upd (upd f c1 (nI (U c1 ||| 2 ^ p))) c2 (nI (U c2 ||| 2 ^ p)))) 44 = M2 44 := mm_up_n (by decide)
    have uN : usr (mm_up M2 45 (mm_aI 29 (upd (upd f c1 (nI (U c1 ||| 2 ^ p))) c2 (nI (U c2 ||| 2 ^ p))))) (gv U p c1 c2) := by
      refine ⟨_, mm_at.s u1.1, fun e he => ?_⟩
      unfold gv
      by_cases q2 : e = c2
      · subst q2
        rw [pk_us, if_pos (Or.inr rfl)]
      · by_cases q1 : e = c1
        · subst q1
          rw [pk_un q2, pk_us, if_pos (Or.inl rfl)]
        · rw [pk_un q2, pk_un q1, if_neg (by omega)]
          exact u2 e he
    generalize mm_up M2 45 (mm_aI 29 (upd (upd f c1 (nI (U c1 ||| 2 ^ p))) c2 (nI (U c2 ||| 2 ^ p)))) = M3 at mN2 eN2 e44 uN ⊢
    have hL1 : ∀ R, R ∈ Ls ++ L1 → cvr T z0 R := fun R hR => by
      rcases List.mem_append.mp hR with w | w
      · exact hL R w
      · exact ((h4 R).mp w).1
    have hI' := eI_s hw hI hok hft
    refine mm_Call.of (ih (gv U p c1 c2) (gE E p c1 c2) M3 (Ls ++ L1) hI' ⟨mN2, mm_at.eq b2 (eN2 a (by omega) (by omega)), uN, ⟨g3, gN.eq e44, v3⟩, ?_⟩ hL1 (by rw [List.length_append]; omega)) (by omega) ?_
    · obtain ⟨k1, B, k2, k3, k4⟩ := b5
      exact ⟨k1.eq (eN2 31 (by decide) (by decide)), B, k2.eq (eN2 31 (by decide) (by decide)), k3.eq (eN2 47 (by decide) (by decide)), k4⟩
    rintro _ M4 ⟨rfl, ⟨L', w1, w2, w3, ⟨z1, z2, z3, z4, z5⟩⟩, w4⟩
    obtain ⟨f4, y1, y2⟩ := z3
    obtain ⟨g4, t1, t2⟩ := z4
    have s1 : g4 (2 * p) = nI c1 := by
      rw [t2 _ (by omega)]
      unfold gE
      rw [if_pos rfl]
    have s2 : g4 (2 * p + 1) = nI c2 := by
      rw [t2 _ (by omega)]
      unfold gE
      rw [if_neg (by omega), if_pos rfl]
    have j1 : vp_in (g4 (Int32.toNatClampNeg ((2 : Int32) * nI p))) 29 := by
      rw [tp, cp1, s1]
      exact vp_in_nI (by omega) (by decide)
    have j2 : vp_in (g4 (Int32.toNatClampNeg ((2 : Int32) * nI p + 1))) 29 := by
      rw [tp1, cp2, s2]
      exact vp_in_nI (by omega) (by decide)
    have back : ∀ {e : Nat}, (e = c1 ∨ e = c2) → ks_nd (gv U p c1 c2 e) (2 ^ p) = U e := fun {e} he => by
      have lt : gv U p c1 c2 e < 16384 := ks_p14 (show p + 1 ≤ 14 by omega) (hI'.1 e)
      refine ks_ext fun i => ?_
      rw [ks_nd1 lt]
      by_cases q : p = i
      · subst q
        rw [decide_eq_true rfl, Nat.testBit_lt_two_pow (hI.1 e)]
        simp
      · rw [decide_eq_false q, gv_n (Ne.symm q)]
        simp
    refine bX10_gives_105 t1 y1 (z1.fdr 23 45 (by decide)) (z1.fdr 22 44 (by decide)) (by decide) (by decide) in1 j1 j1 in2 j2 j2 ?_
    rw [tp1, tp, cp1, cp2, s1, s2, cv1, cv2, ks_shl1 _ (by omega), pk_un (Ne.symm o1), y2 c1 (by omega), y2 c2 (by omega), ks_andn, ks_andn, back (Or.inl rfl), back (Or.inr rfl)]
    have mN5 := z1.upA 45 29 (upd (upd f4 c1 (nI (U c1))) c2 (nI (U c2))) (by decide) (by decide)
    have eN5 : ∀ j, j ≠ 45 → mm_up M4 45 (mm_aI 29 (upd (upd f4 c1 (nI (U c1))) c2 (nI (U c2)))) j = M4 j := fun j hj => mm_up_n hj
    refine ⟨rfl, chs ++ [(c1, c2)], L1 ++ L', nd2, mem2, List.nodup_append.mpr ⟨h3, w1, fun R hR R' hR' e => ?_⟩, fun R => ?_, ?_, ⟨mN5, mm_at.eq z2 (eN5 a (by omega)), ⟨_, mm_at.s y1.1, fun e he => ?_⟩, ⟨g4, t1.eq (eN5 44 (by decide)), fun i hi => ?_⟩, ?_⟩, fun j g1 g2 => ?_⟩
    · subst e
      obtain ⟨hR1, c, hc, hm⟩ := (h4 R).mp hR
      obtain ⟨-, hm'⟩ := (w2 R).mp hR'
      obtain ⟨q1, q2, q3⟩ := (h2 c).mp hc
      obtain ⟨r1, r2⟩ := mt_un hw hR1 hI q1 hok q2 hft hm hm'
      exact hnc (by rw [← r1, ← r2]; exact hc)
    · rw [List.mem_append, h4, w2]
      constructor
      · rintro (⟨q1, c, q2, q3⟩ | ⟨q1, q2⟩)
        · exact ⟨q1, c, List.mem_append.mpr (Or.inl q2), q3⟩
        · exact ⟨q1, (c1, c2), List.mem_append.mpr (Or.inr (List.mem_singleton.mpr rfl)), q2⟩
      · rintro ⟨q1, c, q2, q3⟩
        rcases List.mem_append.mp q2 with u | u
        · exact Or.inl ⟨q1, c, u, q3⟩
        · rw [List.mem_singleton.mp u] at q3
          exact Or.inr ⟨q1, q3⟩
    · rw [List.length_append, List.length_append, List.length_singleton, Nat.add_mul, Nat.one_mul]
      omega
    · by_cases q2 : e = c2
      · subst q2
        rw [pk_us]
      · by_cases q1 : e = c1
        · subst q1
          rw [pk_un q2, pk_us]
        · rw [pk_un q2, pk_un q1, y2 e he]
          unfold gv
          rw [if_neg (by omega)]
    · rw [t2 i (by omega)]
      unfold gE
      rw [if_neg (by omega), if_neg (by omega)]
    · rw [← List.append_assoc]
      obtain ⟨k1, B, k2, k3, k4⟩ := z5
      exact ⟨k1.eq (eN5 31 (by decide)), B, k2.eq (eN5 31 (by decide)), k3.eq (eN5 47 (by decide)), k4⟩
    · rw [eN5 j (by omega), w4 j g1 g2, eN2 j (by omega) (by omega), b6 j g1 g2]
  have G19 : mm_X mX10_gives (d + 1) none (0, 0) 19 [.ref 31, .ref a, .int (nI p), .int x, .int y] [.int (nI c1), .int ((2 : Int32) * nI p), .ref 44] M1 (fun r M' => r = none ∧ gsp M0 M' th σ a n T U E p m Ls (fun c => D c ∨ c = (c1, c2))) := by
    rcases hy with ⟨rfl, q⟩ | ⟨rfl, q1, q2⟩ | ⟨rfl, q1, q2⟩
    · exact bX10_gives_19 g1 f22 (by decide) in1 (fun _ => G56) (fun c => absurd c (ne (by omega))) (fun c => absurd c (ne (by omega)))
    · refine bX10_gives_19 g1 f22 (by decide) in1 (fun c => absurd rfl c) (fun _ _ => ?_) (fun _ c => absurd c q1)
      rw [show nI c2 = (2 : Int32) * nI p from by rw [q2, tp]] at G56
      exact G56
    · refine bX10_gives_19 g1 f22 (by decide) in1 (fun c => absurd rfl c) (fun _ c => absurd q1 c) (fun _ _ => ?_)
      rw [show nI c2 = (2 : Int32) * nI p + 1 from by rw [q2, tp1]] at G56
      exact G56
  rcases hx with ⟨rfl, q⟩ | ⟨rfl, q⟩
  · refine bX10_gives_0 f22 (fun c => absurd rfl c) (fun _ => ?_)
    rw [show nI c1 = (2 : Int32) * nI p from by rw [q, tp]] at G19
    exact G19
  · exact bX10_gives_0 f22 (fun _ => G19) (fun c => absurd c (ne (by omega)))
theorem s_goesOn {th : Int32} {σ : g_st} {a n : Nat} {T : Nat → Nat} (hw : gw n T) (ha : a ≠ 31 ∧ a < 44) : ∀ m p U E M Ls, p + m = n → eI T U E p → mcs M th σ a n T U E p Ls → (∀ R, R ∈ Ls → cvr T z0 R) → Ls.length + 2 ^ m ≤ 2 ^ 20 → mm_S (2 * m + 5) mX10_goesOn 0 0 [.ref 31, .ref a, .int (nI p)] M (gPo M th σ a n T U E p m Ls) := by
  have hn := hw.1
  intro m
  induction m with
  | zero =>
    intro p U E M Ls hm hI h hL hl
    obtain rfl : p = n := by omega
    refine mm_S.of rfl rfl (Nat.le_of_ble_eq_true rfl) gPo_nd (bX10_goesOn_0 h.2.1 (h.1.fdr 10 33 (by decide)).rc gk_in0 (fun c => absurd (by rw [gk_0]) c) (fun _ => mm_Call.of (s_ends hw ha h hI hL (by omega)) (by decide) ?_))
    rintro _ M1 ⟨rfl, ⟨R0, k1, k2⟩, k3⟩
    exact bX10_goesOn_12 ⟨rfl, ⟨[R0], List.pairwise_singleton _ _, fun R => by rw [List.mem_singleton, k1], Nat.le_refl 1, k2⟩, k3⟩
  | succ m ih =>
    intro p U E M Ls hm hI h hL hl
    have hpn : p < n := by omega
    have hU : ∀ e, U e < 16384 := fun e => ks_p14 (show p ≤ 14 by omega) (hI.1 e)
    have hb : Ls.length + 2 * 2 ^ m ≤ 2 ^ 20 := by rw [Nat.pow_succ] at hl; omega
    have z1 := hI.2.1 (2 * p) (Nat.le_refl _)
    have z2 := hI.2.1 (2 * p + 1) (by omega)
    have tp : (2 : Int32) * nI p = nI (2 * p) := ks_2m p (by omega)
    have ne : ∀ {c : Nat}, c < 29 → nI c ≠ -1 := fun {c} hc q => nI_pos (n := c) (by omega) (by rw [q]; decide)
    have ihp : ∀ U' E' M Ls, eI T U' E' (p + 1) → mcs M th σ a n T U' E' (p + 1) Ls → (∀ R, R ∈ Ls → cvr T z0 R) → Ls.length + 2 ^ m ≤ 2 ^ 20 → mm_S (2 * m + 5) mX10_goesOn 0 0 [.ref 31, .ref a, .int (nI (p + 1))] M (gPo M th σ a n T U' E' (p + 1) m Ls) := fun U' E' M' Ls' q1 q2 q3 q4 => ih (p + 1) U' E' M' Ls' (by omega) q1 q2 q3 q4
    have g0 : gsp M M th σ a n T U E p m Ls (fun _ => False) := ⟨[], [], List.nodup_nil, fun c => ⟨fun q => (by cases q), fun q => q.2.2.elim⟩, List.nodup_nil, fun R => ⟨fun q => (by cases q), fun ⟨_, c, q, _⟩ => (by cases q)⟩, Nat.zero_le _, by rw [List.append_nil]; exact h, fun _ _ _ => rfl⟩
    -- the loop over the first end
    have L34 : ∀ M1, gsp M M1 th σ a n T U E p m Ls (fun c => c = (2 * p, 2 * p + 1)) → mm_X mX10_goesOn (2 * (m + 1) + 5) none (0, 0) 32 [.ref 31, .ref a, .int (nI p), .null, .null] [] M1 (gPo M th σ a n T U E p (m + 1) Ls) := by
      intro M1 hg
      refine bX10_goesOn_32 ?_
      rw [show (0 : Int32) = nI 0 from rfl]
      refine fld (s := 0) (n := 2 * p) (G := fun j (q : mm_Mem) => mm_X mX10_goesOn (2 * (m + 1) + 5) none (0, 0) 34 [.ref 31, .ref a, .int (nI p), .int (nI j), .null] [] q _) (v0 := M1) (I := fun j q => gsp M q th σ a n T U E p m Ls (fun c => c.1 = 2 * p ∨ c.1 < j)) (Nat.zero_le _) (gsp_c hg fun c k1 k2 => ?_) ?_
      · obtain ⟨-, -, -, c4, c5, -, -, -⟩ := okc_ne k1
        constructor
        · rintro rfl
          exact Or.inl rfl
        · rintro (q | q)
          · obtain ⟨w1, w2⟩ := c4 (by rw [q]; exact z1)
            exact Prod.ext w1 w2
          · omega
      clear hg M1
      rintro j M1 _ hj hg ih34
      obtain ⟨b1, b2, b3⟩ := gsp_mcs hg
      obtain ⟨f, u1, u2⟩ := id b3
      have f23 := b1.fdr 23 45 (by decide)
      have rc := (b1.fdr 10 33 (by decide)).rc
      refine bX10_goesOn_34 u1 f23 (fun c => ?_) (fun c => ?_) (fun c c1 => ?_) (fun c c1 => ?_)
      · rw [tp, ks_le (by omega) (by omega)] at c
        obtain ⟨chs, L1, h1, h2, h3, h4, h5, h6, h7⟩ := hg
        have l2 := ch_2 hI _ h1 fun c hc => ⟨((h2 c).mp hc).1, ((h2 c).mp hc).2.1⟩
        refine ⟨rfl, ⟨L1, h3, fun R => (h4 R).trans ⟨?_, ?_⟩, Nat.le_trans h5 ?_, h6⟩, h7⟩
        · rintro ⟨q1, x, q2, q3⟩
          exact ⟨q1, mt_down hI q3⟩
        · rintro ⟨q1, q2⟩
          obtain ⟨x, y, q3, q4, q5⟩ := mt_ex hw q1 hI q2
          refine ⟨q1, (x, y), (h2 _).mpr ⟨q3, q4, ?_⟩, q5⟩
          obtain ⟨-, -, -, -, -, -, c7, -⟩ := okc_ne q3
          show x = 2 * p ∨ x < j
          omega
        · rw [Nat.pow_succ, Nat.mul_comm (2 ^ m)]
          exact Nat.mul_le_mul_right _ l2
      · rw [tp, ks_le (by omega) (by omega)] at c
        exact vp_in_nI (by omega) (by decide)
      · rw [tp, ks_le (by omega) (by omega)] at c
        have := hU j
        rw [nI_clamp (by omega), u2 j (by omega), ks_eq0 (by omega)] at c1
        rw [nI_1]
        refine ih34 M1 (by omega) (gsp_c hg fun c k1 k2 => ?_)
        obtain ⟨-, -, -, -, c5, -, -, -⟩ := okc_ne k1
        have : c.1 ≠ j := fun w => (c5 (by omega)).1 (by rw [w]; exact c1)
        omega
      rw [tp, ks_le (by omega) (by omega)] at c
      have hj28 : j < 29 := by omega
      have := hU j
      rw [nI_clamp (by omega), u2 j (by omega), ks_eq0 (by omega)] at c1
      have nxt : ∀ {M2 : mm_Mem}, gsp M M2 th σ a n T U E p m Ls (fun c => c.1 = 2 * p ∨ c.1 < j + 1) → mm_X mX10_goesOn (2 * (m + 1) + 5) none (0, 0) 34 [.ref 31, .ref a, .int (nI p), .int (nI j + 1), .null] [] M2 (gPo M th σ a n T U E p (m + 1) Ls) := fun {M2} q => by
        rw [nI_1]
        exact ih34 M2 (by omega) q
      refine mm_Call.eq (s_isFree f23 b3 hU hj28) (by omega) (bX10_goesOn_55 rc (fun c2 => ?_) (fun c2 => ?_))
      rotate_left
      · rw [ks_b0] at c2
        refine nxt (gsp_c hg fun c k1 k2 => ?_)
        obtain ⟨-, -, -, -, c5, -, -, -⟩ := okc_ne k1
        have : c.1 ≠ j := fun w => c2 (by rw [← w]; exact (c5 (by omega)).2)
        omega
      rw [ks_b0, Classical.not_not] at c2
      -- the loop over the second end
      have L85 : ∀ M2, gsp M M2 th σ a n T U E p m Ls (fun c => (c.1 = 2 * p ∨ c.1 < j) ∨ c = (j, 2 * p)) → mm_X mX10_goesOn (2 * (m + 1) + 5) none (0, 0) 80 [.ref 31, .ref a, .int (nI p), .int (nI j), .null] [] M2 (gPo M th σ a n T U E p (m + 1) Ls) := by
        intro M2 hg2
        refine bX10_goesOn_80 ?_
        rw [nI_1]
        refine fld (s := j + 1) (n := 2 * p) (G := fun i (q : mm_Mem) => mm_X mX10_goesOn (2 * (m + 1) + 5) none (0, 0) 85 [.ref 31, .ref a, .int (nI p), .int (nI j), .int (nI i)] [] q _) (v0 := M2) (I := fun i q => gsp M q th σ a n T U E p m Ls (fun c => c.1 = 2 * p ∨ c.1 < j ∨ (c.1 = j ∧ (c.2 = 2 * p ∨ c.2 < i)))) (by omega) (gsp_c hg2 fun c k1 k2 => ?_) ?_
        · constructor
          · rintro ((q | q) | rfl)
            · exact Or.inl q
            · exact Or.inr (Or.inl q)
            · exact Or.inr (Or.inr ⟨rfl, Or.inl rfl⟩)
          · rintro (q | q | ⟨q1, q2⟩)
            · exact Or.inl (Or.inl q)
            · exact Or.inl (Or.inr q)
            · refine Or.inr (Prod.ext q1 ?_)
              show c.2 = 2 * p
              rcases k1 with w | w | w <;> omega
        clear hg2 M2
        rintro i M2 hji hi hg2 ih85
        obtain ⟨d1, d2, d3⟩ := gsp_mcs hg2
        obtain ⟨f2, v1, v2⟩ := id d3
        have f23' := d1.fdr 23 45 (by decide)
        have rc' := (d1.fdr 10 33 (by decide)).rc
        refine bX10_goesOn_85 v1 f23' (fun c3 => ?_) (fun c3 => ?_) (fun c3 c4 => ?_) (fun c3 c4 => ?_)
        · rw [tp, ks_le (by omega) (by omega)] at c3
          refine nxt (gsp_c hg2 fun c k1 k2 => ?_)
          rcases k1 with w | w | w <;> omega
        · rw [tp, ks_le (by omega) (by omega)] at c3
          exact vp_in_nI (by omega) (by decide)
        · rw [tp, ks_le (by omega) (by omega)] at c3
          have := hU i
          rw [nI_clamp (by omega), v2 i (by omega), ks_eq0 (by omega)] at c4
          refine bX10_goesOn_133 ?_
          rw [nI_1]
          refine ih85 M2 (by omega) (gsp_c hg2 fun c k1 k2 => ?_)
          obtain ⟨-, -, -, -, -, c6, -, -⟩ := okc_ne k1
          have : c.2 ≠ i := fun w => (c6 (by omega)).1 (by rw [w]; exact c4)
          omega
        rw [tp, ks_le (by omega) (by omega)] at c3
        have hi28 : i < 29 := by omega
        have := hU i
        rw [nI_clamp (by omega), v2 i (by omega), ks_eq0 (by omega)] at c4
        have nxt2 : ∀ {M3 : mm_Mem}, gsp M M3 th σ a n T U E p m Ls (fun c => c.1 = 2 * p ∨ c.1 < j ∨ (c.1 = j ∧ (c.2 = 2 * p ∨ c.2 < i + 1))) → mm_X mX10_goesOn (2 * (m + 1) + 5) none (0, 0) 133 [.ref 31, .ref a, .int (nI p), .int (nI j), .int (nI i)] [] M3 (gPo M th σ a n T U E p (m + 1) Ls) := fun {M3} q => by
          refine bX10_goesOn_133 ?_
          rw [nI_1]
          exact ih85 M3 (by omega) q
        refine mm_Call.eq (s_isFree f23' d3 hU hi28) (by omega) (bX10_goesOn_109 rc' (fun c5 => ?_) (fun c5 => ?_))
        · rw [ks_b0] at c5
          refine nxt2 (gsp_c hg2 fun c k1 k2 => ?_)
          obtain ⟨-, -, -, -, -, c6, -, -⟩ := okc_ne k1
          have : c.2 ≠ i := fun w => c5 (by rw [← w]; exact (c6 (by omega)).2)
          omega
        rw [ks_b0, Classical.not_not] at c5
        have hok : okc U p j i := Or.inr (Or.inr ⟨by omega, by omega, c1, c4, c2, c5⟩)
        refine mm_Call.eq (s_fitsM (a := j) (b := i) f23' d3 hU d2 hw hpn (Or.inr ⟨rfl, hj28⟩) (Or.inr ⟨rfl, hi28⟩)) (by omega) (bX10_goesOn_121 rc' (fun c6 => ?_) (fun c6 => ?_))
        · rw [ks_b0] at c6
          refine nxt2 (gsp_c hg2 fun c k1 k2 => ?_)
          have : ¬ (c.1 = j ∧ c.2 = i) := fun w => c6 (by rw [← w.1, ← w.2]; exact k2)
          omega
        · rw [ks_b0, Classical.not_not] at c6
          refine mm_Call.of (s_gives hw ha hpn ihp hI hL hb hg2 hok c6 (by show ¬ (j = 2 * p ∨ j < j ∨ (j = j ∧ (i = 2 * p ∨ i < i))); omega) (Or.inr ⟨rfl, by omega⟩) (Or.inl ⟨rfl, by omega⟩)) (by omega) ?_
          rintro _ M3 ⟨rfl, hg3⟩
          refine nxt2 (gsp_c hg3 fun c k1 k2 => ?_)
          constructor
          · rintro (q | rfl)
            · omega
            · exact Or.inr (Or.inr ⟨rfl, Or.inr (by show i < i + 1; omega)⟩)
          · intro q
            by_cases w : c.1 = j ∧ c.2 = i
            · exact Or.inr (Prod.ext w.1 w.2)
            · left
              omega
      have hok : okc U p j (2 * p) := Or.inr (Or.inl ⟨by omega, c1, c2, rfl⟩)
      refine mm_Call.eq (s_fitsM (a := j) (b := 2 * p) f23 b3 hU b2 hw hpn (Or.inr ⟨rfl, hj28⟩) (Or.inl ⟨rfl, z1⟩)) (by omega) (bX10_goesOn_69 rc (fun c3 => ?_) (fun c3 => ?_))
      · rw [ks_b0] at c3
        refine L85 M1 (gsp_c hg fun c k1 k2 => ⟨fun q => Or.inl q, fun q => ?_⟩)
        rcases q with q | rfl
        · exact q
        · exact absurd k2 c3
      · rw [ks_b0, Classical.not_not] at c3
        refine mm_Call.of (s_gives hw ha hpn ihp hI hL hb hg hok c3 (by show ¬ (j = 2 * p ∨ j < j); omega) (Or.inr ⟨rfl, by omega⟩) (Or.inr (Or.inl ⟨rfl, ne hj28, rfl⟩))) (by omega) ?_
        rintro _ M2 ⟨rfl, hg2⟩
        exact L85 M2 hg2
    have hok : okc U p (2 * p) (2 * p + 1) := Or.inl ⟨rfl, rfl⟩
    have rc := (h.1.fdr 10 33 (by decide)).rc
    refine mm_S.of rfl rfl (Nat.le_of_ble_eq_true rfl) gPo_nd (bX10_goesOn_0 h.2.1 rc gk_in0 (fun _ => ?_) (fun c => ?_))
    · refine mm_Call.eq (s_fitsM (a := 2 * p) (b := 2 * p + 1) (h.1.fdr 23 45 (by decide)) h.2.2.1 hU h.2.1 hw hpn (Or.inl ⟨rfl, z1⟩) (Or.inl ⟨rfl, z2⟩)) (by omega) (bX10_goesOn_21 rc (fun c3 => ?_) (fun c3 => ?_))
      · rw [ks_b0] at c3
        refine L34 M (gsp_c g0 fun c k1 k2 => ⟨fun q => q.elim, fun q => ?_⟩)
        subst q
        exact absurd k2 c3
      · rw [ks_b0, Classical.not_not] at c3
        refine mm_Call.of (s_gives hw ha hpn ihp hI hL hb g0 hok c3 (fun q => q) (Or.inl ⟨rfl, rfl⟩) (Or.inr (Or.inr ⟨rfl, rfl, rfl⟩))) (by omega) ?_
        rintro _ M2 ⟨rfl, hg2⟩
        exact L34 M2 (gsp_c hg2 fun c _ _ => ⟨fun q => q.elim (fun w => w.elim) id, Or.inr⟩)
    · rw [gk_0, ks_eqI (by omega) (by omega)] at c
      omega
