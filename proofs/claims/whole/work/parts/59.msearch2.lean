/-- found, best, rowMany are of the search's own -/
theorem MT.upS {M : mm_Mem} {th : Int32} {σ : g_st} (h : MT M th σ) (k : Nat) (x : Int32) (hk : k = 26 ∨ k = 27 ∨ k = 28) : MT (mm_upF M 31 k (.int x)) th σ := by
  rcases hk with rfl | rfl | rfl
  · exact h.upI 26 x (by decide) (by decide) (by decide) (by decide) (by decide)
  · exact h.upI 27 x (by decide) (by decide) (by decide) (by decide) (by decide)
  · exact h.upI 28 x (by decide) (by decide) (by decide) (by decide) (by decide)
theorem MT.upA {M : mm_Mem} {th : Int32} {σ : g_st} (h : MT M th σ) (a m : Nat) (f : Nat → Int32) (hq : (a, m) ∈ mk_scr) (ha : a < mm_K) : MT (mm_up M a (mm_aI m f)) th σ := h.sc1 hq (fun j hj => mm_up_n hj) ⟨f, ha, mm_up_s⟩
theorem MT.fi {M : mm_Mem} {th : Int32} {σ : g_st} (h : MT M th σ) (k : Nat) (hk : k ∈ mo_ints) : ∃ x, mm_fd M 31 10 k (.int x) := by
  obtain ⟨F, w, h1, -⟩ := mt_mo h
  exact ⟨_, h1.i k hk⟩
def lfp (M0 M : mm_Mem) (th : Int32) (σ : g_st) (a n : Nat) (T U E : Nat → Nat) (m : Nat) (B : List Nat) (es : List Nat) : Prop := (MT M th σ ∧ ra M a n T ∧ usr M U ∧ eds M E n) ∧ mm_fd M 31 10 26 (.int (nI m)) ∧ mm_fd M 31 10 27 (.int (nI B.length)) ∧ rwb M 47 B ∧ mm_fd M 31 10 28 (.int (nI es.length)) ∧ rwb M 46 (es.map U) ∧ fG M0 M
theorem s_ends {M : mm_Mem} {th : Int32} {σ : g_st} {a n : Nat} {T U E : Nat → Nat} {Ls : List (List Nat)} (hw : gw n T) (ha : a ≠ 31 ∧ a < 44) (h : mcs M th σ a n T U E n Ls) (hI : eI T U E n) (hL : ∀ R, R ∈ Ls → cvr T z0 R) (hl : Ls.length < 2 ^ 20) : mm_S 4 mX10_ends 0 0 [.ref 31, .ref a] M (fun r M' => r = none ∧ (∃ R0, (∀ R, (cvr T z0 R ∧ mtc U n R) ↔ R = R0) ∧ mcs M' th σ a n T U E n (Ls ++ [R0])) ∧ fG M M') := by
  have hn := hw.1
  obtain ⟨h1, h2, h3, h4, h5, B, h6, h7, h8⟩ := id h
  obtain ⟨x28, f28⟩ := h1.fi 28 (by decide)
  have hU : ∀ e, U e < 16384 := fun e => ks_p14 hn (hI.1 e)
  refine mm_S.of rfl rfl (Nat.le_of_ble_eq_true rfl) (fun r M' h x e => by rw [h.1] at e; cases e) (bX10_ends_0 h5 f28 ?_)
  rw [nI_1, show (0 : Int32) = nI 0 from rfl]
  have k0 : lfp M (mm_upF (mm_upF M 31 26 (.int (nI (Ls.length + 1)))) 31 28 (.int (nI 0))) th σ a n T U E (Ls.length + 1) B [] := by
    have e0 : ∀ j, j ≠ 31 → mm_upF (mm_upF M 31 26 (.int (nI (Ls.length + 1)))) 31 28 (.int (nI 0)) j = M j := fun j hj => (mm_upF_n hj).trans (mm_upF_n hj)
    refine ⟨⟨(h1.upS 26 _ (by decide)).upS 28 _ (by decide), mm_at.eq h2 (e0 a ha.1), h3.eq (e0 45 (by decide)), h4.eq (e0 44 (by decide))⟩, h5.s.n (by decide), (h6.n (by decide)).n (by decide), h7.eq (e0 47 (by decide)), (f28.n (by decide)).s, ?_, fun j hj _ => e0 j hj⟩
    obtain ⟨f, hf⟩ := h1.sc 46 91 (by decide)
    exact ⟨f, hf.eq (e0 46 (by decide)), fun k C hk => (by cases hk)⟩
  generalize mm_upF (mm_upF M 31 26 (.int (nI (Ls.length + 1)))) 31 28 (.int (nI 0)) = M0 at k0 ⊢
  have bcv : Ls ≠ [] → cvr T z0 B := fun q => by
    rcases h8 with w | w
    · exact absurd w.1 q
    · exact hL B w.1
  have blen : B.length ≤ 14 := by
    by_cases q : Ls = []
    · rcases h8 with w | w
      · rw [w.2]
        exact Nat.zero_le _
      · rw [q] at w
        cases w.1
    · exact Nat.le_trans (val_n hw (cvr_val (bcv q)) fun _ => Nat.zero_le _) hn
  have bval : ∀ C, C ∈ B → C < 16384 := fun C hC => by
    by_cases q : Ls = []
    · rcases h8 with w | w
      · rw [w.2] at hC
        cases hC
      · rw [q] at w
        cases w.1
    · exact ks_p14 hn (cv_C B T z0 hw (bcv q) C hC).2
  have nz : n ≤ 2 ^ 30 := by omega
  -- the row becomes the best one
  have copy : ∀ (M1 : mm_Mem) (es : List Nat), lfp M M1 th σ a n T U E (Ls.length + 1) B es → es.length ≤ 14 → (∀ R, (cvr T z0 R ∧ mtc U n R) ↔ R = es.map U) → bsm (Ls ++ [es.map U]) (es.map U) → mm_X mX10_ends 4 none (0, 0) 147 [.ref 31, .null, .null, .int (nI 0), .null] [] (mm_upF M1 31 27 (.int (nI es.length))) (fun r M' => r = none ∧ (∃ R0, (∀ R, (cvr T z0 R ∧ mtc U n R) ↔ R = R0) ∧ mcs M' th σ a n T U E n (Ls ++ [R0])) ∧ fG M M') := by
    intro M1 es hk hle hR hb
    obtain ⟨⟨q1, q2, q3, q4⟩, q5, q6, q7, q8, q9, q10⟩ := hk
    have e1 : ∀ j, j ≠ 31 → mm_upF M1 31 27 (.int (nI es.length)) j = M1 j := fun j hj => mm_upF_n hj
    have p1 := q1.upS 27 (nI es.length) (by decide)
    have p5 : mm_fd (mm_upF M1 31 27 (.int (nI es.length))) 31 10 26 (.int (nI (Ls.length + 1))) := q5.n (by decide)
    have p6 : mm_fd (mm_upF M1 31 27 (.int (nI es.length))) 31 10 27 (.int (nI es.length)) := q6.s
    have p8 : mm_fd (mm_upF M1 31 27 (.int (nI es.length))) 31 10 28 (.int (nI es.length)) := q8.n (by decide)
    have g0 : fG M (mm_upF M1 31 27 (.int (nI es.length))) := fun j hj hj2 => (e1 j hj).trans (q10 j hj hj2)
    have p2 : ra (mm_upF M1 31 27 (.int (nI es.length))) a n T := mm_at.eq q2 (e1 a ha.1)
    have p3 := q3.eq (e1 45 (by decide))
    have p4 := q4.eq (e1 44 (by decide))
    obtain ⟨f, r1, r2⟩ := q9.eq (e1 46 (by decide))
    obtain ⟨g, b1, -⟩ := q7.eq (e1 47 (by decide))
    generalize mm_upF M1 31 27 (.int (nI es.length)) = M2 at p1 p2 p3 p4 p5 p6 p8 g0 r1 b1 ⊢
    refine fld (s := 0) (n := es.length) (G := fun k (q : mm_Mem) => mm_X mX10_ends 4 none (0, 0) 147 [.ref 31, .null, .null, .int (nI k), .null] [] q _) (v0 := M2) (I := fun k q => MT q th σ ∧ (∃ g, mm_at q 47 (mm_aI 91 g) ∧ ∀ i C, i < k → (es.map U)[i]? = some C → g i = nI C) ∧ ∀ j, j ≠ 47 → q j = M2 j) (Nat.zero_le _) ⟨p1, ⟨g, b1, fun i C hi => absurd hi (Nat.not_lt_zero i)⟩, fun _ _ => rfl⟩ ?_
    rintro k M3 _ hk ⟨w1, ⟨g', w2, w3⟩, w4⟩ ih
    have f28' := p8.eq (w4 31 (by decide))
    have r1' : mm_at M3 46 (mm_aI 91 f) := r1.eq (w4 46 (by decide))
    refine bX10_ends_147 r1' w2 f28' (w1.fdr 25 47 (by decide)) (w1.fdr 24 46 (by decide)) (fun c => ?_) (fun c => ?_) (fun c => ?_) (fun c => ?_)
    · rw [ks_le (by omega) (by omega)] at c
      refine ⟨rfl, ⟨es.map U, hR, w1, mm_at.eq p2 (w4 a (by omega)), p3.eq (w4 45 (by decide)), p4.eq (w4 44 (by decide)), ?_, es.map U, ?_, ⟨g', w2, fun i C hi => w3 i C ?_ hi⟩, hb⟩, fun j hj hj2 => (w4 j (by omega)).trans (g0 j hj hj2)⟩
      · rw [List.length_append, List.length_singleton]
        exact p5.eq (w4 31 (by decide))
      · rw [List.length_map]
        exact p6.eq (w4 31 (by decide))
      · have := (List.getElem?_eq_some_iff.mp hi).1
        rw [List.length_map] at this
        omega
    · rw [ks_le (by omega) (by omega)] at c
      exact vp_in_nI (by omega) (by decide)
    · rw [ks_le (by omega) (by omega)] at c
      exact vp_in_nI (by omega) (by decide)
    · rw [ks_le (by omega) (by omega)] at c
      obtain ⟨C, hC⟩ : ∃ C, (es.map U)[k]? = some C := ⟨_, List.getElem?_eq_getElem (by rw [List.length_map]; omega)⟩
      rw [nI_clamp (by omega), r2 k C hC, nI_1]
      refine ih _ (by omega) ⟨w1.upA 47 91 _ (by decide) (by decide), ⟨_, mm_at.s w2.1, fun i D hi hD => ?_⟩, fun j hj => (mm_up_n hj).trans (w4 j hj)⟩
      by_cases u : i = k
      · subst u
        rw [hC] at hD
        rw [pk_us, Option.some.inj hD]
      · rw [pk_un u]
        exact w3 i D (by omega) hD
  refine fld (s := 0) (n := n) (G := fun p (q : mm_Mem × Nat) => mm_X mX10_ends 4 none (0, 0) 19 [.ref 31, .ref a, .int (nI q.2), .int (nI p), .null] [] q.1 _) (v0 := (M0, 0)) (I := fun p q => ∃ es, lfp M q.1 th σ a n T U E (Ls.length + 1) B es ∧ q.2 < 2 ^ 28 ∧ (∀ e, q.2.testBit e = true ↔ e ∈ es) ∧ xr0 n T U p 0 es) (Nat.zero_le n) ⟨[], k0, show 0 < 2 ^ 28 by decide, fun e => ⟨fun q => (by
    rw [show (M0, 0).2 = 0 from rfl, Nat.zero_testBit] at q
    cases q), fun q => (by cases q)⟩, xr0_0⟩ ?_
  rintro p ⟨M1, been⟩ _ hp ⟨es, k1, k2, k3, k4⟩ ih
  dsimp only at k1 k2 k3
  have hle : es.length ≤ 14 := by
    have := val_n hw k4.2.2.1 fun _ => Nat.zero_le _
    rw [List.length_map] at this
    omega
  obtain ⟨⟨q1, q2, q3, q4⟩, q5, q6, q7, q8, q9, q10⟩ := id k1
  refine bX10_ends_19 q2 q5 q8 q6 gk_in0 (fun c c1 => ?_) (fun c c1 => ?_) (fun c => ?_)
  · rw [gk_0, ks_le (by omega) (by omega)] at c
    rw [show (1 : Int32) = nI 1 from rfl, ks_le (by omega) (by omega)] at c1
    have hLe : Ls = [] := List.length_eq_zero_iff.mp (by omega)
    refine copy M1 es k1 hle (xr0_end hw hI k4 c) ?_
    rw [hLe]
    exact Or.inr ⟨List.mem_singleton.mpr rfl, fun R hR => Or.inl (List.mem_singleton.mp hR)⟩
  · rw [gk_0, ks_le (by omega) (by omega)] at c
    rw [show (1 : Int32) = nI 1 from rfl, ks_le (by omega) (by omega)] at c1
    have hne : Ls ≠ [] := fun q => by
      rw [q] at c1
      exact c1 (by decide)
    have hR := xr0_end hw hI k4 c
    have hRc := ((hR _).mpr rfl).1
    have lm : (es.map U).length = es.length := List.length_map _
    have f28' : mm_fd M1 31 10 28 (.int (nI (es.map U).length)) := by rw [lm]; exact q8
    have hbB : B ∈ Ls ∧ ∀ R, R ∈ Ls → R = B ∨ lsl B R := h8.resolve_left fun w => hne w.1
    refine mm_Call.eq (s_isLess f28' q6 (q1.fdr 24 46 (by decide)) (q1.fdr 25 47 (by decide)) q9 q7 (by rw [lm]; exact hle) blen (fun C hC => ?_) bval) (by decide) (bX10_ends_133 q8 q6 (fun c2 => ?_) (fun c2 => ?_))
    · obtain ⟨e, -, rfl⟩ := List.mem_map.mp hC
      exact hU e
    · rw [ks_b0, Classical.not_not] at c2
      refine copy M1 es k1 hle hR (Or.inr ⟨List.mem_append.mpr (Or.inr (List.mem_singleton.mpr rfl)), fun R hRm => ?_⟩)
      rcases List.mem_append.mp hRm with w | w
      · rcases hbB.2 R w with v | v
        · subst v
          exact Or.inr c2
        · exact Or.inr (lsl_tr c2 v)
      · exact Or.inl (List.mem_singleton.mp w)
    · rw [ks_b0] at c2
      refine ⟨rfl, ⟨es.map U, hR, q1, q2, q3, q4, by rw [List.length_append, List.length_singleton]; exact q5, B, q6, q7, Or.inr ⟨List.mem_append.mpr (Or.inl hbB.1), fun R hRm => ?_⟩⟩, q10⟩
      rcases List.mem_append.mp hRm with w | w
      · exact hbB.2 R w
      · rw [List.mem_singleton.mp w]
        rcases cv_tot _ T z0 B hRc (bcv hne) with v | v | v
        · exact Or.inl v
        · exact absurd v c2
        · exact Or.inr v
  rw [gk_0, ks_le (by omega) (by omega)] at c
  rw [nI_1]
  refine fld (s := p + 1) (n := n) (G := fun q (m : mm_Mem × Nat) => mm_X mX10_ends 4 none (0, 0) 31 [.ref 31, .ref a, .int (nI m.2), .int (nI p), .int (nI q)] [] m.1 _) (v0 := (M1, been)) (I := fun q m => ∃ es, lfp M m.1 th σ a n T U E (Ls.length + 1) B es ∧ m.2 < 2 ^ 28 ∧ (∀ e, m.2.testBit e = true ↔ e ∈ es) ∧ xr0 n T U p q es) (by omega) ⟨es, k1, k2, k3, xr0_n k4 fun i j g1 g2 g3 g4 => by
    unfold lbf at g4 ⊢
    omega⟩ ?_
  clear k1 k2 k3 k4 hle q1 q2 q3 q4 q5 q6 q7 q8 q9 q10 es been M1
  rintro q ⟨M1, been⟩ hpq hq ⟨es, k1, k2, k3, k4⟩ ih2
  dsimp only at k1 k2 k3
  have hle : es.length ≤ 14 := by
    have := val_n hw k4.2.2.1 fun _ => Nat.zero_le _
    rw [List.length_map] at this
    omega
  obtain ⟨⟨q1, q2, q3, q4⟩, q5, q6, q7, q8, q9, q10⟩ := id k1
  have hTp := gw_ok hw p
  refine bX10_ends_31 q2 (q1.fdr 24 46 (by decide)).rc (by decide) gk_in0 (fun c1 => ?_) (fun _ => gk_in1 (by omega)) (fun c1 c2 => ?_) (fun c1 c2 => ?_)
  · rw [gk_0, ks_le (by omega) (by omega)] at c1
    rw [nI_1]
    refine ih (M1, been) (by omega) ⟨es, k1, k2, k3, xr0_n k4 fun i j g1 g2 g3 g4 => Or.inl ?_⟩
    unfold lbf at g4 ⊢
    omega
  · rw [gk_0, ks_le (by omega) (by omega)] at c1
    rw [gk_1 (by omega), ks_mhas (by omega) (by omega), ks_b0] at c2
    rw [nI_1]
    refine ih2 (M1, been) (by omega) ⟨es, k1, k2, k3, xr0_n k4 fun i j g1 g2 g3 g4 => ?_⟩
    unfold lbf at g4 ⊢
    by_cases u : i = p ∧ j = q
    · rw [u.1, u.2] at g3
      exact absurd g3 c2
    · left
      omega
  rw [gk_0, ks_le (by omega) (by omega)] at c1
  rw [gk_1 (by omega), ks_mhas (by omega) (by omega), ks_b0, Classical.not_not] at c2
  obtain ⟨e, e1, e2⟩ := (hI.2.2.2.2.1 p q (by omega) (by omega) (by omega)).mp c2
  have e28 : e < 28 := by
    refine Nat.lt_of_not_le fun w => ?_
    have := hI.2.1 e (by omega)
    rw [this, Nat.zero_testBit] at e1
    cases e1
  have hEB := s_endBoth (q1.fdr 22 44 (by decide)) q4 hI hn (by omega) (show q < n by omega) (show p ≠ q by omega) e1 e2
  refine mm_Call.eq hEB (by decide) (bX10_ends_57 (q1.fdr 24 46 (by decide)).rc (by decide) (fun c3 => ?_) (fun c3 => ?_))
  rotate_left
  · rw [ks_mhas (by omega) (by omega), ks_b0, Classical.not_not, k3] at c3
    rw [nI_1]
    refine ih2 (M1, been) (by omega) ⟨es, k1, k2, k3, xr0_n k4 fun i j g1 g2 g3 g4 => ?_⟩
    unfold lbf at g4 ⊢
    by_cases u : i = p ∧ j = q
    · rw [u.1, u.2]
      exact Or.inr ⟨e, c3, e1, e2⟩
    · left
      omega
  rw [ks_mhas (by omega) (by omega), ks_b0, k3] at c3
  refine mm_Call.eq hEB (by decide) (bX10_ends_75 (q1.fdr 24 46 (by decide)) q8 (q1.fdr 23 45 (by decide)) (mm_Call.eq hEB (by decide) ?_))
  obtain ⟨fu, u1, u2⟩ := id q3
  obtain ⟨fr, r1, r2⟩ := id q9
  rw [ks_shl1 _ (by omega), nx_or]
  refine bX10_ends_97 u1 r1 q8 (by decide) (vp_in_nI (by omega) (by decide)) (vp_in_nI (by omega) (by decide)) ?_
  rw [nI_clamp (by omega), nI_clamp (by omega), u2 e (by omega), nI_1, nI_1]
  have k4' := xr0_s hw hI k4 hpq (by omega) e1 e2 c3
  have mN := (q1.upA 46 91 (upd fr es.length (nI (U e))) (by decide) (by decide)).upS 28 (nI (es.length + 1)) (by decide)
  have eN : ∀ j, j ≠ 31 → j ≠ 46 → mm_upF (mm_up M1 46 (mm_aI 91 (upd fr es.length (nI (U e))))) 31 28 (.int (nI (es.length + 1))) j = M1 j := fun j g1 g2 => (mm_upF_n g1).trans (mm_up_n g2)
  refine ih2 (_, been ||| 2 ^ e) (by omega) ⟨es ++ [e], ⟨⟨mN, mm_at.eq q2 (eN a ha.1 (by omega)), q3.eq (eN 45 (by decide) (by decide)), q4.eq (eN 44 (by decide) (by decide))⟩, (q5.o (by decide)).n (by decide), (q6.o (by decide)).n (by decide), q7.eq (eN 47 (by decide) (by decide)), ?_, ?_, fun j g1 g2 => (eN j g1 (by omega)).trans (q10 j g1 g2)⟩, ks_or_lt k2 (ks_p2_lt e28), fun x => ?_, k4'⟩
  · rw [List.length_append, List.length_singleton]
    exact (q8.o (by decide)).s
  · refine ⟨_, (mm_at.s r1.1).nF (by decide), fun k C hk => ?_⟩
    rw [List.map_append, List.map_singleton] at hk
    by_cases u : k < es.length
    · rw [List.getElem?_append_left (by rw [List.length_map]; exact u)] at hk
      rw [pk_un (by omega)]
      exact r2 k C hk
    · have hi := (List.getElem?_eq_some_iff.mp hk).1
      rw [List.length_append, List.length_map, List.length_singleton] at hi
      obtain rfl : k = es.length := by omega
      rw [List.getElem?_append_right (by rw [List.length_map]; exact Nat.le_refl _), List.length_map, Nat.sub_self] at hk
      rw [pk_us, ← Option.some.inj hk]
  · rw [Nat.testBit_or, Bool.or_eq_true, k3, ks_p2, decide_eq_true_eq, List.mem_append, List.mem_singleton, eq_comm (a := e)]
