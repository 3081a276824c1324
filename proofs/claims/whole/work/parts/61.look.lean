/-! HOW MANY COVERS there are, and the first one: of both -/
noncomputable def g_cvs (T : Nat → Nat) : Nat := g_the (fun N => ∃ Ls : List (List Nat), Ls.Nodup ∧ (∀ R, R ∈ Ls ↔ cvr T z0 R) ∧ Ls.length = N)
noncomputable def g_fst (T : Nat → Nat) : List Nat := @Classical.epsilon (List Nat) ⟨[]⟩ (mnl (cvr T z0))
def g_any (T : Nat → Nat) : Prop := ∃ R, cvr T z0 R
theorem cvs_eq {T : Nat → Nat} {Ls : List (List Nat)} (h1 : Ls.Nodup) (h2 : ∀ R, R ∈ Ls ↔ cvr T z0 R) : g_cvs T = Ls.length := g_the_eq ⟨Ls, h1, h2, rfl⟩ fun a b ha hb => by
  obtain ⟨L1, a1, a2, rfl⟩ := ha
  obtain ⟨L2, b1, b2, rfl⟩ := hb
  exact Nat.le_antisymm (ll_len L1 L2 a1 fun x hx => (b2 x).mpr ((a2 x).mp hx)) (ll_len L2 L1 b1 fun x hx => (a2 x).mpr ((b2 x).mp hx))
theorem fst_eq {T : Nat → Nat} {B : List Nat} (h : mnl (cvr T z0) B) : g_fst T = B := mnl_u (@Classical.epsilon_spec_aux (List Nat) ⟨[]⟩ (mnl (cvr T z0)) ⟨B, h⟩) h
def lkq (T : Nat → Nat) (N : Nat) (B : List Nat) : Prop := N = g_cvs T ∧ ((N = 0 ∧ ¬ g_any T ∧ B = []) ∨ (N ≠ 0 ∧ g_any T ∧ B = g_fst T ∧ cvr T z0 B))
theorem lkq_of {T : Nat → Nat} {Ls : List (List Nat)} {B : List Nat} (h1 : Ls.Nodup) (h2 : ∀ R, R ∈ Ls ↔ cvr T z0 R) (h3 : bsm Ls B) : lkq T Ls.length B := by
  refine ⟨(cvs_eq h1 h2).symm, ?_⟩
  cases Ls with
  | nil =>
    rcases h3 with ⟨-, h⟩ | ⟨h, -⟩
    · exact Or.inl ⟨rfl, fun ⟨R, q⟩ => (by cases (h2 R).mpr q), h⟩
    · cases h
  | cons R L =>
    rcases h3 with ⟨h, -⟩ | ⟨h, h'⟩
    · cases h
    · have hB := (h2 B).mp h
      exact Or.inr ⟨by rw [List.length_cons]; omega, ⟨B, hB⟩, (fst_eq ⟨hB, fun X hX => h' X ((h2 X).mpr hX)⟩).symm, hB⟩
theorem lkq_len {n N : Nat} {T : Nat → Nat} {B : List Nat} (hw : gw n T) (h : lkq T N B) : B.length ≤ n ∧ ∀ C, C ∈ B → C < 2 ^ n := by
  rcases h.2 with ⟨-, -, q⟩ | ⟨-, -, -, q⟩
  · rw [q]
    exact ⟨Nat.zero_le _, fun C hC => (by cases hC)⟩
  · exact ⟨val_n hw (cvr_val q) fun _ => Nat.zero_le _, fun C hC => (cv_C B T z0 hw q C hC).2⟩
def lkd (M : mm_Mem) (n : Nat) (T : Nat → Nat) (N : Nat) (B : List Nat) : Prop := cvm M n T z0 [] (min 999 N) B ∧ lkq T N B
theorem cvm.cc {M : mm_Mem} {n : Nat} {O s : Nat → Nat} {R1 : List Nat} {F : Nat} {B : List Nat} (h : cvm M n O s R1 F B) : cc M := by
  obtain ⟨h1, ⟨f, h2, -⟩, ⟨g, h3, -⟩, ⟨u, h4, -⟩, ⟨v, h5, -⟩⟩ := h
  refine ⟨h1.1, fun k hk => ?_, ⟨f, h2⟩, ⟨g, h3⟩, ⟨u, h4⟩, ⟨v, h5⟩⟩
  simp only [List.mem_cons, List.not_mem_nil, or_false] at hk
  rcases hk with rfl | rfl | rfl
  · exact ⟨_, h1.2.1⟩
  · exact ⟨_, h1.2.2.1⟩
  · exact ⟨_, h1.2.2.2⟩
theorem s_lookC {M : mm_Mem} {k n : Nat} {T : Nat → Nat} (o : na M k n T) (hw : gw n T) (hk : k + 1 < 11) (h : cc M) : mm_S 19 mX2_look 0 0 [.ref 11, .ref k] M (fun r M' => r = none ∧ (∃ N B, lkd M' n T N B) ∧ ∀ j, j < 11 ∨ 15 < j → M' j = M j) := by
  have hn := hw.1
  obtain ⟨h1, h2, ⟨f, h3⟩, ⟨g, h4⟩, ⟨u, h5⟩, ⟨v, h6⟩⟩ := id h
  obtain ⟨x4, f4⟩ := h2 4 (by decide)
  obtain ⟨x5, f5⟩ := h2 5 (by decide)
  obtain ⟨x6, f6⟩ := h2 6 (by decide)
  have q0 : cvh M x4 x5 x6 := ⟨h1, f4, f5, f6⟩
  refine mm_S.of rfl rfl (Nat.le_of_ble_eq_true rfl) (fun r M' h x e => by rw [h.1] at e; cases e) (bX2_look_0 o.1 f4 f5 f6 (by decide) ?_)
  have q1 := ((q0.s4 (nI n)).s5 0).s6 0
  have e1 : ∀ j, j ≠ 11 → mm_upF (mm_upF (mm_upF M 11 4 (.int (nI n))) 11 5 (.int 0)) 11 6 (.int 0) j = M j := fun j hj => ((mm_upF_n hj).trans (mm_upF_n hj)).trans (mm_upF_n hj)
  generalize mm_upF (mm_upF (mm_upF M 11 4 (.int (nI n))) 11 5 (.int 0)) 11 6 (.int 0) = M1 at q1 e1 ⊢
  rw [show (0 : Int32) = nI 0 from rfl]
  refine fld (s := 0) (n := n) (G := fun p (q : mm_Mem) => mm_X mX2_look 19 none (0, 0) 20 [.ref 11, .ref k, .int (nI p)] [] q _) (v0 := M1) (I := fun p q => (∃ f, mm_at q 12 (mm_aI 14 f) ∧ ∀ i, i < p → f i = nI (T i)) ∧ (∃ g, mm_at q 13 (mm_aI 14 g) ∧ ∀ i, i < p → g i = nI 0) ∧ ∀ j, j ≠ 12 → j ≠ 13 → q j = M1 j) (Nat.zero_le n) ⟨⟨f, h3.eq (e1 12 (by decide)), fun i hi => absurd hi (Nat.not_lt_zero i)⟩, ⟨g, h4.eq (e1 13 (by decide)), fun i hi => absurd hi (Nat.not_lt_zero i)⟩, fun _ _ _ => rfl⟩ ?_
  rintro p M2 _ hp ⟨⟨f2, w1, w2⟩, ⟨g2, w3, w4⟩, e2⟩ ih
  have q2 := q1.eq (e2 11 (by decide) (by decide))
  have o2 : na M2 k n T := o.eq ((e2 k (by omega) (by omega)).trans (e1 k (by omega))) ((e2 (k + 1) (by omega) (by omega)).trans (e1 (k + 1) (by omega)))
  refine bX2_look_20 o2.1 o2.2 w1 w3 q2.2.1 (q2.1 (0, 12) (by decide)) (q2.1 (1, 13) (by decide)) (by decide) (by decide) (by decide) (fun c => ?_) (fun c => ?_)
  · rw [ks_le (by omega) (by omega)] at c
    obtain rfl : p = n := by omega
    have hc : cvm M2 p T z0 [] 0 [] := ⟨q2, ⟨f2, w1, w2⟩, ⟨g2, w3, w4⟩, ⟨u, h5.eq ((e2 14 (by decide) (by decide)).trans (e1 14 (by decide))), fun k C hC => (by cases hC)⟩, ⟨v, h6.eq ((e2 15 (by decide) (by decide)).trans (e1 15 (by decide))), fun k C hC => (by cases hC)⟩⟩
    refine mm_Call.of (s_seek hw 15 [] M2 0 [] rfl trivial hc (by decide)) (by decide) ?_
    rintro _ M3 ⟨rfl, ⟨Ls, k1, k2⟩, k3⟩
    refine bX2_look_61 ⟨rfl, ⟨Ls.length, bst 0 [] [] Ls, ?_, lkq_of (pw_nd k1.1) k1.2 ?_⟩, fun j hj => (k3 j hj).trans ((e2 j (by omega) (by omega)).trans (e1 j (by omega)))⟩
    · rw [Nat.zero_add] at k2
      exact k2
    · cases Ls with
      | nil => exact Or.inl ⟨rfl, rfl⟩
      | cons R L =>
        refine Or.inr ⟨List.mem_cons_self, fun X hX => ?_⟩
        rcases List.mem_cons.mp hX with w | w
        · exact Or.inl w
        · exact Or.inr ((List.pairwise_cons.mp k1.1).1 X w)
  · rw [ks_le (by omega) (by omega)] at c
    rw [show (0 : Int32) = nI 0 from rfl, ks_at (by decide) (by omega), ks_put (by decide) (by omega), ks_put (by decide) (by omega), nI_1]
    refine ih _ (by omega) ⟨⟨_, (mm_at.s w1.1).n (by decide), fun i hi => ?_⟩, ⟨_, mm_at.s w3.1, fun i hi => ?_⟩, fun j g1 g2 => ((mm_up_n g2).trans (mm_up_n g1)).trans (e2 j g1 g2)⟩
    · by_cases z : i = p
      · subst z
        rw [pk_us]
      · rw [pk_un z]
        exact w2 i (by omega)
    · by_cases z : i = p
      · subst z
        rw [pk_us]
      · rw [pk_un z]
        exact w4 i (by omega)
theorem CS.cvx {M : mm_Mem} {σ : g_st} (h : CS M σ) : cc M := by
  obtain ⟨n, T, L, K, t, f, fk⟩ := σ
  exact h.2.2.2.2.2.2.1
theorem CS.cvu {M M' : mm_Mem} {σ : g_st} (h : CS M σ) (hc : cc M') (e : ∀ j, j < 11 ∨ 15 < j → M' j = M j) : CS M' σ := by
  obtain ⟨n, T, L, K, t, f, fk⟩ := σ
  obtain ⟨-, -, -, h4, -, -, -, h9, h10, -⟩ := id h
  exact h.scr (h4.eq (e 3 (by decide)) (e 4 (by decide))) hc (h9.eq fun j _ _ => e j (by omega)) (h10.eq fun j _ _ => e j (by omega)) fun j h1 h2 _ _ => e j (by omega)
theorem s_look1 {M : mm_Mem} {n : Nat} {T : Nat → Nat} {L : g_nets} {K : g_kept} {t : Nat} {f : Nat → Int32} {fk : Int32} (h : CS M (n, T, L, K, t, f, fk)) : mm_S 19 mX2_look 0 0 [.ref 11, .ref 1] M (fun r M' => r = none ∧ CS M' (n, T, L, K, t, f, fk) ∧ (∃ N B, lkd M' n T N B) ∧ fC M M') := by
  obtain ⟨o, hw⟩ := h.here
  refine mm_S.mono (s_lookC o hw (by decide) h.cvx) ?_
  rintro r M' ⟨q1, ⟨N, B, q2⟩, q3⟩
  exact ⟨q1, h.cvu q2.1.cc q3, ⟨N, B, q2⟩, fun j hj => q3 j (by omega)⟩
theorem s_laysCovers {M : mm_Mem} {th : Int32} {σ : g_st} {a n : Nat} {T : Nat → Nat} (h : MT M th σ) (o : ra M a n T) (hw : gw n T) (ha : a ≠ 31 ∧ a < 44) : mm_S 34 mX10_laysCovers 0 0 [.ref 31, .ref a] M (fun r M' => MT M' th σ ∧ (∃ N B, r = some (.int (nI N)) ∧ N ≤ 2 ^ 14 ∧ lkq T N B ∧ mm_fd M' 31 10 27 (.int (nI B.length)) ∧ rwb M' 47 B) ∧ fG M M') := by
  have hn := hw.1
  obtain ⟨x26, f26⟩ := h.fi 26 (by decide)
  obtain ⟨x27, f27⟩ := h.fi 27 (by decide)
  refine mm_S.of rfl rfl (Nat.le_of_ble_eq_true rfl) (fun r M' h x e => by obtain ⟨-, ⟨N, B, h, -⟩, -⟩ := h; rw [h] at e; cases e) (bX10_laysCovers_0 f26 f27 ?_)
  rw [show (0 : Int32) = nI 0 from rfl]
  have m1 := (h.upS 26 (nI 0) (by decide)).upS 27 (nI 0) (by decide)
  have e1 : ∀ j, j ≠ 31 → mm_upF (mm_upF M 31 26 (.int (nI 0))) 31 27 (.int (nI 0)) j = M j := fun j hj => (mm_upF_n hj).trans (mm_upF_n hj)
  have g1 : mm_fd (mm_upF (mm_upF M 31 26 (.int (nI 0))) 31 27 (.int (nI 0))) 31 10 26 (.int (nI 0)) := f26.s.n (by decide)
  have g2 : mm_fd (mm_upF (mm_upF M 31 26 (.int (nI 0))) 31 27 (.int (nI 0))) 31 10 27 (.int (nI 0)) := (f27.n (by decide)).s
  generalize mm_upF (mm_upF M 31 26 (.int (nI 0))) 31 27 (.int (nI 0)) = M1 at m1 e1 g1 g2 ⊢
  obtain ⟨f, o45⟩ := m1.sc 45 29 (by decide)
  refine fld (s := 0) (n := 29) (G := fun e (q : mm_Mem) => mm_X mX10_laysCovers 34 none (0, 0) 12 [.ref 31, .ref a, .int (nI e)] [] q _) (v0 := M1) (I := fun e q => MT q th σ ∧ (∃ f, mm_at q 45 (mm_aI 29 f) ∧ ∀ i, i < e → f i = nI 0) ∧ ∀ j, j ≠ 45 → q j = M1 j) (Nat.zero_le _) ⟨m1, ⟨f, o45, fun i hi => absurd hi (Nat.not_lt_zero i)⟩, fun _ _ => rfl⟩ ?_
  rintro e M2 _ he ⟨m2, ⟨f2, w1, w2⟩, e2⟩ ih
  have f23 := m2.fdr 23 45 (by decide)
  refine bX10_laysCovers_12 w1 f23 f23.rc (fun c => ?_) (fun c => ?_) (fun c => ?_)
  · rw [show (29 : Int32) = nI 29 from rfl, ks_le (by omega) (by omega)] at c
    obtain rfl : e = 29 := by omega
    have o2 : ra M2 a n T := mm_at.eq o ((e2 a (by omega)).trans (e1 a ha.1))
    obtain ⟨gE, o44⟩ := m2.sc 44 28 (by decide)
    obtain ⟨gB, o47⟩ := m2.sc 47 91 (by decide)
    have hM : mcs M2 th σ a n T (fun _ => 0) (fun _ => 0) 0 [] := ⟨m2, o2, ⟨f2, w1, w2⟩, ⟨gE, o44, fun i hi => absurd hi (Nat.not_lt_zero i)⟩, g1.eq (e2 31 (by decide)), [], g2.eq (e2 31 (by decide)), ⟨gB, o47, fun k C hC => (by cases hC)⟩, Or.inl ⟨rfl, rfl⟩⟩
    have p14 : 2 ^ n ≤ 2 ^ 14 := Nat.pow_le_pow_right (by decide) hn
    refine mm_Call.of (s_goesOn hw ha n 0 (fun _ => 0) (fun _ => 0) M2 [] (by omega) eI_0 hM (fun R hR => (by cases hR)) (by rw [List.length_nil]; omega)) (by omega) ?_
    rintro _ M3 ⟨rfl, ⟨L', k1, k2, k3, ⟨k4, k5, k6, k7, k8, B, k9, k10, k11⟩⟩, k12⟩
    rw [List.nil_append] at k8 k11
    have k2' : ∀ R, R ∈ L' ↔ cvr T z0 R := fun R => (k2 R).trans ⟨fun q => q.1, fun q => ⟨q, mtc_0⟩⟩
    refine bX10_laysCovers_37 k8 ⟨k4, ⟨L'.length, B, rfl, by omega, lkq_of k1 k2' k11, k9, k10⟩, fun j h1 h2 => (k12 j h1 h2).trans ((e2 j (by omega)).trans (e1 j h1))⟩
  · rw [show (29 : Int32) = nI 29 from rfl, ks_le (by omega) (by omega)] at c
    exact vp_in_nI (by omega) (by decide)
  · rw [show (29 : Int32) = nI 29 from rfl, ks_le (by omega) (by omega)] at c
    rw [nI_clamp (by omega), show (0 : Int32) = nI 0 from rfl, nI_1]
    refine ih _ (by omega) ⟨m2.upA 45 29 _ (by decide) (by decide), ⟨_, mm_at.s w1.1, fun i hi => ?_⟩, fun j hj => (mm_up_n hj).trans (e2 j hj)⟩
    by_cases z : i = e
    · subst z
      rw [pk_us]
    · rw [pk_un z]
      exact w2 i (by omega)
noncomputable def o_covers : g_st → Int32 × g_st
  | (n, T, L, K, t, f, fk) => (nI (min 999 (g_cvs T)), (n, T, L, K, t, f, fk))
noncomputable def o_cliques : g_st → Int32 × g_st
  | (n, T, L, K, t, f, fk) => (pif (g_any T) (nI (g_fst T).length) (-1), (n, T, L, K, t, f, fk))
noncomputable def o_clique : g_st → Int32 → Int32 × g_st
  | (n, T, L, K, t, f, fk), x => (pif (g_any T ∧ ∃ k, k < (g_fst T).length ∧ x = nI k) (nI ((g_fst T).getD x.toNatClampNeg 0)) (-1), (n, T, L, K, t, f, fk))
theorem oC_covers {M : mm_Mem} {σ : g_st} (h : CS M σ) : OC 20 mX9_covers [] M (o_covers σ) := by
  obtain ⟨n, T, L, K, t, f, fk⟩ := σ
  have rc := (h.cvx.1 (0, 12) (by decide)).rc
  refine mm_S.of rfl rfl (Nat.le_of_ble_eq_true rfl) ndC (bX9_covers_0 (h.fd 4 11 (by decide)) (h.fd 0 1 (by decide)) rc (mm_Call.of (s_look1 h) (by decide) ?_))
  rintro _ M1 ⟨rfl, h1, ⟨N, B, k1, k2⟩, e⟩
  refine bX9_covers_11 (h1.fd 4 11 (by decide)) k1.1.2.2.2 (by decide) ⟨?_, h1, e⟩
  dsimp only [o_covers]
  rw [k2.1]
theorem oM_covers {M : mm_Mem} {σ : g_st} (h : MS M σ) : OM 35 mX10_covers [] M (o_covers σ) := by
  obtain ⟨n, T, L, K, t, f, fk⟩ := σ
  obtain ⟨th, h⟩ := h
  obtain ⟨F, w, m1, m2⟩ := h.mo
  have hz := h.z
  obtain ⟨o, hw⟩ := hz.now
  refine mm_S.of rfl rfl (Nat.le_of_ble_eq_true rfl) ndM (bX10_covers_0 (m1.i 0 (by decide)) (m1.r 10 33 (by decide)) (mm_Call.of (s_laysCovers hz o hw (by decide)) (by decide) ?_))
  rintro r M1 ⟨h1, ⟨N, B, rfl, k1, k2, -⟩, e⟩
  have fr : fM M M1 := fun j hj => (e j (by omega) (by omega)).trans (fM_z j hj)
  refine bX10_covers_13 (fun c => ⟨?_, ⟨_, h1⟩, fr⟩) (fun c => ⟨?_, ⟨_, h1⟩, fr⟩)
  · rw [show (999 : Int32) = nI 999 from rfl, ks_le (by omega) (by omega)] at c
    dsimp only [o_covers]
    rw [← k2.1, Nat.min_eq_right c]
  · rw [show (999 : Int32) = nI 999 from rfl, ks_le (by omega) (by omega)] at c
    dsimp only [o_covers]
    rw [← k2.1, Nat.min_eq_left (by omega)]
    rfl
theorem oC_cliques {M : mm_Mem} {σ : g_st} (h : CS M σ) : OC 20 mX9_cliques [] M (o_cliques σ) := by
  obtain ⟨n, T, L, K, t, f, fk⟩ := σ
  have rc := (h.cvx.1 (0, 12) (by decide)).rc
  refine mm_S.of rfl rfl (Nat.le_of_ble_eq_true rfl) ndC (bX9_cliques_0 (h.fd 4 11 (by decide)) (h.fd 0 1 (by decide)) rc (mm_Call.of (s_look1 h) (by decide) ?_))
  rintro _ M1 ⟨rfl, h1, ⟨N, B, k1, k2⟩, e⟩
  refine bX9_cliques_11 (h1.fd 4 11 (by decide)) k1.1.2.2.2 k1.1.2.2.1 (by decide) (fun c => ⟨?_, h1, e⟩) (fun c => ⟨?_, h1, e⟩)
  · rw [ks_eq0 (by omega)] at c
    dsimp only [o_cliques]
    rcases k2.2 with ⟨q, -⟩ | ⟨-, q1, q2, -⟩
    · omega
    · rw [pif_t q1, q2]
  · rw [ks_eq0 (by omega)] at c
    dsimp only [o_cliques]
    rcases k2.2 with ⟨-, q, -⟩ | ⟨q, -⟩
    · rw [pif_f q]
    · omega
theorem oM_cliques {M : mm_Mem} {σ : g_st} (h : MS M σ) : OM 35 mX10_cliques [] M (o_cliques σ) := by
  obtain ⟨n, T, L, K, t, f, fk⟩ := σ
  obtain ⟨th, h⟩ := h
  obtain ⟨F, w, m1, m2⟩ := h.mo
  have hz := h.z
  obtain ⟨o, hw⟩ := hz.now
  refine mm_S.of rfl rfl (Nat.le_of_ble_eq_true rfl) ndM (bX10_cliques_0 (m1.i 0 (by decide)) (m1.r 10 33 (by decide)) (mm_Call.of (s_laysCovers hz o hw (by decide)) (by decide) ?_))
  rintro r M1 ⟨h1, ⟨N, B, rfl, k1, k2, k3, -⟩, e⟩
  have fr : fM M M1 := fun j hj => (e j (by omega) (by omega)).trans (fM_z j hj)
  refine bX10_cliques_13 k3 (fun c => ⟨?_, ⟨_, h1⟩, fr⟩) (fun c => ⟨?_, ⟨_, h1⟩, fr⟩)
  · rw [ks_eq0 (by omega)] at c
    dsimp only [o_cliques]
    rcases k2.2 with ⟨q, -⟩ | ⟨-, q1, q2, -⟩
    · omega
    · rw [pif_t q1, q2]
  · rw [ks_eq0 (by omega)] at c
    dsimp only [o_cliques]
    rcases k2.2 with ⟨-, q, -⟩ | ⟨q, -⟩
    · rw [pif_f q]
    · omega
theorem ks_xlt {N : Nat} (hN : N < 2 ^ 30) (x : Int32) : (∃ k, k < N ∧ x = nI k) ↔ (¬ x < 0 ∧ x < nI N) := by
  constructor
  · rintro ⟨k, h1, rfl⟩
    exact ⟨nI_pos (by omega), (ks_ltI (by omega) (by omega)).mpr h1⟩
  · rintro ⟨h1, h2⟩
    obtain ⟨j, hj, rfl⟩ := nI_of h1
    exact ⟨j, (ks_ltI hj (by omega)).mp h2, rfl⟩
theorem ks_getD {B : List Nat} {k : Nat} (h : k < B.length) : B[k]? = some (B.getD k 0) := by
  rw [List.getD_eq_getElem?_getD, List.getElem?_eq_getElem h]
  rfl
theorem oC_clique {M : mm_Mem} {σ : g_st} {x : Int32} (h : CS M σ) : OC 20 mX9_clique [.int x] M (o_clique σ x) := by
  obtain ⟨n, T, L, K, t, f, fk⟩ := σ
  obtain ⟨-, hw⟩ := h.here
  have hn := hw.1
  have rc := (h.cvx.1 (0, 12) (by decide)).rc
  refine mm_S.of rfl rfl (Nat.le_of_ble_eq_true rfl) ndC (bX9_clique_0 (h.fd 4 11 (by decide)) (h.fd 0 1 (by decide)) rc (mm_Call.of (s_look1 h) (by decide) ?_))
  rintro _ M1 ⟨rfl, h1, ⟨N, B, k1, k2⟩, e⟩
  obtain ⟨g, b1, b2⟩ := k1.2.2.2.2
  have lB := lkq_len hw k2
  have nay : ¬ (g_any T ∧ ∃ k, k < (g_fst T).length ∧ x = nI k) → some (Value.int (-1)) = some (.int (o_clique (n, T, L, K, t, f, fk) x).1) ∧ CS M1 (o_clique (n, T, L, K, t, f, fk) x).2 ∧ fC M M1 := fun q => by
    dsimp only [o_clique]
    rw [pif_f q]
    exact ⟨rfl, h1, e⟩
  refine bX9_clique_11 b1 (h1.fd 4 11 (by decide)) k1.1.2.2.2 k1.1.2.2.1 (k1.r 3 15 (by decide)) (by decide) (fun c => nay fun q => ?_) (fun c c1 => nay fun q => ?_) (fun c c1 c2 => ?_) (fun c c1 c2 => nay fun q => ?_)
  · rw [ks_eq0 (by omega)] at c
    rcases k2.2 with ⟨-, q1, -⟩ | ⟨q1, -⟩
    · exact q1 q.1
    · omega
  · rcases k2.2 with ⟨-, q1, -⟩ | ⟨-, q1, q2, -⟩
    · exact q1 q.1
    · rw [← q2, ks_xlt (by omega)] at q
      exact q.2.1 c1
  · rw [ks_eq0 (by omega)] at c
    rcases k2.2 with ⟨q, -⟩ | ⟨-, q1, q2, -⟩
    · omega
    · have hx := (ks_xlt (by omega) x).mpr ⟨c1, c2⟩
      obtain ⟨k, hk, rfl⟩ := id hx
      dsimp only [o_clique]
      rw [← q2, pif_t ⟨q1, hx⟩, nI_clamp (by omega), ks_at (by decide) (by omega), b2 k _ (ks_getD hk)]
      exact ⟨rfl, h1, e⟩
  · rcases k2.2 with ⟨-, q1, -⟩ | ⟨-, q1, q2, -⟩
    · exact q1 q.1
    · rw [← q2, ks_xlt (by omega)] at q
      exact c2 q.2.2
theorem oM_clique {M : mm_Mem} {σ : g_st} {x : Int32} (h : MS M σ) : OM 35 mX10_clique [.int x] M (o_clique σ x) := by
  obtain ⟨n, T, L, K, t, f, fk⟩ := σ
  obtain ⟨th, h⟩ := h
  obtain ⟨F, w, m1, m2⟩ := h.mo
  have hz := h.z
  obtain ⟨o, hw⟩ := hz.now
  have hn := hw.1
  refine mm_S.of rfl rfl (Nat.le_of_ble_eq_true rfl) ndM (bX10_clique_0 (m1.i 0 (by decide)) (m1.r 10 33 (by decide)) (mm_Call.of (s_laysCovers hz o hw (by decide)) (by decide) ?_))
  rintro r M1 ⟨h1, ⟨N, B, rfl, k1, k2, k3, g, b1, b2⟩, e⟩
  have fr : fM M M1 := fun j hj => (e j (by omega) (by omega)).trans (fM_z j hj)
  have lB := lkq_len hw k2
  have nay : ¬ (g_any T ∧ ∃ k, k < (g_fst T).length ∧ x = nI k) → some (Value.int (-1)) = some (.int (o_clique (n, T, L, K, t, f, fk) x).1) ∧ MS M1 (o_clique (n, T, L, K, t, f, fk) x).2 ∧ fM M M1 := fun q => by
    dsimp only [o_clique]
    rw [pif_f q]
    exact ⟨rfl, ⟨_, h1⟩, fr⟩
  refine bX10_clique_13 b1 k3 (h1.fdr 25 47 (by decide)) (by decide) (fun c => nay fun q => ?_) (fun c c1 => ?_) (fun c c1 => ?_) (fun c c1 => nay fun q => ?_)
  · rw [ks_eq0 (by omega)] at c
    rcases k2.2 with ⟨-, q1, -⟩ | ⟨q1, -⟩
    · exact q1 q.1
    · omega
  · rw [q_isInN (by omega), ks_b0, Classical.not_not] at c1
    obtain ⟨k, hk, rfl⟩ := c1
    exact vp_in_nI (by omega) (by decide)
  · rw [ks_eq0 (by omega)] at c
    rw [q_isInN (by omega), ks_b0, Classical.not_not] at c1
    rcases k2.2 with ⟨q, -⟩ | ⟨-, q1, q2, -⟩
    · omega
    · obtain ⟨k, hk, rfl⟩ := id c1
      dsimp only [o_clique]
      rw [← q2, pif_t ⟨q1, c1⟩, nI_clamp (by omega), b2 k _ (ks_getD hk)]
      exact ⟨rfl, ⟨_, h1⟩, fr⟩
  · rw [q_isInN (by omega), ks_b0] at c1
    rcases k2.2 with ⟨-, q1, -⟩ | ⟨-, q1, q2, -⟩
    · exact q1 q.1
    · rw [← q2] at q
      exact c1 q.2
