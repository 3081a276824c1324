/-! COLOURS of the model -/
theorem mk_scr_u : ∀ q ∈ mk_scr, ∀ r ∈ mk_scr, q.1 = r.1 → q.2 = r.2 := by decide
theorem mt_mo {M : mm_Mem} {th : Int32} {σ : g_st} (h : MT M th σ) : ∃ F w, mo M F w ∧ F 0 = th := by
  obtain ⟨n, T, L, K, t, f, fk⟩ := σ
  obtain ⟨F, w, h1, h2, -⟩ := h.mo
  exact ⟨F, w, h1, h2⟩
/-- rows of the scratch, any of them, made new -/
theorem MT.scu {M M' : mm_Mem} {th : Int32} {σ : g_st} (h : MT M th σ) (e : ∀ j, j < 44 ∨ 53 < j → M' j = M j) (r : ∀ q ∈ mk_scr, rj M' q.1 q.2) : MT M' th σ := by
  obtain ⟨F, w, h1, h2⟩ := mt_mo h
  have := h.scr h1 (h1.eq (e 31 (by decide))) rfl rfl rfl (fun j hj => e j (by omega)) (h.msc.up (fun q hq => Or.inr (r q hq)) (fun a ha => Or.inl (e a (by have := mk_nets_in a ha; omega))) (Or.inl (e 42 (by decide))))
  rwa [h2] at this
theorem MT.sc1 {M M' : mm_Mem} {th : Int32} {σ : g_st} {a m : Nat} (h : MT M th σ) (hq : (a, m) ∈ mk_scr) (e : ∀ j, j ≠ a → M' j = M j) (r : rj M' a m) : MT M' th σ := by
  have ha := mk_scr_in (a, m) hq
  refine h.scu (fun j hj => e j (by dsimp only at ha; omega)) fun q hq' => ?_
  by_cases u : q.1 = a
  · rw [mk_scr_u q hq' (a, m) hq u, u]
    exact r
  · exact (h.msc.1 q hq').eq (e q.1 u)
theorem s_mayBe {M : mm_Mem} {n p d : Nat} {T c : Nat → Nat} {A : Nat → Int32} (f1 : mm_fd M 31 10 10 (.ref 33)) (f2 : mm_fd M 31 10 37 (.ref 53)) (o : ra M 33 n T) (hw : gw n T) (oA : mm_at M 53 (mm_aI 14 A)) (hp : p < n) (hA : ∀ q, q < p → A q = nI (c q)) (hc : ∀ q, q < p → c q < 2 ^ 30) (hd : d < 2 ^ 30) : mm_S 2 mX10_mayBe 0 0 [.ref 31, .int (nI p), .int (nI d)] M (mm_Eq (some (.int (ks_b (∀ q, q < p → (T p).testBit q = true → c q ≠ d)))) M) := by
  have hn := hw.1
  have hTp := ks_p14 hn (hw.2.1 p)
  refine mm_S.of rfl rfl (Nat.le_of_ble_eq_true rfl) mm_ndi (bX10_mayBe_0 ?_)
  rw [show (0 : Int32) = nI 0 from rfl]
  refine srch (G := fun q => mm_X mX10_mayBe 2 none (0, 0) 2 [.ref 31, .int (nI p), .int (nI d), .int (nI q)] [] M (mm_Eq (some (.int (ks_b (∀ q, q < p → (T p).testBit q = true → c q ≠ d)))) M)) (P := fun q => ¬ ((T p).testBit q = true → c q ≠ d)) (Nat.zero_le p) ?_
  intro q _ hq hI ih
  have lt : ¬ nI p ≤ nI q → q < p := fun c => by rw [ks_le (by omega) (by omega)] at c; omega
  refine bX10_mayBe_2 o oA f1 f2 (by decide) (fun c1 => ⟨?_, rfl⟩) (fun c1 => gk_in1 (by omega)) (fun c1 c2 => ?_) (fun c1 c2 => vp_in_nI (by have := lt c1; omega) (by decide)) (fun c1 c2 c3 => ?_) (fun c1 c2 c3 => ⟨?_, rfl⟩)
  · rw [ks_le (by omega) (by omega)] at c1
    rw [ks_bt]
    exact fun q' hq' => Classical.byContradiction fun u => hI q' (Nat.zero_le _) (by omega) u
  · have l := lt c1
    rw [gk_1 (by omega), ks_mhas (by omega) (by omega), ks_b0] at c2
    rw [nI_1]
    exact ih l fun u => u fun v => absurd v c2
  · have l := lt c1
    rw [nI_clamp (by omega), hA q l, ks_eqI (by have := hc q l; omega) (by omega)] at c3
    rw [nI_1]
    exact ih l fun u => u fun _ => c3
  · have l := lt c1
    rw [gk_1 (by omega), ks_mhas (by omega) (by omega), ks_b0, Classical.not_not] at c2
    rw [nI_clamp (by omega), hA q l, ks_eqI (by have := hc q l; omega) (by omega)] at c3
    rw [ks_bf]
    exact fun u => u q l c2 c3
theorem s_coloursM {n k : Nat} {T : Nat → Nat} (hw : gw n T) (hk : k < 2 ^ 30) : ∀ m p c M A, p + m = n → mm_fd M 31 10 10 (.ref 33) → mm_fd M 31 10 37 (.ref 53) → ra M 33 n T → mm_at M 53 (mm_aI 14 A) → (∀ q, q < p → A q = nI (c q)) → prf T k p c → mm_S (m + 3) mX10_colours 0 0 [.ref 31, .int (nI p), .int (nI k)] M (fun r M' => (∀ j, j ≠ 53 → M' j = M j) ∧ ∃ A', mm_at M' 53 (mm_aI 14 A') ∧ ((r = some (.int 1) ∧ ∃ g, cL n T k p c g ∧ ∀ q, q < n → A' q = nI (g q)) ∨ (r = some (.int 0) ∧ ¬ cE n T k p c ∧ ∀ q, q < p → A' q = A q))) := by
  have hn := hw.1
  intro m
  induction m with
  | zero =>
    intro p c M A hm f1 f2 o oA hA hp
    obtain rfl : p = n := by omega
    have nd : ∀ (r : Option Value) (M' : mm_Mem), ((∀ j, j ≠ 53 → M' j = M j) ∧ ∃ A', mm_at M' 53 (mm_aI 14 A') ∧ ((r = some (.int 1) ∧ ∃ g, cL p T k p c g ∧ ∀ q, q < p → A' q = nI (g q)) ∨ (r = some (.int 0) ∧ ¬ cE p T k p c ∧ ∀ q, q < p → A' q = A q))) → ∀ x, r ≠ some (.double x) := by
      rintro r M' ⟨-, A', -, h⟩ x e
      rcases h with ⟨h, -⟩ | ⟨h, -⟩ <;> (rw [h] at e; cases e)
    refine mm_S.of rfl rfl (Nat.le_of_ble_eq_true rfl) nd (bX10_colours_0 o f1 gk_in0 (fun c => absurd (by rw [gk_0]) c) (fun _ => ⟨fun _ _ => rfl, A, oA, Or.inl ⟨rfl, c, prf_end hp, hA⟩⟩))
  | succ m ih =>
    intro p c M A hm f1 f2 o oA hA hp
    have nd : ∀ (r : Option Value) (M' : mm_Mem), ((∀ j, j ≠ 53 → M' j = M j) ∧ ∃ A', mm_at M' 53 (mm_aI 14 A') ∧ ((r = some (.int 1) ∧ ∃ g, cL n T k p c g ∧ ∀ q, q < n → A' q = nI (g q)) ∨ (r = some (.int 0) ∧ ¬ cE n T k p c ∧ ∀ q, q < p → A' q = A q))) → ∀ x, r ≠ some (.double x) := by
      rintro r M' ⟨-, A', -, h⟩ x e
      rcases h with ⟨h, -⟩ | ⟨h, -⟩ <;> (rw [h] at e; cases e)
    refine mm_S.of rfl rfl (Nat.le_of_ble_eq_true rfl) nd (bX10_colours_0 o f1 gk_in0 (fun _ => ?_) (fun c1 => ?_))
    rotate_left
    · rw [gk_0, ks_eqI (by omega) (by omega)] at c1
      omega
    rw [show (0 : Int32) = nI 0 from rfl]
    refine fld (s := 0) (n := k) (G := fun d (q : mm_Mem × (Nat → Int32)) => mm_X mX10_colours (m + 1 + 3) none (0, 0) 14 [.ref 31, .int (nI p), .int (nI k), .int (nI d)] [] q.1 _) (v0 := (M, A)) (I := fun d q => (∀ j, j ≠ 53 → q.1 j = M j) ∧ mm_at q.1 53 (mm_aI 14 q.2) ∧ (∀ x, x < p → q.2 x = A x) ∧ ∀ d', d' < d → ¬ cE n T k (p + 1) (cu c p d')) (Nat.zero_le _) ⟨fun _ _ => rfl, oA, fun _ _ => rfl, fun d hd => absurd hd (Nat.not_lt_zero d)⟩ ?_
    rintro d ⟨M1, A1⟩ _ hd ⟨e1, o1, a1, g1⟩ ih2
    dsimp only at e1 o1 a1 g1
    have f21 := f2.eq (e1 31 (by decide))
    refine bX10_colours_14 o1 f21 (by decide) (fun c1 => ?_) (fun c1 => vp_in_nI (by omega) (by decide)) (fun c1 => ?_)
    · rw [ks_le (by omega) (by omega)] at c1
      exact ⟨e1, A1, o1, Or.inr ⟨rfl, cE_all (show p < n by omega) (fun d' h1 => g1 d' (by omega)), a1⟩⟩
    rw [ks_le (by omega) (by omega)] at c1
    rw [nI_clamp (by omega)]
    have e2 : ∀ j, j ≠ 53 → mm_up M1 53 (mm_aI 14 (upd A1 p (nI d))) j = M j := fun j h1 => (mm_up_n h1).trans (e1 j h1)
    have o2 : mm_at (mm_up M1 53 (mm_aI 14 (upd A1 p (nI d)))) 53 (mm_aI 14 (upd A1 p (nI d))) := mm_at.s o1.1
    generalize mm_up M1 53 (mm_aI 14 (upd A1 p (nI d))) = M2 at e2 o2 ⊢
    have f12 := f1.eq (e2 31 (by decide))
    have f22 := f2.eq (e2 31 (by decide))
    have hA2 : ∀ q, q < p → upd A1 p (nI d) q = nI (c q) := fun q hq => by rw [pk_un (by omega), a1 q hq, hA q hq]
    have go : ∀ {M3 : mm_Mem} {A3 : Nat → Int32}, (∀ j, j ≠ 53 → M3 j = M j) → mm_at M3 53 (mm_aI 14 A3) → (∀ x, x < p → A3 x = A x) → ¬ cE n T k (p + 1) (cu c p d) → mm_X mX10_colours (m + 1 + 3) none (0, 0) 14 [.ref 31, .int (nI p), .int (nI k), .int (nI d + 1)] [] M3 (fun r M' => (∀ j, j ≠ 53 → M' j = M j) ∧ ∃ A', mm_at M' 53 (mm_aI 14 A') ∧ ((r = some (.int 1) ∧ ∃ g, cL n T k p c g ∧ ∀ q, q < n → A' q = nI (g q)) ∨ (r = some (.int 0) ∧ ¬ cE n T k p c ∧ ∀ q, q < p → A' q = A q))) := by
      intro M3 A3 q1 q2 q3 q4
      rw [nI_1]
      refine ih2 (M3, A3) (by omega) ⟨q1, q2, q3, fun d' hd' => ?_⟩
      rcases Nat.lt_or_ge d' d with q | q
      · exact g1 d' q
      · obtain rfl : d' = d := by omega
        exact q4
    refine mm_Call.eq (s_mayBe f12 f22 (mm_at.eq o (e2 33 (by decide))) hw o2 (show p < n by omega) hA2 (fun q hq => by have := (hp q hq).1; omega) (show d < 2 ^ 30 by omega)) (by omega) (bX10_colours_32 f12.rc (fun c2 => ?_) (fun c2 => ?_))
    · rw [ks_b0] at c2
      refine go e2 o2 (fun x hx => by rw [pk_un (by omega), a1 x hx]) fun w => c2 fun q hq ht e => cE_no (show p < n by omega) hq ht e w
    · rw [ks_b0, Classical.not_not] at c2
      rw [nI_1]
      refine mm_Call.of (ih (p + 1) (cu c p d) M2 _ (by omega) f12 f22 (mm_at.eq o (e2 33 (by decide))) o2 (fun q hq => ?_) (prf_s hp (by omega) c2)) (by omega) ?_
      · by_cases q1 : q = p
        · subst q1
          rw [pk_us, cu_s]
        · rw [cu_n q1]
          exact hA2 q (by omega)
      · rintro r M3 ⟨e3, A3, o3, h3⟩
        rcases h3 with ⟨rfl, g, k1, k2⟩ | ⟨rfl, k1, k2⟩
        · exact bX10_colours_43 (fun c4 => absurd c4 (by decide)) (fun _ => ⟨fun j h1 => (e3 j h1).trans (e2 j h1), A3, o3, Or.inl ⟨rfl, g, cL_s k1 g1, k2⟩⟩)
        · refine bX10_colours_43 (fun _ => go (fun j h1 => (e3 j h1).trans (e2 j h1)) o3 (fun x hx => ?_) k1) (fun c4 => absurd rfl c4)
          rw [k2 x (by omega), pk_un (by omega), a1 x hx]
theorem s_laysColours {M : mm_Mem} {n : Nat} {T : Nat → Nat} {L : g_nets} {K : g_kept} {t : Nat} {f : Nat → Int32} {fk th : Int32} (h : MT M th (n, T, L, K, t, f, fk)) : mm_S 18 mX10_laysColours 0 0 [.ref 31] M (fun r M' => MT M' th (n, T, L, K, t, f, fk) ∧ (∃ k g A, r = some (.int (nI k)) ∧ cK n T k ∧ cL n T k 0 c0 g ∧ mm_at M' 53 (mm_aI 14 A) ∧ ∀ q, q < n → A q = nI (g q)) ∧ fM M M') := by
  obtain ⟨o, hw⟩ := h.now
  have hn := hw.1
  obtain ⟨A, oA⟩ := h.sc 53 14 (by decide)
  have f1 := h.fdr 10 33 (by decide)
  have f2 := h.fdr 37 53 (by decide)
  refine mm_S.of rfl rfl (Nat.le_of_ble_eq_true rfl) (fun r M' h x e => by obtain ⟨-, ⟨k, g, A, h, -⟩, -⟩ := h; rw [h] at e; cases e) (bX10_laysColours_0 ?_)
  rw [show (0 : Int32) = nI 0 from rfl]
  refine fld (s := 0) (n := n) (G := fun j (q : mm_Mem) => mm_X mX10_laysColours 18 none (0, 0) 2 [.ref 31, .int (nI j)] [] q _) (v0 := M) (I := fun j q => (∃ A, mm_at q 53 (mm_aI 14 A)) ∧ (∀ i, i ≠ 53 → q i = M i) ∧ ∀ i, i < j → ¬ cE n T i 0 c0) (Nat.zero_le n) ⟨⟨A, oA⟩, fun _ _ => rfl, fun i hi => absurd hi (Nat.not_lt_zero i)⟩ ?_
  rintro j M1 _ hj ⟨⟨A1, o1⟩, e1, g1⟩ ih
  refine bX10_laysColours_2 (f1.eq (e1 31 (by decide))).rc (mm_Call.of (s_coloursM (k := j) hw (by omega) n 0 c0 M1 A1 (by omega) (f1.eq (e1 31 (by decide))) (f2.eq (e1 31 (by decide))) (mm_at.eq o (e1 33 (by decide))) o1 (fun q hq => absurd hq (Nat.not_lt_zero q)) prf_0) (by omega) ?_)
  rintro r M2 ⟨e2, A2, o2, h2⟩
  have e2' : ∀ i, i ≠ 53 → M2 i = M i := fun i h => (e2 i h).trans (e1 i h)
  rcases h2 with ⟨rfl, g, k1, k2⟩ | ⟨rfl, k1, -⟩
  · exact bX10_laysColours_8 (fun _ => ⟨h.sc1 (a := 53) (m := 14) (by decide) e2' ⟨A2, o2⟩, ⟨j, g, A2, rfl, ⟨cE_of k1, g1⟩, k1, o2, k2⟩, fun i hi => e2' i (by omega)⟩) (fun c => absurd c (by decide))
  · refine bX10_laysColours_8 (fun c => absurd rfl c) (fun _ => ?_)
    rw [nI_1]
    have jn : j < n := by
      rcases Nat.lt_or_ge j n with q | q
      · exact q
      · obtain rfl : j = n := by omega
        exact absurd cE_n k1
    refine ih M2 jn ⟨⟨A2, o2⟩, e2', fun i hi => ?_⟩
    rcases Nat.lt_or_ge i j with q | q
    · exact g1 i q
    · obtain rfl : i = j := by omega
      exact k1
theorem oM_colours {M : mm_Mem} {σ : g_st} (h : MS M σ) : OM 19 mX10_colours_ [] M (o_colours σ) := by
  obtain ⟨n, T, L, K, t, f, fk⟩ := σ
  obtain ⟨th, h⟩ := h
  obtain ⟨F, w, m1, m2⟩ := h.mo
  have hz := h.z
  refine mm_S.of rfl rfl (Nat.le_of_ble_eq_true rfl) ndM (bX10_colours__0 (m1.i 0 (by decide)) (mm_Call.of (s_laysColours hz) (by decide) ?_))
  rintro r M1 ⟨h1, ⟨k, g, A, rfl, k1, k2, -⟩, e⟩
  refine bX10_colours__9 ⟨?_, ⟨_, h1⟩, fun j hj => (e j hj).trans (fM_z j hj)⟩
  dsimp only [o_colours]
  rw [g_the_eq k1 cK_u]
theorem oM_colourAt {M : mm_Mem} {σ : g_st} {x : Int32} (h : MS M σ) : OM 19 mX10_colourAt [.int x] M (o_colourAt σ x) := by
  obtain ⟨n, T, L, K, t, f, fk⟩ := σ
  obtain ⟨th, h⟩ := h
  obtain ⟨F, w, m1, m2⟩ := h.mo
  obtain ⟨o, hw⟩ := h.now
  have hn := hw.1
  have hz := h.z
  refine mm_S.of rfl rfl (Nat.le_of_ble_eq_true rfl) ndM (bX10_colourAt_0 o (m1.i 0 (by decide)) (m1.r 10 33 (by decide)) (by decide) (by decide) gk_in0 (fun c => mm_Call.of (s_laysColours hz) (by decide) ?_) (fun c => ?_))
  · rw [gk_0, q_isIn hn, ks_b0, Classical.not_not] at c
    rintro r M1 ⟨h1, ⟨k, g, A, rfl, k1, k2, k3, k4⟩, e⟩
    obtain ⟨p, hp, rfl⟩ := id c
    have kn : k ≤ n := Nat.le_of_not_lt fun q => k1.2 n q cE_n
    have kp : k ≠ 0 := by
      rintro rfl
      exact absurd (k2.1 p hp).1 (Nat.not_lt_zero _)
    refine bX10_colourAt_19 k3 (h1.fdr 37 53 (by decide)) (fun _ => vp_in_nI (by omega) (by decide)) (fun _ => ⟨?_, ⟨_, h1⟩, fun j hj => (e j hj).trans (fM_z j hj)⟩) (fun c2 => ?_)
    · dsimp only [o_colourAt]
      rw [pif_t c, nI_clamp (by omega), g_the_eq (P := cA n T p) ⟨k, g, k1, k2, rfl⟩ (cA_u hp), k4 p hp]
    · rw [ks_eq0 (by omega)] at c2
      exact absurd c2 kp
  · rw [gk_0, q_isIn hn, ks_b0] at c
    dsimp only [o_colourAt]
    rw [pif_f c]
    exact ⟨rfl, ⟨_, hz⟩, fM_z⟩
