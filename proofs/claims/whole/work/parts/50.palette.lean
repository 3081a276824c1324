/-! COLOURS of the class -/
def pal (M : mm_Mem) (A W : Nat → Int32) : Prop := mm_at M 21 (mm_aO 4 [.ref 22, .ref 23]) ∧ mm_at M 22 (mm_aI 14 A) ∧ mm_at M 23 (mm_aI 14 W)
noncomputable def wsc (c : Nat → Nat) (p d : Nat) : Nat := ks_set (fun q => c q = d) p
theorem wsc_s {c : Nat → Nat} {p d : Nat} : wsc (cu c p d) (p + 1) d = wsc c p d ||| 2 ^ p := ks_ext fun i => by
  rw [Bool.eq_iff_iff, Nat.testBit_or, Bool.or_eq_true, ks_p2, decide_eq_true_eq]
  unfold wsc
  rw [ks_set_bit, ks_set_bit]
  by_cases e : i = p
  · subst e
    rw [cu_s]
    exact ⟨fun _ => Or.inr rfl, fun _ => ⟨by omega, rfl⟩⟩
  · rw [cu_n e]
    exact ⟨fun h => Or.inl ⟨by omega, h.2⟩, fun h => by rcases h with h | h; exact ⟨by omega, h.2⟩; exact absurd h.symm e⟩
theorem wsc_n {c : Nat → Nat} {p d d' : Nat} (h : d' ≠ d) : wsc (cu c p d) (p + 1) d' = wsc c p d' := ks_ext fun i => by
  rw [Bool.eq_iff_iff]
  unfold wsc
  rw [ks_set_bit, ks_set_bit]
  by_cases e : i = p
  · subst e
    rw [cu_s]
    exact ⟨fun q => absurd q.2.symm h, fun q => absurd q.1 (by omega)⟩
  · rw [cu_n e]
    exact ⟨fun h => ⟨by omega, h.2⟩, fun h => ⟨by omega, h.2⟩⟩
theorem wsc_lt {c : Nat → Nat} {p d : Nat} : wsc c p d < 2 ^ p := ks_set_lt
theorem wsc_z {c : Nat → Nat} {p d n : Nat} {T : Nat → Nat} : wsc c p d &&& T n = 0 ↔ ∀ q, q < p → (T n).testBit q = true → c q ≠ d := by
  rw [ks_zero]
  constructor
  · intro h q hq ht e
    have := h q
    rw [Nat.testBit_and, ht, Bool.and_true] at this
    have h2 : (wsc c p d).testBit q = true := ks_set_bit.mpr ⟨hq, e⟩
    rw [h2] at this
    cases this
  · intro h i
    cases e : (wsc c p d &&& T n).testBit i with
    | false => rfl
    | true =>
      rw [Nat.testBit_and, Bool.and_eq_true] at e
      have := ks_set_bit.mp e.1
      exact absurd this.2 (h i this.1 e.2)
theorem s_fill {n k : Nat} {T : Nat → Nat} (hw : gw n T) (hk : k < 2 ^ 30) : ∀ m p u c M A W, p + m = n → na M 1 n T → pal M A W → (∀ q, q < p → A q = nI (c q)) → (∀ d, d < 14 → W d = nI (wsc c p d)) → prf T k p c → (∀ q, q < p → c q < u) → u ≤ p → mm_S (m + 3) mX4_fill 0 0 [.ref 21, .ref 1, .int (nI p), .int (nI u), .int (nI k)] M (fun r M' => (∀ j, j ≠ 22 → j ≠ 23 → M' j = M j) ∧ ∃ A' W', pal M' A' W' ∧ ((r = some (.int 1) ∧ ∃ g, cL n T k p c g ∧ ∀ q, q < n → A' q = nI (g q)) ∨ (r = some (.int 0) ∧ ¬ cE n T k p c ∧ W' = W ∧ ∀ q, q < p → A' q = A q))) := by
  have hn := hw.1
  intro m
  induction m with
  | zero =>
    intro p u c M A W hm o oP hA hW hp hu hup
    obtain rfl : p = n := by omega
    have nd : ∀ (r : Option Value) (M' : mm_Mem), ((∀ j, j ≠ 22 → j ≠ 23 → M' j = M j) ∧ ∃ A' W', pal M' A' W' ∧ ((r = some (.int 1) ∧ ∃ g, cL p T k p c g ∧ ∀ q, q < p → A' q = nI (g q)) ∨ (r = some (.int 0) ∧ ¬ cE p T k p c ∧ W' = W ∧ ∀ q, q < p → A' q = A q))) → ∀ x, r ≠ some (.double x) := by
      rintro r M' ⟨-, A', W', -, h⟩ x e
      rcases h with ⟨h, -⟩ | ⟨h, -⟩ <;> (rw [h] at e; cases e)
    refine mm_S.of rfl rfl (Nat.le_of_ble_eq_true rfl) nd (bX4_fill_0 o.1 (by decide) (fun _ => ?_) (fun c => ?_) (fun c => ?_))
    · exact ⟨fun _ _ _ => rfl, A, W, oP, Or.inl ⟨rfl, c, prf_end hp, hA⟩⟩
    · rw [ks_le (by omega) (by omega)] at c
      omega
    · rw [ks_le (by omega) (by omega)] at c
      omega
  | succ m ih =>
    intro p u c M A W hm o oP hA hW hp hu hup
    have nd : ∀ (r : Option Value) (M' : mm_Mem), ((∀ j, j ≠ 22 → j ≠ 23 → M' j = M j) ∧ ∃ A' W', pal M' A' W' ∧ ((r = some (.int 1) ∧ ∃ g, cL n T k p c g ∧ ∀ q, q < n → A' q = nI (g q)) ∨ (r = some (.int 0) ∧ ¬ cE n T k p c ∧ W' = W ∧ ∀ q, q < p → A' q = A q))) → ∀ x, r ≠ some (.double x) := by
      rintro r M' ⟨-, A', W', -, h⟩ x e
      rcases h with ⟨h, -⟩ | ⟨h, -⟩ <;> (rw [h] at e; cases e)
    refine mm_S.of rfl rfl (Nat.le_of_ble_eq_true rfl) nd (bX4_fill_0 o.1 (by omega) (fun c1 => ?_) (fun _ _ => ?_) (fun _ c2 => ?_))
    · rw [ks_le (by omega) (by omega)] at c1
      omega
    rotate_left
    · rw [show (14 : Int32) = nI 14 from rfl, ks_ltI (by omega) (by omega)] at c2
      omega
    rw [show (0 : Int32) = nI 0 from rfl]
    refine fld (s := 0) (n := u + 1) (G := fun d (q : mm_Mem × (Nat → Int32)) => mm_X mX4_fill (m + 1 + 3) none (0, 0) 19 [.ref 21, .ref 1, .int (nI p), .int (nI u), .int (nI k), .int (nI d), .null] [] q.1 _) (v0 := (M, A)) (I := fun d q => (∀ j, j ≠ 22 → j ≠ 23 → q.1 j = M j) ∧ pal q.1 q.2 W ∧ (∀ x, x < p → q.2 x = A x) ∧ ∀ d', d' < d → ¬ cE n T k (p + 1) (cu c p d')) (Nat.zero_le _) ⟨fun _ _ _ => rfl, oP, fun _ _ => rfl, fun d hd => absurd hd (Nat.not_lt_zero d)⟩ ?_
    rintro d ⟨M1, A1⟩ _ hd ⟨e1, o1, a1, f1⟩ ih2
    dsimp only at e1 o1 a1 f1
    have n1 : na M1 1 n T := o.eq (e1 1 (by decide) (by decide)) (e1 2 (by decide) (by decide))
    have wl : ∀ d, wsc c p d < 16384 := fun d => ks_p14 (show p ≤ 14 by omega) wsc_lt
    have hTp := ks_p14 hn (hw.2.1 p)
    refine bX4_fill_19 o1.1 o1.2.2 n1.1 n1.2 o1.2.1 (by decide) (by decide) (by omega) (fun c1 => ?_) (fun c1 c2 => ?_) (fun c1 c2 c3 => ?_) (fun c1 c2 c3 => ?_)
    · rw [ks_ltI (by omega) (by omega)] at c1
      exact ⟨e1, A1, W, o1, Or.inr ⟨rfl, cE_used (show p < n by omega) hu (fun d' h1 _ => f1 d' (by omega)), rfl, a1⟩⟩
    · rw [ks_le (by omega) (by omega)] at c2
      exact ⟨e1, A1, W, o1, Or.inr ⟨rfl, cE_all (show p < n by omega) (fun d' h1 => f1 d' (by omega)), rfl, a1⟩⟩
    · rw [ks_ltI (by omega) (by omega)] at c1
      rw [ks_le (by omega) (by omega)] at c2
      have d14 : d < 14 := by omega
      rw [ks_at (by decide) d14, ks_at (by decide) (by omega), hW d d14, nx_and, ks_eq0 (Nat.lt_of_le_of_lt Nat.and_le_left (by have := wl d; omega)), wsc_z] at c3
      rw [ks_put (by decide) (by omega), ks_at (by decide) d14, hW d d14, ks_shl1 _ (by omega), nx_or, ks_put (by decide) d14, nI_1, nI_1, show (if nI u < nI (d + 1) then nI (d + 1) else nI u) = nI (if u < d + 1 then d + 1 else u) from by
        by_cases q : u < d + 1
        · rw [if_pos q, if_pos ((ks_ltI (by omega) (by omega)).mpr q)]
        · rw [if_neg q, if_neg (fun w => q ((ks_ltI (by omega) (by omega)).mp w))]]
      have oN : pal (mm_up (mm_up M1 22 (mm_aI 14 (upd A1 p (nI d)))) 23 (mm_aI 14 (upd W d (nI (wsc c p d ||| 2 ^ p))))) (upd A1 p (nI d)) (upd W d (nI (wsc c p d ||| 2 ^ p))) := ⟨(o1.1.n (by decide)).n (by decide), (mm_at.s o1.2.1.1).n (by decide), mm_at.s o1.2.2.1⟩
      have eN : ∀ j, j ≠ 22 → j ≠ 23 → mm_up (mm_up M1 22 (mm_aI 14 (upd A1 p (nI d)))) 23 (mm_aI 14 (upd W d (nI (wsc c p d ||| 2 ^ p)))) j = M j := fun j h1 h2 => ((mm_up_n h2).trans (mm_up_n h1)).trans (e1 j h1 h2)
      generalize mm_up (mm_up M1 22 (mm_aI 14 (upd A1 p (nI d)))) 23 (mm_aI 14 (upd W d (nI (wsc c p d ||| 2 ^ p)))) = M2 at oN eN ⊢
      refine mm_Call.of (ih (p + 1) (if u < d + 1 then d + 1 else u) (cu c p d) M2 _ _ (by omega) (o.eq (eN 1 (by decide) (by decide)) (eN 2 (by decide) (by decide))) oN (fun q hq => ?_) (fun d' hd' => ?_) (prf_s hp (by omega) c3) (fun q hq => ?_) (by split <;> omega)) (by omega) ?_
      · by_cases q1 : q = p
        · subst q1
          rw [pk_us, cu_s]
        · rw [pk_un q1, cu_n q1, a1 q (by omega), hA q (by omega)]
      · by_cases q1 : d' = d
        · subst q1
          rw [pk_us, wsc_s]
        · rw [pk_un q1, wsc_n q1, hW d' hd']
      · by_cases q1 : q = p
        · subst q1
          rw [cu_s]
          split <;> omega
        · rw [cu_n q1]
          have := hu q (by omega)
          split <;> omega
      · rintro r M3 ⟨e3, A3, W3, o3, h3⟩
        rcases h3 with ⟨rfl, g, g1, g2⟩ | ⟨rfl, g1, rfl, g2⟩
        · refine bX4_fill_100 o3.1 o3.2.2 (by omega) (fun c4 => absurd c4 (by decide)) (fun _ => ⟨fun j h1 h2 => (e3 j h1 h2).trans (eN j h1 h2), A3, W3, o3, Or.inl ⟨rfl, g, cL_s g1 f1, g2⟩⟩)
        · refine bX4_fill_100 o3.1 o3.2.2 (by omega) (fun _ => ?_) (fun c4 => absurd rfl c4)
          rw [ks_put (by decide) d14, nI_1, show upd (upd W d (nI (wsc c p d ||| 2 ^ p))) d (nI (wsc c p d)) = W from by
            funext x
            by_cases q : x = d
            · subst q
              rw [pk_us, hW x d14]
            · rw [pk_un q, pk_un q]]
          refine ih2 (_, A3) (by omega) ⟨fun j h1 h2 => (mm_up_n h2).trans ((e3 j h1 h2).trans (eN j h1 h2)), ⟨o3.1.n (by decide), o3.2.1.n (by decide), mm_at.s o3.2.2.1⟩, fun x hx => ?_, fun d' hd' => ?_⟩
          · show A3 x = A x
            rw [g2 x (by omega), pk_un (by omega)]
            exact a1 x hx
          · rcases Nat.lt_or_ge d' d with q | q
            · exact f1 d' q
            · obtain rfl : d' = d := by omega
              exact g1
    · rw [ks_ltI (by omega) (by omega)] at c1
      rw [ks_le (by omega) (by omega)] at c2
      have d14 : d < 14 := by omega
      rw [ks_at (by decide) d14, ks_at (by decide) (by omega), hW d d14, nx_and, ks_eq0 (Nat.lt_of_le_of_lt Nat.and_le_left (by have := wl d; omega)), wsc_z] at c3
      rw [nI_1]
      refine ih2 (M1, A1) (by omega) ⟨e1, o1, a1, fun d' hd' => ?_⟩
      rcases Nat.lt_or_ge d' d with q | q
      · exact f1 d' q
      · obtain rfl : d' = d := by omega
        intro w
        refine c3 fun q hq ht e => cE_no (show p < n by omega) hq ht e w
theorem s_clearP {M : mm_Mem} {A W : Nat → Int32} (o : pal M A W) : mm_S 1 mX4_clear 0 0 [.ref 21] M (fun r M' => r = none ∧ (∃ W', pal M' A W' ∧ ∀ d, d < 14 → W' d = nI 0) ∧ ∀ j, j ≠ 23 → M' j = M j) := by
  refine mm_S.of rfl rfl (Nat.le_of_ble_eq_true rfl) (fun r M' h x e => by rw [h.1] at e; cases e) (bX4_clear_0 ?_)
  rw [show (0 : Int32) = nI 0 from rfl]
  refine fld (s := 0) (n := 14) (G := fun d (q : mm_Mem) => mm_X mX4_clear 1 none (0, 0) 2 [.ref 21, .int (nI d)] [] q _) (v0 := M) (I := fun d q => (∃ W', pal q A W' ∧ ∀ d', d' < d → W' d' = nI 0) ∧ ∀ j, j ≠ 23 → q j = M j) (Nat.zero_le _) ⟨⟨W, o, fun d hd => absurd hd (Nat.not_lt_zero d)⟩, fun _ _ => rfl⟩ ?_
  rintro d M1 _ hd ⟨⟨W1, o1, w1⟩, e1⟩ ih
  refine bX4_clear_2 o1.1 o1.2.2 (by decide) (fun c => ?_) (fun c => ?_)
  · rw [ks_le14 (by omega)] at c
    exact ⟨rfl, ⟨W1, o1, fun d' hd' => w1 d' (by omega)⟩, e1⟩
  · rw [ks_le14 (by omega)] at c
    rw [show (0 : Int32) = nI 0 from rfl, ks_put (by decide) (by omega), nI_1]
    refine ih _ (by omega) ⟨⟨_, ⟨o1.1.n (by decide), o1.2.1.n (by decide), mm_at.s o1.2.2.1⟩, fun d' hd' => ?_⟩, fun j hj => (mm_up_n hj).trans (e1 j hj)⟩
    by_cases q : d' = d
    · subst q
      rw [pk_us]
    · rw [pk_un q]
      exact w1 d' (by omega)
theorem pal.cp {M M' : mm_Mem} {A W : Nat → Int32} (h : cp M) (o : pal M' A W) (e : M' 24 = M 24) (e2 : M' 25 = M 25) : cp M' := by
  obtain ⟨-, -, -, ⟨x, y, c4⟩, g, c5⟩ := h
  exact ⟨o.1, ⟨_, o.2.1⟩, ⟨_, o.2.2⟩, ⟨x, y, c4.eq e⟩, ⟨g, c5.eq e2⟩⟩
theorem s_paint {M : mm_Mem} {n : Nat} {T : Nat → Nat} {L : g_nets} {K : g_kept} {t : Nat} {f : Nat → Int32} {fk : Int32} (h : CS M (n, T, L, K, t, f, fk)) : mm_S 18 mX4_paint 0 0 [.ref 21, .ref 1, .ref 24] M (fun r M' => CS M' (n, T, L, K, t, f, fk) ∧ (∃ k g A, r = some (.int (nI k)) ∧ cK n T k ∧ cL n T k 0 c0 g ∧ mm_at M' 22 (mm_aI 14 A) ∧ ∀ q, q < n → A q = nI (g q)) ∧ fC M M') := by
  obtain ⟨-, hw⟩ := h.here
  have hn := hw.1
  have hwF := gw_gF (b := true) hw
  obtain ⟨-, -, -, ⟨x, y, c4⟩, -⟩ := h.cp
  refine mm_S.of rfl rfl (Nat.le_of_ble_eq_true rfl) (fun r M' h x e => by obtain ⟨-, ⟨k, g, A, h, -⟩, -⟩ := h; rw [h] at e; cases e) (bX4_paint_0 c4 (mm_Call.of (s_takeTied h) (by decide) ?_))
  rintro _ M1 ⟨rfl, h1, k1, e1⟩
  refine bX4_paint_5 k1.1 (mm_Call.of (s_most k1 hwF) (by decide) ?_)
  rintro _ M1 ⟨rfl, k, rfl, hk⟩
  have k14 : k ≤ 14 := by
    obtain ⟨⟨S, -, -, e⟩, -⟩ := hk
    have := ks_pop_le S
    omega
  refine bX4_paint_9 ?_
  obtain ⟨p1, ⟨A0, p2⟩, ⟨W0, p3⟩, -⟩ := h1.cp
  have kn : k ≤ n := by
    refine Nat.le_of_not_lt fun q => ?_
    exact cE_cq hw hk q cE_n
  have frame : ∀ {M2 : mm_Mem} {A W : Nat → Int32}, pal M2 A W → (∀ j, j ≠ 22 → j ≠ 23 → M2 j = M1 j) → CS M2 (n, T, L, K, t, f, fk) ∧ fC M M2 := by
    intro M2 A W o e
    exact ⟨h1.cpu (pal.cp h1.cp o (e 24 (by decide) (by decide)) (e 25 (by decide) (by decide))) fun j hj => e j (by omega) (by omega), fun j hj => (e j (by omega) (by omega)).trans (e1 j (by omega) (by omega))⟩
  refine fld (s := k) (n := n) (G := fun j (q : mm_Mem) => mm_X mX4_paint 18 none (0, 0) 10 [.ref 21, .ref 1, .null, .int (nI j)] [] q _) (v0 := M1) (I := fun j q => (∃ A W, pal q A W) ∧ (∀ i, i ≠ 22 → i ≠ 23 → q i = M1 i) ∧ ∀ i, i < j → ¬ cE n T i 0 c0) kn ⟨⟨A0, W0, p1, p2, p3⟩, fun _ _ _ => rfl, fun i hi => cE_cq hw hk hi⟩ ?_
  rintro j M2 hkj hj ⟨⟨A, W, o2⟩, e2, f2⟩ ih
  obtain ⟨oN, -⟩ := (frame o2 e2).1.here
  refine bX4_paint_10 oN.1 o2.1 (by decide) (fun c => ?_) (fun c => ?_)
  · rw [ks_le (by omega) (by omega)] at c
    obtain rfl : j = n := by omega
    refine mm_Call.of (s_clearP o2) (by decide) ?_
    rintro _ M3 ⟨rfl, ⟨W3, o3, w3⟩, e3⟩
    have e3' : ∀ i, i ≠ 22 → i ≠ 23 → M3 i = M1 i := fun i h1 h2 => (e3 i h2).trans (e2 i h1 h2)
    obtain ⟨o3N, -⟩ := (frame o3 e3').1.here
    refine bX4_paint_45 o3N.1 (by decide) (mm_Call.of (s_fill (k := j) hw (by omega) j 0 0 c0 M3 A W3 (by omega) o3N o3 (fun q hq => absurd hq (Nat.not_lt_zero q)) (fun d hd => by rw [w3 d hd]; rfl) prf_0 (fun q hq => absurd hq (Nat.not_lt_zero q)) (Nat.le_refl 0)) (by omega) ?_)
    rintro r M4 ⟨e4, A4, W4, o4, h4⟩
    have e4' : ∀ i, i ≠ 22 → i ≠ 23 → M4 i = M1 i := fun i h1 h2 => (e4 i h1 h2).trans (e3' i h1 h2)
    obtain ⟨h5, h6⟩ := frame o4 e4'
    rcases h4 with ⟨rfl, g, g1, g2⟩ | ⟨rfl, g1, -⟩
    · exact bX4_paint_56 h5.here.1.1 (by decide) ⟨h5, ⟨j, g, A4, rfl, ⟨cE_n, f2⟩, g1, o4.2.1, g2⟩, h6⟩
    · exact absurd cE_n g1
  · rw [ks_le (by omega) (by omega)] at c
    refine mm_Call.of (s_clearP o2) (by decide) ?_
    rintro _ M3 ⟨rfl, ⟨W3, o3, w3⟩, e3⟩
    have e3' : ∀ i, i ≠ 22 → i ≠ 23 → M3 i = M1 i := fun i h1 h2 => (e3 i h2).trans (e2 i h1 h2)
    obtain ⟨o3N, -⟩ := (frame o3 e3').1.here
    refine bX4_paint_22 (mm_Call.of (s_fill (k := j) hw (by omega) n 0 0 c0 M3 A W3 (by omega) o3N o3 (fun q hq => absurd hq (Nat.not_lt_zero q)) (fun d hd => by rw [w3 d hd]; rfl) prf_0 (fun q hq => absurd hq (Nat.not_lt_zero q)) (Nat.le_refl 0)) (by omega) ?_)
    rintro r M4 ⟨e4, A4, W4, o4, h4⟩
    have e4' : ∀ i, i ≠ 22 → i ≠ 23 → M4 i = M1 i := fun i h1 h2 => (e4 i h1 h2).trans (e3' i h1 h2)
    obtain ⟨h5, h6⟩ := frame o4 e4'
    rcases h4 with ⟨rfl, g, g1, g2⟩ | ⟨rfl, g1, -⟩
    · exact bX4_paint_30 (fun c => absurd c (by decide)) (fun _ => ⟨h5, ⟨j, g, A4, rfl, ⟨cE_of g1, f2⟩, g1, o4.2.1, g2⟩, h6⟩)
    · refine bX4_paint_30 (fun _ => ?_) (fun c => absurd rfl c)
      rw [nI_1]
      refine ih M4 (by omega) ⟨⟨A4, W4, o4⟩, e4', fun i hi => ?_⟩
      rcases Nat.lt_or_ge i j with q | q
      · exact f2 i q
      · obtain rfl : i = j := by omega
        exact g1
theorem oC_colours {M : mm_Mem} {σ : g_st} (h : CS M σ) : OC 19 mX9_colours [] M (o_colours σ) := by
  obtain ⟨n, T, L, K, t, f, fk⟩ := σ
  obtain ⟨p1, -⟩ := h.cp
  refine mm_S.of rfl rfl (Nat.le_of_ble_eq_true rfl) ndC (bX9_colours_0 p1 (h.fd 6 21 (by decide)) (h.fd 0 1 (by decide)) (h.fd 7 24 (by decide)) (mm_Call.of (s_paint h) (by decide) ?_))
  rintro r M1 ⟨h1, ⟨k, g, A, rfl, k1, k2, -⟩, e⟩
  refine bX9_colours_15 ⟨?_, h1, e⟩
  dsimp only [o_colours]
  rw [g_the_eq k1 cK_u]
theorem oC_colourAt {M : mm_Mem} {σ : g_st} {x : Int32} (h : CS M σ) : OC 19 mX9_colourAt [.int x] M (o_colourAt σ x) := by
  obtain ⟨n, T, L, K, t, f, fk⟩ := σ
  obtain ⟨o, hw⟩ := h.here
  obtain ⟨p1, -⟩ := h.cp
  have hn := hw.1
  refine mm_S.of rfl rfl (Nat.le_of_ble_eq_true rfl) ndC (bX9_colourAt_0 o.1 p1 (h.fd 0 1 (by decide)) (h.fd 6 21 (by decide)) (h.fd 7 24 (by decide)) (by decide) (fun c => mm_Call.of (s_paint h) (by decide) ?_) (fun c => ?_))
  · rw [q_holds hn, ks_b0, Classical.not_not] at c
    rintro r M1 ⟨h1, ⟨k, g, A, rfl, k1, k2, k3, k4⟩, e⟩
    obtain ⟨p, hp, rfl⟩ := id c
    refine bX9_colourAt_28 h1.cp.1 k3 (h1.fd 6 21 (by decide)) (by decide) ⟨?_, h1, e⟩
    dsimp only [o_colourAt]
    rw [pif_t c, nI_clamp (by omega), g_the_eq (P := cA n T p) ⟨k, g, k1, k2, rfl⟩ (cA_u hp), ks_at (by decide) (by omega), k4 p hp]
  · rw [q_holds hn, ks_b0] at c
    dsimp only [o_colourAt]
    rw [pif_f c]
    exact ⟨rfl, h, fun _ _ => rfl⟩
