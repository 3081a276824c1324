def mnm (M : mm_Mem) (N : List (List Nat)) : Prop := ∃ g, mm_at M 42 (mm_aJ 14 g) ∧ ∀ (i : Nat) (w : List Nat), N[i]? = some w → g i = lN (vl 27 w)
theorem mnm.eq {M M' : mm_Mem} {N : List (List Nat)} (h : mnm M N) (e : M' 42 = M 42) : mnm M' N := by
  obtain ⟨g, h1, h2⟩ := h
  exact ⟨g, h1.eq e, h2⟩
theorem lok.eq {M M' : mm_Mem} {t p : Nat} {f : Nat → Int32} (h : lok M t f p) (e : M' 31 = M 31) : lok M' t f p := ⟨h.1.eq e, h.2.1.eq e, h.2.2.1.eq e, fun q => (h.2.2.2.1 q).eq e, fun q => (h.2.2.2.2 q).eq e⟩
theorem MT.upN {M : mm_Mem} {th : Int32} {σ : g_st} (h : MT M th σ) (g : Nat → Int64) : MT (mm_up M 42 (mm_aJ 14 g)) th σ := by
  obtain ⟨F, w, h1, h2⟩ := mt_mo h
  have e : ∀ j, j ≠ 42 → mm_up M 42 (mm_aJ 14 g) j = M j := fun j hj => mm_up_n hj
  have := h.scr h1 (h1.eq (e 31 (by decide))) rfl rfl rfl (fun j hj => e j (by omega)) (h.msc.up (fun q hq => Or.inl (e q.1 (by have := mk_scr_in q hq; omega))) (fun a ha => Or.inl (e a (by intro u; subst u; exact absurd ha (by decide)))) (Or.inr ⟨g, by decide, mm_up_s⟩))
  rwa [h2] at this
theorem MT.fg {M : mm_Mem} {th : Int32} {n : Nat} {T : Nat → Nat} {L : g_nets} {K : g_kept} {t : Nat} {f : Nat → Int32} {fk : Int32} (h : MT M th (n, T, L, K, t, f, fk)) : MT (mm_upF M 31 21 (.int 0)) th (n, T, [], K, t, f, fk) := by
  obtain ⟨⟨F, w, m1, m2, m3, m4, m5⟩, h3, h4, ⟨h5, h5'⟩, ⟨C, h6, h6'⟩, h7, h8⟩ := h
  have e : ∀ j, j ≠ 31 → mm_upF M 31 21 (.int 0) j = M j := fun j hj => mm_upF_n hj
  exact ⟨⟨_, _, m1.set 21 0 (by decide), by rw [pk_un (by decide)]; exact m2, by rw [pk_un (by decide)]; exact m3, by rw [pk_un (by decide)]; exact m4, pk_us⟩, h3.eq (e 33 (by decide)), h4, ⟨mm_at.eq h5 (e 32 (by decide)), h5'⟩, ⟨C, h6.eq (e 36 (by decide)), ⟨by decide, fun j q h => by simp at h⟩⟩, h7.eq (e 35 (by decide)) (e 43 (by decide)), h8.eq fun j _ _ _ _ _ => e j (by omega)⟩
theorem g_add_0 {n : Nat} {T : Nat → Nat} (hw : gw n T) : g_add n T 0 = T := by
  funext p
  unfold g_add
  by_cases h : p = n
  · rw [if_pos h, h, hw.2.2.1 n (Nat.le_refl n)]
  · rw [if_neg h, Nat.zero_testBit, if_neg (by decide)]
theorem q_ptw {L : List Nat} (h : okw L) : qX10_isPointWord 2 (lN (vl 27 L)) = ks_b (L = wPT) := by
  unfold qX10_isPointWord
  rw [if_pos rfl, m_PT]
  by_cases e : L = wPT
  · rw [if_pos ((lc_27 h okPT).mpr e), ks_bt e]
  · rw [if_neg (fun q => e ((lc_27 h okPT).mp q)), ks_bf e]
theorem q_lnw {L : List Nat} (h : okw L) : qX10_isLineWord 2 (lN (vl 27 L)) = ks_b (L = wLN) := by
  unfold qX10_isLineWord
  rw [if_pos rfl, m_LN]
  by_cases e : L = wLN
  · rw [if_pos ((lc_27 h okLN).mpr e), ks_bt e]
  · rw [if_neg (fun q => e ((lc_27 h okLN).mp q)), ks_bf e]
theorem tkd_3 {t p : Nat} {f : Nat → Int32} : tkd t f p ≤ 3 := by
  unfold tkd pif
  repeat' (first | omega | split)
section RM
variable {th : Int32} {n0 : Nat} {T0 : Nat → Nat} {L : g_nets} {K : g_kept} {t : Nat} {f : Nat → Int32} {R : p_rs}
def lsq (M : mm_Mem) (th : Int32) (n0 : Nat) (T0 : Nat → Nat) (L : g_nets) (K : g_kept) (t : Nat) (f : Nat → Int32) (s : p_st) : Prop := MT M th (n0, T0, L, K, 0, f, 0) ∧ lok M t f s.2.1 ∧ ra M 34 s.2.2.1 s.2.2.2.1 ∧ mnm M s.2.2.2.2.1
def mbd (M : mm_Mem) (th : Int32) (n0 : Nat) (T0 : Nat → Nat) (L : g_nets) (K : g_kept) (f : Nat → Int32) (R : p_rs) : Prop := ∃ x, mm_fd M 31 10 8 (.int x) ∧ R.1 = -1 - x ∧ R.2.2 = none ∧ MT M th (n0, T0, L, K, 0, f, R.2.1)
abbrev fN (M M' : mm_Mem) : Prop := ∀ j, j ≠ 31 → j ≠ 34 → j ≠ 42 → M' j = M j
theorem lsq.wd {M : mm_Mem} {s : p_st} (h : lsq M th n0 T0 L K t f s) : ∃ x, mm_fd M 31 10 9 (.long x) ∧ (tkd t f s.2.1 = 2 → x = lN (vl 27 (twd t f s.2.1))) := by
  by_cases q : tkd t f s.2.1 = 2
  · exact ⟨_, h.2.1.2.2.2.2 q, fun _ => rfl⟩
  · obtain ⟨x, hx⟩ := h.1.fl
    exact ⟨x, hx, fun w => absurd w q⟩
theorem s_bad {M : mm_Mem} {s : p_st} {c : Int32} (h : lsq M th n0 T0 L K t f s) (fin : p_fin t f R s) (hp : s.2.1 ≤ 740) (st : p_step t f s = p_bad t f s.2.1 (if tkd t f s.2.1 = 1 then 1 else c)) : mm_S 0 mX10_bad 0 0 [.ref 31, .int c] M (fun r M' => r = some (.int 0) ∧ mbd M' th n0 T0 L K f R ∧ fN M M') := by
  have e := p_fin_l fin hp st
  obtain ⟨x8, k8⟩ := h.1.fi 8 (by decide)
  obtain ⟨x7, k7⟩ := h.1.fi 7 (by decide)
  have k3 := tkd_3 (t := t) (f := f) (p := s.2.1)
  have key : ∀ y : Int32, y = (if tkd t f s.2.1 = 1 then 1 else c) → mbd (mm_upF (mm_upF M 31 7 (.int y)) 31 8 (.int (nI (tpl t f s.2.1)))) th n0 T0 L K f R ∧ fN M (mm_upF (mm_upF M 31 7 (.int y)) 31 8 (.int (nI (tpl t f s.2.1)))) := by
    rintro y rfl
    rw [e]
    exact ⟨⟨_, (k8.n (by decide)).s, rfl, rfl, (h.1.upk _).upI 8 _ (by decide) (by decide) (by decide) (by decide) (by decide)⟩, fun j hj _ _ => (mm_upF_n hj).trans (mm_upF_n hj)⟩
  refine mm_S.of rfl rfl (Nat.le_of_ble_eq_true rfl) (fun r M' h x e => by rw [h.1] at e; cases e) (bX10_bad_0 h.2.1.2.2.1 k7 h.2.1.2.1 k8 (fun q => ⟨rfl, key _ ?_⟩) (fun q => ⟨rfl, key _ ?_⟩))
  · rw [show (1 : Int32) = nI 1 from rfl, ks_eqI (by omega) (by omega)] at q
    rw [if_neg q]
  · rw [show (1 : Int32) = nI 1 from rfl, ks_eqI (by omega) (by omega)] at q
    rw [if_pos q]
theorem s_isName {M : mm_Mem} {s : p_st} (h : lsq M th n0 T0 L K t f s) : mm_S 2 mX10_isName 0 0 [.ref 31] M (mm_Eq (some (.int (ks_b (tkd t f s.2.1 = 2 ∧ ¬ (twd t f s.2.1 = wPT ∨ twd t f s.2.1 = wLN))))) M) := by
  obtain ⟨x, k9, hx⟩ := h.wd
  have k3 := tkd_3 (t := t) (f := f) (p := s.2.1)
  have e2 : nI (tkd t f s.2.1) = 2 ↔ tkd t f s.2.1 = 2 := by rw [show (2 : Int32) = nI 2 from rfl, ks_eqI (by omega) (by omega)]
  refine mm_S.of rfl rfl (Nat.le_of_ble_eq_true rfl) mm_ndi (bX10_isName_0 h.2.1.2.2.1 k9 (by decide) (fun c => ⟨?_, rfl⟩) (fun c c1 => ⟨?_, rfl⟩) (fun c c1 c2 => ⟨?_, rfl⟩) (fun c c1 c2 => ⟨?_, rfl⟩))
  · rw [e2] at c
    rw [ks_bf fun q => c q.1]
  all_goals
    have k2 := e2.mp c
    rw [k2, hx k2, show nI 2 = (2 : Int32) from rfl, q_ptw (twd_ok k2), ks_b0] at c1
  · rw [Classical.not_not] at c1
    rw [ks_bf fun q => q.2 (Or.inl c1)]
  all_goals
    rw [k2, hx k2, show nI 2 = (2 : Int32) from rfl, q_lnw (twd_ok k2), ks_b0] at c2
  · rw [Classical.not_not] at c2
    rw [ks_bf fun q => q.2 (Or.inr c2)]
  · rw [ks_bt ⟨k2, fun q => q.elim c1 c2⟩]
theorem s_named {M : mm_Mem} {s : p_st} (h : lsq M th n0 T0 L K t f s) (ok : p_ok t s) (k2 : tkd t f s.2.1 = 2) : mm_S 1 mX10_named 0 0 [.ref 31] M (fun r M' => M' = M ∧ ((twd t f s.2.1 ∉ s.2.2.2.2.1 ∧ r = some (.int (-1))) ∨ (twd t f s.2.1 ∈ s.2.2.2.2.1 ∧ r = some (.int (nI (ixw s.2.2.2.2.1 (twd t f s.2.1))))))) := by
  obtain ⟨aw, p, n, T, N, rows, fp⟩ := s
  obtain ⟨hp, hw, hN, hk, h4, h14, hfp⟩ := ok
  obtain ⟨h1, h2, h3, g, m1, m2⟩ := h
  dsimp only at k2 h2 h3 m2 ⊢
  have hn := hw.1
  have wk := twd_ok k2
  have nd : ∀ (r : Option Value) (M' : mm_Mem), (M' = M ∧ ((twd t f p ∉ N ∧ r = some (.int (-1))) ∨ (twd t f p ∈ N ∧ r = some (.int (nI (ixw N (twd t f p))))))) → ∀ x, r ≠ some (.double x) := by
    rintro r M' ⟨-, ⟨-, h⟩ | ⟨-, h⟩⟩ x e <;> (rw [h] at e; cases e)
  refine mm_S.of rfl rfl (Nat.le_of_ble_eq_true rfl) nd (bX10_named_0 ?_)
  rw [show (0 : Int32) = nI 0 from rfl]
  refine fld (s := 0) (n := n) (G := fun i (_ : Unit) => mm_X mX10_named 1 none (0, 0) 2 [.ref 31, .int (nI i)] [] M _) (v0 := ()) (I := fun i _ => ∀ j, j < i → N[j]? ≠ some (twd t f p)) (Nat.zero_le n) (fun j hj => absurd hj (Nat.not_lt_zero j)) ?_
  intro i _ _ hi hI ih
  have lt : ¬ gk_f n T (Int32.toNatClampNeg 0) ≤ nI i → i < n := by
    intro c
    rw [gk_0, ks_le (by omega) (by omega)] at c
    omega
  have inN : i < n → ∃ w, N[i]? = some w ∧ g i = lN (vl 27 w) ∧ okw w := fun c => by
    have e : N[i]? = some (N[i]'(by omega)) := List.getElem?_eq_getElem (by omega)
    exact ⟨_, e, m2 i _ e, hk _ (List.mem_of_getElem? e)⟩
  refine bX10_named_2 h3 m1 (h1.fdr 11 34 (by decide)) (h1.fdr 19 42 (by decide)) (h2.2.2.2.2 k2) gk_in0 (fun c => ?_) (fun c => vp_in_nI (by have := lt c; omega) (by decide)) (fun c c2 => ?_) (fun c c2 => ?_)
  · rw [gk_0, ks_le (by omega) (by omega)] at c
    refine ⟨rfl, Or.inl ⟨fun q => ?_, rfl⟩⟩
    obtain ⟨x1, x2, x3⟩ := ixw_ex q
    exact hI _ (by omega) x1
  · obtain ⟨w, w1, w2, w3⟩ := inN (lt c)
    rw [nI_clamp (by omega), w2, lc_27 w3 wk] at c2
    rw [nI_1]
    refine ih () (lt c) fun j hj => ?_
    by_cases u : j = i
    · rw [u, w1]
      exact fun q => c2 (Option.some.inj q)
    · exact hI j (by omega)
  · obtain ⟨w, w1, w2, w3⟩ := inN (lt c)
    rw [nI_clamp (by omega), w2, lc_27 w3 wk] at c2
    rw [c2] at w1
    exact ⟨rfl, Or.inr ⟨List.mem_of_getElem? w1, by rw [ixw_eq w1 hI]⟩⟩
/-- on to the next token -/
theorem s_nx {M : mm_Mem} {s : p_st} (h : MT M th (n0, T0, L, K, 0, f, 0)) (f3 : mm_fd M 31 10 3 (.int (nI t))) (f4 : mm_fd M 31 10 4 (.int (nI s.2.1))) (ht : t ≤ 740) (hp : s.2.1 ≤ t) (o : ra M 34 s.2.2.1 s.2.2.2.1) (nm : mnm M s.2.2.2.2.1) : mm_S 1 mX10_next 0 0 [.ref 31] M (fun r M' => r = none ∧ lsq M' th n0 T0 L K t f s ∧ ∀ j, j ≠ 31 → M' j = M j) := by
  refine mm_S.mono (s_next h f3 f4 ht hp) ?_
  rintro r M' ⟨q1, q2, q3, q4⟩
  exact ⟨q1, ⟨q2, q3, mm_at.eq o (q4 34 (by decide)), nm.eq (q4 42 (by decide))⟩, q4⟩
def rdO (M : mm_Mem) (th : Int32) (n0 : Nat) (T0 : Nat → Nat) (L : g_nets) (K : g_kept) (t : Nat) (f : Nat → Int32) (R : p_rs) (p aw rows : Nat) (r : Option Value) (M' : mm_Mem) : Prop := ((r = some (.int 0) ∧ mbd M' th n0 T0 L K f R) ∨ (r = some (.int 1) ∧ ∃ s, lsq M' th n0 T0 L K t f s ∧ p_ok t s ∧ p_fin t f R s ∧ s.1 = aw ∧ p < s.2.1 ∧ s.2.2.2.2.2.1 = rows)) ∧ fN M M'
theorem rdO_nd {M : mm_Mem} {p aw rows : Nat} : ∀ r M', rdO M th n0 T0 L K t f R p aw rows r M' → ∀ x, r ≠ some (.double x) := by
  rintro r M' ⟨⟨h, -⟩ | ⟨h, -⟩, -⟩ x e <;> (rw [h] at e; cases e)
theorem p_nm_bad {aw p n : Nat} {T : Nat → Nat} {N : List (List Nat)} {rows fp : Nat} (ha : aw = 1 ∨ aw = 2 ∨ aw = 3) (h : ¬ (tkd t f p = 2 ∧ ¬ (twd t f p = wPT ∨ twd t f p = wLN))) : p_step t f (aw, p, n, T, N, rows, fp) = p_bad t f p (if tkd t f p = 1 then 1 else 1) := by
  have k3 := tkd_3 (t := t) (f := f) (p := p)
  rw [show (if tkd t f p = 1 then (1 : Int32) else 1) = 1 from by split <;> rfl]
  dsimp only [p_step]
  by_cases k0 : tkd t f p = 0
  · rw [if_pos k0, if_neg (by omega)]
  rw [if_neg k0]
  by_cases k1 : tkd t f p = 1
  · rw [if_pos k1]
  rw [if_neg k1, if_neg (by omega)]
  by_cases k3' : tkd t f p = 3
  · rw [if_pos k3']
  rw [if_neg k3', if_neg (by omega)]
  have k2 : tkd t f p = 2 := by omega
  rw [if_pos (Classical.byContradiction fun q => h ⟨k2, q⟩)]
theorem s_readPoint {M : mm_Mem} {p n rows fp : Nat} {T : Nat → Nat} {N : List (List Nat)} (ht : t ≤ 740) (h : lsq M th n0 T0 L K t f (0, p, n, T, N, rows, fp)) (ok : p_ok t (0, p, n, T, N, rows, fp)) (fin : p_fin t f R (0, p, n, T, N, rows, fp)) (k2 : tkd t f p = 2) (w1 : twd t f p = wPT) : mm_S 3 mX10_readPoint 0 0 [.ref 31] M (rdO M th n0 T0 L K t f R p 4 rows) := by
  obtain ⟨hp, hw, hN, hk, -⟩ := id ok
  have hn := hw.1
  obtain ⟨a1, a2, a3, a4⟩ := id h
  have st : p_step t f (0, p, n, T, N, rows, fp) = (if n = 14 then p_bad t f p 3 else .inr (1, taf t f p, n, T, N, rows, fp)) := by
    dsimp only [p_step]
    rw [if_neg (by omega), if_neg (by omega), if_neg (by decide), if_neg (by omega), if_pos rfl, if_pos w1]
  have o0 : ra M 34 n T := a3
  refine mm_S.of rfl rfl (Nat.le_of_ble_eq_true rfl) rdO_nd (bX10_readPoint_0 o0 (a1.fdr 11 34 (by decide)) gk_in0 (fun c => ?_) (fun c => ?_))
  rotate_left
  · rw [gk_0, ks_14, ks_eqI (by omega) (by omega)] at c
    rw [if_pos c] at st
    refine mm_Call.of (s_bad h fin (by show p ≤ 740; omega) (c := 3) (by rw [show tkd t f ((0, p, n, T, N, rows, fp) : p_st).2.1 = 2 from k2, if_neg (by decide)]; exact st)) (by decide) ?_
    rintro _ M1 ⟨rfl, q1, q2⟩
    exact bX10_readPoint_16 rfl ⟨Or.inl ⟨rfl, q1⟩, q2⟩
  rw [gk_0, ks_14, ks_eqI (by omega) (by omega)] at c
  rw [if_neg c] at st
  obtain ⟨ok1, lt1⟩ := p_step_ok ok st
  have fin1 := p_fin_r fin (by show p ≤ 740; omega) st lt1
  have lt1' : p < taf t f p := lt1
  have hp1 : taf t f p ≤ t := ok1.1
  refine mm_Call.of (s_nx (s := (1, taf t f p, n, T, N, rows, fp)) a1 a2.1 (a2.2.2.2.1 (Or.inl k2)) ht hp1 a3 a4) (by decide) ?_
  rintro _ M1 ⟨rfl, l1, e1⟩
  refine bX10_readPoint_21 (l1.1.fdr 10 33 (by decide)).rc (mm_Call.eq (s_isName l1) (by decide) (bX10_readPoint_25 (l1.1.fdr 10 33 (by decide)).rc (fun c1 => ?_) (fun c1 => ?_)))
  rotate_left
  · rw [ks_b0] at c1
    refine mm_Call.of (s_bad l1 fin1 (by show taf t f p ≤ 740; omega) (c := 1) (p_nm_bad (Or.inl rfl) c1)) (by decide) ?_
    rintro _ M2 ⟨rfl, q1, q2⟩
    exact bX10_readPoint_33 rfl ⟨Or.inl ⟨rfl, q1⟩, fun j j1 j2 j3 => (q2 j j1 j2 j3).trans (e1 j j1)⟩
  rw [ks_b0, Classical.not_not] at c1
  obtain ⟨k2', w1'⟩ := c1
  have st1 := p_step_nm (n := n) (T := T) (N := N) (rows := rows) (fp := fp) (aw := 1) k2' (by decide) (by decide) w1'
  rw [if_pos rfl] at st1
  refine mm_Call.of (s_named l1 ok1 k2') (by decide) ?_
  obtain ⟨b1, b2, b3, g, m1, m2⟩ := id l1
  have o1 : ra M1 34 n T := b3
  have hN' : N.length = n := hN
  rintro _ M1' ⟨rfl, ⟨q1, rfl⟩ | ⟨q1, rfl⟩⟩
  · have q1' : twd t f (taf t f p) ∉ N := q1
    rw [if_neg q1'] at st1
    obtain ⟨ok2, lt2⟩ := p_step_ok ok1 st1
    have fin2 := p_fin_r fin1 (by show taf t f p ≤ 740; omega) st1 lt2
    have lt2' : taf t f p < taf t f (taf t f p) := lt2
    refine bX10_readPoint_38 o1 m1 (b1.fdr 19 42 (by decide)) (b1.fdr 11 34 (by decide)) (b2.2.2.2.2 k2') (by decide) (by decide) (by decide) (fun _ => gk_in0) (fun _ => by rw [gk_0]; exact vp_in_nI (by omega) (by decide)) (fun _ => gk_in0) (fun _ => gk_in0) (fun _ => ?_) (fun c => absurd rfl c)
    rw [gk_0, nI_1, gk_upd0, nI_clamp (by omega)]
    have gwn : gw (n + 1) T := by
      have := ok2.2.1
      rwa [g_add_0 hw] at this
    have mN := (b1.upN (vp_updL g n (lN (vl 27 (twd t f (taf t f p)))))).rnet (a := 34) (by decide) gwn
    have eN : ∀ j, j ≠ 34 → j ≠ 42 → mm_up (mm_up M1' 42 (mm_aJ 14 (vp_updL g n (lN (vl 27 (twd t f (taf t f p))))))) 34 (mm_aI 15 (gk_f (n + 1) T)) j = M1' j := fun j j1 j2 => (mm_up_n j1).trans (mm_up_n j2)
    have o34 : ra (mm_up (mm_up M1' 42 (mm_aJ 14 (vp_updL g n (lN (vl 27 (twd t f (taf t f p))))))) 34 (mm_aI 15 (gk_f (n + 1) T))) 34 (n + 1) T := mm_at.s o1.1
    have o42 : mm_at (mm_up (mm_up M1' 42 (mm_aJ 14 (vp_updL g n (lN (vl 27 (twd t f (taf t f p))))))) 34 (mm_aI 15 (gk_f (n + 1) T))) 42 (mm_aJ 14 (vp_updL g n (lN (vl 27 (twd t f (taf t f p)))))) := (mm_at.s m1.1).n (by decide)
    generalize mm_up (mm_up M1' 42 (mm_aJ 14 (vp_updL g n (lN (vl 27 (twd t f (taf t f p))))))) 34 (mm_aI 15 (gk_f (n + 1) T)) = M2 at mN eN o34 o42 ⊢
    have hp2 : taf t f (taf t f p) ≤ t := ok2.1
    refine mm_Call.of (s_nx (s := (4, taf t f (taf t f p), n + 1, g_add n T 0, N ++ [twd t f (taf t f p)], rows, fp)) mN (b2.1.eq (eN 31 (by decide) (by decide))) ((b2.2.2.2.1 (Or.inl k2')).eq (eN 31 (by decide) (by decide))) ht hp2 (by rw [show (((4, taf t f (taf t f p), n + 1, g_add n T 0, N ++ [twd t f (taf t f p)], rows, fp) : p_st).2.2.2.1) = T from g_add_0 hw]; exact o34) ⟨_, o42, fun i w hi => ?_⟩) (by decide) ?_
    · have hi' : (N ++ [twd t f (taf t f p)])[i]? = some w := hi
      unfold vp_updL
      by_cases u : i < N.length
      · rw [List.getElem?_append_left u] at hi'
        rw [if_neg (by omega)]
        exact m2 i w hi'
      · have hl := (List.getElem?_eq_some_iff.mp hi').1
        rw [List.length_append, List.length_singleton] at hl
        obtain rfl : i = N.length := by omega
        rw [List.getElem?_append_right (Nat.le_refl _), Nat.sub_self] at hi'
        have e9 : twd t f (taf t f p) = w := Option.some.inj hi'
        rw [if_pos hN', e9]
    · rintro _ M3 ⟨rfl, l3, e3⟩
      exact bX10_readPoint_77 ⟨Or.inr ⟨rfl, _, l3, ok2, fin2, rfl, by show p < taf t f (taf t f p); omega, rfl⟩, fun j j1 j2 j3 => (e3 j j1).trans ((eN j j2 j3).trans (e1 j j1))⟩
  · have q1' : twd t f (taf t f p) ∈ N := q1
    rw [if_pos q1'] at st1
    obtain ⟨x1, x2, x3⟩ := ixw_ex q1'
    have nm : nI (ixw N (twd t f (taf t f p))) ≠ -1 := nI_m1 (by omega)
    refine bX10_readPoint_38 o1 m1 (b1.fdr 19 42 (by decide)) (b1.fdr 11 34 (by decide)) (b2.2.2.2.2 k2') (by decide) (by decide) (by decide) (fun c => absurd c nm) (fun c => absurd c nm) (fun c => absurd c nm) (fun c => absurd c nm) (fun c => absurd c nm) (fun _ => ?_)
    refine mm_Call.of (s_bad l1 fin1 (by show taf t f p ≤ 740; omega) (c := 2) (by rw [show tkd t f ((1, taf t f p, n, T, N, rows, fp) : p_st).2.1 = 2 from k2', if_neg (by decide)]; exact st1)) (by decide) ?_
    rintro _ M2 ⟨rfl, z1, z2⟩
    exact bX10_readPoint_47 rfl ⟨Or.inl ⟨rfl, z1⟩, fun j j1 j2 j3 => (z2 j j1 j2 j3).trans (e1 j j1)⟩
theorem s_readLine {M : mm_Mem} {p n rows fp : Nat} {T : Nat → Nat} {N : List (List Nat)} (ht : t ≤ 740) (h : lsq M th n0 T0 L K t f (0, p, n, T, N, rows, fp)) (ok : p_ok t (0, p, n, T, N, rows, fp)) (fin : p_fin t f R (0, p, n, T, N, rows, fp)) (k2 : tkd t f p = 2) (w1 : twd t f p = wLN) : mm_S 3 mX10_readLine 0 0 [.ref 31] M (rdO M th n0 T0 L K t f R p 4 rows) := by
  obtain ⟨hp, hw, hN, hk, -⟩ := id ok
  have hn := hw.1
  obtain ⟨a1, a2, a3, a4⟩ := id h
  have hN' : N.length = n := hN
  have st : p_step t f (0, p, n, T, N, rows, fp) = .inr (2, taf t f p, n, T, N, rows, fp) := by
    dsimp only [p_step]
    rw [if_neg (by omega), if_neg (by omega), if_neg (by decide), if_neg (by omega), if_pos rfl, if_neg (by rw [w1]; decide), if_pos w1]
  obtain ⟨ok1, lt1⟩ := p_step_ok ok st
  have fin1 := p_fin_r fin (by show p ≤ 740; omega) st lt1
  have lt1' : p < taf t f p := lt1
  have hp1 : taf t f p ≤ t := ok1.1
  refine mm_S.of rfl rfl (Nat.le_of_ble_eq_true rfl) rdO_nd (bX10_readLine_0 (a1.fdr 10 33 (by decide)).rc (mm_Call.of (s_nx (s := (2, taf t f p, n, T, N, rows, fp)) a1 a2.1 (a2.2.2.2.1 (Or.inl k2)) ht hp1 a3 a4) (by decide) ?_))
  rintro _ M1 ⟨rfl, l1, e1⟩
  have rc1 := (l1.1.fdr 10 33 (by decide)).rc
  refine bX10_readLine_4 rc1 (mm_Call.eq (s_isName l1) (by decide) (bX10_readLine_8 rc1 (fun c1 => ?_) (fun c1 => ?_)))
  rotate_left
  · rw [ks_b0] at c1
    refine mm_Call.of (s_bad l1 fin1 (by show taf t f p ≤ 740; omega) (c := 1) (p_nm_bad (Or.inr (Or.inl rfl)) c1)) (by decide) ?_
    rintro _ M2 ⟨rfl, q1, q2⟩
    exact bX10_readLine_16 rfl ⟨Or.inl ⟨rfl, q1⟩, fun j j1 j2 j3 => (q2 j j1 j2 j3).trans (e1 j j1)⟩
  rw [ks_b0, Classical.not_not] at c1
  obtain ⟨k2', w1'⟩ := c1
  generalize hpe : taf t f p = p1 at l1 ok1 fin1 lt1' hp1 k2' w1'
  have st1 := p_step_nm (n := n) (T := T) (N := N) (rows := rows) (fp := fp) (aw := 2) k2' (by decide) (by decide) w1'
  rw [if_neg (by decide)] at st1
  refine mm_Call.of (s_named l1 ok1 k2') (by decide) ?_
  obtain ⟨b1, b2, b3, b4⟩ := id l1
  rintro _ M1' ⟨rfl, ⟨q1, rfl⟩ | ⟨q1, rfl⟩⟩
  · have q1' : twd t f p1 ∉ N := q1
    rw [if_pos q1'] at st1
    refine bX10_readLine_21 rc1 (fun c => absurd rfl c) (fun _ => mm_Call.of (s_bad l1 fin1 (by show p1 ≤ 740; omega) (c := 2) (by rw [show tkd t f ((2, p1, n, T, N, rows, fp) : p_st).2.1 = 2 from k2', if_neg (by decide)]; exact st1)) (by decide) ?_)
    rintro _ M2 ⟨rfl, z1, z2⟩
    exact bX10_readLine_32 rfl ⟨Or.inl ⟨rfl, z1⟩, fun j j1 j2 j3 => (z2 j j1 j2 j3).trans (e1 j j1)⟩
  have q1' : twd t f p1 ∈ N := q1
  rw [if_neg (fun q => q q1'), if_pos rfl] at st1
  obtain ⟨x1, x2, x3⟩ := ixw_ex q1'
  obtain ⟨ok2, lt2⟩ := p_step_ok ok1 st1
  have fin2 := p_fin_r fin1 (by show p1 ≤ 740; omega) st1 lt2
  have lt2' : p1 < taf t f p1 := lt2
  have hp2 : taf t f p1 ≤ t := ok2.1
  show mm_X mX10_readLine 3 none (0, 0) 21 [.ref 31, .null, .null] [.int (nI (ixw N (twd t f p1)))] M1' _
  generalize ixw N (twd t f p1) = i at x2 ok2 fin2 st1 ⊢
  refine bX10_readLine_21 rc1 (fun _ => mm_Call.of (s_nx (s := (3, taf t f p1, n, T, N, rows, i)) b1 b2.1 (b2.2.2.2.1 (Or.inl k2')) ht hp2 b3 b4) (by decide) ?_) (fun c => absurd c (nI_m1 (by omega)))
  rintro _ M2 ⟨rfl, l2, e2⟩
  have rc2 := (l2.1.fdr 10 33 (by decide)).rc
  have e2' : fN M M2 := fun j j1 _ _ => (e2 j j1).trans (e1 j j1)
  refine bX10_readLine_37 rc2 (mm_Call.eq (s_isName l2) (by decide) (bX10_readLine_41 rc2 (fun c1 => ?_) (fun c1 => ?_)))
  rotate_left
  · rw [ks_b0] at c1
    refine mm_Call.of (s_bad l2 fin2 (by show taf t f p1 ≤ 740; omega) (c := 1) (p_nm_bad (Or.inr (Or.inr rfl)) c1)) (by decide) ?_
    rintro _ M3 ⟨rfl, q1, q2⟩
    exact bX10_readLine_49 rfl ⟨Or.inl ⟨rfl, q1⟩, fun j j1 j2 j3 => (q2 j j1 j2 j3).trans (e2' j j1 j2 j3)⟩
  rw [ks_b0, Classical.not_not] at c1
  obtain ⟨k3', w3'⟩ := c1
  generalize hpe2 : taf t f p1 = p2 at l2 ok2 fin2 lt2' hp2 k3' w3'
  have st2 := p_step_nm (n := n) (T := T) (N := N) (rows := rows) (fp := i) (aw := 3) k3' (by decide) (by decide) w3'
  rw [if_neg (by decide)] at st2
  refine mm_Call.of (s_named l2 ok2 k3') (by decide) ?_
  obtain ⟨d1, d2, d3, d4⟩ := id l2
  have o2 : ra M2 34 n T := d3
  have in1 : vp_in (1 + nI i) 15 := gk_in1 (by omega)
  have fR := d1.fdr 11 34 (by decide)
  rintro _ M2' ⟨rfl, ⟨q2, rfl⟩ | ⟨q2, rfl⟩⟩
  · have q2' : twd t f p2 ∉ N := q2
    rw [if_pos q2'] at st2
    refine bX10_readLine_54 o2 fR rc2 (by decide) (by decide) (fun _ => mm_Call.of (s_bad l2 fin2 (by show p2 ≤ 740; omega) (c := 2) (by rw [show tkd t f ((3, p2, n, T, N, rows, i) : p_st).2.1 = 2 from k3', if_neg (by decide)]; exact st2)) (by decide) ?_) (fun c => absurd rfl c) (fun c => absurd rfl c) (fun c => absurd rfl c) (fun c => absurd rfl c) (fun c => absurd rfl c) (fun c => absurd rfl c) (fun c => absurd rfl c) (fun c => absurd rfl c)
    rintro _ M3 ⟨rfl, z1, z2⟩
    exact bX10_readLine_82 rfl ⟨Or.inl ⟨rfl, z1⟩, fun j j1 j2 j3 => (z2 j j1 j2 j3).trans (e2' j j1 j2 j3)⟩
  have q2' : twd t f p2 ∈ N := q2
  rw [if_neg (fun q => q q2'), if_neg (by decide)] at st2
  obtain ⟨y1, y2, y3⟩ := ixw_ex q2'
  show mm_X mX10_readLine 3 none (0, 0) 54 [.ref 31, .int (nI i), .null] [.int (nI (ixw N (twd t f p2)))] M2' _
  generalize ixw N (twd t f p2) = k at y2 st2 ⊢
  have hTi := gw_ok hw i
  have in2 : vp_in (1 + nI k) 15 := gk_in1 (by omega)
  have bad2 : p_step t f (3, p2, n, T, N, rows, i) = p_bad t f p2 2 → mm_Call 3 mX10_bad [.ref 31, .int 2] M2' (fun r M3 => mm_X mX10_readLine 3 none (0, 0) 82 [.null, .null, .null] (r.toList ++ []) M3 (rdO M th n0 T0 L K t f R p 4 rows)) := fun e => by
    refine mm_Call.of (s_bad l2 fin2 (by show p2 ≤ 740; omega) (c := 2) (by rw [show tkd t f ((3, p2, n, T, N, rows, i) : p_st).2.1 = 2 from k3', if_neg (by decide)]; exact e)) (by decide) ?_
    rintro _ M3 ⟨rfl, z1, z2⟩
    exact bX10_readLine_82 rfl ⟨Or.inl ⟨rfl, z1⟩, fun j j1 j2 j3 => (z2 j j1 j2 j3).trans (e2' j j1 j2 j3)⟩
  refine bX10_readLine_54 o2 fR rc2 (by decide) (by decide) (fun c => absurd c (nI_m1 (by omega))) (fun _ c => bad2 ?_) (fun _ _ => in1) (fun _ _ _ => in1) (fun _ _ _ => in1) (fun _ _ _ => in2) (fun _ _ _ => in2) (fun _ c c2 => ?_) (fun _ c c2 => bad2 ?_)
  · rw [ks_eqI (by omega) (by omega)] at c
    rw [st2, if_pos (Or.inl c)]
  · rw [ks_eqI (by omega) (by omega)] at c
    rw [gk_1 (by omega), ks_mhas (by omega) (by omega), ks_b0] at c2
    rw [if_neg (fun q => q.elim c c2)] at st2
    rw [gk_turns (by omega) (by omega) (Ne.symm c)]
    obtain ⟨ok3, lt3⟩ := p_step_ok ok2 st2
    have fin3 := p_fin_r fin2 (by show p2 ≤ 740; omega) st2 lt3
    have lt3' : p2 < taf t f p2 := lt3
    have hp3 : taf t f p2 ≤ t := ok3.1
    have gwn : gw n (g_flip T i k) := ok3.2.1
    have mN := d1.rnet (a := 34) (by decide) gwn
    have eN : ∀ j, j ≠ 34 → mm_up M2' 34 (mm_aI 15 (gk_f n (g_flip T i k))) j = M2' j := fun j j1 => mm_up_n j1
    have o34 : ra (mm_up M2' 34 (mm_aI 15 (gk_f n (g_flip T i k)))) 34 n (g_flip T i k) := mm_at.s o2.1
    generalize mm_up M2' 34 (mm_aI 15 (gk_f n (g_flip T i k))) = M3 at mN eN o34 ⊢
    refine mm_Call.of (s_nx (s := (4, taf t f p2, n, g_flip T i k, N, rows, i)) mN (d2.1.eq (eN 31 (by decide))) ((d2.2.2.2.1 (Or.inl k3')).eq (eN 31 (by decide))) ht hp3 o34 (d4.eq (eN 42 (by decide)))) (by decide) ?_
    rintro _ M4 ⟨rfl, l4, e4⟩
    exact bX10_readLine_96 ⟨Or.inr ⟨rfl, _, l4, ok3, fin3, rfl, by show p < taf t f p2; omega, rfl⟩, fun j j1 j2 j3 => (e4 j j1).trans ((eN j j2).trans (e2' j j1 j2 j3))⟩
  · rw [gk_1 (by omega), ks_mhas (by omega) (by omega), ks_b0, Classical.not_not] at c2
    rw [st2, if_pos (Or.inr c2)]
theorem s_readEnd {M : mm_Mem} {s : p_st} (ht : t ≤ 740) (h : lsq M th n0 T0 L K t f s) (ok : p_ok t s) (fin : p_fin t f R s) (h4 : s.1 = 4) : mm_S 2 mX10_readEnd 0 0 [.ref 31] M (rdO M th n0 T0 L K t f R s.2.1 0 (s.2.2.2.2.2.1 + 1)) := by
  obtain ⟨aw, p, n, T, N, rows, fp⟩ := s
  dsimp only at h4
  subst h4
  have hp : p ≤ t := ok.1
  have k3 := tkd_3 (t := t) (f := f) (p := p)
  obtain ⟨a1, a2, a3, a4⟩ := id h
  have e3 : nI (tkd t f p) = 3 ↔ tkd t f p = 3 := by rw [show (3 : Int32) = nI 3 from rfl, ks_eqI (by omega) (by omega)]
  refine mm_S.of rfl rfl (Nat.le_of_ble_eq_true rfl) rdO_nd (bX10_readEnd_0 a2.2.2.1 (fun c => ?_) (fun c => ?_))
  · rw [e3] at c
    have st : p_step t f (4, p, n, T, N, rows, fp) = .inr (0, taf t f p, n, T, N, rows + 1, fp) := by
      dsimp only [p_step]
      rw [if_neg (by omega), if_neg (by omega), if_pos rfl, if_pos c]
    obtain ⟨ok1, lt1⟩ := p_step_ok ok st
    have fin1 := p_fin_r fin (by show p ≤ 740; omega) st lt1
    have hp1 : taf t f p ≤ t := ok1.1
    refine mm_Call.of (s_nx (s := (0, taf t f p, n, T, N, rows + 1, fp)) a1 a2.1 (a2.2.2.2.1 (Or.inr c)) ht hp1 a3 a4) (by decide) ?_
    rintro _ M1 ⟨rfl, l1, e1⟩
    exact bX10_readEnd_18 ⟨Or.inr ⟨rfl, _, l1, ok1, fin1, rfl, lt1, rfl⟩, fun j j1 _ _ => e1 j j1⟩
  · rw [e3] at c
    have st : p_step t f (4, p, n, T, N, rows, fp) = p_bad t f p (if tkd t f p = 1 then 1 else 1) := by
      rw [show (if tkd t f p = 1 then (1 : Int32) else 1) = 1 from by split <;> rfl]
      dsimp only [p_step]
      by_cases k0 : tkd t f p = 0
      · rw [if_pos k0, if_neg (by decide)]
      rw [if_neg k0]
      by_cases k1 : tkd t f p = 1
      · rw [if_pos k1]
      rw [if_neg k1, if_pos rfl, if_neg c]
    refine mm_Call.of (s_bad h fin (by show p ≤ 740; omega) (c := 1) st) (by decide) ?_
    rintro _ M1 ⟨rfl, q1, q2⟩
    exact bX10_readEnd_13 rfl ⟨Or.inl ⟨rfl, q1⟩, q2⟩
end RM
