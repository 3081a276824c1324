theorem tcd_2 {k : Nat} : tcd k = 2 ↔ k = 2 := by
  unfold tcd
  by_cases h : k = 2
  · rw [if_pos h]
    exact ⟨fun _ => h, fun _ => rfl⟩
  · rw [if_neg h]
    refine ⟨fun q => ?_, fun q => absurd q h⟩
    split at q <;> exact absurd q (by decide)
theorem tcd_1 {k : Nat} : tcd k = 1 ↔ k = 3 := by
  unfold tcd
  by_cases h : k = 2
  · rw [if_pos h]
    exact ⟨fun q => absurd q (by decide), fun q => by omega⟩
  · rw [if_neg h]
    by_cases h3 : k = 3
    · rw [if_pos h3]
      exact ⟨fun _ => h3, fun _ => rfl⟩
    · rw [if_neg h3]
      exact ⟨fun q => absurd q (by decide), fun q => absurd q h3⟩
/-- the reader holds a state -/
def rstt (M : mm_Mem) : p_st → Prop
  | (aw, p, n, T, N, rows, fp) => (∃ G w, rdm M G w ∧ G 3 = nI rows ∧ G 4 = nI aw ∧ (aw = 3 → G 5 = nI fp) ∧ G 8 = nI p) ∧ na M 8 n T ∧ rnm M N
theorem rdm.cr {M : mm_Mem} {G : Nat → Int32} {w : Int64} (r : rdm M G w) (o : nj M 8) (l : rjL M 10 14) : cr M := ⟨r.1, r.2.1, fun k hk => ⟨_, r.2.2.1 k hk⟩, ⟨_, r.2.2.2⟩, o, l⟩
theorem rnm.l {M : mm_Mem} {N : List (List Nat)} (h : rnm M N) : rjL M 10 14 := by
  obtain ⟨g, h1, -⟩ := h
  exact ⟨g, h1⟩
def tkO (t : Nat) (f : Nat → Int32) (s : p_st) (M : mm_Mem) (r : Option Value) (M' : mm_Mem) : Prop := (∃ c : Int32, r = some (.int c) ∧ ((c ≠ 0 ∧ p_step t f s = p_bad t f s.2.1 c ∧ cr M') ∨ (c = 0 ∧ ∃ s', p_step t f s = .inr s' ∧ rstt M' s'))) ∧ ∀ j, j < 7 ∨ 10 < j → M' j = M j
theorem tkO_nd {t : Nat} {f : Nat → Int32} {s : p_st} {M : mm_Mem} : ∀ r M', tkO t f s M r M' → ∀ x, r ≠ some (.double x) := fun r M' h x e => by
  obtain ⟨⟨c, h, -⟩, -⟩ := h
  rw [h] at e
  cases e
theorem s_toldAs {M : mm_Mem} {G : Nat → Int32} {n : Nat} {T : Nat → Nat} {N : List (List Nat)} {w0 : List Nat} (r : rdm M G (lN (vl 32 w0))) (o : na M 8 n T) (nm : rnm M N) (hn : n ≤ 14) (hN : N.length = n) (hw : ∀ w, w ∈ N → okw w) (h0 : okw w0) : mm_S 1 mX6_toldAs 0 0 [.ref 7] M (fun r M' => M' = M ∧ ((w0 ∉ N ∧ r = some (.int (-1))) ∨ (w0 ∈ N ∧ r = some (.int (nI (ixw N w0)))))) := by
  obtain ⟨g, m1, m2⟩ := nm
  have nd : ∀ (r : Option Value) (M' : mm_Mem), (M' = M ∧ ((w0 ∉ N ∧ r = some (.int (-1))) ∨ (w0 ∈ N ∧ r = some (.int (nI (ixw N w0)))))) → ∀ x, r ≠ some (.double x) := by
    rintro r M' ⟨-, ⟨-, h⟩ | ⟨-, h⟩⟩ x e <;> (rw [h] at e; cases e)
  refine mm_S.of rfl rfl (Nat.le_of_ble_eq_true rfl) nd (bX6_toldAs_0 ?_)
  rw [show (0 : Int32) = nI 0 from rfl]
  refine fld (s := 0) (n := n) (G := fun i (_ : Unit) => mm_X mX6_toldAs 1 none (0, 0) 2 [.ref 7, .int (nI i)] [] M _) (v0 := ()) (I := fun i _ => ∀ j, j < i → N[j]? ≠ some w0) (Nat.zero_le n) (fun j hj => absurd hj (Nat.not_lt_zero j)) ?_
  intro i _ _ hi hI ih
  have inN : ¬ nI n ≤ nI i → ∃ w, N[i]? = some w ∧ g i = lN (vl 32 w) ∧ okw w := fun c => by
    rw [ks_le (by omega) (by omega)] at c
    have e : N[i]? = some (N[i]'(by omega)) := List.getElem?_eq_getElem (by omega)
    exact ⟨_, e, m2 i _ e, hw _ (List.mem_of_getElem? e)⟩
  refine bX6_toldAs_2 o.1 m1 r.1 r.2.1 r.2.2.2 (by decide) (fun c => ?_) (fun c c1 => ?_) (fun c c1 => ?_) (fun c c1 c2 => ?_) (fun c c1 c2 => ?_)
  · rw [ks_le (by omega) (by omega)] at c
    refine ⟨rfl, Or.inl ⟨fun q => ?_, rfl⟩⟩
    obtain ⟨x1, x2, x3⟩ := ixw_ex q
    exact hI _ (by omega) x1
  · rw [ks_le (by omega) (by omega)] at c
    rw [show Int32.ofNat 14 = nI 14 from rfl, ks_le (by omega) (by omega)] at c1
    omega
  · rw [ks_le (by omega) (by omega)] at c
    exact vp_in_nI (by omega) (by decide)
  · obtain ⟨w, w1, w2, w3⟩ := inN c
    rw [ks_le (by omega) (by omega)] at c
    rw [nI_clamp (by omega), w2, lc_32 w3 h0] at c2
    rw [nI_1]
    refine ih () (by omega) fun j hj => ?_
    by_cases u : j = i
    · rw [u, w1]
      exact fun q => c2 (Option.some.inj q)
    · exact hI j (by omega)
  · obtain ⟨w, w1, w2, w3⟩ := inN c
    rw [nI_clamp (by omega), w2, lc_32 w3 h0] at c2
    rw [c2] at w1
    exact ⟨rfl, Or.inr ⟨List.mem_of_getElem? w1, by rw [ixw_eq w1 hI]⟩⟩
section RC
variable {M : mm_Mem} {t p n rows fp : Nat} {f : Nat → Int32} {T : Nat → Nat} {N : List (List Nat)} {G : Nat → Int32} {w : Int64}
theorem s_takeSign (r : rdm M G w) (o : na M 8 n T) (hw : gw n T) (nm : rnm M N) (g3 : G 3 = nI rows) (g6 : G 6 = tcd (tkd t f p)) (g8 : G 8 = nI (taf t f p)) (h0 : tkd t f p ≠ 0) : mm_S 0 mX6_takeSign 0 0 [.ref 7] M (tkO t f (4, p, n, T, N, rows, fp) M) := by
  refine mm_S.of rfl rfl (Nat.le_of_ble_eq_true rfl) tkO_nd (bX6_takeSign_0 (r.2.2.1 6 (by decide)) (r.2.2.1 3 (by decide)) (r.2.2.1 4 (by decide)) (fun c => ?_) (fun c => ?_))
  · rw [g6, tcd_1] at c
    have e : ∀ j, j ≠ 7 → mm_upF (mm_upF M 7 3 (.int (G 3 + 1))) 7 4 (.int 0) j = M j := fun j hj => (mm_upF_n hj).trans (mm_upF_n hj)
    refine ⟨⟨0, rfl, Or.inr ⟨rfl, (0, taf t f p, n, T, N, rows + 1, fp), ?_, ⟨_, _, (r.set 3 (G 3 + 1) (by decide)).set 4 0 (by decide), ?_, ?_, ?_, ?_⟩, o.eq (e 8 (by decide)) (e 9 (by decide)), nm.eq (e 10 (by decide))⟩⟩, fun j hj => e j (by omega)⟩
    · dsimp only [p_step]
      rw [if_neg h0, if_neg (by omega), if_pos rfl, if_pos c]
    · rw [pk_un (by decide), pk_us, g3, nI_1]
    · rw [pk_us]
      rfl
    · intro q
      cases q
    · rw [pk_un (by decide), pk_un (by decide), g8]
  · rw [g6, tcd_1] at c
    refine ⟨⟨1, rfl, Or.inl ⟨by decide, ?_, r.cr ⟨n, T, o, hw⟩ nm.l⟩⟩, fun _ _ => rfl⟩
    dsimp only [p_step]
    rw [if_neg h0]
    by_cases k1 : tkd t f p = 1
    · rw [if_pos k1]
    · rw [if_neg k1, if_pos rfl, if_neg c]
theorem s_takeRowWord (r : rdm M G (lN (vl 32 (twd t f p)))) (o : na M 8 n T) (hw : gw n T) (nm : rnm M N) (g3 : G 3 = nI rows) (g8 : G 8 = nI (taf t f p)) (k2 : tkd t f p = 2) : mm_S 1 mX6_takeRowWord 0 0 [.ref 7] M (tkO t f (0, p, n, T, N, rows, fp) M) := by
  have hn := hw.1
  have wk := twd_ok k2
  have st : p_step t f (0, p, n, T, N, rows, fp) = (if twd t f p = wPT then (if n = 14 then p_bad t f p 3 else .inr (1, taf t f p, n, T, N, rows, fp)) else if twd t f p = wLN then .inr (2, taf t f p, n, T, N, rows, fp) else p_bad t f p 1) := by
    dsimp only [p_step]
    rw [if_neg (by omega), if_neg (by omega), if_neg (by decide), if_neg (by omega), if_pos rfl]
  have e : ∀ x j, j ≠ 7 → mm_upF M 7 4 (.int x) j = M j := fun x j hj => mm_upF_n hj
  have new : ∀ (a : Nat), a ≠ 3 → rstt (mm_upF M 7 4 (.int (nI a))) (a, taf t f p, n, T, N, rows, fp) := fun a ha => by
    refine ⟨⟨_, _, r.set 4 (nI a) (by decide), ?_, ?_, fun q => absurd q ha, ?_⟩, o.eq (e _ 8 (by decide)) (e _ 9 (by decide)), nm.eq (e _ 10 (by decide))⟩
    · rw [pk_un (by decide), g3]
    · rw [pk_us]
    · rw [pk_un (by decide), g8]
  refine mm_S.of rfl rfl (Nat.le_of_ble_eq_true rfl) tkO_nd (bX6_takeRowWord_0 o.1 r.2.2.2 (r.2.2.1 4 (by decide)) r.1 (by decide) (by decide) (fun c c1 c2 => ?_) (fun c c1 c2 => ?_) (fun c c1 => ?_) (fun c => ?_))
  · rw [c_PT, lc_32 wk okPT] at c1
    rw [ks_14, ks_le (by omega) (by omega)] at c2
    refine ⟨⟨3, rfl, Or.inl ⟨by decide, by rw [st, if_pos c1, if_pos (by omega)], ?_⟩⟩, fun j hj => e _ j (by omega)⟩
    exact (r.set 4 1 (by decide)).cr ⟨n, T, o.eq (e _ 8 (by decide)) (e _ 9 (by decide)), hw⟩ (nm.eq (e _ 10 (by decide))).l
  · rw [c_PT, lc_32 wk okPT] at c1
    rw [ks_14, ks_le (by omega) (by omega)] at c2
    exact ⟨⟨0, rfl, Or.inr ⟨rfl, _, by rw [st, if_pos c1, if_neg (by omega)], new 1 (by decide)⟩⟩, fun j hj => e _ j (by omega)⟩
  · rw [c_LN, lc_32 wk okLN] at c
    rw [c_PT, lc_32 wk okPT] at c1
    exact ⟨⟨1, rfl, Or.inl ⟨by decide, by rw [st, if_neg c1, if_neg c], r.cr ⟨n, T, o, hw⟩ nm.l⟩⟩, fun _ _ => rfl⟩
  · rw [c_LN, lc_32 wk okLN] at c
    exact ⟨⟨0, rfl, Or.inr ⟨rfl, _, by rw [st, if_neg (by rw [c]; decide), if_pos c], new 2 (by decide)⟩⟩, fun j hj => e _ j (by omega)⟩
theorem p_step_nm {aw : Nat} (k2 : tkd t f p = 2) (a4 : aw ≠ 4) (a0 : aw ≠ 0) (w1 : ¬ (twd t f p = wPT ∨ twd t f p = wLN)) : p_step t f (aw, p, n, T, N, rows, fp) = (if aw = 1 then (if twd t f p ∈ N then p_bad t f p 2 else .inr (4, taf t f p, n + 1, g_add n T 0, N ++ [twd t f p], rows, fp))
    else if twd t f p ∉ N then p_bad t f p 2
    else if aw = 2 then .inr (3, taf t f p, n, T, N, rows, ixw N (twd t f p))
    else if ixw N (twd t f p) = fp ∨ (T fp).testBit (ixw N (twd t f p)) = true then p_bad t f p 2
    else .inr (4, taf t f p, n, g_flip T fp (ixw N (twd t f p)), N, rows, fp)) := by
  dsimp only [p_step]
  rw [if_neg (by omega), if_neg (by omega), if_neg a4, if_neg (by omega), if_neg a0, if_neg w1]
theorem s_takeName (r : rdm M G (lN (vl 32 (twd t f p)))) (o : na M 8 n T) (hw : gw n T) (nm : rnm M N) (g3 : G 3 = nI rows) (g8 : G 8 = nI (taf t f p)) (k2 : tkd t f p = 2) (hN : N.length = n) (hk : ∀ w, w ∈ N → okw w) (n14 : n < 14) (w1 : ¬ (twd t f p = wPT ∨ twd t f p = wLN)) : mm_S 3 mX6_takeName 0 0 [.ref 7] M (tkO t f (1, p, n, T, N, rows, fp) M) := by
  have hn := hw.1
  have wk := twd_ok k2
  have st := p_step_nm (n := n) (T := T) (N := N) (rows := rows) (fp := fp) (aw := 1) k2 (by decide) (by decide) w1
  rw [if_pos rfl] at st
  refine mm_S.of rfl rfl (Nat.le_of_ble_eq_true rfl) tkO_nd (bX6_takeName_0 r.1.rc (mm_Call.of (s_toldAs r o nm hn hN hk wk) (by decide) ?_))
  obtain ⟨g, m1, m2⟩ := id nm
  rintro _ M1 ⟨rfl, ⟨q1, rfl⟩ | ⟨q1, rfl⟩⟩
  · rw [if_neg q1] at st
    refine bX6_takeName_4 o.1 m1 r.1 r.2.1 r.2.2.2 (by decide) (by decide) (by decide) (fun _ c => absurd c (nI_pos (by omega))) (fun _ _ c => ?_) (fun _ _ _ => ?_) (fun c => absurd rfl c)
    · rw [show Int32.ofNat 14 = nI 14 from rfl, ks_le (by omega) (by omega)] at c
      omega
    rw [nI_clamp (by omega)]
    have e1 : ∀ j, j ≠ 10 → mm_up M1 10 (mm_aJ 14 (vp_updL g n (lN (vl 32 (twd t f p))))) j = M1 j := fun j hj => mm_up_n hj
    have m3 : mm_at (mm_up M1 10 (mm_aJ 14 (vp_updL g n (lN (vl 32 (twd t f p)))))) 10 (mm_aJ 14 (vp_updL g n (lN (vl 32 (twd t f p))))) := mm_at.s m1.1
    generalize mm_up M1 10 (mm_aJ 14 (vp_updL g n (lN (vl 32 (twd t f p))))) = M2 at e1 m3 ⊢
    have o2 := o.eq (e1 8 (by decide)) (e1 9 (by decide))
    refine mm_Call.eq (s_add (S := 0) o2 hw n14 (Nat.pow_pos (by decide))) (by decide) ?_
    have e2 : ∀ j, j ≠ 8 → j ≠ 9 → mm_net M2 8 (n + 1) (g_add n T 0) j = M2 j := fun j h1 h2 => mm_net_n h1 h2
    have o3 : na (mm_net M2 8 (n + 1) (g_add n T 0)) 8 (n + 1) (g_add n T 0) := mm_net_na (by decide)
    generalize mm_net M2 8 (n + 1) (g_add n T 0) = M3 at e2 o3 ⊢
    have r3 := r.eq (M' := M3) ((e2 7 (by decide) (by decide)).trans (e1 7 (by decide)))
    have e3 : ∀ j, j ≠ 7 → mm_upF M3 7 4 (.int 4) j = M3 j := fun j hj => mm_upF_n hj
    refine bX6_takeName_49 (r3.2.2.1 4 (by decide)) ⟨⟨0, rfl, Or.inr ⟨rfl, _, st, ⟨_, _, r3.set 4 4 (by decide), ?_, ?_, fun q => (by cases q), ?_⟩, o3.eq (e3 8 (by decide)) (e3 9 (by decide)), ?_⟩⟩, fun j hj => (e3 j (by omega)).trans ((e2 j (by omega) (by omega)).trans (e1 j (by omega)))⟩
    · rw [pk_un (by decide), g3]
    · rw [pk_us]
      rfl
    · rw [pk_un (by decide), g8]
    · refine ⟨_, (m3.eq ((e3 10 (by decide)).trans (e2 10 (by decide) (by decide)))), fun i w hi => ?_⟩
      by_cases u : i < N.length
      · rw [List.getElem?_append_left u] at hi
        show vp_updL g n _ i = _
        unfold vp_updL
        rw [if_neg (by omega)]
        exact m2 i w hi
      · have hl := (List.getElem?_eq_some_iff.mp hi).1
        rw [List.length_append, List.length_singleton] at hl
        obtain rfl : i = N.length := by omega
        rw [List.getElem?_append_right (Nat.le_refl _), Nat.sub_self] at hi
        have : twd t f p = w := Option.some.inj hi
        unfold vp_updL
        rw [if_pos hN, this]
  · rw [if_pos q1] at st
    obtain ⟨x1, x2, x3⟩ := ixw_ex q1
    refine bX6_takeName_4 o.1 m1 r.1 r.2.1 r.2.2.2 (by decide) (by decide) (by decide) (fun c => absurd c (nI_m1 (by omega))) (fun c => absurd c (nI_m1 (by omega))) (fun c => absurd c (nI_m1 (by omega))) (fun _ => ⟨⟨2, rfl, Or.inl ⟨by decide, st, r.cr ⟨n, T, o, hw⟩ nm.l⟩⟩, fun _ _ => rfl⟩)
theorem s_takePoint {aw : Nat} (r : rdm M G (lN (vl 32 (twd t f p)))) (o : na M 8 n T) (hw : gw n T) (nm : rnm M N) (g3 : G 3 = nI rows) (g4 : G 4 = nI aw) (g5 : aw = 3 → G 5 = nI fp) (g8 : G 8 = nI (taf t f p)) (k2 : tkd t f p = 2) (hN : N.length = n) (hk : ∀ w, w ∈ N → okw w) (ha : aw = 2 ∨ aw = 3) (hfp : aw = 3 → fp < n) (w1 : ¬ (twd t f p = wPT ∨ twd t f p = wLN)) : mm_S 2 mX6_takePoint 0 0 [.ref 7] M (tkO t f (aw, p, n, T, N, rows, fp) M) := by
  have hn := hw.1
  have wk := twd_ok k2
  have st := p_step_nm (n := n) (T := T) (N := N) (rows := rows) (fp := fp) (aw := aw) k2 (by omega) (by omega) w1
  rw [if_neg (by omega)] at st
  refine mm_S.of rfl rfl (Nat.le_of_ble_eq_true rfl) tkO_nd (bX6_takePoint_0 r.1.rc (mm_Call.of (s_toldAs r o nm hn hN hk wk) (by decide) ?_))
  have f4 := r.2.2.1 4 (by decide)
  have f5 := r.2.2.1 5 (by decide)
  have a2 : (G 4 = 2) ↔ aw = 2 := by rw [g4, show (2 : Int32) = nI 2 from rfl, ks_eqI (by omega) (by omega)]
  rintro _ M1 ⟨rfl, ⟨q1, rfl⟩ | ⟨q1, rfl⟩⟩
  · rw [if_pos q1] at st
    exact bX6_takePoint_4 o.1 o.2 f4 f5 r.1 (by decide) (by decide) (by decide) (fun c => absurd rfl c) (fun c => absurd rfl c) (fun c => absurd rfl c) (fun c => absurd rfl c) (fun _ => ⟨⟨2, rfl, Or.inl ⟨by decide, st, r.cr ⟨n, T, o, hw⟩ nm.l⟩⟩, fun _ _ => rfl⟩)
  · rw [if_neg (fun q => q q1)] at st
    obtain ⟨x1, x2, x3⟩ := ixw_ex q1
    generalize ixw N (twd t f p) = i at st x2 ⊢
    have il : i < n := by omega
    refine bX6_takePoint_4 o.1 o.2 f4 f5 r.1 (by decide) (by decide) (by decide) (fun _ c c1 => ?_) (fun _ c c1 c2 => ?_) (fun _ c c1 c2 => ?_) (fun _ c => ?_) (fun c => absurd c (nI_m1 (by omega)))
    · rw [a2] at c
      have a3 : aw = 3 := by omega
      rw [g5 a3, ks_eqI (by omega) (by have := hfp a3; omega)] at c1
      rw [if_neg c, if_pos (Or.inl c1)] at st
      exact ⟨⟨2, rfl, Or.inl ⟨by decide, st, r.cr ⟨n, T, o, hw⟩ nm.l⟩⟩, fun _ _ => rfl⟩
    · rw [a2] at c
      have a3 : aw = 3 := by omega
      have hf := hfp a3
      have hTf := gw_ok hw fp
      rw [g5 a3, ks_eqI (by omega) (by omega)] at c1
      rw [g5 a3, ks_at (by decide) (by omega), ks_has (by omega) (by omega), ks_b0] at c2
      rw [if_neg c, if_neg (fun q => q.elim c1 c2)] at st
      rw [g5 a3, g_flip_f (by omega) (by omega) (Ne.symm c1)]
      have e1 : ∀ j, j ≠ 9 → mm_up M1 9 (mm_aI 14 (gt_f (g_flip T fp i))) j = M1 j := fun j hj => mm_up_n hj
      have o2 : na (mm_up M1 9 (mm_aI 14 (gt_f (g_flip T fp i)))) 8 n (g_flip T fp i) := ⟨o.1.n (by decide), mm_at.s o.2.1⟩
      generalize mm_up M1 9 (mm_aI 14 (gt_f (g_flip T fp i))) = M2 at e1 o2 ⊢
      have r2 := r.eq (e1 7 (by decide))
      have e2 : ∀ j, j ≠ 7 → mm_upF M2 7 4 (.int 4) j = M2 j := fun j hj => mm_upF_n hj
      refine ⟨⟨0, rfl, Or.inr ⟨rfl, _, st, ⟨_, _, r2.set 4 4 (by decide), ?_, ?_, fun q => (by cases q), ?_⟩, o2.eq (e2 8 (by decide)) (e2 9 (by decide)), nm.eq ((e2 10 (by decide)).trans (e1 10 (by decide)))⟩⟩, fun j hj => (e2 j (by omega)).trans (e1 j (by omega))⟩
      · rw [pk_un (by decide), g3]
      · rw [pk_us]
        rfl
      · rw [pk_un (by decide), g8]
    · rw [a2] at c
      have a3 : aw = 3 := by omega
      have hf := hfp a3
      have hTf := gw_ok hw fp
      rw [g5 a3, ks_at (by decide) (by omega), ks_has (by omega) (by omega), ks_b0, Classical.not_not] at c2
      rw [if_neg c, if_pos (Or.inr c2)] at st
      exact ⟨⟨2, rfl, Or.inl ⟨by decide, st, r.cr ⟨n, T, o, hw⟩ nm.l⟩⟩, fun _ _ => rfl⟩
    · rw [a2] at c
      rw [if_pos c] at st
      have e2 : ∀ j, j ≠ 7 → mm_upF (mm_upF M1 7 5 (.int (nI i))) 7 4 (.int 3) j = M1 j := fun j hj => (mm_upF_n hj).trans (mm_upF_n hj)
      refine ⟨⟨0, rfl, Or.inr ⟨rfl, _, st, ⟨_, _, (r.set 5 (nI i) (by decide)).set 4 3 (by decide), ?_, ?_, fun _ => ?_, ?_⟩, o.eq (e2 8 (by decide)) (e2 9 (by decide)), nm.eq (e2 10 (by decide))⟩⟩, fun j hj => e2 j (by omega)⟩
      · rw [pk_un (by decide), pk_un (by decide), g3]
      · rw [pk_us]
        rfl
      · rw [pk_un (by decide), pk_us]
      · rw [pk_un (by decide), pk_un (by decide), g8]
theorem s_takeC {aw : Nat} (hok : p_ok t (aw, p, n, T, N, rows, fp)) (r : rdm M G w) (o : na M 8 n T) (nm : rnm M N) (g3 : G 3 = nI rows) (g4 : G 4 = nI aw) (g5 : aw = 3 → G 5 = nI fp) (g6 : G 6 = tcd (tkd t f p)) (g8 : G 8 = nI (taf t f p)) (gw' : tkd t f p = 2 → w = lN (vl 32 (twd t f p))) (h0 : tkd t f p ≠ 0) : mm_S 4 mX6_take 0 0 [.ref 7] M (tkO t f (aw, p, n, T, N, rows, fp) M) := by
  obtain ⟨hp, hw, hN, hk, h4, h14, hfp⟩ := hok
  have hn := hw.1
  have a4 : (G 4 = 4) ↔ aw = 4 := by rw [g4, show (4 : Int32) = nI 4 from rfl, ks_eqI (by omega) (by omega)]
  have a0 : (G 4 = 0) ↔ aw = 0 := by rw [g4, ks_eq0 (by omega)]
  have a1 : (G 4 = 1) ↔ aw = 1 := by rw [g4, show (1 : Int32) = nI 1 from rfl, ks_eqI (by omega) (by omega)]
  have t2 : (G 6 = 2) ↔ tkd t f p = 2 := by rw [g6, tcd_2]
  have bad1 : p_step t f (aw, p, n, T, N, rows, fp) = p_bad t f p 1 → tkO t f (aw, p, n, T, N, rows, fp) M (some (.int 1)) M := fun e => ⟨⟨1, rfl, Or.inl ⟨by decide, e, r.cr ⟨n, T, o, hw⟩ nm.l⟩⟩, fun _ _ => rfl⟩
  refine mm_S.of rfl rfl (Nat.le_of_ble_eq_true rfl) tkO_nd (bX6_take_0 (r.2.2.1 4 (by decide)) (r.2.2.1 6 (by decide)) r.2.2.2 (fun c c1 c2 c3 => bad1 ?_) (fun c c1 c2 c3 c4 c5 => ?_) (fun c c1 c2 c3 c4 c5 => ?_) (fun c c1 c2 c3 c4 => bad1 ?_) (fun c c1 c2 => ?_) (fun c c1 => bad1 ?_) (fun c => ?_))
  · rw [a4] at c
    rw [t2] at c1
    rw [a0] at c2
    rw [gw' c1, c_PT, lc_32 (twd_ok c1) okPT] at c3
    dsimp only [p_step]
    rw [if_neg h0, if_neg (by omega), if_neg c, if_neg (by omega), if_neg c2, if_pos (Or.inl c3)]
  · rw [a4] at c
    rw [t2] at c1
    rw [a0] at c2
    rw [gw' c1, c_PT, lc_32 (twd_ok c1) okPT] at c3
    rw [gw' c1, c_LN, lc_32 (twd_ok c1) okLN] at c4
    rw [a1] at c5
    have e := gw' c1
    subst e
    exact mm_Call.of (s_takePoint r o hw nm g3 g4 g5 g8 c1 hN hk (by omega) hfp (fun q => q.elim c3 c4)) (by decide) fun r9 M9 h9 => by
      obtain ⟨⟨c, rfl, h9'⟩, h9''⟩ := h9
      exact bX6_take_78 ⟨⟨c, rfl, h9'⟩, h9''⟩
  · rw [a4] at c
    rw [t2] at c1
    rw [a0] at c2
    rw [gw' c1, c_PT, lc_32 (twd_ok c1) okPT] at c3
    rw [gw' c1, c_LN, lc_32 (twd_ok c1) okLN] at c4
    rw [a1] at c5
    have e := gw' c1
    subst e
    subst c5
    exact mm_Call.of (s_takeName r o hw nm g3 g8 c1 hN hk (h14 rfl) (fun q => q.elim c3 c4)) (by decide) fun r9 M9 h9 => by
      obtain ⟨⟨c, rfl, h9'⟩, h9''⟩ := h9
      exact bX6_take_71 (bX6_take_78 ⟨⟨c, rfl, h9'⟩, h9''⟩)
  · rw [a4] at c
    rw [t2] at c1
    rw [a0] at c2
    rw [gw' c1, c_LN, lc_32 (twd_ok c1) okLN] at c4
    dsimp only [p_step]
    rw [if_neg h0, if_neg (by omega), if_neg c, if_neg (by omega), if_neg c2, if_pos (Or.inr c4)]
  · rw [t2] at c1
    rw [a0] at c2
    have e := gw' c1
    subst e
    subst c2
    exact mm_Call.of (s_takeRowWord r o hw nm g3 g8 c1) (by decide) fun r9 M9 h9 => by
      obtain ⟨⟨c, rfl, h9'⟩, h9''⟩ := h9
      exact bX6_take_34 ⟨⟨c, rfl, h9'⟩, h9''⟩
  · rw [a4] at c
    rw [t2] at c1
    dsimp only [p_step]
    rw [if_neg h0]
    by_cases k1 : tkd t f p = 1
    · rw [if_pos k1]
    · have : tkd t f p ≤ 3 := by
        unfold tkd pif
        repeat' (first | omega | split)
      rw [if_neg k1, if_neg c, if_pos (by omega)]
  · rw [a4] at c
    subst c
    exact mm_Call.of (s_takeSign r o hw nm g3 g6 g8 h0) (by decide) fun r9 M9 h9 => by
      obtain ⟨⟨c, rfl, h9'⟩, h9''⟩ := h9
      exact bX6_take_12 ⟨⟨c, rfl, h9'⟩, h9''⟩
end RC
