theorem oM_net {M : mm_Mem} {σ : g_st} (h : MS M σ) : OM 4 mX10_net [] M (o_net σ) := by
  obtain ⟨n0, T0, L, K, t, f, fk⟩ := σ
  obtain ⟨th, h⟩ := h
  obtain ⟨⟨F, w, m1, m2, m3, m4, m5⟩, h3, h4, ⟨h5, h5'⟩, ⟨C, h6, h6'⟩, h7, h8⟩ := id h
  have ht : t ≤ 740 := h5'
  have f2 := m1.i 2 (by decide)
  rw [m3] at f2
  refine mm_S.of rfl rfl (Nat.le_of_ble_eq_true rfl) ndM (bX10_net_0 (m1.i 0 (by decide)) f2 (m1.i 3 (by decide)) (m1.i 7 (by decide)) (m1.i 4 (by decide)) ?_)
  have n1 := ((((m1.set 0 0 (by decide)).set 3 (nI t) (by decide)).set 2 0 (by decide)).set 7 0 (by decide)).set 4 0 (by decide)
  have e1 : ∀ j, j ≠ 31 → mm_upF (mm_upF (mm_upF (mm_upF (mm_upF M 31 0 (.int 0)) 31 3 (.int (nI t))) 31 2 (.int 0)) 31 7 (.int 0)) 31 4 (.int 0) j = M j := fun j hj => ((((mm_upF_n hj).trans (mm_upF_n hj)).trans (mm_upF_n hj)).trans (mm_upF_n hj)).trans (mm_upF_n hj)
  generalize mm_upF (mm_upF (mm_upF (mm_upF (mm_upF M 31 0 (.int 0)) 31 3 (.int (nI t))) 31 2 (.int 0)) 31 7 (.int 0)) 31 4 (.int 0) = M1 at n1 e1 ⊢
  have h1 : MT M1 0 (n0, T0, L, K, 0, f, 0) := ⟨⟨_, _, n1, by rw [pk_un (by decide), pk_un (by decide), pk_un (by decide), pk_un (by decide), pk_us], by rw [pk_un (by decide), pk_un (by decide), pk_us]; rfl, by rw [pk_un (by decide), pk_us], by rw [pk_un (by decide), pk_un (by decide), pk_un (by decide), pk_un (by decide), pk_un (by decide)]; exact m5⟩, h3.eq (e1 33 (by decide)), h4, ⟨mm_at.eq h5 (e1 32 (by decide)), Nat.zero_le _⟩, ⟨C, h6.eq (e1 36 (by decide)), h6'⟩, h7.eq (e1 35 (by decide)) (e1 43 (by decide)), h8.eq fun j _ _ _ _ _ => e1 j (by omega)⟩
  have k3 : mm_fd M1 31 10 3 (.int (nI t)) := by
    have := n1.i 3 (by decide)
    rwa [pk_un (by decide), pk_un (by decide), pk_un (by decide), pk_us] at this
  have k4 : mm_fd M1 31 10 4 (.int (nI 0)) := by
    have := n1.i 4 (by decide)
    rwa [pk_us] at this
  have rc : mm_rc M1 31 10 := (h1.fdr 10 33 (by decide)).rc
  obtain ⟨nR, TR, a1, a2⟩ := h1.rn 34 (by decide)
  clear n1 f2
  rw [show M1 = mm_up M1 34 (mm_aI 15 (gk_f nR TR)) from (mm_up_id a1.2).symm, show (0 : Int32) = nI 0 from rfl]
  refine fld (s := 0) (n := 15) (G := fun k X => mm_X mX10_net 4 none (0, 0) 32 [.ref 31, .int (nI 0), .int (nI k)] [] (mm_up M1 34 (mm_aI 15 X)) _) (I := fun k X => ∀ i, X i = if i < k then 0 else gk_f nR TR i) (Nat.zero_le 15) (fun i => by rw [if_neg (Nat.not_lt_zero i)]) ?_
  intro k X _ hk hI ih
  have oX : mm_at (mm_up M1 34 (mm_aI 15 X)) 34 (mm_aI 15 X) := mm_at.s a1.1
  refine bX10_net_32 oX ((h1.fdr 11 34 (by decide)).o (by decide)) (rc.o (by decide)) (fun c1 => ?_) (fun c1 => ?_) (fun c1 => ?_)
  rotate_left
  · rw [ks_15, ks_le (by decide) (by omega)] at c1
    exact vp_in_nI (by omega) (by decide)
  · rw [ks_15, ks_le (by decide) (by omega)] at c1
    rw [nI_clamp (by omega), nI_1, mm_up_up]
    refine ih _ (by omega) fun i => ?_
    by_cases u : i = k
    · subst u
      rw [pk_us, if_pos (by omega)]
    · rw [pk_un u, hI i]
      by_cases v : i < k
      · rw [if_pos v, if_pos (by omega)]
      · rw [if_neg v, if_neg (by omega)]
  rw [ks_15, ks_le (by decide) (by omega)] at c1
  obtain rfl : k = 15 := by omega
  have eX : X = gk_f 0 fun _ => 0 := by
    funext i
    rw [hI i]
    unfold gk_f
    by_cases e : i < 15
    · rw [if_pos e]
      by_cases e0 : i = 0 <;> simp [e0] <;> rfl
    · have := a2.1
      rw [if_neg e, if_neg (by omega), if_neg (by omega), a2.2.2.1 _ (by omega)]
  rw [eX]
  have h2 := h1.rnet (a := 34) (by decide) (gw_0 (n := 0) (by decide))
  have o2 : ra (mm_up M1 34 (mm_aI 15 (gk_f 0 fun _ => 0))) 34 0 (fun _ => 0) := mm_at.s a1.1
  have e2 : ∀ j, j ≠ 34 → mm_up M1 34 (mm_aI 15 (gk_f 0 fun _ => 0)) j = M1 j := fun j hj => mm_up_n hj
  have q3 : mm_fd (mm_up M1 34 (mm_aI 15 (gk_f 0 fun _ => 0))) 31 10 3 (.int (nI t)) := k3.o (by decide)
  have q4 : mm_fd (mm_up M1 34 (mm_aI 15 (gk_f 0 fun _ => 0))) 31 10 4 (.int (nI 0)) := k4.o (by decide)
  clear ih oX hI eX
  generalize mm_up M1 34 (mm_aI 15 (gk_f 0 fun _ => 0)) = M2 at h2 o2 e2 q3 q4 ⊢
  obtain ⟨g42, o42⟩ := h2.msc.2.2
  have ok0 : p_ok t (0, 0, 0, fun _ => 0, [], 0, 0) := ⟨Nat.zero_le t, gw_0 (by decide), rfl, fun w hw => (by cases hw), by decide, fun q => (by cases q), fun q => (by cases q)⟩
  refine mm_Call.of (s_nx (s := (0, 0, 0, fun _ => 0, [], 0, 0)) h2 q3 q4 ht (Nat.zero_le t) o2 ⟨g42, o42, fun i w hi => (by cases hi)⟩) (by decide) ?_
  rintro _ M3 ⟨rfl, l3, e3⟩
  have fr3 : ∀ j, j < 31 ∨ 53 < j → M3 j = M j := fun j hj => (e3 j (by omega)).trans ((e2 j (by omega)).trans (e1 j (by omega)))
  have out : ∀ {M4 : mm_Mem} {x : Int32}, mbd M4 0 n0 T0 L K f (p_all t f) → mm_fd M4 31 10 8 (.int x) → fM M M4 → some (Value.int (-1 - x)) = some (.int (o_net (n0, T0, L, K, t, f, fk)).1) ∧ MS M4 (o_net (n0, T0, L, K, t, f, fk)).2 ∧ fM M M4 := by
    rintro M4 x ⟨y, y1, y2, y3, y4⟩ hx fr
    have : x = y := by
      obtain ⟨-, fs, g1, g2⟩ := hx
      obtain ⟨-, fs', g3, g4⟩ := y1
      rw [g1] at g3
      cases g3
      rw [g2] at g4
      exact Value.int.inj (Option.some.inj g4)
    subst this
    dsimp only [o_net]
    rw [y3]
    exact ⟨by rw [y2], ⟨_, y4⟩, fr⟩
  have main : ∀ m M4 s, t < s.2.1 + m → lsq M4 0 n0 T0 L K t f s → p_ok t s → p_fin t f (p_all t f) s → s.1 = 0 → fM M M4 → mm_X mX10_net 4 none (0, 0) 55 [.ref 31, .int (nI s.2.2.2.2.2.1), .null] [] M4 (fun r M' => r = some (.int (o_net (n0, T0, L, K, t, f, fk)).1) ∧ MS M' (o_net (n0, T0, L, K, t, f, fk)).2 ∧ fM M M') := by
    intro m
    induction m with
    | zero =>
      rintro M4 ⟨aw, p, n, T, N, rows, fp⟩ hm l4 ok4 fin4 h0 fr4
      have : p ≤ t := ok4.1
      dsimp only at hm
      omega
    | succ m ih =>
      rintro M4 ⟨aw, p, n, T, N, rows, fp⟩ hm l4 ok4 fin4 h0 fr4
      dsimp only at h0 hm ⊢
      subst h0
      have hp : p ≤ t := ok4.1
      have hw : gw n T := ok4.2.1
      have k3' := tkd_3 (t := t) (f := f) (p := p)
      obtain ⟨x9, k9, hx9⟩ := l4.wd
      obtain ⟨b1, b2, b3, b4⟩ := id l4
      have o4 : ra M4 34 n T := b3
      have t0' : nI (tkd t f p) = 0 ↔ tkd t f p = 0 := ks_eq0 (by omega)
      have t2' : nI (tkd t f p) = 2 ↔ tkd t f p = 2 := by rw [show (2 : Int32) = nI 2 from rfl, ks_eqI (by omega) (by omega)]
      -- behind a row's words
      have tail : ∀ {r : Option Value} {M5 : mm_Mem}, rdO M4 0 n0 T0 L K t f (p_all t f) p 4 rows r M5 → mm_X mX10_net 4 none (0, 0) 95 [.ref 31, .int (nI rows), .null] (r.toList ++ []) M5 (fun r M' => r = some (.int (o_net (n0, T0, L, K, t, f, fk)).1) ∧ MS M' (o_net (n0, T0, L, K, t, f, fk)).2 ∧ fM M M') := by
        rintro r M5 ⟨⟨rfl, c1⟩ | ⟨rfl, s5, c1, c2, c3, c4, c5, c6⟩, fr5⟩
        · have fr5' : fM M M5 := fun j hj => (fr5 j (by omega) (by omega) (by omega)).trans (fr4 j hj)
          obtain ⟨x, x1, -⟩ := id c1
          exact bX10_net_95 x1 (fun _ => out c1 x1 fr5') (fun q => absurd rfl q)
        · have fr5' : fM M M5 := fun j hj => (fr5 j (by omega) (by omega) (by omega)).trans (fr4 j hj)
          obtain ⟨x8, k8⟩ := c1.1.fi 8 (by decide)
          refine bX10_net_95 k8 (fun q => absurd q (by decide)) (fun _ => mm_Call.of (s_readEnd ht c1 c2 c3 c4) (by decide) ?_)
          rintro r M6 ⟨⟨rfl, d1⟩ | ⟨rfl, s6, d1, d2, d3, d4, d5, d6⟩, fr6⟩
          · have fr6' : fM M M6 := fun j hj => (fr6 j (by omega) (by omega) (by omega)).trans (fr5' j hj)
            obtain ⟨x, x1, -⟩ := id d1
            exact bX10_net_104 x1 (fun q => absurd rfl q) (fun _ => out d1 x1 fr6')
          · have fr6' : fM M M6 := fun j hj => (fr6 j (by omega) (by omega) (by omega)).trans (fr5' j hj)
            obtain ⟨y8, j8⟩ := d1.1.fi 8 (by decide)
            refine bX10_net_104 j8 (fun _ => ?_) (fun q => absurd q (by decide))
            have := ih M6 s6 (by omega) d1 d2 d3 d4 fr6'
            rw [d6, c6] at this
            rw [nI_1]
            exact this
      refine bX10_net_55 b2.2.2.1 (b1.fdr 11 34 (by decide)) (b1.fdr 10 33 (by decide)) k9 (by decide) (fun c => ?_) (fun c c1 c2 => ?_) (fun c c1 c2 => ?_) (fun c c1 => ?_)
      · rw [t0'] at c
        have e := p_fin_l fin4 (by show p ≤ 740; omega) (show p_step t f (0, p, n, T, N, rows, fp) = .inl (nI rows, 0, some (n, T)) from by
          dsimp only [p_step]
          rw [if_pos c, if_pos rfl])
        obtain ⟨on, -⟩ := b1.now
        refine mm_Call.eq (s_copyM (s := 0) (t := 0) o4 on (by decide) gk_at0 (by decide) (by decide) (by decide) (by decide)) (by decide) ?_
        rw [sl_row h4 hw]
        have h5 := b1.net hw
        have e5 : ∀ j, j ≠ 33 → mm_up M4 33 (mm_aI 15 (gk_f n T)) j = M4 j := fun j hj => mm_up_n hj
        generalize mm_up M4 33 (mm_aI 15 (gk_f n T)) = M5 at h5 e5 ⊢
        obtain ⟨x21, k21⟩ := h5.fi 21 (by decide)
        refine bX10_net_133 k21 ⟨?_, ?_, fun j hj => (mm_upF_n (by omega)).trans ((e5 j (by omega)).trans (fr4 j hj))⟩
        · dsimp only [o_net]
          rw [e]
        · dsimp only [o_net]
          rw [e]
          exact ⟨_, h5.fg⟩
      all_goals
        rw [t0'] at c
      · have e : p_step t f (0, p, n, T, N, rows, fp) = p_bad t f p (if tkd t f p = 1 then 1 else 1) := by
          rw [show (if tkd t f p = 1 then (1 : Int32) else 1) = 1 from by split <;> rfl]
          dsimp only [p_step]
          rw [if_neg c]
          by_cases k1 : tkd t f p = 1
          · rw [if_pos k1]
          rw [if_neg k1, if_neg (by decide)]
          by_cases k3 : tkd t f p = 3
          · rw [if_pos k3]
          rw [if_neg k3, if_pos rfl]
          have k2 : tkd t f p = 2 := by omega
          have hx := hx9 k2
          subst hx
          rw [show tkd t f ((0, p, n, T, N, rows, fp) : p_st).2.1 = tkd t f p from rfl, k2, show nI 2 = (2 : Int32) from rfl, q_ptw (twd_ok k2), ks_b0] at c1
          rw [show tkd t f ((0, p, n, T, N, rows, fp) : p_st).2.1 = tkd t f p from rfl, k2, show nI 2 = (2 : Int32) from rfl, q_lnw (twd_ok k2), ks_b0] at c2
          rw [if_neg c1, if_neg c2]
        refine mm_Call.of (s_bad l4 fin4 (by show p ≤ 740; omega) (c := 1) e) (by decide) ?_
        rintro _ M5 ⟨rfl, d1, d2⟩
        have fr5' : fM M M5 := fun j hj => (d2 j (by omega) (by omega) (by omega)).trans (fr4 j hj)
        obtain ⟨x, x1, -⟩ := id d1
        exact bX10_net_95 x1 (fun _ => out d1 x1 fr5') (fun q => absurd rfl q)
      · have k2 : tkd t f p = 2 := by
          refine Classical.byContradiction fun q => c2 ?_
          unfold qX10_isLineWord
          rw [if_neg (fun z => q (t2'.mp z))]
        have hx := hx9 k2
        subst hx
        rw [show tkd t f ((0, p, n, T, N, rows, fp) : p_st).2.1 = tkd t f p from rfl, k2, show nI 2 = (2 : Int32) from rfl, q_lnw (twd_ok k2), ks_b0, Classical.not_not] at c2
        refine mm_Call.of (s_readLine ht l4 ok4 fin4 k2 c2) (by decide) ?_
        intro r M5 hr
        have := tail hr
        rcases hr with ⟨⟨rfl, -⟩ | ⟨rfl, -⟩, -⟩
        · exact bX10_net_87 this
        · exact bX10_net_87 this
      · have k2 : tkd t f p = 2 := by
          refine Classical.byContradiction fun q => c1 ?_
          unfold qX10_isPointWord
          rw [if_neg (fun z => q (t2'.mp z))]
        have hx := hx9 k2
        subst hx
        rw [show tkd t f ((0, p, n, T, N, rows, fp) : p_st).2.1 = tkd t f p from rfl, k2, show nI 2 = (2 : Int32) from rfl, q_ptw (twd_ok k2), ks_b0, Classical.not_not] at c1
        refine mm_Call.of (s_readPoint ht l4 ok4 fin4 k2 c1) (by decide) ?_
        intro r M5 hr
        have := tail hr
        rcases hr with ⟨⟨rfl, -⟩ | ⟨rfl, -⟩, -⟩
        · exact bX10_net_73 this
        · exact bX10_net_73 this
  exact main (t + 1) M3 (0, 0, 0, fun _ => 0, [], 0, 0) (by show t < 0 + (t + 1); omega) l3 ok0 p_fin_0 rfl fr3
