/-! NET of the class -/
noncomputable def o_net : g_st → Int32 × g_st
  | (n, T, L, K, t, f, fk) => ((p_all t f).1, match (p_all t f).2.2 with
    | some q => (q.1, q.2, [], K, 0, f, (p_all t f).2.1)
    | none => (n, T, L, K, 0, f, (p_all t f).2.1))
def rdR (R : p_rs) (M : mm_Mem) : Prop := mm_fd M 7 6 2 (.int R.2.1) ∧ cr M ∧ ((R.2.1 = 0 ∧ ∃ q, R.2.2 = some q ∧ na M 8 q.1 q.2 ∧ gw q.1 q.2) ∨ (R.2.1 ≠ 0 ∧ R.2.2 = none))
theorem s_read {M : mm_Mem} {t : Nat} {f : Nat → Int32} (h : ct M t f) (hc : cr M) : mm_S 6 mX6_read 0 0 [.ref 7, .ref 5] M (fun r M' => r = some (.int (p_all t f).1) ∧ rdR (p_all t f) M' ∧ ∀ j, j < 7 ∨ 10 < j → M' j = M j) := by
  obtain ⟨c0, c1, c2, ⟨c3, c3'⟩, ⟨n0, T0, c4, c4'⟩, g0, c5⟩ := id hc
  have ht := h.2.2
  refine mm_S.of rfl rfl (Nat.le_of_ble_eq_true rfl) (fun r M' h x e => by rw [h.1] at e; cases e) (bX6_read_0 c4.1 c0 (mm_Call.eq (s_clear (s := 0) c4 (gw_z c4') (by decide)) (by decide) ?_))
  have e1 : ∀ j, j ≠ 8 → j ≠ 9 → mm_net M 8 0 (fun _ => 0) j = M j := fun j j1 j2 => mm_net_n j1 j2
  have o1 : na (mm_net M 8 0 (fun _ => 0)) 8 0 (fun _ => 0) := mm_net_na (by decide)
  generalize mm_net M 8 0 (fun _ => 0) = M1 at e1 o1 ⊢
  have e17 := e1 7 (by decide) (by decide)
  have r1 : ∃ G, rdm M1 G c3 := by
    have : ∀ k, ∃ x, k ∈ rdi → mm_fd M 7 6 k (.int x) := fun k => by
      by_cases q : k ∈ rdi
      · obtain ⟨x, hx⟩ := c2 k q
        exact ⟨x, fun _ => hx⟩
      · exact ⟨0, fun w => absurd w q⟩
    exact ⟨fun k => Classical.choose (this k), c0.eq e17, c1.eq e17, fun k hk => (Classical.choose_spec (this k) hk).eq e17, c3'.eq e17⟩
  obtain ⟨G, r1⟩ := r1
  refine bX6_read_8 (h.1.eq (e1 5 (by decide) (by decide))) (r1.2.2.1 2 (by decide)) (r1.2.2.1 3 (by decide)) (r1.2.2.1 4 (by decide)) (r1.2.2.1 8 (by decide)) (by decide) (by decide) ?_
  have r2 := (((r1.set 2 0 (by decide)).set 3 0 (by decide)).set 4 0 (by decide)).set 8 0 (by decide)
  have e2 : ∀ j, j ≠ 7 → mm_upF (mm_upF (mm_upF (mm_upF M1 7 2 (.int 0)) 7 3 (.int 0)) 7 4 (.int 0)) 7 8 (.int 0) j = M1 j := fun j hj => (((mm_upF_n hj).trans (mm_upF_n hj)).trans (mm_upF_n hj)).trans (mm_upF_n hj)
  generalize mm_upF (mm_upF (mm_upF (mm_upF M1 7 2 (.int 0)) 7 3 (.int 0)) 7 4 (.int 0)) 7 8 (.int 0) = M2 at r2 e2 ⊢
  have st0 : rstt M2 (0, 0, 0, fun _ => 0, [], 0, 0) := ⟨⟨_, _, r2, by rw [pk_un (by decide), pk_un (by decide), pk_us]; rfl, by rw [pk_un (by decide), pk_us]; rfl, fun q => (by cases q), by rw [pk_us]; rfl⟩, o1.eq (e2 8 (by decide)) (e2 9 (by decide)), ⟨g0, c5.eq ((e2 10 (by decide)).trans (e1 10 (by decide) (by decide))), fun i w hi => (by cases hi)⟩⟩
  have ok0 : p_ok t (0, 0, 0, fun _ => 0, [], 0, 0) := ⟨Nat.zero_le t, gw_0 (by decide), rfl, fun w hw => (by cases hw), by decide, fun q => (by cases q), fun q => (by cases q)⟩
  rw [show (0 : Int32) = nI 0 from rfl]
  refine fld (s := 0) (n := 741) (G := fun k (q : mm_Mem) => mm_X mX6_read 6 none (0, 0) 35 [.ref 7, .ref 5, .int (nI t), .int (nI k), .null] [] q _) (v0 := M2) (I := fun k q => ∃ s, rstt q s ∧ p_ok t s ∧ p_fin t f (p_all t f) s ∧ k ≤ s.2.1 ∧ ∀ j, j < 7 ∨ 10 < j → q j = M j) (Nat.zero_le _) ⟨_, st0, ok0, p_fin_0, Nat.le_refl 0, fun j hj => (e2 j (by omega)).trans (e1 j (by omega) (by omega))⟩ ?_
  clear st0 ok0 e2 r2 r1 e17 o1 e1 M2 G M1
  rintro k M1 _ hk ⟨⟨aw, p, n, T, N, rows, fp⟩, ⟨⟨G, w, r1, g3, g4, g5, g8⟩, o1, nm1⟩, ok1, fin1, hkp, e1⟩ ih
  obtain ⟨hp, hw, hN, hkw, h4, h14, hfp⟩ := id ok1
  dsimp only at hkp
  have hn := hw.1
  have h1 : ct M1 t f := h.eq (e1 5 (by decide)) (e1 6 (by decide))
  have f8 := r1.2.2.1 8 (by decide)
  rw [g8] at f8
  have f3 := r1.2.2.1 3 (by decide)
  rw [g3] at f3
  have f4 := r1.2.2.1 4 (by decide)
  rw [g4] at f4
  refine bX6_read_35 h1.1 f3 f8 (fun c => ?_) (fun c => ?_)
  · rw [show (740 : Int32) = nI 740 from rfl, ks_ltI (by omega) (by omega)] at c
    omega
  rw [show (740 : Int32) = nI 740 from rfl, ks_ltI (by omega) (by omega)] at c
  refine mm_Call.eq (s_pastBlanks h1 hp) (by decide) ?_
  have hq := pas_ex (P := isB) (f := f) hp
  have q1 := hq.1
  have q2 := hq.2.1
  -- a fault, or the end
  have crN : ∀ {M' : mm_Mem} {G' : Nat → Int32} {w' : Int64}, rdm M' G' w' → (∀ j, j ≠ 7 → M' j = M1 j) → cr M' := fun {M' G' w'} r e => r.cr ⟨n, T, o1.eq (e 8 (by decide)) (e 9 (by decide)), hw⟩ (nm1.eq (e 10 (by decide))).l
  have go : ¬ (700 < t ∧ 700 ≤ pas isB t f p) → mm_X mX6_read 6 none (0, 0) 76 [.ref 7, .ref 5, .int (nI t), .int (nI k), .int (nI (pas isB t f p))] [] M1 (fun r M' => r = some (.int (p_all t f).1) ∧ rdR (p_all t f) M' ∧ ∀ j, j < 7 ∨ 10 < j → M' j = M j) := by
    intro h7
    have kp : tpl t f p = pas isB t f p := by
      unfold tpl
      rw [if_neg h7]
    refine bX6_read_76 f4 r1.1.rc (fun c1 => ?_) (fun c1 c2 => ?_) (fun c1 c2 => ?_)
    · rw [ks_ltI (by omega) (by omega)] at c1
      have k0 : tkd t f p ≠ 0 := fun q => by
        unfold tkd at q
        rw [if_neg h7, if_neg (by omega)] at q
        unfold pif at q
        repeat' (first | omega | split at q)
      refine mm_Call.of (s_scan h1 r1 hp c1 h7) (by decide) ?_
      rintro _ M3 ⟨rfl, ⟨⟨G3, w3, r3, z6, z8, zk, zw⟩, e3⟩⟩
      have o3 := o1.eq (e3 8 (by decide)) (e3 9 (by decide))
      have nm3 := nm1.eq (e3 10 (by decide))
      refine bX6_read_123 r3.1.rc (mm_Call.of (s_takeC (rows := rows) (fp := fp) (f := f) ok1 r3 o3 nm3 (by rw [zk 3 (by decide) (by decide), g3]) (by rw [zk 4 (by decide) (by decide), g4]) (fun q => by rw [zk 5 (by decide) (by decide), g5 q]) z6 z8 zw k0) (by decide) ?_)
      rintro r M4 ⟨⟨c, rfl, hcs⟩, e4⟩
      have e4' : ∀ j, j < 7 ∨ 10 < j → M4 j = M j := fun j hj => (e4 j hj).trans ((e3 j (by omega)).trans (e1 j hj))
      rcases hcs with ⟨cn, ps, hcr⟩ | ⟨rfl, s', ps, hs'⟩
      · obtain ⟨x2, fx⟩ := hcr.2.2.1 2 (by decide)
        refine mm_putiF (pc := 128) dX6_read_128 fi_X6_22 fx ?_
        have e5 : ∀ j, j ≠ 7 → mm_upF M4 7 2 (.int c) j = M4 j := fun j hj => mm_upF_n hj
        have R := p_fin_l fin1 (by show p ≤ 740; omega) ps
        refine bX6_read_131 fx.s (fun q => absurd q cn) (fun _ => ⟨?_, ?_, fun j hj => (e5 j (by omega)).trans (e4' j hj)⟩)
        · rw [R]
          show _ = some (Value.int (-1 - nI (tpl t f p)))
          rw [kp]
        · rw [R]
          refine ⟨fx.s, ?_, Or.inr ⟨cn, rfl⟩⟩
          obtain ⟨y0, y1, y2, ⟨y3, y3'⟩, y4, y5⟩ := hcr
          refine ⟨y0.n (by decide), y1.n (by decide), fun k hk => ?_, ⟨y3, y3'.n (by decide)⟩, y4.eq (e5 8 (by decide)) (e5 9 (by decide)), y5.eq (e5 10 (by decide))⟩
          by_cases u : k = 2
          · subst u
            exact ⟨c, fx.s⟩
          · obtain ⟨x, hx⟩ := y2 k hk
            exact ⟨x, hx.n (Ne.symm u)⟩
      · obtain ⟨ok', lt'⟩ := p_step_ok ok1 ps
        have fin' := p_fin_r fin1 (by show p ≤ 740; omega) ps lt'
        obtain ⟨aw', p', n', T', N', rows', fp'⟩ := s'
        obtain ⟨⟨G5, w5, r5, y3, y4, y5, y8⟩, o5, nm5⟩ := hs'
        refine mm_putiF (pc := 128) dX6_read_128 fi_X6_22 (r5.2.2.1 2 (by decide)) ?_
        have e5 : ∀ j, j ≠ 7 → mm_upF M4 7 2 (.int 0) j = M4 j := fun j hj => mm_upF_n hj
        refine bX6_read_131 (r5.2.2.1 2 (by decide)).s (fun _ => ?_) (fun q => absurd rfl q)
        rw [nI_1]
        refine ih _ (by omega) ⟨(aw', p', n', T', N', rows', fp'), ⟨⟨_, _, r5.set 2 0 (by decide), by rw [pk_un (by decide), y3], by rw [pk_un (by decide), y4], fun q => by rw [pk_un (by decide), y5 q], by rw [pk_un (by decide), y8]⟩, o5.eq (e5 8 (by decide)) (e5 9 (by decide)), nm5.eq (e5 10 (by decide))⟩, ok', fin', ?_, fun j hj => (e5 j (by omega)).trans (e4' j hj)⟩
        have : p < p' := lt'
        show k + 1 ≤ p'
        omega
    all_goals
      rw [ks_ltI (by omega) (by omega)] at c1
      rw [ks_eq0 (by omega)] at c2
      have qt : pas isB t f p = t := by omega
      have k0 : tkd t f p = 0 := by
        unfold tkd
        rw [if_neg h7, if_pos (by omega)]
    · have R := p_fin_l fin1 (by show p ≤ 740; omega) (show p_step t f (aw, p, n, T, N, rows, fp) = p_bad t f p 1 from by
        dsimp only [p_step]
        rw [if_pos k0, if_neg c2])
      refine mm_putiF (pc := 95) dX6_read_95 fi_X6_22 (r1.2.2.1 2 (by decide)) ?_
      have r5 := r1.set 2 1 (by decide)
      have e5 : ∀ j, j ≠ 7 → mm_upF M1 7 2 (.int 1) j = M1 j := fun j hj => mm_upF_n hj
      refine bX6_read_98 (r1.2.2.1 2 (by decide)).s (f3.n (by decide)) (fun _ => bX6_read_115 ⟨?_, ?_, fun j hj => (e5 j (by omega)).trans (e1 j hj)⟩) (fun q => absurd q (by decide))
      · rw [R]
        show _ = some (Value.int (-1 - nI (tpl t f p)))
        rw [kp, qt]
      · rw [R]
        exact ⟨(r1.2.2.1 2 (by decide)).s, crN r5 e5, Or.inr ⟨by show (1 : Int32) ≠ 0; decide, rfl⟩⟩
    · have R := p_fin_l fin1 (by show p ≤ 740; omega) (show p_step t f (aw, p, n, T, N, rows, fp) = .inl (nI rows, 0, some (n, T)) from by
        dsimp only [p_step]
        rw [if_pos k0, if_pos c2])
      refine mm_putiF (pc := 95) dX6_read_95 fi_X6_22 (r1.2.2.1 2 (by decide)) ?_
      have r5 := r1.set 2 0 (by decide)
      have e5 : ∀ j, j ≠ 7 → mm_upF M1 7 2 (.int 0) j = M1 j := fun j hj => mm_upF_n hj
      refine bX6_read_98 (r1.2.2.1 2 (by decide)).s (f3.n (by decide)) (fun q => absurd rfl q) (fun _ => bX6_read_115 ⟨?_, ?_, fun j hj => (e5 j (by omega)).trans (e1 j hj)⟩)
      · rw [R]
      · rw [R]
        exact ⟨(r1.2.2.1 2 (by decide)).s, crN r5 e5, Or.inl ⟨rfl, (n, T), rfl, o1.eq (e5 8 (by decide)) (e5 9 (by decide)), hw⟩⟩
  refine bX6_read_50 (r1.2.2.1 2 (by decide)) (fun c1 => go ?_) (fun c1 c2 => go ?_) (fun c1 c2 => ?_)
  · rw [show (700 : Int32) = nI 700 from rfl, ks_le (by omega) (by omega)] at c1
    omega
  · rw [show (700 : Int32) = nI 700 from rfl, ks_ltI (by omega) (by omega)] at c2
    omega
  · rw [show (700 : Int32) = nI 700 from rfl, ks_le (by omega) (by omega)] at c1
    rw [show (700 : Int32) = nI 700 from rfl, ks_ltI (by omega) (by omega)] at c2
    have h7 : 700 < t ∧ 700 ≤ pas isB t f p := by omega
    have k1 : tkd t f p = 1 := by
      unfold tkd
      rw [if_pos h7]
    have kp : tpl t f p = 700 := by
      unfold tpl
      rw [if_pos h7]
    have R := p_fin_l fin1 (by show p ≤ 740; omega) (show p_step t f (aw, p, n, T, N, rows, fp) = p_bad t f p 1 from by
      dsimp only [p_step]
      rw [if_neg (by omega), if_pos k1])
    have e5 : ∀ j, j ≠ 7 → mm_upF M1 7 2 (.int 1) j = M1 j := fun j hj => mm_upF_n hj
    refine ⟨?_, ?_, fun j hj => (e5 j (by omega)).trans (e1 j hj)⟩
    · rw [R]
      show _ = some (Value.int (-1 - nI (tpl t f p)))
      rw [kp]
      rfl
    · rw [R]
      exact ⟨(r1.2.2.1 2 (by decide)).s, crN (r1.set 2 1 (by decide)) e5, Or.inr ⟨by show (1 : Int32) ≠ 0; decide, rfl⟩⟩
theorem oC_net {M : mm_Mem} {σ : g_st} (h : CS M σ) : OC 7 mX9_net [] M (o_net σ) := by
  obtain ⟨n, T, L, K, t, f, fk⟩ := σ
  obtain ⟨⟨pf, sd, h1, h2⟩, h3, h4, h5, h6, h7, h8, h9, h10, h11⟩ := id h
  refine mm_S.of rfl rfl (Nat.le_of_ble_eq_true rfl) ndC (bX9_net_0 (h1.r 3 7 (by decide)) (h1.r 2 5 (by decide)) h7.1.rc (mm_Call.of (s_read h6 h7) (by decide) ?_))
  rintro _ M1 ⟨rfl, ⟨k1, k2, k3⟩, e1⟩
  have a0 := h1.eq (e1 0 (by decide))
  have a6 := h6.eq (e1 5 (by decide)) (e1 6 (by decide))
  refine bX9_net_11 a6.1 (a0.r 2 5 (by decide)) (mm_Call.of (s_cut (x := 0) a6) (by decide) ?_)
  rintro r M2 hr
  obtain ⟨rfl, rfl⟩ : r = some (.int 1) ∧ M2 = g_tp M1 0 f := by
    rcases hr with ⟨m, q1, q2, q3, q4⟩ | ⟨q1, -, -⟩
    · have e0 : m = 0 := by
        have ht := h6.2.2
        have := q2.symm
        rw [ks_eq0 (by omega)] at this
        exact this
      subst e0
      exact ⟨q3, q4⟩
    · exact absurd ⟨0, Nat.zero_le _, rfl⟩ q1
  have e2 : ∀ j, j ≠ 5 → j ≠ 6 → g_tp M1 0 f j = M1 j := fun j j1 j2 => g_tp_n j1 j2
  have t2 : ct (g_tp M1 0 f) 0 f := g_tp_ct (by decide)
  generalize g_tp M1 0 f = M2 at e2 t2 ⊢
  have b0 := a0.eq (e2 0 (by decide) (by decide))
  have b1 : na M2 1 n T := h3.eq ((e2 1 (by decide) (by decide)).trans (e1 1 (by decide))) ((e2 2 (by decide) (by decide)).trans (e1 2 (by decide)))
  have e27 := e2 7 (by decide) (by decide)
  have cr2 : cr M2 := k2.eq fun j j1 j2 => e2 j (by omega) (by omega)
  have f2 := k1.eq e27
  have c0 := b0.setf (p_all t f).2.1
  have e3 : ∀ j, j ≠ 0 → mm_upF M2 0 11 (.int (p_all t f).2.1) j = M2 j := fun j hj => mm_upF_n hj
  have all3 : ∀ j, j ≠ 0 → (j < 5 ∨ 10 < j) → mm_upF M2 0 11 (.int (p_all t f).2.1) j = M j := fun j j1 j2 => (e3 j j1).trans ((e2 j (by omega) (by omega)).trans (e1 j (by omega)))
  refine bX9_net_20 b1.1 (b0.r 3 7 (by decide)) f2 b0.2.2.1 (b0.r 0 1 (by decide)) cr2.1 (by decide) (by decide) (by decide) (fun c => ?_) (fun c => ?_)
  · have k3' : (p_all t f).2.2 = none := by
      rcases k3 with ⟨q, -⟩ | ⟨-, q⟩
      · exact absurd q c
      · exact q
    dsimp only [o_net]
    rw [k3']
    generalize mm_upF M2 0 11 (.int (p_all t f).2.1) = M3 at c0 e3 all3 ⊢
    exact ⟨rfl, ⟨⟨pf, sd, c0, h2.eq (all3 29 (by decide) (by decide)) (all3 30 (by decide) (by decide))⟩, b1.eq (e3 1 (by decide)) (e3 2 (by decide)), h4, h5.eq (all3 3 (by decide) (by decide)) (all3 4 (by decide) (by decide)), t2.eq (e3 5 (by decide)) (e3 6 (by decide)), cr2.eq fun j j1 j2 => e3 j (by omega), h8.eq fun j j1 j2 => all3 j (by omega) (by omega), h9.eq fun j j1 j2 => all3 j (by omega) (by omega), h10.eq fun j j1 j2 => all3 j (by omega) (by omega), h11.eq fun j j1 j2 => all3 j (by omega) (by omega)⟩, fun j hj => all3 j (by omega) (by omega)⟩
  · obtain ⟨q, q1, q2, q3⟩ : ∃ q, (p_all t f).2.2 = some q ∧ na M1 8 q.1 q.2 ∧ gw q.1 q.2 := by
      rcases k3 with ⟨-, q⟩ | ⟨q, -⟩
      · exact q
      · exact absurd c q
    dsimp only [o_net]
    rw [q1]
    have b8 : na M2 8 q.1 q.2 := q2.eq (e2 8 (by decide) (by decide)) (e2 9 (by decide) (by decide))
    generalize mm_upF M2 0 11 (.int (p_all t f).2.1) = M3 at c0 e3 all3 ⊢
    have d1 := b1.eq (e3 1 (by decide)) (e3 2 (by decide))
    have d8 := b8.eq (e3 8 (by decide)) (e3 9 (by decide))
    refine mm_Call.eq (s_copyN d1 d8 h4 q3 (by decide) (by decide) (by decide)) (by decide) ?_
    have e4 : ∀ j, j ≠ 1 → j ≠ 2 → mm_net M3 1 q.1 q.2 j = M3 j := fun j j1 j2 => mm_net_n j1 j2
    have qn : na (mm_net M3 1 q.1 q.2) 1 q.1 q.2 := mm_net_na (by decide)
    generalize mm_net M3 1 q.1 q.2 = M4 at e4 qn ⊢
    have g0 := c0.eq (e4 0 (by decide) (by decide))
    obtain ⟨oo, C', a1, a2, a3, a4, a5, a6'⟩ := h11.eq (M' := M4) fun j j1 j2 => (e4 j (by omega) (by omega)).trans (all3 j (by omega) (by omega))
    refine bX9_net_53 a1 (g0.r 8 26 (by decide)) (by decide) ?_
    have e5 : ∀ j, j ≠ 26 → mm_up M4 26 (mm_aO 0 [.ref 27, .int (nI oo), .int 0]) j = M4 j := fun j hj => mm_up_n hj
    have ac : acts (mm_up M4 26 (mm_aO 0 [.ref 27, .int (nI oo), .int 0])) [] := ⟨oo, C', mm_at.s a1.1, a2.n (by decide), a3.n (by decide), a4, by decide, fun j q h => by simp at h⟩
    generalize mm_up M4 26 (mm_aO 0 [.ref 27, .int (nI oo), .int 0]) = M5 at e5 ac ⊢
    have all5 : ∀ j, j ≠ 0 → (j < 5 ∨ 10 < j) → j ≠ 1 → j ≠ 2 → j ≠ 26 → M5 j = M j := fun j j0 j1 j2 j3 j4 => (e5 j j4).trans ((e4 j j2 j3).trans (all3 j j0 j1))
    have e53 : ∀ j, j ≠ 1 → j ≠ 2 → j ≠ 26 → M5 j = M3 j := fun j j1 j2 j3 => (e5 j j3).trans (e4 j j1 j2)
    exact ⟨rfl, ⟨⟨pf, sd, g0.eq (e5 0 (by decide)), h2.eq (all5 29 (by decide) (by decide) (by decide) (by decide) (by decide)) (all5 30 (by decide) (by decide) (by decide) (by decide) (by decide))⟩, qn.eq (e5 1 (by decide)) (e5 2 (by decide)), q3, h5.eq (all5 3 (by decide) (by decide) (by decide) (by decide) (by decide)) (all5 4 (by decide) (by decide) (by decide) (by decide) (by decide)), t2.eq ((e53 5 (by decide) (by decide) (by decide)).trans (e3 5 (by decide))) ((e53 6 (by decide) (by decide) (by decide)).trans (e3 6 (by decide))), cr2.eq fun j j1 j2 => (e53 j (by omega) (by omega) (by omega)).trans (e3 j (by omega)), h8.eq fun j j1 j2 => all5 j (by omega) (by omega) (by omega) (by omega) (by omega), h9.eq fun j j1 j2 => all5 j (by omega) (by omega) (by omega) (by omega) (by omega), h10.eq fun j j1 j2 => all5 j (by omega) (by omega) (by omega) (by omega) (by omega), ac⟩, fun j hj => all5 j (by omega) (by omega) (by omega) (by omega) (by omega)⟩
