/-! NET of the model -/
theorem MT.upL {M : mm_Mem} {th : Int32} {σ : g_st} (h : MT M th σ) (x : Int64) : MT (mm_upF M 31 9 (.long x)) th σ := by
  obtain ⟨F, w, h1, h2⟩ := mt_mo h
  have := h.scr h1 (h1.setL x) rfl rfl rfl (fun j hj => mm_upF_n (by omega)) (h.msc.eq fun j _ _ _ _ _ => mm_upF_n (by omega))
  rwa [h2] at this
theorem MT.fl {M : mm_Mem} {th : Int32} {σ : g_st} (h : MT M th σ) : ∃ x, mm_fd M 31 10 9 (.long x) := by
  obtain ⟨F, w, h1, -⟩ := mt_mo h
  exact ⟨_, h1.2.2⟩
theorem MT.upk {M : mm_Mem} {th : Int32} {n : Nat} {T : Nat → Nat} {L : g_nets} {K : g_kept} {t : Nat} {f : Nat → Int32} {fk : Int32} (h : MT M th (n, T, L, K, t, f, fk)) (x : Int32) : MT (mm_upF M 31 7 (.int x)) th (n, T, L, K, t, f, x) := by
  obtain ⟨⟨F, w, m1, m2, m3, m4, m5⟩, h3, h4, ⟨h5, h5'⟩, ⟨C, h6, h6'⟩, h7, h8⟩ := h
  have e : ∀ j, j ≠ 31 → mm_upF M 31 7 (.int x) j = M j := fun j hj => mm_upF_n hj
  exact ⟨⟨_, _, m1.set 7 x (by decide), by rw [pk_un (by decide)]; exact m2, by rw [pk_un (by decide)]; exact m3, pk_us, by rw [pk_un (by decide)]; exact m5⟩, h3.eq (e 33 (by decide)), h4, ⟨mm_at.eq h5 (e 32 (by decide)), h5'⟩, ⟨C, h6.eq (e 36 (by decide)), h6'⟩, h7.eq (e 35 (by decide)) (e 43 (by decide)), h8.eq fun j _ _ _ _ _ => e j (by omega)⟩
theorem MT.tp {M : mm_Mem} {th : Int32} {n : Nat} {T : Nat → Nat} {L : g_nets} {K : g_kept} {t : Nat} {f : Nat → Int32} {fk : Int32} (h : MT M th (n, T, L, K, t, f, fk)) : mt M f := h.2.2.2.1.1
theorem q_isLt (x : Int32) : qX10_isLetter x = ks_b (isLt x) := by
  unfold qX10_isLetter
  by_cases h1 : x < 97
  · rw [if_pos h1, ks_bf fun q => q.1 h1]
  · rw [if_neg h1]
    by_cases h2 : 122 < x
    · rw [if_pos h2, ks_bf fun q => q.2 h2]
    · rw [if_neg h2, ks_bt ⟨h1, h2⟩]
/-- the model has looked at the token at p -/
def lok (M : mm_Mem) (t : Nat) (f : Nat → Int32) (p : Nat) : Prop := mm_fd M 31 10 3 (.int (nI t)) ∧ mm_fd M 31 10 5 (.int (nI (tpl t f p))) ∧ mm_fd M 31 10 6 (.int (nI (tkd t f p))) ∧ ((tkd t f p = 2 ∨ tkd t f p = 3) → mm_fd M 31 10 4 (.int (nI (taf t f p)))) ∧ (tkd t f p = 2 → mm_fd M 31 10 9 (.long (lN (vl 27 (twd t f p)))))
def nxO (M : mm_Mem) (th : Int32) (σ : g_st) (t : Nat) (f : Nat → Int32) (p : Nat) (r : Option Value) (M' : mm_Mem) : Prop := r = none ∧ MT M' th σ ∧ lok M' t f p ∧ ∀ j, j ≠ 31 → M' j = M j
theorem s_next {M : mm_Mem} {th : Int32} {n0 : Nat} {T0 : Nat → Nat} {L : g_nets} {K : g_kept} {t p t0 : Nat} {f : Nat → Int32} {fk : Int32} (h : MT M th (n0, T0, L, K, t0, f, fk)) (f3 : mm_fd M 31 10 3 (.int (nI t))) (f4 : mm_fd M 31 10 4 (.int (nI p))) (ht : t ≤ 740) (hp : p ≤ t) : mm_S 1 mX10_next 0 0 [.ref 31] M (nxO M th (n0, T0, L, K, t0, f, fk) t f p) := by
  have hq := pas_ex (P := isB) (f := f) hp
  refine mm_S.of rfl rfl (Nat.le_of_ble_eq_true rfl) (fun r M' h x e => by rw [h.1] at e; cases e) ?_
  -- behind the blanks
  have go : ∀ M1, MT M1 th (n0, T0, L, K, t0, f, fk) → mm_fd M1 31 10 3 (.int (nI t)) → mm_fd M1 31 10 4 (.int (nI (pas isB t f p))) → (∀ j, j ≠ 31 → M1 j = M j) → mm_X mX10_next 1 none (0, 0) 52 [.ref 31] [] M1 (nxO M th (n0, T0, L, K, t0, f, fk) t f p) := by
    intro M1 h1 k3 k4 e1
    generalize hqe : pas isB t f p = q at hq k4
    obtain ⟨q1, q2, q3, q4⟩ := hq
    obtain ⟨x5, k5⟩ := h1.fi 5 (by decide)
    obtain ⟨x6, k6⟩ := h1.fi 6 (by decide)
    have ok : ¬ (700 < t ∧ 700 ≤ q) → mm_X mX10_next 1 none (0, 0) 93 [.ref 31] [] (mm_upF M1 31 5 (.int (nI q))) (nxO M th (n0, T0, L, K, t0, f, fk) t f p) := by
      intro h7
      have kp : tpl t f p = q := by
        unfold tpl
        rw [hqe, if_neg h7]
      have a1 := h1.upI 5 (nI q) (by decide) (by decide) (by decide) (by decide) (by decide)
      have a3 : mm_fd (mm_upF M1 31 5 (.int (nI q))) 31 10 3 (.int (nI t)) := k3.n (by decide)
      have a4 : mm_fd (mm_upF M1 31 5 (.int (nI q))) 31 10 4 (.int (nI q)) := k4.n (by decide)
      have a5 : mm_fd (mm_upF M1 31 5 (.int (nI q))) 31 10 5 (.int (nI q)) := k5.s
      have a6 : mm_fd (mm_upF M1 31 5 (.int (nI q))) 31 10 6 (.int x6) := k6.n (by decide)
      have e2 : ∀ j, j ≠ 31 → mm_upF M1 31 5 (.int (nI q)) j = M j := fun j hj => (mm_upF_n hj).trans (e1 j hj)
      generalize mm_upF M1 31 5 (.int (nI q)) = M2 at a1 a3 a4 a5 a6 e2 ⊢
      obtain ⟨x9, a9⟩ := a1.fl
      have inq : nI q < nI t → q < t := fun c => (ks_ltI (by omega) (by omega)).mp c
      have kt : q < t → tkd t f p = pif (isLt (f q)) (if pas isLt t f q - q ≤ 7 then 2 else 1) (if f q = 59 then 3 else 1) := fun hlt => by
        unfold tkd
        rw [hqe, if_neg h7, if_neg (by omega)]
      have ka : taf t f p = pif (isLt (f q)) (pas isLt t f q) (q + 1) := by
        unfold taf
        rw [hqe]
      have kw : twd t f p = wd f q (pas isLt t f q) := by
        unfold twd
        rw [hqe]
      -- a sign, or what can't come
      have sg : ∀ c : Nat, q < t → ¬ isLt (f q) → tkd t f p = c → c < 4 → mm_X mX10_next 1 none (0, 0) 145 [.ref 31] [.int (nI c), .ref 31] M2 (nxO M th (n0, T0, L, K, t0, f, fk) t f p) := by
        intro c hlt hnl hc hc4
        refine mm_putiF (pc := 145) dX10_next_145 fi_X10_31 a6 ?_
        refine bX10_next_148 (a4.n (by decide)) ?_
        rw [nI_1]
        refine ⟨rfl, (a1.upI 6 _ (by decide) (by decide) (by decide) (by decide) (by decide)).upI 4 _ (by decide) (by decide) (by decide) (by decide) (by decide), ⟨(a3.n (by decide)).n (by decide), ?_, ?_, fun _ => ?_, fun q2 => ?_⟩, fun j hj => ((mm_upF_n hj).trans (mm_upF_n hj)).trans (e2 j hj)⟩
        · rw [kp]
          exact (a5.n (by decide)).n (by decide)
        · rw [hc]
          exact a6.s.n (by decide)
        · rw [ka, pif_f hnl]
          exact (a4.n (by decide)).s
        · rw [kt hlt, pif_f hnl] at q2
          split at q2 <;> omega
      refine bX10_next_93 a1.tp a4 a3 (a1.fdr 1 32 (by decide)) a9 a6 (by decide) (fun c => vp_in_nI (by have := inq c; omega) (by decide)) (fun c c1 => ?_) (fun c _ => vp_in_nI (by have := inq c; omega) (by decide)) (fun c c1 c2 => ?_) (fun c c1 c2 => ?_) (fun c => ?_)
      rotate_left
      · have hlt := inq c
        rw [nI_clamp (by omega), q_isLt, ks_b0] at c1
        rw [nI_clamp (by omega)] at c2
        exact sg 1 hlt c1 (by rw [kt hlt, pif_f c1, if_neg c2]) (by decide)
      · have hlt := inq c
        rw [nI_clamp (by omega), q_isLt, ks_b0] at c1
        rw [nI_clamp (by omega)] at c2
        exact sg 3 hlt c1 (by rw [kt hlt, pif_f c1, if_pos c2]) (by decide)
      · rw [ks_ltI (by omega) (by omega)] at c
        have k0 : tkd t f p = 0 := by
          unfold tkd
          rw [hqe, if_neg h7, if_pos (by omega)]
        refine ⟨rfl, a1.upI 6 _ (by decide) (by decide) (by decide) (by decide) (by decide), ⟨a3.n (by decide), by rw [kp]; exact a5.n (by decide), by rw [k0]; exact a6.s, fun w => by omega, fun w => by omega⟩, fun j hj => (mm_upF_n hj).trans (e2 j hj)⟩
      -- a word
      have hlt := inq c
      rw [nI_clamp (by omega), q_isLt, ks_b0, Classical.not_not] at c1
      have hL := pas_ex (P := isLt) (f := f) (Nat.le_of_lt hlt)
      have kt' := kt hlt
      generalize hee : pas isLt t f q = e at hL kt' ka kw
      obtain ⟨g1, g2, g3, g4⟩ := hL
      have b1 := a1.upL 0
      have b3 : mm_fd (mm_upF M2 31 9 (.long 0)) 31 10 3 (.int (nI t)) := a3.n (by decide)
      have b4 : mm_fd (mm_upF M2 31 9 (.long 0)) 31 10 4 (.int (nI q)) := a4.n (by decide)
      have b5 : mm_fd (mm_upF M2 31 9 (.long 0)) 31 10 5 (.int (nI q)) := a5.n (by decide)
      have b6 : mm_fd (mm_upF M2 31 9 (.long 0)) 31 10 6 (.int x6) := a6.n (by decide)
      have b9 : mm_fd (mm_upF M2 31 9 (.long 0)) 31 10 9 (.long 0) := a9.s
      have e3 : ∀ j, j ≠ 31 → mm_upF M2 31 9 (.long 0) j = M j := fun j hj => (mm_upF_n hj).trans (e2 j hj)
      generalize mm_upF M2 31 9 (.long 0) = M3 at b1 b3 b4 b5 b6 b9 e3 ⊢
      refine fld (s := q) (n := e) (G := fun i (m : mm_Mem) => mm_X mX10_next 1 none (0, 0) 164 [.ref 31] [] m _) (v0 := M3) (I := fun i m => MT m th (n0, T0, L, K, t0, f, fk) ∧ mm_fd m 31 10 3 (.int (nI t)) ∧ mm_fd m 31 10 4 (.int (nI i)) ∧ mm_fd m 31 10 5 (.int (nI q)) ∧ mm_fd m 31 10 6 (.int x6) ∧ (∃ w, mm_fd m 31 10 9 (.long w) ∧ (i - q ≤ 7 → w = lN (vl 27 (wd f q i)))) ∧ ∀ j, j ≠ 31 → m j = M j) g1 ⟨b1, b3, b4, b5, b6, ⟨0, b9, fun _ => by rw [wd_0]; rfl⟩, e3⟩ ?_
      clear b1 b3 b4 b5 b6 b9 e3 M3
      rintro i M3 hqi hi ⟨b1, b3, b4, b5, b6, ⟨w, b9, hw⟩, e3⟩ ih
      have sub : nI i - nI q = nI (i - q) := by
        rw [show nI i = nI ((i - q) + q) from by rw [show i - q + q = i from by omega], ← nI_add]
        exact Int32.add_sub_cancel _ _
      have lt7 : (7 : Int32) = nI 7 := rfl
      have tA : i < t → qX10_tapeAt (nI i) (nI t) f = f i := fun u => by
        unfold qX10_tapeAt
        rw [if_neg (by rw [ks_le (by omega) (by omega)]; omega), nI_clamp (by omega)]
      have tZ : ¬ i < t → qX10_isLetter (qX10_tapeAt (nI i) (nI t) f) = 0 := fun u => by
        unfold qX10_tapeAt
        rw [if_pos (by rw [ks_le (by omega) (by omega)]; omega)]
        decide
      have fin : qX10_isLetter (qX10_tapeAt (nI i) (nI t) f) = 0 → i = e := fun c2 => by
        by_cases u : i < t
        · rw [tA u, q_isLt, ks_b0] at c2
          rcases Nat.lt_or_ge i e with v | v
          · exact absurd (g3 i hqi v) c2
          · omega
        · omega
      have more : ¬ qX10_isLetter (qX10_tapeAt (nI i) (nI t) f) = 0 → i < t ∧ isLt (f i) ∧ i < e := fun c2 => by
        by_cases u : i < t
        · rw [tA u, q_isLt, ks_b0, Classical.not_not] at c2
          refine ⟨u, c2, ?_⟩
          rcases Nat.lt_or_ge i e with v | v
          · exact v
          · obtain rfl : i = e := by omega
            exact absurd c2 (g4 u)
        · exact absurd (tZ u) c2
      have done : ∀ c : Nat, i = e → tkd t f p = c → mm_X mX10_next 1 none (0, 0) 252 [.null] [.int (nI c), .ref 31] M3 (nxO M th (n0, T0, L, K, t0, f, fk) t f p) := by
        intro c hie hc
        refine bX10_next_252 b6 ⟨rfl, b1.upI 6 _ (by decide) (by decide) (by decide) (by decide) (by decide), ⟨b3.n (by decide), by rw [kp]; exact b5.n (by decide), by rw [hc]; exact b6.s, fun _ => ?_, fun q2 => ?_⟩, fun j hj => (mm_upF_n hj).trans (e3 j hj)⟩
        · rw [ka, pif_t c1, ← hie]
          exact b4.n (by decide)
        · rw [kt', pif_t c1] at q2
          have : e - q ≤ 7 := by
            by_cases u : e - q ≤ 7
            · exact u
            · rw [if_neg u] at q2
              omega
          rw [kw, ← hie, ← hw (by omega)]
          exact b9.n (by decide)
      refine bX10_next_164 b1.tp b4 b3 (b1.fdr 1 32 (by decide)) b5 b9 (by decide) (fun c2 => ?_) (fun c2 c3 => ?_) (fun c2 c3 => ?_) (fun c2 c3 => ?_) (fun c2 c3 => ?_) (fun c2 c3 => ?_)
      · rw [ks_le (by omega) (by omega)] at c2
        exact vp_in_nI (by omega) (by decide)
      · have hie := fin c2
        rw [sub, lt7, ks_le (by omega) (by omega)] at c3
        exact done 2 hie (by rw [kt', pif_t c1, if_pos (by omega)])
      · have hie := fin c2
        rw [sub, lt7, ks_le (by omega) (by omega)] at c3
        exact done 1 hie (by rw [kt', pif_t c1, if_neg (by omega)])
      · obtain ⟨m1, m2, m3⟩ := more c2
        rw [sub, lt7, ks_le (by omega) (by omega)] at c3
        refine bX10_next_219 b4 ?_
        rw [nI_1]
        exact ih _ m3 ⟨b1.upI 4 _ (by decide) (by decide) (by decide) (by decide) (by decide), b3.n (by decide), b4.s, b5.n (by decide), b6.n (by decide), ⟨w, b9.n (by decide), fun u => by omega⟩, fun j hj => (mm_upF_n hj).trans (e3 j hj)⟩
      · obtain ⟨m1, m2, m3⟩ := more c2
        exact vp_in_nI (by omega) (by decide)
      · obtain ⟨m1, m2, m3⟩ := more c2
        rw [sub, lt7, ks_le (by omega) (by omega)] at c3
        obtain ⟨d1, d2, d3⟩ := isLt_d m2
        have ew : (27 : Int64) * w + (f i).toInt64 - 96 = lN (vl 27 (wd f q (i + 1))) := by
          rw [hw (by omega), d3, nI_l (by omega), show (27 : Int64) = lN 27 from rfl, lN_mul, lN_add, show (96 : Int64) = lN 96 from rfl, lN_sub (by omega), wd_s hqi, vl_snoc]
          rw [show 27 * vl 27 (wd f q i) + (96 + dgt (f i)) - 96 = vl 27 (wd f q i) * 27 + dgt (f i) from by omega]
        rw [nI_clamp (by omega), ew]
        refine bX10_next_219 (b4.n (by decide)) ?_
        rw [nI_1]
        exact ih _ m3 ⟨(b1.upL _).upI 4 _ (by decide) (by decide) (by decide) (by decide) (by decide), (b3.n (by decide)).n (by decide), (b4.n (by decide)).s, (b5.n (by decide)).n (by decide), (b6.n (by decide)).n (by decide), ⟨_, b9.s.n (by decide), fun _ => rfl⟩, fun j hj => ((mm_upF_n hj).trans (mm_upF_n hj)).trans (e3 j hj)⟩
    refine bX10_next_52 k4 k5 k3 k6 (fun c => ok ?_) (fun c c1 => ok ?_) (fun c c1 => ?_)
    · rw [show (700 : Int32) = nI 700 from rfl, ks_le (by omega) (by omega)] at c
      omega
    · rw [show (700 : Int32) = nI 700 from rfl, ks_ltI (by omega) (by omega)] at c1
      omega
    · rw [show (700 : Int32) = nI 700 from rfl, ks_le (by omega) (by omega)] at c
      rw [show (700 : Int32) = nI 700 from rfl, ks_ltI (by omega) (by omega)] at c1
      have h7 : 700 < t ∧ 700 ≤ pas isB t f p := by omega
      have kk : tkd t f p = 1 := by
        unfold tkd
        rw [if_pos h7]
      have kp : tpl t f p = 700 := by
        unfold tpl
        rw [if_pos h7]
      exact ⟨rfl, ((h1.upI 5 _ (by decide) (by decide) (by decide) (by decide) (by decide)).upI 5 _ (by decide) (by decide) (by decide) (by decide) (by decide)).upI 6 _ (by decide) (by decide) (by decide) (by decide) (by decide), ⟨((k3.n (by decide)).n (by decide)).n (by decide), by rw [kp]; exact (k5.s.s).n (by decide), by rw [kk]; exact ((k6.n (by decide)).n (by decide)).s, fun w => by omega, fun w => by omega⟩, fun j hj => (((mm_upF_n hj).trans (mm_upF_n hj)).trans (mm_upF_n hj)).trans (e1 j hj)⟩
  obtain ⟨q1, q2, q3, q4⟩ := id hq
  refine fld (s := p) (n := pas isB t f p) (G := fun i (m : mm_Mem) => mm_X mX10_next 1 none (0, 0) 0 [.ref 31] [] m _) (v0 := M) (I := fun i m => MT m th (n0, T0, L, K, t0, f, fk) ∧ mm_fd m 31 10 3 (.int (nI t)) ∧ mm_fd m 31 10 4 (.int (nI i)) ∧ ∀ j, j ≠ 31 → m j = M j) q1 ⟨h, f3, f4, fun _ _ => rfl⟩ ?_
  rintro i M1 hpi hi ⟨h1, k3, k4, e1⟩ ih
  have step : i < t → isB (f i) → mm_X mX10_next 1 none (0, 0) 39 [.ref 31] [] M1 (nxO M th (n0, T0, L, K, t0, f, fk) t f p) := fun hit hb => by
    refine bX10_next_39 k4 ?_
    rw [nI_1]
    refine ih _ ?_ ⟨h1.upI 4 _ (by decide) (by decide) (by decide) (by decide) (by decide), k3.n (by decide), k4.s, fun j hj => (mm_upF_n hj).trans (e1 j hj)⟩
    rcases Nat.lt_or_ge i (pas isB t f p) with u | u
    · exact u
    · have : i = pas isB t f p := by omega
      rw [this] at hb hit
      exact absurd hb (q4 hit)
  have stop : (i < t → ¬ isB (f i)) → mm_X mX10_next 1 none (0, 0) 52 [.ref 31] [] M1 (nxO M th (n0, T0, L, K, t0, f, fk) t f p) := fun hb => by
    have : i = pas isB t f p := by
      rcases Nat.lt_or_ge i (pas isB t f p) with u | u
      · exact absurd (q3 i hpi u) (hb (by omega))
      · omega
    rw [this] at k4
    exact go M1 h1 k3 k4 e1
  refine bX10_next_0 h1.tp k4 k3 (h1.fdr 1 32 (by decide)) (fun c => stop ?_) (fun c => ?_) (fun c c1 => ?_) (fun c _ => ?_) (fun c c1 c2 => ?_) (fun c c1 c2 => ?_)
  · rw [ks_le (by omega) (by omega)] at c
    omega
  · rw [ks_le (by omega) (by omega)] at c
    exact vp_in_nI (by omega) (by decide)
  · rw [ks_le (by omega) (by omega)] at c
    rw [nI_clamp (by omega)] at c1
    exact step (by omega) (Or.inl c1)
  · rw [ks_le (by omega) (by omega)] at c
    exact vp_in_nI (by omega) (by decide)
  · rw [ks_le (by omega) (by omega)] at c
    rw [nI_clamp (by omega)] at c1 c2
    exact stop fun _ q => q.elim c1 c2
  · rw [ks_le (by omega) (by omega)] at c
    rw [nI_clamp (by omega)] at c2
    exact step (by omega) (Or.inr c2)
