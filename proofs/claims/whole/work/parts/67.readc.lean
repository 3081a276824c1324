/-! THE CLASS'S READER -/
def rdi : List Nat := [2, 3, 4, 5, 6, 8]
def rnm (M : mm_Mem) (N : List (List Nat)) : Prop := ∃ g, mm_at M 10 (mm_aJ 14 g) ∧ ∀ (i : Nat) (w : List Nat), N[i]? = some w → g i = lN (vl 32 w)
def rdm (M : mm_Mem) (G : Nat → Int32) (w : Int64) : Prop := mm_fd M 7 6 0 (.ref 8) ∧ mm_fd M 7 6 1 (.ref 10) ∧ (∀ k ∈ rdi, mm_fd M 7 6 k (.int (G k))) ∧ mm_fd M 7 6 7 (.long w)
theorem rdi_in : ∀ k ∈ rdi, k ≠ 0 ∧ k ≠ 1 ∧ k ≠ 7 := by decide
theorem rdm.eq {M M' : mm_Mem} {G : Nat → Int32} {w : Int64} (h : rdm M G w) (e : M' 7 = M 7) : rdm M' G w := ⟨h.1.eq e, h.2.1.eq e, fun k hk => (h.2.2.1 k hk).eq e, h.2.2.2.eq e⟩
theorem rdm.set {M : mm_Mem} {G : Nat → Int32} {w : Int64} (h : rdm M G w) (k : Nat) (x : Int32) (hk : k ∈ rdi) : rdm (mm_upF M 7 k (.int x)) (upd G k x) w := by
  obtain ⟨k1, k2, k3⟩ := rdi_in k hk
  refine ⟨h.1.n (by omega), h.2.1.n (by omega), fun j hj => ?_, h.2.2.2.n (by omega)⟩
  by_cases u : j = k
  · subst u
    rw [pk_us]
    exact (h.2.2.1 j hj).s
  · rw [pk_un u]
    exact (h.2.2.1 j hj).n (Ne.symm u)
theorem rdm.setL {M : mm_Mem} {G : Nat → Int32} {w : Int64} (h : rdm M G w) (x : Int64) : rdm (mm_upF M 7 7 (.long x)) G x := ⟨h.1.n (by decide), h.2.1.n (by decide), fun k hk => (h.2.2.1 k hk).n (by have := rdi_in k hk; omega), h.2.2.2.s⟩
theorem rnm.eq {M M' : mm_Mem} {N : List (List Nat)} (h : rnm M N) (e : M' 10 = M 10) : rnm M' N := by
  obtain ⟨g, h1, h2⟩ := h
  exact ⟨g, h1.eq e, h2⟩
theorem q_letter {t i : Nat} {f : Nat → Int32} (ht : t ≤ 740) (hi : i < t) : qX8_isLetter (nI i) (nI t) 740 f = ks_b (isLt (f i)) := by
  unfold qX8_isLetter
  rw [if_neg (by rw [ks_le (by omega) (by omega)]; omega), ks_at (by decide) (by omega)]
  by_cases h1 : f i < 97
  · rw [if_pos h1, ks_bf fun q => q.1 h1]
  · rw [if_neg h1]
    by_cases h2 : 122 < f i
    · rw [if_pos h2, ks_bf fun q => q.2 h2]
    · rw [if_neg h2, ks_bt ⟨h1, h2⟩]
theorem s_pastBlanks {M : mm_Mem} {t p : Nat} {f : Nat → Int32} (h : ct M t f) (hp : p ≤ t) : mm_S 2 mX8_pastBlanks 0 0 [.ref 5, .int (nI p)] M (mm_Eq (some (.int (nI (pas isB t f p)))) M) := by
  obtain ⟨o1, o2, ht⟩ := h
  refine mm_S.of rfl rfl (Nat.le_of_ble_eq_true rfl) mm_ndi (bX8_pastBlanks_0 ?_)
  refine fld (s := p) (n := t) (G := fun i (_ : Unit) => mm_X mX8_pastBlanks 2 none (0, 0) 2 [.ref 5, .null, .int (nI i)] [] M (mm_Eq (some (.int (nI (pas isB t f p)))) M)) (v0 := ()) (I := fun i _ => ∀ j, p ≤ j → j < i → isB (f j)) hp (fun j h1 h2 => by omega) ?_
  intro i _ h1 hi hI ih
  refine bX8_pastBlanks_2 o1 o2 (by decide) (fun c => ⟨?_, rfl⟩) (fun c c1 => ?_) (fun c c1 c2 => ?_) (fun c c1 c2 => ⟨?_, rfl⟩)
  · rw [ks_le (by omega) (by omega)] at c
    rw [pas_eq (q := t) ⟨hp, Nat.le_refl t, fun j g1 g2 => hI j g1 (by omega), fun q => by omega⟩]
  · rw [ks_le (by omega) (by omega)] at c
    rw [ks_at (by decide) (by omega)] at c1
    rw [nI_1]
    refine ih () (by omega) fun j g1 g2 => ?_
    by_cases u : j = i
    · rw [u]
      exact Or.inl c1
    · exact hI j g1 (by omega)
  · rw [ks_le (by omega) (by omega)] at c
    rw [ks_at (by decide) (by omega)] at c2
    rw [nI_1]
    refine ih () (by omega) fun j g1 g2 => ?_
    by_cases u : j = i
    · rw [u]
      exact Or.inr c2
    · exact hI j g1 (by omega)
  · rw [ks_le (by omega) (by omega)] at c
    rw [ks_at (by decide) (by omega)] at c1 c2
    rw [pas_eq (q := i) ⟨h1, by omega, hI, fun _ q => q.elim c1 c2⟩]
theorem s_pastLetters {M : mm_Mem} {t p : Nat} {f : Nat → Int32} (h : ct M t f) (hp : p ≤ t) : mm_S 3 mX8_pastLetters 0 0 [.ref 5, .int (nI p)] M (mm_Eq (some (.int (nI (pas isLt t f p)))) M) := by
  obtain ⟨o1, o2, ht⟩ := h
  refine mm_S.of rfl rfl (Nat.le_of_ble_eq_true rfl) mm_ndi (bX8_pastLetters_0 ?_)
  refine fld (s := p) (n := t) (G := fun i (_ : Unit) => mm_X mX8_pastLetters 3 none (0, 0) 2 [.ref 5, .null, .int (nI i)] [] M (mm_Eq (some (.int (nI (pas isLt t f p)))) M)) (v0 := ()) (I := fun i _ => ∀ j, p ≤ j → j < i → isLt (f j)) hp (fun j h1 h2 => by omega) ?_
  intro i _ h1 hi hI ih
  refine bX8_pastLetters_2 o1 o2 (by decide) (fun c => ⟨?_, rfl⟩) (fun c c1 => ?_) (fun c c1 => ⟨?_, rfl⟩)
  · rw [ks_le (by omega) (by omega)] at c
    rw [pas_eq (q := t) ⟨hp, Nat.le_refl t, fun j g1 g2 => hI j g1 (by omega), fun q => by omega⟩]
  · rw [ks_le (by omega) (by omega)] at c
    rw [q_letter ht (by omega), ks_b0, Classical.not_not] at c1
    rw [nI_1]
    refine ih () (by omega) fun j g1 g2 => ?_
    by_cases u : j = i
    · rw [u]
      exact c1
    · exact hI j g1 (by omega)
  · rw [ks_le (by omega) (by omega)] at c
    rw [q_letter ht (by omega), ks_b0] at c1
    rw [pas_eq (q := i) ⟨h1, by omega, hI, fun _ => c1⟩]
/-- the class's code for a token -/
def tcd (k : Nat) : Int32 := if k = 2 then 2 else if k = 3 then 1 else 0
def rkp (M : mm_Mem) (G : Nat → Int32) (M' : mm_Mem) (t : Nat) (f : Nat → Int32) (p : Nat) : Prop := (∃ G' w, rdm M' G' w ∧ G' 6 = tcd (tkd t f p) ∧ G' 8 = nI (taf t f p) ∧ (∀ k, k ≠ 6 → k ≠ 8 → G' k = G k) ∧ (tkd t f p = 2 → w = lN (vl 32 (twd t f p)))) ∧ ∀ j, j ≠ 7 → M' j = M j
theorem s_scan {M : mm_Mem} {t p : Nat} {f : Nat → Int32} {G : Nat → Int32} {w : Int64} (h : ct M t f) (r : rdm M G w) (hp : p ≤ t) (hq : pas isB t f p < t) (h7 : ¬ (700 < t ∧ 700 ≤ pas isB t f p)) : mm_S 4 mX6_scan 0 0 [.ref 7, .ref 5, .int (nI (pas isB t f p))] M (fun r M' => r = none ∧ rkp M G M' t f p) := by
  obtain ⟨o1, o2, ht⟩ := id h
  obtain ⟨x6, x8, x7⟩ : ∃ x6 x8 x7, mm_fd M 7 6 6 (.int x6) ∧ mm_fd M 7 6 8 (.int x8) ∧ mm_fd M 7 6 7 (.long x7) := ⟨_, _, _, r.2.2.1 6 (by decide), r.2.2.1 8 (by decide), r.2.2.2⟩
  generalize hqe : pas isB t f p = q at hq h7
  have kt : tkd t f p = pif (isLt (f q)) (if pas isLt t f q - q ≤ 7 then 2 else 1) (if f q = 59 then 3 else 1) := by
    unfold tkd
    rw [hqe, if_neg h7, if_neg (by omega)]
  have ka : taf t f p = pif (isLt (f q)) (pas isLt t f q) (q + 1) := by
    unfold taf
    rw [hqe]
  have kw : twd t f p = wd f q (pas isLt t f q) := by
    unfold twd
    rw [hqe]
  have s59 : f q = 59 → ¬ isLt (f q) := fun e g => by
    rw [e] at g
    exact g.1 (by decide)
  have r3 := ((r.set 6 0 (by decide)).setL 0).set 8 (nI (q + 1)) (by decide)
  have e3 : ∀ j, j ≠ 7 → mm_upF (mm_upF (mm_upF M 7 6 (.int 0)) 7 7 (.long 0)) 7 8 (.int (nI (q + 1))) j = M j := fun j hj => ((mm_upF_n hj).trans (mm_upF_n hj)).trans (mm_upF_n hj)
  refine mm_S.of rfl rfl (Nat.le_of_ble_eq_true rfl) (fun r M' h x e => by rw [h.1] at e; cases e) (bX6_scan_0 o1 o2 (r.2.2.1 6 (by decide)) r.2.2.2 (r.2.2.1 8 (by decide)) (by decide) (by decide) (by decide) (fun c c1 => ?_) (fun c c1 => ?_) (fun c => ?_))
  · rw [ks_at (by decide) (by omega)] at c
    rw [q_letter ht hq, ks_b0] at c1
    rw [nI_1]
    refine ⟨rfl, ⟨_, _, r3, ?_, ?_, ?_, ?_⟩, e3⟩
    · rw [pk_un (by decide), pk_us, kt, pif_f c1, if_neg c]
      rfl
    · rw [pk_us, ka, pif_f c1]
    · intro k k6 k8
      rw [pk_un k8, pk_un k6]
    · rw [kt, pif_f c1, if_neg c]
      intro q
      cases q
  rotate_left
  · rw [ks_at (by decide) (by omega)] at c
    rw [nI_1]
    have hl := s59 c
    refine ⟨rfl, ⟨_, _, r3.set 6 1 (by decide), ?_, ?_, ?_, ?_⟩, fun j hj => (mm_upF_n hj).trans (e3 j hj)⟩
    · rw [pk_us, kt, pif_f hl, if_pos c]
      rfl
    · rw [pk_un (by decide), pk_us, ka, pif_f hl]
    · intro k k6 k8
      rw [pk_un k6, pk_un k8, pk_un k6]
    · rw [kt, pif_f hl, if_pos c]
      intro q
      cases q
  rw [q_letter ht hq, ks_b0, Classical.not_not] at c1
  rw [nI_1]
  have h3 : ct (mm_upF (mm_upF (mm_upF M 7 6 (.int 0)) 7 7 (.long 0)) 7 8 (.int (nI (q + 1)))) t f := h.eq (e3 5 (by decide)) (e3 6 (by decide))
  generalize mm_upF (mm_upF (mm_upF M 7 6 (.int 0)) 7 7 (.long 0)) 7 8 (.int (nI (q + 1))) = M3 at r3 e3 h3 ⊢
  have hL := pas_ex (P := isLt) (f := f) (Nat.le_of_lt hq)
  refine mm_Call.eq (s_pastLetters h3 (Nat.le_of_lt hq)) (by decide) ?_
  generalize hee : pas isLt t f q = e at hL kt ka kw
  obtain ⟨g1, g2, g3, g4⟩ := hL
  refine mm_putiF (pc := 49) dX6_scan_49 fi_X6_36 (r3.2.2.1 8 (by decide)) ?_
  have r4 := r3.set 8 (nI e) (by decide)
  have e4 : ∀ j, j ≠ 7 → mm_upF M3 7 8 (.int (nI e)) j = M j := fun j hj => (mm_upF_n hj).trans (e3 j hj)
  generalize mm_upF M3 7 8 (.int (nI e)) = M4 at r4 e4 ⊢
  have f8 : mm_fd M4 7 6 8 (.int (nI e)) := by
    have := r4.2.2.1 8 (by decide)
    rwa [pk_us] at this
  have sub : nI e - nI q = nI (e - q) := by
    rw [show nI e = nI ((e - q) + q) from by rw [show e - q + q = e from by omega], ← nI_add]
    exact Int32.add_sub_cancel _ _
  refine bX6_scan_52 f8 (r4.2.2.1 6 (by decide)) (fun c2 => ?_) (fun c2 => ?_)
  · rw [sub, show (7 : Int32) = nI 7 from rfl, ks_ltI (by omega) (by omega)] at c2
    refine ⟨rfl, ⟨_, _, r4, ?_, ?_, ?_, ?_⟩, e4⟩
    · rw [pk_un (by decide), pk_un (by decide), pk_us, kt, pif_t c1, if_neg (by omega)]
      rfl
    · rw [pk_us, ka, pif_t c1]
    · intro k k6 k8
      rw [pk_un k8, pk_un k8, pk_un k6]
    · rw [kt, pif_t c1, if_neg (by omega)]
      intro q
      cases q
  rw [sub, show (7 : Int32) = nI 7 from rfl, ks_ltI (by omega) (by omega)] at c2
  have r5 := r4.set 6 2 (by decide)
  have e5 : ∀ j, j ≠ 7 → mm_upF M4 7 6 (.int 2) j = M j := fun j hj => (mm_upF_n hj).trans (e4 j hj)
  generalize mm_upF M4 7 6 (.int 2) = M5 at r5 e5 ⊢
  refine fld (s := q) (n := e) (G := fun i (x : mm_Mem × Int64) => mm_X mX6_scan 4 none (0, 0) 70 [.ref 7, .ref 5, .null, .int (nI i)] [] x.1 _) (v0 := (M5, 0)) (I := fun i x => rdm x.1 (upd (upd (upd (upd G 6 0) 8 (nI (q + 1))) 8 (nI e)) 6 2) x.2 ∧ x.2 = lN (vl 32 (wd f q i)) ∧ ∀ j, j ≠ 7 → x.1 j = M j) g1 ⟨r5, by rw [wd_0]; rfl, e5⟩ ?_
  rintro i ⟨M6, w6⟩ hqi hi ⟨r6, v6, e6⟩ ih
  dsimp only at r6 v6 e6
  subst v6
  have o6 : ct M6 t f := h.eq (e6 5 (by decide)) (e6 6 (by decide))
  have f8' : mm_fd M6 7 6 8 (.int (nI e)) := by
    have := r6.2.2.1 8 (by decide)
    rwa [pk_un (by decide), pk_us] at this
  refine bX6_scan_70 o6.1 o6.2.1 f8' r6.2.2.2 (by decide) (fun c3 => ?_) (fun c3 => ?_)
  · rw [ks_le (by omega) (by omega)] at c3
    obtain rfl : i = e := by omega
    refine ⟨rfl, ⟨_, _, r6, ?_, ?_, ?_, ?_⟩, e6⟩
    · rw [pk_us, kt, pif_t c1, if_pos (by omega)]
      rfl
    · rw [pk_un (by decide), pk_us, ka, pif_t c1]
    · intro k k6 k8
      rw [pk_un k6, pk_un k8, pk_un k8, pk_un k6]
    · intro _
      rw [kw]
  · rw [ks_le (by omega) (by omega)] at c3
    obtain ⟨d1, d2, d3⟩ := isLt_d (g3 i hqi (by omega))
    rw [ks_at (by decide) (by omega)]
    have e96 : f i - 96 = nI (dgt (f i)) := by
      rw [d3, Nat.add_comm, ← nI_add]
      have : dgt (nI (dgt (f i)) + nI 96) = dgt (f i) := by
        rw [nI_add, Nat.add_comm, ← d3]
      rw [this]
      exact Int32.add_sub_cancel _ _
    have ew : lN (vl 32 (wd f q i)) * (32 : Int64) + (f i - 96).toInt64 = lN (vl 32 (wd f q (i + 1))) := by
      rw [e96, nI_l (by omega), show (32 : Int64) = lN 32 from rfl, lN_mul, lN_add, wd_s hqi, vl_snoc]
    rw [ew, nI_1]
    exact ih (_, lN (vl 32 (wd f q (i + 1)))) (by omega) ⟨r6.setL _, rfl, fun j hj => (mm_upF_n hj).trans (e6 j hj)⟩
