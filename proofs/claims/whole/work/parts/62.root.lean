/-! THE ROOT by a cover -/
def ctk (B : List Nat) (p k : Nat) : Nat := (List.range k).countP fun i => (B.getD i 0).testBit p
def cnt (B : List Nat) (p : Nat) : Nat := ctk B p B.length
def nah (B : List Nat) (p : Nat) : Nat := B.length + gs (fun q => 2 - cnt B q) p
def RE (B : List Nat) (p w v : Nat) : Prop := (w < cnt B p ∧ v < B.length ∧ (B.getD v 0).testBit p = true ∧ ctk B p v = w) ∨ (cnt B p ≤ w ∧ v = nah B p + (w - cnt B p))
noncomputable def re (B : List Nat) (p w : Nat) : Nat := g_the (RE B p w)
theorem ctk_s (B : List Nat) (p k : Nat) : ctk B p (k + 1) = ctk B p k + if (B.getD k 0).testBit p = true then 1 else 0 := by
  unfold ctk
  rw [List.range_succ, List.countP_append, List.countP_cons, List.countP_nil, Nat.zero_add]
theorem ctk_m {B : List Nat} {p : Nat} : ∀ {k l : Nat}, k ≤ l → ctk B p k ≤ ctk B p l := by
  intro k l h
  induction l with
  | zero => rw [show k = 0 from by omega]; exact Nat.le_refl _
  | succ l ih =>
    rcases Nat.lt_or_ge l k with q | q
    · rw [show k = l + 1 from by omega]
      exact Nat.le_refl _
    · exact Nat.le_trans (ih q) (by rw [ctk_s]; omega)
theorem ctk_lt {B : List Nat} {p k l : Nat} (h : k < l) (hb : (B.getD k 0).testBit p = true) : ctk B p k < ctk B p l := by
  have := ctk_m (B := B) (p := p) (show k + 1 ≤ l from h)
  rw [ctk_s, if_pos hb] at this
  omega
theorem RE_u {B : List Nat} {p w : Nat} : ∀ a b, RE B p w a → RE B p w b → a = b := by
  rintro a b (⟨h1, h2, h3, h4⟩ | ⟨h1, h2⟩) (⟨g1, g2, g3, g4⟩ | ⟨g1, g2⟩)
  · rcases Nat.lt_trichotomy a b with q | q | q
    · have := ctk_lt q h3
      omega
    · exact q
    · have := ctk_lt q g3
      omega
  · omega
  · omega
  · omega
theorem re_eq {B : List Nat} {p w v : Nat} (h : RE B p w v) : re B p w = v := g_the_eq h RE_u
/-- the cover's points are in two cliques at most -/
def two (B : List Nat) : Prop := ∀ p, cnt B p ≤ 2
theorem ctk_cons {C : Nat} {B : List Nat} {p : Nat} : ∀ k, ctk (C :: B) p (k + 1) = (if C.testBit p = true then 1 else 0) + ctk B p k
  | 0 => by
    rw [ctk_s]
    show 0 + _ = _ + 0
    rw [Nat.zero_add, Nat.add_zero]
    rfl
  | k + 1 => by
    rw [ctk_s, ctk_cons k, ctk_s, show (C :: B).getD (k + 1) 0 = B.getD k 0 from rfl, Nat.add_assoc]
theorem cnt_filter : ∀ (B : List Nat) (p : Nat), cnt B p = (B.filter fun C => C.testBit p).length
  | [], _ => rfl
  | C :: B, p => by
    show ctk (C :: B) p (B.length + 1) = _
    rw [ctk_cons]
    by_cases e : C.testBit p = true
    · rw [if_pos e, List.filter_cons_of_pos (p := fun C => Nat.testBit C p) e, List.length_cons, ← cnt_filter B p, Nat.add_comm]
      rfl
    · rw [if_neg e, List.filter_cons_of_neg (p := fun C => Nat.testBit C p) (by simpa using e), ← cnt_filter B p, Nat.zero_add]
      rfl
theorem two_cv {T : Nat → Nat} {B : List Nat} (h : cvr T z0 B) : two B := fun p => by
  have := cv_D B T z0 h p (Nat.zero_le _)
  rw [cnt_filter]
  omega
theorem nah_s (B : List Nat) (p : Nat) : nah B (p + 1) = nah B p + (2 - cnt B p) := (Nat.add_assoc _ _ _).symm
theorem nah_m {B : List Nat} : ∀ {p q : Nat}, p ≤ q → nah B p ≤ nah B q := by
  intro p q h
  induction q with
  | zero => rw [show p = 0 from by omega]; exact Nat.le_refl _
  | succ q ih =>
    rcases Nat.lt_or_ge q p with w | w
    · rw [show p = q + 1 from by omega]
      exact Nat.le_refl _
    · exact Nat.le_trans (ih w) (by rw [nah_s]; omega)
theorem nah_0 {B : List Nat} {p : Nat} : B.length ≤ nah B p := Nat.le_add_right _ _
theorem nah_le {B : List Nat} {p : Nat} : nah B p ≤ B.length + 2 * p := Nat.add_le_add_left (gs_le fun i _ => Nat.sub_le 2 _) _
theorem RE_lt {B : List Nat} {p n w v : Nat} (hp : p < n) (hw : w < 2) (h : RE B p w v) : v < nah B n := by
  have h1 := nah_m (B := B) (show p + 1 ≤ n from hp)
  rw [nah_s] at h1
  have h2 := nah_0 (B := B) (p := n)
  rcases h with ⟨-, q, -⟩ | ⟨q1, q2⟩ <;> omega
theorem RE_ne {B : List Nat} {p v0 v1 : Nat} (h0 : RE B p 0 v0) (h1 : RE B p 1 v1) : v0 ≠ v1 := by
  rintro rfl
  have := nah_0 (B := B) (p := p)
  rcases h0 with ⟨a1, a2, a3, a4⟩ | ⟨a1, a2⟩ <;> rcases h1 with ⟨b1, b2, b3, b4⟩ | ⟨b1, b2⟩ <;> omega
/-- the root's network -/
noncomputable def rtT (B : List Nat) : Nat → Nat → Nat
  | 0 => fun _ => 0
  | j + 1 => g_flip (rtT B j) (re B j 0) (re B j 1)
def reg (B : List Nat) (n : Nat) : Prop := ∀ p, p < n → ∃ v0 v1, RE B p 0 v0 ∧ RE B p 1 v1
theorem gw_0 {n : Nat} (h : n ≤ 14) : gw n (fun _ => 0) := ⟨h, fun _ => Nat.pow_pos (by decide), fun _ _ => rfl, fun _ _ => by rw [Nat.zero_testBit, Nat.zero_testBit], fun _ => Nat.zero_testBit _⟩
theorem gw_rt {B : List Nat} {n : Nat} (hN : nah B n ≤ 14) (hr : reg B n) : ∀ j, j ≤ n → gw (nah B n) (rtT B j)
  | 0, _ => gw_0 hN
  | j + 1, h => by
    obtain ⟨v0, v1, r0, r1⟩ := hr j h
    show gw (nah B n) (g_flip (rtT B j) (re B j 0) (re B j 1))
    rw [re_eq r0, re_eq r1]
    exact gw_flip (gw_rt hN hr j (Nat.le_of_succ_le h)) (RE_lt h (by decide) r0) (RE_lt h (by decide) r1) (RE_ne r0 r1)
/-- the most lines at a point of the root -/
def rms (B : List Nat) (n : Nat) : Nat := max (if nah B n ≤ B.length then 0 else 1) (gmx (fun k => ks_pop (B.getD k 0)) B.length)
theorem reg_of {B : List Nat} (h2 : two B) {n : Nat} : reg B n := fun p _ => by
  have key : ∀ w, ∃ v, RE B p w v := fun w => by
    rcases Nat.lt_or_ge w (cnt B p) with q | q
    · have : ∀ m, m ≤ B.length → w < ctk B p m → ∃ v, v < m ∧ (B.getD v 0).testBit p = true ∧ ctk B p v = w := by
        intro m
        induction m with
        | zero => intro _ h; exact absurd h (Nat.not_lt_zero _)
        | succ m ih =>
          intro hm h
          rcases Nat.lt_or_ge w (ctk B p m) with u | u
          · obtain ⟨v, v1, v2⟩ := ih (by omega) u
            exact ⟨v, by omega, v2⟩
          · rw [ctk_s] at h
            by_cases e : (B.getD m 0).testBit p = true
            · rw [if_pos e] at h
              exact ⟨m, by omega, e, by omega⟩
            · rw [if_neg e] at h
              omega
      obtain ⟨v, v1, v2, v3⟩ := this B.length (Nat.le_refl _) q
      exact ⟨v, Or.inl ⟨q, v1, v2, v3⟩⟩
    · exact ⟨_, Or.inr ⟨q, rfl⟩⟩
  obtain ⟨v0, h0⟩ := key 0
  obtain ⟨v1, h1⟩ := key 1
  exact ⟨v0, v1, h0, h1⟩
theorem ks_2s : ∀ c, c ≤ 2 → (2 : Int32) - nI c = nI (2 - c) := by decide +kernel
theorem s_cliquesOf {M : mm_Mem} {n p : Nat} {O s : Nat → Nat} {F : Nat} {B : List Nat} (h : cvm M n O s [] F B) (lB : B.length ≤ 14 ∧ ∀ C, C ∈ B → C < 16384) (hp : p < 14) : mm_S 1 mX2_cliquesOf 0 0 [.ref 11, .int (nI p)] M (mm_Eq (some (.int (nI (cnt B p)))) M) := by
  obtain ⟨g, b1, b2⟩ := h.2.2.2.2
  have hc := fun k => ctk_m (B := B) (p := p) (k := k) (l := B.length)
  refine mm_S.of rfl rfl (Nat.le_of_ble_eq_true rfl) mm_ndi (bX2_cliquesOf_0 ?_)
  rw [show (0 : Int32) = nI 0 from rfl]
  refine fld (s := 0) (n := B.length) (G := fun k v => mm_X mX2_cliquesOf 1 none (0, 0) 4 [.ref 11, .int (nI p), .int (nI v), .int (nI k)] [] M (mm_Eq (some (.int (nI (cnt B p)))) M)) (v0 := 0) (I := fun k v => v = ctk B p k) (Nat.zero_le _) rfl ?_
  rintro k v _ hk rfl ih
  refine bX2_cliquesOf_4 b1 h.1.2.2.1 (h.r 3 15 (by decide)) (by decide) (fun c => ⟨?_, rfl⟩) (fun c c1 => ?_) (fun c c1 => ?_)
  · rw [ks_le (by omega) (by omega)] at c
    rw [show k = B.length from by omega]
    rfl
  · rw [ks_le (by omega) (by omega)] at c
    have e := ks_getD (B := B) (k := k) (by omega)
    have := lB.2 _ (List.mem_of_getElem? e)
    rw [ks_at (by decide) (by omega), b2 k _ e, ks_has (by omega) hp, ks_b0] at c1
    rw [nI_1]
    exact ih _ (by omega) (by rw [ctk_s, if_neg c1, Nat.add_zero])
  · rw [ks_le (by omega) (by omega)] at c
    have e := ks_getD (B := B) (k := k) (by omega)
    have := lB.2 _ (List.mem_of_getElem? e)
    rw [ks_at (by decide) (by omega), b2 k _ e, ks_has (by omega) hp, ks_b0, Classical.not_not] at c1
    rw [nI_1, nI_1]
    exact ih _ (by omega) (by rw [ctk_s, if_pos c1])
theorem s_numberAhead {M : mm_Mem} {n p : Nat} {O s : Nat → Nat} {F : Nat} {B : List Nat} (h : cvm M n O s [] F B) (lB : B.length ≤ 14 ∧ ∀ C, C ∈ B → C < 16384) (h2 : two B) (hp : p ≤ 14) : mm_S 2 mX2_numberAhead 0 0 [.ref 11, .int (nI p)] M (mm_Eq (some (.int (nI (nah B p)))) M) := by
  refine mm_S.of rfl rfl (Nat.le_of_ble_eq_true rfl) mm_ndi (bX2_numberAhead_0 h.1.2.2.1 ?_)
  rw [show (0 : Int32) = nI 0 from rfl]
  refine fld (s := 0) (n := p) (G := fun q v => mm_X mX2_numberAhead 2 none (0, 0) 7 [.ref 11, .int (nI p), .int (nI v), .int (nI q)] [] M (mm_Eq (some (.int (nI (nah B p)))) M)) (v0 := B.length) (I := fun q v => v = nah B q) (Nat.zero_le _) rfl ?_
  rintro q v _ hq rfl ih
  refine bX2_numberAhead_7 h.1.2.2.1.rc (fun c => ⟨?_, rfl⟩) (fun c => ?_)
  · rw [ks_le (by omega) (by omega)] at c
    rw [show q = p from by omega]
  · rw [ks_le (by omega) (by omega)] at c
    refine mm_Call.eq (s_cliquesOf h lB (show q < 14 by omega)) (by decide) (bX2_numberAhead_19 ?_)
    rw [ks_2s _ (h2 q), nI_add, nI_1, ← nah_s]
    exact ih _ (by omega) rfl
theorem s_rootPoints {M : mm_Mem} {n : Nat} {O s : Nat → Nat} {F : Nat} {B : List Nat} (h : cvm M n O s [] F B) (lB : B.length ≤ 14 ∧ ∀ C, C ∈ B → C < 16384) (h2 : two B) (hn : n ≤ 14) : mm_S 3 mX2_rootPoints 0 0 [.ref 11] M (mm_Eq (some (.int (nI (nah B n)))) M) :=
  mm_S.of rfl rfl (Nat.le_of_ble_eq_true rfl) mm_ndi (bX2_rootPoints_0 h.1.2.1 (mm_Call.eq (s_numberAhead h lB h2 hn) (by decide) (bX2_rootPoints_8 ⟨rfl, rfl⟩)))
theorem s_rootEnd {M : mm_Mem} {n p w : Nat} {O s : Nat → Nat} {F : Nat} {B : List Nat} (h : cvm M n O s [] F B) (lB : B.length ≤ 14 ∧ ∀ C, C ∈ B → C < 16384) (h2 : two B) (hp : p < 14) (hw : w < 2) : mm_S 3 mX2_rootEnd 0 0 [.ref 11, .int (nI p), .int (nI w)] M (mm_Eq (some (.int (nI (re B p w)))) M) := by
  obtain ⟨g, b1, b2⟩ := h.2.2.2.2
  refine mm_S.of rfl rfl (Nat.le_of_ble_eq_true rfl) mm_ndi (bX2_rootEnd_0 ?_)
  rw [show (0 : Int32) = nI 0 from rfl]
  refine fld (s := 0) (n := B.length) (G := fun k (v : Nat) => mm_X mX2_rootEnd 3 none (0, 0) 5 [.ref 11, .int (nI p), .null, .int (nI v), .int (nI k)] [] M (mm_Eq (some (.int (nI (re B p w)))) M)) (v0 := w) (I := fun k v => ctk B p k ≤ w ∧ v = w - ctk B p k) (Nat.zero_le _) ⟨Nat.zero_le _, rfl⟩ ?_
  rintro k v _ hk ⟨hc, rfl⟩ ih
  refine bX2_rootEnd_5 b1 h.1.2.2.1 (h.r 3 15 (by decide)) (by decide) (fun c => ?_) (fun c c1 => ?_) (fun c c1 c2 => ?_) (fun c c1 c2 => ?_)
  · rw [ks_le (by omega) (by omega)] at c
    obtain rfl : k = B.length := by omega
    refine mm_Call.eq (s_numberAhead h lB h2 (show p ≤ 14 by omega)) (by decide) (bX2_rootEnd_51 ⟨?_, rfl⟩)
    rw [nI_add, re_eq (v := nah B p + (w - cnt B p)) (Or.inr ⟨hc, rfl⟩)]
    rfl
  · rw [ks_le (by omega) (by omega)] at c
    have e := ks_getD (B := B) (k := k) (by omega)
    have := lB.2 _ (List.mem_of_getElem? e)
    rw [ks_at (by decide) (by omega), b2 k _ e, ks_has (by omega) hp, ks_b0] at c1
    rw [nI_1]
    have e2 : ctk B p (k + 1) = ctk B p k := by rw [ctk_s, if_neg c1, Nat.add_zero]
    exact ih _ (by omega) ⟨by omega, by rw [e2]⟩
  · rw [ks_le (by omega) (by omega)] at c
    have e := ks_getD (B := B) (k := k) (by omega)
    have := lB.2 _ (List.mem_of_getElem? e)
    rw [ks_at (by decide) (by omega), b2 k _ e, ks_has (by omega) hp, ks_b0, Classical.not_not] at c1
    rw [ks_eq0 (by omega)] at c2
    have e2 : ctk B p (k + 1) = ctk B p k + 1 := by rw [ctk_s, if_pos c1]
    rw [nI_1, ← Int32.sub_eq_add_neg, nI_sub1 c2]
    exact ih _ (by omega) ⟨by omega, by omega⟩
  · rw [ks_le (by omega) (by omega)] at c
    have e := ks_getD (B := B) (k := k) (by omega)
    have := lB.2 _ (List.mem_of_getElem? e)
    rw [ks_at (by decide) (by omega), b2 k _ e, ks_has (by omega) hp, ks_b0, Classical.not_not] at c1
    rw [ks_eq0 (by omega)] at c2
    have := ctk_lt (l := B.length) (by omega) c1
    exact ⟨by rw [re_eq (v := k) (Or.inl ⟨show w < ctk B p B.length by omega, by omega, c1, by omega⟩)], rfl⟩
theorem s_leadsBack {M : mm_Mem} {n : Nat} {O s : Nat → Nat} {F : Nat} {B : List Nat} (h : cvm M n O s [] F B) (lB : B.length ≤ 14 ∧ ∀ C, C ∈ B → C < 16384) (h2 : F ≠ 0 → two B) (hF : F < 2 ^ 30) (hn : n ≤ 14) : mm_S 4 mX2_leadsBack 0 0 [.ref 11] M (mm_Eq (some (.int (ks_b (F ≠ 0 ∧ nah B n ≤ 14)))) M) := by
  have := nah_le (B := B) (p := n)
  refine mm_S.of rfl rfl (Nat.le_of_ble_eq_true rfl) mm_ndi (bX2_leadsBack_0 h.1.2.2.2 (fun c => ⟨?_, rfl⟩) (fun c => ?_))
  · rw [show (0 : Int32) = nI 0 from rfl, ks_le (by omega) (by omega)] at c
    rw [ks_bf (fun q => q.1 (by omega))]
  · rw [show (0 : Int32) = nI 0 from rfl, ks_le (by omega) (by omega)] at c
    refine mm_Call.eq (s_rootPoints h lB (h2 (by omega)) hn) (by decide) (bX2_leadsBack_11 (fun c1 => ⟨?_, rfl⟩) (fun c1 => ⟨?_, rfl⟩))
    · rw [show (14 : Int32) = nI 14 from rfl, ks_ltI (by omega) (by omega)] at c1
      rw [ks_bf (fun q => by omega)]
    · rw [show (14 : Int32) = nI 14 from rfl, ks_ltI (by omega) (by omega)] at c1
      rw [ks_bt ⟨by omega, by omega⟩]
theorem s_rootMostLines {M : mm_Mem} {n : Nat} {O s : Nat → Nat} {F : Nat} {B : List Nat} (h : cvm M n O s [] F B) (lB : B.length ≤ 14 ∧ ∀ C, C ∈ B → C < 16384) (h2 : two B) (hn : n ≤ 14) : mm_S 4 mX2_rootMostLines 0 0 [.ref 11] M (mm_Eq (some (.int (nI (rms B n)))) M) := by
  have hN := nah_le (B := B) (p := n)
  obtain ⟨g, b1, b2⟩ := h.2.2.2.2
  refine mm_S.of rfl rfl (Nat.le_of_ble_eq_true rfl) mm_ndi (bX2_rootMostLines_0 h.1.2.2.1.rc (mm_Call.eq (s_rootPoints h lB h2 hn) (by decide) ?_))
  have H : ∀ m0, m0 ≤ 1 → m0 = (if nah B n ≤ B.length then 0 else 1) → mm_X mX2_rootMostLines 4 none (0, 0) 19 [.ref 11, .int (nI m0), .int (nI 0)] [] M (mm_Eq (some (.int (nI (rms B n)))) M) := by
    intro m0 hm0 he
    refine fld (s := 0) (n := B.length) (G := fun k (v : Nat) => mm_X mX2_rootMostLines 4 none (0, 0) 19 [.ref 11, .int (nI v), .int (nI k)] [] M (mm_Eq (some (.int (nI (rms B n)))) M)) (v0 := m0) (I := fun k v => v = max m0 (gmx (fun k => ks_pop (B.getD k 0)) k)) (Nat.zero_le _) (Nat.max_eq_left (Nat.zero_le _)).symm ?_
    rintro k v _ hk rfl ih
    have lg : gmx (fun k => ks_pop (B.getD k 0)) k ≤ 14 := gmx_le fun i _ => ks_pop_le _
    have lm : max m0 (gmx (fun k => ks_pop (B.getD k 0)) k) ≤ 14 := Nat.max_le.mpr ⟨by omega, lg⟩
    refine bX2_rootMostLines_19 b1 h.1.2.2.1 (h.r 3 15 (by decide)) (by decide) (fun c => ⟨?_, rfl⟩) (fun c => ?_)
    · rw [ks_le (by omega) (by omega)] at c
      obtain rfl : k = B.length := by omega
      unfold rms
      rw [he]
    · rw [ks_le (by omega) (by omega)] at c
      have e := ks_getD (B := B) (k := k) (by omega)
      have l1 := lB.2 _ (List.mem_of_getElem? e)
      have l2 := ks_pop_le (B.getD k 0)
      rw [ks_at (by decide) (by omega), b2 k _ e, ks_cnt l1, nI_1]
      have e2 : (if nI (max m0 (gmx (fun k => ks_pop (B.getD k 0)) k)) < nI (ks_pop (B.getD k 0)) then nI (ks_pop (B.getD k 0)) else nI (max m0 (gmx (fun k => ks_pop (B.getD k 0)) k))) = nI (max m0 (gmx (fun k => ks_pop (B.getD k 0)) (k + 1))) := by
        show _ = nI (max m0 (if gmx (fun k => ks_pop (B.getD k 0)) k < ks_pop (B.getD k 0) then ks_pop (B.getD k 0) else gmx (fun k => ks_pop (B.getD k 0)) k))
        generalize gmx (fun k => ks_pop (B.getD k 0)) k = x at lm lg ⊢
        generalize ks_pop (B.getD k 0) = y at l2 ⊢
        by_cases q : max m0 x < y
        · rw [if_pos ((ks_ltI (by omega) (by omega)).mpr q)]
          have := Nat.le_max_left m0 x
          have := Nat.le_max_right m0 x
          rw [if_pos (by omega), Nat.max_eq_right (by omega)]
        · rw [if_neg (fun w => q ((ks_ltI (by omega) (by omega)).mp w))]
          by_cases q2 : x < y
          · rw [if_pos q2]
            rcases Nat.le_total m0 x with z | z
            · rw [Nat.max_eq_right z] at q
              omega
            · rw [Nat.max_eq_left z] at q ⊢
              rw [Nat.max_eq_left (by omega)]
          · rw [if_neg q2]
      rw [e2]
      exact ih _ (by omega) rfl
  refine bX2_rootMostLines_4 h.1.2.2.1 (fun c => ?_) (fun c => ?_)
  · rw [ks_le (by omega) (by omega)] at c
    exact H 0 (by decide) (by rw [if_pos c])
  · rw [ks_le (by omega) (by omega)] at c
    exact H 1 (by decide) (by rw [if_neg c])
theorem s_writeRoot {M : mm_Mem} {n k n0 : Nat} {T0 : Nat → Nat} {O s : Nat → Nat} {F : Nat} {B : List Nat} (h : cvm M n O s [] F B) (lB : B.length ≤ 14 ∧ ∀ C, C ∈ B → C < 16384) (h2 : two B) (hn : n ≤ 14) (hN : nah B n ≤ 14) (o : na M k n0 T0) (hw0 : gw n0 T0) (hk : k + 1 < 11) : mm_S 4 mX2_writeRoot 0 0 [.ref 11, .ref k] M (mm_Eq none (mm_net M k (nah B n) (rtT B n))) := by
  have hr := reg_of h2 (n := n)
  refine mm_S.of rfl rfl (Nat.le_of_ble_eq_true rfl) mm_ndn (bX2_writeRoot_0 h.1.2.1 (mm_Call.eq (s_rootPoints h lB h2 hn) (by decide) (bX2_writeRoot_10 o.1 (mm_Call.eq (s_clear o (gw_z hw0) hN) (by decide) (bX2_writeRoot_13 ?_)))))
  rw [show (0 : Int32) = nI 0 from rfl]
  refine fld (s := 0) (n := n) (G := fun p (T : Nat → Nat) => mm_X mX2_writeRoot 4 none (0, 0) 15 [.ref 11, .ref k, .int (nI n), .int (nI p)] [] (mm_net M k (nah B n) T) _) (v0 := fun _ => 0) (I := fun p T => T = rtT B p) (Nat.zero_le n) rfl ?_
  rintro p _ _ hp rfl ih
  have e1 : ∀ j, 11 ≤ j → mm_net M k (nah B n) (rtT B p) j = M j := fun j hj => mm_net_n (by omega) (by omega)
  have h' : cvm (mm_net M k (nah B n) (rtT B p)) n O s [] F B := ⟨h.1.eq (e1 11 (by decide)), h.2.1.eq (e1 12 (by decide)), h.2.2.1.eq (e1 13 (by decide)), h.2.2.2.1.eq (e1 14 (by decide)), h.2.2.2.2.eq (e1 15 (by decide))⟩
  refine bX2_writeRoot_15 h'.1.2.1.rc (fun c => ⟨rfl, ?_⟩) (fun c => ?_)
  · rw [ks_le (by omega) (by omega)] at c
    rw [show p = n from by omega]
  rw [ks_le (by omega) (by omega)] at c
  obtain ⟨v0, v1, r0, r1⟩ := hr p (by omega)
  have a0 := RE_lt (show p < n by omega) (by decide) r0
  have a1 := RE_lt (show p < n by omega) (by decide) r1
  have hq := RE_ne r0 r1
  refine mm_Call.eq (s_rootEnd (w := 0) h' lB h2 (show p < 14 by omega) (by decide)) (by decide) (bX2_writeRoot_27 h'.1.2.1.rc (mm_Call.eq (s_rootEnd (w := 1) h' lB h2 (show p < 14 by omega) (by decide)) (by decide) ?_))
  have q : na (mm_net M k (nah B n) (rtT B p)) k (nah B n) (rtT B p) := mm_net_na o.k
  refine bX2_writeRoot_33 q.1 q.2 (by omega) (by decide) ?_
  rw [re_eq r0, re_eq r1, g_flip_f (by omega) (by omega) hq, mm_net_up rfl, nI_1]
  exact ih _ (by omega) (by show _ = g_flip (rtT B p) (re B p 0) (re B p 1); rw [re_eq r0, re_eq r1])
