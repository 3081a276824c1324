theorem cvq_lt : ∀ q ∈ cvq, q.1 < 4 := by decide
theorem cvh.eq {M M' : mm_Mem} {n sz fn : Int32} (h : cvh M n sz fn) (e : M' 11 = M 11) : cvh M' n sz fn := ⟨fun q hq => (h.1 q hq).eq e, h.2.1.eq e, h.2.2.1.eq e, h.2.2.2.eq e⟩
theorem cvh.s4 {M : mm_Mem} {n sz fn : Int32} (h : cvh M n sz fn) (x : Int32) : cvh (mm_upF M 11 4 (.int x)) x sz fn := ⟨fun q hq => (h.1 q hq).n (by have := cvq_lt q hq; omega), h.2.1.s, h.2.2.1.n (by decide), h.2.2.2.n (by decide)⟩
theorem cvh.s5 {M : mm_Mem} {n sz fn : Int32} (h : cvh M n sz fn) (x : Int32) : cvh (mm_upF M 11 5 (.int x)) n x fn := ⟨fun q hq => (h.1 q hq).n (by have := cvq_lt q hq; omega), h.2.1.n (by decide), h.2.2.1.s, h.2.2.2.n (by decide)⟩
theorem cvh.s6 {M : mm_Mem} {n sz fn : Int32} (h : cvh M n sz fn) (x : Int32) : cvh (mm_upF M 11 6 (.int x)) n sz x := ⟨fun q hq => (h.1 q hq).n (by have := cvq_lt q hq; omega), h.2.1.n (by decide), h.2.2.1.n (by decide), h.2.2.2.s⟩
theorem s_keepRow {M : mm_Mem} {n : Nat} {O s : Nat → Nat} {R1 : List Nat} {F : Nat} {B : List Nat} (h : cvm M n O s R1 F B) (hF : F < 999) (hl : R1.length ≤ 14) : mm_S 1 mX2_keepRow 0 0 [.ref 11, .int (nI R1.length)] M (fun r M' => r = none ∧ cvm M' n O s R1 (F + 1) (if F = 0 then R1 else B) ∧ ∀ j, j ≠ 11 → j ≠ 15 → M' j = M j) := by
  obtain ⟨h1, h2, h3, ⟨f, o1, o2⟩, ⟨g, p1, p2⟩⟩ := id h
  refine mm_S.of rfl rfl (Nat.le_of_ble_eq_true rfl) (fun r M' h x e => by rw [h.1] at e; cases e) (bX2_keepRow_0 h1.2.2.2 h1.2.2.1 (fun c => ?_) (fun c => ?_))
  · rw [ks_eq0 (by omega)] at c
    rw [nI_1, if_neg c]
    have e : ∀ j, j ≠ 11 → mm_upF M 11 6 (.int (nI (F + 1))) j = M j := fun j hj => mm_upF_n hj
    exact ⟨rfl, ⟨h1.s6 _, h2.eq (e 12 (by decide)), h3.eq (e 13 (by decide)), ⟨f, o1.eq (e 14 (by decide)), o2⟩, ⟨g, p1.eq (e 15 (by decide)), p2⟩⟩, fun j hj _ => e j hj⟩
  · rw [ks_eq0 (by omega)] at c
    subst c
    rw [if_pos rfl, show (0 : Int32) = nI 0 from rfl]
    have k1 := h1.s5 (nI R1.length)
    have e0 : ∀ j, j ≠ 11 → mm_upF M 11 5 (.int (nI R1.length)) j = M j := fun j hj => mm_upF_n hj
    generalize mm_upF M 11 5 (.int (nI R1.length)) = M0 at k1 e0 ⊢
    refine fld (s := 0) (n := R1.length) (G := fun k (q : mm_Mem) => mm_X mX2_keepRow 1 none (0, 0) 14 [.ref 11, .int (nI R1.length), .int (nI k)] [] q _) (v0 := M0) (I := fun k q => (∃ g, mm_at q 15 (mm_aI 14 g) ∧ ∀ i C, i < k → R1[i]? = some C → g i = nI C) ∧ ∀ j, j ≠ 15 → q j = M0 j) (Nat.zero_le _) ⟨⟨g, p1.eq (e0 15 (by decide)), fun i C hi => absurd hi (Nat.not_lt_zero i)⟩, fun _ _ => rfl⟩ ?_
    rintro k M1 _ hk ⟨⟨g1, q1, q2⟩, e1⟩ ih
    have e11 := e1 11 (by decide)
    have o1' : mm_at M1 14 (mm_aI 14 f) := o1.eq ((e1 14 (by decide)).trans (e0 14 (by decide)))
    have k2 := k1.eq e11
    refine bX2_keepRow_14 o1' q1 k2.2.2.2 (k2.1 (3, 15) (by decide)) (k2.1 (2, 14) (by decide)) (by decide) (fun c => ?_) (fun c => ?_)
    · rw [ks_le (by omega) (by omega)] at c
      rw [nI_1]
      have e2 : ∀ j, j ≠ 11 → mm_upF M1 11 6 (.int (nI (0 + 1))) j = M1 j := fun j hj => mm_upF_n hj
      have e3 : ∀ j, j ≠ 11 → j ≠ 15 → mm_upF M1 11 6 (.int (nI (0 + 1))) j = M j := fun j h1 h2 => ((e2 j h1).trans (e1 j h2)).trans (e0 j h1)
      exact ⟨rfl, ⟨k2.s6 _, h2.eq (e3 12 (by decide) (by decide)), h3.eq (e3 13 (by decide) (by decide)), ⟨f, o1.eq (e3 14 (by decide) (by decide)), o2⟩, ⟨g1, q1.eq (e2 15 (by decide)), fun i C hi => q2 i C (by have := (List.getElem?_eq_some_iff.mp hi).1; omega) hi⟩⟩, e3⟩
    · rw [ks_le (by omega) (by omega)] at c
      obtain ⟨C, hC⟩ : ∃ C, R1[k]? = some C := ⟨_, List.getElem?_eq_getElem (by omega)⟩
      rw [ks_at (by decide) (by omega), o2 k C hC, ks_put (by decide) (by omega), nI_1]
      refine ih _ (by omega) ⟨⟨_, mm_at.s q1.1, fun i D hi hD => ?_⟩, fun j hj => (mm_up_n hj).trans (e1 j hj)⟩
      by_cases u : i = k
      · subst u
        rw [hC] at hD
        rw [pk_us, Option.some.inj hD]
      · rw [pk_un u]
        exact q2 i D (by omega) hD
theorem rwl_pre {M : mm_Mem} {a : Nat} {R S : List Nat} (h : rwl M a (R ++ S)) : rwl M a R := by
  obtain ⟨f, h1, h2⟩ := h
  exact ⟨f, h1, fun k C hk => h2 k C (by rw [List.getElem?_append_left (List.getElem?_eq_some_iff.mp hk).1]; exact hk)⟩
abbrev z0 : Nat → Nat := fun _ => 0
def sk (M : mm_Mem) (n : Nat) (T : Nat → Nat) (R1 : List Nat) (F : Nat) (B : List Nat) (r : Option Value) (M' : mm_Mem) : Prop := r = none ∧ (∃ Ls, rws (kOR T R1) (kSR z0 R1) Ls ∧ cvm M' n (kOR T R1) (kSR z0 R1) R1 (min 999 (F + Ls.length)) (bst F R1 B Ls)) ∧ ∀ j, j < 11 ∨ 15 < j → M' j = M j
theorem sk_nd {M : mm_Mem} {n : Nat} {T : Nat → Nat} {R1 : List Nat} {F : Nat} {B : List Nat} : ∀ r M', sk M n T R1 F B r M' → ∀ x, r ≠ some (.double x) := fun r M' h x e => by rw [h.1] at e; cases e
theorem s_seek {n : Nat} {T : Nat → Nat} (hT : gw n T) : ∀ m R1 M F B, R1.length + m = 15 → val T z0 R1 → cvm M n (kOR T R1) (kSR z0 R1) R1 F B → F ≤ 999 → mm_S (m + 3) mX2_seek 0 0 [.ref 11, .int (nI R1.length)] M (sk M n T R1 F B) := by
  intro m
  induction m with
  | zero =>
    intro R1 M F B h1 h2
    have := val_n hT h2 fun _ => Nat.zero_le _
    have := hT.1
    omega
  | succ m ih =>
    intro R1 M F B h1 h2 h hF
    have hl := val_n hT h2 fun _ => Nat.zero_le _
    have hn := hT.1
    have hw := gw_kOR R1 hT
    have hs2 := (val_len R1 _ _ hT h2 fun _ => Nat.zero_le _).1
    refine mm_S.of rfl rfl (Nat.le_of_ble_eq_true rfl) sk_nd (bX2_seek_0 h.1.2.2.2 (fun c => ?_) (fun _ c => ?_) (fun _ c => ?_))
    · rw [show (14 : Int32) = nI 14 from rfl, ks_ltI (by omega) (by omega)] at c
      omega
    rotate_left
    · rw [show (999 : Int32) = nI 999 from rfl, ks_ltI (by omega) (by omega)] at c
      obtain rfl : F = 999 := by omega
      obtain ⟨Ls, hL⟩ := rws_ex hT (m + 1) R1 h1 h2
      refine ⟨rfl, ⟨Ls, hL, ?_⟩, fun _ _ => rfl⟩
      rw [show min 999 (999 + Ls.length) = 999 from by omega, show bst 999 R1 B Ls = B from rfl]
      exact h
    rw [show (999 : Int32) = nI 999 from rfl, ks_ltI (by omega) (by omega)] at c
    refine mm_Call.of (s_firstOpen h hw) (by omega) ?_
    obtain ⟨f, o1, o2⟩ := h.2.1
    rintro r M2 ⟨rfl, ⟨rfl, hz⟩ | ⟨a, ha, rfl, hne, hz⟩⟩
    · refine bX2_seek_21 o1 (h.r 0 12 (by decide)) h.1.2.1 (by omega) (fun c1 => absurd rfl c1) (fun _ => mm_Call.of (s_keepRow h c (by omega)) (by omega) ?_)
      rintro _ M3 ⟨rfl, k1, k2⟩
      refine bX2_seek_32 ⟨rfl, ⟨[[]], ⟨List.pairwise_singleton _ _, fun R => ?_⟩, ?_⟩, fun j hj => k2 j (by omega) (by omega)⟩
      · rw [List.mem_singleton]
        constructor
        · rintro rfl
          exact hz
        · intro q
          cases R with
          | nil => rfl
          | cons C R =>
            obtain ⟨⟨a, b, f, -⟩, -⟩ := q.1
            exact absurd (hz a) (fo_ne f)
      · rw [show min 999 (F + [([] : List Nat)].length) = F + 1 from by rw [List.length_singleton]; omega, show bst F R1 B [[]] = if F = 0 then R1 else B from by
          show (if F = 0 then R1 ++ [] else B) = _
          rw [List.append_nil]]
        exact k1
    obtain ⟨b, hb⟩ := ks_fst_ex hne
    have hf : fo (kOR T R1) a b := ⟨hz, hb⟩
    have hab := fo_lt hw hf
    have hwh := wh_lt hw hf
    have hwh' := ks_p14 hn hwh
    have hOa := gw_ok hw a
    have e1 : qX9_at (nI a) 14 f = nI (kOR T R1 a) := by rw [ks_at (by decide) (by omega), o2 a ha]
    have e2 : qX9_at (nI b) 14 f = nI (kOR T R1 b) := by rw [ks_at (by decide) (by omega), o2 b hab.2]
    refine bX2_seek_21 o1 (h.r 0 12 (by decide)) h.1.2.1 (by omega) (fun _ => ?_) (fun c1 => absurd (show nI a < 0 from by rw [c1]; decide) (nI_pos (by omega)))
    rw [e1, ks_low hOa hb, e2, ks_neg (by omega) hb, nx_and, ks_shl1 _ (by omega), nx_or, nx_or]
    show mm_X mX2_seek (m + 1 + 3) none (0, 0) 78 [.ref 11, .int (nI R1.length), .null, .null, .int (nI (kOR T R1 a &&& kOR T R1 b)), .int (nI (wh (kOR T R1) a b)), .int (nI n - 1), .null] [] _ _
    have lB : kOR T R1 a &&& kOR T R1 b < 2 ^ n := ks_and_lt (hw.2.1 a)
    have lB' := ks_p14 hn lB
    have tryC : ∀ (C : Nat) (i6 : Int32) (M1 : mm_Mem) (Ls : List (List Nat)), cvm M1 n (kOR T R1) (kSR z0 R1) R1 (min 999 (F + Ls.length)) (bst F R1 B Ls) → (∀ j, j < 11 ∨ 15 < j → M1 j = M2 j) → C < 2 ^ n → (fit (kOR T R1) (kSR z0 R1) C → stp (kOR T R1) (kSR z0 R1) C) → (¬ fit (kOR T R1) (kSR z0 R1) C → mm_X mX2_seek (m + 1 + 3) none (0, 0) 165 [.ref 11, .int (nI R1.length), .null, .null, .int (nI (kOR T R1 a &&& kOR T R1 b)), .int (nI (wh (kOR T R1) a b)), .int i6, .null] [] M1 (sk M2 n T R1 F B)) → (∀ M3 L', stp (kOR T R1) (kSR z0 R1) C → rws (kO (kOR T R1) C) (kS (kSR z0 R1) C) L' → cvm M3 n (kOR T R1) (kSR z0 R1) R1 (min 999 (F + (Ls ++ L'.map fun R => C :: R).length)) (bst F R1 B (Ls ++ L'.map fun R => C :: R)) → (∀ j, j < 11 ∨ 15 < j → M3 j = M2 j) → mm_X mX2_seek (m + 1 + 3) none (0, 0) 165 [.ref 11, .int (nI R1.length), .null, .null, .int (nI (kOR T R1 a &&& kOR T R1 b)), .int (nI (wh (kOR T R1) a b)), .int i6, .null] [] M3 (sk M2 n T R1 F B)) → mm_Call (m + 1 + 3) mX2_fits [.ref 11, .int (nI C)] M1 (fun r M3 => mm_X mX2_seek (m + 1 + 3) none (0, 0) 131 [.ref 11, .int (nI R1.length), .null, .null, .int (nI (kOR T R1 a &&& kOR T R1 b)), .int (nI (wh (kOR T R1) a b)), .int i6, .int (nI C)] (r.toList ++ []) M3 (sk M2 n T R1 F B)) := by
      intro C i6 M1 Ls g1 g2 hC hfs no yes
      obtain ⟨q1, q2, q3, ⟨fw, q4, q4'⟩, q5⟩ := id g1
      refine mm_Call.eq (s_fitsC g1 hw hs2 hC) (by omega) (bX2_seek_131 q4 (g1.r 2 14 (by decide)) (by decide) (by omega) (fun c1 => ?_) (fun c1 => ?_))
      · rw [ks_b0] at c1
        exact no c1
      · rw [ks_b0, Classical.not_not] at c1
        have hs := hfs c1
        have hv : val T z0 (R1 ++ [C]) := (val_snoc R1 _ _ C).mpr ⟨h2, hs⟩
        have hl2 := val_n hT hv fun _ => Nat.zero_le _
        rw [List.length_append, List.length_singleton] at hl2
        rw [ks_put (by decide) (by omega)]
        have a1 : cvm (mm_up M1 14 (mm_aI 14 (upd fw R1.length (nI C)))) n (kOR T R1) (kSR z0 R1) (R1 ++ [C]) (min 999 (F + Ls.length)) (bst F R1 B Ls) := by
          refine ⟨q1.eq (mm_up_n (by decide)), q2.eq (mm_up_n (by decide)), q3.eq (mm_up_n (by decide)), ⟨_, mm_at.s q4.1, fun i D hD => ?_⟩, q5.eq (mm_up_n (by decide))⟩
          by_cases u : i < R1.length
          · rw [List.getElem?_append_left u] at hD
            rw [pk_un (by omega)]
            exact q4' i D hD
          · have hi := (List.getElem?_eq_some_iff.mp hD).1
            rw [List.length_append, List.length_singleton] at hi
            obtain rfl : i = R1.length := by omega
            rw [List.getElem?_append_right (Nat.le_refl _), Nat.sub_self] at hD
            rw [pk_us, ← Option.some.inj hD]
        have b1 : ∀ j, j < 11 ∨ 15 < j → mm_up M1 14 (mm_aI 14 (upd fw R1.length (nI C))) j = M2 j := fun j hj => (mm_up_n (by omega)).trans (g2 j hj)
        generalize mm_up M1 14 (mm_aI 14 (upd fw R1.length (nI C))) = M4 at a1 b1 ⊢
        refine mm_Call.of (s_seat (by' := 1) (O' := kO (kOR T R1) C) (s' := kS (kSR z0 R1) C) a1 hn hC (fun p hp hp1 => ⟨by rw [nI_1]; exact congrArg nI (if_pos hp1).symm, (stp_xor hw hs hp1).1⟩) (fun p hp hp1 => ⟨(if_neg hp1).symm, (if_neg hp1).symm⟩)) (by omega) ?_
        rintro _ M5 ⟨rfl, a2, b2⟩
        refine bX2_seek_151 ?_
        rw [← kOR_snoc, ← kSR_snoc] at a2
        have := ih (R1 ++ [C]) M5 _ _ (by rw [List.length_append, List.length_singleton]; omega) hv a2 (by omega)
        rw [List.length_append, List.length_singleton] at this
        rw [nI_1]
        refine mm_Call.of this (by omega) ?_
        rintro _ M6 ⟨rfl, ⟨L', a3, a4⟩, b3⟩
        rw [kOR_snoc, kSR_snoc] at a3 a4
        refine bX2_seek_158 a4.1.2.1.rc (mm_Call.of (s_seat (by' := -1) (O' := kOR T R1) (s' := kSR z0 R1) a4 hn hC (fun p hp hp1 => ⟨?_, (stp_xor hw hs hp1).2⟩) (fun p hp hp1 => ⟨if_neg hp1, if_neg hp1⟩)) (by omega) ?_)
        · rw [show kS (kSR z0 R1) C p = kSR z0 R1 p + 1 from if_pos hp1, ← Int32.sub_eq_add_neg]
          exact nI_pred _
        rintro _ M7 ⟨rfl, a5, b5⟩
        rw [bst_map, bst_app, min_add] at a5
        refine yes M7 L' hs a3 ?_ (fun j hj => (b5 j (by omega) (by omega)).trans ((b3 j hj).trans ((b2 j (by omega) (by omega)).trans (b1 j hj))))
        rw [List.length_append, List.length_map]
        exact ⟨a5.1, a5.2.1, a5.2.2.1, rwl_pre a5.2.2.2.1, a5.2.2.2.2⟩
    have H : ∀ k, k ≤ n → ∀ (M1 : mm_Mem) (Ls : List (List Nat)), PL (kOR T R1) (kSR z0 R1) a b k Ls → cvm M1 n (kOR T R1) (kSR z0 R1) R1 (min 999 (F + Ls.length)) (bst F R1 B Ls) → (∀ j, j < 11 ∨ 15 < j → M1 j = M2 j) → mm_X mX2_seek (m + 1 + 3) none (0, 0) 78 [.ref 11, .int (nI R1.length), .null, .null, .int (nI (kOR T R1 a &&& kOR T R1 b)), .int (nI (wh (kOR T R1) a b)), .int (nI k - 1), .null] [] M1 (sk M2 n T R1 F B) := by
      intro k
      induction k with
      | zero =>
        intro _ M1 Ls hP g1 g2
        refine bX2_seek_78 g1.1.2.1.rc (by omega) (fun c1 => absurd c1 (by decide)) (fun _ _ c1 => absurd (by decide) c1) (fun _ _ _ => ?_) (fun _ c1 => absurd (by decide) c1) (fun _ c1 => absurd (by decide) c1) (fun _ c1 => absurd (by decide) c1)
        refine tryC _ _ M1 Ls g1 g2 hwh (fun q => fit_stp hw hwh q hf (wh_bit.mpr (Or.inl rfl)) (wh_bit.mpr (Or.inr (Or.inl rfl)))) (fun q => ?_) (fun M3 L' hs hL g3 g4 => ?_)
        · refine bX2_seek_165 (bX2_seek_78 g1.1.2.1.rc (by omega) (fun _ => ⟨rfl, ⟨Ls, PL_end0 hw hf hP ?_, g1⟩, g2⟩) (fun c1 => absurd (by decide) c1) (fun c1 => absurd (by decide) c1) (fun c1 => absurd (by decide) c1) (fun c1 => absurd (by decide) c1) (fun c1 => absurd (by decide) c1))
          rintro ⟨R', r⟩
          exact q (cv_fit hw r)
        · exact bX2_seek_165 (bX2_seek_78 g3.1.2.1.rc (by omega) (fun _ => ⟨rfl, ⟨_, PL_end hw hf hP hs hL, g3⟩, g4⟩) (fun c1 => absurd (by decide) c1) (fun c1 => absurd (by decide) c1) (fun c1 => absurd (by decide) c1) (fun c1 => absurd (by decide) c1) (fun c1 => absurd (by decide) c1))
      | succ k ik =>
        intro hk M1 Ls hP g1 g2
        rw [nI_pred]
        have ne : ¬ nI k = -1 := fun q => nI_pos (n := k) (by omega) (by rw [q]; decide)
        have nl : ¬ nI k < -1 := fun q => nI_pos (n := k) (by omega) (Int32.lt_trans q (by decide))
        have e3 : nI k + (-1) = nI k - 1 := by rw [Int32.sub_eq_add_neg]
        have lN : ks_nd (wh (kOR T R1) a b) (2 ^ k) < 2 ^ n := ks_nd_lt hwh
        refine bX2_seek_78 g1.1.2.1.rc (by omega) (fun c1 => absurd c1 nl) (fun _ c1 => absurd c1 ne) (fun _ c1 => absurd c1 ne) (fun _ _ c1 _ => ?_) (fun _ _ _ c1 => absurd c1 ne) (fun _ _ c1 => ?_)
        · rw [ks_has (by omega) (by omega), ks_b0, Classical.not_not] at c1
          rw [ks_shl1 _ (by omega), ks_andn]
          have fab := fit_ab hw hf c1
          refine tryC _ _ M1 Ls g1 g2 lN (fun q => fit_stp hw lN q hf fab.1 fab.2) (fun q => bX2_seek_165 ?_) (fun M3 L' hs hL g3 g4 => bX2_seek_165 ?_)
          · rw [e3]
            refine ik (by omega) M1 Ls (PL_skip hP fun _ => ?_) g1 g2
            rintro ⟨R', r⟩
            exact q (cv_fit hw r)
          · rw [e3]
            exact ik (by omega) M3 _ (PL_add hw hf hP c1 hs hL) g3 g4
        · rw [ks_has (by omega) (by omega), ks_b0] at c1
          refine bX2_seek_165 ?_
          rw [e3]
          exact ik (by omega) M1 Ls (PL_skip hP fun q => absurd q c1) g1 g2
    refine H n (Nat.le_refl n) M2 [] (PL_n hw) ?_ fun _ _ => rfl
    rw [bst_nil, List.length_nil, Nat.add_zero, show min 999 F = F from by omega]
    exact h
