/-! THE SYSTEM'S STATE: both sides hold one value -/
noncomputable def pif {α : Type} (P : Prop) (a b : α) : α := @ite α P (Classical.propDecidable P) a b
theorem pif_t {α : Type} {P : Prop} {a b : α} (h : P) : pif P a b = a := by unfold pif; rw [if_pos h]
theorem pif_f {α : Type} {P : Prop} {a b : α} (h : ¬ P) : pif P a b = b := by unfold pif; rw [if_neg h]
/-- points, ties, what can be undone, what is kept, the tape, the fault -/
abbrev g_st : Type := Nat × (Nat → Nat) × g_nets × g_kept × Nat × (Nat → Int32) × Int32
def CS (M : mm_Mem) : g_st → Prop
  | (n, T, L, K, t, f, fk) => (∃ pf sd, co M pf fk sd ∧ pl M pf K) ∧ na M 1 n T ∧ gw n T ∧ nj M 3 ∧ ct M t f ∧ cr M ∧ cc M ∧ pv M ∧ cp M ∧ acts M L
theorem CS.eq {M M' : mm_Mem} {σ : g_st} (h : CS M σ) (e : ∀ j, j < 31 → M' j = M j) : CS M' σ := by
  obtain ⟨n, T, L, K, t, f, fk⟩ := σ
  obtain ⟨⟨pf, sd, h1, h2⟩, h3, h4, h5, h6, h7, h8, h9, h10, h11⟩ := h
  exact ⟨⟨pf, sd, h1.eq (e 0 (by decide)), h2.eq (e 29 (by decide)) (e 30 (by decide))⟩, h3.eq (e 1 (by decide)) (e 2 (by decide)), h4, h5.eq (e 3 (by decide)) (e 4 (by decide)), h6.eq (e 5 (by decide)) (e 6 (by decide)), h7.eq fun j _ h => e j (by omega), h8.eq fun j _ h => e j (by omega), h9.eq fun j _ h => e j (by omega), h10.eq fun j _ h => e j (by omega), h11.eq fun j _ h => e j (by omega)⟩
/-- a call that changes the net and what can be undone -/
theorem CS.act {M M' : mm_Mem} {n n' : Nat} {T T' : Nat → Nat} {L L' : g_nets} {K : g_kept} {t : Nat} {f : Nat → Int32} {fk : Int32} (h : CS M (n, T, L, K, t, f, fk)) (hc : ∀ pf sd, co M pf fk sd → ∃ sd', co M' pf fk sd') (o : na M' 1 n' T') (hw : gw n' T') (o3 : nj M' 3) (ha : acts M' L') (e : ∀ j, 4 < j → j < 31 → (j < 26 ∨ 28 < j) → M' j = M j) : CS M' (n', T', L', K, t, f, fk) := by
  obtain ⟨⟨pf, sd, h1, h2⟩, h3, h4, h5, h6, h7, h8, h9, h10, h11⟩ := h
  obtain ⟨sd', h1'⟩ := hc pf sd h1
  exact ⟨⟨pf, sd', h1', h2.eq (e 29 (by decide) (by decide) (by decide)) (e 30 (by decide) (by decide) (by decide))⟩, o, hw, o3, h6.eq (e 5 (by decide) (by decide) (by decide)) (e 6 (by decide) (by decide) (by decide)), h7.eq fun j _ h => e j (by omega) (by omega) (by omega), h8.eq fun j _ h => e j (by omega) (by omega) (by omega), h9.eq fun j _ h => e j (by omega) (by omega) (by omega), h10.eq fun j _ h => e j (by omega) (by omega) (by omega), ha⟩
theorem co_same {M M' : mm_Mem} {fk : Int32} (e : M' 0 = M 0) : ∀ pf sd, co M pf fk sd → ∃ sd', co M' pf fk sd' := fun _ sd h => ⟨sd, h.eq e⟩
/-- a question that uses up its own scratch alone -/
theorem CS.scr {M M' : mm_Mem} {n : Nat} {T : Nat → Nat} {L : g_nets} {K : g_kept} {t : Nat} {f : Nat → Int32} {fk : Int32} (h : CS M (n, T, L, K, t, f, fk)) (h5' : nj M' 3) (h8' : cc M') (h9' : pv M') (h10' : cp M') (e : ∀ j, j < 11 ∨ 25 < j → j < 31 → j ≠ 3 → j ≠ 4 → M' j = M j) : CS M' (n, T, L, K, t, f, fk) := by
  obtain ⟨⟨pf, sd, h1, h2⟩, h3, h4, h5, h6, h7, h8, h9, h10, h11⟩ := h
  have e' : ∀ j, j < 11 ∨ 25 < j → j < 31 → j ≠ 3 → j ≠ 4 → M' j = M j := e
  exact ⟨⟨pf, sd, h1.eq (e 0 (by decide) (by decide) (by decide) (by decide)), h2.eq (e 29 (by decide) (by decide) (by decide) (by decide)) (e 30 (by decide) (by decide) (by decide) (by decide))⟩, h3.eq (e 1 (by decide) (by decide) (by decide) (by decide)) (e 2 (by decide) (by decide) (by decide) (by decide)), h4, h5', h6.eq (e 5 (by decide) (by decide) (by decide) (by decide)) (e 6 (by decide) (by decide) (by decide) (by decide)), h7.eq fun j _ h => e j (by omega) (by omega) (by omega) (by omega), h8', h9', h10', h11.eq fun j _ h => e j (by omega) (by omega) (by omega) (by omega)⟩
/-- the model's scratch -/
def mk_scr : List (Nat × Nat) := [(44, 28), (45, 29), (46, 91), (47, 91), (48, 14), (49, 14), (50, 14), (51, 91), (52, 91), (53, 14)]
def mk_nets : List Nat := [34, 37, 38, 39, 40, 41]
def rn (M : mm_Mem) (a : Nat) : Prop := ∃ n T, ra M a n T ∧ gw n T
theorem rn.eq {M M' : mm_Mem} {a : Nat} (h : rn M a) (e : M' a = M a) : rn M' a := by
  obtain ⟨n, T, h1, h2⟩ := h
  exact ⟨n, T, mm_at.eq h1 e, h2⟩
def mk_sc (M : mm_Mem) : Prop := (∀ q ∈ mk_scr, rj M q.1 q.2) ∧ (∀ a ∈ mk_nets, rn M a) ∧ rjL M 42 14
theorem mk_scr_in : ∀ q ∈ mk_scr, 44 ≤ q.1 ∧ q.1 ≤ 53 := by decide
theorem mk_nets_in : ∀ a ∈ mk_nets, 34 ≤ a ∧ a ≤ 41 ∧ a ≠ 35 ∧ a ≠ 36 := by decide
theorem mk_sc.eq {M M' : mm_Mem} (h : mk_sc M) (e : ∀ j, 34 ≤ j → j ≤ 53 → j ≠ 35 → j ≠ 36 → j ≠ 43 → M' j = M j) : mk_sc M' := by
  obtain ⟨h1, h2, h3⟩ := h
  refine ⟨fun q hq => (h1 q hq).eq ?_, fun a ha => (h2 a ha).eq ?_, h3.eq (e 42 (by decide) (by decide) (by decide) (by decide) (by decide))⟩
  · have := mk_scr_in q hq
    exact e q.1 (by omega) (by omega) (by omega) (by omega) (by omega)
  · have := mk_nets_in a ha
    exact e a (by omega) (by omega) (by omega) (by omega) (by omega)
/-- but for some of them -/
theorem mk_sc.up {M M' : mm_Mem} (h : mk_sc M) (e1 : ∀ q ∈ mk_scr, M' q.1 = M q.1 ∨ rj M' q.1 q.2) (e2 : ∀ a ∈ mk_nets, M' a = M a ∨ rn M' a) (e3 : M' 42 = M 42 ∨ rjL M' 42 14) : mk_sc M' := by
  obtain ⟨h1, h2, h3⟩ := h
  refine ⟨fun q hq => ?_, fun a ha => ?_, ?_⟩
  · rcases e1 q hq with e | e
    · exact (h1 q hq).eq e
    · exact e
  · rcases e2 a ha with e | e
    · exact (h2 a ha).eq e
    · exact e
  · rcases e3 with e | e
    · exact h3.eq e
    · exact e
def mk_k (M : mm_Mem) (K : g_kept) : Prop := ∃ C D, mm_at M 35 (mm_aI 30 C) ∧ mm_at M 43 (mm_aZ 2 D) ∧ (∀ k, k < 2 → (D k = 0 ↔ K k = none)) ∧ ∀ k q, k < 2 → K k = some q → sl_at C (15 * k) q.1 q.2 ∧ gw q.1 q.2
theorem mk_k.eq {M M' : mm_Mem} {K : g_kept} (h : mk_k M K) (e : M' 35 = M 35) (e' : M' 43 = M 43) : mk_k M' K := by
  obtain ⟨C, D, h1, h2, h3⟩ := h
  exact ⟨C, D, h1.eq e, h2.eq e', h3⟩
/-- the model's side; th: whether the latest call has thrown -/
def MT (M : mm_Mem) (th : Int32) : g_st → Prop
  | (n, T, L, K, t, f, fk) => (∃ F w, mo M F w ∧ F 0 = th ∧ F 2 = nI t ∧ F 7 = fk ∧ F 21 = nI L.length) ∧ ra M 33 n T ∧ gw n T ∧ (mt M f ∧ t ≤ 740) ∧ (∃ C, mm_at M 36 (mm_aI 120 C) ∧ sn C L) ∧ mk_k M K ∧ mk_sc M
def MS (M : mm_Mem) (σ : g_st) : Prop := ∃ th, MT M th σ
theorem MT.eq {M M' : mm_Mem} {th : Int32} {σ : g_st} (h : MT M th σ) (e : ∀ j, 31 ≤ j → j ≤ 53 → M' j = M j) : MT M' th σ := by
  obtain ⟨n, T, L, K, t, f, fk⟩ := σ
  obtain ⟨⟨F, w, h1, h2⟩, h3, h4, ⟨h5, h5'⟩, ⟨C, h6, h6'⟩, h7, h8⟩ := h
  exact ⟨⟨F, w, h1.eq (e 31 (by decide) (by decide)), h2⟩, h3.eq (e 33 (by decide) (by decide)), h4, ⟨mm_at.eq h5 (e 32 (by decide) (by decide)), h5'⟩, ⟨C, h6.eq (e 36 (by decide) (by decide)), h6'⟩, h7.eq (e 35 (by decide) (by decide)) (e 43 (by decide) (by decide)), h8.eq fun j h1 h2 _ _ _ => e j (by omega) (by omega)⟩
theorem MS.eq {M M' : mm_Mem} {σ : g_st} (h : MS M σ) (e : ∀ j, 31 ≤ j → j ≤ 53 → M' j = M j) : MS M' σ := by
  obtain ⟨th, h⟩ := h
  exact ⟨th, h.eq e⟩
/-- the model's call ends with a new net and what can be undone -/
theorem MT.act {M M' : mm_Mem} {n n' : Nat} {T T' : Nat → Nat} {L L' : g_nets} {K : g_kept} {t : Nat} {f : Nat → Int32} {fk th : Int32} (h : MT M th (n, T, L, K, t, f, fk)) {F' : Nat → Int32} {w' : Int64} (hm : mo M' F' w') (f0 : F' 2 = nI t) (f7 : F' 7 = fk) (o : ra M' 33 n' T') (hw : gw n' T') (hl : F' 21 = nI L'.length) {C : Nat → Int32} (hs : mm_at M' 36 (mm_aI 120 C)) (hs' : sn C L') (e32 : M' 32 = M 32) (e35 : M' 35 = M 35) (e43 : M' 43 = M 43) (e2 : mk_sc M') : MT M' (F' 0) (n', T', L', K, t, f, fk) := by
  obtain ⟨-, h3, h4, ⟨h5, h5'⟩, -, h7, h8⟩ := h
  exact ⟨⟨F', w', hm, rfl, f0, f7, hl⟩, o, hw, ⟨mm_at.eq h5 e32, h5'⟩, ⟨C, hs, hs'⟩, h7.eq e35 e43, e2⟩
/-- a question of the model -/
theorem MT.scr {M M' : mm_Mem} {σ : g_st} {th : Int32} (h : MT M th σ) {F F' : Nat → Int32} {w w' : Int64} (hF : mo M F w) (hm : mo M' F' w') (f2 : F' 2 = F 2) (f7 : F' 7 = F 7) (f21 : F' 21 = F 21) (e : ∀ j, j = 32 ∨ j = 33 ∨ j = 35 ∨ j = 36 ∨ j = 43 → M' j = M j) (e2 : mk_sc M') : MT M' (F' 0) σ := by
  obtain ⟨n, T, L, K, t, f, fk⟩ := σ
  obtain ⟨⟨F1, w1, g1', g2, g3, g4, g5⟩, h3, h4, ⟨h5, h5'⟩, ⟨C, h6, h6'⟩, h7, h8⟩ := h
  have same : ∀ k ∈ mo_ints, F1 k = F k := fun k hk => by
    obtain ⟨-, fs, a1, a2⟩ := g1'.i k hk
    obtain ⟨-, fs', b1, b2⟩ := hF.i k hk
    rw [a1] at b1
    cases b1
    rw [a2] at b2
    exact Value.int.inj (Option.some.inj b2)
  exact ⟨⟨F', w', hm, rfl, by rw [f2, ← same 2 (by decide), g3], by rw [f7, ← same 7 (by decide), g4], by rw [f21, ← same 21 (by decide), g5]⟩, h3.eq (e 33 (by omega)), h4, ⟨mm_at.eq h5 (e 32 (by omega)), h5'⟩, ⟨C, h6.eq (e 36 (by omega)), h6'⟩, h7.eq (e 35 (by omega)) (e 43 (by omega)), e2⟩
theorem MT.msc {M : mm_Mem} {th : Int32} {σ : g_st} (h : MT M th σ) : mk_sc M := by
  obtain ⟨n', T, L, K, t, f, fk⟩ := σ
  exact h.2.2.2.2.2.2
theorem MT.sc {M : mm_Mem} {th : Int32} {σ : g_st} (h : MT M th σ) (a n : Nat) (hq : (a, n) ∈ mk_scr) : rj M a n := h.msc.1 (a, n) hq
theorem MT.rn {M : mm_Mem} {th : Int32} {σ : g_st} (h : MT M th σ) (a : Nat) (hq : a ∈ mk_nets) : rn M a := h.msc.2.1 a hq
/-- the frame of a call of the class, and of the model -/
abbrev fC (M M' : mm_Mem) : Prop := ∀ j, 31 ≤ j → M' j = M j
abbrev fM (M M' : mm_Mem) : Prop := ∀ j, j < 31 ∨ 53 < j → M' j = M j
