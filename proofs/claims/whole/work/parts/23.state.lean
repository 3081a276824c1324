/-! THE STATE OF THE CLASS, part by part: each part speaks of its own objects alone (.eq) -/
/-- the class's own object (0): what is kept, the fault, the seed -/
def co_refs : List (Nat × Nat) := [(0, 1), (1, 3), (2, 5), (3, 7), (4, 11), (5, 16), (6, 21), (7, 24), (8, 26), (9, 29)]
def co (M : mm_Mem) (pf fk sd : Int32) : Prop := (∀ q ∈ co_refs, mm_fd M 0 9 q.1 (.ref q.2)) ∧ mm_fd M 0 9 10 (.int pf) ∧ mm_fd M 0 9 11 (.int fk) ∧ mm_fd M 0 9 12 (.int sd)
theorem mm_fd.eq {M M' : mm_Mem} {a ci k : Nat} {v : Value} (h : mm_fd M a ci k v) (e : M' a = M a) : mm_fd M' a ci k v := by
  obtain ⟨h1, fs, h2, h3⟩ := h
  exact ⟨h1, fs, e.trans h2, h3⟩
theorem mm_at.eq {M M' : mm_Mem} {a : Nat} {c : mm_AC} (h : mm_at M a c) (e : M' a = M a) : mm_at M' a c := ⟨h.1, e.trans h.2⟩
theorem na.eq {M M' : mm_Mem} {k n : Nat} {T : Nat → Nat} (h : na M k n T) (e : M' k = M k) (e' : M' (k + 1) = M (k + 1)) : na M' k n T := ⟨h.1.eq e, h.2.eq e'⟩
theorem co.r {M : mm_Mem} {pf fk sd : Int32} (h : co M pf fk sd) (k a : Nat) (hk : (k, a) ∈ co_refs) : mm_fd M 0 9 k (.ref a) := h.1 (k, a) hk
theorem co.eq {M M' : mm_Mem} {pf fk sd : Int32} (h : co M pf fk sd) (e : M' 0 = M 0) : co M' pf fk sd := ⟨fun q hq => (h.1 q hq).eq e, h.2.1.eq e, h.2.2.1.eq e, h.2.2.2.eq e⟩
theorem co_rn (k : Nat) (hk : 10 ≤ k) : ∀ q ∈ co_refs, k ≠ q.1 := by
  intro q hq e
  have : (co_refs.all fun q => decide (q.1 < 10)) = true := by decide
  have := of_decide_eq_true (List.all_eq_true.mp this q hq)
  omega
theorem co.setp {M : mm_Mem} {pf fk sd : Int32} (h : co M pf fk sd) (x : Int32) : co (mm_upF M 0 10 (.int x)) x fk sd := ⟨fun q hq => (h.1 q hq).n (co_rn 10 (by decide) q hq), h.2.1.s, h.2.2.1.n (by decide), h.2.2.2.n (by decide)⟩
theorem co.setf {M : mm_Mem} {pf fk sd : Int32} (h : co M pf fk sd) (x : Int32) : co (mm_upF M 0 11 (.int x)) pf x sd := ⟨fun q hq => (h.1 q hq).n (co_rn 11 (by decide) q hq), h.2.1.n (by decide), h.2.2.1.s, h.2.2.2.n (by decide)⟩
theorem co.sets {M : mm_Mem} {pf fk sd : Int32} (h : co M pf fk sd) (x : Int32) : co (mm_upF M 0 12 (.int x)) pf fk x := ⟨fun q hq => (h.1 q hq).n (co_rn 12 (by decide) q hq), h.2.1.n (by decide), h.2.2.1.n (by decide), h.2.2.2.s⟩
/-- a Net of which nothing more is said -/
def nj (M : mm_Mem) (k : Nat) : Prop := ∃ (n : Nat) (T : Nat → Nat), na M k n T ∧ gw n T
theorem nj.eq {M M' : mm_Mem} {k : Nat} (h : nj M k) (e : M' k = M k) (e' : M' (k + 1) = M (k + 1)) : nj M' k := by
  obtain ⟨n, T, h1, h2⟩ := h
  exact ⟨n, T, h1.eq e e', h2⟩
/-- a row of ints of which nothing more is said -/
def rj (M : mm_Mem) (a n : Nat) : Prop := ∃ f, mm_at M a (mm_aI n f)
theorem rj.eq {M M' : mm_Mem} {a n : Nat} (h : rj M a n) (e : M' a = M a) : rj M' a n := by
  obtain ⟨f, h⟩ := h
  exact ⟨f, h.eq e⟩
def rjL (M : mm_Mem) (a n : Nat) : Prop := ∃ f, mm_at M a (mm_aJ n f)
theorem rjL.eq {M M' : mm_Mem} {a n : Nat} (h : rjL M a n) (e : M' a = M a) : rjL M' a n := by
  obtain ⟨f, h⟩ := h
  exact ⟨f, h.eq e⟩
/-- the tape -/
def ct (M : mm_Mem) (t : Nat) (f : Nat → Int32) : Prop := mm_at M 5 (mm_aO 8 [.int (nI t), .ref 6]) ∧ mm_at M 6 (mm_aI 740 f) ∧ t ≤ 740
theorem ct.eq {M M' : mm_Mem} {t : Nat} {f : Nat → Int32} (h : ct M t f) (e : M' 5 = M 5) (e' : M' 6 = M 6) : ct M' t f := ⟨h.1.eq e, h.2.1.eq e', h.2.2⟩
/-- the reader: any -/
def cr (M : mm_Mem) : Prop := mm_fd M 7 6 0 (.ref 8) ∧ mm_fd M 7 6 1 (.ref 10) ∧ (∀ k ∈ [2, 3, 4, 5, 6, 8], ∃ x, mm_fd M 7 6 k (.int x)) ∧ (∃ x, mm_fd M 7 6 7 (.long x)) ∧ nj M 8 ∧ rjL M 10 14
theorem cr.eq {M M' : mm_Mem} (h : cr M) (e : ∀ j, 7 ≤ j → j ≤ 10 → M' j = M j) : cr M' := by
  obtain ⟨h1, h2, h3, ⟨x, h4⟩, h5, h6⟩ := h
  refine ⟨h1.eq (e 7 (by decide) (by decide)), h2.eq (e 7 (by decide) (by decide)), fun k hk => ?_, ⟨x, h4.eq (e 7 (by decide) (by decide))⟩, h5.eq (e 8 (by decide) (by decide)) (e 9 (by decide) (by decide)), h6.eq (e 10 (by decide) (by decide))⟩
  obtain ⟨y, hy⟩ := h3 k hk
  exact ⟨y, hy.eq (e 7 (by decide) (by decide))⟩
/-- the cover search: any -/
def cc (M : mm_Mem) : Prop := (∀ q ∈ [(0, 12), (1, 13), (2, 14), (3, 15)], mm_fd M 11 2 q.1 (.ref q.2)) ∧ (∀ k ∈ [4, 5, 6], ∃ x, mm_fd M 11 2 k (.int x)) ∧ rj M 12 14 ∧ rj M 13 14 ∧ rj M 14 14 ∧ rj M 15 14
theorem cc.eq {M M' : mm_Mem} (h : cc M) (e : ∀ j, 11 ≤ j → j ≤ 15 → M' j = M j) : cc M' := by
  obtain ⟨h1, h2, h3, h4, h5, h6⟩ := h
  refine ⟨fun q hq => (h1 q hq).eq (e 11 (by decide) (by decide)), fun k hk => ?_, h3.eq (e 12 (by decide) (by decide)), h4.eq (e 13 (by decide) (by decide)), h5.eq (e 14 (by decide) (by decide)), h6.eq (e 15 (by decide) (by decide))⟩
  obtain ⟨y, hy⟩ := h2 k hk
  exact ⟨y, hy.eq (e 11 (by decide) (by decide))⟩
/-- the palette and the choice: any -/
def cp (M : mm_Mem) : Prop := mm_at M 21 (mm_aO 4 [.ref 22, .ref 23]) ∧ rj M 22 14 ∧ rj M 23 14 ∧ (∃ x y, mm_at M 24 (mm_aO 1 [.ref 25, .int x, .int y])) ∧ rj M 25 14
theorem cp.eq {M M' : mm_Mem} (h : cp M) (e : ∀ j, 21 ≤ j → j ≤ 25 → M' j = M j) : cp M' := by
  obtain ⟨h1, h2, h3, ⟨x, y, h4⟩, h5⟩ := h
  exact ⟨h1.eq (e 21 (by decide) (by decide)), h2.eq (e 22 (by decide) (by decide)), h3.eq (e 23 (by decide) (by decide)), ⟨x, y, h4.eq (e 24 (by decide) (by decide))⟩, h5.eq (e 25 (by decide) (by decide))⟩
/-- what is kept in the two places -/
abbrev g_kept : Type := Nat → Option (Nat × (Nat → Nat))
def pl (M : mm_Mem) (pf : Int32) (K : g_kept) : Prop := mm_at M 29 (mm_aO 7 [.ref 30]) ∧ ∃ C, mm_at M 30 (mm_aI 120 C) ∧ (∃ b, b < 4 ∧ pf = nI b ∧ ∀ k, k < 2 → (b.testBit k = true ↔ K k ≠ none)) ∧ ∀ k q, k < 2 → K k = some q → sl_at C (15 * k) q.1 q.2 ∧ gw q.1 q.2
theorem pl.eq {M M' : mm_Mem} {pf : Int32} {K : g_kept} (h : pl M pf K) (e : M' 29 = M 29) (e' : M' 30 = M 30) : pl M' pf K := by
  obtain ⟨h1, C, h2, h3⟩ := h
  exact ⟨h1.eq e, C, h2.eq e', h3⟩
