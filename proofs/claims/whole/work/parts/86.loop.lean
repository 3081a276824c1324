/-! THE LOOP -/
theorem law_loop {L : Nat} {xs : Nat → Int32} (hL : L ≤ 3072) : ∀ (n i : Nat) (z : Nat × Nat) (M : mm_Mem) (σ : g_st), i ≤ L → L + 1 ≤ i + n → z.1 + n ≤ 601024 → z.2 + 6 * n ≤ 7293034 → lq M σ → lx_X mL_law 40 (some (L, xs)) z 23 (lw_ls i) [] M (fun r _ => r = some (.int 1)) := by
  intro n
  induction n with
  | zero =>
    intro i z M σ h1 h2
    exact absurd h2 (by omega)
  | succ n ih =>
    intro i z M σ hi hn hz1 hz2 hq
    refine lx_iload (pc := 23) dL_law_23 rfl ?_
    refine lx_aload_n (pc := 25) dL_law_25 rfl ?_
    refine lx_slen (pc := 26) dL_law_26 ?_
    refine lx_bipush (pc := 27) (v := 6) dL_law_27 (by decide) ?_
    refine lx_isub (pc := 29) dL_law_29 ?_
    refine lx_icmp_gt (pc := 30) (tgt := 1146) dL_law_30 (by decide) (fun c => ?_) (fun c => ?_)
    · refine lx_iconst (pc := 1146) (v := 1) dL_law_1146 (by decide) ?_
      exact lx_ireturn (pc := 1147) dL_law_1147 .boolean rfl rfl rfl
    · have h6 : i + 6 ≤ L := by
        rw [lw_cmp hL hi] at c
        omega
      refine lx_aload_n (pc := 33) dL_law_33 rfl ?_
      refine lx_iload (pc := 34) dL_law_34 rfl ?_
      refine lx_sld (pc := 36) dL_law_36 (lw_i0 h6 hL) ?_
      refine lx_bipush (pc := 37) (v := 63) dL_law_37 (by decide) ?_
      refine lx_iand (pc := 39) dL_law_39 ?_
      refine law_sw _ h6 hL hq ⟨by omega, by omega⟩ (fun M' σ' z' k1 k2 hq' => ?_)
      refine lx_iinc (pc := 1140) (w := 6) dL_law_1140 rfl (by decide) rfl ?_
      refine lx_goto (pc := 1143) (tgt := 23) dL_law_1143 (by decide) ?_
      have e : nI i + 6 = nI (i + 6) := nI_add i 6
      show lx_X mL_law 40 (some (L, xs)) z' 23 [.ref mm_scr, .ref 0, .ref 31, .ref 54, .int (nI i + 6), .null, .null] [] M' _
      rw [e]
      exact ih (i + 6) z' M' σ' h6 (by omega) (by omega) (by omega) hq'
/-! THE START: what the constructors leave -/
abbrev lw_L : List mm_AC := (cnL9.map (cn_sc 0) ++ cnL10.map (cn_sc 31)) ++ [mm_aJ 1 fun _ => 0]
abbrev lw_M : mm_Mem := cn_m lw_L
abbrev lw_z : Nat → Nat := fun _ => 0
abbrev lw_s : g_st := (0, lw_z, [], fun _ => none, 0, fun _ => 0, 0)
theorem lw_gw : gw 0 lw_z := ⟨by decide, fun p => Nat.one_pos, fun _ _ => rfl, fun _ _ => by rw [Nat.zero_testBit, Nat.zero_testBit], fun _ => Nat.zero_testBit _⟩
theorem lw_gk : gk_f 0 lw_z = fun _ => 0 := by
  funext p
  unfold gk_f
  split <;> rfl
theorem lw_na (k : Nat) (h : k < 55) (h1 : k + 1 < 55) (e1 : lw_M k = mm_aO 3 [.int 0, .ref (k + 1)]) (e2 : lw_M (k + 1) = mm_aI 14 fun _ => 0) : na lw_M k 0 lw_z := ⟨⟨h, e1⟩, ⟨h1, e2⟩⟩
theorem lw_rj (k n : Nat) (h : k < 55) (e : lw_M k = mm_aI n fun _ => 0) : rj lw_M k n := ⟨_, h, e⟩
theorem lw_pc (S : Nat) (hS : S < 2 ^ 0) (P : Prop) : ¬ (g_pc 0 lw_z S ∧ P) := fun h => by
  have e : S = 0 := by omega
  subst e
  have h1 := h.1.1.1
  rw [ks_pop00] at h1
  omega
theorem lw_gs (P : Nat → Prop) (h : ¬ P 0) : gs (fun S => g1 (P S)) (2 ^ 0) = 0 := by
  show gs (fun S => g1 (P S)) 1 = 0
  simp [gs, g1_f h]
theorem lw_pv : pv lw_M := by
  have e1 : g_pcs 0 lw_z = 0 := lw_gs _ (fun h => lw_pc 0 (by decide) True ⟨h, trivial⟩)
  refine ⟨0, lw_z, lw_gw, 0, fun _ => 0, fun _ => 0, ?_, Or.inl ⟨rfl, fun S hS h => lw_pc S hS True ⟨h, trivial⟩⟩, fun p hp => ?_⟩
  · rw [e1]
    exact ⟨⟨by decide, rfl⟩, lw_na 17 (by decide) (by decide) rfl rfl, ⟨by decide, rfl⟩, ⟨by decide, rfl⟩⟩
  · have e2 : g_blm 0 lw_z p = 0 := lw_gs _ (fun h => lw_pc 0 (by decide) _ h)
    rw [e2]
    rfl
theorem lw_CS : CS lw_M lw_s := by
  refine ⟨⟨0, 0, ⟨?_, ⟨by decide, _, rfl, rfl⟩, ⟨by decide, _, rfl, rfl⟩, ⟨by decide, _, rfl, rfl⟩⟩, ⟨by decide, rfl⟩, fun _ => 0, ⟨by decide, rfl⟩, ⟨0, by decide, rfl, fun k hk => ?_⟩, fun k q hk h => nomatch h⟩, lw_na 1 (by decide) (by decide) rfl rfl, lw_gw, ⟨0, lw_z, lw_na 3 (by decide) (by decide) rfl rfl, lw_gw⟩, ⟨⟨by decide, rfl⟩, ⟨by decide, rfl⟩, by decide⟩, ⟨⟨by decide, _, rfl, rfl⟩, ⟨by decide, _, rfl, rfl⟩, ?_, ⟨0, by decide, _, rfl, rfl⟩, ⟨0, lw_z, lw_na 8 (by decide) (by decide) rfl rfl, lw_gw⟩, ⟨_, by decide, rfl⟩⟩, ⟨?_, ?_, lw_rj 12 14 (by decide) rfl, lw_rj 13 14 (by decide) rfl, lw_rj 14 14 (by decide) rfl, lw_rj 15 14 (by decide) rfl⟩, lw_pv, ⟨⟨by decide, rfl⟩, lw_rj 22 14 (by decide) rfl, lw_rj 23 14 (by decide) rfl, ⟨0, 0, by decide, rfl⟩, lw_rj 25 14 (by decide) rfl⟩, ⟨0, fun _ => 0, ⟨by decide, rfl⟩, ⟨by decide, rfl⟩, ⟨by decide, rfl⟩, by decide, by decide, fun j q hj => nomatch hj⟩⟩
  · intro q hq
    simp only [co_refs, List.mem_cons, List.not_mem_nil, or_false] at hq
    rcases hq with rfl | rfl | rfl | rfl | rfl | rfl | rfl | rfl | rfl | rfl <;> exact ⟨by decide, _, rfl, rfl⟩
  · rw [Nat.zero_testBit]
    exact ⟨fun h => (nomatch h), fun h => absurd rfl h⟩
  · intro k hk
    simp only [List.mem_cons, List.not_mem_nil, or_false] at hk
    rcases hk with rfl | rfl | rfl | rfl | rfl | rfl <;> exact ⟨0, by decide, _, rfl, rfl⟩
  · intro q hq
    simp only [List.mem_cons, List.not_mem_nil, or_false] at hq
    rcases hq with rfl | rfl | rfl | rfl <;> exact ⟨by decide, _, rfl, rfl⟩
  · intro k hk
    simp only [List.mem_cons, List.not_mem_nil, or_false] at hk
    rcases hk with rfl | rfl | rfl <;> exact ⟨0, by decide, _, rfl, rfl⟩
theorem lw_ra (k : Nat) (h : k < 55) (e : lw_M k = mm_aI 15 fun _ => 0) : ra lw_M k 0 lw_z := ⟨h, by rw [lw_gk]; exact e⟩
theorem lw_MS : MS lw_M lw_s := by
  refine ⟨0, ⟨fun _ => 0, 0, ⟨?_, ?_, ⟨by decide, _, rfl, rfl⟩⟩, rfl, rfl, rfl, rfl⟩, lw_ra 33 (by decide) rfl, lw_gw, ⟨⟨by decide, rfl⟩, by decide⟩, ⟨fun _ => 0, ⟨by decide, rfl⟩, by decide, fun j q hj => nomatch hj⟩, ⟨fun _ => 0, fun _ => 0, ⟨by decide, rfl⟩, ⟨by decide, rfl⟩, fun k _ => ⟨fun _ => rfl, fun _ => rfl⟩, fun k q _ h => nomatch h⟩, ⟨?_, ?_, ⟨_, by decide, rfl⟩⟩⟩
  · intro q hq
    simp only [mo_refs, List.mem_cons, List.not_mem_nil, or_false] at hq
    rcases hq with rfl | rfl | rfl | rfl | rfl | rfl | rfl | rfl | rfl | rfl | rfl | rfl | rfl | rfl | rfl | rfl | rfl | rfl | rfl | rfl | rfl | rfl <;> exact ⟨by decide, _, rfl, rfl⟩
  · intro k hk
    simp only [mo_ints, List.mem_cons, List.not_mem_nil, or_false] at hk
    rcases hk with rfl | rfl | rfl | rfl | rfl | rfl | rfl | rfl | rfl | rfl | rfl | rfl | rfl | rfl | rfl | rfl <;> exact ⟨by decide, _, rfl, rfl⟩
  · intro q hq
    simp only [mk_scr, List.mem_cons, List.not_mem_nil, or_false] at hq
    rcases hq with rfl | rfl | rfl | rfl | rfl | rfl | rfl | rfl | rfl | rfl <;> exact lw_rj _ _ (by decide) rfl
  · intro q hq
    simp only [mk_nets, List.mem_cons, List.not_mem_nil, or_false] at hq
    rcases hq with rfl | rfl | rfl | rfl | rfl | rfl <;> exact ⟨0, lw_z, lw_ra _ (by decide) rfl, lw_gw⟩
theorem lw_lq : lq lw_M lw_s := ⟨lw_CS, lw_MS, _, by decide, rfl⟩
