/-! the calls about what is found of the rules, and about reading -/
variable {h_made h_depth h_length h_tokenCount h_wrong h_letterCount h_ruleCount h_makingCount h_usefulRules h_stateCount h_wideCount h_useCount h_result : Int32} {b_ops b_firsts b_seconds b_sizes b_stack b_roots b_text b_ends b_tokenKinds b_tokenSizes b_letters b_begins b_closes b_empties b_nexts b_sets b_leads b_classes b_newClasses b_lefts b_rights b_counts b_making b_firstSets b_followSets b_tasks b_held b_uses b_reach : Nat → Int32} {b_states b_looks b_wides b_work b_met : Nat → Int64}
theorem yw_isVariable {p : Int32} {post : Int32 → Prop} (h0 : p < 3 ∨ 6 < p → post 0) (h1 : ¬ p < 3 → ¬ 6 < p → post 1) : wpY_isVariable post (h_made, h_depth, h_length, h_tokenCount, h_wrong, h_letterCount, h_ruleCount, h_makingCount, h_usefulRules, h_stateCount, h_wideCount, h_useCount, h_result, b_ops, b_firsts, b_seconds, b_sizes, b_stack, b_roots, b_text, b_ends, b_tokenKinds, b_tokenSizes, b_letters, b_begins, b_closes, b_empties, b_nexts, b_sets, b_leads, b_classes, b_newClasses, b_lefts, b_rights, b_counts, b_making, b_firstSets, b_followSets, b_states, b_looks, b_wides, b_work, b_met, b_tasks, b_held, b_uses, b_reach) p := br_c (fun z => h0 (Or.inl z)) (fun z => br_c (fun y => h0 (Or.inr y)) (fun y => h1 z y))
def us_A (g : rg_T) (p r : Int32) : Prop := (r = 1 ∧ ∃ q, p = nI q ∧ q < rg_n g ∧ us_U g q) ∨ (r = 0 ∧ ¬ ∃ q, p = nI q ∧ q < rg_n g ∧ us_U g q)
theorem us_A1 {g : rg_T} {p r r' : Int32} (h : us_A g p r) (h' : us_A g p r') : r = r' := by
  rcases h with ⟨a, b⟩ | ⟨a, b⟩ <;> rcases h' with ⟨c, d⟩ | ⟨c, d⟩
  · rw [a, c]
  · exact absurd b d
  · exact absurd d b
  · rw [a, c]
theorem us_no {g : rg_T} {p : Int32} (hg : rg_ok g) (h : p < 0 ∨ nI (rg_n g) ≤ p) : ¬ ∃ q, p = nI q ∧ q < rg_n g ∧ us_U g q := by
  rintro ⟨q, rfl, q1, _⟩
  have n9 := hg.1
  rcases h with h | h
  · exact nI_nlt (b := 0) (Nat.zero_le _) (by omega) h
  · exact nI_ge q1 (by omega) h
theorem us_q {g : rg_T} {q q' : Nat} (hg : rg_ok g) (hq : q < rg_n g) (e : nI q = nI q') (hq' : q' < rg_n g) : q = q' := by
  have n9 := hg.1
  exact (nI_eq (by omega) (by omega)).mp e
theorem i_vc_useful {k : Nat} {u : SX} {v : SY} (I : i_Rel k u v) (hk : k + 2 ≤ 1024) (v1 : Int32) : wpX_useful (fun r u' => wpY_useful (fun r' v' => r' = r ∧ i_Rel (k + 2) u' v') v v1) u v1 := by
  obtain ⟨f_depth, f_made, f_textLength, f_tokenCount, f_wrongPlace, f_ruleCount, f_prepared, f_rulesInUse, f_stateCount, f_wideCount, f_gradeFound, f_readHeight, f_tokensTaken, f_usedCount, a_spotCounts, a_ends, a_arrows, a_takers, a_groups, a_marks, a_text, a_tokenKinds, a_tokenLengths, a_lefts, a_rights, a_rightSizes, a_beginSets, a_followSets, a_nextItems, a_openItems, a_restItems, a_stateItems, a_stateSteps, a_stateLooks, a_wideSteps, a_wideLooks, a_readStates, a_readValues, a_usedRules⟩ := u
  obtain ⟨h_made, h_depth, h_length, h_tokenCount, h_wrong, h_letterCount, h_ruleCount, h_makingCount, h_usefulRules, h_stateCount, h_wideCount, h_useCount, h_result, b_ops, b_firsts, b_seconds, b_sizes, b_stack, b_roots, b_text, b_ends, b_tokenKinds, b_tokenSizes, b_letters, b_begins, b_closes, b_empties, b_nexts, b_sets, b_leads, b_classes, b_newClasses, b_lefts, b_rights, b_counts, b_making, b_firstSets, b_followSets, b_states, b_looks, b_wides, b_work, b_met, b_tasks, b_held, b_uses, b_reach⟩ := v
  obtain ⟨m, d, ga, lo, op, fi, se, st, kd, n, t, g, c, mk, hP, hT, hG, hC⟩ := I
  obtain ⟨m60, d8, e1, e2, e3, e4, hN, hS, hO, hR, hK⟩ := id hP
  obtain ⟨n24, e5, e6, hT1, hT2⟩ := id hT
  obtain ⟨hg, e7, e8, hG1, hG2, hl, c4, e9, e10, hmk⟩ := id hG
  subst e1 e2 e3 e4 e5 e6 e7 e8 e10
  have n9 := hg.1
  delta wpX_useful
  refine xw_prepare hg hG1 hC (fun ru sc wc gf bs fs ni oi ri si ss sl ws wl hX => ?_)
  have last : ∀ r, us_A g v1 r → wpY_useful (fun r' v' => r' = r ∧ i_Rel (k + 2) ((nI d), (nI m), (nI n), f_tokenCount, f_wrongPlace, (nI (rg_n g)), 1, ru, sc, wc, gf, f_readHeight, f_tokensTaken, f_usedCount, a_spotCounts, a_ends, a_arrows, a_takers, a_groups, a_marks, a_text, a_tokenKinds, a_tokenLengths, a_lefts, a_rights, a_rightSizes, bs, fs, ni, oi, ri, si, ss, sl, ws, wl, a_readStates, a_readValues, a_usedRules) v') ((nI m), (nI d), (nI n), h_tokenCount, h_wrong, h_letterCount, (nI (rg_n g)), (nI c), h_usefulRules, h_stateCount, h_wideCount, h_useCount, h_result, b_ops, b_firsts, b_seconds, b_sizes, b_stack, b_roots, b_text, b_ends, b_tokenKinds, b_tokenSizes, b_letters, b_begins, b_closes, b_empties, b_nexts, b_sets, b_leads, b_classes, b_newClasses, b_lefts, b_rights, b_counts, b_making, b_firstSets, b_followSets, b_states, b_looks, b_wides, b_work, b_met, b_tasks, b_held, b_uses, b_reach) v1 := by
    intro r hr
    delta wpY_useful
    refine yw_findUseful hg hG2 (fun uu hU => ?_)
    refine br_c (fun z => ⟨us_A1 (Or.inr ⟨rfl, us_no hg (Or.inl z)⟩) hr, ir_mk hP hT hG (Or.inr ⟨rfl, hX⟩)⟩) (fun z => br_c (fun y => ⟨us_A1 (Or.inr ⟨rfl, us_no hg (Or.inr y)⟩) hr, ir_mk hP hT hG (Or.inr ⟨rfl, hX⟩)⟩) (fun y => ?_))
    obtain ⟨q, q31, rfl⟩ := nI_of z
    have qn : q < rg_n g := Classical.byContradiction fun w => y (nI_le (by omega) q31)
    have te := b_test uu (n := q) (by omega)
    refine br_c (fun x => br_f (by decide) ⟨us_A1 (Or.inl ⟨rfl, q, rfl, qn, (hU q).mp (te.mp x)⟩) hr, ir_mk hP hT hG (Or.inr ⟨rfl, hX⟩)⟩) (fun x => br_t rfl ⟨us_A1 (Or.inr ⟨rfl, ?_⟩) hr, ir_mk hP hT hG (Or.inr ⟨rfl, hX⟩)⟩)
    rintro ⟨q', e', a', b'⟩
    have := us_q hg qn e' a'
    subst this
    exact x (te.mpr ((hU q).mpr b'))
  refine br_c (fun z => last 0 (Or.inr ⟨rfl, us_no hg (Or.inl z)⟩)) (fun z => br_c (fun y => last 0 (Or.inr ⟨rfl, us_no hg (Or.inr y)⟩)) (fun y => ?_))
  obtain ⟨q, q31, rfl⟩ := nI_of z
  have qn : q < rg_n g := Classical.byContradiction fun w => y (nI_le (by omega) q31)
  have te := b_test ru (n := q) (by omega)
  refine br_c (fun x => br_f (by decide) (last 1 (Or.inl ⟨rfl, q, rfl, qn, ?_⟩))) (fun x => br_t rfl (last 0 (Or.inr ⟨rfl, ?_⟩)))
  · rcases (hX.1 q).mp (te.mp x) with w | w
    · exact w
    · omega
  · rintro ⟨q', e', a', b'⟩
    have := us_q hg qn e' a'
    subst this
    exact x (te.mpr ((hX.1 q).mpr (Or.inl b')))
theorem i_vc_begins {k : Nat} {u : SX} {v : SY} (I : i_Rel k u v) (hk : k + 2 ≤ 1024) (v1 : Int32) : wpX_begins (fun r u' => wpY_begins (fun r' v' => r' = r ∧ i_Rel (k + 2) u' v') v v1) u v1 := by
  obtain ⟨f_depth, f_made, f_textLength, f_tokenCount, f_wrongPlace, f_ruleCount, f_prepared, f_rulesInUse, f_stateCount, f_wideCount, f_gradeFound, f_readHeight, f_tokensTaken, f_usedCount, a_spotCounts, a_ends, a_arrows, a_takers, a_groups, a_marks, a_text, a_tokenKinds, a_tokenLengths, a_lefts, a_rights, a_rightSizes, a_beginSets, a_followSets, a_nextItems, a_openItems, a_restItems, a_stateItems, a_stateSteps, a_stateLooks, a_wideSteps, a_wideLooks, a_readStates, a_readValues, a_usedRules⟩ := u
  obtain ⟨h_made, h_depth, h_length, h_tokenCount, h_wrong, h_letterCount, h_ruleCount, h_makingCount, h_usefulRules, h_stateCount, h_wideCount, h_useCount, h_result, b_ops, b_firsts, b_seconds, b_sizes, b_stack, b_roots, b_text, b_ends, b_tokenKinds, b_tokenSizes, b_letters, b_begins, b_closes, b_empties, b_nexts, b_sets, b_leads, b_classes, b_newClasses, b_lefts, b_rights, b_counts, b_making, b_firstSets, b_followSets, b_states, b_looks, b_wides, b_work, b_met, b_tasks, b_held, b_uses, b_reach⟩ := v
  obtain ⟨m, d, ga, lo, op, fi, se, st, kd, n, t, g, c, mk, hP, hT, hG, hC⟩ := I
  obtain ⟨m60, d8, e1, e2, e3, e4, hN, hS, hO, hR, hK⟩ := id hP
  obtain ⟨n24, e5, e6, hT1, hT2⟩ := id hT
  obtain ⟨hg, e7, e8, hG1, hG2, hl, c4, e9, e10, hmk⟩ := id hG
  subst e1 e2 e3 e4 e5 e6 e7 e8 e10
  have bad : v1 < 3 ∨ 6 < v1 → wpY_begins (fun r' v' => r' = -1 ∧ i_Rel (k + 2) ((nI d), (nI m), (nI n), f_tokenCount, f_wrongPlace, (nI (rg_n g)), f_prepared, f_rulesInUse, f_stateCount, f_wideCount, f_gradeFound, f_readHeight, f_tokensTaken, f_usedCount, a_spotCounts, a_ends, a_arrows, a_takers, a_groups, a_marks, a_text, a_tokenKinds, a_tokenLengths, a_lefts, a_rights, a_rightSizes, a_beginSets, a_followSets, a_nextItems, a_openItems, a_restItems, a_stateItems, a_stateSteps, a_stateLooks, a_wideSteps, a_wideLooks, a_readStates, a_readValues, a_usedRules) v') ((nI m), (nI d), (nI n), h_tokenCount, h_wrong, h_letterCount, (nI (rg_n g)), (nI c), h_usefulRules, h_stateCount, h_wideCount, h_useCount, h_result, b_ops, b_firsts, b_seconds, b_sizes, b_stack, b_roots, b_text, b_ends, b_tokenKinds, b_tokenSizes, b_letters, b_begins, b_closes, b_empties, b_nexts, b_sets, b_leads, b_classes, b_newClasses, b_lefts, b_rights, b_counts, b_making, b_firstSets, b_followSets, b_states, b_looks, b_wides, b_work, b_met, b_tasks, b_held, b_uses, b_reach) v1 := by
    intro h
    delta wpY_begins
    refine yw_isVariable (fun _ => br_t rfl ⟨rfl, ir_mk hP hT hG hC⟩) (fun h1 h2 => ?_)
    rcases h with h | h
    · exact absurd h h1
    · exact absurd h h2
  refine br_c (fun z => bad (Or.inl z)) (fun z => ?_)
  obtain ⟨o, o31, rfl⟩ := nI_of (fun q => z (Int32.lt_trans q (by decide)))
  refine pk_lt o 7 (fun y => ?_) (fun y => bad (Or.inr (nI_lt (a := 6) (by omega) o31)))
  have n6 : ¬ (6 : Int32) < nI o := nI_nlt (a := 6) (by omega) (by decide)
  refine xw_prepare hg hG1 hC (fun ru sc wc gf bs fs ni oi ri si ss sl ws wl hX => ⟨vp_in_nI y (by decide), ?_⟩)
  delta wpY_begins
  refine yw_isVariable (fun h => ?_) (fun _ _ => br_f (by decide) (yw_findSets hg hG2 (fun uu a w hU hF h4 hW => ⟨vp_in_nI y (by decide), ?_, ir_mk hP hT hG (Or.inr ⟨rfl, hX⟩)⟩)))
  · rcases h with h | h
    · exact absurd h z
    · exact absurd h n6
  rw [nI_clamp o31]
  exact b_ext fun i _ => bo_e (by rw [hF o i y, hX.2.1 o i y])
theorem i_vc_follows {k : Nat} {u : SX} {v : SY} (I : i_Rel k u v) (hk : k + 2 ≤ 1024) (v1 : Int32) : wpX_follows (fun r u' => wpY_follows (fun r' v' => r' = r ∧ i_Rel (k + 2) u' v') v v1) u v1 := by
  obtain ⟨f_depth, f_made, f_textLength, f_tokenCount, f_wrongPlace, f_ruleCount, f_prepared, f_rulesInUse, f_stateCount, f_wideCount, f_gradeFound, f_readHeight, f_tokensTaken, f_usedCount, a_spotCounts, a_ends, a_arrows, a_takers, a_groups, a_marks, a_text, a_tokenKinds, a_tokenLengths, a_lefts, a_rights, a_rightSizes, a_beginSets, a_followSets, a_nextItems, a_openItems, a_restItems, a_stateItems, a_stateSteps, a_stateLooks, a_wideSteps, a_wideLooks, a_readStates, a_readValues, a_usedRules⟩ := u
  obtain ⟨h_made, h_depth, h_length, h_tokenCount, h_wrong, h_letterCount, h_ruleCount, h_makingCount, h_usefulRules, h_stateCount, h_wideCount, h_useCount, h_result, b_ops, b_firsts, b_seconds, b_sizes, b_stack, b_roots, b_text, b_ends, b_tokenKinds, b_tokenSizes, b_letters, b_begins, b_closes, b_empties, b_nexts, b_sets, b_leads, b_classes, b_newClasses, b_lefts, b_rights, b_counts, b_making, b_firstSets, b_followSets, b_states, b_looks, b_wides, b_work, b_met, b_tasks, b_held, b_uses, b_reach⟩ := v
  obtain ⟨m, d, ga, lo, op, fi, se, st, kd, n, t, g, c, mk, hP, hT, hG, hC⟩ := I
  obtain ⟨m60, d8, e1, e2, e3, e4, hN, hS, hO, hR, hK⟩ := id hP
  obtain ⟨n24, e5, e6, hT1, hT2⟩ := id hT
  obtain ⟨hg, e7, e8, hG1, hG2, hl, c4, e9, e10, hmk⟩ := id hG
  subst e1 e2 e3 e4 e5 e6 e7 e8 e10
  have bad : v1 < 3 ∨ 6 < v1 → wpY_follows (fun r' v' => r' = -1 ∧ i_Rel (k + 2) ((nI d), (nI m), (nI n), f_tokenCount, f_wrongPlace, (nI (rg_n g)), f_prepared, f_rulesInUse, f_stateCount, f_wideCount, f_gradeFound, f_readHeight, f_tokensTaken, f_usedCount, a_spotCounts, a_ends, a_arrows, a_takers, a_groups, a_marks, a_text, a_tokenKinds, a_tokenLengths, a_lefts, a_rights, a_rightSizes, a_beginSets, a_followSets, a_nextItems, a_openItems, a_restItems, a_stateItems, a_stateSteps, a_stateLooks, a_wideSteps, a_wideLooks, a_readStates, a_readValues, a_usedRules) v') ((nI m), (nI d), (nI n), h_tokenCount, h_wrong, h_letterCount, (nI (rg_n g)), (nI c), h_usefulRules, h_stateCount, h_wideCount, h_useCount, h_result, b_ops, b_firsts, b_seconds, b_sizes, b_stack, b_roots, b_text, b_ends, b_tokenKinds, b_tokenSizes, b_letters, b_begins, b_closes, b_empties, b_nexts, b_sets, b_leads, b_classes, b_newClasses, b_lefts, b_rights, b_counts, b_making, b_firstSets, b_followSets, b_states, b_looks, b_wides, b_work, b_met, b_tasks, b_held, b_uses, b_reach) v1 := by
    intro h
    delta wpY_follows
    refine yw_isVariable (fun _ => br_t rfl ⟨rfl, ir_mk hP hT hG hC⟩) (fun h1 h2 => ?_)
    rcases h with h | h
    · exact absurd h h1
    · exact absurd h h2
  refine br_c (fun z => bad (Or.inl z)) (fun z => ?_)
  obtain ⟨o, o31, rfl⟩ := nI_of (fun q => z (Int32.lt_trans q (by decide)))
  have o3 : 3 ≤ o := by
    rw [show (3 : Int32) = nI 3 from rfl, nI_ltI o31 (by decide)] at z
    omega
  refine pk_lt o 7 (fun y => ?_) (fun y => bad (Or.inr (nI_lt (a := 6) (by omega) o31)))
  have n6 : ¬ (6 : Int32) < nI o := nI_nlt (a := 6) (by omega) (by decide)
  refine xw_prepare hg hG1 hC (fun ru sc wc gf bs fs ni oi ri si ss sl ws wl hX => ⟨vp_in_nI (by omega) (by decide), ?_⟩)
  delta wpY_follows
  refine yw_isVariable (fun h => ?_) (fun _ _ => br_f (by decide) (yw_findSets hg hG2 (fun uu a w hU hF h4 hW => ⟨vp_in_nI y (by decide), ?_, ir_mk hP hT hG (Or.inr ⟨rfl, hX⟩)⟩)))
  · rcases h with h | h
    · exact absurd h z
    · exact absurd h n6
  rw [nI_clamp o31]
  exact b_ext fun i _ => bo_e (by rw [hW o i y, hX.2.2.1.1 o i o3 y])
theorem i_vc_states {k : Nat} {u : SX} {v : SY} (I : i_Rel k u v) (hk : k + 2 ≤ 1024) : wpX_states (fun r u' => wpY_states (fun r' v' => r' = r ∧ i_Rel (k + 2) u' v') v) u := by
  obtain ⟨f_depth, f_made, f_textLength, f_tokenCount, f_wrongPlace, f_ruleCount, f_prepared, f_rulesInUse, f_stateCount, f_wideCount, f_gradeFound, f_readHeight, f_tokensTaken, f_usedCount, a_spotCounts, a_ends, a_arrows, a_takers, a_groups, a_marks, a_text, a_tokenKinds, a_tokenLengths, a_lefts, a_rights, a_rightSizes, a_beginSets, a_followSets, a_nextItems, a_openItems, a_restItems, a_stateItems, a_stateSteps, a_stateLooks, a_wideSteps, a_wideLooks, a_readStates, a_readValues, a_usedRules⟩ := u
  obtain ⟨h_made, h_depth, h_length, h_tokenCount, h_wrong, h_letterCount, h_ruleCount, h_makingCount, h_usefulRules, h_stateCount, h_wideCount, h_useCount, h_result, b_ops, b_firsts, b_seconds, b_sizes, b_stack, b_roots, b_text, b_ends, b_tokenKinds, b_tokenSizes, b_letters, b_begins, b_closes, b_empties, b_nexts, b_sets, b_leads, b_classes, b_newClasses, b_lefts, b_rights, b_counts, b_making, b_firstSets, b_followSets, b_states, b_looks, b_wides, b_work, b_met, b_tasks, b_held, b_uses, b_reach⟩ := v
  obtain ⟨m, d, ga, lo, op, fi, se, st, kd, n, t, g, c, mk, hP, hT, hG, hC⟩ := I
  obtain ⟨m60, d8, e1, e2, e3, e4, hN, hS, hO, hR, hK⟩ := id hP
  obtain ⟨n24, e5, e6, hT1, hT2⟩ := id hT
  obtain ⟨hg, e7, e8, hG1, hG2, hl, c4, e9, e10, hmk⟩ := id hG
  subst e1 e2 e3 e4 e5 e6 e7 e8 e10
  delta wpX_states
  refine xw_prepare hg hG1 hC (fun ru sc wc gf bs fs ni oi ri si ss sl ws wl hX => ?_)
  have hs := (xp_sn hX).1
  delta wpY_states
  refine yw_makeStates hg hG2 (fun uu a w cnt items hU hF h4 hW hY => ?_)
  have e0 := yg_0 uu hU
  refine br_c (fun z => ⟨sn_1 (Or.inl ⟨e0.mp z, rfl⟩) hs, ir_mk hP hT hG (Or.inr ⟨rfl, hX⟩)⟩) (fun z => ?_)
  have ex : ∃ r, us_U g r := Classical.byContradiction fun w => z (e0.mpr w)
  rcases yt_fin hY with ⟨N, rfl, n1, n2, n3⟩ | ⟨f, N, n1, n2, rfl⟩
  · exact br_f (nI_ge (b := N) (a := 60) n1 (by omega)) ⟨sn_1 (Or.inr (Or.inl ⟨ex, n3, rfl⟩)) hs, ir_mk hP hT hG (Or.inr ⟨rfl, hX⟩)⟩
  · exact br_t (nI_le (b := 60) n2 (by decide)) ⟨sn_1 (Or.inr (Or.inr ⟨ex, f, N, n1, n2, rfl⟩)) hs, ir_mk hP hT hG (Or.inr ⟨rfl, hX⟩)⟩
theorem i_vc_wideStates {k : Nat} {u : SX} {v : SY} (I : i_Rel k u v) (hk : k + 2 ≤ 1024) : wpX_wideStates (fun r u' => wpY_wideStates (fun r' v' => r' = r ∧ i_Rel (k + 2) u' v') v) u := by
  obtain ⟨f_depth, f_made, f_textLength, f_tokenCount, f_wrongPlace, f_ruleCount, f_prepared, f_rulesInUse, f_stateCount, f_wideCount, f_gradeFound, f_readHeight, f_tokensTaken, f_usedCount, a_spotCounts, a_ends, a_arrows, a_takers, a_groups, a_marks, a_text, a_tokenKinds, a_tokenLengths, a_lefts, a_rights, a_rightSizes, a_beginSets, a_followSets, a_nextItems, a_openItems, a_restItems, a_stateItems, a_stateSteps, a_stateLooks, a_wideSteps, a_wideLooks, a_readStates, a_readValues, a_usedRules⟩ := u
  obtain ⟨h_made, h_depth, h_length, h_tokenCount, h_wrong, h_letterCount, h_ruleCount, h_makingCount, h_usefulRules, h_stateCount, h_wideCount, h_useCount, h_result, b_ops, b_firsts, b_seconds, b_sizes, b_stack, b_roots, b_text, b_ends, b_tokenKinds, b_tokenSizes, b_letters, b_begins, b_closes, b_empties, b_nexts, b_sets, b_leads, b_classes, b_newClasses, b_lefts, b_rights, b_counts, b_making, b_firstSets, b_followSets, b_states, b_looks, b_wides, b_work, b_met, b_tasks, b_held, b_uses, b_reach⟩ := v
  obtain ⟨m, d, ga, lo, op, fi, se, st, kd, n, t, g, c, mk, hP, hT, hG, hC⟩ := I
  obtain ⟨m60, d8, e1, e2, e3, e4, hN, hS, hO, hR, hK⟩ := id hP
  obtain ⟨n24, e5, e6, hT1, hT2⟩ := id hT
  obtain ⟨hg, e7, e8, hG1, hG2, hl, c4, e9, e10, hmk⟩ := id hG
  subst e1 e2 e3 e4 e5 e6 e7 e8 e10
  delta wpX_wideStates
  refine xw_prepare hg hG1 hC (fun ru sc wc gf bs fs ni oi ri si ss sl ws wl hX => ?_)
  have hs := (xp_sn hX).2
  delta wpY_wideStates
  refine yw_makeStates hg hG2 (fun uu a w cnt items hU hF h4 hW hY => ?_)
  have e0 := yg_0 uu hU
  refine br_c (fun z => br_t z ⟨wn_1 (Or.inl ⟨e0.mp z, rfl⟩) hs, ir_mk hP hT hG (Or.inr ⟨rfl, hX⟩)⟩) (fun z => ?_)
  have ex : ∃ r, us_U g r := Classical.byContradiction fun w => z (e0.mpr w)
  rcases yt_fin hY with ⟨N, rfl, n1, n2, n3⟩ | ⟨f, N, n1, n2, rfl⟩
  · exact br_f (nI_ge (b := N) (a := 60) n1 (by omega)) (br_f z ⟨wn_1 (Or.inr (Or.inl ⟨ex, n3, rfl⟩)) hs, ir_mk hP hT hG (Or.inr ⟨rfl, hX⟩)⟩)
  · refine br_t (nI_le (b := 60) n2 (by decide)) (yw_makeWides (b_firstSets := a) hg hG2 hU h4 hF (fun cnt2 arr W hZ => ?_))
    rcases yz_fin hZ with ⟨N2, rfl, m1, m2, m3⟩ | ⟨f2, N2, m1, m2, rfl⟩
    · exact br_f (nI_ge (b := N2) (a := 80) m1 (by omega)) ⟨wn_1 (Or.inr (Or.inr ⟨ex, ⟨f, N, n1, n2⟩, Or.inl ⟨m3, rfl⟩⟩)) hs, ir_mk hP hT hG (Or.inr ⟨rfl, hX⟩)⟩
    · exact br_t (nI_le (b := 80) m2 (by decide)) ⟨wn_1 (Or.inr (Or.inr ⟨ex, ⟨f, N, n1, n2⟩, Or.inr ⟨f2, N2, m1, m2, rfl⟩⟩)) hs, ir_mk hP hT hG (Or.inr ⟨rfl, hX⟩)⟩
theorem i_vc_grade {k : Nat} {u : SX} {v : SY} (I : i_Rel k u v) (hk : k + 2 ≤ 1024) : wpX_grade (fun r u' => wpY_grade (fun r' v' => r' = r ∧ i_Rel (k + 2) u' v') v) u := by
  obtain ⟨f_depth, f_made, f_textLength, f_tokenCount, f_wrongPlace, f_ruleCount, f_prepared, f_rulesInUse, f_stateCount, f_wideCount, f_gradeFound, f_readHeight, f_tokensTaken, f_usedCount, a_spotCounts, a_ends, a_arrows, a_takers, a_groups, a_marks, a_text, a_tokenKinds, a_tokenLengths, a_lefts, a_rights, a_rightSizes, a_beginSets, a_followSets, a_nextItems, a_openItems, a_restItems, a_stateItems, a_stateSteps, a_stateLooks, a_wideSteps, a_wideLooks, a_readStates, a_readValues, a_usedRules⟩ := u
  obtain ⟨h_made, h_depth, h_length, h_tokenCount, h_wrong, h_letterCount, h_ruleCount, h_makingCount, h_usefulRules, h_stateCount, h_wideCount, h_useCount, h_result, b_ops, b_firsts, b_seconds, b_sizes, b_stack, b_roots, b_text, b_ends, b_tokenKinds, b_tokenSizes, b_letters, b_begins, b_closes, b_empties, b_nexts, b_sets, b_leads, b_classes, b_newClasses, b_lefts, b_rights, b_counts, b_making, b_firstSets, b_followSets, b_states, b_looks, b_wides, b_work, b_met, b_tasks, b_held, b_uses, b_reach⟩ := v
  obtain ⟨m, d, ga, lo, op, fi, se, st, kd, n, t, g, c, mk, hP, hT, hG, hC⟩ := I
  obtain ⟨m60, d8, e1, e2, e3, e4, hN, hS, hO, hR, hK⟩ := id hP
  obtain ⟨n24, e5, e6, hT1, hT2⟩ := id hT
  obtain ⟨hg, e7, e8, hG1, hG2, hl, c4, e9, e10, hmk⟩ := id hG
  subst e1 e2 e3 e4 e5 e6 e7 e8 e10
  delta wpX_grade
  refine xw_prepare hg hG1 hC (fun ru sc wc gf bs fs ni oi ri si ss sl ws wl hX => ?_)
  have hs := xp_R hX
  delta wpY_grade
  refine yw_findGrade hg hG2 hl (fun r uu sc2 wc2 fi2 fo st2 lo2 wi wo hr hU hF h4 => ?_)
  exact ⟨yg_one hr hs, ir_mk hP hT hG (Or.inr ⟨rfl, hX⟩)⟩
theorem i_vc_reads {k : Nat} {u : SX} {v : SY} (I : i_Rel k u v) (hk : k + 2 ≤ 1024) : wpX_reads (fun r u' => wpY_reads (fun r' v' => r' = r ∧ i_Rel (k + 2) u' v') v) u := by
  obtain ⟨f_depth, f_made, f_textLength, f_tokenCount, f_wrongPlace, f_ruleCount, f_prepared, f_rulesInUse, f_stateCount, f_wideCount, f_gradeFound, f_readHeight, f_tokensTaken, f_usedCount, a_spotCounts, a_ends, a_arrows, a_takers, a_groups, a_marks, a_text, a_tokenKinds, a_tokenLengths, a_lefts, a_rights, a_rightSizes, a_beginSets, a_followSets, a_nextItems, a_openItems, a_restItems, a_stateItems, a_stateSteps, a_stateLooks, a_wideSteps, a_wideLooks, a_readStates, a_readValues, a_usedRules⟩ := u
  obtain ⟨h_made, h_depth, h_length, h_tokenCount, h_wrong, h_letterCount, h_ruleCount, h_makingCount, h_usefulRules, h_stateCount, h_wideCount, h_useCount, h_result, b_ops, b_firsts, b_seconds, b_sizes, b_stack, b_roots, b_text, b_ends, b_tokenKinds, b_tokenSizes, b_letters, b_begins, b_closes, b_empties, b_nexts, b_sets, b_leads, b_classes, b_newClasses, b_lefts, b_rights, b_counts, b_making, b_firstSets, b_followSets, b_states, b_looks, b_wides, b_work, b_met, b_tasks, b_held, b_uses, b_reach⟩ := v
  obtain ⟨m, d, ga, lo, op, fi, se, st, kd, n, t, g, c, mk, hP, hT, hG, hC⟩ := I
  obtain ⟨m60, d8, e1, e2, e3, e4, hN, hS, hO, hR, hK⟩ := id hP
  obtain ⟨n24, e5, e6, hT1, hT2⟩ := id hT
  obtain ⟨hg, e7, e8, hG1, hG2, hl, c4, e9, e10, hmk⟩ := id hG
  subst e1 e2 e3 e4 e5 e6 e7 e8 e10
  refine xw_reads hg hG1 hC n24 hT1 hK (fun r tc wp ru sc wc gf rh tt uc K L bs fs ni oi ri si ss sl ws wl S V Us ha hX => ?_)
  refine yw_reads hg hG2 hl hN m60 n24 hT2 hR (fun r' tc2 wr2 u2 sc2 wc2 uc2 rs2 e2 K2 S2 fs2 fo2 st2 ls2 wi2 wo2 M2 T2 H2 Us2 R2 ha' => ?_)
  exact ⟨an_reads1 ha' ha, ir_mk hP hT hG (Or.inr ⟨rfl, hX⟩)⟩
theorem i_vc_stopsAt {k : Nat} {u : SX} {v : SY} (I : i_Rel k u v) (hk : k + 2 ≤ 1024) : wpX_stopsAt (fun r u' => wpY_stopsAt (fun r' v' => r' = r ∧ i_Rel (k + 2) u' v') v) u := by
  obtain ⟨f_depth, f_made, f_textLength, f_tokenCount, f_wrongPlace, f_ruleCount, f_prepared, f_rulesInUse, f_stateCount, f_wideCount, f_gradeFound, f_readHeight, f_tokensTaken, f_usedCount, a_spotCounts, a_ends, a_arrows, a_takers, a_groups, a_marks, a_text, a_tokenKinds, a_tokenLengths, a_lefts, a_rights, a_rightSizes, a_beginSets, a_followSets, a_nextItems, a_openItems, a_restItems, a_stateItems, a_stateSteps, a_stateLooks, a_wideSteps, a_wideLooks, a_readStates, a_readValues, a_usedRules⟩ := u
  obtain ⟨h_made, h_depth, h_length, h_tokenCount, h_wrong, h_letterCount, h_ruleCount, h_makingCount, h_usefulRules, h_stateCount, h_wideCount, h_useCount, h_result, b_ops, b_firsts, b_seconds, b_sizes, b_stack, b_roots, b_text, b_ends, b_tokenKinds, b_tokenSizes, b_letters, b_begins, b_closes, b_empties, b_nexts, b_sets, b_leads, b_classes, b_newClasses, b_lefts, b_rights, b_counts, b_making, b_firstSets, b_followSets, b_states, b_looks, b_wides, b_work, b_met, b_tasks, b_held, b_uses, b_reach⟩ := v
  obtain ⟨m, d, ga, lo, op, fi, se, st, kd, n, t, g, c, mk, hP, hT, hG, hC⟩ := I
  obtain ⟨m60, d8, e1, e2, e3, e4, hN, hS, hO, hR, hK⟩ := id hP
  obtain ⟨n24, e5, e6, hT1, hT2⟩ := id hT
  obtain ⟨hg, e7, e8, hG1, hG2, hl, c4, e9, e10, hmk⟩ := id hG
  subst e1 e2 e3 e4 e5 e6 e7 e8 e10
  refine xw_stopsAt hg hG1 hC n24 hT1 hK (fun r tc wp ru sc wc gf rh tt uc K L bs fs ni oi ri si ss sl ws wl S V Us ha hX => ?_)
  refine yw_stopsAt hg hG2 hl hN m60 n24 hT2 hR (fun r' tc2 wr2 u2 sc2 wc2 uc2 rs2 e2 K2 S2 fs2 fo2 st2 ls2 wi2 wo2 M2 T2 H2 Us2 R2 ha' => ?_)
  exact ⟨an_stops1 ha' ha, ir_mk hP hT hG (Or.inr ⟨rfl, hX⟩)⟩
theorem i_vc_uses {k : Nat} {u : SX} {v : SY} (I : i_Rel k u v) (hk : k + 2 ≤ 1024) : wpX_uses (fun r u' => wpY_uses (fun r' v' => r' = r ∧ i_Rel (k + 2) u' v') v) u := by
  obtain ⟨f_depth, f_made, f_textLength, f_tokenCount, f_wrongPlace, f_ruleCount, f_prepared, f_rulesInUse, f_stateCount, f_wideCount, f_gradeFound, f_readHeight, f_tokensTaken, f_usedCount, a_spotCounts, a_ends, a_arrows, a_takers, a_groups, a_marks, a_text, a_tokenKinds, a_tokenLengths, a_lefts, a_rights, a_rightSizes, a_beginSets, a_followSets, a_nextItems, a_openItems, a_restItems, a_stateItems, a_stateSteps, a_stateLooks, a_wideSteps, a_wideLooks, a_readStates, a_readValues, a_usedRules⟩ := u
  obtain ⟨h_made, h_depth, h_length, h_tokenCount, h_wrong, h_letterCount, h_ruleCount, h_makingCount, h_usefulRules, h_stateCount, h_wideCount, h_useCount, h_result, b_ops, b_firsts, b_seconds, b_sizes, b_stack, b_roots, b_text, b_ends, b_tokenKinds, b_tokenSizes, b_letters, b_begins, b_closes, b_empties, b_nexts, b_sets, b_leads, b_classes, b_newClasses, b_lefts, b_rights, b_counts, b_making, b_firstSets, b_followSets, b_states, b_looks, b_wides, b_work, b_met, b_tasks, b_held, b_uses, b_reach⟩ := v
  obtain ⟨m, d, ga, lo, op, fi, se, st, kd, n, t, g, c, mk, hP, hT, hG, hC⟩ := I
  obtain ⟨m60, d8, e1, e2, e3, e4, hN, hS, hO, hR, hK⟩ := id hP
  obtain ⟨n24, e5, e6, hT1, hT2⟩ := id hT
  obtain ⟨hg, e7, e8, hG1, hG2, hl, c4, e9, e10, hmk⟩ := id hG
  subst e1 e2 e3 e4 e5 e6 e7 e8 e10
  refine xw_uses hg hG1 hC n24 hT1 hK (fun r tc wp ru sc wc gf rh tt uc K L bs fs ni oi ri si ss sl ws wl S V Us ha hX => ?_)
  refine yw_uses hg hG2 hl hN m60 n24 hT2 hR (fun r' tc2 wr2 u2 sc2 wc2 uc2 rs2 e2 K2 S2 fs2 fo2 st2 ls2 wi2 wo2 M2 T2 H2 Us2 R2 ha' => ?_)
  exact ⟨an_uses1 hg ha' ha, ir_mk hP hT hG (Or.inr ⟨rfl, hX⟩)⟩
theorem i_vc_value {k : Nat} {u : SX} {v : SY} (I : i_Rel k u v) (hk : k + 2 ≤ 1024) : wpX_value (fun r u' => wpY_value (fun r' v' => r' = r ∧ i_Rel (k + 2) u' v') v) u := by
  obtain ⟨f_depth, f_made, f_textLength, f_tokenCount, f_wrongPlace, f_ruleCount, f_prepared, f_rulesInUse, f_stateCount, f_wideCount, f_gradeFound, f_readHeight, f_tokensTaken, f_usedCount, a_spotCounts, a_ends, a_arrows, a_takers, a_groups, a_marks, a_text, a_tokenKinds, a_tokenLengths, a_lefts, a_rights, a_rightSizes, a_beginSets, a_followSets, a_nextItems, a_openItems, a_restItems, a_stateItems, a_stateSteps, a_stateLooks, a_wideSteps, a_wideLooks, a_readStates, a_readValues, a_usedRules⟩ := u
  obtain ⟨h_made, h_depth, h_length, h_tokenCount, h_wrong, h_letterCount, h_ruleCount, h_makingCount, h_usefulRules, h_stateCount, h_wideCount, h_useCount, h_result, b_ops, b_firsts, b_seconds, b_sizes, b_stack, b_roots, b_text, b_ends, b_tokenKinds, b_tokenSizes, b_letters, b_begins, b_closes, b_empties, b_nexts, b_sets, b_leads, b_classes, b_newClasses, b_lefts, b_rights, b_counts, b_making, b_firstSets, b_followSets, b_states, b_looks, b_wides, b_work, b_met, b_tasks, b_held, b_uses, b_reach⟩ := v
  obtain ⟨m, d, ga, lo, op, fi, se, st, kd, n, t, g, c, mk, hP, hT, hG, hC⟩ := I
  obtain ⟨m60, d8, e1, e2, e3, e4, hN, hS, hO, hR, hK⟩ := id hP
  obtain ⟨n24, e5, e6, hT1, hT2⟩ := id hT
  obtain ⟨hg, e7, e8, hG1, hG2, hl, c4, e9, e10, hmk⟩ := id hG
  subst e1 e2 e3 e4 e5 e6 e7 e8 e10
  refine xw_value hg hG1 hC n24 hT1 hK (fun r tc wp ru sc wc gf rh tt uc K L bs fs ni oi ri si ss sl ws wl S V Us ha hX => ?_)
  refine yw_value hg hG2 hl hN m60 n24 hT2 hR (fun r' tc2 wr2 u2 sc2 wc2 uc2 rs2 e2 K2 S2 fs2 fo2 st2 ls2 wi2 wo2 M2 T2 H2 Us2 R2 ha' => ?_)
  exact ⟨an_value1 hg ha' ha, ir_mk hP hT hG (Or.inr ⟨rfl, hX⟩)⟩
theorem i_vc_used {k : Nat} {u : SX} {v : SY} (I : i_Rel k u v) (hk : k + 2 ≤ 1024) (v1 : Int32) : wpX_used (fun r u' => wpY_used (fun r' v' => r' = r ∧ i_Rel (k + 2) u' v') v v1) u v1 := by
  obtain ⟨f_depth, f_made, f_textLength, f_tokenCount, f_wrongPlace, f_ruleCount, f_prepared, f_rulesInUse, f_stateCount, f_wideCount, f_gradeFound, f_readHeight, f_tokensTaken, f_usedCount, a_spotCounts, a_ends, a_arrows, a_takers, a_groups, a_marks, a_text, a_tokenKinds, a_tokenLengths, a_lefts, a_rights, a_rightSizes, a_beginSets, a_followSets, a_nextItems, a_openItems, a_restItems, a_stateItems, a_stateSteps, a_stateLooks, a_wideSteps, a_wideLooks, a_readStates, a_readValues, a_usedRules⟩ := u
  obtain ⟨h_made, h_depth, h_length, h_tokenCount, h_wrong, h_letterCount, h_ruleCount, h_makingCount, h_usefulRules, h_stateCount, h_wideCount, h_useCount, h_result, b_ops, b_firsts, b_seconds, b_sizes, b_stack, b_roots, b_text, b_ends, b_tokenKinds, b_tokenSizes, b_letters, b_begins, b_closes, b_empties, b_nexts, b_sets, b_leads, b_classes, b_newClasses, b_lefts, b_rights, b_counts, b_making, b_firstSets, b_followSets, b_states, b_looks, b_wides, b_work, b_met, b_tasks, b_held, b_uses, b_reach⟩ := v
  obtain ⟨m, d, ga, lo, op, fi, se, st, kd, n, t, g, c, mk, hP, hT, hG, hC⟩ := I
  obtain ⟨m60, d8, e1, e2, e3, e4, hN, hS, hO, hR, hK⟩ := id hP
  obtain ⟨n24, e5, e6, hT1, hT2⟩ := id hT
  obtain ⟨hg, e7, e8, hG1, hG2, hl, c4, e9, e10, hmk⟩ := id hG
  subst e1 e2 e3 e4 e5 e6 e7 e8 e10
  refine xw_used hg hG1 hC n24 hT1 hK (fun r tc wp ru sc wc gf rh tt uc K L bs fs ni oi ri si ss sl ws wl S V Us ha hX => ?_)
  refine yw_used hg hG2 hl hN m60 n24 hT2 hR (fun r' tc2 wr2 u2 sc2 wc2 uc2 rs2 e2 K2 S2 fs2 fo2 st2 ls2 wi2 wo2 M2 T2 H2 Us2 R2 ha' => ?_)
  exact ⟨an_used1 hg ha' ha, ir_mk hP hT hG (Or.inr ⟨rfl, hX⟩)⟩
