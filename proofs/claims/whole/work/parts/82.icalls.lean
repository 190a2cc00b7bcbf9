/-! the calls about texts and rules -/
theorem i_vc_letter {k : Nat} {u : SX} {v : SY} (I : i_Rel k u v) (hk : k + 2 ≤ 1024) (v1 : Int32) : wpX_letter (fun r u' => wpY_letter (fun r' v' => r' = r ∧ i_Rel (k + 2) u' v') v v1) u v1 := by
  obtain ⟨f_depth, f_made, f_textLength, f_tokenCount, f_wrongPlace, f_ruleCount, f_prepared, f_rulesInUse, f_stateCount, f_wideCount, f_gradeFound, f_readHeight, f_tokensTaken, f_usedCount, a_spotCounts, a_ends, a_arrows, a_takers, a_groups, a_marks, a_text, a_tokenKinds, a_tokenLengths, a_lefts, a_rights, a_rightSizes, a_beginSets, a_followSets, a_nextItems, a_openItems, a_restItems, a_stateItems, a_stateSteps, a_stateLooks, a_wideSteps, a_wideLooks, a_readStates, a_readValues, a_usedRules⟩ := u
  obtain ⟨h_made, h_depth, h_length, h_tokenCount, h_wrong, h_letterCount, h_ruleCount, h_makingCount, h_usefulRules, h_stateCount, h_wideCount, h_useCount, h_result, b_ops, b_firsts, b_seconds, b_sizes, b_stack, b_roots, b_text, b_ends, b_tokenKinds, b_tokenSizes, b_letters, b_begins, b_closes, b_empties, b_nexts, b_sets, b_leads, b_classes, b_newClasses, b_lefts, b_rights, b_counts, b_making, b_firstSets, b_followSets, b_states, b_looks, b_wides, b_work, b_met, b_tasks, b_held, b_uses, b_reach⟩ := v
  obtain ⟨m, d, ga, lo, op, fi, se, st, kd, n, t, g, c, mk, hP, hT, hG, hC⟩ := I
  obtain ⟨m60, d8, e1, e2, e3, e4, hN, hS, hO, hR, hK⟩ := id hP
  obtain ⟨n24, e5, e6, hT1, hT2⟩ := id hT
  obtain ⟨hg, e7, e8, hG1, hG2, hl, c4, e9, e10, hmk⟩ := id hG
  subst e1 e2 e3 e4 e5 e6 e7 e8 e10
  refine br_c (fun z => br_t z ⟨rfl, ir_mk hP hT hG hC⟩) (fun z => ?_)
  obtain ⟨o, o31, rfl⟩ := nI_of z
  refine pk_lt o 3 (fun y => ?_) (fun y => br_f z (br_f (nI_ge (b := o) (a := 2) (by omega) o31) ⟨rfl, ir_mk hP hT hG hC⟩))
  have y2 : nI o ≤ 2 := nI_le (b := 2) (by omega) (by decide)
  refine pk_lt n 24 (fun w => ?_) (fun w => br_f z (br_t y2 (br_t (by rw [show n = 24 by omega]; rfl) ⟨rfl, ir_mk hP hT hG hC⟩)))
  have n24' : ¬ nI n = 24 := fun x => absurd ((nI_eq (b := 24) (by omega) (by decide)).mp x) (by omega)
  have vn : vp_in (nI n) 24 := vp_in_nI w (by decide)
  have cn : (nI n).toNatClampNeg = n := nI_clamp (by omega)
  refine ⟨vn, nm_r (e' := upd a_text n (nI o)) (by rw [cn]) (nm_r (nI_1 n) (br_f z (br_t y2 (br_f n24' ⟨vn, nm_r (e' := upd b_text n (nI o)) (by rw [cn]) (nm_r (nI_1 n) ⟨rfl, ?_⟩)⟩))))⟩
  exact ir_mk hP (ir_Ta hT w y) hG hC
theorem i_vc_textless {k : Nat} {u : SX} {v : SY} (I : i_Rel k u v) (hk : k + 2 ≤ 1024) : wpX_textless (fun u' => wpY_textless (fun v' => i_Rel (k + 2) u' v') v) u := by
  obtain ⟨f_depth, f_made, f_textLength, f_tokenCount, f_wrongPlace, f_ruleCount, f_prepared, f_rulesInUse, f_stateCount, f_wideCount, f_gradeFound, f_readHeight, f_tokensTaken, f_usedCount, a_spotCounts, a_ends, a_arrows, a_takers, a_groups, a_marks, a_text, a_tokenKinds, a_tokenLengths, a_lefts, a_rights, a_rightSizes, a_beginSets, a_followSets, a_nextItems, a_openItems, a_restItems, a_stateItems, a_stateSteps, a_stateLooks, a_wideSteps, a_wideLooks, a_readStates, a_readValues, a_usedRules⟩ := u
  obtain ⟨h_made, h_depth, h_length, h_tokenCount, h_wrong, h_letterCount, h_ruleCount, h_makingCount, h_usefulRules, h_stateCount, h_wideCount, h_useCount, h_result, b_ops, b_firsts, b_seconds, b_sizes, b_stack, b_roots, b_text, b_ends, b_tokenKinds, b_tokenSizes, b_letters, b_begins, b_closes, b_empties, b_nexts, b_sets, b_leads, b_classes, b_newClasses, b_lefts, b_rights, b_counts, b_making, b_firstSets, b_followSets, b_states, b_looks, b_wides, b_work, b_met, b_tasks, b_held, b_uses, b_reach⟩ := v
  obtain ⟨m, d, ga, lo, op, fi, se, st, kd, n, t, g, c, mk, hP, hT, hG, hC⟩ := I
  obtain ⟨m60, d8, e1, e2, e3, e4, hN, hS, hO, hR, hK⟩ := id hP
  obtain ⟨n24, e5, e6, hT1, hT2⟩ := id hT
  obtain ⟨hg, e7, e8, hG1, hG2, hl, c4, e9, e10, hmk⟩ := id hG
  subst e1 e2 e3 e4 e5 e6 e7 e8 e10
  show i_Rel (k + 2) ((nI d), (nI m), 0, f_tokenCount, f_wrongPlace, (nI (rg_n g)), f_prepared, f_rulesInUse, f_stateCount, f_wideCount, f_gradeFound, f_readHeight, f_tokensTaken, f_usedCount, a_spotCounts, a_ends, a_arrows, a_takers, a_groups, a_marks, a_text, a_tokenKinds, a_tokenLengths, a_lefts, a_rights, a_rightSizes, a_beginSets, a_followSets, a_nextItems, a_openItems, a_restItems, a_stateItems, a_stateSteps, a_stateLooks, a_wideSteps, a_wideLooks, a_readStates, a_readValues, a_usedRules) ((nI m), (nI d), 0, h_tokenCount, h_wrong, h_letterCount, (nI (rg_n g)), (nI c), h_usefulRules, h_stateCount, h_wideCount, h_useCount, h_result, b_ops, b_firsts, b_seconds, b_sizes, b_stack, b_roots, b_text, b_ends, b_tokenKinds, b_tokenSizes, b_letters, b_begins, b_closes, b_empties, b_nexts, b_sets, b_leads, b_classes, b_newClasses, b_lefts, b_rights, b_counts, b_making, b_firstSets, b_followSets, b_states, b_looks, b_wides, b_work, b_met, b_tasks, b_held, b_uses, b_reach)
  exact ir_mk hP (n := 0) (t := t) ⟨Nat.zero_le _, rfl, rfl, fun i hi => absurd hi (Nat.not_lt_zero _), fun i hi => absurd hi (Nat.not_lt_zero _)⟩ hG hC
theorem i_vc_tokens {k : Nat} {u : SX} {v : SY} (I : i_Rel k u v) (hk : k + 2 ≤ 1024) : wpX_tokens (fun r u' => wpY_tokens (fun r' v' => r' = r ∧ i_Rel (k + 2) u' v') v) u := by
  obtain ⟨f_depth, f_made, f_textLength, f_tokenCount, f_wrongPlace, f_ruleCount, f_prepared, f_rulesInUse, f_stateCount, f_wideCount, f_gradeFound, f_readHeight, f_tokensTaken, f_usedCount, a_spotCounts, a_ends, a_arrows, a_takers, a_groups, a_marks, a_text, a_tokenKinds, a_tokenLengths, a_lefts, a_rights, a_rightSizes, a_beginSets, a_followSets, a_nextItems, a_openItems, a_restItems, a_stateItems, a_stateSteps, a_stateLooks, a_wideSteps, a_wideLooks, a_readStates, a_readValues, a_usedRules⟩ := u
  obtain ⟨h_made, h_depth, h_length, h_tokenCount, h_wrong, h_letterCount, h_ruleCount, h_makingCount, h_usefulRules, h_stateCount, h_wideCount, h_useCount, h_result, b_ops, b_firsts, b_seconds, b_sizes, b_stack, b_roots, b_text, b_ends, b_tokenKinds, b_tokenSizes, b_letters, b_begins, b_closes, b_empties, b_nexts, b_sets, b_leads, b_classes, b_newClasses, b_lefts, b_rights, b_counts, b_making, b_firstSets, b_followSets, b_states, b_looks, b_wides, b_work, b_met, b_tasks, b_held, b_uses, b_reach⟩ := v
  obtain ⟨m, d, ga, lo, op, fi, se, st, kd, n, t, g, c, mk, hP, hT, hG, hC⟩ := I
  obtain ⟨m60, d8, e1, e2, e3, e4, hN, hS, hO, hR, hK⟩ := id hP
  obtain ⟨n24, e5, e6, hT1, hT2⟩ := id hT
  obtain ⟨hg, e7, e8, hG1, hG2, hl, c4, e9, e10, hmk⟩ := id hG
  subst e1 e2 e3 e4 e5 e6 e7 e8 e10
  delta wpX_tokens
  refine xw_cutText n24 hT1 hK (fun c1 K L h1 => ?_)
  delta wpY_tokens
  refine yw_cut hN m60 n24 hT2 hR (fun e c2 K2 S2 h2 => ?_)
  have ec := ct_C_one h1.1 h2.1
  subst ec
  exact ⟨rfl, ir_mk hP hT hG hC⟩
theorem i_vc_wrongAt {k : Nat} {u : SX} {v : SY} (I : i_Rel k u v) (hk : k + 2 ≤ 1024) : wpX_wrongAt (fun r u' => wpY_wrongAt (fun r' v' => r' = r ∧ i_Rel (k + 2) u' v') v) u := by
  obtain ⟨f_depth, f_made, f_textLength, f_tokenCount, f_wrongPlace, f_ruleCount, f_prepared, f_rulesInUse, f_stateCount, f_wideCount, f_gradeFound, f_readHeight, f_tokensTaken, f_usedCount, a_spotCounts, a_ends, a_arrows, a_takers, a_groups, a_marks, a_text, a_tokenKinds, a_tokenLengths, a_lefts, a_rights, a_rightSizes, a_beginSets, a_followSets, a_nextItems, a_openItems, a_restItems, a_stateItems, a_stateSteps, a_stateLooks, a_wideSteps, a_wideLooks, a_readStates, a_readValues, a_usedRules⟩ := u
  obtain ⟨h_made, h_depth, h_length, h_tokenCount, h_wrong, h_letterCount, h_ruleCount, h_makingCount, h_usefulRules, h_stateCount, h_wideCount, h_useCount, h_result, b_ops, b_firsts, b_seconds, b_sizes, b_stack, b_roots, b_text, b_ends, b_tokenKinds, b_tokenSizes, b_letters, b_begins, b_closes, b_empties, b_nexts, b_sets, b_leads, b_classes, b_newClasses, b_lefts, b_rights, b_counts, b_making, b_firstSets, b_followSets, b_states, b_looks, b_wides, b_work, b_met, b_tasks, b_held, b_uses, b_reach⟩ := v
  obtain ⟨m, d, ga, lo, op, fi, se, st, kd, n, t, g, c, mk, hP, hT, hG, hC⟩ := I
  obtain ⟨m60, d8, e1, e2, e3, e4, hN, hS, hO, hR, hK⟩ := id hP
  obtain ⟨n24, e5, e6, hT1, hT2⟩ := id hT
  obtain ⟨hg, e7, e8, hG1, hG2, hl, c4, e9, e10, hmk⟩ := id hG
  subst e1 e2 e3 e4 e5 e6 e7 e8 e10
  delta wpX_wrongAt
  refine xw_cutText n24 hT1 hK (fun c1 K L h1 => ?_)
  delta wpY_wrongAt
  refine yw_cut hN m60 n24 hT2 hR (fun e c2 K2 S2 h2 => ?_)
  have ec := ct_C_one h1.1 h2.1
  subst ec
  exact ⟨rfl, ir_mk hP hT hG hC⟩
theorem i_vc_kindOf {k : Nat} {u : SX} {v : SY} (I : i_Rel k u v) (hk : k + 2 ≤ 1024) (v1 : Int32) : wpX_kindOf (fun r u' => wpY_kindOf (fun r' v' => r' = r ∧ i_Rel (k + 2) u' v') v v1) u v1 := by
  obtain ⟨f_depth, f_made, f_textLength, f_tokenCount, f_wrongPlace, f_ruleCount, f_prepared, f_rulesInUse, f_stateCount, f_wideCount, f_gradeFound, f_readHeight, f_tokensTaken, f_usedCount, a_spotCounts, a_ends, a_arrows, a_takers, a_groups, a_marks, a_text, a_tokenKinds, a_tokenLengths, a_lefts, a_rights, a_rightSizes, a_beginSets, a_followSets, a_nextItems, a_openItems, a_restItems, a_stateItems, a_stateSteps, a_stateLooks, a_wideSteps, a_wideLooks, a_readStates, a_readValues, a_usedRules⟩ := u
  obtain ⟨h_made, h_depth, h_length, h_tokenCount, h_wrong, h_letterCount, h_ruleCount, h_makingCount, h_usefulRules, h_stateCount, h_wideCount, h_useCount, h_result, b_ops, b_firsts, b_seconds, b_sizes, b_stack, b_roots, b_text, b_ends, b_tokenKinds, b_tokenSizes, b_letters, b_begins, b_closes, b_empties, b_nexts, b_sets, b_leads, b_classes, b_newClasses, b_lefts, b_rights, b_counts, b_making, b_firstSets, b_followSets, b_states, b_looks, b_wides, b_work, b_met, b_tasks, b_held, b_uses, b_reach⟩ := v
  obtain ⟨m, d, ga, lo, op, fi, se, st, kd, n, t, g, c, mk, hP, hT, hG, hC⟩ := I
  obtain ⟨m60, d8, e1, e2, e3, e4, hN, hS, hO, hR, hK⟩ := id hP
  obtain ⟨n24, e5, e6, hT1, hT2⟩ := id hT
  obtain ⟨hg, e7, e8, hG1, hG2, hl, c4, e9, e10, hmk⟩ := id hG
  subst e1 e2 e3 e4 e5 e6 e7 e8 e10
  delta wpX_kindOf
  refine xw_cutText n24 hT1 hK (fun c1 K L h1 => ?_)
  have c24 := ct_C_24 n24 h1.1.1
  refine br_c (fun z => ?_) (fun z => ?_)
  · delta wpY_kindOf
    refine yw_cut hN m60 n24 hT2 hR (fun e c2 K2 S2 h2 => ?_)
    exact br_t z ⟨rfl, ir_mk hP hT hG hC⟩
  · obtain ⟨o, o31, rfl⟩ := nI_of z
    refine pk_lt o c1 (fun y => ⟨vp_in_nI (by omega) (by decide), ?_⟩) (fun y => ?_)
    · delta wpY_kindOf
      refine yw_cut hN m60 n24 hT2 hR (fun e c2 K2 S2 h2 => ?_)
      have ec := ct_C_one h1.1 h2.1
      subst ec
      refine br_f z (br_f (nI_ge y (by omega)) ⟨vp_in_nI (by omega) (by decide), ?_, ir_mk hP hT hG hC⟩)
      rw [nI_clamp o31, (h1.2 o y).1, (h2.2 o y).1]
    · delta wpY_kindOf
      refine yw_cut hN m60 n24 hT2 hR (fun e c2 K2 S2 h2 => ?_)
      have ec := ct_C_one h1.1 h2.1
      subst ec
      exact br_f z (br_t (nI_le y o31) ⟨rfl, ir_mk hP hT hG hC⟩)
theorem i_vc_lengthOf {k : Nat} {u : SX} {v : SY} (I : i_Rel k u v) (hk : k + 2 ≤ 1024) (v1 : Int32) : wpX_lengthOf (fun r u' => wpY_lengthOf (fun r' v' => r' = r ∧ i_Rel (k + 2) u' v') v v1) u v1 := by
  obtain ⟨f_depth, f_made, f_textLength, f_tokenCount, f_wrongPlace, f_ruleCount, f_prepared, f_rulesInUse, f_stateCount, f_wideCount, f_gradeFound, f_readHeight, f_tokensTaken, f_usedCount, a_spotCounts, a_ends, a_arrows, a_takers, a_groups, a_marks, a_text, a_tokenKinds, a_tokenLengths, a_lefts, a_rights, a_rightSizes, a_beginSets, a_followSets, a_nextItems, a_openItems, a_restItems, a_stateItems, a_stateSteps, a_stateLooks, a_wideSteps, a_wideLooks, a_readStates, a_readValues, a_usedRules⟩ := u
  obtain ⟨h_made, h_depth, h_length, h_tokenCount, h_wrong, h_letterCount, h_ruleCount, h_makingCount, h_usefulRules, h_stateCount, h_wideCount, h_useCount, h_result, b_ops, b_firsts, b_seconds, b_sizes, b_stack, b_roots, b_text, b_ends, b_tokenKinds, b_tokenSizes, b_letters, b_begins, b_closes, b_empties, b_nexts, b_sets, b_leads, b_classes, b_newClasses, b_lefts, b_rights, b_counts, b_making, b_firstSets, b_followSets, b_states, b_looks, b_wides, b_work, b_met, b_tasks, b_held, b_uses, b_reach⟩ := v
  obtain ⟨m, d, ga, lo, op, fi, se, st, kd, n, t, g, c, mk, hP, hT, hG, hC⟩ := I
  obtain ⟨m60, d8, e1, e2, e3, e4, hN, hS, hO, hR, hK⟩ := id hP
  obtain ⟨n24, e5, e6, hT1, hT2⟩ := id hT
  obtain ⟨hg, e7, e8, hG1, hG2, hl, c4, e9, e10, hmk⟩ := id hG
  subst e1 e2 e3 e4 e5 e6 e7 e8 e10
  delta wpX_lengthOf
  refine xw_cutText n24 hT1 hK (fun c1 K L h1 => ?_)
  have c24 := ct_C_24 n24 h1.1.1
  refine br_c (fun z => ?_) (fun z => ?_)
  · delta wpY_lengthOf
    refine yw_cut hN m60 n24 hT2 hR (fun e c2 K2 S2 h2 => ?_)
    exact br_t z ⟨rfl, ir_mk hP hT hG hC⟩
  · obtain ⟨o, o31, rfl⟩ := nI_of z
    refine pk_lt o c1 (fun y => ⟨vp_in_nI (by omega) (by decide), ?_⟩) (fun y => ?_)
    · delta wpY_lengthOf
      refine yw_cut hN m60 n24 hT2 hR (fun e c2 K2 S2 h2 => ?_)
      have ec := ct_C_one h1.1 h2.1
      subst ec
      refine br_f z (br_f (nI_ge y (by omega)) ⟨vp_in_nI (by omega) (by decide), ?_, ir_mk hP hT hG hC⟩)
      rw [nI_clamp o31, (h1.2 o y).2, (h2.2 o y).2]
    · delta wpY_lengthOf
      refine yw_cut hN m60 n24 hT2 hR (fun e c2 K2 S2 h2 => ?_)
      have ec := ct_C_one h1.1 h2.1
      subst ec
      exact br_f z (br_t (nI_le y o31) ⟨rfl, ir_mk hP hT hG hC⟩)
theorem i_vc_automaton {k : Nat} {u : SX} {v : SY} (I : i_Rel k u v) (hk : k + 2 ≤ 1024) (v1 : Int32) : wpX_automaton (fun r u' => wpY_automaton (fun r' v' => r' = r ∧ i_Rel (k + 2) u' v') v v1) u v1 := by
  obtain ⟨f_depth, f_made, f_textLength, f_tokenCount, f_wrongPlace, f_ruleCount, f_prepared, f_rulesInUse, f_stateCount, f_wideCount, f_gradeFound, f_readHeight, f_tokensTaken, f_usedCount, a_spotCounts, a_ends, a_arrows, a_takers, a_groups, a_marks, a_text, a_tokenKinds, a_tokenLengths, a_lefts, a_rights, a_rightSizes, a_beginSets, a_followSets, a_nextItems, a_openItems, a_restItems, a_stateItems, a_stateSteps, a_stateLooks, a_wideSteps, a_wideLooks, a_readStates, a_readValues, a_usedRules⟩ := u
  obtain ⟨h_made, h_depth, h_length, h_tokenCount, h_wrong, h_letterCount, h_ruleCount, h_makingCount, h_usefulRules, h_stateCount, h_wideCount, h_useCount, h_result, b_ops, b_firsts, b_seconds, b_sizes, b_stack, b_roots, b_text, b_ends, b_tokenKinds, b_tokenSizes, b_letters, b_begins, b_closes, b_empties, b_nexts, b_sets, b_leads, b_classes, b_newClasses, b_lefts, b_rights, b_counts, b_making, b_firstSets, b_followSets, b_states, b_looks, b_wides, b_work, b_met, b_tasks, b_held, b_uses, b_reach⟩ := v
  obtain ⟨m, d, ga, lo, op, fi, se, st, kd, n, t, g, c, mk, hP, hT, hG, hC⟩ := I
  obtain ⟨m60, d8, e1, e2, e3, e4, hN, hS, hO, hR, hK⟩ := id hP
  obtain ⟨n24, e5, e6, hT1, hT2⟩ := id hT
  obtain ⟨hg, e7, e8, hG1, hG2, hl, c4, e9, e10, hmk⟩ := id hG
  subst e1 e2 e3 e4 e5 e6 e7 e8 e10
  by_cases z : v1 < 0
  · exact br_t z (br_t z ⟨rfl, ir_mk hP hT hG hC⟩)
  · obtain ⟨o, o31, rfl⟩ := nI_of z
    by_cases y : o < 3
    · refine xw_automaton y (hK o y) (fun r G M hr => ?_)
      refine yw_automaton hN m60 hR y (fun a lc L B C E N S D K K' ha => ⟨ap_A1 ha hr, ir_mk hP hT hG hC⟩)
    · exact br_f z (br_f (nI_nlt (b := 3) (by omega) o31) (br_f z (br_f (nI_ge (b := o) (a := 2) (by omega) o31) ⟨rfl, ir_mk hP hT hG hC⟩)))
theorem i_vc_symbol {k : Nat} {u : SX} {v : SY} (I : i_Rel k u v) (hk : k + 2 ≤ 1024) (v1 : Int32) : wpX_symbol (fun r u' => wpY_symbol (fun r' v' => r' = r ∧ i_Rel (k + 2) u' v') v v1) u v1 := by
  obtain ⟨f_depth, f_made, f_textLength, f_tokenCount, f_wrongPlace, f_ruleCount, f_prepared, f_rulesInUse, f_stateCount, f_wideCount, f_gradeFound, f_readHeight, f_tokensTaken, f_usedCount, a_spotCounts, a_ends, a_arrows, a_takers, a_groups, a_marks, a_text, a_tokenKinds, a_tokenLengths, a_lefts, a_rights, a_rightSizes, a_beginSets, a_followSets, a_nextItems, a_openItems, a_restItems, a_stateItems, a_stateSteps, a_stateLooks, a_wideSteps, a_wideLooks, a_readStates, a_readValues, a_usedRules⟩ := u
  obtain ⟨h_made, h_depth, h_length, h_tokenCount, h_wrong, h_letterCount, h_ruleCount, h_makingCount, h_usefulRules, h_stateCount, h_wideCount, h_useCount, h_result, b_ops, b_firsts, b_seconds, b_sizes, b_stack, b_roots, b_text, b_ends, b_tokenKinds, b_tokenSizes, b_letters, b_begins, b_closes, b_empties, b_nexts, b_sets, b_leads, b_classes, b_newClasses, b_lefts, b_rights, b_counts, b_making, b_firstSets, b_followSets, b_states, b_looks, b_wides, b_work, b_met, b_tasks, b_held, b_uses, b_reach⟩ := v
  obtain ⟨m, d, ga, lo, op, fi, se, st, kd, n, t, g, c, mk, hP, hT, hG, hC⟩ := I
  obtain ⟨m60, d8, e1, e2, e3, e4, hN, hS, hO, hR, hK⟩ := id hP
  obtain ⟨n24, e5, e6, hT1, hT2⟩ := id hT
  obtain ⟨hg, e7, e8, hG1, hG2, hl, c4, e9, e10, hmk⟩ := id hG
  subst e1 e2 e3 e4 e5 e6 e7 e8 e10
  refine br_c (fun z => br_t z ⟨rfl, ir_mk hP hT hG hC⟩) (fun z => ?_)
  obtain ⟨o, o31, rfl⟩ := nI_of z
  refine pk_lt o 7 (fun y => nm_r e9 ?_) (fun y => br_f z (br_f (nI_ge (b := o) (a := 6) (by omega) o31) ⟨rfl, ir_mk hP hT hG hC⟩))
  have y2 : nI o ≤ 6 := nI_le (b := 6) (by omega) (by decide)
  refine pk_lt c 4 (fun w => ?_) (fun w => br_f z (br_t y2 (br_t (by rw [show c = 4 by omega]; rfl) ⟨rfl, ir_mk hP hT hG hC⟩)))
  have n4 : ¬ nI c = 4 := fun x => absurd ((nI_eq (b := 4) (by omega) (by decide)).mp x) (by omega)
  have e40 : (40 : Int32) + nI c = nI (40 + c) := nI_add 40 c
  have cc : (nI c).toNatClampNeg = c := nI_clamp (by omega)
  rw [nI_1 c]
  refine ⟨pk_in (40 + c) 44 (by omega) e40, nm_r (e' := upd a_rights (40 + c) (nI o)) (by rw [pk_cl (40 + c) e40]) (nm_e (br_f z (br_t y2 (br_f n4 ⟨vp_in_nI w (by decide), nm_r (e' := upd b_making c (nI o)) (by rw [cc]) (nm_r (nI_1 c) ⟨rfl, ?_⟩)⟩))))⟩
  exact ir_mk hP hT (ir_sym hG w y) hC
theorem i_vc_rule {k : Nat} {u : SX} {v : SY} (I : i_Rel k u v) (hk : k + 2 ≤ 1024) (v1 : Int32) : wpX_rule (fun r u' => wpY_rule (fun r' v' => r' = r ∧ i_Rel (k + 2) u' v') v v1) u v1 := by
  obtain ⟨f_depth, f_made, f_textLength, f_tokenCount, f_wrongPlace, f_ruleCount, f_prepared, f_rulesInUse, f_stateCount, f_wideCount, f_gradeFound, f_readHeight, f_tokensTaken, f_usedCount, a_spotCounts, a_ends, a_arrows, a_takers, a_groups, a_marks, a_text, a_tokenKinds, a_tokenLengths, a_lefts, a_rights, a_rightSizes, a_beginSets, a_followSets, a_nextItems, a_openItems, a_restItems, a_stateItems, a_stateSteps, a_stateLooks, a_wideSteps, a_wideLooks, a_readStates, a_readValues, a_usedRules⟩ := u
  obtain ⟨h_made, h_depth, h_length, h_tokenCount, h_wrong, h_letterCount, h_ruleCount, h_makingCount, h_usefulRules, h_stateCount, h_wideCount, h_useCount, h_result, b_ops, b_firsts, b_seconds, b_sizes, b_stack, b_roots, b_text, b_ends, b_tokenKinds, b_tokenSizes, b_letters, b_begins, b_closes, b_empties, b_nexts, b_sets, b_leads, b_classes, b_newClasses, b_lefts, b_rights, b_counts, b_making, b_firstSets, b_followSets, b_states, b_looks, b_wides, b_work, b_met, b_tasks, b_held, b_uses, b_reach⟩ := v
  obtain ⟨m, d, ga, lo, op, fi, se, st, kd, n, t, g, c, mk, hP, hT, hG, hC⟩ := I
  obtain ⟨m60, d8, e1, e2, e3, e4, hN, hS, hO, hR, hK⟩ := id hP
  obtain ⟨n24, e5, e6, hT1, hT2⟩ := id hT
  obtain ⟨hg, e7, e8, hG1, hG2, hl, c4, e9, e10, hmk⟩ := id hG
  subst e1 e2 e3 e4 e5 e6 e7 e8 e10
  refine br_c (fun z => br_t z ⟨rfl, ir_mk hP hT hG hC⟩) (fun z => ?_)
  obtain ⟨o, o31, rfl⟩ := nI_of (fun q => z (Int32.lt_trans q (by decide)))
  have o3 : 3 ≤ o := by
    rw [show (3 : Int32) = nI 3 from rfl, nI_ltI o31 (by decide)] at z
    omega
  refine pk_lt o 7 (fun y => ?_) (fun y => br_f z (br_f (nI_ge (b := o) (a := 6) (by omega) o31) ⟨rfl, ir_mk hP hT hG hC⟩))
  have y2 : nI o ≤ 6 := nI_le (b := 6) (by omega) (by decide)
  have n9 := hg.1
  refine pk_lt (rg_n g) 9 (fun w => ?_) (fun w => br_f z (br_t y2 (br_t (by rw [show rg_n g = 9 by omega]; rfl) ⟨rfl, ir_mk hP hT hG hC⟩)))
  have nn : ¬ nI (rg_n g) = 9 := fun x => absurd ((nI_eq (b := 9) (by omega) (by decide)).mp x) (by omega)
  have cN : (nI (rg_n g)).toNatClampNeg = rg_n g := nI_clamp (by omega)
  refine ⟨vp_in_nI (by omega) (by decide), nm_r (e' := upd a_lefts (rg_n g) (nI o)) (by rw [cN]) ⟨vp_in_nI (by omega) (by decide), nm_r (e' := upd a_rightSizes (rg_n g) (nI c)) (by rw [cN, e9]) ?_⟩⟩
  refine loop_0 (fun f j s => wX_rule_52 (fun r u' => wpY_rule (fun r' v' => r' = r ∧ i_Rel (k + 2) u' v') ((nI m), (nI d), (nI n), h_tokenCount, h_wrong, h_letterCount, (nI (rg_n g)), (nI c), h_usefulRules, h_stateCount, h_wideCount, h_useCount, h_result, b_ops, b_firsts, b_seconds, b_sizes, b_stack, b_roots, b_text, b_ends, b_tokenKinds, b_tokenSizes, b_letters, b_begins, b_closes, b_empties, b_nexts, b_sets, b_leads, b_classes, b_newClasses, b_lefts, b_rights, b_counts, b_making, b_firstSets, b_followSets, b_states, b_looks, b_wides, b_work, b_met, b_tasks, b_held, b_uses, b_reach) (nI o)) (nI (rg_n g)) (nI d) (nI m) (nI n) f_tokenCount f_wrongPlace (nI (rg_n g)) f_prepared f_rulesInUse f_stateCount f_wideCount f_gradeFound f_readHeight f_tokensTaken f_usedCount f (nI j) a_spotCounts a_ends a_arrows a_takers a_groups a_marks a_text a_tokenKinds a_tokenLengths (upd a_lefts (rg_n g) (nI o)) s (upd a_rightSizes (rg_n g) (nI c)) a_beginSets a_followSets a_nextItems a_openItems a_restItems a_stateItems a_stateSteps a_stateLooks a_wideSteps a_wideLooks a_readStates a_readValues a_usedRules) (fun j s => s = ax_set a_rights (rg_n g * 4) j (fun i => a_rights (40 + i))) 4 a_rights (ax_0 _ _ _).symm ?_ ?_
  · rintro f s rfl
    refine br_t (nI_le (Nat.le_refl 4) (by decide)) (nm_e (nm_r (nI_1 _) ?_))
    refine br_f z (br_t y2 (br_f nn ⟨vp_in_nI (by omega) (by decide), nm_r (e' := upd b_lefts (rg_n g) (nI o)) (by rw [cN]) ⟨vp_in_nI (by omega) (by decide), nm_r (e' := upd b_counts (rg_n g) (nI c)) (by rw [cN]) ?_⟩⟩))
    refine loop_0 (fun f j s => wY_rule_50 (fun r' v' => r' = nI (rg_n g) ∧ i_Rel (k + 2) ((nI d), (nI m), (nI n), f_tokenCount, f_wrongPlace, (nI (rg_n g + 1)), 0, f_rulesInUse, f_stateCount, f_wideCount, f_gradeFound, f_readHeight, f_tokensTaken, f_usedCount, a_spotCounts, a_ends, a_arrows, a_takers, a_groups, a_marks, a_text, a_tokenKinds, a_tokenLengths, (upd a_lefts (rg_n g) (nI o)), (ax_set a_rights (rg_n g * 4) 4 (fun i => a_rights (40 + i))), (upd (upd a_rightSizes (rg_n g) (nI c)) 10 0), a_beginSets, a_followSets, a_nextItems, a_openItems, a_restItems, a_stateItems, a_stateSteps, a_stateLooks, a_wideSteps, a_wideLooks, a_readStates, a_readValues, a_usedRules) v') (nI m) (nI d) (nI n) h_tokenCount h_wrong h_letterCount (nI (rg_n g)) (nI c) h_usefulRules h_stateCount h_wideCount h_useCount h_result f (nI j) b_ops b_firsts b_seconds b_sizes b_stack b_roots b_text b_ends b_tokenKinds b_tokenSizes b_letters b_begins b_closes b_empties b_nexts b_sets b_leads b_classes b_newClasses (upd b_lefts (rg_n g) (nI o)) s (upd b_counts (rg_n g) (nI c)) b_making b_firstSets b_followSets b_states b_looks b_wides b_work b_met b_tasks b_held b_uses b_reach) (fun j s => s = ax_set b_rights (rg_n g * 4) j (fun i => b_making i)) c b_rights (ax_0 _ _ _).symm ?_ ?_
    · rintro f' s rfl
      refine br_t (nI_le (Nat.le_refl c) (by omega)) (nm_r (nI_1 _) ⟨pk_sub (a := rg_n g + 1) (b := 1) (by omega), ?_⟩)
      exact ir_mk hP hT (ir_rule hG w o3 y (fun j hj => ax_out (by omega)) (fun i hi => ax_in (by omega)) (fun j hj => ax_out (by omega)) (fun i hi => ax_in hi)) (Or.inl rfl)
    · rintro f' j s hj rfl hk'
      have ix : (4 : Int32) * nI (rg_n g) + nI j = nI (rg_n g * 4 + j) := ix_l4 (rg_n g) j
      refine br_f (nI_ge hj (by omega)) ⟨vp_in_nI (by omega) (by decide), pk_in (rg_n g * 4 + j) 40 (by omega) ix, nm_r ?_ (nm_r (nI_1 j) (hk' _ rfl))⟩
      rw [pk_cl (rg_n g * 4 + j) ix, nI_clamp (by omega : j < 2 ^ 31)]
      exact ax_s _ _ _ _
  · rintro f j s hj rfl hk'
    have ix : nI (rg_n g) * 4 + nI j = nI (rg_n g * 4 + j) := ix_4 (rg_n g) j
    have e40 : (40 : Int32) + nI j = nI (40 + j) := nI_add 40 j
    refine br_f (nI_ge hj (by decide)) ⟨pk_in (40 + j) 44 (by omega) e40, pk_in (rg_n g * 4 + j) 44 (by omega) ix, nm_r ?_ (nm_r (nI_1 j) (hk' _ rfl))⟩
    rw [pk_cl (rg_n g * 4 + j) ix, pk_cl (40 + j) e40, ax_out (j := 40 + j) (by omega)]
    exact ax_s a_rights (rg_n g * 4) j (fun i => a_rights (40 + i))
theorem i_vc_unrule {k : Nat} {u : SX} {v : SY} (I : i_Rel k u v) (hk : k + 2 ≤ 1024) : wpX_unrule (fun r u' => wpY_unrule (fun r' v' => r' = r ∧ i_Rel (k + 2) u' v') v) u := by
  obtain ⟨f_depth, f_made, f_textLength, f_tokenCount, f_wrongPlace, f_ruleCount, f_prepared, f_rulesInUse, f_stateCount, f_wideCount, f_gradeFound, f_readHeight, f_tokensTaken, f_usedCount, a_spotCounts, a_ends, a_arrows, a_takers, a_groups, a_marks, a_text, a_tokenKinds, a_tokenLengths, a_lefts, a_rights, a_rightSizes, a_beginSets, a_followSets, a_nextItems, a_openItems, a_restItems, a_stateItems, a_stateSteps, a_stateLooks, a_wideSteps, a_wideLooks, a_readStates, a_readValues, a_usedRules⟩ := u
  obtain ⟨h_made, h_depth, h_length, h_tokenCount, h_wrong, h_letterCount, h_ruleCount, h_makingCount, h_usefulRules, h_stateCount, h_wideCount, h_useCount, h_result, b_ops, b_firsts, b_seconds, b_sizes, b_stack, b_roots, b_text, b_ends, b_tokenKinds, b_tokenSizes, b_letters, b_begins, b_closes, b_empties, b_nexts, b_sets, b_leads, b_classes, b_newClasses, b_lefts, b_rights, b_counts, b_making, b_firstSets, b_followSets, b_states, b_looks, b_wides, b_work, b_met, b_tasks, b_held, b_uses, b_reach⟩ := v
  obtain ⟨m, d, ga, lo, op, fi, se, st, kd, n, t, g, c, mk, hP, hT, hG, hC⟩ := I
  obtain ⟨m60, d8, e1, e2, e3, e4, hN, hS, hO, hR, hK⟩ := id hP
  obtain ⟨n24, e5, e6, hT1, hT2⟩ := id hT
  obtain ⟨hg, e7, e8, hG1, hG2, hl, c4, e9, e10, hmk⟩ := id hG
  subst e1 e2 e3 e4 e5 e6 e7 e8 e10
  refine br_c (fun z => br_t z ⟨rfl, ir_mk hP hT hG hC⟩) (fun z => ?_)
  have n9 := hg.1
  have n0 : rg_n g ≠ 0 := fun w => z (by rw [w]; rfl)
  obtain ⟨N, hN'⟩ : ∃ N, rg_n g = N + 1 := ⟨rg_n g - 1, by omega⟩
  have es : nI (rg_n g) - 1 = nI N := by rw [hN']; exact pk_sub (a := N + 1) (b := 1) (by omega)
  refine nm_r es (br_f z (nm_r es ⟨rfl, ?_⟩))
  exact ir_mk hP hT (ir_less hG hN') (Or.inl rfl)
