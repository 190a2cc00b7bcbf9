/-! the relation, the start, and the calls that make patterns -/
variable {h_made h_depth h_length h_tokenCount h_wrong h_letterCount h_ruleCount h_makingCount h_usefulRules h_stateCount h_wideCount h_useCount h_result : Int32} {b_ops b_firsts b_seconds b_sizes b_stack b_roots b_text b_ends b_tokenKinds b_tokenSizes b_letters b_begins b_closes b_empties b_nexts b_sets b_leads b_classes b_newClasses b_lefts b_rights b_counts b_making b_firstSets b_followSets b_tasks b_held b_uses b_reach : Nat → Int32} {b_states b_looks b_wides b_work b_met : Nat → Int64}
theorem yw_note0 {m d : Nat} (hm : m < 60) (hd : d < 8) (o z : Int32) {post : Int32 → SY → Prop} (h : post (nI (d + 1)) ((nI (m + 1)), (nI (d + 1)), h_length, h_tokenCount, h_wrong, h_letterCount, h_ruleCount, h_makingCount, h_usefulRules, h_stateCount, h_wideCount, h_useCount, h_result, (upd b_ops m o), (upd b_firsts m (-1)), (upd b_seconds m (-1)), (upd b_sizes m z), (upd b_stack d (nI m)), b_roots, b_text, b_ends, b_tokenKinds, b_tokenSizes, b_letters, b_begins, b_closes, b_empties, b_nexts, b_sets, b_leads, b_classes, b_newClasses, b_lefts, b_rights, b_counts, b_making, b_firstSets, b_followSets, b_states, b_looks, b_wides, b_work, b_met, b_tasks, b_held, b_uses, b_reach)) : wpY_note post ((nI m), (nI d), h_length, h_tokenCount, h_wrong, h_letterCount, h_ruleCount, h_makingCount, h_usefulRules, h_stateCount, h_wideCount, h_useCount, h_result, b_ops, b_firsts, b_seconds, b_sizes, b_stack, b_roots, b_text, b_ends, b_tokenKinds, b_tokenSizes, b_letters, b_begins, b_closes, b_empties, b_nexts, b_sets, b_leads, b_classes, b_newClasses, b_lefts, b_rights, b_counts, b_making, b_firstSets, b_followSets, b_states, b_looks, b_wides, b_work, b_met, b_tasks, b_held, b_uses, b_reach) o 0 z := by
  have vm : vp_in (nI m) 60 := vp_in_nI hm (by decide)
  have cm : (nI m).toNatClampNeg = m := nI_clamp (by omega)
  have vd : vp_in (nI d) 8 := vp_in_nI hd (by decide)
  have cd : (nI d).toNatClampNeg = d := nI_clamp (by omega)
  refine nm_r (e' := nI d) (pk_sub (b := 0) (Nat.zero_le _)) ⟨vm, nm_r (e' := upd b_ops m o) (by rw [cm]) (br_t (by decide) ⟨vm, nm_r (e' := upd b_firsts m (-1)) (by rw [cm]) (br_t (by decide) ⟨vm, nm_r (e' := upd b_seconds m (-1)) (by rw [cm]) ⟨vm, nm_r (e' := upd b_sizes m z) (by rw [cm]) ⟨vd, nm_r (e' := upd b_stack d (nI m)) (by rw [cd]) (nm_r (nI_1 m) (nm_r (nI_1 d) h))⟩⟩⟩)⟩)⟩
theorem yw_note1 {m s : Nat} (hm : m < 60) (hd : s < 8) (o z : Int32) {post : Int32 → SY → Prop} (h : post (nI (s + 1)) ((nI (m + 1)), (nI (s + 1)), h_length, h_tokenCount, h_wrong, h_letterCount, h_ruleCount, h_makingCount, h_usefulRules, h_stateCount, h_wideCount, h_useCount, h_result, (upd b_ops m o), (upd b_firsts m (b_stack s)), (upd b_seconds m (-1)), (upd b_sizes m z), (upd b_stack s (nI m)), b_roots, b_text, b_ends, b_tokenKinds, b_tokenSizes, b_letters, b_begins, b_closes, b_empties, b_nexts, b_sets, b_leads, b_classes, b_newClasses, b_lefts, b_rights, b_counts, b_making, b_firstSets, b_followSets, b_states, b_looks, b_wides, b_work, b_met, b_tasks, b_held, b_uses, b_reach)) : wpY_note post ((nI m), (nI (s + 1)), h_length, h_tokenCount, h_wrong, h_letterCount, h_ruleCount, h_makingCount, h_usefulRules, h_stateCount, h_wideCount, h_useCount, h_result, b_ops, b_firsts, b_seconds, b_sizes, b_stack, b_roots, b_text, b_ends, b_tokenKinds, b_tokenSizes, b_letters, b_begins, b_closes, b_empties, b_nexts, b_sets, b_leads, b_classes, b_newClasses, b_lefts, b_rights, b_counts, b_making, b_firstSets, b_followSets, b_states, b_looks, b_wides, b_work, b_met, b_tasks, b_held, b_uses, b_reach) o 1 z := by
  have vm : vp_in (nI m) 60 := vp_in_nI hm (by decide)
  have cm : (nI m).toNatClampNeg = m := nI_clamp (by omega)
  have vd : vp_in (nI s) 8 := vp_in_nI hd (by decide)
  have cd : (nI s).toNatClampNeg = s := nI_clamp (by omega)
  refine nm_r (e' := nI s) (pk_sub (a := s + 1) (b := 1) (by omega)) ⟨vm, nm_r (e' := upd b_ops m o) (by rw [cm]) (br_f (by decide) ⟨vd, vm, nm_r (e' := upd b_firsts m (b_stack s)) (by rw [cm, cd]) (br_t (by decide) ⟨vm, nm_r (e' := upd b_seconds m (-1)) (by rw [cm]) ⟨vm, nm_r (e' := upd b_sizes m z) (by rw [cm]) ⟨vd, nm_r (e' := upd b_stack s (nI m)) (by rw [cd]) (nm_r (nI_1 m) (nm_r (nI_1 s) h))⟩⟩⟩)⟩)⟩
theorem yw_note2 {m s : Nat} (hm : m < 60) (hd : s + 1 < 8) (o z : Int32) {post : Int32 → SY → Prop} (h : post (nI (s + 1)) ((nI (m + 1)), (nI (s + 1)), h_length, h_tokenCount, h_wrong, h_letterCount, h_ruleCount, h_makingCount, h_usefulRules, h_stateCount, h_wideCount, h_useCount, h_result, (upd b_ops m o), (upd b_firsts m (b_stack s)), (upd b_seconds m (b_stack (s + 1))), (upd b_sizes m z), (upd b_stack s (nI m)), b_roots, b_text, b_ends, b_tokenKinds, b_tokenSizes, b_letters, b_begins, b_closes, b_empties, b_nexts, b_sets, b_leads, b_classes, b_newClasses, b_lefts, b_rights, b_counts, b_making, b_firstSets, b_followSets, b_states, b_looks, b_wides, b_work, b_met, b_tasks, b_held, b_uses, b_reach)) : wpY_note post ((nI m), (nI (s + 2)), h_length, h_tokenCount, h_wrong, h_letterCount, h_ruleCount, h_makingCount, h_usefulRules, h_stateCount, h_wideCount, h_useCount, h_result, b_ops, b_firsts, b_seconds, b_sizes, b_stack, b_roots, b_text, b_ends, b_tokenKinds, b_tokenSizes, b_letters, b_begins, b_closes, b_empties, b_nexts, b_sets, b_leads, b_classes, b_newClasses, b_lefts, b_rights, b_counts, b_making, b_firstSets, b_followSets, b_states, b_looks, b_wides, b_work, b_met, b_tasks, b_held, b_uses, b_reach) o 2 z := by
  have vm : vp_in (nI m) 60 := vp_in_nI hm (by decide)
  have cm : (nI m).toNatClampNeg = m := nI_clamp (by omega)
  have vd : vp_in (nI s) 8 := vp_in_nI (by omega) (by decide)
  have cd : (nI s).toNatClampNeg = s := nI_clamp (by omega)
  have e1 : nI s + 1 = nI (s + 1) := nI_1 s
  refine nm_r (e' := nI s) (pk_sub (a := s + 2) (b := 2) (by omega)) ⟨vm, nm_r (e' := upd b_ops m o) (by rw [cm]) (br_f (by decide) ⟨vd, vm, nm_r (e' := upd b_firsts m (b_stack s)) (by rw [cm, cd]) (br_f (by decide) ⟨pk_in (s + 1) 8 hd e1, vm, nm_r (e' := upd b_seconds m (b_stack (s + 1))) (by rw [cm, pk_cl (s + 1) e1]) ⟨vm, nm_r (e' := upd b_sizes m z) (by rw [cm]) ⟨vd, nm_r (e' := upd b_stack s (nI m)) (by rw [cd]) (nm_r (nI_1 m) (nm_r (nI_1 s) h))⟩⟩⟩)⟩)⟩
variable {f_depth f_made f_textLength f_tokenCount f_wrongPlace f_ruleCount f_prepared f_rulesInUse f_stateCount f_wideCount f_gradeFound f_readHeight f_tokensTaken f_usedCount : Int32} {a_spotCounts a_ends a_arrows a_takers a_groups a_marks a_text a_tokenKinds a_tokenLengths a_lefts a_rights a_rightSizes a_beginSets a_followSets a_stateSteps a_wideSteps a_readStates a_readValues a_usedRules : Nat → Int32} {a_nextItems a_openItems a_restItems a_stateItems a_stateLooks a_wideLooks : Nat → Int64}
def i_Rel (k : Nat) (u : SX) (v : SY) : Prop := match u, v with
  | (f_depth, f_made, f_textLength, f_tokenCount, f_wrongPlace, f_ruleCount, f_prepared, f_rulesInUse, f_stateCount, f_wideCount, f_gradeFound, f_readHeight, f_tokensTaken, f_usedCount, a_spotCounts, a_ends, a_arrows, a_takers, a_groups, a_marks, a_text, a_tokenKinds, a_tokenLengths, a_lefts, a_rights, a_rightSizes, a_beginSets, a_followSets, a_nextItems, a_openItems, a_restItems, a_stateItems, a_stateSteps, a_stateLooks, a_wideSteps, a_wideLooks, a_readStates, a_readValues, a_usedRules), (h_made, h_depth, h_length, h_tokenCount, h_wrong, h_letterCount, h_ruleCount, h_makingCount, h_usefulRules, h_stateCount, h_wideCount, h_useCount, h_result, b_ops, b_firsts, b_seconds, b_sizes, b_stack, b_roots, b_text, b_ends, b_tokenKinds, b_tokenSizes, b_letters, b_begins, b_closes, b_empties, b_nexts, b_sets, b_leads, b_classes, b_newClasses, b_lefts, b_rights, b_counts, b_making, b_firstSets, b_followSets, b_states, b_looks, b_wides, b_work, b_met, b_tasks, b_held, b_uses, b_reach) => ∃ m d ga lo op fi se st kd n t g c mk, ir_P m d ga lo op fi se st kd f_depth f_made a_spotCounts a_ends a_arrows a_takers h_made h_depth b_ops b_firsts b_seconds b_sizes b_stack b_roots ∧ ir_T n t f_textLength a_text h_length b_text ∧ ir_G g c mk f_ruleCount a_lefts a_rights a_rightSizes h_ruleCount h_makingCount b_lefts b_rights b_counts b_making ∧ ir_C g f_prepared f_rulesInUse f_stateCount f_wideCount f_gradeFound a_beginSets a_followSets a_nextItems a_openItems a_restItems a_stateItems a_stateSteps a_stateLooks a_wideSteps a_wideLooks
theorem ir_mk {k : Nat} {m d : Nat} {ga : Nat → gk_T} {lo op fi se st : Nat → Nat} {kd : Nat → gk_T} {n : Nat} {t : Nat → Nat} {g : rg_T} {c : Nat} {mk : Nat → Nat} (hP : ir_P m d ga lo op fi se st kd f_depth f_made a_spotCounts a_ends a_arrows a_takers h_made h_depth b_ops b_firsts b_seconds b_sizes b_stack b_roots) (hT : ir_T n t f_textLength a_text h_length b_text) (hG : ir_G g c mk f_ruleCount a_lefts a_rights a_rightSizes h_ruleCount h_makingCount b_lefts b_rights b_counts b_making) (hC : ir_C g f_prepared f_rulesInUse f_stateCount f_wideCount f_gradeFound a_beginSets a_followSets a_nextItems a_openItems a_restItems a_stateItems a_stateSteps a_stateLooks a_wideSteps a_wideLooks) : i_Rel k (f_depth, f_made, f_textLength, f_tokenCount, f_wrongPlace, f_ruleCount, f_prepared, f_rulesInUse, f_stateCount, f_wideCount, f_gradeFound, f_readHeight, f_tokensTaken, f_usedCount, a_spotCounts, a_ends, a_arrows, a_takers, a_groups, a_marks, a_text, a_tokenKinds, a_tokenLengths, a_lefts, a_rights, a_rightSizes, a_beginSets, a_followSets, a_nextItems, a_openItems, a_restItems, a_stateItems, a_stateSteps, a_stateLooks, a_wideSteps, a_wideLooks, a_readStates, a_readValues, a_usedRules) (h_made, h_depth, h_length, h_tokenCount, h_wrong, h_letterCount, h_ruleCount, h_makingCount, h_usefulRules, h_stateCount, h_wideCount, h_useCount, h_result, b_ops, b_firsts, b_seconds, b_sizes, b_stack, b_roots, b_text, b_ends, b_tokenKinds, b_tokenSizes, b_letters, b_begins, b_closes, b_empties, b_nexts, b_sets, b_leads, b_classes, b_newClasses, b_lefts, b_rights, b_counts, b_making, b_firstSets, b_followSets, b_states, b_looks, b_wides, b_work, b_met, b_tasks, b_held, b_uses, b_reach) :=
  ⟨m, d, ga, lo, op, fi, se, st, kd, n, t, g, c, mk, hP, hT, hG, hC⟩
theorem i_up {k : Nat} {u : SX} {v : SY} (h : i_Rel k u v) : i_Rel (k + 2) u v := h
theorem ir_0 : rg_ok ((0, fun _ => 7, fun _ => 1, fun _ _ => 3) : rg_T) := ⟨Nat.zero_le _, fun r hr => absurd hr (Nat.not_lt_zero _), rfl, rfl, rfl⟩
theorem xs_000 {s : Nat} : xs_S (fun _ => 0) (fun _ => 0) (fun _ => 0) (fun _ => 0) s gk_none :=
  ⟨gk_wf_none, rfl, fun i => ⟨(fun q => by rw [b_0] at q; cases q), fun q => q.elim (fun w => w.elim) fun w => w.2.elim⟩, fun a b ha => absurd ha (Nat.not_lt_zero _), fun b => ⟨(fun q => by rw [b_0] at q; cases q), fun q => q.elim⟩, fun l b _ => ⟨(fun q => by rw [b_0] at q; cases q), fun q => q.elim⟩⟩
theorem yw_patternless {post : SY → Prop} (h : ∀ R : Nat → Int32, (∀ k, k < 3 → R k = -1) → post (0, 0, h_length, h_tokenCount, h_wrong, h_letterCount, h_ruleCount, h_makingCount, h_usefulRules, h_stateCount, h_wideCount, h_useCount, h_result, b_ops, b_firsts, b_seconds, b_sizes, b_stack, R, b_text, b_ends, b_tokenKinds, b_tokenSizes, b_letters, b_begins, b_closes, b_empties, b_nexts, b_sets, b_leads, b_classes, b_newClasses, b_lefts, b_rights, b_counts, b_making, b_firstSets, b_followSets, b_states, b_looks, b_wides, b_work, b_met, b_tasks, b_held, b_uses, b_reach)) : wpY_patternless post (h_made, h_depth, h_length, h_tokenCount, h_wrong, h_letterCount, h_ruleCount, h_makingCount, h_usefulRules, h_stateCount, h_wideCount, h_useCount, h_result, b_ops, b_firsts, b_seconds, b_sizes, b_stack, b_roots, b_text, b_ends, b_tokenKinds, b_tokenSizes, b_letters, b_begins, b_closes, b_empties, b_nexts, b_sets, b_leads, b_classes, b_newClasses, b_lefts, b_rights, b_counts, b_making, b_firstSets, b_followSets, b_states, b_looks, b_wides, b_work, b_met, b_tasks, b_held, b_uses, b_reach) := by
  refine loop_0 (fun n i s => wY_patternless_2 post h_made h_depth h_length h_tokenCount h_wrong h_letterCount h_ruleCount h_makingCount h_usefulRules h_stateCount h_wideCount h_useCount h_result n (nI i) b_ops b_firsts b_seconds b_sizes b_stack s b_text b_ends b_tokenKinds b_tokenSizes b_letters b_begins b_closes b_empties b_nexts b_sets b_leads b_classes b_newClasses b_lefts b_rights b_counts b_making b_firstSets b_followSets b_states b_looks b_wides b_work b_met b_tasks b_held b_uses b_reach) (fun i s => ∀ k, k < i → s k = -1) 3 b_roots (fun k hk => absurd hk (Nat.not_lt_zero _)) ?_ ?_
  · intro n s hs
    exact br_t (nI_le (Nat.le_refl 3) (by decide)) (h s hs)
  · intro n i s hi hs hk
    refine br_f (nI_ge hi (by decide)) ⟨vp_in_nI hi (by decide), nm_r (e' := upd s i (-1)) (by rw [nI_clamp (by omega : i < 2 ^ 31)]) (nm_r (nI_1 i) (hk _ fun k hk' => ?_))⟩
    by_cases z : k = i
    · rw [z, pk_us]
    · rw [pk_un z]; exact hs k (by omega)
theorem i_vc0 : wpX_init (fun u => wpY_init (fun v => i_Rel 0 u v)) := by
  refine nm_e (nm_e (nm_e ?_))
  delta wpY_init
  refine yw_patternless (fun R hR => nm_e (nm_e (nm_e ?_)))
  refine ir_mk (n := 0) (t := fun _ => 0) (g := (0, fun _ => 7, fun _ => 1, fun _ _ => 3)) (c := 0) (mk := fun _ => 0) (ga := fun _ => gk_none) (lo := fun _ => 0) (op := fun _ => 0) (fi := fun _ => 0) (se := fun _ => 0) (st := fun _ => 0) (ir_p0 (fun k _ => xs_000) hR) ⟨Nat.zero_le _, rfl, rfl, fun i hi => absurd hi (Nat.not_lt_zero _), fun i hi => absurd hi (Nat.not_lt_zero _)⟩ ⟨ir_0, rfl, rfl, fun r hr => ?_, fun r hr => ?_, fun r hr => ⟨0, by omega, ?_⟩, Nat.zero_le _, rfl, rfl, fun i hi => absurd hi (Nat.not_lt_zero _)⟩ (Or.inl rfl)
  · have e : r = 9 := hr.resolve_left (Nat.not_lt_zero _)
    subst e
    refine ⟨rfl, rfl, fun k hk => ?_⟩
    have hk : k < 1 := hk
    rw [show k = 0 by omega]
    rfl
  · have e : r = 9 := hr.resolve_left (Nat.not_lt_zero _)
    subst e
    refine ⟨rfl, rfl, fun k hk => ?_⟩
    have hk : k < 1 := hk
    rw [show k = 0 by omega]
    rfl
  · exact (pk_un (by omega : r ≠ 9)).trans rfl
theorem i_vc_leaf {k : Nat} {u : SX} {v : SY} (I : i_Rel k u v) (hk : k + 2 ≤ 1024) (v1 : Int32) : wpX_leaf (fun r u' => wpY_leaf (fun r' v' => r' = r ∧ i_Rel (k + 2) u' v') v v1) u v1 := by
  obtain ⟨f_depth, f_made, f_textLength, f_tokenCount, f_wrongPlace, f_ruleCount, f_prepared, f_rulesInUse, f_stateCount, f_wideCount, f_gradeFound, f_readHeight, f_tokensTaken, f_usedCount, a_spotCounts, a_ends, a_arrows, a_takers, a_groups, a_marks, a_text, a_tokenKinds, a_tokenLengths, a_lefts, a_rights, a_rightSizes, a_beginSets, a_followSets, a_nextItems, a_openItems, a_restItems, a_stateItems, a_stateSteps, a_stateLooks, a_wideSteps, a_wideLooks, a_readStates, a_readValues, a_usedRules⟩ := u
  obtain ⟨h_made, h_depth, h_length, h_tokenCount, h_wrong, h_letterCount, h_ruleCount, h_makingCount, h_usefulRules, h_stateCount, h_wideCount, h_useCount, h_result, b_ops, b_firsts, b_seconds, b_sizes, b_stack, b_roots, b_text, b_ends, b_tokenKinds, b_tokenSizes, b_letters, b_begins, b_closes, b_empties, b_nexts, b_sets, b_leads, b_classes, b_newClasses, b_lefts, b_rights, b_counts, b_making, b_firstSets, b_followSets, b_states, b_looks, b_wides, b_work, b_met, b_tasks, b_held, b_uses, b_reach⟩ := v
  obtain ⟨m, d, ga, lo, op, fi, se, st, kd, n, t, g, c, mk, hP, hT, hG, hC⟩ := I
  obtain ⟨m60, d8, e1, e2, e3, e4, hN, hS, hO, hR, hK⟩ := id hP
  obtain ⟨n24, e5, e6, hT1, hT2⟩ := id hT
  obtain ⟨hg, e7, e8, hG1, hG2, hl, c4, e9, e10, hmk⟩ := id hG
  subst e1 e2 e3 e4 e5 e6 e7 e8 e10
  refine br_c (fun z => br_t z ⟨rfl, ir_mk hP hT hG hC⟩) (fun z => br_c (fun y => ?_) (fun y => br_f z (br_f y ⟨rfl, ir_mk hP hT hG hC⟩)))
  obtain ⟨o, o31, rfl⟩ := nI_of z
  have o5 : o < 5 := by
    have := (nI_leI (b := 4) o31 (by decide)).mp y
    omega
  refine pk_le 60 m (fun q => br_f z (br_t y (br_t (by rw [show m = 60 by omega]; rfl) ⟨rfl, ir_mk hP hT hG hC⟩))) (fun q => pk_lt d 8 (fun w => ?_) (fun w => br_f z (br_t y (br_f (fun x => absurd ((nI_eq (b := 60) (by omega) (by decide)).mp x) (by omega)) (br_t (by rw [show d = 8 by omega]; rfl) ⟨rfl, ir_mk hP hT hG hC⟩)))))
  have n60 : ¬ nI m = 60 := fun x => absurd ((nI_eq (b := 60) (by omega) (by decide)).mp x) (by omega)
  have n8 : ¬ nI d = 8 := fun x => absurd ((nI_eq (b := 8) (by omega) (by decide)).mp x) (by omega)
  have vd : vp_in (nI d) 11 := vp_in_nI (by omega) (by decide)
  have cd : (nI d).toNatClampNeg = d := nI_clamp (by omega)
  refine xw_clearSlot (by omega) ?_
  refine pk_eq o 4 (fun e => ⟨vd, nm_r (e' := upd (upd a_ends d 0) d 64) (by rw [cd]) (nm_r (nI_1 m) (nm_r (nI_1 d) ?_))⟩) (fun e => ?_)
  · subst e
    refine br_f z (br_t y (br_f n60 (br_f n8 (br_t (by decide) ?_))))
    delta wY_leaf_47
    refine yw_note0 q w _ _ ⟨rfl, ?_⟩
    refine ir_mk (ir_leaf hP q w o5 xs_empty ?_ rfl) hT hG hC
    exact fun s hs => ⟨fr_u hs, (fr_u hs).trans (fr_u hs), fun i hi => fr_7 hs (Nat.le_refl _) (Nat.le_refl _) hi, fun i hi => fr_3 hs hi⟩
  · refine xw_setSingleSpot (by omega) (by omega) (nm_r (nI_1 m) (nm_r (nI_1 d) ?_))
    refine br_f z (br_t y (br_f n60 (br_f n8 (br_f (nI_ge (b := 4) (by omega) (by decide)) ?_))))
    delta wY_leaf_47
    refine yw_note0 q w _ _ ⟨rfl, ?_⟩
    refine ir_mk (ir_leaf hP q w o5 (xs_leaf (by omega)) ?_ ?_) hT hG hC
    · exact fun s hs => ⟨(fr_u hs).trans (fr_u hs), (fr_u hs).trans (fr_u hs), fun i hi => (pk_un (by omega)).trans (fr_7 hs (Nat.le_refl _) (Nat.le_refl _) hi), fun i hi => (fr_3 hs hi).trans (fr_3 hs hi)⟩
    · have c1 : gk_c (gk_leaf o) = 1 := if_pos (by omega)
      rw [c1]; rfl
theorem i_vc_repeat {k : Nat} {u : SX} {v : SY} (I : i_Rel k u v) (hk : k + 2 ≤ 1024) (v1 : Int32) : wpX_repeat (fun r u' => wpY_repeat (fun r' v' => r' = r ∧ i_Rel (k + 2) u' v') v v1) u v1 := by
  obtain ⟨f_depth, f_made, f_textLength, f_tokenCount, f_wrongPlace, f_ruleCount, f_prepared, f_rulesInUse, f_stateCount, f_wideCount, f_gradeFound, f_readHeight, f_tokensTaken, f_usedCount, a_spotCounts, a_ends, a_arrows, a_takers, a_groups, a_marks, a_text, a_tokenKinds, a_tokenLengths, a_lefts, a_rights, a_rightSizes, a_beginSets, a_followSets, a_nextItems, a_openItems, a_restItems, a_stateItems, a_stateSteps, a_stateLooks, a_wideSteps, a_wideLooks, a_readStates, a_readValues, a_usedRules⟩ := u
  obtain ⟨h_made, h_depth, h_length, h_tokenCount, h_wrong, h_letterCount, h_ruleCount, h_makingCount, h_usefulRules, h_stateCount, h_wideCount, h_useCount, h_result, b_ops, b_firsts, b_seconds, b_sizes, b_stack, b_roots, b_text, b_ends, b_tokenKinds, b_tokenSizes, b_letters, b_begins, b_closes, b_empties, b_nexts, b_sets, b_leads, b_classes, b_newClasses, b_lefts, b_rights, b_counts, b_making, b_firstSets, b_followSets, b_states, b_looks, b_wides, b_work, b_met, b_tasks, b_held, b_uses, b_reach⟩ := v
  obtain ⟨m, d, ga, lo, op, fi, se, st, kd, n, t, g, c, mk, hP, hT, hG, hC⟩ := I
  obtain ⟨m60, d8, e1, e2, e3, e4, hN, hS, hO, hR, hK⟩ := id hP
  obtain ⟨n24, e5, e6, hT1, hT2⟩ := id hT
  obtain ⟨hg, e7, e8, hG1, hG2, hl, c4, e9, e10, hmk⟩ := id hG
  subst e1 e2 e3 e4 e5 e6 e7 e8 e10
  refine br_c (fun z => br_t z ⟨rfl, ir_mk hP hT hG hC⟩) (fun z => br_c (fun y => ?_) (fun y => br_f z (br_f y ⟨rfl, ir_mk hP hT hG hC⟩)))
  obtain ⟨o, o31, rfl⟩ := nI_of z
  have o3 : o < 3 := by
    have := (nI_leI (b := 2) o31 (by decide)).mp y
    omega
  refine pk_lt m 60 (fun q => pk_le 1 d (fun w => ?_) (fun w => br_f z (br_t y (br_f (fun x => absurd ((nI_eq (b := 60) (by omega) (by decide)).mp x) (by omega)) (br_t (by rw [show d = 0 by omega]; rfl) ⟨rfl, ir_mk hP hT hG hC⟩))))) (fun q => br_f z (br_t y (br_t (by rw [show m = 60 by omega]; rfl) ⟨rfl, ir_mk hP hT hG hC⟩)))
  have n60 : ¬ nI m = 60 := fun x => absurd ((nI_eq (b := 60) (by omega) (by decide)).mp x) (by omega)
  have n0 : ¬ nI d = 0 := fun x => absurd ((nI_eq (b := 0) (by omega) (by decide)).mp x) (by omega)
  obtain ⟨s, rfl⟩ : ∃ s, d = s + 1 := ⟨d - 1, by omega⟩
  obtain ⟨t1, t2, t3⟩ := hS s (by omega)
  have es : nI (s + 1) - 1 = nI s := pk_sub (a := s + 1) (b := 1) (by omega)
  have cs : (nI s).toNatClampNeg = s := nI_clamp (by omega)
  have vs : vp_in (nI s) 11 := vp_in_nI (by omega) (by decide)
  -- the reference's turn
  have turn : ∀ (e' a' : Nat → Int32), xs_S a_spotCounts e' a' a_takers s (gk_rep o (ga (st s))) → xs_fr s a_spotCounts a_ends a_arrows a_takers a_spotCounts e' a' a_takers → wpY_repeat (fun r' v' => r' = nI (s + 1) ∧ i_Rel (k + 2) ((nI (s + 1)), (nI (m + 1)), (nI n), f_tokenCount, f_wrongPlace, (nI (rg_n g)), f_prepared, f_rulesInUse, f_stateCount, f_wideCount, f_gradeFound, f_readHeight, f_tokensTaken, f_usedCount, a_spotCounts, e', a', a_takers, a_groups, a_marks, a_text, a_tokenKinds, a_tokenLengths, a_lefts, a_rights, a_rightSizes, a_beginSets, a_followSets, a_nextItems, a_openItems, a_restItems, a_stateItems, a_stateSteps, a_stateLooks, a_wideSteps, a_wideLooks, a_readStates, a_readValues, a_usedRules) v') ((nI m), (nI (s + 1)), (nI n), h_tokenCount, h_wrong, h_letterCount, (nI (rg_n g)), (nI c), h_usefulRules, h_stateCount, h_wideCount, h_useCount, h_result, b_ops, b_firsts, b_seconds, b_sizes, b_stack, b_roots, b_text, b_ends, b_tokenKinds, b_tokenSizes, b_letters, b_begins, b_closes, b_empties, b_nexts, b_sets, b_leads, b_classes, b_newClasses, b_lefts, b_rights, b_counts, b_making, b_firstSets, b_followSets, b_states, b_looks, b_wides, b_work, b_met, b_tasks, b_held, b_uses, b_reach) (nI o) := by
    intro e' a' h1 h2
    refine br_f z (br_t y (br_f n60 (br_f n0 ?_)))
    rw [es, cs, t2]
    refine ⟨vp_in_nI (by omega) (by decide), vp_in_nI (by omega) (by decide), ?_⟩
    rw [nI_clamp (by omega : st s < 2 ^ 31), show (5 : Int32) + nI o = nI (5 + o) from nI_add 5 o]
    refine yw_note1 q (by omega) _ _ ⟨rfl, ?_⟩
    rw [t2]
    exact ir_mk (ir_rep hP q rfl o3 h1 h2) hT hG hC
  have fin : ∀ a' : Nat → Int32, (o ≠ 2 → a' = xw_aa a_arrows s (a_ends s) (a_arrows (s * 7 + 6))) → (o = 2 → a' = a_arrows) → wX_repeat_69 (fun r u' => wpY_repeat (fun r' v' => r' = r ∧ i_Rel (k + 2) u' v') ((nI m), (nI (s + 1)), (nI n), h_tokenCount, h_wrong, h_letterCount, (nI (rg_n g)), (nI c), h_usefulRules, h_stateCount, h_wideCount, h_useCount, h_result, b_ops, b_firsts, b_seconds, b_sizes, b_stack, b_roots, b_text, b_ends, b_tokenKinds, b_tokenSizes, b_letters, b_begins, b_closes, b_empties, b_nexts, b_sets, b_leads, b_classes, b_newClasses, b_lefts, b_rights, b_counts, b_making, b_firstSets, b_followSets, b_states, b_looks, b_wides, b_work, b_met, b_tasks, b_held, b_uses, b_reach) (nI o)) (nI o) (nI s) (nI (s + 1)) (nI m) (nI n) f_tokenCount f_wrongPlace (nI (rg_n g)) f_prepared f_rulesInUse f_stateCount f_wideCount f_gradeFound f_readHeight f_tokensTaken f_usedCount a_spotCounts a_ends a' a_takers a_groups a_marks a_text a_tokenKinds a_tokenLengths a_lefts a_rights a_rightSizes a_beginSets a_followSets a_nextItems a_openItems a_restItems a_stateItems a_stateSteps a_stateLooks a_wideSteps a_wideLooks a_readStates a_readValues a_usedRules := by
    intro a' h1 h2
    have fa : ∀ s', s' ≠ s → ∀ i, i < 7 → a' (s' * 7 + i) = a_arrows (s' * 7 + i) := by
      intro s' hs' i hi
      by_cases x : o = 2
      · rw [h2 x]
      · rw [h1 x]; exact fr_aa hs' hi
    refine pk_eq o 1 (fun x => nm_r (nI_1 m) (turn a_ends a' (xs_rep t3 h1 h2 (fun w => absurd x w) (fun _ => rfl)) fun s' hs' => ⟨rfl, rfl, fa s' hs', fun i _ => rfl⟩)) (fun x => ⟨vs, vs, nm_r (e' := upd a_ends s (a_ends s ||| 64)) (by rw [cs]) (nm_r (nI_1 m) (turn (upd a_ends s (a_ends s ||| 64)) a' (xs_rep t3 h1 h2 (fun _ => rfl) (fun w => absurd w x)) fun s' hs' => ⟨rfl, fr_u hs', fa s' hs', fun i _ => rfl⟩))⟩)
  refine nm_r es (pk_eq o 2 (fun x => fin a_arrows (fun w => absurd x w) (fun _ => rfl)) (fun x => ⟨vs, pk_in (s * 7 + 6) 77 (by omega) (ix_7 s 6), ?_⟩))
  have i6 : (nI s * 7 + 6).toNatClampNeg = s * 7 + 6 := pk_cl (s * 7 + 6) (ix_7 s 6)
  rw [cs, i6]
  exact xw_addArrows (by omega) _ _ (fin _ (fun _ => rfl) (fun w => absurd w x))
theorem i_vc_join {k : Nat} {u : SX} {v : SY} (I : i_Rel k u v) (hk : k + 2 ≤ 1024) (v1 : Int32) : wpX_join (fun r u' => wpY_join (fun r' v' => r' = r ∧ i_Rel (k + 2) u' v') v v1) u v1 := by
  obtain ⟨f_depth, f_made, f_textLength, f_tokenCount, f_wrongPlace, f_ruleCount, f_prepared, f_rulesInUse, f_stateCount, f_wideCount, f_gradeFound, f_readHeight, f_tokensTaken, f_usedCount, a_spotCounts, a_ends, a_arrows, a_takers, a_groups, a_marks, a_text, a_tokenKinds, a_tokenLengths, a_lefts, a_rights, a_rightSizes, a_beginSets, a_followSets, a_nextItems, a_openItems, a_restItems, a_stateItems, a_stateSteps, a_stateLooks, a_wideSteps, a_wideLooks, a_readStates, a_readValues, a_usedRules⟩ := u
  obtain ⟨h_made, h_depth, h_length, h_tokenCount, h_wrong, h_letterCount, h_ruleCount, h_makingCount, h_usefulRules, h_stateCount, h_wideCount, h_useCount, h_result, b_ops, b_firsts, b_seconds, b_sizes, b_stack, b_roots, b_text, b_ends, b_tokenKinds, b_tokenSizes, b_letters, b_begins, b_closes, b_empties, b_nexts, b_sets, b_leads, b_classes, b_newClasses, b_lefts, b_rights, b_counts, b_making, b_firstSets, b_followSets, b_states, b_looks, b_wides, b_work, b_met, b_tasks, b_held, b_uses, b_reach⟩ := v
  obtain ⟨m, d, ga, lo, op, fi, se, st, kd, n, t, g, c, mk, hP, hT, hG, hC⟩ := I
  obtain ⟨m60, d8, e1, e2, e3, e4, hN, hS, hO, hR, hK⟩ := id hP
  obtain ⟨n24, e5, e6, hT1, hT2⟩ := id hT
  obtain ⟨hg, e7, e8, hG1, hG2, hl, c4, e9, e10, hmk⟩ := id hG
  subst e1 e2 e3 e4 e5 e6 e7 e8 e10
  refine br_c (fun z => br_t z ⟨rfl, ir_mk hP hT hG hC⟩) (fun z => br_c (fun y => ?_) (fun y => br_f z (br_f y ⟨rfl, ir_mk hP hT hG hC⟩)))
  obtain ⟨o, o31, rfl⟩ := nI_of z
  have o2 : o < 2 := by
    have := (nI_leI (b := 1) o31 (by decide)).mp y
    omega
  refine pk_lt m 60 (fun q => pk_le 2 d (fun w => ?_) (fun w => br_f z (br_t y (br_f (fun x => absurd ((nI_eq (b := 60) (by omega) (by decide)).mp x) (by omega)) (br_f (nI_ge (b := 2) w (by decide)) ⟨rfl, ir_mk hP hT hG hC⟩))))) (fun q => br_f z (br_t y (br_t (by rw [show m = 60 by omega]; rfl) ⟨rfl, ir_mk hP hT hG hC⟩)))
  have n60 : ¬ nI m = 60 := fun x => absurd ((nI_eq (b := 60) (by omega) (by decide)).mp x) (by omega)
  have g2 : (2 : Int32) ≤ nI d := nI_le (a := 2) w (by omega)
  obtain ⟨s, rfl⟩ : ∃ s, d = s + 2 := ⟨d - 2, by omega⟩
  obtain ⟨t1, t2, t3⟩ := hS s (by omega)
  obtain ⟨u1, u2, u3⟩ := hS (s + 1) (by omega)
  have e1 : nI (s + 2) - 1 = nI (s + 1) := pk_sub (a := s + 2) (b := 1) (by omega)
  have e2 : nI (s + 2) - 2 = nI s := pk_sub (a := s + 2) (b := 2) (by omega)
  have cs : (nI s).toNatClampNeg = s := nI_clamp (by omega)
  have ct : (nI (s + 1)).toNatClampNeg = s + 1 := nI_clamp (by omega)
  have cx := t3.2.1
  have cy := u3.2.1
  have c1 : (nI (st s)).toNatClampNeg = st s := nI_clamp (by omega)
  have c2 : (nI (st (s + 1))).toNatClampNeg = st (s + 1) := nI_clamp (by omega)
  have s1 := (hN (st s) t1).2.2.1
  have s2 := (hN (st (s + 1)) u1).2.2.1
  have b1 := t3.1.1
  have b2 := u3.1.1
  -- the reference's turn, up to the size
  have head : ∀ {P : Int32 → SY → Prop}, ((gk_c (ga (st s)) + gk_c (ga (st (s + 1))) ≤ 6 → wpY_note P ((nI m), (nI (s + 2)), (nI n), h_tokenCount, h_wrong, h_letterCount, (nI (rg_n g)), (nI c), h_usefulRules, h_stateCount, h_wideCount, h_useCount, h_result, b_ops, b_firsts, b_seconds, b_sizes, b_stack, b_roots, b_text, b_ends, b_tokenKinds, b_tokenSizes, b_letters, b_begins, b_closes, b_empties, b_nexts, b_sets, b_leads, b_classes, b_newClasses, b_lefts, b_rights, b_counts, b_making, b_firstSets, b_followSets, b_states, b_looks, b_wides, b_work, b_met, b_tasks, b_held, b_uses, b_reach) (8 + nI o) 2 (nI (gk_c (ga (st s)) + gk_c (ga (st (s + 1)))))) ∧ (¬ gk_c (ga (st s)) + gk_c (ga (st (s + 1))) ≤ 6 → P (-2) ((nI m), (nI (s + 2)), (nI n), h_tokenCount, h_wrong, h_letterCount, (nI (rg_n g)), (nI c), h_usefulRules, h_stateCount, h_wideCount, h_useCount, h_result, b_ops, b_firsts, b_seconds, b_sizes, b_stack, b_roots, b_text, b_ends, b_tokenKinds, b_tokenSizes, b_letters, b_begins, b_closes, b_empties, b_nexts, b_sets, b_leads, b_classes, b_newClasses, b_lefts, b_rights, b_counts, b_making, b_firstSets, b_followSets, b_states, b_looks, b_wides, b_work, b_met, b_tasks, b_held, b_uses, b_reach))) → wpY_join P ((nI m), (nI (s + 2)), (nI n), h_tokenCount, h_wrong, h_letterCount, (nI (rg_n g)), (nI c), h_usefulRules, h_stateCount, h_wideCount, h_useCount, h_result, b_ops, b_firsts, b_seconds, b_sizes, b_stack, b_roots, b_text, b_ends, b_tokenKinds, b_tokenSizes, b_letters, b_begins, b_closes, b_empties, b_nexts, b_sets, b_leads, b_classes, b_newClasses, b_lefts, b_rights, b_counts, b_making, b_firstSets, b_followSets, b_states, b_looks, b_wides, b_work, b_met, b_tasks, b_held, b_uses, b_reach) (nI o) := by
    intro P hP'
    refine br_f z (br_t y (br_f n60 (br_t g2 ?_)))
    rw [e1, e2, ct, cs, t2, u2]
    refine ⟨vp_in_nI (by omega) (by decide), vp_in_nI (by omega) (by decide), vp_in_nI (by omega) (by decide), vp_in_nI (by omega) (by decide), ?_⟩
    rw [c1, c2]
    refine nm_r (e' := nI (gk_c (ga (st s)) + gk_c (ga (st (s + 1))))) (by rw [s1, s2, nI_add, Nat.add_comm]) (pk_le (gk_c (ga (st s)) + gk_c (ga (st (s + 1)))) 6 (fun x => hP'.1 x) (fun x => hP'.2 (by omega)))
  rw [e1, e2]
  refine ⟨vp_in_nI (by omega) (by decide), vp_in_nI (by omega) (by decide), ?_⟩
  rw [cs, ct, cx, cy, nI_add]
  refine pk_le (gk_c (ga (st s)) + gk_c (ga (st (s + 1)))) 6 (fun x => ?_) (fun x => head ⟨fun w' => by omega, fun _ => ⟨rfl, ir_mk hP hT hG hC⟩⟩)
  have fin : ∀ (c' e' a' t' : Nat → Int32), xs_S c' e' a' t' s (gk_join o (ga (st s)) (ga (st (s + 1)))) → xs_fr s a_spotCounts a_ends a_arrows a_takers c' e' a' t' → ∀ j : Int32, j = nI (s + 1) → wpY_join (fun r' v' => r' = j ∧ i_Rel (k + 2) (j, (nI (m + 1)), (nI n), f_tokenCount, f_wrongPlace, (nI (rg_n g)), f_prepared, f_rulesInUse, f_stateCount, f_wideCount, f_gradeFound, f_readHeight, f_tokensTaken, f_usedCount, c', e', a', t', a_groups, a_marks, a_text, a_tokenKinds, a_tokenLengths, a_lefts, a_rights, a_rightSizes, a_beginSets, a_followSets, a_nextItems, a_openItems, a_restItems, a_stateItems, a_stateSteps, a_stateLooks, a_wideSteps, a_wideLooks, a_readStates, a_readValues, a_usedRules) v') ((nI m), (nI (s + 2)), (nI n), h_tokenCount, h_wrong, h_letterCount, (nI (rg_n g)), (nI c), h_usefulRules, h_stateCount, h_wideCount, h_useCount, h_result, b_ops, b_firsts, b_seconds, b_sizes, b_stack, b_roots, b_text, b_ends, b_tokenKinds, b_tokenSizes, b_letters, b_begins, b_closes, b_empties, b_nexts, b_sets, b_leads, b_classes, b_newClasses, b_lefts, b_rights, b_counts, b_making, b_firstSets, b_followSets, b_states, b_looks, b_wides, b_work, b_met, b_tasks, b_held, b_uses, b_reach) (nI o) := by
    rintro c' e' a' t' h1 h2 j rfl
    refine head ⟨fun _ => ?_, fun w' => absurd x w'⟩
    rw [show (8 : Int32) + nI o = nI (8 + o) from nI_add 8 o]
    refine yw_note2 q (by omega) _ _ ⟨rfl, ?_⟩
    rw [t2, u2]
    exact ir_mk (ir_join hP q rfl o2 x h1 h2) hT hG hC
  have fr : ∀ (v0 : Int32) (M y' : Int32), xs_fr s a_spotCounts a_ends a_arrows a_takers (upd a_spotCounts s (nI (gk_c (ga (st s)) + gk_c (ga (st (s + 1)))))) (upd a_ends s v0) (xw_aa (xw_ja a_arrows s (gk_c (ga (st s))) (gk_c (ga (st (s + 1))))) s M y') (xw_jt a_takers s (gk_c (ga (st s)))) := by
    intro v0 M y' s' hs'
    refine ⟨fr_u hs', fr_u hs', fun i hi => (fr_aa hs' hi).trans (fr_7 hs' (by omega) (by omega) hi), fun i hi => fr_3 hs' hi⟩
  refine pk_eq o 0 (fun e => ?_) (fun e => ?_)
  · subst e
    delta wX_join_75
    refine xw_joinTops (by omega) x cx cy (fun w' => absurd w' (by decide)) (fun w' => nm_r (nI_1 m) (nm_r (e1) ?_))
    exact fin _ _ _ _ (xs_cat t3 u3 x) (fr _ _ _) _ rfl
  · have e : o = 1 := by omega
    subst e
    delta wX_join_75
    refine xw_joinTops (by omega) x cx cy (fun w' => nm_r (nI_1 m) (nm_r (e1) ?_)) (fun w' => absurd rfl w')
    exact fin _ _ _ _ (xs_alt t3 u3 x) (fr _ _ _) _ rfl
theorem i_vc_kind {k : Nat} {u : SX} {v : SY} (I : i_Rel k u v) (hk : k + 2 ≤ 1024) (v1 : Int32) : wpX_kind (fun r u' => wpY_kind (fun r' v' => r' = r ∧ i_Rel (k + 2) u' v') v v1) u v1 := by
  obtain ⟨f_depth, f_made, f_textLength, f_tokenCount, f_wrongPlace, f_ruleCount, f_prepared, f_rulesInUse, f_stateCount, f_wideCount, f_gradeFound, f_readHeight, f_tokensTaken, f_usedCount, a_spotCounts, a_ends, a_arrows, a_takers, a_groups, a_marks, a_text, a_tokenKinds, a_tokenLengths, a_lefts, a_rights, a_rightSizes, a_beginSets, a_followSets, a_nextItems, a_openItems, a_restItems, a_stateItems, a_stateSteps, a_stateLooks, a_wideSteps, a_wideLooks, a_readStates, a_readValues, a_usedRules⟩ := u
  obtain ⟨h_made, h_depth, h_length, h_tokenCount, h_wrong, h_letterCount, h_ruleCount, h_makingCount, h_usefulRules, h_stateCount, h_wideCount, h_useCount, h_result, b_ops, b_firsts, b_seconds, b_sizes, b_stack, b_roots, b_text, b_ends, b_tokenKinds, b_tokenSizes, b_letters, b_begins, b_closes, b_empties, b_nexts, b_sets, b_leads, b_classes, b_newClasses, b_lefts, b_rights, b_counts, b_making, b_firstSets, b_followSets, b_states, b_looks, b_wides, b_work, b_met, b_tasks, b_held, b_uses, b_reach⟩ := v
  obtain ⟨m, d, ga, lo, op, fi, se, st, kd, n, t, g, c, mk, hP, hT, hG, hC⟩ := I
  obtain ⟨m60, d8, e1, e2, e3, e4, hN, hS, hO, hR, hK⟩ := id hP
  obtain ⟨n24, e5, e6, hT1, hT2⟩ := id hT
  obtain ⟨hg, e7, e8, hG1, hG2, hl, c4, e9, e10, hmk⟩ := id hG
  subst e1 e2 e3 e4 e5 e6 e7 e8 e10
  refine br_c (fun z => br_t z ⟨rfl, ir_mk hP hT hG hC⟩) (fun z => ?_)
  obtain ⟨o, o31, rfl⟩ := nI_of z
  refine pk_lt o 3 (fun y => ?_) (fun y => br_f z (br_f (nI_ge (b := o) (a := 2) (by omega) o31) ⟨rfl, ir_mk hP hT hG hC⟩))
  have y2 : nI o ≤ 2 := nI_le (b := 2) (by omega) (by decide)
  refine pk_le 1 d (fun w => ?_) (fun w => br_f z (br_t y2 (br_t (by rw [show d = 0 by omega]; rfl) ⟨rfl, ir_mk hP hT hG hC⟩)))
  have n0 : ¬ nI d = 0 := fun x => absurd ((nI_eq (b := 0) (by omega) (by decide)).mp x) (by omega)
  obtain ⟨s, rfl⟩ : ∃ s, d = s + 1 := ⟨d - 1, by omega⟩
  obtain ⟨t1, t2, t3⟩ := hS s (by omega)
  have es : nI (s + 1) - 1 = nI s := pk_sub (a := s + 1) (b := 1) (by omega)
  have cs : (nI s).toNatClampNeg = s := nI_clamp (by omega)
  refine nm_r es ?_
  rw [ix_8 o]
  refine xw_copySlot (f_depth := nI s) (by omega) (by omega) (by omega) ?_
  refine br_f z (br_t y2 (br_f n0 (nm_r es ⟨vp_in_nI (by omega) (by decide), vp_in_nI y (by decide), nm_r (e' := upd b_roots o (nI (st s))) (by rw [cs, t2, nI_clamp o31]) ⟨rfl, ?_⟩⟩)))
  refine ir_mk (ir_kind hP rfl y ?_ ?_) hT hG hC
  · exact xs_frame t3 pk_us pk_us (fun i hi => ax_in hi) (fun i hi => ax_in hi)
  · exact fun s' hs' => ⟨fr_u hs', fr_u hs', fun i hi => fr_7 hs' (Nat.le_refl _) (Nat.le_refl _) hi, fun i hi => fr_3 hs' hi⟩
theorem i_vc_patternless {k : Nat} {u : SX} {v : SY} (I : i_Rel k u v) (hk : k + 2 ≤ 1024) : wpX_patternless (fun u' => wpY_patternless (fun v' => i_Rel (k + 2) u' v') v) u := by
  obtain ⟨f_depth, f_made, f_textLength, f_tokenCount, f_wrongPlace, f_ruleCount, f_prepared, f_rulesInUse, f_stateCount, f_wideCount, f_gradeFound, f_readHeight, f_tokensTaken, f_usedCount, a_spotCounts, a_ends, a_arrows, a_takers, a_groups, a_marks, a_text, a_tokenKinds, a_tokenLengths, a_lefts, a_rights, a_rightSizes, a_beginSets, a_followSets, a_nextItems, a_openItems, a_restItems, a_stateItems, a_stateSteps, a_stateLooks, a_wideSteps, a_wideLooks, a_readStates, a_readValues, a_usedRules⟩ := u
  obtain ⟨h_made, h_depth, h_length, h_tokenCount, h_wrong, h_letterCount, h_ruleCount, h_makingCount, h_usefulRules, h_stateCount, h_wideCount, h_useCount, h_result, b_ops, b_firsts, b_seconds, b_sizes, b_stack, b_roots, b_text, b_ends, b_tokenKinds, b_tokenSizes, b_letters, b_begins, b_closes, b_empties, b_nexts, b_sets, b_leads, b_classes, b_newClasses, b_lefts, b_rights, b_counts, b_making, b_firstSets, b_followSets, b_states, b_looks, b_wides, b_work, b_met, b_tasks, b_held, b_uses, b_reach⟩ := v
  obtain ⟨m, d, ga, lo, op, fi, se, st, kd, n, t, g, c, mk, hP, hT, hG, hC⟩ := I
  obtain ⟨m60, d8, e1, e2, e3, e4, hN, hS, hO, hR, hK⟩ := id hP
  obtain ⟨n24, e5, e6, hT1, hT2⟩ := id hT
  obtain ⟨hg, e7, e8, hG1, hG2, hl, c4, e9, e10, hmk⟩ := id hG
  subst e1 e2 e3 e4 e5 e6 e7 e8 e10
  refine loop_0 (fun f i (w : (Nat → Int32) × (Nat → Int32) × (Nat → Int32) × (Nat → Int32)) => wX_patternless_2 (fun u' => wpY_patternless (fun v' => i_Rel (k + 2) u' v') ((nI m), (nI d), (nI n), h_tokenCount, h_wrong, h_letterCount, (nI (rg_n g)), (nI c), h_usefulRules, h_stateCount, h_wideCount, h_useCount, h_result, b_ops, b_firsts, b_seconds, b_sizes, b_stack, b_roots, b_text, b_ends, b_tokenKinds, b_tokenSizes, b_letters, b_begins, b_closes, b_empties, b_nexts, b_sets, b_leads, b_classes, b_newClasses, b_lefts, b_rights, b_counts, b_making, b_firstSets, b_followSets, b_states, b_looks, b_wides, b_work, b_met, b_tasks, b_held, b_uses, b_reach)) f (nI i) (nI d) (nI m) (nI n) f_tokenCount f_wrongPlace (nI (rg_n g)) f_prepared f_rulesInUse f_stateCount f_wideCount f_gradeFound f_readHeight f_tokensTaken f_usedCount w.1 w.2.1 w.2.2.1 w.2.2.2 a_groups a_marks a_text a_tokenKinds a_tokenLengths a_lefts a_rights a_rightSizes a_beginSets a_followSets a_nextItems a_openItems a_restItems a_stateItems a_stateSteps a_stateLooks a_wideSteps a_wideLooks a_readStates a_readValues a_usedRules) (fun i w => ∀ j, j < i → xs_S w.1 w.2.1 w.2.2.1 w.2.2.2 (8 + j) gk_none) 3 (a_spotCounts, a_ends, a_arrows, a_takers) (fun j hj => absurd hj (Nat.not_lt_zero _)) ?_ ?_
  · rintro f ⟨w1, w2, w3, w4⟩ hw
    refine br_t (nI_le (Nat.le_refl 3) (by decide)) (yw_patternless fun R hR' => ?_)
    exact ir_mk (ir_p0 (ga := ga) (lo := lo) (op := op) (fi := fi) (se := se) (st := st) hw hR') hT hG hC
  · rintro f i ⟨w1, w2, w3, w4⟩ hi hw hk'
    refine br_f (nI_ge hi (by decide)) ?_
    rw [ix_8 i]
    refine xw_clearSlot (a_spotCounts := w1) (a_ends := w2) (a_arrows := w3) (a_takers := w4) (by omega) (nm_r (nI_1 i) (hk' (upd w1 (8 + i) 0, upd w2 (8 + i) 0, ax_set w3 ((8 + i) * 7) 7 (fun _ => 0), ax_set w4 ((8 + i) * 3) 3 (fun _ => 0)) fun j hj => ?_))
    by_cases e : j = i
    · subst e
      exact xs_none
    · have ne : 8 + j ≠ 8 + i := by omega
      have hj' : xs_S w1 w2 w3 w4 (8 + j) gk_none := hw j (by omega)
      show xs_S (upd w1 (8 + i) 0) (upd w2 (8 + i) 0) (ax_set w3 ((8 + i) * 7) 7 (fun _ => 0)) (ax_set w4 ((8 + i) * 3) 3 (fun _ => 0)) (8 + j) gk_none
      exact xs_frame hj' (fr_u ne) (fr_u ne) (fun i' hi' => fr_7 ne (Nat.le_refl _) (Nat.le_refl _) hi') (fun i' hi' => fr_3 ne hi')
