/-! the component reads: a rule out of a set, a symbol onto the stack, a rule used -/
variable {f_depth f_made f_textLength f_tokenCount f_wrongPlace f_ruleCount f_prepared f_rulesInUse f_stateCount f_wideCount f_gradeFound f_readHeight f_tokensTaken f_usedCount : Int32} {a_spotCounts a_ends a_arrows a_takers a_groups a_marks a_text a_tokenKinds a_tokenLengths a_lefts a_rights a_rightSizes a_beginSets a_followSets a_stateSteps a_wideSteps a_readStates a_readValues a_usedRules : Nat → Int32} {a_nextItems a_openItems a_restItems a_stateItems a_stateLooks a_wideLooks : Nat → Int64}
section
variable {g : rg_T}
theorem xw_ruleOf {S : Int64} (hS : ∃ k, bl S k = true) (hb : ∀ k, bl S k = true → k < 47) {post : Int32 → Prop} (h : ∀ k, bl S k = true → post (nI (k / 5))) : wpX_ruleOf post (f_depth, f_made, f_textLength, f_tokenCount, f_wrongPlace, f_ruleCount, f_prepared, f_rulesInUse, f_stateCount, f_wideCount, f_gradeFound, f_readHeight, f_tokensTaken, f_usedCount, a_spotCounts, a_ends, a_arrows, a_takers, a_groups, a_marks, a_text, a_tokenKinds, a_tokenLengths, a_lefts, a_rights, a_rightSizes, a_beginSets, a_followSets, a_nextItems, a_openItems, a_restItems, a_stateItems, a_stateSteps, a_stateLooks, a_wideSteps, a_wideLooks, a_readStates, a_readValues, a_usedRules) S := by
  refine loop_0 (fun f i (_ : Unit) => wX_ruleOf_2 post S f_depth f_made f_textLength f_tokenCount f_wrongPlace f_ruleCount f_prepared f_rulesInUse f_stateCount f_wideCount f_gradeFound f_readHeight f_tokensTaken f_usedCount a_spotCounts a_ends a_arrows a_takers a_groups a_marks a_text a_tokenKinds a_tokenLengths a_lefts a_rights a_rightSizes a_beginSets a_followSets a_nextItems a_openItems a_restItems a_stateItems a_stateSteps a_stateLooks a_wideSteps a_wideLooks a_readStates a_readValues a_usedRules f (nI i)) (fun i _ => ∀ k, k < i → ¬ bl S k = true) 45 () (fun k q => absurd q (Nat.not_lt_zero _)) ?_ ?_
  · intro f _ hno
    refine br_t (nI_le (Nat.le_refl 45) (by decide)) ⟨by decide, ?_⟩
    obtain ⟨k, hk⟩ := hS
    have k1 : ¬ k < 45 := fun z => hno k z hk
    have k2 := hb k hk
    have := h k hk
    rw [show k / 5 = 9 by omega] at this
    rw [show nI 45 / 5 = nI 9 by decide]
    exact this
  · intro f i _ hi hno hk
    refine br_f (nI_ge hi (by decide)) (br_c (fun z => nm_r (nI_1 i) (hk () fun k hk' => ?_)) (fun z => ⟨by decide, ?_⟩))
    · by_cases e : k = i
      · subst e
        rw [(bl_test0 S (by omega)).mp z]
        exact fun q => by cases q
      · exact hno k (by omega)
    · have b : bl S i = true := by
        rw [bl_test0 S (by omega)] at z
        revert z
        cases bl S i <;> intro z
        · exact absurd rfl z
        · rfl
      rw [show nI i / 5 = nI (i / 5) from pk_div (d := 5) (by omega) (by decide) (by decide)]
      exact h i b
theorem xw_push_wideSteps {q x hh n : Nat} (h8 : hh < 2048) (hq : a_readStates hh = nI q) (hqn : q < n) (hn : n * 7 ≤ 560) (hx : x < 7) {v : Int32} {post : Int32 → SX → Prop} (h0 : a_wideSteps (q * 7 + x) = -1 ∨ 2048 ≤ hh + 1 → post 0 (f_depth, f_made, f_textLength, f_tokenCount, f_wrongPlace, f_ruleCount, f_prepared, f_rulesInUse, f_stateCount, f_wideCount, f_gradeFound, (nI hh), f_tokensTaken, f_usedCount, a_spotCounts, a_ends, a_arrows, a_takers, a_groups, a_marks, a_text, a_tokenKinds, a_tokenLengths, a_lefts, a_rights, a_rightSizes, a_beginSets, a_followSets, a_nextItems, a_openItems, a_restItems, a_stateItems, a_stateSteps, a_stateLooks, a_wideSteps, a_wideLooks, a_readStates, a_readValues, a_usedRules))
    (h1 : a_wideSteps (q * 7 + x) ≠ -1 → hh + 1 < 2048 → post 1 (f_depth, f_made, f_textLength, f_tokenCount, f_wrongPlace, f_ruleCount, f_prepared, f_rulesInUse, f_stateCount, f_wideCount, f_gradeFound, (nI (hh + 1)), f_tokensTaken, f_usedCount, a_spotCounts, a_ends, a_arrows, a_takers, a_groups, a_marks, a_text, a_tokenKinds, a_tokenLengths, a_lefts, a_rights, a_rightSizes, a_beginSets, a_followSets, a_nextItems, a_openItems, a_restItems, a_stateItems, a_stateSteps, a_stateLooks, a_wideSteps, a_wideLooks, (upd a_readStates (hh + 1) (a_wideSteps (q * 7 + x))), (upd a_readValues (hh + 1) v), a_usedRules)) : wpX_pushSymbol__wideSteps post (f_depth, f_made, f_textLength, f_tokenCount, f_wrongPlace, f_ruleCount, f_prepared, f_rulesInUse, f_stateCount, f_wideCount, f_gradeFound, (nI hh), f_tokensTaken, f_usedCount, a_spotCounts, a_ends, a_arrows, a_takers, a_groups, a_marks, a_text, a_tokenKinds, a_tokenLengths, a_lefts, a_rights, a_rightSizes, a_beginSets, a_followSets, a_nextItems, a_openItems, a_restItems, a_stateItems, a_stateSteps, a_stateLooks, a_wideSteps, a_wideLooks, a_readStates, a_readValues, a_usedRules) (nI x) v := by
  refine ⟨vp_in_nI h8 (by decide), ?_⟩
  rw [nI_clamp (by omega : hh < 2 ^ 31), hq]
  refine ⟨pk_in (q * 7 + x) 560 (by omega) (ix_7 q x), nm_r (e' := a_wideSteps (q * 7 + x)) (by rw [pk_cl (q * 7 + x) (ix_7 q x)]) (br_c (fun z => h0 (Or.inl z)) (fun z => ?_))⟩
  rw [nI_1]
  refine pk_lt (hh + 1) 2048 (fun y => nm_e ⟨vp_in_nI y (by decide), nm_r (e' := upd a_readStates (hh + 1) (a_wideSteps (q * 7 + x))) (by rw [nI_clamp (by omega)]) ⟨vp_in_nI y (by decide), nm_r (e' := upd a_readValues (hh + 1) v) (by rw [nI_clamp (by omega)]) (h1 z y)⟩⟩) (fun y => h0 (Or.inr y))
theorem xw_push_stateSteps {q x hh n : Nat} (h8 : hh < 2048) (hq : a_readStates hh = nI q) (hqn : q < n) (hn : n * 7 ≤ 420) (hx : x < 7) {v : Int32} {post : Int32 → SX → Prop} (h0 : a_stateSteps (q * 7 + x) = -1 ∨ 2048 ≤ hh + 1 → post 0 (f_depth, f_made, f_textLength, f_tokenCount, f_wrongPlace, f_ruleCount, f_prepared, f_rulesInUse, f_stateCount, f_wideCount, f_gradeFound, (nI hh), f_tokensTaken, f_usedCount, a_spotCounts, a_ends, a_arrows, a_takers, a_groups, a_marks, a_text, a_tokenKinds, a_tokenLengths, a_lefts, a_rights, a_rightSizes, a_beginSets, a_followSets, a_nextItems, a_openItems, a_restItems, a_stateItems, a_stateSteps, a_stateLooks, a_wideSteps, a_wideLooks, a_readStates, a_readValues, a_usedRules))
    (h1 : a_stateSteps (q * 7 + x) ≠ -1 → hh + 1 < 2048 → post 1 (f_depth, f_made, f_textLength, f_tokenCount, f_wrongPlace, f_ruleCount, f_prepared, f_rulesInUse, f_stateCount, f_wideCount, f_gradeFound, (nI (hh + 1)), f_tokensTaken, f_usedCount, a_spotCounts, a_ends, a_arrows, a_takers, a_groups, a_marks, a_text, a_tokenKinds, a_tokenLengths, a_lefts, a_rights, a_rightSizes, a_beginSets, a_followSets, a_nextItems, a_openItems, a_restItems, a_stateItems, a_stateSteps, a_stateLooks, a_wideSteps, a_wideLooks, (upd a_readStates (hh + 1) (a_stateSteps (q * 7 + x))), (upd a_readValues (hh + 1) v), a_usedRules)) : wpX_pushSymbol__stateSteps post (f_depth, f_made, f_textLength, f_tokenCount, f_wrongPlace, f_ruleCount, f_prepared, f_rulesInUse, f_stateCount, f_wideCount, f_gradeFound, (nI hh), f_tokensTaken, f_usedCount, a_spotCounts, a_ends, a_arrows, a_takers, a_groups, a_marks, a_text, a_tokenKinds, a_tokenLengths, a_lefts, a_rights, a_rightSizes, a_beginSets, a_followSets, a_nextItems, a_openItems, a_restItems, a_stateItems, a_stateSteps, a_stateLooks, a_wideSteps, a_wideLooks, a_readStates, a_readValues, a_usedRules) (nI x) v := by
  refine ⟨vp_in_nI h8 (by decide), ?_⟩
  rw [nI_clamp (by omega : hh < 2 ^ 31), hq]
  refine ⟨pk_in (q * 7 + x) 420 (by omega) (ix_7 q x), nm_r (e' := a_stateSteps (q * 7 + x)) (by rw [pk_cl (q * 7 + x) (ix_7 q x)]) (br_c (fun z => h0 (Or.inl z)) (fun z => ?_))⟩
  rw [nI_1]
  refine pk_lt (hh + 1) 2048 (fun y => nm_e ⟨vp_in_nI y (by decide), nm_r (e' := upd a_readStates (hh + 1) (a_stateSteps (q * 7 + x))) (by rw [nI_clamp (by omega)]) ⟨vp_in_nI y (by decide), nm_r (e' := upd a_readValues (hh + 1) v) (by rw [nI_clamp (by omega)]) (h1 z y)⟩⟩) (fun y => h0 (Or.inr y))
theorem xw_use_wideSteps {r c l q hh n : Nat} {fs : Nat → vt_T} (hr : r < 11) (hc : a_rightSizes r = nI c) (hl : a_lefts r = nI l) (c4 : c ≤ 4) (l7 : l < 7) (h8 : hh < 2048) (hch : c ≤ hh) (hV : ∀ k, k < c → a_readValues (hh - c + (k + 1)) = (fs k).2.1) (hq : a_readStates (hh - c) = nI q) (hqn : q < n) (hn : n * 7 ≤ 560) {L : List Nat} (hL : L.length < 2 ^ 30) (hu : yb_us L a_usedRules) {post : Int32 → SX → Prop}
    (h0 : a_wideSteps (q * 7 + l) = -1 ∨ 2048 ≤ hh - c + 1 → ∀ Us, post 0 (f_depth, f_made, f_textLength, f_tokenCount, f_wrongPlace, f_ruleCount, f_prepared, f_rulesInUse, f_stateCount, f_wideCount, f_gradeFound, (nI (hh - c)), f_tokensTaken, (nI (L ++ [r]).length), a_spotCounts, a_ends, a_arrows, a_takers, a_groups, a_marks, a_text, a_tokenKinds, a_tokenLengths, a_lefts, a_rights, a_rightSizes, a_beginSets, a_followSets, a_nextItems, a_openItems, a_restItems, a_stateItems, a_stateSteps, a_stateLooks, a_wideSteps, a_wideLooks, a_readStates, a_readValues, Us))
    (h1 : a_wideSteps (q * 7 + l) ≠ -1 → hh - c + 1 < 2048 → ∀ Us, yb_us (L ++ [r]) Us → post 1 (f_depth, f_made, f_textLength, f_tokenCount, f_wrongPlace, f_ruleCount, f_prepared, f_rulesInUse, f_stateCount, f_wideCount, f_gradeFound, (nI (hh - c + 1)), f_tokensTaken, (nI (L ++ [r]).length), a_spotCounts, a_ends, a_arrows, a_takers, a_groups, a_marks, a_text, a_tokenKinds, a_tokenLengths, a_lefts, a_rights, a_rightSizes, a_beginSets, a_followSets, a_nextItems, a_openItems, a_restItems, a_stateItems, a_stateSteps, a_stateLooks, a_wideSteps, a_wideLooks, (upd a_readStates (hh - c + 1) (a_wideSteps (q * 7 + l))), (upd a_readValues (hh - c + 1) (vt_vl r (vt_li fs c))), Us)) :
    wpX_useRule__wideSteps post (f_depth, f_made, f_textLength, f_tokenCount, f_wrongPlace, f_ruleCount, f_prepared, f_rulesInUse, f_stateCount, f_wideCount, f_gradeFound, (nI hh), f_tokensTaken, (nI L.length), a_spotCounts, a_ends, a_arrows, a_takers, a_groups, a_marks, a_text, a_tokenKinds, a_tokenLengths, a_lefts, a_rights, a_rightSizes, a_beginSets, a_followSets, a_nextItems, a_openItems, a_restItems, a_stateItems, a_stateSteps, a_stateLooks, a_wideSteps, a_wideLooks, a_readStates, a_readValues, a_usedRules) (nI r) := by
  have ir : vp_in (nI r) 11 := vp_in_nI hr (by decide)
  have cr : (nI r).toNatClampNeg = r := nI_clamp (by omega)
  have el : (L ++ [r]).length = L.length + 1 := by rw [List.length_append]; rfl
  rw [el] at h0 h1
  have fin : ∀ Us, yb_us (L ++ [r]) Us → wX_useRule__wideSteps_85 post (nI r) (vt_vl r (vt_li fs c)) f_depth f_made f_textLength f_tokenCount f_wrongPlace f_ruleCount f_prepared f_rulesInUse f_stateCount f_wideCount f_gradeFound (nI (hh - c)) f_tokensTaken (nI L.length) a_spotCounts a_ends a_arrows a_takers a_groups a_marks a_text a_tokenKinds a_tokenLengths a_lefts a_rights a_rightSizes a_beginSets a_followSets a_nextItems a_openItems a_restItems a_stateItems a_stateSteps a_stateLooks a_wideSteps a_wideLooks a_readStates a_readValues Us := by
    intro Us hUs
    refine nm_r (nI_1 _) ⟨ir, ?_⟩
    rw [cr, hl]
    refine xw_push_wideSteps (a_usedRules := Us) (f_usedCount := nI (L.length + 1)) (by omega) hq hqn hn l7 (fun z => ?_) (fun z y => ?_)
    · exact ⟨nb_0, h0 z Us⟩
    · exact ⟨nb_1, h1 z y Us hUs⟩
  refine ⟨ir, nm_r (e' := nI (hh - c)) (by rw [cr, hc, pk_sub hch]) (br_t (nI_le (a := 0) (Nat.zero_le _) (by omega)) (nm_e ?_))⟩
  refine loop_0 (fun f k x => wX_useRule__wideSteps_26 post (nI r) (nI (hh - c)) f_depth f_made f_textLength f_tokenCount f_wrongPlace f_ruleCount f_prepared f_rulesInUse f_stateCount f_wideCount f_gradeFound (nI hh) f_tokensTaken (nI L.length) a_spotCounts a_ends a_arrows a_takers a_groups a_marks a_text a_tokenKinds a_tokenLengths a_lefts a_rights a_rightSizes a_beginSets a_followSets a_nextItems a_openItems a_restItems a_stateItems a_stateSteps a_stateLooks a_wideSteps a_wideLooks a_readStates a_readValues a_usedRules f x (nI (k + 1))) (fun k x => x = vt_vl r (vt_li fs k)) c (nI r + 1) rfl ?_ ?_
  · rintro f x rfl
    refine ⟨ir, ?_⟩
    rw [cr, hc]
    refine br_t (nI_lt (by omega) (by omega)) (pk_le 200 L.length (fun z => fin _ ((yb_u1 hu).1 z)) (fun z => ⟨vp_in_nI z (by decide), nm_r (e' := upd a_usedRules L.length (nI r)) (by rw [nI_clamp (by omega)]) (fin _ (yb_u1 hu).2)⟩))
  · rintro f k x hk rfl hk1
    refine ⟨ir, ?_⟩
    rw [cr, hc]
    refine br_f (nI_nlt (by omega) (by omega)) ?_
    rw [nI_add (hh - c) (k + 1), nI_clamp (by omega : hh - c + (k + 1) < 2 ^ 31), hV k hk]
    refine ⟨vp_in_nI (by omega) (by decide), nm_e (nm_r (nI_1 (k + 1)) (hk1 _ ?_))⟩
    show _ = vt_vl r (vt_li fs k) + nI ((vt_li fs k).length + 1) * (fs k).2.1
    rw [vt_li_len]
theorem xw_use_stateSteps {r c l q hh n : Nat} {fs : Nat → vt_T} (hr : r < 11) (hc : a_rightSizes r = nI c) (hl : a_lefts r = nI l) (c4 : c ≤ 4) (l7 : l < 7) (h8 : hh < 2048) (hch : c ≤ hh) (hV : ∀ k, k < c → a_readValues (hh - c + (k + 1)) = (fs k).2.1) (hq : a_readStates (hh - c) = nI q) (hqn : q < n) (hn : n * 7 ≤ 420) {L : List Nat} (hL : L.length < 2 ^ 30) (hu : yb_us L a_usedRules) {post : Int32 → SX → Prop}
    (h0 : a_stateSteps (q * 7 + l) = -1 ∨ 2048 ≤ hh - c + 1 → ∀ Us, post 0 (f_depth, f_made, f_textLength, f_tokenCount, f_wrongPlace, f_ruleCount, f_prepared, f_rulesInUse, f_stateCount, f_wideCount, f_gradeFound, (nI (hh - c)), f_tokensTaken, (nI (L ++ [r]).length), a_spotCounts, a_ends, a_arrows, a_takers, a_groups, a_marks, a_text, a_tokenKinds, a_tokenLengths, a_lefts, a_rights, a_rightSizes, a_beginSets, a_followSets, a_nextItems, a_openItems, a_restItems, a_stateItems, a_stateSteps, a_stateLooks, a_wideSteps, a_wideLooks, a_readStates, a_readValues, Us))
    (h1 : a_stateSteps (q * 7 + l) ≠ -1 → hh - c + 1 < 2048 → ∀ Us, yb_us (L ++ [r]) Us → post 1 (f_depth, f_made, f_textLength, f_tokenCount, f_wrongPlace, f_ruleCount, f_prepared, f_rulesInUse, f_stateCount, f_wideCount, f_gradeFound, (nI (hh - c + 1)), f_tokensTaken, (nI (L ++ [r]).length), a_spotCounts, a_ends, a_arrows, a_takers, a_groups, a_marks, a_text, a_tokenKinds, a_tokenLengths, a_lefts, a_rights, a_rightSizes, a_beginSets, a_followSets, a_nextItems, a_openItems, a_restItems, a_stateItems, a_stateSteps, a_stateLooks, a_wideSteps, a_wideLooks, (upd a_readStates (hh - c + 1) (a_stateSteps (q * 7 + l))), (upd a_readValues (hh - c + 1) (vt_vl r (vt_li fs c))), Us)) :
    wpX_useRule__stateSteps post (f_depth, f_made, f_textLength, f_tokenCount, f_wrongPlace, f_ruleCount, f_prepared, f_rulesInUse, f_stateCount, f_wideCount, f_gradeFound, (nI hh), f_tokensTaken, (nI L.length), a_spotCounts, a_ends, a_arrows, a_takers, a_groups, a_marks, a_text, a_tokenKinds, a_tokenLengths, a_lefts, a_rights, a_rightSizes, a_beginSets, a_followSets, a_nextItems, a_openItems, a_restItems, a_stateItems, a_stateSteps, a_stateLooks, a_wideSteps, a_wideLooks, a_readStates, a_readValues, a_usedRules) (nI r) := by
  have ir : vp_in (nI r) 11 := vp_in_nI hr (by decide)
  have cr : (nI r).toNatClampNeg = r := nI_clamp (by omega)
  have el : (L ++ [r]).length = L.length + 1 := by rw [List.length_append]; rfl
  rw [el] at h0 h1
  have fin : ∀ Us, yb_us (L ++ [r]) Us → wX_useRule__stateSteps_85 post (nI r) (vt_vl r (vt_li fs c)) f_depth f_made f_textLength f_tokenCount f_wrongPlace f_ruleCount f_prepared f_rulesInUse f_stateCount f_wideCount f_gradeFound (nI (hh - c)) f_tokensTaken (nI L.length) a_spotCounts a_ends a_arrows a_takers a_groups a_marks a_text a_tokenKinds a_tokenLengths a_lefts a_rights a_rightSizes a_beginSets a_followSets a_nextItems a_openItems a_restItems a_stateItems a_stateSteps a_stateLooks a_wideSteps a_wideLooks a_readStates a_readValues Us := by
    intro Us hUs
    refine nm_r (nI_1 _) ⟨ir, ?_⟩
    rw [cr, hl]
    refine xw_push_stateSteps (a_usedRules := Us) (f_usedCount := nI (L.length + 1)) (by omega) hq hqn hn l7 (fun z => ?_) (fun z y => ?_)
    · exact ⟨nb_0, h0 z Us⟩
    · exact ⟨nb_1, h1 z y Us hUs⟩
  refine ⟨ir, nm_r (e' := nI (hh - c)) (by rw [cr, hc, pk_sub hch]) (br_t (nI_le (a := 0) (Nat.zero_le _) (by omega)) (nm_e ?_))⟩
  refine loop_0 (fun f k x => wX_useRule__stateSteps_26 post (nI r) (nI (hh - c)) f_depth f_made f_textLength f_tokenCount f_wrongPlace f_ruleCount f_prepared f_rulesInUse f_stateCount f_wideCount f_gradeFound (nI hh) f_tokensTaken (nI L.length) a_spotCounts a_ends a_arrows a_takers a_groups a_marks a_text a_tokenKinds a_tokenLengths a_lefts a_rights a_rightSizes a_beginSets a_followSets a_nextItems a_openItems a_restItems a_stateItems a_stateSteps a_stateLooks a_wideSteps a_wideLooks a_readStates a_readValues a_usedRules f x (nI (k + 1))) (fun k x => x = vt_vl r (vt_li fs k)) c (nI r + 1) rfl ?_ ?_
  · rintro f x rfl
    refine ⟨ir, ?_⟩
    rw [cr, hc]
    refine br_t (nI_lt (by omega) (by omega)) (pk_le 200 L.length (fun z => fin _ ((yb_u1 hu).1 z)) (fun z => ⟨vp_in_nI z (by decide), nm_r (e' := upd a_usedRules L.length (nI r)) (by rw [nI_clamp (by omega)]) (fin _ (yb_u1 hu).2)⟩))
  · rintro f k x hk rfl hk1
    refine ⟨ir, ?_⟩
    rw [cr, hc]
    refine br_f (nI_nlt (by omega) (by omega)) ?_
    rw [nI_add (hh - c) (k + 1), nI_clamp (by omega : hh - c + (k + 1) < 2 ^ 31), hV k hk]
    refine ⟨vp_in_nI (by omega) (by decide), nm_e (nm_r (nI_1 (k + 1)) (hk1 _ ?_))⟩
    show _ = vt_vl r (vt_li fs k) + nI ((vt_li fs k).length + 1) * (fs k).2.1
    rw [vt_li_len]
end
