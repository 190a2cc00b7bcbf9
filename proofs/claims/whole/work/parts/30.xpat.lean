/-! the component's patterns: what each of its own methods makes of the arrays -/
variable {f_depth f_made f_textLength f_tokenCount f_wrongPlace f_ruleCount f_prepared f_rulesInUse f_stateCount f_wideCount f_gradeFound f_readHeight f_tokensTaken f_usedCount : Int32} {a_spotCounts a_ends a_arrows a_takers a_groups a_marks a_text a_tokenKinds a_tokenLengths a_lefts a_rights a_rightSizes a_beginSets a_followSets a_stateSteps a_wideSteps a_readStates a_readValues a_usedRules : Nat → Int32} {a_nextItems a_openItems a_restItems a_stateItems a_stateLooks a_wideLooks : Nat → Int64}
theorem xw_clearSlot {p : Nat} (hp : p < 11) {post : SX → Prop} (h : post (f_depth, f_made, f_textLength, f_tokenCount, f_wrongPlace, f_ruleCount, f_prepared, f_rulesInUse, f_stateCount, f_wideCount, f_gradeFound, f_readHeight, f_tokensTaken, f_usedCount, (upd a_spotCounts p 0), (upd a_ends p 0), (ax_set a_arrows (p * 7) 7 (fun _ => 0)), (ax_set a_takers (p * 3) 3 (fun _ => 0)), a_groups, a_marks, a_text, a_tokenKinds, a_tokenLengths, a_lefts, a_rights, a_rightSizes, a_beginSets, a_followSets, a_nextItems, a_openItems, a_restItems, a_stateItems, a_stateSteps, a_stateLooks, a_wideSteps, a_wideLooks, a_readStates, a_readValues, a_usedRules)) : wpX_clearSlot post (f_depth, f_made, f_textLength, f_tokenCount, f_wrongPlace, f_ruleCount, f_prepared, f_rulesInUse, f_stateCount, f_wideCount, f_gradeFound, f_readHeight, f_tokensTaken, f_usedCount, a_spotCounts, a_ends, a_arrows, a_takers, a_groups, a_marks, a_text, a_tokenKinds, a_tokenLengths, a_lefts, a_rights, a_rightSizes, a_beginSets, a_followSets, a_nextItems, a_openItems, a_restItems, a_stateItems, a_stateSteps, a_stateLooks, a_wideSteps, a_wideLooks, a_readStates, a_readValues, a_usedRules) (nI p) := by
  have c : (nI p).toNatClampNeg = p := nI_clamp (by omega)
  refine ⟨vp_in_nI hp (by decide), nm_r (by rw [c]) ⟨vp_in_nI hp (by decide), nm_r (by rw [c]) ?_⟩⟩
  refine loop_0 (fun n i s => wX_clearSlot_16 post (nI p) f_depth f_made f_textLength f_tokenCount f_wrongPlace f_ruleCount f_prepared f_rulesInUse f_stateCount f_wideCount f_gradeFound f_readHeight f_tokensTaken f_usedCount n (nI i) (upd a_spotCounts p 0) (upd a_ends p 0) s a_takers a_groups a_marks a_text a_tokenKinds a_tokenLengths a_lefts a_rights a_rightSizes a_beginSets a_followSets a_nextItems a_openItems a_restItems a_stateItems a_stateSteps a_stateLooks a_wideSteps a_wideLooks a_readStates a_readValues a_usedRules) (fun i s => s = ax_set a_arrows (p * 7) i (fun _ => 0)) 7 a_arrows (ax_0 _ _ _).symm ?_ ?_
  · intro n s hs
    subst hs
    refine br_t (nI_le (Nat.le_refl 7) (by decide)) ?_
    refine loop_0 (fun n i s => wX_clearSlot_42 post (nI p) f_depth f_made f_textLength f_tokenCount f_wrongPlace f_ruleCount f_prepared f_rulesInUse f_stateCount f_wideCount f_gradeFound f_readHeight f_tokensTaken f_usedCount n (nI i) (upd a_spotCounts p 0) (upd a_ends p 0) (ax_set a_arrows (p * 7) 7 (fun _ => 0)) s a_groups a_marks a_text a_tokenKinds a_tokenLengths a_lefts a_rights a_rightSizes a_beginSets a_followSets a_nextItems a_openItems a_restItems a_stateItems a_stateSteps a_stateLooks a_wideSteps a_wideLooks a_readStates a_readValues a_usedRules) (fun i s => s = ax_set a_takers (p * 3) i (fun _ => 0)) 3 a_takers (ax_0 _ _ _).symm ?_ ?_
    · intro n s hs
      subst hs
      exact br_t (nI_le (Nat.le_refl 3) (by decide)) h
    · intro n i s hi hs hk
      subst hs
      exact br_f (nI_ge hi (by decide)) ⟨pk_in (p * 3 + i) 33 (by omega) (ix_3 p i), nm_r (by rw [pk_cl (p * 3 + i) (ix_3 p i)]; exact ax_s _ _ _ _) (nm_r (nI_1 i) (hk _ rfl))⟩
  · intro n i s hi hs hk
    subst hs
    exact br_f (nI_ge hi (by decide)) ⟨pk_in (p * 7 + i) 77 (by omega) (ix_7 p i), nm_r (by rw [pk_cl (p * 7 + i) (ix_7 p i)]; exact ax_s _ _ _ _) (nm_r (nI_1 i) (hk _ rfl))⟩
theorem xw_setSingleSpot {p o : Nat} (hp : p < 11) (ho : o < 4) {post : SX → Prop} (h : post (f_depth, f_made, f_textLength, f_tokenCount, f_wrongPlace, f_ruleCount, f_prepared, f_rulesInUse, f_stateCount, f_wideCount, f_gradeFound, f_readHeight, f_tokensTaken, f_usedCount, (upd a_spotCounts p 1), (upd a_ends p 1), (upd a_arrows (p * 7 + 6) 1), (ax_set a_takers (p * 3) 3 (fun l => if o = l ∨ o = 3 then 1 else 0)), a_groups, a_marks, a_text, a_tokenKinds, a_tokenLengths, a_lefts, a_rights, a_rightSizes, a_beginSets, a_followSets, a_nextItems, a_openItems, a_restItems, a_stateItems, a_stateSteps, a_stateLooks, a_wideSteps, a_wideLooks, a_readStates, a_readValues, a_usedRules)) : wpX_setSingleSpot post (f_depth, f_made, f_textLength, f_tokenCount, f_wrongPlace, f_ruleCount, f_prepared, f_rulesInUse, f_stateCount, f_wideCount, f_gradeFound, f_readHeight, f_tokensTaken, f_usedCount, a_spotCounts, a_ends, a_arrows, a_takers, a_groups, a_marks, a_text, a_tokenKinds, a_tokenLengths, a_lefts, a_rights, a_rightSizes, a_beginSets, a_followSets, a_nextItems, a_openItems, a_restItems, a_stateItems, a_stateSteps, a_stateLooks, a_wideSteps, a_wideLooks, a_readStates, a_readValues, a_usedRules) (nI p) (nI o) := by
  have c : (nI p).toNatClampNeg = p := nI_clamp (by omega)
  have i6 : (nI p * 7 + 6).toNatClampNeg = p * 7 + 6 := pk_cl (p * 7 + 6) (ix_7 p 6)
  refine ⟨vp_in_nI hp (by decide), nm_r (by rw [c]) ⟨vp_in_nI hp (by decide), nm_r (by rw [c]) ⟨pk_in (p * 7 + 6) 77 (by omega) (ix_7 p 6), nm_r (by rw [i6]) ?_⟩⟩⟩
  refine loop_0 (fun n i s => wX_setSingleSpot_29 post (nI p) (nI o) f_depth f_made f_textLength f_tokenCount f_wrongPlace f_ruleCount f_prepared f_rulesInUse f_stateCount f_wideCount f_gradeFound f_readHeight f_tokensTaken f_usedCount n (nI i) (upd a_spotCounts p 1) (upd a_ends p 1) (upd a_arrows (p * 7 + 6) 1) s a_groups a_marks a_text a_tokenKinds a_tokenLengths a_lefts a_rights a_rightSizes a_beginSets a_followSets a_nextItems a_openItems a_restItems a_stateItems a_stateSteps a_stateLooks a_wideSteps a_wideLooks a_readStates a_readValues a_usedRules) (fun i s => s = ax_set a_takers (p * 3) i (fun l => if o = l ∨ o = 3 then 1 else 0)) 3 a_takers (ax_0 _ _ _).symm ?_ ?_
  · intro n s hs
    subst hs
    exact br_t (nI_le (Nat.le_refl 3) (by decide)) h
  · intro n i s hi hs hk
    subst hs
    have e : (nI p * 3 + nI i).toNatClampNeg = p * 3 + i := pk_cl (p * 3 + i) (ix_3 p i)
    have hin : vp_in (nI p * 3 + nI i) 33 := pk_in (p * 3 + i) 33 (by omega) (ix_3 p i)
    refine br_f (nI_ge hi (by decide)) (pk_eq o i (fun z => ?_) (fun z => pk_eq o 3 (fun y => ?_) (fun y => ?_)))
    · refine ⟨hin, nm_r ?_ (nm_r (nI_1 i) (hk _ rfl))⟩
      rw [e, ← ax_s, if_pos (Or.inl z)]
    · refine ⟨hin, nm_r ?_ (nm_r (nI_1 i) (hk _ rfl))⟩
      rw [e, ← ax_s, if_pos (Or.inr y)]
    · refine ⟨hin, nm_r ?_ (nm_r (nI_1 i) (hk _ rfl))⟩
      rw [e, ← ax_s, if_neg (by omega)]
theorem xw_copySlot {p q : Nat} (hp : p < 8) (hq : 8 ≤ q) (hq2 : q < 11) {post : SX → Prop} (h : post (f_depth, f_made, f_textLength, f_tokenCount, f_wrongPlace, f_ruleCount, f_prepared, f_rulesInUse, f_stateCount, f_wideCount, f_gradeFound, f_readHeight, f_tokensTaken, f_usedCount, (upd a_spotCounts q (a_spotCounts p)), (upd a_ends q (a_ends p)), (ax_set a_arrows (q * 7) 7 (fun j => a_arrows (p * 7 + j))), (ax_set a_takers (q * 3) 3 (fun j => a_takers (p * 3 + j))), a_groups, a_marks, a_text, a_tokenKinds, a_tokenLengths, a_lefts, a_rights, a_rightSizes, a_beginSets, a_followSets, a_nextItems, a_openItems, a_restItems, a_stateItems, a_stateSteps, a_stateLooks, a_wideSteps, a_wideLooks, a_readStates, a_readValues, a_usedRules)) : wpX_copySlot post (f_depth, f_made, f_textLength, f_tokenCount, f_wrongPlace, f_ruleCount, f_prepared, f_rulesInUse, f_stateCount, f_wideCount, f_gradeFound, f_readHeight, f_tokensTaken, f_usedCount, a_spotCounts, a_ends, a_arrows, a_takers, a_groups, a_marks, a_text, a_tokenKinds, a_tokenLengths, a_lefts, a_rights, a_rightSizes, a_beginSets, a_followSets, a_nextItems, a_openItems, a_restItems, a_stateItems, a_stateSteps, a_stateLooks, a_wideSteps, a_wideLooks, a_readStates, a_readValues, a_usedRules) (nI p) (nI q) := by
  have c : (nI p).toNatClampNeg = p := nI_clamp (by omega)
  have d : (nI q).toNatClampNeg = q := nI_clamp (by omega)
  refine ⟨vp_in_nI (by omega) (by decide), vp_in_nI hq2 (by decide), nm_r (by rw [c, d]) ⟨vp_in_nI (by omega) (by decide), vp_in_nI hq2 (by decide), nm_r (by rw [c, d]) ?_⟩⟩
  refine loop_0 (fun n i s => wX_copySlot_26 post (nI p) (nI q) f_depth f_made f_textLength f_tokenCount f_wrongPlace f_ruleCount f_prepared f_rulesInUse f_stateCount f_wideCount f_gradeFound f_readHeight f_tokensTaken f_usedCount n (nI i) (upd a_spotCounts q (a_spotCounts p)) (upd a_ends q (a_ends p)) s a_takers a_groups a_marks a_text a_tokenKinds a_tokenLengths a_lefts a_rights a_rightSizes a_beginSets a_followSets a_nextItems a_openItems a_restItems a_stateItems a_stateSteps a_stateLooks a_wideSteps a_wideLooks a_readStates a_readValues a_usedRules) (fun i s => s = ax_set a_arrows (q * 7) i (fun j => a_arrows (p * 7 + j))) 7 a_arrows (ax_0 _ _ _).symm ?_ ?_
  · intro n s hs
    subst hs
    refine br_t (nI_le (Nat.le_refl 7) (by decide)) ?_
    refine loop_0 (fun n i s => wX_copySlot_62 post (nI p) (nI q) f_depth f_made f_textLength f_tokenCount f_wrongPlace f_ruleCount f_prepared f_rulesInUse f_stateCount f_wideCount f_gradeFound f_readHeight f_tokensTaken f_usedCount n (nI i) (upd a_spotCounts q (a_spotCounts p)) (upd a_ends q (a_ends p)) (ax_set a_arrows (q * 7) 7 (fun j => a_arrows (p * 7 + j))) s a_groups a_marks a_text a_tokenKinds a_tokenLengths a_lefts a_rights a_rightSizes a_beginSets a_followSets a_nextItems a_openItems a_restItems a_stateItems a_stateSteps a_stateLooks a_wideSteps a_wideLooks a_readStates a_readValues a_usedRules) (fun i s => s = ax_set a_takers (q * 3) i (fun j => a_takers (p * 3 + j))) 3 a_takers (ax_0 _ _ _).symm ?_ ?_
    · intro n s hs
      subst hs
      exact br_t (nI_le (Nat.le_refl 3) (by decide)) h
    · intro n i s hi hs hk
      subst hs
      exact br_f (nI_ge hi (by decide)) ⟨pk_in (p * 3 + i) 33 (by omega) (ix_3 p i), pk_in (q * 3 + i) 33 (by omega) (ix_3 q i), nm_r (by rw [pk_cl (q * 3 + i) (ix_3 q i), pk_cl (p * 3 + i) (ix_3 p i), ax_out (j := p * 3 + i) (by omega)]; exact ax_s _ _ _ _) (nm_r (nI_1 i) (hk _ rfl))⟩
  · intro n i s hi hs hk
    subst hs
    exact br_f (nI_ge hi (by decide)) ⟨pk_in (p * 7 + i) 77 (by omega) (ix_7 p i), pk_in (q * 7 + i) 77 (by omega) (ix_7 q i), nm_r (by rw [pk_cl (q * 7 + i) (ix_7 q i), pk_cl (p * 7 + i) (ix_7 p i), ax_out (j := p * 7 + i) (by omega)]; exact ax_s _ _ _ _) (nm_r (nI_1 i) (hk _ rfl))⟩
/-- what addArrows makes of the arrows -/
def xw_aa (a : Nat → Int32) (p : Nat) (x y : Int32) : Nat → Int32 := ax_set a (p * 7) 7 (fun i => if bt x i = true then a (p * 7 + i) ||| y else a (p * 7 + i))
theorem ax_keep {a : Nat → Int32} {b n : Nat} {v : Nat → Int32} (h : v n = a (b + n)) : ax_set a b (n + 1) v = ax_set a b n v := by
  rw [← ax_s]
  funext j
  unfold upd
  split
  · rename_i e; subst e; rw [ax_out (Or.inr (Nat.le_refl _)), h]
  · rfl
theorem xw_addArrows {p : Nat} (hp : p < 11) (x y : Int32) {post : SX → Prop} (h : post (f_depth, f_made, f_textLength, f_tokenCount, f_wrongPlace, f_ruleCount, f_prepared, f_rulesInUse, f_stateCount, f_wideCount, f_gradeFound, f_readHeight, f_tokensTaken, f_usedCount, a_spotCounts, a_ends, (xw_aa a_arrows p x y), a_takers, a_groups, a_marks, a_text, a_tokenKinds, a_tokenLengths, a_lefts, a_rights, a_rightSizes, a_beginSets, a_followSets, a_nextItems, a_openItems, a_restItems, a_stateItems, a_stateSteps, a_stateLooks, a_wideSteps, a_wideLooks, a_readStates, a_readValues, a_usedRules)) : wpX_addArrows post (f_depth, f_made, f_textLength, f_tokenCount, f_wrongPlace, f_ruleCount, f_prepared, f_rulesInUse, f_stateCount, f_wideCount, f_gradeFound, f_readHeight, f_tokensTaken, f_usedCount, a_spotCounts, a_ends, a_arrows, a_takers, a_groups, a_marks, a_text, a_tokenKinds, a_tokenLengths, a_lefts, a_rights, a_rightSizes, a_beginSets, a_followSets, a_nextItems, a_openItems, a_restItems, a_stateItems, a_stateSteps, a_stateLooks, a_wideSteps, a_wideLooks, a_readStates, a_readValues, a_usedRules) (nI p) x y := by
  refine loop_0 (fun n i s => wX_addArrows_3 post (nI p) x y f_depth f_made f_textLength f_tokenCount f_wrongPlace f_ruleCount f_prepared f_rulesInUse f_stateCount f_wideCount f_gradeFound f_readHeight f_tokensTaken f_usedCount n (nI i) a_spotCounts a_ends s a_takers a_groups a_marks a_text a_tokenKinds a_tokenLengths a_lefts a_rights a_rightSizes a_beginSets a_followSets a_nextItems a_openItems a_restItems a_stateItems a_stateSteps a_stateLooks a_wideSteps a_wideLooks a_readStates a_readValues a_usedRules) (fun i s => s = ax_set a_arrows (p * 7) i (fun i => if bt x i = true then a_arrows (p * 7 + i) ||| y else a_arrows (p * 7 + i))) 7 a_arrows (ax_0 _ _ _).symm ?_ ?_
  · intro n s hs
    subst hs
    exact br_t (nI_le (Nat.le_refl 7) (by decide)) h
  · intro n i s hi hs hk
    subst hs
    have hin : vp_in (nI p * 7 + nI i) 77 := pk_in (p * 7 + i) 77 (by omega) (ix_7 p i)
    refine br_f (nI_ge hi (by decide)) (br_c (fun z => ?_) (fun z => ?_))
    · have z := (b_test x (by omega)).mp z
      refine ⟨hin, hin, nm_r ?_ (nm_r (nI_1 i) (hk _ rfl))⟩
      rw [pk_cl (p * 7 + i) (ix_7 p i), ax_out (j := p * 7 + i) (by omega), ← ax_s, if_pos z]
    · refine nm_r (nI_1 i) (hk _ ?_)
      rw [ax_keep]
      rw [if_neg]
      exact fun y => z ((b_test x (by omega)).mpr y)
/-- what joinTops makes of the arrays: x and x + 1 the slots, c the spots of x, e those of x + 1 -/
def xw_jb (a_arrows : Nat → Int32) (x c : Nat) : Int32 := a_arrows ((x + 1) * 7 + 6) <<< (nI c &&& 31)
def xw_je (a_ends : Nat → Int32) (x : Nat) : Int32 := a_ends (x + 1) &&& 64
def xw_jE (a_ends : Nat → Int32) (x c : Nat) : Int32 := (a_ends (x + 1) ^^^ (a_ends (x + 1) &&& 64)) <<< (nI c &&& 31)
def xw_ja (a_arrows : Nat → Int32) (x c e : Nat) : Nat → Int32 := ax_set a_arrows (x * 7 + c) e (fun p => a_arrows ((x + 1) * 7 + p) <<< (nI c &&& 31))
def xw_jt (a_takers : Nat → Int32) (x c : Nat) : Nat → Int32 := ax_set a_takers (x * 3) 3 (fun l => a_takers (x * 3 + l) ||| (a_takers ((x + 1) * 3 + l) <<< (nI c &&& 31)))
theorem xw_joinTops {x c e : Nat} {o : Int32} (hx8 : x < 7) (h6 : c + e ≤ 6) (hx : a_spotCounts x = nI c) (hy : a_spotCounts (x + 1) = nI e) {post : SX → Prop}
    (h0 : o = 0 → post ((nI (x + 2)), f_made, f_textLength, f_tokenCount, f_wrongPlace, f_ruleCount, f_prepared, f_rulesInUse, f_stateCount, f_wideCount, f_gradeFound, f_readHeight, f_tokensTaken, f_usedCount, (upd a_spotCounts x (nI (c + e))), (upd a_ends x (a_ends x ||| (xw_jE a_ends x c ||| xw_je a_ends x))), (xw_aa (xw_ja a_arrows x c e) x 64 (xw_jb a_arrows x c)), (xw_jt a_takers x c), a_groups, a_marks, a_text, a_tokenKinds, a_tokenLengths, a_lefts, a_rights, a_rightSizes, a_beginSets, a_followSets, a_nextItems, a_openItems, a_restItems, a_stateItems, a_stateSteps, a_stateLooks, a_wideSteps, a_wideLooks, a_readStates, a_readValues, a_usedRules))
    (h1 : ¬ o = 0 → post ((nI (x + 2)), f_made, f_textLength, f_tokenCount, f_wrongPlace, f_ruleCount, f_prepared, f_rulesInUse, f_stateCount, f_wideCount, f_gradeFound, f_readHeight, f_tokensTaken, f_usedCount, (upd a_spotCounts x (nI (c + e))), (upd a_ends x (if xw_je a_ends x = 0 then xw_jE a_ends x c else a_ends x ||| xw_jE a_ends x c)), (xw_aa (xw_ja a_arrows x c e) x (a_ends x) (xw_jb a_arrows x c)), (xw_jt a_takers x c), a_groups, a_marks, a_text, a_tokenKinds, a_tokenLengths, a_lefts, a_rights, a_rightSizes, a_beginSets, a_followSets, a_nextItems, a_openItems, a_restItems, a_stateItems, a_stateSteps, a_stateLooks, a_wideSteps, a_wideLooks, a_readStates, a_readValues, a_usedRules)) :
    wpX_joinTops post ((nI (x + 2)), f_made, f_textLength, f_tokenCount, f_wrongPlace, f_ruleCount, f_prepared, f_rulesInUse, f_stateCount, f_wideCount, f_gradeFound, f_readHeight, f_tokensTaken, f_usedCount, a_spotCounts, a_ends, a_arrows, a_takers, a_groups, a_marks, a_text, a_tokenKinds, a_tokenLengths, a_lefts, a_rights, a_rightSizes, a_beginSets, a_followSets, a_nextItems, a_openItems, a_restItems, a_stateItems, a_stateSteps, a_stateLooks, a_wideSteps, a_wideLooks, a_readStates, a_readValues, a_usedRules) o := by
  have cx : (nI x).toNatClampNeg = x := nI_clamp (by omega)
  have cy : (nI (x + 1)).toNatClampNeg = x + 1 := nI_clamp (by omega)
  have ix : vp_in (nI x) 11 := vp_in_nI (by omega) (by decide)
  have iy : vp_in (nI (x + 1)) 11 := vp_in_nI (by omega) (by decide)
  have e1 : nI (x + 2) - 2 = nI x := pk_sub (a := x + 2) (b := 2) (by omega)
  have e2 : nI (x + 2) - 1 = nI (x + 1) := pk_sub (a := x + 2) (b := 1) (by omega)
  have i6 : (nI (x + 1) * 7 + 6).toNatClampNeg = (x + 1) * 7 + 6 := pk_cl ((x + 1) * 7 + 6) (ix_7 (x + 1) 6)
  refine nm_r e1 (nm_r e2 ⟨ix, nm_r (by rw [cx, hx]) ⟨pk_in ((x + 1) * 7 + 6) 77 (by omega) (ix_7 (x + 1) 6), nm_r (e' := xw_jb a_arrows x c) (by rw [i6]; rfl) ⟨iy, nm_r (e' := xw_je a_ends x) (by rw [cy]; rfl) ⟨iy, nm_r (e' := xw_jE a_ends x c) (by rw [cy]; rfl) ?_⟩⟩⟩⟩)
  refine loop_0 (fun n i s => wX_joinTops_67 post o (nI x) (nI (x + 1)) (nI c) (xw_jb a_arrows x c) (xw_je a_ends x) (xw_jE a_ends x c) (nI (x + 2)) f_made f_textLength f_tokenCount f_wrongPlace f_ruleCount f_prepared f_rulesInUse f_stateCount f_wideCount f_gradeFound f_readHeight f_tokensTaken f_usedCount n (nI i) a_spotCounts a_ends s a_takers a_groups a_marks a_text a_tokenKinds a_tokenLengths a_lefts a_rights a_rightSizes a_beginSets a_followSets a_nextItems a_openItems a_restItems a_stateItems a_stateSteps a_stateLooks a_wideSteps a_wideLooks a_readStates a_readValues a_usedRules) (fun i s => s = xw_ja a_arrows x c i) e a_arrows (ax_0 _ _ _).symm ?_ ?_
  · intro n s hs
    subst hs
    refine ⟨iy, br_t ?_ ?_⟩
    · rw [cy, hy]; exact nI_le (Nat.le_refl _) (by omega)
    refine loop_0 (fun n i s => wX_joinTops_127 post o (nI x) (nI (x + 1)) (nI c) (xw_jb a_arrows x c) (xw_je a_ends x) (xw_jE a_ends x c) (nI (x + 2)) f_made f_textLength f_tokenCount f_wrongPlace f_ruleCount f_prepared f_rulesInUse f_stateCount f_wideCount f_gradeFound f_readHeight f_tokensTaken f_usedCount n (nI i) a_spotCounts a_ends (xw_ja a_arrows x c e) s a_groups a_marks a_text a_tokenKinds a_tokenLengths a_lefts a_rights a_rightSizes a_beginSets a_followSets a_nextItems a_openItems a_restItems a_stateItems a_stateSteps a_stateLooks a_wideSteps a_wideLooks a_readStates a_readValues a_usedRules) (fun i s => s = ax_set a_takers (x * 3) i (fun l => a_takers (x * 3 + l) ||| (a_takers ((x + 1) * 3 + l) <<< (nI c &&& 31)))) 3 a_takers (ax_0 _ _ _).symm ?_ ?_
    · intro n s hs
      subst hs
      refine br_t (nI_le (Nat.le_refl 3) (by decide)) (br_c (fun z => ?_) (fun z => ?_))
      · refine xw_addArrows (by omega) 64 (xw_jb a_arrows x c) ?_
        refine ⟨ix, ix, nm_r (by rw [cx]) ⟨ix, iy, ix, nm_r (by rw [cx, cy, hx, hy, nI_add]) (h0 z)⟩⟩
      · refine ⟨ix, ?_⟩
        rw [cx]
        refine xw_addArrows (by omega) (a_ends x) (xw_jb a_arrows x c) (br_c (fun y => ?_) (fun y => ?_))
        · refine ⟨ix, nm_r (by rw [cx]) ⟨ix, iy, ix, nm_r (by rw [cx, cy, hx, hy, nI_add]) ?_⟩⟩
          have := h1 z
          rw [if_pos y] at this
          exact this
        · refine ⟨ix, ix, nm_r (by rw [cx]) ⟨ix, iy, ix, nm_r (by rw [cx, cy, hx, hy, nI_add]) ?_⟩⟩
          have := h1 z
          rw [if_neg y] at this
          exact this
    · intro n i s hi hs hk
      subst hs
      refine br_f (nI_ge hi (by decide)) ⟨pk_in (x * 3 + i) 33 (by omega) (ix_3 x i), pk_in ((x + 1) * 3 + i) 33 (by omega) (ix_3 (x + 1) i), pk_in (x * 3 + i) 33 (by omega) (ix_3 x i), nm_r ?_ (nm_r (nI_1 i) (hk _ rfl))⟩
      rw [pk_cl (x * 3 + i) (ix_3 x i), pk_cl ((x + 1) * 3 + i) (ix_3 (x + 1) i), ax_out (j := x * 3 + i) (by omega), ax_out (j := (x + 1) * 3 + i) (by omega)]
      exact ax_s _ _ _ _
  · intro n i s hi hs hk
    subst hs
    have e3 : nI x * 7 + nI c + nI i = nI (x * 7 + c + i) := by rw [ix_7, nI_add]
    refine ⟨iy, br_f ?_ (br_f ?_ ⟨pk_in ((x + 1) * 7 + i) 77 (by omega) (ix_7 (x + 1) i), pk_in (x * 7 + c + i) 77 (by omega) e3, nm_r ?_ (nm_r (nI_1 i) (hk _ rfl))⟩)⟩
    · rw [cy, hy]; exact nI_ge hi (by omega)
    · rw [nI_add]; exact nI_ge (b := 6) (by omega) (by decide)
    · rw [pk_cl (x * 7 + c + i) e3, pk_cl ((x + 1) * 7 + i) (ix_7 (x + 1) i)]
      unfold xw_ja
      rw [ax_out (j := (x + 1) * 7 + i) (by omega)]
      exact ax_s _ _ _ _
/-- a slot holds a pattern -/
def xs_S (a_spotCounts a_ends a_arrows a_takers : Nat → Int32) (s : Nat) (x : gk_T) : Prop :=
  gk_wf x ∧ a_spotCounts s = nI (gk_c x) ∧ (∀ i, bt (a_ends s) i = true ↔ gk_en x i ∨ (i = 6 ∧ gk_nu x)) ∧
  (∀ a b, a < gk_c x → (bt (a_arrows (s * 7 + a)) b = true ↔ gk_ar x a b)) ∧ (∀ b, bt (a_arrows (s * 7 + 6)) b = true ↔ gk_bg x b) ∧
  ∀ l b, l < 3 → (bt (a_takers (s * 3 + l)) b = true ↔ gk_tk x b l)
theorem xs_frame {c e a t c' e' a' t' : Nat → Int32} {s s' : Nat} {x : gk_T} (h : xs_S c e a t s x) (h1 : c' s' = c s) (h2 : e' s' = e s) (h3 : ∀ i, i < 7 → a' (s' * 7 + i) = a (s * 7 + i)) (h4 : ∀ i, i < 3 → t' (s' * 3 + i) = t (s * 3 + i)) : xs_S c' e' a' t' s' x := by
  obtain ⟨g0, g1, g2, g3, g4, g5⟩ := h
  refine ⟨g0, by rw [h1]; exact g1, by rw [h2]; exact g2, fun i b hi => ?_, ?_, fun l b hl => ?_⟩
  · rw [h3 i (by have := g0.1; omega)]; exact g3 i b hi
  · rw [h3 6 (by omega)]; exact g4
  · rw [h4 l hl]; exact g5 l b hl
theorem xs_none {c e a t : Nat → Int32} {s : Nat} : xs_S (upd c s 0) (upd e s 0) (ax_set a (s * 7) 7 (fun _ => 0)) (ax_set t (s * 3) 3 (fun _ => 0)) s gk_none := by
  refine ⟨gk_wf_none, pk_us, fun i => ?_, fun i b hi => ?_, fun b => ?_, fun l b hl => ?_⟩
  · rw [pk_us, b_0]
    exact ⟨(fun z => by cases z), fun z => by rcases z with z | ⟨_, z⟩ <;> exact z.elim⟩
  · have hi : i < 0 := hi
    omega
  · rw [ax_in (by omega), b_0]
    exact ⟨(fun z => by cases z), fun z => z.elim⟩
  · rw [ax_in hl, b_0]
    exact ⟨(fun z => by cases z), fun z => z.elim⟩
theorem b_64 (i : Nat) : bt 64 i = decide (i = 6) := by
  rcases Nat.lt_or_ge i 32 with h | h
  · exact (by decide +kernel : ∀ i, i < 32 → bt 64 i = decide (i = 6)) i h
  · rw [b_big h, decide_eq_false (by omega)]
theorem xs_empty {c e a t : Nat → Int32} {s : Nat} : xs_S (upd c s 0) (upd (upd e s 0) s 64) (ax_set a (s * 7) 7 (fun _ => 0)) (ax_set t (s * 3) 3 (fun _ => 0)) s (gk_leaf 4) := by
  refine ⟨gk_wf_leaf 4, pk_us, fun i => ?_, fun i b hi => ?_, fun b => ?_, fun l b hl => ?_⟩
  · rw [pk_us, b_64, decide_eq_true_eq]
    exact ⟨fun z => Or.inr ⟨z, rfl⟩, fun z => by
      rcases z with ⟨z, _⟩ | ⟨z, _⟩
      · omega
      · exact z⟩
  · have hi : i < 0 := hi
    omega
  · rw [ax_in (by omega), b_0]
    exact ⟨(fun z => by cases z), fun z => by have := z.1; omega⟩
  · rw [ax_in hl, b_0]
    exact ⟨(fun z => by cases z), fun z => by have := z.1; omega⟩
theorem xs_leaf {c e a t : Nat → Int32} {s o : Nat} (ho : o < 4) : xs_S (upd (upd c s 0) s 1) (upd (upd e s 0) s 1) (upd (ax_set a (s * 7) 7 (fun _ => 0)) (s * 7 + 6) 1) (ax_set (ax_set t (s * 3) 3 (fun _ => 0)) (s * 3) 3 (fun l => if o = l ∨ o = 3 then 1 else 0)) s (gk_leaf o) := by
  have hc : gk_c (gk_leaf o) = 1 := if_pos ho
  refine ⟨gk_wf_leaf o, by rw [pk_us, hc]; rfl, fun i => ?_, fun i b hi => ?_, fun b => ?_, fun l b hl => ?_⟩
  · rw [pk_us, b_1b, decide_eq_true_eq]
    refine ⟨fun z => Or.inl ⟨ho, z⟩, fun z => ?_⟩
    rcases z with ⟨_, z⟩ | ⟨_, z⟩
    · exact z
    · have z : o = 4 := z
      omega
  · rw [hc] at hi
    rw [pk_un (by omega), ax_in (by omega), b_0]
    exact ⟨(fun z => by cases z), fun z => z.elim⟩
  · rw [pk_us, b_1b, decide_eq_true_eq]
    exact ⟨fun z => ⟨ho, z⟩, fun z => z.2⟩
  · rw [ax_in hl]
    by_cases h : o = l ∨ o = 3
    · rw [if_pos h, b_1b, decide_eq_true_eq]
      exact ⟨fun z => ⟨ho, z, h.symm⟩, fun z => z.2.1⟩
    · rw [if_neg h, b_0]
      exact ⟨(fun z => by cases z), fun z => absurd z.2.2.symm h⟩
