/-! the component's wide states -/
variable {f_depth f_made f_textLength f_tokenCount f_wrongPlace f_ruleCount f_prepared f_rulesInUse f_stateCount f_wideCount f_gradeFound f_readHeight f_tokensTaken f_usedCount : Int32} {a_spotCounts a_ends a_arrows a_takers a_groups a_marks a_text a_tokenKinds a_tokenLengths a_lefts a_rights a_rightSizes a_beginSets a_followSets a_stateSteps a_wideSteps a_readStates a_readValues a_usedRules : Nat → Int32} {a_nextItems a_openItems a_restItems a_stateItems a_stateLooks a_wideLooks : Nat → Int64}
theorem ax_self {α : Type} (a : Nat → α) (b n : Nat) : ax_set a b n (fun t => a (b + t)) = a := by
  funext j
  unfold ax_set
  by_cases h : b ≤ j ∧ j < b + n
  · rw [if_pos h]
    show a (b + (j - b)) = a j
    rw [show b + (j - b) = j by omega]
  · rw [if_neg h]
theorem ax_ax {α : Type} (a : Nat → α) (b n : Nat) (u v : Nat → α) : ax_set (ax_set a b n u) b n v = ax_set a b n v := by
  funext j
  unfold ax_set
  split
  · rfl
  · rfl
section
variable {g : rg_T}
noncomputable def wb_B (g : rg_T) (k : Nat) : (Nat → w4_T) × Nat := bf_at (tw_a0 g) (tw_to g) k
theorem wb_io (hg : rg_ok g) (k s : Nat) (hs : s < (wb_B g k).2) : tw_io g ((wb_B g k).1 s) := bf_gen (tw_io g) (tw_io0 hg) (fun _ _ _ _ h1 h2 => tw_io1 hg h1 h2) k s hs
/-- the array's wide state w -/
def xz_w (arr : Nat → Int64) (w : Nat) : w4_T := w4_mk fun t => arr (w * 4 + t)
def xz_k (g : rg_T) (k n : Nat) (arr : Nat → Int64) (steps : Nat → Int32) : Prop := (wb_B g k).2 = n ∧ (∀ i, i < n → xz_w arr i = (wb_B g k).1 i) ∧ ∀ j, j < k → j / 7 < n → xt_1 (tw_to g) (wb_B g k).1 n (steps j) (j / 7) (j % 7)
def xz_ok (g : rg_T) (cnt : Int32) (arr : Nat → Int64) (steps : Nat → Int32) : Prop := (cnt = -5 ∧ ∃ k, 80 < (wb_B g k).2) ∨ ∃ k n, xz_k g k n arr steps ∧ n ≤ 80 ∧ n * 7 ≤ k ∧ cnt = nI n
def xz_M (arr an : Nat → Int64) (w x t : Nat) : Int64 := (arr (w * 4 + t) &&& an x) <<< ((1 : Int32).toInt64 &&& 63)
theorem xw_moveWide {n w x : Nat} (hn : n ≤ 80) (hw : w < n) (hx : x < 7) {post : Int32 → SX → Prop}
    (h0 : (∀ t, t < 4 → xz_M a_wideLooks a_nextItems w x t = 0) → post 0 (f_depth, f_made, f_textLength, f_tokenCount, f_wrongPlace, f_ruleCount, f_prepared, f_rulesInUse, f_stateCount, (nI n), f_gradeFound, f_readHeight, f_tokensTaken, f_usedCount, a_spotCounts, a_ends, a_arrows, a_takers, a_groups, a_marks, a_text, a_tokenKinds, a_tokenLengths, a_lefts, a_rights, a_rightSizes, a_beginSets, a_followSets, a_nextItems, a_openItems, a_restItems, a_stateItems, a_stateSteps, a_stateLooks, a_wideSteps, (ax_set a_wideLooks (n * 4) 4 (xz_M a_wideLooks a_nextItems w x)), a_readStates, a_readValues, a_usedRules))
    (h1 : (∃ t k, t < 4 ∧ bl (xz_M a_wideLooks a_nextItems w x t) k = true) → post 1 (f_depth, f_made, f_textLength, f_tokenCount, f_wrongPlace, f_ruleCount, f_prepared, f_rulesInUse, f_stateCount, (nI n), f_gradeFound, f_readHeight, f_tokensTaken, f_usedCount, a_spotCounts, a_ends, a_arrows, a_takers, a_groups, a_marks, a_text, a_tokenKinds, a_tokenLengths, a_lefts, a_rights, a_rightSizes, a_beginSets, a_followSets, a_nextItems, a_openItems, a_restItems, a_stateItems, a_stateSteps, a_stateLooks, a_wideSteps, (ax_set a_wideLooks (n * 4) 4 (xz_M a_wideLooks a_nextItems w x)), a_readStates, a_readValues, a_usedRules)) :
    wpX_moveWide post (f_depth, f_made, f_textLength, f_tokenCount, f_wrongPlace, f_ruleCount, f_prepared, f_rulesInUse, f_stateCount, (nI n), f_gradeFound, f_readHeight, f_tokensTaken, f_usedCount, a_spotCounts, a_ends, a_arrows, a_takers, a_groups, a_marks, a_text, a_tokenKinds, a_tokenLengths, a_lefts, a_rights, a_rightSizes, a_beginSets, a_followSets, a_nextItems, a_openItems, a_restItems, a_stateItems, a_stateSteps, a_stateLooks, a_wideSteps, a_wideLooks, a_readStates, a_readValues, a_usedRules) (nI w) (nI x) := by
  have cx : (nI x).toNatClampNeg = x := nI_clamp (by omega)
  refine loop_0 (fun f t s => wX_moveWide_5 post (nI w) (nI x) f_depth f_made f_textLength f_tokenCount f_wrongPlace f_ruleCount f_prepared f_rulesInUse f_stateCount (nI n) f_gradeFound f_readHeight f_tokensTaken f_usedCount f s.1 (nI t) a_spotCounts a_ends a_arrows a_takers a_groups a_marks a_text a_tokenKinds a_tokenLengths a_lefts a_rights a_rightSizes a_beginSets a_followSets a_nextItems a_openItems a_restItems a_stateItems a_stateSteps a_stateLooks a_wideSteps s.2 a_readStates a_readValues a_usedRules) (fun t s => (∀ k, bl s.1 k = true ↔ ∃ t', t' < t ∧ bl (xz_M a_wideLooks a_nextItems w x t') k = true) ∧ s.2 = ax_set a_wideLooks (n * 4) t (xz_M a_wideLooks a_nextItems w x)) 4 ((0 : Int64), a_wideLooks) ⟨fun k => ?_, (ax_0 _ _ _).symm⟩ ?_ ?_
  · show bl 0 k = true ↔ _
    rw [bl_0]; exact ⟨(fun z => by cases z), fun ⟨t', z, _⟩ => absurd z (Nat.not_lt_zero _)⟩
  · rintro f ⟨A, s⟩ ⟨s1, s2⟩
    have s1 : ∀ k, bl A k = true ↔ ∃ t', t' < 4 ∧ bl (xz_M a_wideLooks a_nextItems w x t') k = true := s1
    have s2 : s = ax_set a_wideLooks (n * 4) 4 (xz_M a_wideLooks a_nextItems w x) := s2
    subst s2
    refine br_t (nI_le (Nat.le_refl 4) (by decide)) (br_c (fun z => h0 fun t ht => ?_) (fun z => h1 ?_))
    · rw [bl_zero]
      intro k _
      cases e : bl (xz_M a_wideLooks a_nextItems w x t) k
      · rfl
      · exact absurd ((s1 k).mpr ⟨t, ht, e⟩) (bl_no z k)
    · obtain ⟨k, hk⟩ := bl_ne z
      obtain ⟨t, t1, t2⟩ := (s1 k).mp hk
      exact ⟨t, k, t1, t2⟩
  · rintro f t ⟨A, s⟩ ht ⟨s1, s2⟩ hk
    have s1 : ∀ k, bl A k = true ↔ ∃ t', t' < t ∧ bl (xz_M a_wideLooks a_nextItems w x t') k = true := s1
    have s2 : s = ax_set a_wideLooks (n * 4) t (xz_M a_wideLooks a_nextItems w x) := s2
    subst s2
    refine br_f (nI_ge ht (by decide)) ⟨pk_in (w * 4 + t) 324 (by omega) (ix_4 w t), vp_in_nI (by omega) (by decide), nm_r (e' := xz_M a_wideLooks a_nextItems w x t) ?_ ⟨pk_in (n * 4 + t) 324 (by omega) (ix_4 n t), nm_r (e' := ax_set a_wideLooks (n * 4) (t + 1) (xz_M a_wideLooks a_nextItems w x)) ?_ (nm_e (nm_r (nI_1 t) (hk (_, _) ⟨fun k => ?_, rfl⟩)))⟩⟩
    · show (ax_set a_wideLooks (n * 4) t (xz_M a_wideLooks a_nextItems w x) (nI w * 4 + nI t).toNatClampNeg &&& a_nextItems (nI x).toNatClampNeg) <<< ((1 : Int32).toInt64 &&& 63) = _
      rw [pk_cl (w * 4 + t) (ix_4 w t), cx, ax_out (by omega)]; rfl
    · rw [pk_cl (n * 4 + t) (ix_4 n t)]; exact ax_sL _ _ _ _
    · show bl (A ||| xz_M a_wideLooks a_nextItems w x t) k = true ↔ _
      rw [bl_or, Bool.or_eq_true, s1 k]
      constructor
      · rintro (⟨t', z⟩ | z)
        · exact ⟨t', by omega, z.2⟩
        · exact ⟨t, by omega, z⟩
      · rintro ⟨t', z1, z2⟩
        by_cases e : t' = t
        · subst e; exact Or.inr z2
        · exact Or.inl ⟨t', by omega, z2⟩
theorem xw_wideStateMade {n : Nat} (hn : n ≤ 80) {post : Int32 → SX → Prop}
    (h1 : ∀ w, w < n → xz_w a_wideLooks w = xz_w a_wideLooks n → post (nI w) (f_depth, f_made, f_textLength, f_tokenCount, f_wrongPlace, f_ruleCount, f_prepared, f_rulesInUse, f_stateCount, (nI n), f_gradeFound, f_readHeight, f_tokensTaken, f_usedCount, a_spotCounts, a_ends, a_arrows, a_takers, a_groups, a_marks, a_text, a_tokenKinds, a_tokenLengths, a_lefts, a_rights, a_rightSizes, a_beginSets, a_followSets, a_nextItems, a_openItems, a_restItems, a_stateItems, a_stateSteps, a_stateLooks, a_wideSteps, a_wideLooks, a_readStates, a_readValues, a_usedRules))
    (h2 : (∀ w, w < n → xz_w a_wideLooks w ≠ xz_w a_wideLooks n) → n < 80 → post (nI n) (f_depth, f_made, f_textLength, f_tokenCount, f_wrongPlace, f_ruleCount, f_prepared, f_rulesInUse, f_stateCount, (nI (n + 1)), f_gradeFound, f_readHeight, f_tokensTaken, f_usedCount, a_spotCounts, a_ends, a_arrows, a_takers, a_groups, a_marks, a_text, a_tokenKinds, a_tokenLengths, a_lefts, a_rights, a_rightSizes, a_beginSets, a_followSets, a_nextItems, a_openItems, a_restItems, a_stateItems, a_stateSteps, a_stateLooks, a_wideSteps, a_wideLooks, a_readStates, a_readValues, a_usedRules))
    (h3 : (∀ w, w < n → xz_w a_wideLooks w ≠ xz_w a_wideLooks n) → n = 80 → post 80 (f_depth, f_made, f_textLength, f_tokenCount, f_wrongPlace, f_ruleCount, f_prepared, f_rulesInUse, f_stateCount, (nI n), f_gradeFound, f_readHeight, f_tokensTaken, f_usedCount, a_spotCounts, a_ends, a_arrows, a_takers, a_groups, a_marks, a_text, a_tokenKinds, a_tokenLengths, a_lefts, a_rights, a_rightSizes, a_beginSets, a_followSets, a_nextItems, a_openItems, a_restItems, a_stateItems, a_stateSteps, a_stateLooks, a_wideSteps, a_wideLooks, a_readStates, a_readValues, a_usedRules)) : wpX_wideStateMade post (f_depth, f_made, f_textLength, f_tokenCount, f_wrongPlace, f_ruleCount, f_prepared, f_rulesInUse, f_stateCount, (nI n), f_gradeFound, f_readHeight, f_tokensTaken, f_usedCount, a_spotCounts, a_ends, a_arrows, a_takers, a_groups, a_marks, a_text, a_tokenKinds, a_tokenLengths, a_lefts, a_rights, a_rightSizes, a_beginSets, a_followSets, a_nextItems, a_openItems, a_restItems, a_stateItems, a_stateSteps, a_stateLooks, a_wideSteps, a_wideLooks, a_readStates, a_readValues, a_usedRules) := by
  refine loop_0 (fun f i (_ : Unit) => wX_wideStateMade_2 post f_depth f_made f_textLength f_tokenCount f_wrongPlace f_ruleCount f_prepared f_rulesInUse f_stateCount (nI n) f_gradeFound f_readHeight f_tokensTaken f_usedCount a_spotCounts a_ends a_arrows a_takers a_groups a_marks a_text a_tokenKinds a_tokenLengths a_lefts a_rights a_rightSizes a_beginSets a_followSets a_nextItems a_openItems a_restItems a_stateItems a_stateSteps a_stateLooks a_wideSteps a_wideLooks a_readStates a_readValues a_usedRules f (nI i)) (fun i _ => ∀ w, w < i → xz_w a_wideLooks w ≠ xz_w a_wideLooks n) n () (fun s hs => absurd hs (Nat.not_lt_zero s)) ?_ ?_
  · intro f _ hs
    refine br_t (nI_le (Nat.le_refl _) (by omega)) (pk_lt n 80 (fun z => nm_r (nI_1 n) ?_) (fun z => h3 hs (by omega)))
    rw [show nI (n + 1) - 1 = nI n from nI_pred n]
    exact h2 hs z
  · intro f i _ hi hs hk
    refine br_f (nI_ge hi (by omega)) ?_
    refine loop_0 (fun f' t (_ : Unit) => wX_wideStateMade_12 post (wX_wideStateMade_2 post f_depth f_made f_textLength f_tokenCount f_wrongPlace f_ruleCount f_prepared f_rulesInUse f_stateCount (nI n) f_gradeFound f_readHeight f_tokensTaken f_usedCount a_spotCounts a_ends a_arrows a_takers a_groups a_marks a_text a_tokenKinds a_tokenLengths a_lefts a_rights a_rightSizes a_beginSets a_followSets a_nextItems a_openItems a_restItems a_stateItems a_stateSteps a_stateLooks a_wideSteps a_wideLooks a_readStates a_readValues a_usedRules f) (nI i) f_depth f_made f_textLength f_tokenCount f_wrongPlace f_ruleCount f_prepared f_rulesInUse f_stateCount (nI n) f_gradeFound f_readHeight f_tokensTaken f_usedCount a_spotCounts a_ends a_arrows a_takers a_groups a_marks a_text a_tokenKinds a_tokenLengths a_lefts a_rights a_rightSizes a_beginSets a_followSets a_nextItems a_openItems a_restItems a_stateItems a_stateSteps a_stateLooks a_wideSteps a_wideLooks a_readStates a_readValues a_usedRules f' (nI t)) (fun t _ => ∀ t', t' < t → a_wideLooks (i * 4 + t') = a_wideLooks (n * 4 + t')) 4 () (fun s hs => absurd hs (Nat.not_lt_zero s)) ?_ ?_
    · intro f' _ ht
      refine br_t (nI_le (Nat.le_refl 4) (by decide)) (br_t rfl (h1 i hi (w4_ext fun t h4 => ?_)))
      unfold xz_w
      rw [w4_tm h4, w4_tm h4]
      exact ht t h4
    · intro f' t _ ht hs2 hk2
      refine br_f (nI_ge ht (by decide)) ⟨pk_in (i * 4 + t) 324 (by omega) (ix_4 i t), pk_in (n * 4 + t) 324 (by omega) (ix_4 n t), ?_⟩
      rw [pk_cl (i * 4 + t) (ix_4 i t), pk_cl (n * 4 + t) (ix_4 n t)]
      refine br_c (fun z => nm_r (nI_1 t) (hk2 () fun t' h' => ?_)) (fun z => br_f (fun w => ?_) (nm_r (nI_1 i) (hk () fun w hw e => ?_)))
      · by_cases e : t' = t
        · subst e; exact z
        · exact hs2 t' (by omega)
      · have := (nI_eq (a := t) (b := 4) (by omega) (by decide)).mp w; omega
      · by_cases q : w = i
        · subst q
          have e1 : w4_t (xz_w a_wideLooks w) t = w4_t (xz_w a_wideLooks n) t := by rw [e]
          unfold xz_w at e1
          rw [w4_tm ht, w4_tm ht] at e1
          exact z e1
        · exact hs w (by omega) e
theorem xz_keep {k n : Nat} {arr arr' : Nat → Int64} {steps : Nat → Int32} (h : xz_k g k n arr steps) (e : wb_B g (k + 1) = wb_B g k) (ha : ∀ i, i < n → xz_w arr' i = xz_w arr i) {x : Int32} (hx : k / 7 < n → xt_1 (tw_to g) (wb_B g k).1 n x (k / 7) (k % 7)) : xz_k g (k + 1) n arr' (upd steps k x) := by
  obtain ⟨a, b, c⟩ := h
  unfold xz_k
  rw [e]
  refine ⟨a, fun i hi => by rw [ha i hi]; exact b i hi, fun j hj hl => ?_⟩
  by_cases z : j = k
  · subst z; rw [pk_us]; exact hx hl
  · rw [pk_un z]; exact c j (by omega) hl
theorem xz_out {arr L : Nat → Int64} {n i : Nat} (hi : i < n) : xz_w (ax_set arr (n * 4) 4 L) i = xz_w arr i := by
  refine w4_ext fun t ht => ?_
  unfold xz_w
  rw [w4_tm ht, w4_tm ht, ax_out (by omega)]
theorem xz_in {arr L : Nat → Int64} {n : Nat} : xz_w (ax_set arr (n * 4) 4 L) n = w4_mk L := by
  refine w4_ext fun t ht => ?_
  unfold xz_w
  rw [w4_tm ht, w4_tm ht, ax_in ht]
theorem xw_findWideStates (hg : rg_ok g) (hI : xi_I g 10 a_nextItems a_openItems a_restItems) {post : SX → Prop} (h : ∀ cnt arr steps, xz_ok g cnt arr steps → post (f_depth, f_made, f_textLength, f_tokenCount, f_wrongPlace, f_ruleCount, f_prepared, f_rulesInUse, f_stateCount, cnt, f_gradeFound, f_readHeight, f_tokensTaken, f_usedCount, a_spotCounts, a_ends, a_arrows, a_takers, a_groups, a_marks, a_text, a_tokenKinds, a_tokenLengths, a_lefts, a_rights, a_rightSizes, a_beginSets, a_followSets, a_nextItems, a_openItems, a_restItems, a_stateItems, a_stateSteps, a_stateLooks, steps, arr, a_readStates, a_readValues, a_usedRules)) : wpX_findWideStates post (f_depth, f_made, f_textLength, f_tokenCount, f_wrongPlace, f_ruleCount, f_prepared, f_rulesInUse, f_stateCount, f_wideCount, f_gradeFound, f_readHeight, f_tokensTaken, f_usedCount, a_spotCounts, a_ends, a_arrows, a_takers, a_groups, a_marks, a_text, a_tokenKinds, a_tokenLengths, a_lefts, a_rights, a_rightSizes, a_beginSets, a_followSets, a_nextItems, a_openItems, a_restItems, a_stateItems, a_stateSteps, a_stateLooks, a_wideSteps, a_wideLooks, a_readStates, a_readValues, a_usedRules) := by
  have key : ∀ d s, s + d = 80 → ∀ n arr steps, s ≤ n → n ≤ 80 → xz_k g (s * 7) n arr steps → wX_findWideStates_47 post (d + 1) (nI s) f_depth f_made f_textLength f_tokenCount f_wrongPlace f_ruleCount f_prepared f_rulesInUse f_stateCount (nI n) f_gradeFound f_readHeight f_tokensTaken f_usedCount a_spotCounts a_ends a_arrows a_takers a_groups a_marks a_text a_tokenKinds a_tokenLengths a_lefts a_rights a_rightSizes a_beginSets a_followSets a_nextItems a_openItems a_restItems a_stateItems a_stateSteps a_stateLooks steps arr a_readStates a_readValues a_usedRules := by
    intro d
    induction d with
    | zero =>
      intro s hs n arr steps h1 h2 h3
      exact br_t (nI_le (by omega) (by omega)) (h _ _ _ (Or.inr ⟨s * 7, n, h3, h2, by omega, rfl⟩))
    | succ d ih =>
      intro s hs n arr steps h1 h2 h3
      refine pk_le n s (fun z => h _ _ _ (Or.inr ⟨s * 7, n, h3, h2, by omega, rfl⟩)) (fun z => br_f (nI_ge (b := 80) (by omega) (by decide)) ?_)
      refine loop_0 (fun f x σ => wX_findWideStates_63 post (wX_findWideStates_47 post (d + 1)) (nI s) f (nI x) f_depth f_made f_textLength f_tokenCount f_wrongPlace f_ruleCount f_prepared f_rulesInUse f_stateCount (nI σ.1) f_gradeFound f_readHeight f_tokensTaken f_usedCount a_spotCounts a_ends a_arrows a_takers a_groups a_marks a_text a_tokenKinds a_tokenLengths a_lefts a_rights a_rightSizes a_beginSets a_followSets a_nextItems a_openItems a_restItems a_stateItems a_stateSteps a_stateLooks σ.2.2 σ.2.1 a_readStates a_readValues a_usedRules) (fun x σ => s < σ.1 ∧ σ.1 ≤ 80 ∧ xz_k g (s * 7 + x) σ.1 σ.2.1 σ.2.2) 7 (n, arr, steps) ⟨z, h2, h3⟩ ?_ ?_
      · rintro f ⟨n, arr, steps⟩ ⟨a1, a2, a3⟩
        refine br_t (nI_le (Nat.le_refl 7) (by decide)) (nm_r (nI_1 s) (ih (s + 1) (by omega) n arr steps a1 a2 ?_))
        rw [Nat.succ_mul]; exact a3
      · rintro f x ⟨n, arr, steps⟩ hx ⟨a1, a2, a3⟩ hk
        have a1 : s < n := a1
        have a2 : n ≤ 80 := a2
        have a3 : xz_k g (s * 7 + x) n arr steps := a3
        have q1 : (s * 7 + x) / 7 = s := by omega
        have q2 : (s * 7 + x) % 7 = x := by omega
        have hn := a3.1
        have his := a3.2.1 s a1
        have hio : tw_io g ((wb_B g (s * 7 + x)).1 s) := wb_io hg _ s (by omega)
        have eB : wb_B g (s * 7 + x + 1) = bf_st (tw_to g) (s * 7 + x) (wb_B g (s * 7 + x)) := rfl
        have hat : ∀ t, t < 4 → arr (s * 4 + t) = w4_t ((wb_B g (s * 7 + x)).1 s) t := by
          intro t ht
          rw [← his]
          unfold xz_w
          rw [w4_tm ht]
        have mv : ∀ t k, t < 4 → (bl (xz_M arr a_nextItems s x t) k = true ↔ tw_mv g ((wb_B g (s * 7 + x)).1 s) x t k) := by
          intro t k ht
          have ioS : tb_io g (arr (s * 4 + t)) := fun i hi => (hio t i ht (by rw [← hat t ht]; exact hi)).1
          unfold xz_M
          rw [xm_mv hI hg ioS hx k, hat t ht]
          exact ⟨fun z => ⟨ht, z⟩, fun z => z.2⟩
        have st : ∀ (n' : Nat) (arr' : Nat → Int64) (e : Int32), s < n' → n' ≤ 80 → xz_k g (s * 7 + x + 1) n' arr' (upd steps (s * 7 + x) e) → wX_findWideStates_112 post (wX_findWideStates_47 post (d + 1)) (wX_findWideStates_63 post (wX_findWideStates_47 post (d + 1)) (nI s) f) (nI s) (nI x) e f_depth f_made f_textLength f_tokenCount f_wrongPlace f_ruleCount f_prepared f_rulesInUse f_stateCount (nI n') f_gradeFound f_readHeight f_tokensTaken f_usedCount a_spotCounts a_ends a_arrows a_takers a_groups a_marks a_text a_tokenKinds a_tokenLengths a_lefts a_rights a_rightSizes a_beginSets a_followSets a_nextItems a_openItems a_restItems a_stateItems a_stateSteps a_stateLooks steps arr' a_readStates a_readValues a_usedRules := by
          intro n' arr' e b1 b2 b3
          exact ⟨pk_in (s * 7 + x) 560 (by omega) (ix_7 s x), nm_r (by rw [pk_cl (s * 7 + x) (ix_7 s x)]) (nm_r (nI_1 x) (hk (n', arr', upd steps (s * 7 + x) e) ⟨b1, b2, b3⟩))⟩
        refine br_f (nI_ge hx (by decide)) (xw_moveWide (a_wideLooks := arr) a2 a1 hx (fun y => ?_) (fun y => ?_))
        · have no : tw_to g ((wb_B g (s * 7 + x)).1 s) x = none := if_neg fun ⟨t, k, hk⟩ => bl_no (y t hk.1) k ((mv t k hk.1).mpr hk)
          refine br_t rfl (st n _ (-1) a1 a2 (xz_keep a3 (eB.trans (bf_none (by rw [q1, q2]; exact no))) (fun i hi => xz_out hi) fun _ => ?_))
          rw [q1, q2]
          exact Or.inl ⟨no, rfl⟩
        · obtain ⟨t0, k0, y1, y2⟩ := y
          have ioM : xo_io g (xz_M arr a_nextItems s x) := fun t k ht hk => tw_mv_ok hg hio ((mv t k ht).mp hk)
          have eM : xo_S (xz_M arr a_nextItems s x) = tw_mv g ((wb_B g (s * 7 + x)).1 s) x := by
            funext t k
            refine propext ⟨fun z => (mv t k z.1).mp z.2, fun z => ⟨z.1, (mv t k z.1).mpr z⟩⟩
          have sm : tw_to g ((wb_B g (s * 7 + x)).1 s) x = some (w4_mk fun t => mk_l (cw_0 g (tw_mv g ((wb_B g (s * 7 + x)).1 s) x) t)) := tw_ex ((mv t0 k0 y1).mp y2)
          refine br_f (by decide) ?_
          rw [show nI n * 4 = nI (n * 4) from pk_mul n 4]
          refine xw_closeLooks_wideLooks hg hI (by omega) ioM ?_
          rw [eM]
          have eC : xz_w (ax_set arr (n * 4) 4 (fun t => mk_l (cw_0 g (tw_mv g ((wb_B g (s * 7 + x)).1 s) x) t))) n = w4_mk fun t => mk_l (cw_0 g (tw_mv g ((wb_B g (s * 7 + x)).1 s) x) t) := xz_in
          refine xw_wideStateMade (a_wideLooks := ax_set arr (n * 4) 4 (fun t => mk_l (cw_0 g (tw_mv g ((wb_B g (s * 7 + x)).1 s) x) t))) a2 (fun s' hs' e' => ?_) (fun hno hlt => ?_) (fun hno h80 => ?_)
          · rw [eC, xz_out hs', a3.2.1 s' hs'] at e'
            refine br_f (fun w => ?_) (st n _ (nI s') a1 a2 (xz_keep a3 (eB.trans (bf_old (by rw [q1, q2]; exact sm) ⟨s', by omega, e'⟩)) (fun i hi => xz_out hi) fun _ => ?_))
            · have := (nI_eq (a := s') (b := 80) (by omega) (by decide)).mp w; omega
            · rw [q1, q2]
              refine Or.inr ⟨s', hs', ?_, rfl⟩
              rw [e']; exact sm
          · have new : ¬ ∃ s', s' < (wb_B g (s * 7 + x)).2 ∧ (wb_B g (s * 7 + x)).1 s' = w4_mk fun t => mk_l (cw_0 g (tw_mv g ((wb_B g (s * 7 + x)).1 s) x) t) := by
              rintro ⟨s', z1, z2⟩
              exact hno s' (by omega) (by rw [eC, xz_out (by omega), a3.2.1 s' (by omega)]; exact z2)
            have eN := eB.trans (bf_new (by rw [q1]; omega) (by rw [q1, q2]; exact sm) new)
            refine br_f (fun w => ?_) (st (n + 1) _ (nI n) (by omega) (by omega) ?_)
            · have := (nI_eq (a := n) (b := 80) (by omega) (by decide)).mp w; omega
            · unfold xz_k
              rw [eN, hn]
              refine ⟨rfl, fun i hi => ?_, fun j hj hl => ?_⟩
              · show _ = if i = n then _ else _
                by_cases w : i = n
                · subst w; rw [if_pos rfl]; exact eC
                · rw [if_neg w, xz_out (by omega)]; exact a3.2.1 i (by omega)
              · by_cases w : j = s * 7 + x
                · subst w
                  rw [pk_us, q1, q2]
                  refine Or.inr ⟨n, by omega, ?_, rfl⟩
                  show tw_to g (if s = n then _ else (wb_B g (s * 7 + x)).1 s) x = some (if n = n then _ else _)
                  rw [if_neg (by omega), if_pos rfl]
                  exact sm
                · rw [pk_un w]
                  have hj7 : j / 7 < n := by omega
                  have := a3.2.2 j (by omega) hj7
                  have ej : (if j / 7 = n then (w4_mk fun t => mk_l (cw_0 g (tw_mv g ((wb_B g (s * 7 + x)).1 s) x) t)) else (wb_B g (s * 7 + x)).1 (j / 7)) = (wb_B g (s * 7 + x)).1 (j / 7) := if_neg (by omega)
                  rcases this with ⟨w1, w2⟩ | ⟨s', w1, w2, w3⟩
                  · refine Or.inl ⟨?_, w2⟩
                    show tw_to g (if j / 7 = n then _ else (wb_B g (s * 7 + x)).1 (j / 7)) (j % 7) = none
                    rw [ej]; exact w1
                  · refine Or.inr ⟨s', by omega, ?_, w3⟩
                    show tw_to g (if j / 7 = n then _ else (wb_B g (s * 7 + x)).1 (j / 7)) (j % 7) = some (if s' = n then _ else (wb_B g (s * 7 + x)).1 s')
                    rw [ej, if_neg (by omega)]; exact w2
          · have new : ¬ ∃ s', s' < (wb_B g (s * 7 + x)).2 ∧ (wb_B g (s * 7 + x)).1 s' = w4_mk fun t => mk_l (cw_0 g (tw_mv g ((wb_B g (s * 7 + x)).1 s) x) t) := by
              rintro ⟨s', z1, z2⟩
              exact hno s' (by omega) (by rw [eC, xz_out (by omega), a3.2.1 s' (by omega)]; exact z2)
            have eN := eB.trans (bf_new (by rw [q1]; omega) (by rw [q1, q2]; exact sm) new)
            refine br_t rfl (h _ _ _ (Or.inl ⟨rfl, s * 7 + x + 1, ?_⟩))
            rw [eN]
            show 80 < (wb_B g (s * 7 + x)).2 + 1
            omega
  refine loop_0 (fun f t s => wX_findWideStates_2 post f_depth f_made f_textLength f_tokenCount f_wrongPlace f_ruleCount f_prepared f_rulesInUse f_stateCount f_wideCount f_gradeFound f_readHeight f_tokensTaken f_usedCount f (nI t) a_spotCounts a_ends a_arrows a_takers a_groups a_marks a_text a_tokenKinds a_tokenLengths a_lefts a_rights a_rightSizes a_beginSets a_followSets a_nextItems a_openItems a_restItems a_stateItems a_stateSteps a_stateLooks a_wideSteps s a_readStates a_readValues a_usedRules) (fun t s => ∀ t', t' < t → ∀ k, bl (s t') k = true ↔ t' = 3 ∧ k = 45) 4 a_wideLooks (fun t' z => absurd z (Nat.not_lt_zero _)) ?_ ?_
  · intro f s hs
    refine br_t (nI_le (Nat.le_refl 4) (by decide)) ?_
    have e0 : ax_set s 0 4 (fun t => s (0 + t)) = s := ax_self s 0 4
    have eS : xo_S (fun t => s (0 + t)) = fun t k => t = 3 ∧ k = 45 := by
      funext t k
      refine propext ⟨fun z => ?_, fun z => ⟨by omega, ?_⟩⟩
      · have : bl (s (0 + t)) k = true := z.2
        rw [Nat.zero_add] at this
        exact (hs t z.1 k).mp this
      · show bl (s (0 + t)) k = true
        rw [Nat.zero_add]; exact (hs t (by omega) k).mpr z
    have io0 : xo_io g (fun t => s (0 + t)) := fun t k ht hk => tw_45 t k (by
      have hk : bl (s (0 + t)) k = true := hk
      rw [Nat.zero_add] at hk
      exact (hs t ht k).mp hk)
    have := xw_closeLooks_wideLooks (f_depth := f_depth) (f_made := f_made) (f_textLength := f_textLength) (f_tokenCount := f_tokenCount) (f_wrongPlace := f_wrongPlace) (f_ruleCount := f_ruleCount) (f_prepared := f_prepared) (f_rulesInUse := f_rulesInUse) (f_stateCount := f_stateCount) (f_wideCount := f_wideCount) (f_gradeFound := f_gradeFound) (f_readHeight := f_readHeight) (f_tokensTaken := f_tokensTaken) (f_usedCount := f_usedCount) (a_spotCounts := a_spotCounts) (a_ends := a_ends) (a_arrows := a_arrows) (a_takers := a_takers) (a_groups := a_groups) (a_marks := a_marks) (a_text := a_text) (a_tokenKinds := a_tokenKinds) (a_tokenLengths := a_tokenLengths) (a_lefts := a_lefts) (a_rights := a_rights) (a_rightSizes := a_rightSizes) (a_beginSets := a_beginSets) (a_followSets := a_followSets) (a_stateItems := a_stateItems) (a_stateSteps := a_stateSteps) (a_stateLooks := a_stateLooks) (a_wideSteps := a_wideSteps) (a_wideLooks := s) (a_readStates := a_readStates) (a_readValues := a_readValues) (a_usedRules := a_usedRules) hg hI (b := 0) (by omega) io0 (post := fun u => match u with | (f_depth, f_made, f_textLength, f_tokenCount, f_wrongPlace, f_ruleCount, f_prepared, f_rulesInUse, f_stateCount, f_wideCount, f_gradeFound, f_readHeight, f_tokensTaken, f_usedCount, a_spotCounts, a_ends, a_arrows, a_takers, a_groups, a_marks, a_text, a_tokenKinds, a_tokenLengths, a_lefts, a_rights, a_rightSizes, a_beginSets, a_followSets, a_nextItems, a_openItems, a_restItems, a_stateItems, a_stateSteps, a_stateLooks, a_wideSteps, a_wideLooks, a_readStates, a_readValues, a_usedRules) => ∃ n47 : Nat, wX_findWideStates_47 post n47 0 f_depth f_made f_textLength f_tokenCount f_wrongPlace f_ruleCount f_prepared f_rulesInUse f_stateCount 1 f_gradeFound f_readHeight f_tokensTaken f_usedCount a_spotCounts a_ends a_arrows a_takers a_groups a_marks a_text a_tokenKinds a_tokenLengths a_lefts a_rights a_rightSizes a_beginSets a_followSets a_nextItems a_openItems a_restItems a_stateItems a_stateSteps a_stateLooks a_wideSteps a_wideLooks a_readStates a_readValues a_usedRules) ?_
    · rw [e0] at this
      exact this
    · refine ⟨81, key 80 0 rfl 1 _ a_wideSteps (by omega) (by omega) ⟨rfl, fun i hi => ?_, fun j hj => by omega⟩⟩
      have hi : i = 0 := by omega
      subst hi
      rw [eS]
      exact xz_in (n := 0)
  · intro f t s ht hs hk
    have ct : (nI t).toNatClampNeg = t := nI_clamp (by omega)
    refine br_f (nI_ge ht (by decide)) (pk_eq t 3 (fun z => ?_) (fun z => ?_))
    · refine ⟨vp_in_nI (by omega) (by decide), nm_r (by rw [ct]) (nm_r (nI_1 t) (hk _ fun t' ht' k => ?_))⟩
      by_cases e : t' = t
      · subst e; rw [pk_uLs, bl_45, decide_eq_true_eq]; exact ⟨fun y => ⟨z, y⟩, fun y => y.2⟩
      · rw [pk_uLn e]; exact hs t' (by omega) k
    · refine ⟨vp_in_nI (by omega) (by decide), nm_r (by rw [ct]) (nm_r (nI_1 t) (hk _ fun t' ht' k => ?_))⟩
      by_cases e : t' = t
      · subst e; rw [pk_uLs, bl_0]; exact ⟨(fun y => by cases y), fun y => absurd y.1 z⟩
      · rw [pk_uLn e]; exact hs t' (by omega) k
end
