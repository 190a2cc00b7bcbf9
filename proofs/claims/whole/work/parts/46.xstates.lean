/-! the component's closures and states -/
variable {f_depth f_made f_textLength f_tokenCount f_wrongPlace f_ruleCount f_prepared f_rulesInUse f_stateCount f_wideCount f_gradeFound f_readHeight f_tokensTaken f_usedCount : Int32} {a_spotCounts a_ends a_arrows a_takers a_groups a_marks a_text a_tokenKinds a_tokenLengths a_lefts a_rights a_rightSizes a_beginSets a_followSets a_stateSteps a_wideSteps a_readStates a_readValues a_usedRules : Nat → Int32} {a_nextItems a_openItems a_restItems a_stateItems a_stateLooks a_wideLooks : Nat → Int64}
theorem bl_sh1 (x : Int64) {i : Nat} (hi : i < 64) : bl (x <<< ((1 : Int32).toInt64 &&& 63)) i = (decide (1 ≤ i) && bl x (i - 1)) := bl_shl 1 (by omega) x hi
theorem bl_45 (i : Nat) : bl 35184372088832 i = decide (i = 45) := by
  rcases Nat.lt_or_ge i 64 with h | h
  · exact (by decide +kernel : ∀ i, i < 64 → bl 35184372088832 i = decide (i = 45)) i h
  · rw [bl_big h, decide_eq_false (by omega)]
theorem bl_ne {x : Int64} (h : ¬ x = 0) : ∃ i, bl x i = true := by
  refine Classical.byContradiction fun z => h (bl_zero.mpr fun i _ => ?_)
  cases e : bl x i
  · rfl
  · exact absurd ⟨i, e⟩ z
theorem bl_no {x : Int64} (h : x = 0) (i : Nat) : ¬ bl x i = true := by
  rw [h, bl_0]; intro z; cases z
section
variable {g : rg_T}
theorem xu_10 (hg : rg_ok g) {r : Nat} (h : xu_U g r) : r < 10 := by
  rcases h with h | h
  · have := h.1; have := hg.1; omega
  · omega
noncomputable def xc_c (ao : Nat → Int64) (S : Int64) : Nat := cn_c (fun x => ∀ k, bl (ao (x + 3)) k = true → bl S k = true) 4
def xc_s (an ao : Nat → Int64) (x : Nat) (S : Int64) : Prop := (∃ k, bl S k = true ∧ bl (an (x + 3)) k = true) → ∀ k, bl (ao (x + 3)) k = true → bl S k = true
theorem xw_closureOf (hg : rg_ok g) (hI : xi_I g 10 a_nextItems a_openItems a_restItems) {S : Int64} (hS : tb_io g S) {post : Int64 → Prop} (h : post (mk_l (cl_0 g (fun i => bl S i = true)))) : wpX_closureOf post (f_depth, f_made, f_textLength, f_tokenCount, f_wrongPlace, f_ruleCount, f_prepared, f_rulesInUse, f_stateCount, f_wideCount, f_gradeFound, f_readHeight, f_tokensTaken, f_usedCount, a_spotCounts, a_ends, a_arrows, a_takers, a_groups, a_marks, a_text, a_tokenKinds, a_tokenLengths, a_lefts, a_rights, a_rightSizes, a_beginSets, a_followSets, a_nextItems, a_openItems, a_restItems, a_stateItems, a_stateSteps, a_stateLooks, a_wideSteps, a_wideLooks, a_readStates, a_readValues, a_usedRules) S := by
  obtain ⟨i1, i2, i3, i4⟩ := hI
  have snd : ∀ T : Int64, (∀ k, bl T k = true → cl_0 g (fun i => bl S i = true) k) → ∀ v, 3 ≤ v → v < 7 → (∃ k, bl T k = true ∧ bl (a_nextItems v) k = true) → ∀ k, bl (a_openItems v) k = true → cl_0 g (fun i => bl S i = true) k := by
    intro T hT v v3 v7 ⟨k, k1, k2⟩ j hj
    obtain ⟨r, r1, r2, r3, rfl⟩ := (i3 v j v7).mp hj
    have k3 := ((i1 v k v7).mp k2).2
    rw [← r3] at k3
    exact cl_self g _ k r (hT k k1) r1 k3
  refine loop_0 (fun f q s => wX_closureOf_5 post f_depth f_made f_textLength f_tokenCount f_wrongPlace f_ruleCount f_prepared f_rulesInUse f_stateCount f_wideCount f_gradeFound f_readHeight f_tokensTaken f_usedCount a_spotCounts a_ends a_arrows a_takers a_groups a_marks a_text a_tokenKinds a_tokenLengths a_lefts a_rights a_rightSizes a_beginSets a_followSets a_nextItems a_openItems a_restItems a_stateItems a_stateSteps a_stateLooks a_wideSteps a_wideLooks a_readStates a_readValues a_usedRules f s (nI q)) (fun q T => (∀ k, bl S k = true → bl T k = true) ∧ (∀ k, bl T k = true → cl_0 g (fun i => bl S i = true) k) ∧ rd_J 4 (xc_s a_nextItems a_openItems) (xc_c a_openItems) (q * 4) T) 4 S ⟨fun _ z => z, fun _ z => cl_sub z, rd_i⟩ ?_ ?_
  · rintro f T ⟨s1, s2, s3⟩
    have cl := rd_end s3 (cn_le _ 4) (by omega) (fun e x hx _ => cn_full e x hx)
    have e : T = mk_l (cl_0 g (fun i => bl S i = true)) := by
      apply bl_ext
      intro i _
      have h1 := tb_mk hg (S := fun i => bl S i = true) hS i
      have h2 : bl T i = true ↔ cl_0 g (fun i => bl S i = true) i := by
        refine ⟨s2 i, fun z => z (fun i => bl T i = true) s1 fun k r hk hU hn => ?_⟩
        have l := hg.2.1 r hU.1
        have io := cl_ok hS (s2 k hk)
        have c := cl (rg_l g r - 3) (by omega)
        unfold xc_s at c
        rw [show rg_l g r - 3 + 3 = rg_l g r by omega] at c
        refine c ⟨k, hk, (i1 _ k l.2.1).mpr ⟨⟨io.1, xu_10 hg io.1⟩, hn⟩⟩ _ ((i3 _ _ l.2.1).mpr ⟨r, hU, by have := hU.1; have := hg.1; omega, rfl, rfl⟩)
      rw [← h1] at h2
      cases c1 : bl T i <;> cases c2 : bl (mk_l (cl_0 g (fun i => bl S i = true))) i
      · rfl
      · rw [c1, c2] at h2; exact absurd (h2.mpr rfl) (by decide)
      · rw [c1, c2] at h2; exact absurd (h2.mp rfl) (by decide)
      · rfl
    rw [← e] at h
    exact br_t (nI_le (Nat.le_refl 4) (by decide)) h
  · rintro f q T hq ⟨s1, s2, s3⟩ hk
    refine br_f (nI_ge hq (by decide)) ?_
    refine loop_0 (fun f' x T => wX_closureOf_14 post (wX_closureOf_5 post f_depth f_made f_textLength f_tokenCount f_wrongPlace f_ruleCount f_prepared f_rulesInUse f_stateCount f_wideCount f_gradeFound f_readHeight f_tokensTaken f_usedCount a_spotCounts a_ends a_arrows a_takers a_groups a_marks a_text a_tokenKinds a_tokenLengths a_lefts a_rights a_rightSizes a_beginSets a_followSets a_nextItems a_openItems a_restItems a_stateItems a_stateSteps a_stateLooks a_wideSteps a_wideLooks a_readStates a_readValues a_usedRules f) (nI q) f_depth f_made f_textLength f_tokenCount f_wrongPlace f_ruleCount f_prepared f_rulesInUse f_stateCount f_wideCount f_gradeFound f_readHeight f_tokensTaken f_usedCount a_spotCounts a_ends a_arrows a_takers a_groups a_marks a_text a_tokenKinds a_tokenLengths a_lefts a_rights a_rightSizes a_beginSets a_followSets a_nextItems a_openItems a_restItems a_stateItems a_stateSteps a_stateLooks a_wideSteps a_wideLooks a_readStates a_readValues a_usedRules f' T (nI (3 + x))) (fun x T => (∀ k, bl S k = true → bl T k = true) ∧ (∀ k, bl T k = true → cl_0 g (fun i => bl S i = true) k) ∧ rd_J 4 (xc_s a_nextItems a_openItems) (xc_c a_openItems) (q * 4 + x) T) 4 T ⟨s1, s2, s3⟩ ?_ ?_
    · rintro f' T hT
      refine br_t (nI_le (Nat.le_refl 7) (by decide)) (nm_r (nI_1 q) (hk T ?_))
      rw [Nat.succ_mul]; exact hT
    · rintro f' x T hx ⟨s1, s2, s3⟩ hk2
      have cv : (nI (3 + x)).toNatClampNeg = 3 + x := nI_clamp (by omega)
      refine br_f (nI_ge (a := 3 + x) (b := 7) (by omega) (by decide)) ⟨vp_in_nI (by omega) (by decide), ?_⟩
      rw [cv]
      refine br_c (fun z => ?_) (fun z => ⟨vp_in_nI (by omega) (by decide), nm_e (nm_r (nI_1 (3 + x)) (hk2 _ ?_))⟩)
      · refine nm_r (nI_1 (3 + x)) (hk2 T ⟨s1, s2, rd_kr hx s3 ?_⟩)
        rintro ⟨k, k1, k2⟩
        rw [Nat.add_comm x 3] at k2
        exact absurd (show bl (T &&& a_nextItems (3 + x)) k = true by rw [bl_and, k1, k2]; rfl) (bl_no z k)
      · obtain ⟨k, hk3⟩ := bl_ne z
        rw [bl_and, Bool.and_eq_true] at hk3
        have e : ∀ j, bl (T ||| a_openItems (3 + x)) j = true ↔ bl T j = true ∨ bl (a_openItems (3 + x)) j = true := fun j => by rw [bl_or, Bool.or_eq_true]
        refine ⟨fun j hj => (e j).mpr (Or.inl (s1 j hj)), fun j hj => ?_, ?_⟩
        · rcases (e j).mp hj with y | y
          · exact s2 j y
          · exact snd T s2 (3 + x) (by omega) (by omega) ⟨k, hk3⟩ j y
        · by_cases y : ∀ j, bl (a_openItems (x + 3)) j = true → bl T j = true
          · have es : T ||| a_openItems (3 + x) = T := by
              apply bl_ext
              intro j _
              cases c1 : bl T j
              · cases c2 : bl (T ||| a_openItems (3 + x)) j
                · rfl
                · rcases (e j).mp c2 with w | w
                  · rw [c1] at w; cases w
                  · rw [Nat.add_comm 3 x] at w
                    rw [y j w] at c1; cases c1
              · exact (e j).mpr (Or.inl c1)
            rw [es]
            exact rd_kr hx s3 (fun _ => y)
          · refine rd_gr hx s3 (fun w => y (w ⟨k, hk3.1, by rw [Nat.add_comm x 3]; exact hk3.2⟩)) ?_
            exact cn_lt (a := x) y (fun j hj => (e j).mpr (Or.inr (by rw [Nat.add_comm 3 x]; exact hj))) (fun v _ w j hj => (e j).mpr (Or.inl (w j hj))) hx
/-- what moves over x, as the component reckons it -/
theorem xm_mv (hI : xi_I g 10 a_nextItems a_openItems a_restItems) (hg : rg_ok g) {S : Int64} (hS : tb_io g S) {x : Nat} (hx : x < 7) (k : Nat) : bl ((S &&& a_nextItems x) <<< ((1 : Int32).toInt64 &&& 63)) k = true ↔ tb_mv g S x k := by
  have key : ∀ i, bl (S &&& a_nextItems x) i = true ↔ bl S i = true ∧ im_nx g i x := by
    intro i
    rw [bl_and, Bool.and_eq_true, hI.1 x i hx]
    exact ⟨fun z => ⟨z.1, z.2.2⟩, fun z => ⟨z.1, ⟨(hS i z.1).1, xu_10 hg (hS i z.1).1⟩, z.2⟩⟩
  rcases Nat.lt_or_ge k 64 with h | h
  · rw [bl_sh1 _ h, Bool.and_eq_true, decide_eq_true_eq, key]
    constructor
    · rintro ⟨z1, z2⟩; exact ⟨k - 1, by omega, z2⟩
    · rintro ⟨i, rfl, z⟩; exact ⟨by omega, by rw [Nat.add_sub_cancel]; exact z⟩
  · rw [bl_big h]
    refine ⟨(fun z => by cases z), fun z => ?_⟩
    have := im_lt hg (tb_mv_ok hg hS z)
    omega
/-- the lists of states -/
noncomputable def sb_B (g : rg_T) (k : Nat) : (Nat → Int64) × Nat := bf_at (tb_a0 g) (tb_to g) k
theorem sb_io (hg : rg_ok g) (k s : Nat) (hs : s < (sb_B g k).2) : tb_io g ((sb_B g k).1 s) := bf_gen (tb_io g) (tb_io0 hg) (fun _ _ _ _ h1 h2 => tb_io1 hg h1 h2) k s hs
/-- one step, as an array holds it: -1, or the number of the state it leads to -/
def xt_1 {α : Type} (to : α → Nat → Option α) (f : Nat → α) (n : Nat) (e : Int32) (s x : Nat) : Prop := (to (f s) x = none ∧ e = -1) ∨ ∃ s', s' < n ∧ to (f s) x = some (f s') ∧ e = nI s'
def xt_k (g : rg_T) (k n : Nat) (items : Nat → Int64) (steps : Nat → Int32) : Prop := (sb_B g k).2 = n ∧ (∀ i, i < n → items i = (sb_B g k).1 i) ∧ ∀ j, j < k → j / 7 < n → xt_1 (tb_to g) (sb_B g k).1 n (steps j) (j / 7) (j % 7)
/-- the states found: too many, or all -/
def xt_ok (g : rg_T) (cnt : Int32) (items : Nat → Int64) (steps : Nat → Int32) : Prop := (cnt = -5 ∧ ∃ k, 60 < (sb_B g k).2) ∨ ∃ k n, xt_k g k n items steps ∧ n ≤ 60 ∧ n * 7 ≤ k ∧ cnt = nI n
theorem xw_stateOf (hg : rg_ok g) (hI : xi_I g 10 a_nextItems a_openItems a_restItems) {S : Int64} (hS : tb_io g S) {n : Nat} (hn : n ≤ 60) {post : Int32 → SX → Prop}
    (h1 : ∀ s, s < n → a_stateItems s = mk_l (cl_0 g (fun i => bl S i = true)) → post (nI s) (f_depth, f_made, f_textLength, f_tokenCount, f_wrongPlace, f_ruleCount, f_prepared, f_rulesInUse, (nI n), f_wideCount, f_gradeFound, f_readHeight, f_tokensTaken, f_usedCount, a_spotCounts, a_ends, a_arrows, a_takers, a_groups, a_marks, a_text, a_tokenKinds, a_tokenLengths, a_lefts, a_rights, a_rightSizes, a_beginSets, a_followSets, a_nextItems, a_openItems, a_restItems, a_stateItems, a_stateSteps, a_stateLooks, a_wideSteps, a_wideLooks, a_readStates, a_readValues, a_usedRules))
    (h2 : (∀ s, s < n → a_stateItems s ≠ mk_l (cl_0 g (fun i => bl S i = true))) → n < 60 → post (nI n) (f_depth, f_made, f_textLength, f_tokenCount, f_wrongPlace, f_ruleCount, f_prepared, f_rulesInUse, (nI (n + 1)), f_wideCount, f_gradeFound, f_readHeight, f_tokensTaken, f_usedCount, a_spotCounts, a_ends, a_arrows, a_takers, a_groups, a_marks, a_text, a_tokenKinds, a_tokenLengths, a_lefts, a_rights, a_rightSizes, a_beginSets, a_followSets, a_nextItems, a_openItems, a_restItems, (vp_updL a_stateItems n (mk_l (cl_0 g (fun i => bl S i = true)))), a_stateSteps, a_stateLooks, a_wideSteps, a_wideLooks, a_readStates, a_readValues, a_usedRules))
    (h3 : (∀ s, s < n → a_stateItems s ≠ mk_l (cl_0 g (fun i => bl S i = true))) → n = 60 → post 60 (f_depth, f_made, f_textLength, f_tokenCount, f_wrongPlace, f_ruleCount, f_prepared, f_rulesInUse, (nI n), f_wideCount, f_gradeFound, f_readHeight, f_tokensTaken, f_usedCount, a_spotCounts, a_ends, a_arrows, a_takers, a_groups, a_marks, a_text, a_tokenKinds, a_tokenLengths, a_lefts, a_rights, a_rightSizes, a_beginSets, a_followSets, a_nextItems, a_openItems, a_restItems, a_stateItems, a_stateSteps, a_stateLooks, a_wideSteps, a_wideLooks, a_readStates, a_readValues, a_usedRules)) : wpX_stateOf post (f_depth, f_made, f_textLength, f_tokenCount, f_wrongPlace, f_ruleCount, f_prepared, f_rulesInUse, (nI n), f_wideCount, f_gradeFound, f_readHeight, f_tokensTaken, f_usedCount, a_spotCounts, a_ends, a_arrows, a_takers, a_groups, a_marks, a_text, a_tokenKinds, a_tokenLengths, a_lefts, a_rights, a_rightSizes, a_beginSets, a_followSets, a_nextItems, a_openItems, a_restItems, a_stateItems, a_stateSteps, a_stateLooks, a_wideSteps, a_wideLooks, a_readStates, a_readValues, a_usedRules) S := by
  refine xw_closureOf (f_stateCount := nI n) hg hI hS ?_
  refine loop_0 (fun f i (_ : Unit) => wX_stateOf_9 post (mk_l (cl_0 g (fun i => bl S i = true))) f_depth f_made f_textLength f_tokenCount f_wrongPlace f_ruleCount f_prepared f_rulesInUse (nI n) f_wideCount f_gradeFound f_readHeight f_tokensTaken f_usedCount a_spotCounts a_ends a_arrows a_takers a_groups a_marks a_text a_tokenKinds a_tokenLengths a_lefts a_rights a_rightSizes a_beginSets a_followSets a_nextItems a_openItems a_restItems a_stateItems a_stateSteps a_stateLooks a_wideSteps a_wideLooks a_readStates a_readValues a_usedRules f (nI i)) (fun i _ => ∀ s, s < i → a_stateItems s ≠ mk_l (cl_0 g (fun i => bl S i = true))) n () (fun s hs => absurd hs (Nat.not_lt_zero s)) ?_ ?_
  · intro f _ hs
    refine br_t (nI_le (Nat.le_refl _) (by omega)) (pk_lt n 60 (fun z => ?_) (fun z => h3 hs (by omega)))
    refine ⟨vp_in_nI z (by decide), nm_r (by rw [nI_clamp (by omega)]) (nm_r (nI_1 n) ?_)⟩
    rw [show nI (n + 1) - 1 = nI n from nI_pred n]
    exact h2 hs z
  · intro f i _ hi hs hk
    refine br_f (nI_ge hi (by omega)) ⟨vp_in_nI (by omega) (by decide), ?_⟩
    rw [nI_clamp (by omega : i < 2 ^ 31)]
    refine br_c (fun z => h1 i hi z) (fun z => nm_r (nI_1 i) (hk () fun s hs' => ?_))
    rcases Nat.lt_or_ge s i with y | y
    · exact hs s y
    · have y : s = i := by omega
      subst y; exact z
theorem xt_keep {g : rg_T} {k n : Nat} {items : Nat → Int64} {steps : Nat → Int32} (h : xt_k g k n items steps) (e : sb_B g (k + 1) = sb_B g k) {x : Int32} (hx : k / 7 < n → xt_1 (tb_to g) (sb_B g k).1 n x (k / 7) (k % 7)) : xt_k g (k + 1) n items (upd steps k x) := by
  obtain ⟨a, b, c⟩ := h
  unfold xt_k
  rw [e]
  refine ⟨a, b, fun j hj hl => ?_⟩
  by_cases z : j = k
  · subst z; rw [pk_us]; exact hx hl
  · rw [pk_un z]; exact c j (by omega) hl
theorem xw_findStates (hg : rg_ok g) (hI : xi_I g 10 a_nextItems a_openItems a_restItems) {post : SX → Prop} (h : ∀ cnt items steps, xt_ok g cnt items steps → post (f_depth, f_made, f_textLength, f_tokenCount, f_wrongPlace, f_ruleCount, f_prepared, f_rulesInUse, cnt, f_wideCount, f_gradeFound, f_readHeight, f_tokensTaken, f_usedCount, a_spotCounts, a_ends, a_arrows, a_takers, a_groups, a_marks, a_text, a_tokenKinds, a_tokenLengths, a_lefts, a_rights, a_rightSizes, a_beginSets, a_followSets, a_nextItems, a_openItems, a_restItems, items, steps, a_stateLooks, a_wideSteps, a_wideLooks, a_readStates, a_readValues, a_usedRules)) : wpX_findStates post (f_depth, f_made, f_textLength, f_tokenCount, f_wrongPlace, f_ruleCount, f_prepared, f_rulesInUse, f_stateCount, f_wideCount, f_gradeFound, f_readHeight, f_tokensTaken, f_usedCount, a_spotCounts, a_ends, a_arrows, a_takers, a_groups, a_marks, a_text, a_tokenKinds, a_tokenLengths, a_lefts, a_rights, a_rightSizes, a_beginSets, a_followSets, a_nextItems, a_openItems, a_restItems, a_stateItems, a_stateSteps, a_stateLooks, a_wideSteps, a_wideLooks, a_readStates, a_readValues, a_usedRules) := by
  have io45 : tb_io g 35184372088832 := by
    intro i hi
    rw [bl_45, decide_eq_true_eq] at hi
    subst hi
    exact im_45 g
  have e45 : (fun i => bl 35184372088832 i = true) = fun k => k = 45 := by
    funext k
    rw [bl_45, decide_eq_true_eq]
  refine xw_closureOf hg hI io45 (nm_e ?_)
  rw [e45]
  have key : ∀ d s, s + d = 60 → ∀ n items steps, s ≤ n → n ≤ 60 → xt_k g (s * 7) n items steps → wX_findStates_20 post (d + 1) (nI s) f_depth f_made f_textLength f_tokenCount f_wrongPlace f_ruleCount f_prepared f_rulesInUse (nI n) f_wideCount f_gradeFound f_readHeight f_tokensTaken f_usedCount a_spotCounts a_ends a_arrows a_takers a_groups a_marks a_text a_tokenKinds a_tokenLengths a_lefts a_rights a_rightSizes a_beginSets a_followSets a_nextItems a_openItems a_restItems items steps a_stateLooks a_wideSteps a_wideLooks a_readStates a_readValues a_usedRules := by
    intro d
    induction d with
    | zero =>
      intro s hs n items steps h1 h2 h3
      refine br_t (nI_le (by omega) (by omega)) (h _ _ _ (Or.inr ⟨s * 7, n, h3, h2, by omega, rfl⟩))
    | succ d ih =>
      intro s hs n items steps h1 h2 h3
      refine pk_le n s (fun z => h _ _ _ (Or.inr ⟨s * 7, n, h3, h2, by omega, rfl⟩)) (fun z => br_f (nI_ge (b := 60) (by omega) (by decide)) ?_)
      refine loop_0 (fun f x σ => wX_findStates_36 post (wX_findStates_20 post (d + 1)) (nI s) f (nI x) f_depth f_made f_textLength f_tokenCount f_wrongPlace f_ruleCount f_prepared f_rulesInUse (nI σ.1) f_wideCount f_gradeFound f_readHeight f_tokensTaken f_usedCount a_spotCounts a_ends a_arrows a_takers a_groups a_marks a_text a_tokenKinds a_tokenLengths a_lefts a_rights a_rightSizes a_beginSets a_followSets a_nextItems a_openItems a_restItems σ.2.1 σ.2.2 a_stateLooks a_wideSteps a_wideLooks a_readStates a_readValues a_usedRules) (fun x σ => s < σ.1 ∧ σ.1 ≤ 60 ∧ xt_k g (s * 7 + x) σ.1 σ.2.1 σ.2.2) 7 (n, items, steps) ⟨z, h2, h3⟩ ?_ ?_
      · rintro f ⟨n, items, steps⟩ ⟨a1, a2, a3⟩
        refine br_t (nI_le (Nat.le_refl 7) (by decide)) (nm_r (nI_1 s) (ih (s + 1) (by omega) n items steps a1 a2 ?_))
        rw [Nat.succ_mul]; exact a3
      · rintro f x ⟨n, items, steps⟩ hx ⟨a1, a2, a3⟩ hk
        have a1 : s < n := a1
        have a2 : n ≤ 60 := a2
        have a3 : xt_k g (s * 7 + x) n items steps := a3
        have cs : (nI s).toNatClampNeg = s := nI_clamp (by omega)
        have cx : (nI x).toNatClampNeg = x := nI_clamp (by omega)
        have q1 : (s * 7 + x) / 7 = s := by omega
        have q2 : (s * 7 + x) % 7 = x := by omega
        have hn := a3.1
        have his := a3.2.1 s a1
        have hio : tb_io g (items s) := by rw [his]; exact sb_io hg _ s (by omega)
        have eB : sb_B g (s * 7 + x + 1) = bf_st (tb_to g) (s * 7 + x) (sb_B g (s * 7 + x)) := rfl
        have st : ∀ (n' : Nat) (items' : Nat → Int64) (e : Int32), s < n' → n' ≤ 60 → xt_k g (s * 7 + x + 1) n' items' (upd steps (s * 7 + x) e) → wX_findStates_88 post (wX_findStates_20 post (d + 1)) (wX_findStates_36 post (wX_findStates_20 post (d + 1)) (nI s) f) (nI s) (nI x) e f_depth f_made f_textLength f_tokenCount f_wrongPlace f_ruleCount f_prepared f_rulesInUse (nI n') f_wideCount f_gradeFound f_readHeight f_tokensTaken f_usedCount a_spotCounts a_ends a_arrows a_takers a_groups a_marks a_text a_tokenKinds a_tokenLengths a_lefts a_rights a_rightSizes a_beginSets a_followSets a_nextItems a_openItems a_restItems items' steps a_stateLooks a_wideSteps a_wideLooks a_readStates a_readValues a_usedRules := by
          intro n' items' e b1 b2 b3
          exact ⟨pk_in (s * 7 + x) 420 (by omega) (ix_7 s x), nm_r (by rw [pk_cl (s * 7 + x) (ix_7 s x)]) (nm_r (nI_1 x) (hk (n', items', upd steps (s * 7 + x) e) ⟨b1, b2, b3⟩))⟩
        refine br_f (nI_ge hx (by decide)) ⟨vp_in_nI (by omega) (by decide), vp_in_nI (by omega) (by decide), nm_r (e' := (items s &&& a_nextItems x) <<< ((1 : Int32).toInt64 &&& 63)) (by rw [cs, cx]) ?_⟩
        have mv := fun k => xm_mv hI hg hio hx k
        refine br_c (fun y => ?_) (fun y => ?_)
        · have no : tb_to g ((sb_B g (s * 7 + x)).1 s) x = none := by
            rw [← his]
            exact if_neg fun ⟨k, hk⟩ => bl_no y k ((mv k).mpr hk)
          refine st n items (-1) a1 a2 (xt_keep a3 (eB.trans (bf_none (by rw [q1, q2]; exact no))) fun _ => ?_)
          rw [q1, q2]
          exact Or.inl ⟨no, rfl⟩
        · obtain ⟨k0, hk0⟩ := bl_ne y
          have ioM : tb_io g ((items s &&& a_nextItems x) <<< ((1 : Int32).toInt64 &&& 63)) := fun i hi => tb_mv_ok hg hio ((mv i).mp hi)
          have eM : (fun i => bl ((items s &&& a_nextItems x) <<< ((1 : Int32).toInt64 &&& 63)) i = true) = tb_mv g (items s) x := by
            funext k
            exact propext (mv k)
          have sm : tb_to g ((sb_B g (s * 7 + x)).1 s) x = some (mk_l (cl_0 g (tb_mv g (items s) x))) := by
            rw [← his]
            exact tb_ex ((mv k0).mp hk0)
          refine xw_stateOf (a_stateItems := items) hg hI ioM a2 (fun s' hs' e' => ?_) (fun hno hlt => ?_) (fun hno h60 => ?_)
          · rw [eM] at e'
            refine br_f (fun w => ?_) (st n items (nI s') a1 a2 (xt_keep a3 (eB.trans (bf_old (by rw [q1, q2]; exact sm) ⟨s', by omega, ?_⟩)) fun _ => ?_))
            · have := (nI_eq (a := s') (b := 60) (by omega) (by decide)).mp w; omega
            · rw [← a3.2.1 s' hs']; exact e'
            · rw [q1, q2]
              refine Or.inr ⟨s', hs', ?_, rfl⟩
              rw [← a3.2.1 s' hs', e']; exact sm
          · rw [eM] at hno ⊢
            have new : ¬ ∃ s', s' < (sb_B g (s * 7 + x)).2 ∧ (sb_B g (s * 7 + x)).1 s' = mk_l (cl_0 g (tb_mv g (items s) x)) := by
              rintro ⟨s', z1, z2⟩
              exact hno s' (by omega) (by rw [a3.2.1 s' (by omega)]; exact z2)
            have eN := eB.trans (bf_new (by rw [q1]; omega) (by rw [q1, q2]; exact sm) new)
            refine br_f (fun w => ?_) (st (n + 1) _ (nI n) (by omega) (by omega) ?_)
            · have := (nI_eq (a := n) (b := 60) (by omega) (by decide)).mp w; omega
            · unfold xt_k
              rw [eN, hn]
              refine ⟨rfl, fun i hi => ?_, fun j hj hl => ?_⟩
              · show vp_updL items n _ i = if i = n then _ else _
                by_cases w : i = n
                · subst w; rw [pk_uLs, if_pos rfl]
                · rw [pk_uLn w, if_neg w]; exact a3.2.1 i (by omega)
              · by_cases w : j = s * 7 + x
                · subst w
                  rw [pk_us, q1, q2]
                  refine Or.inr ⟨n, by omega, ?_, rfl⟩
                  show tb_to g (if s = n then _ else (sb_B g (s * 7 + x)).1 s) x = some (if n = n then _ else _)
                  rw [if_neg (by omega), if_pos rfl]
                  exact sm
                · rw [pk_un w]
                  have hj7 : j / 7 < n := by omega
                  have := a3.2.2 j (by omega) hj7
                  have ej : (if j / 7 = n then mk_l (cl_0 g (tb_mv g (items s) x)) else (sb_B g (s * 7 + x)).1 (j / 7)) = (sb_B g (s * 7 + x)).1 (j / 7) := if_neg (by omega)
                  rcases this with ⟨w1, w2⟩ | ⟨s', w1, w2, w3⟩
                  · refine Or.inl ⟨?_, w2⟩
                    show tb_to g (if j / 7 = n then _ else (sb_B g (s * 7 + x)).1 (j / 7)) (j % 7) = none
                    rw [ej]; exact w1
                  · refine Or.inr ⟨s', by omega, ?_, w3⟩
                    show tb_to g (if j / 7 = n then _ else (sb_B g (s * 7 + x)).1 (j / 7)) (j % 7) = some (if s' = n then _ else (sb_B g (s * 7 + x)).1 s')
                    rw [ej, if_neg (by omega)]; exact w2
          · rw [eM] at hno
            have new : ¬ ∃ s', s' < (sb_B g (s * 7 + x)).2 ∧ (sb_B g (s * 7 + x)).1 s' = mk_l (cl_0 g (tb_mv g (items s) x)) := by
              rintro ⟨s', z1, z2⟩
              exact hno s' (by omega) (by rw [a3.2.1 s' (by omega)]; exact z2)
            have eN := eB.trans (bf_new (by rw [q1]; omega) (by rw [q1, q2]; exact sm) new)
            refine br_t rfl (h _ _ _ (Or.inl ⟨rfl, s * 7 + x + 1, ?_⟩))
            rw [eN]
            show 60 < (sb_B g (s * 7 + x)).2 + 1
            omega
  refine ⟨61, key 60 0 rfl 1 _ a_stateSteps (by omega) (by omega) ⟨rfl, fun i hi => ?_, fun j hj => by omega⟩⟩
  have : i = 0 := by omega
  subst this
  exact pk_uLs
end
