/-! the reference's wide states -/
variable {h_made h_depth h_length h_tokenCount h_wrong h_letterCount h_ruleCount h_makingCount h_usefulRules h_stateCount h_wideCount h_useCount h_result : Int32} {b_ops b_firsts b_seconds b_sizes b_stack b_roots b_text b_ends b_tokenKinds b_tokenSizes b_letters b_begins b_closes b_empties b_nexts b_sets b_leads b_classes b_newClasses b_lefts b_rights b_counts b_making b_firstSets b_followSets b_tasks b_held b_uses b_reach : Nat → Int32} {b_states b_looks b_wides b_work b_met : Nat → Int64}
section
variable {g : rg_T}
theorem yw_isWide {w : Nat} (hw : w ≤ 80) {post : Int32 → Prop} (h1 : xz_w b_wides w = w4_mk b_work → post 1) (h0 : xz_w b_wides w ≠ w4_mk b_work → post 0) : wpY_isWide post (h_made, h_depth, h_length, h_tokenCount, h_wrong, h_letterCount, h_ruleCount, h_makingCount, h_usefulRules, h_stateCount, h_wideCount, h_useCount, h_result, b_ops, b_firsts, b_seconds, b_sizes, b_stack, b_roots, b_text, b_ends, b_tokenKinds, b_tokenSizes, b_letters, b_begins, b_closes, b_empties, b_nexts, b_sets, b_leads, b_classes, b_newClasses, b_lefts, b_rights, b_counts, b_making, b_firstSets, b_followSets, b_states, b_looks, b_wides, b_work, b_met, b_tasks, b_held, b_uses, b_reach) (nI w) := by
  have e0 : (4 : Int32) * nI w = nI (w * 4 + 0) := by rw [Nat.add_zero, Nat.mul_comm]; exact pk_mul 4 w
  have e1 : (4 : Int32) * nI w + 1 = nI (w * 4 + 1) := ix_l4 w 1
  have e2 : (4 : Int32) * nI w + 2 = nI (w * 4 + 2) := ix_l4 w 2
  have e3 : (4 : Int32) * nI w + 3 = nI (w * 4 + 3) := ix_l4 w 3
  have ne : ∀ t, t < 4 → b_wides (w * 4 + t) ≠ b_work t → post 0 := by
    intro t ht z
    refine h0 fun e => z ?_
    have : w4_t (xz_w b_wides w) t = w4_t (w4_mk b_work) t := by rw [e]
    unfold xz_w at this
    rw [w4_tm ht, w4_tm ht] at this
    exact this
  refine ⟨pk_in (w * 4 + 0) 324 (by omega) e0, ?_⟩
  rw [pk_cl (w * 4 + 0) e0]
  refine br_c (fun z0 => ⟨pk_in (w * 4 + 1) 324 (by omega) e1, ?_⟩) (fun z => ne 0 (by omega) z)
  rw [pk_cl (w * 4 + 1) e1]
  refine br_c (fun z1 => ⟨pk_in (w * 4 + 2) 324 (by omega) e2, ?_⟩) (fun z => ne 1 (by omega) z)
  rw [pk_cl (w * 4 + 2) e2]
  refine br_c (fun z2 => ⟨pk_in (w * 4 + 3) 324 (by omega) e3, ?_⟩) (fun z => ne 2 (by omega) z)
  rw [pk_cl (w * 4 + 3) e3]
  refine br_c (fun z3 => h1 (w4_ext fun t ht => ?_)) (fun z => ne 3 (by omega) z)
  unfold xz_w
  rw [w4_tm ht, w4_tm ht]
  have : t = 0 ∨ t = 1 ∨ t = 2 ∨ t = 3 := by omega
  rcases this with rfl | rfl | rfl | rfl
  · exact z0
  · exact z1
  · exact z2
  · exact z3
theorem yw_noteWide {n : Nat} (hn : n ≤ 80) {post : SY → Prop} (h1 : (∃ w, w < n ∧ xz_w b_wides w = w4_mk b_work) → post (h_made, h_depth, h_length, h_tokenCount, h_wrong, h_letterCount, h_ruleCount, h_makingCount, h_usefulRules, h_stateCount, (nI n), h_useCount, h_result, b_ops, b_firsts, b_seconds, b_sizes, b_stack, b_roots, b_text, b_ends, b_tokenKinds, b_tokenSizes, b_letters, b_begins, b_closes, b_empties, b_nexts, b_sets, b_leads, b_classes, b_newClasses, b_lefts, b_rights, b_counts, b_making, b_firstSets, b_followSets, b_states, b_looks, b_wides, b_work, b_met, b_tasks, b_held, b_uses, b_reach)) (h2 : (∀ w, w < n → xz_w b_wides w ≠ w4_mk b_work) → post (h_made, h_depth, h_length, h_tokenCount, h_wrong, h_letterCount, h_ruleCount, h_makingCount, h_usefulRules, h_stateCount, (nI (n + 1)), h_useCount, h_result, b_ops, b_firsts, b_seconds, b_sizes, b_stack, b_roots, b_text, b_ends, b_tokenKinds, b_tokenSizes, b_letters, b_begins, b_closes, b_empties, b_nexts, b_sets, b_leads, b_classes, b_newClasses, b_lefts, b_rights, b_counts, b_making, b_firstSets, b_followSets, b_states, b_looks, (ax_set b_wides (n * 4) 4 b_work), b_work, b_met, b_tasks, b_held, b_uses, b_reach)) : wpY_noteWide post (h_made, h_depth, h_length, h_tokenCount, h_wrong, h_letterCount, h_ruleCount, h_makingCount, h_usefulRules, h_stateCount, (nI n), h_useCount, h_result, b_ops, b_firsts, b_seconds, b_sizes, b_stack, b_roots, b_text, b_ends, b_tokenKinds, b_tokenSizes, b_letters, b_begins, b_closes, b_empties, b_nexts, b_sets, b_leads, b_classes, b_newClasses, b_lefts, b_rights, b_counts, b_making, b_firstSets, b_followSets, b_states, b_looks, b_wides, b_work, b_met, b_tasks, b_held, b_uses, b_reach) := by
  refine loop_0 (fun f i (_ : Unit) => wY_noteWide_2 post h_made h_depth h_length h_tokenCount h_wrong h_letterCount h_ruleCount h_makingCount h_usefulRules h_stateCount (nI n) h_useCount h_result b_ops b_firsts b_seconds b_sizes b_stack b_roots b_text b_ends b_tokenKinds b_tokenSizes b_letters b_begins b_closes b_empties b_nexts b_sets b_leads b_classes b_newClasses b_lefts b_rights b_counts b_making b_firstSets b_followSets b_states b_looks b_wides b_work b_met b_tasks b_held b_uses b_reach f (nI i)) (fun i _ => ∀ w, w < i → xz_w b_wides w ≠ w4_mk b_work) n () (fun s hs => absurd hs (Nat.not_lt_zero s)) ?_ ?_
  · intro f _ hs
    refine br_t (nI_le (Nat.le_refl _) (by omega)) (br_t rfl ?_)
    refine loop_0 (fun f t s => wY_noteWide_34 post h_made h_depth h_length h_tokenCount h_wrong h_letterCount h_ruleCount h_makingCount h_usefulRules h_stateCount (nI n) h_useCount h_result f (nI t) b_ops b_firsts b_seconds b_sizes b_stack b_roots b_text b_ends b_tokenKinds b_tokenSizes b_letters b_begins b_closes b_empties b_nexts b_sets b_leads b_classes b_newClasses b_lefts b_rights b_counts b_making b_firstSets b_followSets b_states b_looks s b_work b_met b_tasks b_held b_uses b_reach) (fun t s => s = ax_set b_wides (n * 4) t b_work) 4 b_wides (ax_0 _ _ _).symm ?_ ?_
    · rintro f s rfl
      exact br_t (nI_le (Nat.le_refl 4) (by decide)) (nm_r (nI_1 n) (h2 hs))
    · rintro f t s ht rfl hk
      exact br_f (nI_ge ht (by decide)) ⟨vp_in_nI ht (by decide), pk_in (n * 4 + t) 324 (by omega) (ix_l4 n t), nm_r (by rw [pk_cl (n * 4 + t) (ix_l4 n t), nI_clamp (by omega : t < 2 ^ 31)]; exact ax_sL _ _ _ _) (nm_r (nI_1 t) (hk _ rfl))⟩
  · intro f i _ hi hs hk
    refine br_f (nI_ge hi (by omega)) (yw_isWide (by omega) (fun z => br_f (by decide) (br_f (fun e => ?_) (h1 ⟨i, hi, z⟩))) (fun z => br_t rfl (nm_r (nI_1 i) (hk () fun w hw => ?_))))
    · have := (nI_eq (a := i) (b := n) (by omega) (by omega)).mp e; omega
    · by_cases e : w = i
      · subst e; exact z
      · exact hs w (by omega)
def yz_k (g : rg_T) (k n : Nat) (arr : Nat → Int64) : Prop := (wb_B g k).2 = n ∧ ∀ i, i < n → xz_w arr i = (wb_B g k).1 i
def yz_ok (g : rg_T) (cnt : Int32) (arr : Nat → Int64) : Prop := ∃ k n, yz_k g k n arr ∧ n ≤ 81 ∧ (n * 7 ≤ k ∨ n = 81) ∧ cnt = nI n
theorem yw_makeWides (hg : rg_ok g) (hG : xg_G g b_lefts b_rights b_counts) {u : Int32} (hU : yg_U g u) (h4 : xb_4 b_firstSets) (hF : xb_ok g b_firstSets) {post : SY → Prop} (h : ∀ cnt arr W, yz_ok g cnt arr → post (h_made, h_depth, h_length, h_tokenCount, h_wrong, h_letterCount, h_ruleCount, h_makingCount, u, h_stateCount, cnt, h_useCount, h_result, b_ops, b_firsts, b_seconds, b_sizes, b_stack, b_roots, b_text, b_ends, b_tokenKinds, b_tokenSizes, b_letters, b_begins, b_closes, b_empties, b_nexts, b_sets, b_leads, b_classes, b_newClasses, b_lefts, b_rights, b_counts, b_making, b_firstSets, b_followSets, b_states, b_looks, arr, W, b_met, b_tasks, b_held, b_uses, b_reach)) : wpY_makeWides post (h_made, h_depth, h_length, h_tokenCount, h_wrong, h_letterCount, h_ruleCount, h_makingCount, u, h_stateCount, h_wideCount, h_useCount, h_result, b_ops, b_firsts, b_seconds, b_sizes, b_stack, b_roots, b_text, b_ends, b_tokenKinds, b_tokenSizes, b_letters, b_begins, b_closes, b_empties, b_nexts, b_sets, b_leads, b_classes, b_newClasses, b_lefts, b_rights, b_counts, b_making, b_firstSets, b_followSets, b_states, b_looks, b_wides, b_work, b_met, b_tasks, b_held, b_uses, b_reach) := by
  have fin : ∀ k n arr W, yz_k g k n arr → n ≤ 81 → (n * 7 ≤ k ∨ n = 81) → post (h_made, h_depth, h_length, h_tokenCount, h_wrong, h_letterCount, h_ruleCount, h_makingCount, u, h_stateCount, (nI n), h_useCount, h_result, b_ops, b_firsts, b_seconds, b_sizes, b_stack, b_roots, b_text, b_ends, b_tokenKinds, b_tokenSizes, b_letters, b_begins, b_closes, b_empties, b_nexts, b_sets, b_leads, b_classes, b_newClasses, b_lefts, b_rights, b_counts, b_making, b_firstSets, b_followSets, b_states, b_looks, arr, W, b_met, b_tasks, b_held, b_uses, b_reach) := fun k n arr W h1 h2 h3 => h _ arr W ⟨k, n, h1, h2, h3, rfl⟩
  have key : ∀ d s, s + d = 81 → ∀ k n arr W, s ≤ n → n ≤ 81 → yz_k g k n arr → (k = s * 7 ∨ n = 81) → wY_makeWides_46 post (d + 1) (nI s) h_made h_depth h_length h_tokenCount h_wrong h_letterCount h_ruleCount h_makingCount u h_stateCount (nI n) h_useCount h_result b_ops b_firsts b_seconds b_sizes b_stack b_roots b_text b_ends b_tokenKinds b_tokenSizes b_letters b_begins b_closes b_empties b_nexts b_sets b_leads b_classes b_newClasses b_lefts b_rights b_counts b_making b_firstSets b_followSets b_states b_looks arr W b_met b_tasks b_held b_uses b_reach := by
    intro d
    induction d with
    | zero =>
      intro s hs k n arr W h1 h2 h3 h5
      exact br_t (nI_le (by omega) (by omega)) (fin k n arr W h3 h2 (by omega))
    | succ d ih =>
      intro s hs k n arr W h1 h2 h3 h5
      refine pk_le n s (fun z => fin k n arr W h3 h2 (by omega)) (fun z => pk_le 81 n (fun y => fin k n arr W h3 h2 (by omega)) (fun y => ?_))
      have h5 : k = s * 7 := by omega
      subst h5
      refine loop_0 (fun f x σ => wY_makeWides_65 post (wY_makeWides_46 post (d + 1)) (nI s) f (nI x) h_made h_depth h_length h_tokenCount h_wrong h_letterCount h_ruleCount h_makingCount u h_stateCount (nI σ.1) h_useCount h_result b_ops b_firsts b_seconds b_sizes b_stack b_roots b_text b_ends b_tokenKinds b_tokenSizes b_letters b_begins b_closes b_empties b_nexts b_sets b_leads b_classes b_newClasses b_lefts b_rights b_counts b_making b_firstSets b_followSets b_states b_looks σ.2.1 σ.2.2 b_met b_tasks b_held b_uses b_reach) (fun x σ => s < σ.1 ∧ σ.1 ≤ 81 ∧ ∃ k, yz_k g k σ.1 σ.2.1 ∧ (k = s * 7 + x ∨ σ.1 = 81)) 7 (n, arr, W) ⟨z, h2, s * 7, h3, Or.inl rfl⟩ ?_ ?_
      · rintro f ⟨n, arr, W⟩ ⟨a1, a2, k, a3, a4⟩
        have a4 : k = s * 7 + 7 ∨ n = 81 := a4
        exact br_t (nI_le (Nat.le_refl 7) (by decide)) (nm_r (nI_1 s) (ih (s + 1) (by omega) k n arr W a1 a2 a3 (by omega)))
      · rintro f x ⟨n, arr, W⟩ hx ⟨a1, a2, k, a3, a4⟩ hk
        have a1 : s < n := a1
        have a2 : n ≤ 81 := a2
        have a3 : yz_k g k n arr := a3
        have a4 : k = s * 7 + x ∨ n = 81 := a4
        refine br_f (nI_ge hx (by decide)) (pk_le 81 n (fun y => ?_) (fun y => ?_))
        · exact nm_r (nI_1 s) (ih (s + 1) (by omega) k n arr W a1 a2 a3 (by omega))
        · have a4 : k = s * 7 + x := by omega
          subst a4
          have q1 : (s * 7 + x) / 7 = s := by omega
          have q2 : (s * 7 + x) % 7 = x := by omega
          have hn := a3.1
          have his := a3.2 s a1
          have hio : tw_io g ((wb_B g (s * 7 + x)).1 s) := wb_io hg _ s (by omega)
          have eB : wb_B g (s * 7 + x + 1) = bf_st (tw_to g) (s * 7 + x) (wb_B g (s * 7 + x)) := rfl
          have hat : ∀ t, t < 4 → arr (s * 4 + t) = w4_t ((wb_B g (s * 7 + x)).1 s) t := by
            intro t ht
            rw [← his]
            unfold xz_w
            rw [w4_tm ht]
          have keep : wb_B g (s * 7 + x + 1) = wb_B g (s * 7 + x) → s < n ∧ n ≤ 81 ∧ ∃ k, yz_k g k n arr ∧ (k = s * 7 + (x + 1) ∨ n = 81) := by
            intro e
            refine ⟨a1, a2, s * 7 + x + 1, ?_, Or.inl rfl⟩
            unfold yz_k
            rw [e]; exact a3
          refine loop_0 (fun f' t σ => wY_makeWides_85 post (wY_makeWides_46 post (d + 1)) (wY_makeWides_65 post (wY_makeWides_46 post (d + 1)) (nI s) f) (nI s) (nI x) h_made h_depth h_length h_tokenCount h_wrong h_letterCount h_ruleCount h_makingCount u h_stateCount (nI n) h_useCount h_result f' σ.1 (nI t) b_ops b_firsts b_seconds b_sizes b_stack b_roots b_text b_ends b_tokenKinds b_tokenSizes b_letters b_begins b_closes b_empties b_nexts b_sets b_leads b_classes b_newClasses b_lefts b_rights b_counts b_making b_firstSets b_followSets b_states b_looks arr σ.2 b_met b_tasks b_held b_uses b_reach) (fun t σ => (∀ j, bl σ.1 j = true ↔ ∃ t', t' < t ∧ tw_mv g ((wb_B g (s * 7 + x)).1 s) x t' j) ∧ ∀ t' j, t' < t → (bl (σ.2 t') j = true ↔ tw_mv g ((wb_B g (s * 7 + x)).1 s) x t' j)) 4 ((0 : Int64), W) ⟨fun j => ?_, fun t' j z => absurd z (Nat.not_lt_zero _)⟩ ?_ ?_
          · show bl 0 j = true ↔ _
            rw [bl_0]; exact ⟨(fun z => by cases z), fun ⟨t', z, _⟩ => absurd z (Nat.not_lt_zero _)⟩
          · rintro f' ⟨A, M⟩ ⟨m1, m2⟩
            have m1 : ∀ j, bl A j = true ↔ ∃ t', t' < 4 ∧ tw_mv g ((wb_B g (s * 7 + x)).1 s) x t' j := m1
            have m2 : ∀ t' j, t' < 4 → (bl (M t') j = true ↔ tw_mv g ((wb_B g (s * 7 + x)).1 s) x t' j) := m2
            refine br_t (nI_le (Nat.le_refl 4) (by decide)) (br_c (fun z => ?_) (fun z => ?_))
            · have no : tw_to g ((wb_B g (s * 7 + x)).1 s) x = none := if_neg fun ⟨t, j, hj⟩ => bl_no z j ((m1 j).mpr ⟨t, hj.1, hj⟩)
              exact nm_r (nI_1 x) (hk (n, arr, M) (keep (eB.trans (bf_none (by rw [q1, q2]; exact no)))))
            · obtain ⟨j0, hj0⟩ := bl_ne z
              obtain ⟨t0, ht0, hm0⟩ := (m1 j0).mp hj0
              have ioM : xo_io g M := fun t j ht hj => tw_mv_ok hg hio ((m2 t j ht).mp hj)
              have eM : xo_S M = tw_mv g ((wb_B g (s * 7 + x)).1 s) x := by
                funext t j
                exact propext ⟨fun q => (m2 t j q.1).mp q.2, fun q => ⟨q.1, (m2 t j q.1).mpr q⟩⟩
              have sm : tw_to g ((wb_B g (s * 7 + x)).1 s) x = some (w4_mk fun t => mk_l (cw_0 g (tw_mv g ((wb_B g (s * 7 + x)).1 s) x) t)) := tw_ex hm0
              refine yw_closeWork (b_work := M) hg hG hU h4 hF ioM (fun C hC => ?_)
              rw [eM] at hC
              have eC : w4_mk C = w4_mk fun t => mk_l (cw_0 g (tw_mv g ((wb_B g (s * 7 + x)).1 s) x) t) := w4_ext fun t ht => by rw [w4_tm ht, w4_tm ht]; exact hC t ht
              refine yw_noteWide (b_wides := arr) (b_work := C) (by omega) (fun q => nm_r (nI_1 x) (hk (n, arr, C) (keep (eB.trans ?_)))) (fun q => nm_r (nI_1 x) (hk (n + 1, ax_set arr (n * 4) 4 C, C) ⟨by show s < n + 1; omega, by show n + 1 ≤ 81; omega, s * 7 + x + 1, ?_, Or.inl rfl⟩))
              · obtain ⟨w, w1, w2⟩ := q
                rw [eC, a3.2 w w1] at w2
                exact bf_old (by rw [q1, q2]; exact sm) ⟨w, by omega, w2⟩
              · have new : ¬ ∃ s', s' < (wb_B g (s * 7 + x)).2 ∧ (wb_B g (s * 7 + x)).1 s' = w4_mk fun t => mk_l (cw_0 g (tw_mv g ((wb_B g (s * 7 + x)).1 s) x) t) := by
                  rintro ⟨s', z1, z2⟩
                  exact q s' (by omega) (by rw [eC, a3.2 s' (by omega)]; exact z2)
                have eN := eB.trans (bf_new (by rw [q1]; omega) (by rw [q1, q2]; exact sm) new)
                unfold yz_k
                rw [eN, hn]
                refine ⟨rfl, fun i hi => ?_⟩
                have hi : i < n + 1 := hi
                show xz_w (ax_set arr (n * 4) 4 C) i = if i = n then _ else _
                by_cases e : i = n
                · subst e; rw [if_pos rfl, xz_in]; exact eC
                · rw [if_neg e, xz_out (by omega)]; exact a3.2 i (by omega)
          · rintro f' t ⟨A, M⟩ ht ⟨m1, m2⟩ hk2
            have m1 : ∀ j, bl A j = true ↔ ∃ t', t' < t ∧ tw_mv g ((wb_B g (s * 7 + x)).1 s) x t' j := m1
            have m2 : ∀ t' j, t' < t → (bl (M t') j = true ↔ tw_mv g ((wb_B g (s * 7 + x)).1 s) x t' j) := m2
            have ct : (nI t).toNatClampNeg = t := nI_clamp (by omega)
            refine br_f (nI_ge ht (by decide)) ⟨pk_in (s * 4 + t) 324 (by omega) (ix_l4 s t), ?_⟩
            rw [pk_cl (s * 4 + t) (ix_l4 s t)]
            have ioS : tb_io g (arr (s * 4 + t)) := fun i hi => (hio t i ht (by rw [← hat t ht]; exact hi)).1
            refine yw_moved hg hG ioS hx (fun T hT => ⟨vp_in_nI ht (by decide), nm_r (e' := vp_updL M t T) (by rw [ct]) ⟨vp_in_nI ht (by decide), nm_r (e' := A ||| T) (by rw [ct, pk_uLs]) (nm_r (nI_1 t) (hk2 (A ||| T, vp_updL M t T) ⟨fun j => ?_, fun t' j ht' => ?_⟩))⟩⟩)
            · show bl (A ||| T) j = true ↔ _
              rw [bl_or, Bool.or_eq_true, m1 j, hT j, hat t ht]
              constructor
              · rintro (⟨t', z⟩ | z)
                · exact ⟨t', by omega, z.2⟩
                · exact ⟨t, by omega, ht, z⟩
              · rintro ⟨t', z1, z2⟩
                by_cases e : t' = t
                · subst e; exact Or.inr z2.2
                · exact Or.inl ⟨t', by omega, z2⟩
            · show bl (vp_updL M t T t') j = true ↔ _
              by_cases e : t' = t
              · subst e
                rw [pk_uLs, hT j, hat t' ht]
                exact ⟨fun z => ⟨ht, z⟩, fun z => z.2⟩
              · rw [pk_uLn e]; exact m2 t' j (by omega)
  refine loop_0 (fun f t s => wY_makeWides_2 post h_made h_depth h_length h_tokenCount h_wrong h_letterCount h_ruleCount h_makingCount u h_stateCount h_wideCount h_useCount h_result f (nI t) b_ops b_firsts b_seconds b_sizes b_stack b_roots b_text b_ends b_tokenKinds b_tokenSizes b_letters b_begins b_closes b_empties b_nexts b_sets b_leads b_classes b_newClasses b_lefts b_rights b_counts b_making b_firstSets b_followSets b_states b_looks b_wides s b_met b_tasks b_held b_uses b_reach) (fun t s => ∀ t', t' < t → ∀ k, bl (s t') k = true ↔ t' = 3 ∧ k = 45) 4 b_work (fun t' z => absurd z (Nat.not_lt_zero _)) ?_ ?_
  · intro f s hs
    have eS : xo_S s = fun t k => t = 3 ∧ k = 45 := by
      funext t k
      exact propext ⟨fun z => (hs t z.1 k).mp z.2, fun z => ⟨by omega, (hs t (by omega) k).mpr z⟩⟩
    have io0 : xo_io g s := fun t k ht hk => tw_45 t k ((hs t ht k).mp hk)
    refine br_t (nI_le (Nat.le_refl 4) (by decide)) (yw_closeWork (b_work := s) hg hG hU h4 hF io0 (fun C hC => ?_))
    rw [eS] at hC
    have eC : w4_mk C = tw_a0 g := w4_ext fun t ht => by
      unfold tw_a0
      rw [w4_tm ht, w4_tm ht]; exact hC t ht
    refine yw_noteWide (n := 0) (b_wides := b_wides) (b_work := C) (by omega) (fun ⟨w, q, _⟩ => absurd q (Nat.not_lt_zero _)) (fun _ => ⟨82, key 81 0 rfl 0 1 _ C (by omega) (by omega) ⟨rfl, fun i hi => ?_⟩ (Or.inl rfl)⟩)
    have hi : i = 0 := by omega
    subst hi
    rw [xz_in]; exact eC
  · intro f t s ht hs hk
    have ct : (nI t).toNatClampNeg = t := nI_clamp (by omega)
    refine br_f (nI_ge ht (by decide)) (pk_eq t 3 (fun z => ?_) (fun z => ?_))
    · refine ⟨vp_in_nI (by omega) (by decide), nm_r (by rw [ct]) (nm_r (nI_1 t) (hk _ fun t' ht' k => ?_))⟩
      by_cases e : t' = t
      · subst e; rw [pk_uLs, bl_45, decide_eq_true_eq]; exact ⟨fun y => ⟨z, y⟩, fun y => y.2⟩
      · rw [pk_uLn e]; exact hs t' (by omega) k
    · refine ⟨vp_in_nI (by omega) (by decide), nm_r (by rw [ct]) (nm_r (nI_1 t) (hk _ fun t' ht' k => ?_))⟩
      by_cases e : t' = t
      · subst e; rw [pk_uLs, bl_0]; exact ⟨(fun y => by cases y), fun y => absurd y.1 z⟩
      · rw [pk_uLn e]; exact hs t' (by omega) k
end
