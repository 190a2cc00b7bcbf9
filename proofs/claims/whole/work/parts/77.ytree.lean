/-! the reference goes through the parts, and from a set by a letter -/
variable {h_made h_depth h_length h_tokenCount h_wrong h_letterCount h_ruleCount h_makingCount h_usefulRules h_stateCount h_wideCount h_useCount h_result : Int32} {b_ops b_firsts b_seconds b_sizes b_stack b_roots b_text b_ends b_tokenKinds b_tokenSizes b_letters b_begins b_closes b_empties b_nexts b_sets b_leads b_classes b_newClasses b_lefts b_rights b_counts b_making b_firstSets b_followSets b_tasks b_held b_uses b_reach : Nat → Int32} {b_states b_looks b_wides b_work b_met : Nat → Int64}
section
variable {m : Nat} {ga : Nat → gk_T} {lo op fi se : Nat → Nat}
theorem yw_skip (hN : yn_N m ga lo op fi se b_ops b_firsts b_seconds b_sizes) (hm : m ≤ 60) {r : Nat} (hr : r < m) {post : Int32 → SY → Prop} {f : Nat} : ∀ n i, i + n ≤ r + 1 → (∀ j, i ≤ j → j < i + n → ¬ nd_P op fi se r j) → wY_automaton_31 post (nI r) f (nI (i + n)) h_made h_depth h_length h_tokenCount h_wrong h_letterCount h_ruleCount h_makingCount h_usefulRules h_stateCount h_wideCount h_useCount h_result b_ops b_firsts b_seconds b_sizes b_stack b_roots b_text b_ends b_tokenKinds b_tokenSizes b_letters b_begins b_closes b_empties b_nexts b_sets b_leads b_classes b_newClasses b_lefts b_rights b_counts b_making b_firstSets b_followSets b_states b_looks b_wides b_work b_met b_tasks b_held b_uses b_reach → wY_automaton_31 post (nI r) (f + n) (nI i) h_made h_depth h_length h_tokenCount h_wrong h_letterCount h_ruleCount h_makingCount h_usefulRules h_stateCount h_wideCount h_useCount h_result b_ops b_firsts b_seconds b_sizes b_stack b_roots b_text b_ends b_tokenKinds b_tokenSizes b_letters b_begins b_closes b_empties b_nexts b_sets b_leads b_classes b_newClasses b_lefts b_rights b_counts b_making b_firstSets b_followSets b_states b_looks b_wides b_work b_met b_tasks b_held b_uses b_reach := by
  intro n
  induction n with
  | zero => intro i _ _ h; exact h
  | succ n ih =>
    intro i hi hno h
    refine br_f (nI_nlt (by omega) (by omega)) (yw_isPart hN hm hr (by omega) (fun z => absurd z (hno i (Nat.le_refl _) (by omega))) (fun z => br_t rfl (nm_r (nI_1 i) (ih (i + 1) (by omega) (fun j h1 h2 => hno j (by omega) (by omega)) ?_))))
    rw [show i + 1 + n = i + (n + 1) by omega]
    exact h
theorem yw_walk (hN : yn_N m ga lo op fi se b_ops b_firsts b_seconds b_sizes) (hm : m ≤ 60) {r : Nat} (hr : r < m) {post : Int32 → SY → Prop} : ∀ N p, p ≤ N → nd_P op fi se r p → ∀ f b b_letters b_begins b_closes b_empties b_nexts, b + gk_c (ga p) ≤ 6 →
    (yp_P (ga p) b p (lo p) b_letters b_begins b_closes b_empties b_nexts fun L B C E N => wY_automaton_31 post (nI r) f (nI (p + 1)) h_made h_depth h_length h_tokenCount h_wrong (nI (b + gk_c (ga p))) h_ruleCount h_makingCount h_usefulRules h_stateCount h_wideCount h_useCount h_result b_ops b_firsts b_seconds b_sizes b_stack b_roots b_text b_ends b_tokenKinds b_tokenSizes L B C E N b_sets b_leads b_classes b_newClasses b_lefts b_rights b_counts b_making b_firstSets b_followSets b_states b_looks b_wides b_work b_met b_tasks b_held b_uses b_reach) →
    wY_automaton_31 post (nI r) (f + (p + 1 - lo p)) (nI (lo p)) h_made h_depth h_length h_tokenCount h_wrong (nI b) h_ruleCount h_makingCount h_usefulRules h_stateCount h_wideCount h_useCount h_result b_ops b_firsts b_seconds b_sizes b_stack b_roots b_text b_ends b_tokenKinds b_tokenSizes b_letters b_begins b_closes b_empties b_nexts b_sets b_leads b_classes b_newClasses b_lefts b_rights b_counts b_making b_firstSets b_followSets b_states b_looks b_wides b_work b_met b_tasks b_held b_uses b_reach := by
  have hD := nd_of hN
  intro N
  induction N with
  | zero =>
    intro p p0 hP f b b_letters b_begins b_closes b_empties b_nexts hb h
    have e : p = 0 := by omega
    subst e
    have pr := (nd_in hD hr hP).2.2
    obtain ⟨ko, _, _, kl, k | k | k⟩ := hN 0 (by omega)
    · have l0 : lo 0 = 0 := k.2.2.2.2
      rw [l0] at h ⊢
      rw [show 0 + 1 - 0 = 1 from rfl]
      refine br_f (nI_nlt pr (by omega)) (yw_isPart hN hm hr pr (fun _ => br_f (by decide) ?_) (fun z => absurd hP z))
      refine yw_placeL hN hm (p := 0) (by omega) k.1 ?_ ?_
      · rw [k.2.1] at hb
        by_cases z : op 0 = 4
        · exact Or.inr ⟨by omega, z⟩
        · have : gk_c (gk_leaf (op 0)) = 1 := if_pos (by omega)
          omega
      · intro L B C E N h1 h2
        rw [l0] at h2
        exact nm_r (nI_1 0) (h L B C E N h1 h2)
    · omega
    · omega
  | succ N ih =>
    intro p pN hP f b b_letters b_begins b_closes b_empties b_nexts hb h
    have pr := (nd_in hD hr hP).2.2
    obtain ⟨ko, _, _, kl, k | k | k⟩ := hN p (by omega)
    · have lp : lo p = p := k.2.2.2.2
      rw [lp] at h ⊢
      rw [show p + 1 - p = 1 by omega]
      refine br_f (nI_nlt pr (by omega)) (yw_isPart hN hm hr pr (fun _ => br_f (by decide) ?_) (fun z => absurd hP z))
      refine yw_placeL hN hm (by omega) k.1 ?_ ?_
      · rw [k.2.1] at hb
        by_cases z : op p = 4
        · exact Or.inr ⟨by omega, z⟩
        · have : gk_c (gk_leaf (op p)) = 1 := if_pos (by omega)
          omega
      · intro L B C E N h1 h2
        rw [lp] at h2
        exact nm_r (nI_1 p) (h L B C E N h1 h2)
    · have hx := nd_f hP k.1
      have lx := (hN (fi p) (by omega)).2.2.2.1
      have eg : ga p = gk_rep (op p - 5) (ga (fi p)) := k.2.2.2.2.2.1
      have ec : gk_c (ga p) = gk_c (ga (fi p)) := by rw [eg]; rfl
      have lp : lo p = lo (fi p) := k.2.2.2.2.2.2
      have fx : fi p < p := k.2.2.1
      rw [lp, show f + (p + 1 - lo (fi p)) = (f + 1 + (p - (fi p + 1))) + (fi p + 1 - lo (fi p)) by omega]
      refine ih (fi p) (by omega) hx (f + 1 + (p - (fi p + 1))) b b_letters b_begins b_closes b_empties b_nexts (by omega) ?_
      intro L B C E N h1 h2
      refine yw_skip hN hm hr (p - (fi p + 1)) (fi p + 1) (by omega) (fun j j1 j2 hj => ?_) ?_
      · rcases nd_gap hD hr hP hj (by omega) (by omega) with e | ⟨_, e⟩ | ⟨e, _⟩
        · omega
        · have := (nd_in hD (by omega) e).2.2
          omega
        · omega
      · rw [show fi p + 1 + (p - (fi p + 1)) = p by omega]
        refine br_f (nI_nlt pr (by omega)) (yw_isPart hN hm hr pr (fun _ => br_f (by decide) ?_) (fun z => absurd hP z))
        rw [← ec]
        refine yw_placeR (b_letters := L) (b_begins := B) (b_closes := C) (b_empties := E) (b_nexts := N) hN hm (by omega) k.1 k.2.1 hb h1 ?_
        intro L' B' C' E' N' h3 h4
        exact nm_r (nI_1 p) (h L' B' C' E' N' h3 (yp_Ft (by rw [lp]; exact h2) h4 (Nat.le_refl _) (Nat.le_refl _)))
    · have hx := nd_f hP (by omega)
      have hy := nd_s hP k.1
      have lx := (hN (fi p) (by have := (hN (se p) (by omega)).2.2.2.1; omega)).2.2.2.1
      have ly := (hN (se p) (by omega)).2.2.2.1
      have eg : ga p = gk_join (op p - 8) (ga (fi p)) (ga (se p)) := k.2.2.2.2.2.2.1
      have ec : gk_c (ga p) = gk_c (ga (fi p)) + gk_c (ga (se p)) := by rw [eg]; rfl
      have lp : lo p = lo (fi p) := k.2.2.2.2.2.2.2
      have fx : fi p < lo (se p) := k.2.2.1
      have sy : se p < p := k.2.2.2.1
      have gap : ∀ j, fi p < j → j < p → (j < lo (se p) ∨ se p < j) → ¬ nd_P op fi se r j := by
        intro j j1 j2 j3 hj
        rcases nd_gap hD hr hP hj (by omega) (by omega) with e | ⟨_, e⟩ | ⟨_, e⟩
        · omega
        · have := (nd_in hD (by omega) e).2.2
          omega
        · have := nd_in hD (by omega) e
          omega
      rw [lp, show f + (p + 1 - lo (fi p)) = (f + 1 + (p - (se p + 1)) + (se p + 1 - lo (se p)) + (lo (se p) - (fi p + 1))) + (fi p + 1 - lo (fi p)) by omega]
      refine ih (fi p) (by omega) hx _ b b_letters b_begins b_closes b_empties b_nexts (by omega) ?_
      intro L B C E N h1 h2
      refine yw_skip hN hm hr (lo (se p) - (fi p + 1)) (fi p + 1) (by omega) (fun j j1 j2 => gap j (by omega) (by omega) (by omega)) ?_
      rw [show fi p + 1 + (lo (se p) - (fi p + 1)) = lo (se p) by omega]
      refine ih (se p) (by omega) hy (f + 1 + (p - (se p + 1))) (b + gk_c (ga (fi p))) L B C E N (by omega) ?_
      intro L1 B1 C1 E1 N1 h3 h4
      refine yw_skip hN hm hr (p - (se p + 1)) (se p + 1) (by omega) (fun j j1 j2 => gap j (by omega) (by omega) (by omega)) ?_
      rw [show se p + 1 + (p - (se p + 1)) = p by omega]
      refine br_f (nI_nlt pr (by omega)) (yw_isPart hN hm hr pr (fun _ => br_f (by decide) ?_) (fun z => absurd hP z))
      rw [Nat.add_assoc b, ← ec]
      refine yw_placeJ (b_letters := L1) (b_begins := B1) (b_closes := C1) (b_empties := E1) (b_nexts := N1) hN hm (by omega) k.1 hb (yp_Dk h1 h4 (Nat.le_refl _) fx) h3 ?_
      intro L' B' C' E' N' h5 h6
      exact nm_r (nI_1 p) (h L' B' C' E' N' h5 (yp_Ft (yp_Ft (by rw [lp]; exact h2) h4 (by omega) (by omega)) h6 (Nat.le_refl _) (Nat.le_refl _)))
end
section
variable {x : gk_T} {p : Nat}
theorem yw_after (hx : gk_wf x) (hp : p < 60) (hD : yp_D x 0 p b_letters b_begins b_closes b_empties b_nexts) {a l : Nat} (hl : l < 3) (ha : ap_R x a) {post : Int32 → Prop} (h : post (nI (ap_d x a l))) : wpY_after post (h_made, h_depth, h_length, h_tokenCount, h_wrong, (nI (gk_c x)), h_ruleCount, h_makingCount, h_usefulRules, h_stateCount, h_wideCount, h_useCount, h_result, b_ops, b_firsts, b_seconds, b_sizes, b_stack, b_roots, b_text, b_ends, b_tokenKinds, b_tokenSizes, b_letters, b_begins, b_closes, b_empties, b_nexts, b_sets, b_leads, b_classes, b_newClasses, b_lefts, b_rights, b_counts, b_making, b_firstSets, b_followSets, b_states, b_looks, b_wides, b_work, b_met, b_tasks, b_held, b_uses, b_reach) (nI (yv_v a)) (nI l) (nI p) := by
  have c6 := hx.1
  have a65 := ap_R65 hx ha
  have yb := yv_b a65
  obtain ⟨d1, d2, d3, d4, d5⟩ := hD
  -- the second loop
  have two : ∀ y : Int32, (∀ j, bt y j = true ↔ ∃ i, bt (nI a) i = true ∧ ap_a x i j) → ∃ n, wY_after_73 post (nI l) y h_made h_depth h_length h_tokenCount h_wrong (nI (gk_c x)) h_ruleCount h_makingCount h_usefulRules h_stateCount h_wideCount h_useCount h_result b_ops b_firsts b_seconds b_sizes b_stack b_roots b_text b_ends b_tokenKinds b_tokenSizes b_letters b_begins b_closes b_empties b_nexts b_sets b_leads b_classes b_newClasses b_lefts b_rights b_counts b_making b_firstSets b_followSets b_states b_looks b_wides b_work b_met b_tasks b_held b_uses b_reach n 0 0 := by
    intro y hy
    refine loop_0 (fun n i w => wY_after_73 post (nI l) y h_made h_depth h_length h_tokenCount h_wrong (nI (gk_c x)) h_ruleCount h_makingCount h_usefulRules h_stateCount h_wideCount h_useCount h_result b_ops b_firsts b_seconds b_sizes b_stack b_roots b_text b_ends b_tokenKinds b_tokenSizes b_letters b_begins b_closes b_empties b_nexts b_sets b_leads b_classes b_newClasses b_lefts b_rights b_counts b_making b_firstSets b_followSets b_states b_looks b_wides b_work b_met b_tasks b_held b_uses b_reach n w (nI i)) (fun i w => ∀ j, bt w j = true ↔ j < i ∧ bt y j = true ∧ gk_tk x j l) (gk_c x) 0 (fun j => ?_) ?_ ?_
    · rw [b_0]
      exact ⟨(fun q => by cases q), fun q => absurd q.1 (Nat.not_lt_zero _)⟩
    · intro n w hw
      have e : w = nI (ap_d x a l) := by
        apply b_ext
        intro i _
        apply bo_e
        unfold ap_d
        rw [hw, sm_b, hy]
        exact ⟨fun k => ⟨by omega, k.2⟩, fun k => ⟨hx.2.2.2.2 i l k.2.2, k.2⟩⟩
      rw [e]
      exact br_t (nI_le (Nat.le_refl _) (by omega)) h
    · intro n i w hi hw hk
      have vi : vp_in (nI i) 8 := vp_in_nI (by omega) (by decide)
      have ci : (nI i).toNatClampNeg = i := nI_clamp (by omega)
      have te := b_test y (n := i) (by omega)
      obtain ⟨o, o4, oe, ot⟩ := d4 i hi
      rw [Nat.zero_add] at oe
      have no : (¬ (bt y i = true ∧ gk_tk x i l)) → ∀ j, bt w j = true ↔ j < i + 1 ∧ bt y j = true ∧ gk_tk x j l := by
        intro q j
        rw [hw j]
        constructor
        · exact fun k => ⟨by omega, k.2⟩
        · intro k
          refine ⟨?_, k.2⟩
          have : j ≠ i := fun e => q (by rw [← e]; exact k.2)
          omega
      have yes : bt y i = true → gk_tk x i l → ∀ j, bt (w ||| ((1 : Int32) <<< (nI i &&& 31))) j = true ↔ j < i + 1 ∧ bt y j = true ∧ gk_tk x j l := by
        intro q1 q2 j
        rw [b_or, Bool.or_eq_true, hw j, b_one i (by omega), decide_eq_true_eq]
        constructor
        · rintro (k | rfl)
          · exact ⟨by omega, k.2⟩
          · exact ⟨by omega, q1, q2⟩
        · intro k
          by_cases e : j = i
          · exact Or.inr e
          · exact Or.inl ⟨by omega, k.2⟩
      have f1 : gk_tk x i l → wY_after_109 post (wY_after_73 post (nI l) y h_made h_depth h_length h_tokenCount h_wrong (nI (gk_c x)) h_ruleCount h_makingCount h_usefulRules h_stateCount h_wideCount h_useCount h_result b_ops b_firsts b_seconds b_sizes b_stack b_roots b_text b_ends b_tokenKinds b_tokenSizes b_letters b_begins b_closes b_empties b_nexts b_sets b_leads b_classes b_newClasses b_lefts b_rights b_counts b_making b_firstSets b_followSets b_states b_looks b_wides b_work b_met b_tasks b_held b_uses b_reach n) (nI l) y w (nI i) 1 h_made h_depth h_length h_tokenCount h_wrong (nI (gk_c x)) h_ruleCount h_makingCount h_usefulRules h_stateCount h_wideCount h_useCount h_result b_ops b_firsts b_seconds b_sizes b_stack b_roots b_text b_ends b_tokenKinds b_tokenSizes b_letters b_begins b_closes b_empties b_nexts b_sets b_leads b_classes b_newClasses b_lefts b_rights b_counts b_making b_firstSets b_followSets b_states b_looks b_wides b_work b_met b_tasks b_held b_uses b_reach := fun q =>
        br_c (fun z => br_f (by decide) (nm_e (nm_r (nI_1 i) (hk _ (yes (te.mp z) q))))) (fun z => nm_r (nI_1 i) (hk _ (no fun w => z (te.mpr w.1))))
      have f0 : ¬ gk_tk x i l → wY_after_109 post (wY_after_73 post (nI l) y h_made h_depth h_length h_tokenCount h_wrong (nI (gk_c x)) h_ruleCount h_makingCount h_usefulRules h_stateCount h_wideCount h_useCount h_result b_ops b_firsts b_seconds b_sizes b_stack b_roots b_text b_ends b_tokenKinds b_tokenSizes b_letters b_begins b_closes b_empties b_nexts b_sets b_leads b_classes b_newClasses b_lefts b_rights b_counts b_making b_firstSets b_followSets b_states b_looks b_wides b_work b_met b_tasks b_held b_uses b_reach n) (nI l) y w (nI i) 0 h_made h_depth h_length h_tokenCount h_wrong (nI (gk_c x)) h_ruleCount h_makingCount h_usefulRules h_stateCount h_wideCount h_useCount h_result b_ops b_firsts b_seconds b_sizes b_stack b_roots b_text b_ends b_tokenKinds b_tokenSizes b_letters b_begins b_closes b_empties b_nexts b_sets b_leads b_classes b_newClasses b_lefts b_rights b_counts b_making b_firstSets b_followSets b_states b_looks b_wides b_work b_met b_tasks b_held b_uses b_reach := fun q =>
        br_c (fun z => br_t rfl (nm_r (nI_1 i) (hk _ (no fun w => q w.2)))) (fun z => nm_r (nI_1 i) (hk _ (no fun w => q w.2)))
      refine br_f (nI_ge hi (by omega)) ⟨vi, ?_⟩
      rw [ci, oe]
      refine pk_eq o 3 (fun e => f1 ((ot l hl).mpr (Or.inl e))) (fun e => ⟨vi, pk_eq o l (fun e' => f1 ((ot l hl).mpr (Or.inr e'))) (fun e' => f0 fun w => ?_)⟩)
      rcases (ot l hl).mp w with w | w
      · exact e w
      · exact e' w
  -- the first
  have one : ∀ y0 : Int32, (∀ j, bt y0 j = true ↔ a = 64 ∧ gk_bg x j) → ∃ n, wY_after_25 post (nI (yv_v a)) (nI l) h_made h_depth h_length h_tokenCount h_wrong (nI (gk_c x)) h_ruleCount h_makingCount h_usefulRules h_stateCount h_wideCount h_useCount h_result b_ops b_firsts b_seconds b_sizes b_stack b_roots b_text b_ends b_tokenKinds b_tokenSizes b_letters b_begins b_closes b_empties b_nexts b_sets b_leads b_classes b_newClasses b_lefts b_rights b_counts b_making b_firstSets b_followSets b_states b_looks b_wides b_work b_met b_tasks b_held b_uses b_reach n y0 0 := by
    intro y0 hy0
    refine loop_0 (fun n i w => wY_after_25 post (nI (yv_v a)) (nI l) h_made h_depth h_length h_tokenCount h_wrong (nI (gk_c x)) h_ruleCount h_makingCount h_usefulRules h_stateCount h_wideCount h_useCount h_result b_ops b_firsts b_seconds b_sizes b_stack b_roots b_text b_ends b_tokenKinds b_tokenSizes b_letters b_begins b_closes b_empties b_nexts b_sets b_leads b_classes b_newClasses b_lefts b_rights b_counts b_making b_firstSets b_followSets b_states b_looks b_wides b_work b_met b_tasks b_held b_uses b_reach n w (nI i)) (fun i w => ∀ j, bt w j = true ↔ (a = 64 ∧ gk_bg x j) ∨ ∃ k, k < i ∧ bt (nI (yv_v a)) k = true ∧ gk_ar x k j) (gk_c x) y0 (fun j => ?_) ?_ ?_
    · rw [hy0]
      exact ⟨Or.inl, fun q => q.elim id fun ⟨k, k1, _⟩ => absurd k1 (Nat.not_lt_zero _)⟩
    · intro n w hw
      refine br_t (nI_le (Nat.le_refl _) (by omega)) (two w fun j => ?_)
      rw [hw j]
      constructor
      · rintro (⟨q1, q2⟩ | ⟨k, k1, k2, k3⟩)
        · exact ⟨6, by rw [q1]; exact (bn_64 6).mpr rfl, Or.inl ⟨rfl, q2⟩⟩
        · rcases (yb k).mp k2 with z | z
          · omega
          · exact ⟨k, z.2, Or.inr ⟨k1, k3⟩⟩
      · rintro ⟨k, k1, ⟨k2, k3⟩ | ⟨k2, k3⟩⟩
        · left
          refine ⟨?_, k3⟩
          rcases ap_Rb hx ha with z | z
          · exact z
          · have := z.2 k k1
            omega
        · right
          refine ⟨k, k2, (yb k).mpr (Or.inr ⟨fun e => ?_, k1⟩), k3⟩
          rw [e] at k1
          have := (bn_64 k).mp k1
          omega
    · intro n i w hi hw hk
      have vi : vp_in (nI i) 8 := vp_in_nI (by omega) (by decide)
      have ci : (nI i).toNatClampNeg = i := nI_clamp (by omega)
      have te := b_test (nI (yv_v a)) (n := i) (by omega)
      refine br_f (nI_ge hi (by omega)) (br_c (fun z => ⟨vi, ?_⟩) (fun z => nm_r (nI_1 i) (hk _ fun j => ?_)))
      · rw [ci]
        refine nm_e (nm_r (nI_1 i) (hk _ fun j => ?_))
        have dn := d5 i j hi
        rw [Nat.zero_add, Nat.sub_zero] at dn
        rw [b_or, Bool.or_eq_true, hw j, dn]
        constructor
        · rintro ((q | ⟨k, k1, k2⟩) | q)
          · exact Or.inl q
          · exact Or.inr ⟨k, by omega, k2⟩
          · exact Or.inr ⟨i, by omega, te.mp z, q.2⟩
        · rintro (q | ⟨k, k1, k2, k3⟩)
          · exact Or.inl (Or.inl q)
          · by_cases e : k = i
            · rw [e] at k3
              exact Or.inr ⟨Nat.zero_le _, k3⟩
            · exact Or.inl (Or.inr ⟨k, by omega, k2, k3⟩)
      · rw [hw j]
        constructor
        · rintro (q | ⟨k, k1, k2⟩)
          · exact Or.inl q
          · exact Or.inr ⟨k, by omega, k2⟩
        · rintro (q | ⟨k, k1, k2, k3⟩)
          · exact Or.inl q
          · refine Or.inr ⟨k, ?_, k2, k3⟩
            have : k ≠ i := fun e => z (te.mpr (by rw [← e]; exact k2))
            omega
  have te := b_test (nI (yv_v a)) (n := 7) (by omega)
  have b7 : bt (nI (yv_v a)) 7 = true ↔ a = 64 := by
    rw [yb 7]
    constructor
    · rintro (z | z)
      · exact z.2
      · have := ap_Rc hx ha z.2
        omega
    · exact fun z => Or.inl ⟨rfl, z⟩
  refine br_c (fun z => ⟨vp_in_nI hp (by decide), ?_⟩) (fun z => one 0 fun j => ?_)
  · rw [nI_clamp (by omega : p < 2 ^ 31)]
    refine nm_e (one (b_begins p) fun j => ?_)
    have dn := d1 j
    rw [Nat.sub_zero] at dn
    rw [dn]
    exact ⟨fun q => ⟨b7.mp (te.mp z), q.2⟩, fun q => ⟨Nat.zero_le _, q.2⟩⟩
  · rw [b_0]
    exact ⟨(fun q => by cases q), fun q => absurd (te.mpr (b7.mpr q.1)) z⟩
end
