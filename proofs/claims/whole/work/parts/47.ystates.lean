/-! the reference's closures and states -/
variable {h_made h_depth h_length h_tokenCount h_wrong h_letterCount h_ruleCount h_makingCount h_usefulRules h_stateCount h_wideCount h_useCount h_result : Int32} {b_ops b_firsts b_seconds b_sizes b_stack b_roots b_text b_ends b_tokenKinds b_tokenSizes b_letters b_begins b_closes b_empties b_nexts b_sets b_leads b_classes b_newClasses b_lefts b_rights b_counts b_making b_firstSets b_followSets b_tasks b_held b_uses b_reach : Nat → Int32} {b_states b_looks b_wides b_work b_met : Nat → Int64}
section
variable {g : rg_T}
theorem yw_nextOf (hg : rg_ok g) (hG : xg_G g b_lefts b_rights b_counts) {k : Nat} (hk : im_ok g k) {post : Int32 → Prop} (h1 : ∀ x, im_nx g k x → x < 7 → post (nI x)) (h2 : k % 5 = rg_c g (k / 5) → post (-1)) : wpY_nextOf post (h_made, h_depth, h_length, h_tokenCount, h_wrong, h_letterCount, h_ruleCount, h_makingCount, h_usefulRules, h_stateCount, h_wideCount, h_useCount, h_result, b_ops, b_firsts, b_seconds, b_sizes, b_stack, b_roots, b_text, b_ends, b_tokenKinds, b_tokenSizes, b_letters, b_begins, b_closes, b_empties, b_nexts, b_sets, b_leads, b_classes, b_newClasses, b_lefts, b_rights, b_counts, b_making, b_firstSets, b_followSets, b_states, b_looks, b_wides, b_work, b_met, b_tasks, b_held, b_uses, b_reach) (nI k) := by
  have hr' : k / 5 < rg_n g ∨ k / 5 = 9 := hk.1.imp (fun z => z.1) id
  obtain ⟨b1, b2, b3, b4, b5⟩ := rg_b hg hr'
  obtain ⟨g1, g2, g3⟩ := hG _ hr'
  have h47 := im_lt hg hk
  have cr : (nI (k / 5)).toNatClampNeg = k / 5 := nI_clamp (by omega)
  have e1 : nI k / 5 = nI (k / 5) := pk_div (d := 5) (by omega) (by decide) (by decide)
  have e2 : nI k - nI k / 5 * 5 = nI (k % 5) := pk_rem (d := 5) (by omega) (by decide) (by decide)
  refine ⟨by decide, nm_r e1 ⟨by decide, vp_in_nI b1 (by decide), ?_⟩⟩
  rw [cr, g2, e2]
  refine pk_le (rg_c g (k / 5)) (k % 5) (fun z => h2 (by have := hk.2; omega)) (fun z => ⟨by decide, pk_in (k / 5 * 4 + k % 5) 40 (by omega) (ix_l4 _ _), ?_⟩)
  rw [pk_cl (k / 5 * 4 + k % 5) (ix_l4 _ _), g3 _ z]
  exact h1 _ ⟨z, rfl⟩ (b5 _ z)
theorem yw_moved (hg : rg_ok g) (hG : xg_G g b_lefts b_rights b_counts) {S : Int64} (hS : tb_io g S) {x : Nat} (hx : x < 7) {post : Int64 → Prop} (h : ∀ T, (∀ k, bl T k = true ↔ tb_mv g S x k) → post T) : wpY_moved post (h_made, h_depth, h_length, h_tokenCount, h_wrong, h_letterCount, h_ruleCount, h_makingCount, h_usefulRules, h_stateCount, h_wideCount, h_useCount, h_result, b_ops, b_firsts, b_seconds, b_sizes, b_stack, b_roots, b_text, b_ends, b_tokenKinds, b_tokenSizes, b_letters, b_begins, b_closes, b_empties, b_nexts, b_sets, b_leads, b_classes, b_newClasses, b_lefts, b_rights, b_counts, b_making, b_firstSets, b_followSets, b_states, b_looks, b_wides, b_work, b_met, b_tasks, b_held, b_uses, b_reach) S (nI x) := by
  refine loop_0 (fun f i T => wY_moved_6 post S (nI x) h_made h_depth h_length h_tokenCount h_wrong h_letterCount h_ruleCount h_makingCount h_usefulRules h_stateCount h_wideCount h_useCount h_result b_ops b_firsts b_seconds b_sizes b_stack b_roots b_text b_ends b_tokenKinds b_tokenSizes b_letters b_begins b_closes b_empties b_nexts b_sets b_leads b_classes b_newClasses b_lefts b_rights b_counts b_making b_firstSets b_followSets b_states b_looks b_wides b_work b_met b_tasks b_held b_uses b_reach f T (nI i)) (fun i T => ∀ k, bl T k = true ↔ ∃ j, j < i ∧ k = j + 1 ∧ bl S j = true ∧ im_nx g j x) 50 0 ?_ ?_ ?_
  · intro k
    rw [bl_0]
    exact ⟨(fun z => by cases z), fun ⟨j, hj, _⟩ => absurd hj (Nat.not_lt_zero j)⟩
  · intro f T hT
    refine br_t (nI_le (Nat.le_refl 50) (by decide)) (h T fun k => ?_)
    rw [hT k]
    constructor
    · rintro ⟨j, _, z⟩; exact ⟨j, z⟩
    · rintro ⟨j, z⟩
      have := im_lt hg (hS j z.2.1)
      exact ⟨j, by omega, z⟩
  · intro f i T hi hT hk
    have skip : ¬ (bl S i = true ∧ im_nx g i x) → wY_moved_38 post (wY_moved_6 post S (nI x) h_made h_depth h_length h_tokenCount h_wrong h_letterCount h_ruleCount h_makingCount h_usefulRules h_stateCount h_wideCount h_useCount h_result b_ops b_firsts b_seconds b_sizes b_stack b_roots b_text b_ends b_tokenKinds b_tokenSizes b_letters b_begins b_closes b_empties b_nexts b_sets b_leads b_classes b_newClasses b_lefts b_rights b_counts b_making b_firstSets b_followSets b_states b_looks b_wides b_work b_met b_tasks b_held b_uses b_reach f) S (nI x) T (nI i) h_made h_depth h_length h_tokenCount h_wrong h_letterCount h_ruleCount h_makingCount h_usefulRules h_stateCount h_wideCount h_useCount h_result b_ops b_firsts b_seconds b_sizes b_stack b_roots b_text b_ends b_tokenKinds b_tokenSizes b_letters b_begins b_closes b_empties b_nexts b_sets b_leads b_classes b_newClasses b_lefts b_rights b_counts b_making b_firstSets b_followSets b_states b_looks b_wides b_work b_met b_tasks b_held b_uses b_reach := by
      intro z
      refine br_t rfl (nm_r (nI_1 i) (hk T fun k => ?_))
      rw [hT k]
      constructor
      · rintro ⟨j, y1, y2⟩; exact ⟨j, by omega, y2⟩
      · rintro ⟨j, y1, y2, y3⟩
        have : j ≠ i := fun e => z (by rw [← e]; exact y3)
        exact ⟨j, by omega, y2, y3⟩
    refine br_f (nI_ge hi (by decide)) (br_c (fun z => ?_) (fun z => ?_))
    · have z := (bl_test S (n := i) (by omega)).mp z
      refine yw_nextOf hg hG (hS i z) (fun y hy y7 => pk_eq y x (fun e => ?_) (fun e => ?_)) (fun hc => ?_)
      · subst e
        refine br_f (by decide) (nm_e (nm_r (nI_1 i) (hk _ fun k => ?_)))
        rw [bl_or, Bool.or_eq_true, hT k, bl_two _ (by omega), decide_eq_true_eq]
        constructor
        · rintro (⟨j, y1, y2⟩ | rfl)
          · exact ⟨j, by omega, y2⟩
          · exact ⟨i, by omega, rfl, z, hy⟩
        · rintro ⟨j, y1, y2, y3⟩
          by_cases e : j = i
          · subst e; exact Or.inr y2
          · exact Or.inl ⟨j, by omega, y2, y3⟩
      · exact skip fun w => e (hy.2.symm.trans w.2.2)
      · refine br_f (fun w => ?_) (skip fun w => ?_)
        · exact ne_neg (a := x) (by omega) (by decide) w.symm
        · have := w.2.1; omega
    · have z : ¬ bl S i = true := fun y => z ((bl_test S (by omega)).mpr y)
      exact skip fun w => z w.1
/-- item i opens nothing that is not there -/
def yc_s (g : rg_T) (i : Nat) (T : Int64) : Prop := bl T i = true → ∀ r, us_U g r → im_nx g i (rg_l g r) → bl T (5 * r) = true
noncomputable def yc_c (T : Int64) : Nat := cn_c (fun r => bl T (5 * r) = true) 9
theorem yw_clIn (hg : rg_ok g) (hG : xg_G g b_lefts b_rights b_counts) {u : Int32} (hU : yg_U g u) {v n : Nat} (v3 : 3 ≤ v) (v7 : v < 7) {T : Int64} {post : Int64 → Prop} {J : Int64 → Int32 → Prop} (h : ∀ T', (∀ k, bl T' k = true ↔ bl T k = true ∨ ∃ r, us_U g r ∧ rg_l g r = v ∧ k = 5 * r) → J T' (nI (n + 1))) : ∃ f, wY_closure_46 post J (nI n) (nI v) h_made h_depth h_length h_tokenCount h_wrong h_letterCount h_ruleCount h_makingCount u h_stateCount h_wideCount h_useCount h_result b_ops b_firsts b_seconds b_sizes b_stack b_roots b_text b_ends b_tokenKinds b_tokenSizes b_letters b_begins b_closes b_empties b_nexts b_sets b_leads b_classes b_newClasses b_lefts b_rights b_counts b_making b_firstSets b_followSets b_states b_looks b_wides b_work b_met b_tasks b_held b_uses b_reach f T 0 := by
  have h9 := hg.1
  refine loop_0 (fun f r T => wY_closure_46 post J (nI n) (nI v) h_made h_depth h_length h_tokenCount h_wrong h_letterCount h_ruleCount h_makingCount u h_stateCount h_wideCount h_useCount h_result b_ops b_firsts b_seconds b_sizes b_stack b_roots b_text b_ends b_tokenKinds b_tokenSizes b_letters b_begins b_closes b_empties b_nexts b_sets b_leads b_classes b_newClasses b_lefts b_rights b_counts b_making b_firstSets b_followSets b_states b_looks b_wides b_work b_met b_tasks b_held b_uses b_reach f T (nI r)) (fun r T' => ∀ k, bl T' k = true ↔ bl T k = true ∨ ∃ r', r' < r ∧ us_U g r' ∧ rg_l g r' = v ∧ k = 5 * r') 9 T ?_ ?_ ?_
  · intro k
    exact ⟨Or.inl, fun z => by
      rcases z with z | ⟨r', z, _⟩
      · exact z
      · omega⟩
  · intro f T' hT
    refine br_t (nI_le (Nat.le_refl 9) (by decide)) (nm_r (nI_1 n) (h T' fun k => ?_))
    rw [hT k]
    constructor
    · rintro (z | ⟨r', _, z⟩)
      · exact Or.inl z
      · exact Or.inr ⟨r', z⟩
    · rintro (z | ⟨r', z⟩)
      · exact Or.inl z
      · exact Or.inr ⟨r', by have := z.1.1; omega, z⟩
  · intro f r T' hr hT hk
    have skip : ¬ (us_U g r ∧ rg_l g r = v) → ∀ k, bl T' k = true ↔ bl T k = true ∨ ∃ r', r' < r + 1 ∧ us_U g r' ∧ rg_l g r' = v ∧ k = 5 * r' := by
      intro z k
      rw [hT k]
      constructor
      · rintro (y | ⟨r', y1, y2⟩)
        · exact Or.inl y
        · exact Or.inr ⟨r', by omega, y2⟩
      · rintro (y | ⟨r', y1, y2, y3, y4⟩)
        · exact Or.inl y
        · have : r' ≠ r := fun e => z (by rw [← e]; exact ⟨y2, y3⟩)
          exact Or.inr ⟨r', by omega, y2, y3, y4⟩
    refine br_f (nI_ge hr (by decide)) (br_f (nI_ge (a := 2) (by omega) (by omega)) (br_c (fun z => ?_) (fun z => ?_)))
    · have z := (hU r).mp ((b_test u (n := r) (by omega)).mp z)
      obtain ⟨g1, g2, g3⟩ := hG r (Or.inl z.1)
      have l := hg.2.1 r z.1
      refine br_f (by decide) ⟨vp_in_nI (by omega) (by decide), ?_⟩
      rw [nI_clamp (by omega : r < 2 ^ 31), g1]
      refine pk_eq (rg_l g r) v (fun e => ?_) (fun e => nm_r (nI_1 r) (hk T' (skip fun w => e w.2)))
      refine nm_e (nm_r (nI_1 r) (hk _ fun k => ?_))
      rw [show (5 : Int32) * nI r = nI (5 * r) from pk_mul 5 r, bl_or, Bool.or_eq_true, hT k, bl_one _ (by omega), decide_eq_true_eq]
      constructor
      · rintro ((y | ⟨r', y1, y2⟩) | y)
        · exact Or.inl y
        · exact Or.inr ⟨r', by omega, y2⟩
        · exact Or.inr ⟨r, by omega, z, e, y⟩
      · rintro (y | ⟨r', y1, y2, y3, y4⟩)
        · exact Or.inl (Or.inl y)
        · by_cases er : r' = r
          · subst er; exact Or.inr y4
          · exact Or.inl (Or.inr ⟨r', by omega, y2, y3, y4⟩)
    · have z : ¬ us_U g r := fun y => z ((b_test u (by omega)).mpr ((hU r).mpr y))
      exact br_t rfl (nm_r (nI_1 r) (hk T' (skip fun w => z w.1)))
theorem yw_closure (hg : rg_ok g) (hG : xg_G g b_lefts b_rights b_counts) {u : Int32} (hU : yg_U g u) {S : Int64} (hS : tb_io g S) {post : Int64 → Prop} (h : post (mk_l (cl_0 g (fun i => bl S i = true)))) : wpY_closure post (h_made, h_depth, h_length, h_tokenCount, h_wrong, h_letterCount, h_ruleCount, h_makingCount, u, h_stateCount, h_wideCount, h_useCount, h_result, b_ops, b_firsts, b_seconds, b_sizes, b_stack, b_roots, b_text, b_ends, b_tokenKinds, b_tokenSizes, b_letters, b_begins, b_closes, b_empties, b_nexts, b_sets, b_leads, b_classes, b_newClasses, b_lefts, b_rights, b_counts, b_making, b_firstSets, b_followSets, b_states, b_looks, b_wides, b_work, b_met, b_tasks, b_held, b_uses, b_reach) S := by
  have h9 := hg.1
  refine loop_0 (fun f n T => wY_closure_5 post h_made h_depth h_length h_tokenCount h_wrong h_letterCount h_ruleCount h_makingCount u h_stateCount h_wideCount h_useCount h_result b_ops b_firsts b_seconds b_sizes b_stack b_roots b_text b_ends b_tokenKinds b_tokenSizes b_letters b_begins b_closes b_empties b_nexts b_sets b_leads b_classes b_newClasses b_lefts b_rights b_counts b_making b_firstSets b_followSets b_states b_looks b_wides b_work b_met b_tasks b_held b_uses b_reach f T (nI n)) (fun n T => (∀ k, bl S k = true → bl T k = true) ∧ (∀ k, bl T k = true → cl_0 g (fun i => bl S i = true) k) ∧ rd_J 50 (yc_s g) yc_c n T) 500 S ⟨fun _ z => z, fun _ z => cl_sub z, rd_i⟩ ?_ ?_
  · rintro f T ⟨s1, s2, s3⟩
    have cl := rd_end s3 (cn_le _ 9) (by omega) (fun e i _ _ r hr _ => cn_full e r (by have := hr.1; omega))
    have e : T = mk_l (cl_0 g (fun i => bl S i = true)) := by
      apply bl_ext
      intro i _
      have h1 := tb_mk hg (S := fun i => bl S i = true) hS i
      have h2 : bl T i = true ↔ cl_0 g (fun i => bl S i = true) i := by
        refine ⟨s2 i, fun z => z (fun i => bl T i = true) s1 fun k r hk hU hn => ?_⟩
        have := im_lt hg (cl_ok hS (s2 k hk))
        exact cl k (by omega) hk r hU hn
      rw [← h1] at h2
      cases c1 : bl T i <;> cases c2 : bl (mk_l (cl_0 g (fun i => bl S i = true))) i
      · rfl
      · rw [c1, c2] at h2; exact absurd (h2.mpr rfl) (by decide)
      · rw [c1, c2] at h2; exact absurd (h2.mp rfl) (by decide)
      · rfl
    rw [← e] at h
    exact br_t (nI_le (Nat.le_refl 500) (by decide)) h
  · rintro f n T hn ⟨s1, s2, s3⟩ hk
    have e1 : nI n - nI n / 50 * 50 = nI (n % 50) := pk_rem (d := 50) (by omega) (by decide) (by decide)
    have skip : yc_s g (n % 50) T → ∀ y : Int32, y ≤ 2 → ∃ f', wY_closure_46 post (wY_closure_5 post h_made h_depth h_length h_tokenCount h_wrong h_letterCount h_ruleCount h_makingCount u h_stateCount h_wideCount h_useCount h_result b_ops b_firsts b_seconds b_sizes b_stack b_roots b_text b_ends b_tokenKinds b_tokenSizes b_letters b_begins b_closes b_empties b_nexts b_sets b_leads b_classes b_newClasses b_lefts b_rights b_counts b_making b_firstSets b_followSets b_states b_looks b_wides b_work b_met b_tasks b_held b_uses b_reach f) (nI n) y h_made h_depth h_length h_tokenCount h_wrong h_letterCount h_ruleCount h_makingCount u h_stateCount h_wideCount h_useCount h_result b_ops b_firsts b_seconds b_sizes b_stack b_roots b_text b_ends b_tokenKinds b_tokenSizes b_letters b_begins b_closes b_empties b_nexts b_sets b_leads b_classes b_newClasses b_lefts b_rights b_counts b_making b_firstSets b_followSets b_states b_looks b_wides b_work b_met b_tasks b_held b_uses b_reach f' T 0 := by
      intro z y hy
      exact ⟨1, br_f (by decide) (br_t hy (nm_r (nI_1 n) (hk T ⟨s1, s2, rd_keep (by omega) s3 z⟩)))⟩
    refine br_f (nI_ge hn (by decide)) ⟨by decide, nm_r e1 (br_c (fun z => ?_) (fun z => ?_))⟩
    · have z := (bl_test T (n := n % 50) (by omega)).mp z
      have io := cl_ok hS (s2 _ z)
      refine yw_nextOf hg hG io (fun v hv v7 => ?_) (fun hc => skip (fun _ r _ hn' => by have := hn'.1; omega) _ (by decide))
      rcases Nat.lt_or_ge v 3 with y | y
      · refine skip (fun _ r hr hn' => ?_) _ (nI_le (b := 2) (by omega) (by decide))
        have := (hg.2.1 r hr.1).1
        have := hv.2.symm.trans hn'.2
        omega
      · refine yw_clIn hg hG hU y v7 (fun T' hT' => hk T' ⟨fun k hk' => (hT' k).mpr (Or.inl (s1 k hk')), fun k hk' => ?_, ?_⟩)
        · rcases (hT' k).mp hk' with w | ⟨r, w1, w2, rfl⟩
          · exact s2 k w
          · exact cl_self g _ _ r (s2 _ z) w1 (by rw [w2]; exact hv)
        · by_cases w : yc_s g (n % 50) T
          · have es : T' = T := by
              apply bl_ext
              intro k _
              cases c1 : bl T k
              · cases c2 : bl T' k
                · rfl
                · rcases (hT' k).mp c2 with q | ⟨r, w1, w2, rfl⟩
                  · rw [c1] at q; cases q
                  · rw [w z r w1 (by rw [w2]; exact hv)] at c1; cases c1
              · exact (hT' k).mpr (Or.inl c1)
            rw [es]
            exact rd_keep (by omega) s3 w
          · refine rd_grow (by omega) s3 w ?_
            have : ∃ r, us_U g r ∧ rg_l g r = v ∧ ¬ bl T (5 * r) = true := by
              refine Classical.byContradiction fun q => w fun _ r hr hn' => ?_
              exact Classical.byContradiction fun q2 => q ⟨r, hr, hn'.2.symm.trans hv.2, q2⟩
            obtain ⟨r, w1, w2, w3⟩ := this
            exact cn_lt (a := r) w3 ((hT' _).mpr (Or.inr ⟨r, w1, w2, rfl⟩)) (fun k _ q => (hT' _).mpr (Or.inl q)) (by have := w1.1; omega)
    · have z : ¬ bl T (n % 50) = true := fun y => z ((bl_test T (by omega)).mpr y)
      exact skip (fun y => absurd y z) _ (by decide)
/-- the states listed: n of the list's first -/
def yt_k (g : rg_T) (k n : Nat) (items : Nat → Int64) : Prop := (sb_B g k).2 = n ∧ ∀ i, i < n → items i = (sb_B g k).1 i
def yt_ok (g : rg_T) (cnt : Int32) (items : Nat → Int64) : Prop := ∃ k n, yt_k g k n items ∧ n ≤ 61 ∧ (n * 7 ≤ k ∨ n = 61) ∧ cnt = nI n
theorem yw_findState {n : Nat} (hn : n ≤ 61) {T : Int64} {post : Int32 → Prop} (h1 : ∀ s, s < n → b_states s = T → post (nI s)) (h2 : (∀ s, s < n → b_states s ≠ T) → post (nI n)) : wpY_findState post (h_made, h_depth, h_length, h_tokenCount, h_wrong, h_letterCount, h_ruleCount, h_makingCount, h_usefulRules, (nI n), h_wideCount, h_useCount, h_result, b_ops, b_firsts, b_seconds, b_sizes, b_stack, b_roots, b_text, b_ends, b_tokenKinds, b_tokenSizes, b_letters, b_begins, b_closes, b_empties, b_nexts, b_sets, b_leads, b_classes, b_newClasses, b_lefts, b_rights, b_counts, b_making, b_firstSets, b_followSets, b_states, b_looks, b_wides, b_work, b_met, b_tasks, b_held, b_uses, b_reach) T := by
  refine loop_0 (fun f i (_ : Unit) => wY_findState_2 post T h_made h_depth h_length h_tokenCount h_wrong h_letterCount h_ruleCount h_makingCount h_usefulRules (nI n) h_wideCount h_useCount h_result b_ops b_firsts b_seconds b_sizes b_stack b_roots b_text b_ends b_tokenKinds b_tokenSizes b_letters b_begins b_closes b_empties b_nexts b_sets b_leads b_classes b_newClasses b_lefts b_rights b_counts b_making b_firstSets b_followSets b_states b_looks b_wides b_work b_met b_tasks b_held b_uses b_reach f (nI i)) (fun i _ => ∀ s, s < i → b_states s ≠ T) n () (fun s hs => absurd hs (Nat.not_lt_zero s)) ?_ ?_
  · intro f _ hs
    exact br_t (nI_le (Nat.le_refl _) (by omega)) (h2 hs)
  · intro f i _ hi hs hk
    refine br_f (nI_ge hi (by omega)) ⟨vp_in_nI (by omega) (by decide), ?_⟩
    rw [nI_clamp (by omega : i < 2 ^ 31)]
    refine br_c (fun z => h1 i hi z) (fun z => nm_r (nI_1 i) (hk () fun s hs' => ?_))
    rcases Nat.lt_or_ge s i with y | y
    · exact hs s y
    · have y : s = i := by omega
      subst y; exact z
theorem cl_emp {S : Nat → Prop} (h : ∀ k, ¬ S k) (k : Nat) : ¬ cl_0 g S k := fun z => z (fun _ => False) (fun i hi => h i hi) (fun _ _ z _ _ => z)
theorem yw_makeStates (hg : rg_ok g) (hG : xg_G g b_lefts b_rights b_counts) {post : SY → Prop} (h : ∀ u a w cnt items, yg_U g u → xb_ok g a → xb_4 a → yf_ok g w → yt_ok g cnt items → post (h_made, h_depth, h_length, h_tokenCount, h_wrong, h_letterCount, (nI (rg_n g)), h_makingCount, u, cnt, h_wideCount, h_useCount, h_result, b_ops, b_firsts, b_seconds, b_sizes, b_stack, b_roots, b_text, b_ends, b_tokenKinds, b_tokenSizes, b_letters, b_begins, b_closes, b_empties, b_nexts, b_sets, b_leads, b_classes, b_newClasses, b_lefts, b_rights, b_counts, b_making, a, w, items, b_looks, b_wides, b_work, b_met, b_tasks, b_held, b_uses, b_reach)) : wpY_makeStates post (h_made, h_depth, h_length, h_tokenCount, h_wrong, h_letterCount, (nI (rg_n g)), h_makingCount, h_usefulRules, h_stateCount, h_wideCount, h_useCount, h_result, b_ops, b_firsts, b_seconds, b_sizes, b_stack, b_roots, b_text, b_ends, b_tokenKinds, b_tokenSizes, b_letters, b_begins, b_closes, b_empties, b_nexts, b_sets, b_leads, b_classes, b_newClasses, b_lefts, b_rights, b_counts, b_making, b_firstSets, b_followSets, b_states, b_looks, b_wides, b_work, b_met, b_tasks, b_held, b_uses, b_reach) := by
  refine yw_findSets (h_usefulRules := h_usefulRules) (b_firstSets := b_firstSets) (b_followSets := b_followSets) hg hG (fun u a w hU hF h4 hW => ?_)
  have io45 : tb_io g 35184372088832 := by
    intro i hi
    rw [bl_45, decide_eq_true_eq] at hi
    subst hi
    exact im_45 g
  have e45 : (fun i => bl 35184372088832 i = true) = fun k => k = 45 := by
    funext k
    rw [bl_45, decide_eq_true_eq]
  refine yw_closure hg hG hU io45 (nm_e ?_)
  rw [e45]
  have fin : ∀ k n items, yt_k g k n items → n ≤ 61 → (n * 7 ≤ k ∨ n = 61) → post (h_made, h_depth, h_length, h_tokenCount, h_wrong, h_letterCount, (nI (rg_n g)), h_makingCount, u, (nI n), h_wideCount, h_useCount, h_result, b_ops, b_firsts, b_seconds, b_sizes, b_stack, b_roots, b_text, b_ends, b_tokenKinds, b_tokenSizes, b_letters, b_begins, b_closes, b_empties, b_nexts, b_sets, b_leads, b_classes, b_newClasses, b_lefts, b_rights, b_counts, b_making, a, w, items, b_looks, b_wides, b_work, b_met, b_tasks, b_held, b_uses, b_reach) := fun k n items h1 h2 h3 => h u a w _ items hU hF h4 hW ⟨k, n, h1, h2, h3, rfl⟩
  have key : ∀ d s, s + d = 61 → ∀ k n items, s ≤ n → n ≤ 61 → yt_k g k n items → (k = s * 7 ∨ n = 61) → wY_makeStates_24 post h_made h_depth h_length h_tokenCount h_wrong h_letterCount (nI (rg_n g)) h_makingCount u h_wideCount h_useCount h_result (d + 1) (nI s) (nI n) b_ops b_firsts b_seconds b_sizes b_stack b_roots b_text b_ends b_tokenKinds b_tokenSizes b_letters b_begins b_closes b_empties b_nexts b_sets b_leads b_classes b_newClasses b_lefts b_rights b_counts b_making a w items b_looks b_wides b_work b_met b_tasks b_held b_uses b_reach := by
    intro d
    induction d with
    | zero =>
      intro s hs k n items h1 h2 h3 h5
      exact br_t (nI_le (by omega) (by omega)) (fin k n items h3 h2 (by omega))
    | succ d ih =>
      intro s hs k n items h1 h2 h3 h5
      refine pk_le n s (fun z => fin k n items h3 h2 (by omega)) (fun z => pk_le 61 n (fun y => fin k n items h3 h2 (by omega)) (fun y => ?_))
      have h5 : k = s * 7 := by omega
      subst h5
      refine loop_0 (fun f x σ => wY_makeStates_43 post (wY_makeStates_24 post h_made h_depth h_length h_tokenCount h_wrong h_letterCount (nI (rg_n g)) h_makingCount u h_wideCount h_useCount h_result (d + 1)) (nI s) h_made h_depth h_length h_tokenCount h_wrong h_letterCount (nI (rg_n g)) h_makingCount u h_wideCount h_useCount h_result f (nI x) (nI σ.1) b_ops b_firsts b_seconds b_sizes b_stack b_roots b_text b_ends b_tokenKinds b_tokenSizes b_letters b_begins b_closes b_empties b_nexts b_sets b_leads b_classes b_newClasses b_lefts b_rights b_counts b_making a w σ.2 b_looks b_wides b_work b_met b_tasks b_held b_uses b_reach) (fun x σ => s < σ.1 ∧ σ.1 ≤ 61 ∧ ∃ k, yt_k g k σ.1 σ.2 ∧ (k = s * 7 + x ∨ σ.1 = 61)) 7 (n, items) ⟨z, h2, s * 7, h3, Or.inl rfl⟩ ?_ ?_
      · rintro f ⟨n, items⟩ ⟨a1, a2, k, a3, a4⟩
        have a4 : k = s * 7 + 7 ∨ n = 61 := a4
        exact br_t (nI_le (Nat.le_refl 7) (by decide)) (nm_r (nI_1 s) (ih (s + 1) (by omega) k n items a1 a2 a3 (by omega)))
      · rintro f x ⟨n, items⟩ hx ⟨a1, a2, k, a3, a4⟩ hk
        have a1 : s < n := a1
        have a2 : n ≤ 61 := a2
        have a3 : yt_k g k n items := a3
        have a4 : k = s * 7 + x ∨ n = 61 := a4
        refine br_f (nI_ge hx (by decide)) (pk_le 61 n (fun y => ?_) (fun y => ?_))
        · exact nm_r (nI_1 s) (ih (s + 1) (by omega) k n items a1 a2 a3 (by omega))
        · have a4 : k = s * 7 + x := by omega
          subst a4
          have cs : (nI s).toNatClampNeg = s := nI_clamp (by omega)
          have q1 : (s * 7 + x) / 7 = s := by omega
          have q2 : (s * 7 + x) % 7 = x := by omega
          have hn := a3.1
          have his := a3.2 s a1
          have hio : tb_io g (items s) := by rw [his]; exact sb_io hg _ s (by omega)
          have eB : sb_B g (s * 7 + x + 1) = bf_st (tb_to g) (s * 7 + x) (sb_B g (s * 7 + x)) := rfl
          refine ⟨vp_in_nI (by omega) (by decide), ?_⟩
          rw [cs]
          refine yw_moved hg hG hio hx (fun M hM => ?_)
          have ioM : tb_io g M := fun i hi => tb_mv_ok hg hio ((hM i).mp hi)
          have eM : (fun i => bl M i = true) = tb_mv g (items s) x := by
            funext i
            exact propext (hM i)
          refine yw_closure hg hG hU ioM ?_
          rw [eM]
          have keep : sb_B g (s * 7 + x + 1) = sb_B g (s * 7 + x) → s < n ∧ n ≤ 61 ∧ ∃ k, yt_k g k n items ∧ (k = s * 7 + (x + 1) ∨ n = 61) := by
            intro e
            refine ⟨a1, a2, s * 7 + x + 1, ?_, Or.inl rfl⟩
            unfold yt_k
            rw [e]; exact a3
          by_cases ne : ∃ j, tb_mv g (items s) x j
          · obtain ⟨j0, hj0⟩ := ne
            have sm : tb_to g ((sb_B g (s * 7 + x)).1 s) x = some (mk_l (cl_0 g (tb_mv g (items s) x))) := by
              rw [← his]; exact tb_ex hj0
            have nz : ¬ mk_l (cl_0 g (tb_mv g (items s) x)) = 0 := fun z0 => bl_no z0 j0 ((tb_mk hg (fun i hi => tb_mv_ok hg hio hi) j0).mpr (cl_sub hj0))
            refine yw_findState (b_states := items) (by omega) (fun s' hs' e' => br_f nz (br_f (fun e => ?_) (nm_r (nI_1 x) (hk (n, items) (keep (eB.trans (bf_old (by rw [q1, q2]; exact sm) ⟨s', by omega, ?_⟩))))))) (fun hno => ?_)
            · have := (nI_eq (a := s') (b := n) (by omega) (by omega)).mp e; omega
            · rw [← a3.2 s' hs']; exact e'
            · have new : ¬ ∃ s', s' < (sb_B g (s * 7 + x)).2 ∧ (sb_B g (s * 7 + x)).1 s' = mk_l (cl_0 g (tb_mv g (items s) x)) := by
                rintro ⟨s', z1, z2⟩
                exact hno s' (by omega) (by rw [a3.2 s' (by omega)]; exact z2)
              have eN := eB.trans (bf_new (by rw [q1]; omega) (by rw [q1, q2]; exact sm) new)
              refine br_f nz (br_t rfl ⟨vp_in_nI (by omega) (by decide), nm_r (by rw [nI_clamp (by omega)]) (nm_r (nI_1 n) (nm_r (nI_1 x) (hk (n + 1, vp_updL items n (mk_l (cl_0 g (tb_mv g (items s) x)))) ⟨by show s < n + 1; omega, by show n + 1 ≤ 61; omega, s * 7 + x + 1, ?_, Or.inl rfl⟩)))⟩)
              unfold yt_k
              rw [eN, hn]
              refine ⟨rfl, fun i hi => ?_⟩
              have hi : i < n + 1 := hi
              show vp_updL items n _ i = if i = n then _ else _
              by_cases e : i = n
              · subst e; rw [pk_uLs, if_pos rfl]
              · rw [pk_uLn e, if_neg e]; exact a3.2 i (by omega)
          · have no : tb_to g ((sb_B g (s * 7 + x)).1 s) x = none := by
              rw [← his]; exact if_neg ne
            have z0 : mk_l (cl_0 g (tb_mv g (items s) x)) = 0 := by
              rw [bl_zero]
              intro i _
              cases e : bl (mk_l (cl_0 g (tb_mv g (items s) x))) i
              · rfl
              · exact absurd ((tb_mk hg (fun i hi => tb_mv_ok hg hio hi) i).mp e) (cl_emp (fun k hk => ne ⟨k, hk⟩) i)
            have go := hk (n, items) (keep (eB.trans (bf_none (by rw [q1, q2]; exact no))))
            exact yw_findState (b_states := items) (by omega) (fun s' hs' e' => br_t z0 (nm_r (nI_1 x) go)) (fun hno => br_t z0 (nm_r (nI_1 x) go))
  refine ⟨62, key 61 0 rfl 0 1 _ (by omega) (by omega) ⟨rfl, fun i hi => ?_⟩ (Or.inl rfl)⟩
  have : i = 0 := by omega
  subst this
  exact pk_uLs
end
