/-! the reference closes four sets of items -/
variable {h_made h_depth h_length h_tokenCount h_wrong h_letterCount h_ruleCount h_makingCount h_usefulRules h_stateCount h_wideCount h_useCount h_result : Int32} {b_ops b_firsts b_seconds b_sizes b_stack b_roots b_text b_ends b_tokenKinds b_tokenSizes b_letters b_begins b_closes b_empties b_nexts b_sets b_leads b_classes b_newClasses b_lefts b_rights b_counts b_making b_firstSets b_followSets b_tasks b_held b_uses b_reach : Nat → Int32} {b_states b_looks b_wides b_work b_met : Nat → Int64}
section
variable {g : rg_T}
noncomputable def yo_c (W : Nat → Int64) : Nat := cn_c (fun x => bl (W (x % 4)) (5 * (x / 4)) = true) 36
theorem yo_lt {W W' : Nat → Int64} (h : ∀ t k, t < 4 → bl (W t) k = true → bl (W' t) k = true) {t r : Nat} (ht : t < 4) (hr : r < 9) (h1 : ¬ bl (W t) (5 * r) = true) (h2 : bl (W' t) (5 * r) = true) : yo_c W < yo_c W' := by
  have e1 : (r * 4 + t) % 4 = t := by omega
  have e2 : (r * 4 + t) / 4 = r := by omega
  exact cn_lt (a := r * 4 + t) (by rw [e1, e2]; exact h1) (by rw [e1, e2]; exact h2) (fun x _ z => h _ _ (by omega) z) (by omega)
theorem yw_addRules (hg : rg_ok g) (hG : xg_G g b_lefts b_rights b_counts) {u : Int32} (hU : yg_U g u) (h4 : xb_4 b_firstSets) (hF : xb_ok g b_firstSets) {k v t0 : Nat} (hk : im_ok g k) (hv : im_nx g k v) (v7 : v < 7) (ht0 : t0 < 4) {post : Int32 → SY → Prop}
    (h : ∀ c W, (∀ t j, t < 4 → (bl (W t) j = true ↔ bl (b_work t) j = true ∨ ∃ r, us_U g r ∧ rg_l g r = v ∧ j = 5 * r ∧ fs_t (fi_F g) (rg_h g (k / 5)) (rg_c g (k / 5) - (k % 5 + 1)) (k % 5 + 1) t0 t)) → ((c = 0 ∧ W = b_work) ∨ (c = 1 ∧ yo_c b_work < yo_c W)) → post c (h_made, h_depth, h_length, h_tokenCount, h_wrong, h_letterCount, h_ruleCount, h_makingCount, u, h_stateCount, h_wideCount, h_useCount, h_result, b_ops, b_firsts, b_seconds, b_sizes, b_stack, b_roots, b_text, b_ends, b_tokenKinds, b_tokenSizes, b_letters, b_begins, b_closes, b_empties, b_nexts, b_sets, b_leads, b_classes, b_newClasses, b_lefts, b_rights, b_counts, b_making, b_firstSets, b_followSets, b_states, b_looks, b_wides, W, b_met, b_tasks, b_held, b_uses, b_reach)) : wpY_addRules post (h_made, h_depth, h_length, h_tokenCount, h_wrong, h_letterCount, h_ruleCount, h_makingCount, u, h_stateCount, h_wideCount, h_useCount, h_result, b_ops, b_firsts, b_seconds, b_sizes, b_stack, b_roots, b_text, b_ends, b_tokenKinds, b_tokenSizes, b_letters, b_begins, b_closes, b_empties, b_nexts, b_sets, b_leads, b_classes, b_newClasses, b_lefts, b_rights, b_counts, b_making, b_firstSets, b_followSets, b_states, b_looks, b_wides, b_work, b_met, b_tasks, b_held, b_uses, b_reach) (nI k) (nI v) (nI t0) := by
  have h9 := hg.1
  have hr' : k / 5 < rg_n g ∨ k / 5 = 9 := hk.1.imp (fun z => z.1) id
  obtain ⟨b1, b2, b3, b4, b5⟩ := rg_b hg hr'
  have h47 := im_lt hg hk
  have e1 : nI k / 5 = nI (k / 5) := pk_div (d := 5) (by omega) (by decide) (by decide)
  have e2 : nI k - nI k / 5 * 5 = nI (k % 5) := pk_rem (d := 5) (by omega) (by decide) (by decide)
  have hp := hv.1
  -- the loop over rules and looks, whatever mask tells the looks
  have lp : ∀ x : Int32, (∀ t, t < 4 → (bt x t = true ↔ fs_t (fi_F g) (rg_h g (k / 5)) (rg_c g (k / 5) - (k % 5 + 1)) (k % 5 + 1) t0 t)) → ∃ f, wY_addRules_44 post (nI v) x h_made h_depth h_length h_tokenCount h_wrong h_letterCount h_ruleCount h_makingCount u h_stateCount h_wideCount h_useCount h_result f 0 0 b_ops b_firsts b_seconds b_sizes b_stack b_roots b_text b_ends b_tokenKinds b_tokenSizes b_letters b_begins b_closes b_empties b_nexts b_sets b_leads b_classes b_newClasses b_lefts b_rights b_counts b_making b_firstSets b_followSets b_states b_looks b_wides b_work b_met b_tasks b_held b_uses b_reach := by
    intro x hx
    refine loop_0 (fun f n s => wY_addRules_44 post (nI v) x h_made h_depth h_length h_tokenCount h_wrong h_letterCount h_ruleCount h_makingCount u h_stateCount h_wideCount h_useCount h_result f s.1 (nI n) b_ops b_firsts b_seconds b_sizes b_stack b_roots b_text b_ends b_tokenKinds b_tokenSizes b_letters b_begins b_closes b_empties b_nexts b_sets b_leads b_classes b_newClasses b_lefts b_rights b_counts b_making b_firstSets b_followSets b_states b_looks b_wides s.2 b_met b_tasks b_held b_uses b_reach) (fun n s => (∀ t j, t < 4 → (bl (s.2 t) j = true ↔ bl (b_work t) j = true ∨ ∃ n', n' < n ∧ n' % 4 = t ∧ us_U g (n' / 4) ∧ rg_l g (n' / 4) = v ∧ j = 5 * (n' / 4) ∧ bt x t = true)) ∧ ((s.1 = 0 ∧ s.2 = b_work) ∨ (s.1 = 1 ∧ yo_c b_work < yo_c s.2))) 36 ((0 : Int32), b_work) ⟨fun t j ht => ⟨Or.inl, fun z => by
      rcases z with z | ⟨n', z, _⟩
      · exact z
      · omega⟩, Or.inl ⟨rfl, rfl⟩⟩ ?_ ?_
    · rintro f ⟨c, W⟩ ⟨s1, s2⟩
      have s1 : ∀ t j, t < 4 → (bl (W t) j = true ↔ bl (b_work t) j = true ∨ ∃ n', n' < 36 ∧ n' % 4 = t ∧ us_U g (n' / 4) ∧ rg_l g (n' / 4) = v ∧ j = 5 * (n' / 4) ∧ bt x t = true) := s1
      have s2 : (c = 0 ∧ W = b_work) ∨ (c = 1 ∧ yo_c b_work < yo_c W) := s2
      refine br_t (nI_le (Nat.le_refl 36) (by decide)) ⟨?_, h c W (fun t j ht => ?_) s2⟩
      · rcases s2 with ⟨q, _⟩ | ⟨q, _⟩
        · show narrow .boolean (.int c) = .int c
          rw [q]; exact nb_0
        · show narrow .boolean (.int c) = .int c
          rw [q]; exact nb_1
      · rw [s1 t j ht]
        constructor
        · rintro (z | ⟨n', q1, q2, q3, q4, q5, q6⟩)
          · exact Or.inl z
          · exact Or.inr ⟨n' / 4, q3, q4, q5, (hx t ht).mp q6⟩
        · rintro (z | ⟨r, q1, q2, q3, q4⟩)
          · exact Or.inl z
          · have := q1.1
            refine Or.inr ⟨r * 4 + t, by omega, by omega, ?_, ?_, ?_, (hx t ht).mpr q4⟩
            · rw [show (r * 4 + t) / 4 = r by omega]; exact q1
            · rw [show (r * 4 + t) / 4 = r by omega]; exact q2
            · rw [show (r * 4 + t) / 4 = r by omega]; exact q3
    · rintro f n ⟨c, W⟩ hn ⟨s1, s2⟩ hk2
      have s1 : ∀ t j, t < 4 → (bl (W t) j = true ↔ bl (b_work t) j = true ∨ ∃ n', n' < n ∧ n' % 4 = t ∧ us_U g (n' / 4) ∧ rg_l g (n' / 4) = v ∧ j = 5 * (n' / 4) ∧ bt x t = true) := s1
      have s2 : (c = 0 ∧ W = b_work) ∨ (c = 1 ∧ yo_c b_work < yo_c W) := s2
      have d1 : nI n / 4 = nI (n / 4) := pk_div (d := 4) (by omega) (by decide) (by decide)
      have d2 : nI n - nI n / 4 * 4 = nI (n % 4) := pk_rem (d := 4) (by omega) (by decide) (by decide)
      have ct : (nI (n % 4)).toNatClampNeg = n % 4 := nI_clamp (by omega)
      have it : vp_in (nI (n % 4)) 4 := vp_in_nI (by omega) (by decide)
      have e5 : (5 : Int32) * nI (n / 4) = nI (5 * (n / 4)) := pk_mul 5 (n / 4)
      -- nothing fresh
      have skip : (us_U g (n / 4) → rg_l g (n / 4) = v → bt x (n % 4) = true → bl (W (n % 4)) (5 * (n / 4)) = true) → ∀ m : Int64, wY_addRules_119 post (wY_addRules_44 post (nI v) x h_made h_depth h_length h_tokenCount h_wrong h_letterCount h_ruleCount h_makingCount u h_stateCount h_wideCount h_useCount h_result f) (nI v) x c (nI n) m h_made h_depth h_length h_tokenCount h_wrong h_letterCount h_ruleCount h_makingCount u h_stateCount h_wideCount h_useCount h_result b_ops b_firsts b_seconds b_sizes b_stack b_roots b_text b_ends b_tokenKinds b_tokenSizes b_letters b_begins b_closes b_empties b_nexts b_sets b_leads b_classes b_newClasses b_lefts b_rights b_counts b_making b_firstSets b_followSets b_states b_looks b_wides W b_met b_tasks b_held b_uses b_reach := by
        intro z m
        have same : vp_updL W (n % 4) (W (n % 4)) = W := by
          funext j
          unfold vp_updL
          split
          · rename_i e; rw [e]
          · rfl
        have go : ∀ c', c' = c → wY_addRules_44 post (nI v) x h_made h_depth h_length h_tokenCount h_wrong h_letterCount h_ruleCount h_makingCount u h_stateCount h_wideCount h_useCount h_result f c' (nI (n + 1)) b_ops b_firsts b_seconds b_sizes b_stack b_roots b_text b_ends b_tokenKinds b_tokenSizes b_letters b_begins b_closes b_empties b_nexts b_sets b_leads b_classes b_newClasses b_lefts b_rights b_counts b_making b_firstSets b_followSets b_states b_looks b_wides W b_met b_tasks b_held b_uses b_reach := by
          rintro c' rfl
          refine hk2 (c', W) ⟨fun t j ht => ?_, s2⟩
          show bl (W t) j = true ↔ _
          rw [s1 t j ht]
          constructor
          · rintro (w | ⟨n', q1, q2⟩)
            · exact Or.inl w
            · exact Or.inr ⟨n', by omega, q2⟩
          · rintro (w | ⟨n', q1, q2, q3, q4, q5, q6⟩)
            · exact Or.inl w
            · by_cases e : n' = n
              · subst e
                subst q2
                rw [q5]
                exact (s1 _ _ ht).mp (z q3 q4 q6)
              · exact Or.inr ⟨n', by omega, q2, q3, q4, q5, q6⟩
        unfold wY_addRules_119 wY_addRules_120 wY_addRules_159
        rw [d2, ct]
        refine ⟨by decide, br_t rfl ⟨by decide, it, it, nm_r same ?_⟩⟩
        rcases s2 with ⟨q, _⟩ | ⟨q, _⟩
        · exact br_t q (br_t rfl (nm_r (nI_1 n) (go 0 q.symm)))
        · exact br_f (by rw [q]; decide) (nm_r (nI_1 n) (go 1 q.symm))
      refine br_f (nI_ge hn (by decide)) ⟨by decide, nm_r d1 (nm_e (br_c (fun z => ?_) (fun z => ?_)))⟩
      · have z := (hU _).mp ((b_test u (n := n / 4) (by omega)).mp z)
        obtain ⟨g1, g2, g3⟩ := hG (n / 4) (Or.inl z.1)
        have l := hg.2.1 _ z.1
        refine br_f (by decide) ⟨vp_in_nI (by omega) (by decide), ?_⟩
        rw [nI_clamp (by omega : n / 4 < 2 ^ 31), g1]
        refine pk_eq (rg_l g (n / 4)) v (fun y => ⟨by decide, ?_⟩) (fun y => skip (fun _ q _ => absurd q y) _)
        rw [d2]
        refine br_c (fun w => ⟨by decide, it, ?_⟩) (fun w => skip (fun _ _ q => absurd ((b_test x (by omega)).mpr q) w) _)
        have w := (b_test x (n := n % 4) (by omega)).mp w
        rw [ct, e5]
        have hone : ∀ j, bl ((1 : Int64) <<< ((nI (5 * (n / 4))).toInt64 &&& 63)) j = true ↔ j = 5 * (n / 4) := fun j => by rw [bl_one _ (by omega), decide_eq_true_eq]
        refine br_c (fun q => ?_) (fun q => skip (fun _ _ _ => ?_) _)
        · have q : ¬ bl (W (n % 4)) (5 * (n / 4)) = true := by
            intro q2
            have : bl (W (n % 4) &&& (1 : Int64) <<< ((nI (5 * (n / 4))).toInt64 &&& 63)) (5 * (n / 4)) = true := by rw [bl_and, q2, (hone _).mpr rfl]; rfl
            exact bl_no q _ this
          have e : ∀ t j, bl (vp_updL W (n % 4) (W (n % 4) ||| (1 : Int64) <<< ((nI (5 * (n / 4))).toInt64 &&& 63)) t) j = true ↔ bl (W t) j = true ∨ (t = n % 4 ∧ j = 5 * (n / 4)) := by
            intro t j
            by_cases e : t = n % 4
            · subst e
              rw [pk_uLs, bl_or, Bool.or_eq_true, hone]
              exact ⟨fun p => p.imp id (fun p => ⟨rfl, p⟩), fun p => p.imp id (fun p => p.2)⟩
            · rw [pk_uLn e]
              exact ⟨Or.inl, fun p => by
                rcases p with p | p
                · exact p
                · exact absurd p.1 e⟩
          have gr : yo_c b_work < yo_c (vp_updL W (n % 4) (W (n % 4) ||| (1 : Int64) <<< ((nI (5 * (n / 4))).toInt64 &&& 63))) := by
            have p1 := yo_lt (W := W) (fun t j _ hj => (e t j).mpr (Or.inl hj)) (t := n % 4) (r := n / 4) (by omega) (by omega) q ((e _ _).mpr (Or.inr ⟨rfl, rfl⟩))
            have p2 : yo_c b_work ≤ yo_c W := by
              rcases s2 with ⟨_, p⟩ | ⟨_, p⟩
              · rw [p]; omega
              · omega
            omega
          have go : wY_addRules_44 post (nI v) x h_made h_depth h_length h_tokenCount h_wrong h_letterCount h_ruleCount h_makingCount u h_stateCount h_wideCount h_useCount h_result f 1 (nI (n + 1)) b_ops b_firsts b_seconds b_sizes b_stack b_roots b_text b_ends b_tokenKinds b_tokenSizes b_letters b_begins b_closes b_empties b_nexts b_sets b_leads b_classes b_newClasses b_lefts b_rights b_counts b_making b_firstSets b_followSets b_states b_looks b_wides (vp_updL W (n % 4) (W (n % 4) ||| (1 : Int64) <<< ((nI (5 * (n / 4))).toInt64 &&& 63))) b_met b_tasks b_held b_uses b_reach := by
            refine hk2 (1, vp_updL W (n % 4) (W (n % 4) ||| (1 : Int64) <<< ((nI (5 * (n / 4))).toInt64 &&& 63))) ⟨fun t j ht => ?_, Or.inr ⟨rfl, gr⟩⟩
            show bl (vp_updL W (n % 4) (W (n % 4) ||| (1 : Int64) <<< ((nI (5 * (n / 4))).toInt64 &&& 63)) t) j = true ↔ _
            rw [e t j, s1 t j ht]
            constructor
            · rintro ((p | ⟨n', p1, p2⟩) | ⟨p1, p2⟩)
              · exact Or.inl p
              · exact Or.inr ⟨n', by omega, p2⟩
              · exact Or.inr ⟨n, by omega, p1.symm, z, y, p2, by rw [p1]; exact w⟩
            · rintro (p | ⟨n', p1, p2, p3, p4, p5, p6⟩)
              · exact Or.inl (Or.inl p)
              · by_cases en : n' = n
                · subst en; exact Or.inr ⟨p2.symm, p5⟩
                · exact Or.inl (Or.inr ⟨n', by omega, p2, p3, p4, p5, p6⟩)
          unfold wY_addRules_120 wY_addRules_159
          rw [d2, ct]
          refine ⟨by decide, br_f (by decide) ⟨by decide, it, it, nm_e ?_⟩⟩
          rcases s2 with ⟨p, _⟩ | ⟨p, _⟩
          · exact br_t p (br_f (by decide) (nm_r (nI_1 n) go))
          · exact br_f (by show ¬ c = 0; rw [p]; decide) (nm_r (nI_1 n) go)
        · obtain ⟨j, hj⟩ := bl_ne q
          rw [bl_and, Bool.and_eq_true, hone] at hj
          rw [← hj.2]; exact hj.1
      · have z : ¬ us_U g (n / 4) := fun y => z ((b_test u (by omega)).mpr ((hU _).mpr y))
        exact br_t rfl (skip (fun y => absurd y z) _)
  refine ⟨by decide, by decide, ?_⟩
  rw [e1, ← e1, e2, e1, nI_1]
  refine yw_firstFrom hg hG h4 hr' (by omega) (fun x hx => ?_)
  have hx : ∀ b, bt x b = true ↔ fs_b (fi_F g) (rg_h g (k / 5)) (rg_c g (k / 5) - (k % 5 + 1)) (k % 5 + 1) b := fun b => by rw [hx b]; exact fs_iff7 b5 hF _ _ _ (by omega)
  refine br_c (fun z => lp x fun t ht => ?_) (fun z => nm_e (lp _ fun t ht => ?_))
  · have z := (b_and8 _).mp z
    have n3 : ¬ fs_b (fi_F g) (rg_h g (k / 5)) (rg_c g (k / 5) - (k % 5 + 1)) (k % 5 + 1) 3 := fun q => by rw [(hx 3).mpr q] at z; cases z
    rw [hx t]
    constructor
    · intro q
      have : t ≠ 3 := fun e => n3 (by rw [← e]; exact q)
      exact Or.inl ⟨by omega, q⟩
    · rintro (⟨_, q⟩ | ⟨q, _⟩)
      · exact q
      · exact absurd q n3
  · have z : bt x 3 = true := ts_nf fun q => z ((b_and8 _).mpr q)
    rw [b_or, Bool.or_eq_true, b_and, Bool.and_eq_true, b_7b, decide_eq_true_eq, hx t, b_one _ (by omega), decide_eq_true_eq]
    constructor
    · rintro (⟨q1, q2⟩ | q)
      · exact Or.inl ⟨q2, q1⟩
      · exact Or.inr ⟨(hx 3).mp z, q⟩
    · rintro (⟨q1, q2⟩ | ⟨_, q⟩)
      · exact Or.inl ⟨q2, q1⟩
      · exact Or.inr q
/-- item k with look t opens nothing that is not there -/
def yo_s (g : rg_T) (W : Nat → Int64) (k t0 : Nat) : Prop := bl (W t0) k = true → ∀ r t, us_U g r → im_nx g k (rg_l g r) → fs_t (fi_F g) (rg_h g (k / 5)) (rg_c g (k / 5) - (k % 5 + 1)) (k % 5 + 1) t0 t → bl (W t) (5 * r) = true
theorem yo_end (hg : rg_ok g) {W S : Nat → Int64} (hS : xo_io g S) (h1 : ∀ t k, t < 4 → bl (S t) k = true → bl (W t) k = true) (h2 : ∀ t k, t < 4 → bl (W t) k = true → cw_0 g (xo_S S) t k) (h3 : ∀ k t, k < 50 → t < 4 → yo_s g W k t) {t : Nat} (ht : t < 4) : W t = mk_l (cw_0 g (xo_S S) t) := by
  apply bl_ext
  intro i _
  have hin : ∀ t k, xo_S S t k → tw_in g t k := fun t k z => hS t k z.1 z.2
  have e1 := tw_mk hg hin ht i
  rw [w4_tm ht] at e1
  have e2 : bl (W t) i = true ↔ cw_0 g (xo_S S) t i := by
    refine ⟨h2 t i ht, fun z => (z (fun t k => t < 4 ∧ bl (W t) k = true) (fun t k w => ⟨w.1, h1 t k w.1 w.2⟩) fun t k r t' hk hU hn hf => ?_).2⟩
    have ht' : t' < 4 := by have := fs_t_le (t := t) (by omega) hf; omega
    have := im_lt hg (cw_ok hg hin (h2 t k hk.1 hk.2)).1
    exact ⟨ht', h3 k t (by omega) hk.1 hk.2 r t' hU hn hf⟩
  rw [← e1] at e2
  cases c1 : bl (W t) i <;> cases c2 : bl (mk_l (cw_0 g (xo_S S) t)) i
  · rfl
  · rw [c1, c2] at e2; exact absurd (e2.mpr rfl) (by decide)
  · rw [c1, c2] at e2; exact absurd (e2.mp rfl) (by decide)
  · rfl
theorem yw_closeWork (hg : rg_ok g) (hG : xg_G g b_lefts b_rights b_counts) {u : Int32} (hU : yg_U g u) (h4 : xb_4 b_firstSets) (hF : xb_ok g b_firstSets) (hS : xo_io g b_work) {post : SY → Prop} (h : ∀ W, (∀ t, t < 4 → W t = mk_l (cw_0 g (xo_S b_work) t)) → post (h_made, h_depth, h_length, h_tokenCount, h_wrong, h_letterCount, h_ruleCount, h_makingCount, u, h_stateCount, h_wideCount, h_useCount, h_result, b_ops, b_firsts, b_seconds, b_sizes, b_stack, b_roots, b_text, b_ends, b_tokenKinds, b_tokenSizes, b_letters, b_begins, b_closes, b_empties, b_nexts, b_sets, b_leads, b_classes, b_newClasses, b_lefts, b_rights, b_counts, b_making, b_firstSets, b_followSets, b_states, b_looks, b_wides, W, b_met, b_tasks, b_held, b_uses, b_reach)) : wpY_closeWork post (h_made, h_depth, h_length, h_tokenCount, h_wrong, h_letterCount, h_ruleCount, h_makingCount, u, h_stateCount, h_wideCount, h_useCount, h_result, b_ops, b_firsts, b_seconds, b_sizes, b_stack, b_roots, b_text, b_ends, b_tokenKinds, b_tokenSizes, b_letters, b_begins, b_closes, b_empties, b_nexts, b_sets, b_leads, b_classes, b_newClasses, b_lefts, b_rights, b_counts, b_making, b_firstSets, b_followSets, b_states, b_looks, b_wides, b_work, b_met, b_tasks, b_held, b_uses, b_reach) := by
  have hin : ∀ t k, xo_S b_work t k → tw_in g t k := fun t k z => hS t k z.1 z.2
  have key : ∀ d q, q + d = 38 → ∀ (c : Int32) (W : Nat → Int64), (∀ t k, t < 4 → bl (b_work t) k = true → bl (W t) k = true) → (∀ t k, t < 4 → bl (W t) k = true → cw_0 g (xo_S b_work) t k) → ((c = 0 ∧ ∀ k t, k < 50 → t < 4 → yo_s g W k t) ∨ (¬ c = 0 ∧ q ≤ yo_c W)) → wY_closeWork_2 post (d + 1) c h_made h_depth h_length h_tokenCount h_wrong h_letterCount h_ruleCount h_makingCount u h_stateCount h_wideCount h_useCount h_result b_ops b_firsts b_seconds b_sizes b_stack b_roots b_text b_ends b_tokenKinds b_tokenSizes b_letters b_begins b_closes b_empties b_nexts b_sets b_leads b_classes b_newClasses b_lefts b_rights b_counts b_making b_firstSets b_followSets b_states b_looks b_wides W b_met b_tasks b_held b_uses b_reach := by
    intro d
    induction d with
    | zero =>
      intro q hq c W h1 h2 h3
      rcases h3 with ⟨e, h3⟩ | ⟨_, h3⟩
      · exact br_t e (h W fun t ht => yo_end hg hS h1 h2 h3 ht)
      · have : yo_c W ≤ 36 := cn_le _ 36
        omega
    | succ d ih =>
      intro q hq c W h1 h2 h3
      rcases h3 with ⟨e, h3⟩ | ⟨e, h3⟩
      · exact br_t e (h W fun t ht => yo_end hg hS h1 h2 h3 ht)
      · refine br_f e ?_
        refine loop_0 (fun f n s => wY_closeWork_10 post (wY_closeWork_2 post (d + 1)) f s.1 (nI n) h_made h_depth h_length h_tokenCount h_wrong h_letterCount h_ruleCount h_makingCount u h_stateCount h_wideCount h_useCount h_result b_ops b_firsts b_seconds b_sizes b_stack b_roots b_text b_ends b_tokenKinds b_tokenSizes b_letters b_begins b_closes b_empties b_nexts b_sets b_leads b_classes b_newClasses b_lefts b_rights b_counts b_making b_firstSets b_followSets b_states b_looks b_wides s.2 b_met b_tasks b_held b_uses b_reach) (fun n s => (∀ t k, t < 4 → bl (b_work t) k = true → bl (s.2 t) k = true) ∧ (∀ t k, t < 4 → bl (s.2 t) k = true → cw_0 g (xo_S b_work) t k) ∧ ((s.1 = 0 ∧ s.2 = W ∧ ∀ n', n' < n → yo_s g W (n' / 4) (n' % 4)) ∨ (s.1 = 1 ∧ yo_c W < yo_c s.2))) 200 ((0 : Int32), W) ⟨h1, h2, Or.inl ⟨rfl, rfl, fun n' z => absurd z (Nat.not_lt_zero _)⟩⟩ ?_ ?_
        · rintro f ⟨c2, V⟩ ⟨s1, s2, s3⟩
          refine br_t (nI_le (Nat.le_refl 200) (by decide)) (ih (q + 1) (by omega) c2 V s1 s2 ?_)
          rcases s3 with ⟨e1, e2, e3⟩ | ⟨e1, e2⟩
          · have e1 : c2 = 0 := e1
            have e2 : V = W := e2
            subst e2
            refine Or.inl ⟨e1, fun k t hk ht => ?_⟩
            have := e3 (k * 4 + t) (by omega)
            rw [show (k * 4 + t) / 4 = k by omega, show (k * 4 + t) % 4 = t by omega] at this
            exact this
          · have e1 : c2 = 1 := e1
            have e2 : yo_c W < yo_c V := e2
            exact Or.inr ⟨by rw [e1]; decide, by omega⟩
        · rintro f n ⟨c2, V⟩ hn ⟨s1, s2, s3⟩ hk
          have s1 : ∀ t k, t < 4 → bl (b_work t) k = true → bl (V t) k = true := s1
          have s2 : ∀ t k, t < 4 → bl (V t) k = true → cw_0 g (xo_S b_work) t k := s2
          have s3 : (c2 = 0 ∧ V = W ∧ ∀ n', n' < n → yo_s g W (n' / 4) (n' % 4)) ∨ (c2 = 1 ∧ yo_c W < yo_c V) := s3
          have d1 : nI n / 4 = nI (n / 4) := pk_div (d := 4) (by omega) (by decide) (by decide)
          have d2 : nI n - nI n / 4 * 4 = nI (n % 4) := pk_rem (d := 4) (by omega) (by decide) (by decide)
          have ct : (nI (n % 4)).toNatClampNeg = n % 4 := nI_clamp (by omega)
          have keep : yo_s g V (n / 4) (n % 4) → wY_closeWork_68 post (wY_closeWork_2 post (d + 1)) (wY_closeWork_10 post (wY_closeWork_2 post (d + 1)) f) c2 (nI n) h_made h_depth h_length h_tokenCount h_wrong h_letterCount h_ruleCount h_makingCount u h_stateCount h_wideCount h_useCount h_result b_ops b_firsts b_seconds b_sizes b_stack b_roots b_text b_ends b_tokenKinds b_tokenSizes b_letters b_begins b_closes b_empties b_nexts b_sets b_leads b_classes b_newClasses b_lefts b_rights b_counts b_making b_firstSets b_followSets b_states b_looks b_wides V b_met b_tasks b_held b_uses b_reach := by
            intro z
            have go : wY_closeWork_10 post (wY_closeWork_2 post (d + 1)) f c2 (nI (n + 1)) h_made h_depth h_length h_tokenCount h_wrong h_letterCount h_ruleCount h_makingCount u h_stateCount h_wideCount h_useCount h_result b_ops b_firsts b_seconds b_sizes b_stack b_roots b_text b_ends b_tokenKinds b_tokenSizes b_letters b_begins b_closes b_empties b_nexts b_sets b_leads b_classes b_newClasses b_lefts b_rights b_counts b_making b_firstSets b_followSets b_states b_looks b_wides V b_met b_tasks b_held b_uses b_reach := by
              refine hk (c2, V) ⟨s1, s2, ?_⟩
              rcases s3 with ⟨e1, e2, e3⟩ | e
              · refine Or.inl ⟨e1, e2, fun n' hn' => ?_⟩
                by_cases en : n' = n
                · subst en; rw [← e2]; exact z
                · exact e3 n' (by omega)
              · exact Or.inr e
            rcases s3 with ⟨e1, _⟩ | ⟨e1, _⟩
            · rw [e1] at go ⊢
              exact br_t rfl (nm_r (nI_1 n) go)
            · rw [e1] at go ⊢
              exact br_f (by decide) (nm_r (nI_1 n) go)
          refine br_f (nI_ge hn (by decide)) ⟨by decide, nm_r d1 ⟨by decide, ?_⟩⟩
          rw [d2]
          refine ⟨vp_in_nI (by omega) (by decide), ?_⟩
          rw [ct]
          refine br_c (fun z => ?_) (fun z => br_t (by decide) (keep fun y => absurd ((bl_test _ (by omega)).mpr y) z))
          have z := (bl_test (V (n % 4)) (n := n / 4) (by omega)).mp z
          have io := (cw_ok hg hin (s2 _ _ (by omega) z)).1
          refine yw_nextOf hg hG io (fun v hv v7 => pk_le v 2 (fun y => keep fun _ r t hr hn' => ?_) (fun y => ⟨by decide, ?_⟩)) (fun hc => br_t (by decide) (keep fun _ r t hr hn' => ?_))
          · have := (hg.2.1 r hr.1).1
            have := hv.2.symm.trans hn'.2
            omega
          · rw [d2]
            refine yw_addRules (b_work := V) hg hG hU h4 hF io hv v7 (by omega) (fun c' W' hW' hc' => ?_)
            have w1 : ∀ t k, t < 4 → bl (b_work t) k = true → bl (W' t) k = true := fun t k ht hk => (hW' t k ht).mpr (Or.inl (s1 t k ht hk))
            have w2 : ∀ t k, t < 4 → bl (W' t) k = true → cw_0 g (xo_S b_work) t k := by
              intro t k ht hk
              rcases (hW' t k ht).mp hk with p | ⟨r, p1, p2, rfl, p4⟩
              · exact s2 t k ht p
              · exact cw_self g _ _ _ r t (s2 _ _ (by omega) z) p1 (by rw [p2]; exact hv) p4
            rcases hc' with ⟨c0, e0⟩ | ⟨c1, e1⟩
            · rw [c0, e0]
              refine br_t rfl (keep fun _ r t hr hn' hft => ?_)
              have ht : t < 4 := by have := fs_t_le (t := n % 4) (by omega) hft; omega
              have := (hW' t (5 * r) ht).mpr (Or.inr ⟨r, hr, hn'.2.symm.trans hv.2, rfl, hft⟩)
              rw [e0] at this
              exact this
            · rw [c1]
              refine br_f (by decide) (nm_r (nI_1 n) (hk (1, W') ⟨w1, w2, Or.inr ⟨rfl, ?_⟩⟩))
              show yo_c W < yo_c W'
              rcases s3 with ⟨_, e2, _⟩ | ⟨_, e2⟩
              · rw [← e2]; exact e1
              · omega
          · have := hn'.1
            omega
  exact ⟨39, key 38 0 rfl 1 b_work (fun _ _ _ z => z) (fun t k ht hk => cw_sub ⟨ht, hk⟩) (Or.inr ⟨by decide, by omega⟩)⟩
end
