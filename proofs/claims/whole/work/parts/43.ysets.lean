/-! the reference's useful rules, begins and follows -/
variable {h_made h_depth h_length h_tokenCount h_wrong h_letterCount h_ruleCount h_makingCount h_usefulRules h_stateCount h_wideCount h_useCount h_result : Int32} {b_ops b_firsts b_seconds b_sizes b_stack b_roots b_text b_ends b_tokenKinds b_tokenSizes b_letters b_begins b_closes b_empties b_nexts b_sets b_leads b_classes b_newClasses b_lefts b_rights b_counts b_making b_firstSets b_followSets b_tasks b_held b_uses b_reach : Nat → Int32} {b_states b_looks b_wides b_work b_met : Nat → Int64}
section
variable {g : rg_T}
theorem yw_isWithin (hg : rg_ok g) (hG : xg_G g b_lefts b_rights b_counts) {r : Nat} {x : Int32} (hr : r < rg_n g ∨ r = 9) {post : Int32 → Prop} (h1 : (∀ k, k < rg_c g r → bt x (rg_h g r k) = true) → post 1) (h0 : (¬ ∀ k, k < rg_c g r → bt x (rg_h g r k) = true) → post 0) : wpY_isWithin post (h_made, h_depth, h_length, h_tokenCount, h_wrong, h_letterCount, h_ruleCount, h_makingCount, h_usefulRules, h_stateCount, h_wideCount, h_useCount, h_result, b_ops, b_firsts, b_seconds, b_sizes, b_stack, b_roots, b_text, b_ends, b_tokenKinds, b_tokenSizes, b_letters, b_begins, b_closes, b_empties, b_nexts, b_sets, b_leads, b_classes, b_newClasses, b_lefts, b_rights, b_counts, b_making, b_firstSets, b_followSets, b_states, b_looks, b_wides, b_work, b_met, b_tasks, b_held, b_uses, b_reach) (nI r) x := by
  obtain ⟨b1, b2, b3, b4, b5⟩ := rg_b hg hr
  obtain ⟨g1, g2, g3⟩ := hG r hr
  have cr : (nI r).toNatClampNeg = r := nI_clamp (by omega)
  refine loop_0 (fun f i (_ : Unit) => wY_isWithin_2 post (nI r) x h_made h_depth h_length h_tokenCount h_wrong h_letterCount h_ruleCount h_makingCount h_usefulRules h_stateCount h_wideCount h_useCount h_result b_ops b_firsts b_seconds b_sizes b_stack b_roots b_text b_ends b_tokenKinds b_tokenSizes b_letters b_begins b_closes b_empties b_nexts b_sets b_leads b_classes b_newClasses b_lefts b_rights b_counts b_making b_firstSets b_followSets b_states b_looks b_wides b_work b_met b_tasks b_held b_uses b_reach f (nI i)) (fun i _ => ∀ k, k < i → bt x (rg_h g r k) = true) (rg_c g r) () (fun k hk => absurd hk (Nat.not_lt_zero k)) ?_ ?_
  · intro f _ hs
    refine ⟨vp_in_nI (by omega) (by decide), br_t ?_ (h1 hs)⟩
    rw [cr, g2]; exact nI_le (Nat.le_refl _) (by omega)
  · intro f i _ hi hs hk
    have hh := b5 i hi
    refine ⟨vp_in_nI (by omega) (by decide), br_f ?_ ⟨pk_in (r * 4 + i) 40 (by omega) (ix_l4 r i), ?_⟩⟩
    · rw [cr, g2]; exact nI_ge hi (by omega)
    rw [pk_cl (r * 4 + i) (ix_l4 r i), g3 i hi]
    refine br_c (fun z => h0 fun y => ?_) (fun z => nm_r (nI_1 i) (hk () fun k h => ?_))
    · have z := (b_test0 x (n := rg_h g r i) (by omega)).mp z
      rw [y i hi] at z; cases z
    · rcases Nat.lt_or_ge k i with y | y
      · exact hs k y
      · have y : k = i := by omega
        subst y
        exact ts_nf fun w => z ((b_test0 x (by omega)).mpr w)
theorem yw_symbolsOf (hg : rg_ok g) (hG : xg_G g b_lefts b_rights b_counts) {r : Nat} (hr : r < rg_n g ∨ r = 9) {post : Int32 → Prop} (h : ∀ x, (∀ b, bt x b = true ↔ ∃ k, k < rg_c g r ∧ rg_h g r k = b) → post x) : wpY_symbolsOf post (h_made, h_depth, h_length, h_tokenCount, h_wrong, h_letterCount, h_ruleCount, h_makingCount, h_usefulRules, h_stateCount, h_wideCount, h_useCount, h_result, b_ops, b_firsts, b_seconds, b_sizes, b_stack, b_roots, b_text, b_ends, b_tokenKinds, b_tokenSizes, b_letters, b_begins, b_closes, b_empties, b_nexts, b_sets, b_leads, b_classes, b_newClasses, b_lefts, b_rights, b_counts, b_making, b_firstSets, b_followSets, b_states, b_looks, b_wides, b_work, b_met, b_tasks, b_held, b_uses, b_reach) (nI r) := by
  obtain ⟨b1, b2, b3, b4, b5⟩ := rg_b hg hr
  obtain ⟨g1, g2, g3⟩ := hG r hr
  have cr : (nI r).toNatClampNeg = r := nI_clamp (by omega)
  refine loop_0 (fun f i s => wY_symbolsOf_4 post (nI r) h_made h_depth h_length h_tokenCount h_wrong h_letterCount h_ruleCount h_makingCount h_usefulRules h_stateCount h_wideCount h_useCount h_result b_ops b_firsts b_seconds b_sizes b_stack b_roots b_text b_ends b_tokenKinds b_tokenSizes b_letters b_begins b_closes b_empties b_nexts b_sets b_leads b_classes b_newClasses b_lefts b_rights b_counts b_making b_firstSets b_followSets b_states b_looks b_wides b_work b_met b_tasks b_held b_uses b_reach f s (nI i)) (fun i s => ∀ b, bt s b = true ↔ ∃ k, k < i ∧ rg_h g r k = b) (rg_c g r) 0 ?_ ?_ ?_
  · intro b
    rw [b_0]
    exact ⟨(fun z => by cases z), fun ⟨k, hk, _⟩ => absurd hk (Nat.not_lt_zero k)⟩
  · intro f s hs
    refine ⟨vp_in_nI (by omega) (by decide), br_t ?_ (h s hs)⟩
    rw [cr, g2]; exact nI_le (Nat.le_refl _) (by omega)
  · intro f i s hi hs hk
    refine ⟨vp_in_nI (by omega) (by decide), br_f ?_ ⟨pk_in (r * 4 + i) 40 (by omega) (ix_l4 r i), nm_e (nm_r (nI_1 i) (hk _ fun b => ?_))⟩⟩
    · rw [cr, g2]; exact nI_ge hi (by omega)
    · have hb := b5 i hi
      rw [pk_cl (r * 4 + i) (ix_l4 r i), g3 i hi, b_or, Bool.or_eq_true, hs b, b_one _ (by omega), decide_eq_true_eq]
      constructor
      · rintro (⟨k, k1, k2⟩ | rfl)
        · exact ⟨k, by omega, k2⟩
        · exact ⟨i, by omega, rfl⟩
      · rintro ⟨k, k1, k2⟩
        rcases Nat.lt_or_ge k i with z | z
        · exact Or.inl ⟨k, z, k2⟩
        · have z : k = i := by omega
          subst z; exact Or.inr k2.symm
/-- the useful rules as a mask -/
def yg_U (g : rg_T) (u : Int32) : Prop := ∀ r, bt u r = true ↔ us_U g r
def yr_I (g : rg_T) (n : Nat) (s : Int32 × Int32) : Prop :=
  (∀ b, bt s.1 b = true → co_C g b) ∧ (∀ r', bt s.2 r' = true → us_U g r') ∧ bt s.1 3 = true ∧ rd_J 9 (fun r s => r < rg_n g → xr_s g r s) sv_d n s ∧
  ∀ n', 27 ≤ n' → n' < n → n' % 9 < rg_n g → (∀ k, k < rg_c g (n' % 9) → en_E g (rg_h g (n' % 9) k)) → bt s.1 (rg_l g (n' % 9)) = true → bt s.2 (n' % 9) = true
theorem yr_cl (hg : rg_ok g) {n : Nat} {s : Int32 × Int32} (h : yr_I g n s) (hn : 27 ≤ n) : ∀ k, k < rg_n g → xr_s g k s := by
  have h1 := sv_pos h.2.2.1
  have h4 : sv_c s.1 ≤ 4 := cn_le _ 4
  have h9 := hg.1
  have cl := rd_end (B := 3) h.2.2.2.1 (by unfold sv_d; omega) (by omega) (fun e r hr h _ _ k hk hv => by
    unfold sv_d at e
    exact sv_full (by omega) hv ((hg.2.1 r h).2.2.2 k hk))
  exact fun k hk => cl k (by omega) hk
theorem yr_end (hg : rg_ok g) {s : Int32 × Int32} (h : yr_I g 90 s) : yg_U g s.2 := by
  intro r
  refine ⟨h.2.1 r, fun z => ?_⟩
  have h9 := hg.1
  have hr := z.1
  have cl := yr_cl hg h (by omega)
  have e : (81 + r) % 9 = r := by omega
  have := h.2.2.2.2 (81 + r) (by omega) (by omega)
  rw [e] at this
  refine this hr z.2.1 ?_
  have := z.2.2 (fun b => b < 3 ∨ bt s.1 b = true) ⟨Or.inr h.2.2.1, fun r hr he hl i hi => ?_⟩
  · rcases this with y | y
    · have := (hg.2.1 r z.1).1; omega
    · exact y
  · rcases Nat.lt_or_ge (rg_h g r i) 3 with y | y
    · exact Or.inl y
    · refine Or.inr (cl r hr he ?_ i hi y)
      rcases hl with y | y
      · have := (hg.2.1 r hr).1; omega
      · exact y
theorem yr_skip {n : Nat} {s : Int32 × Int32} (h : yr_I g n s) (hn : n % 9 < rg_n g → (∀ k, k < rg_c g (n % 9) → en_E g (rg_h g (n % 9) k)) → ¬ bt s.1 (rg_l g (n % 9)) = true) : yr_I g (n + 1) s := by
  obtain ⟨h1, h2, h3, h4, h5⟩ := h
  refine ⟨h1, h2, h3, rd_keep (by omega) h4 (fun a b c => absurd c (hn a b)), fun n' a b c d e => ?_⟩
  by_cases z : n' = n
  · subst z; exact absurd e (hn c d)
  · exact h5 n' a (by omega) c d e
theorem yr_use (hg : rg_ok g) {n : Nat} {s : Int32 × Int32} {x : Int32} (h : yr_I g n s) (hr : n % 9 < rg_n g) (hx : ∀ b, bt x b = true ↔ ∃ k, k < rg_c g (n % 9) ∧ rg_h g (n % 9) k = b) (he : ∀ k, k < rg_c g (n % 9) → en_E g (rg_h g (n % 9) k)) (hl : bt s.1 (rg_l g (n % 9)) = true) : yr_I g (n + 1) (s.1 ||| x, s.2 ||| (1 : Int32) <<< (nI (n % 9) &&& 31)) := by
  have hI := h
  obtain ⟨h1, h2, h3, h4, h5⟩ := h
  have h9 := hg.1
  have e1 : ∀ b, bt (s.1 ||| x) b = true ↔ bt s.1 b = true ∨ ∃ k, k < rg_c g (n % 9) ∧ rg_h g (n % 9) k = b := fun b => by rw [b_or, Bool.or_eq_true, hx]
  have e2 : ∀ b, bt (s.2 ||| (1 : Int32) <<< (nI (n % 9) &&& 31)) b = true ↔ bt s.2 b = true ∨ b = n % 9 := fun b => by rw [b_or, Bool.or_eq_true, b_one _ (by omega), decide_eq_true_eq]
  have hU : us_U g (n % 9) := ⟨hr, he, h1 _ hl⟩
  have same : xr_s g (n % 9) s → ∀ v, 3 ≤ v → v < 7 → (bt s.1 v = true ↔ bt (s.1 ||| x) v = true) := by
    intro hs v v3 v7
    rw [e1]
    refine ⟨Or.inl, fun z => ?_⟩
    rcases z with z | ⟨k, k1, rfl⟩
    · exact z
    · exact hs he hl k k1 v3
  refine ⟨fun b hb => ?_, fun r' hr' => ?_, (e1 3).mpr (Or.inl h3), ?_, fun n' a b c d e => ?_⟩
  · rcases (e1 b).mp hb with z | ⟨k, k1, rfl⟩
    · exact h1 b z
    · exact (co_self g).2 _ hr he (h1 _ hl) k k1
  · rcases (e2 r').mp hr' with z | rfl
    · exact h2 r' z
    · exact hU
  · by_cases hs : xr_s g (n % 9) s
    · have sm := same hs
      refine rd_congr (s := s) (fun k hk z zr a b i i1 i3 => ?_) ?_ (by omega) (rd_keep (by omega) h4 (fun _ => hs))
      · have l1 := hg.2.1 k zr
        exact (sm _ i3 (l1.2.2.2 i i1)).mp (z zr a ((sm _ l1.1 l1.2.1).mpr b) i i1 i3)
      · unfold sv_d
        rw [sv_eq sm]
    · refine rd_grow (by omega) h4 (fun z => hs (z hr)) ?_
      have : ∃ k, k < rg_c g (n % 9) ∧ 3 ≤ rg_h g (n % 9) k ∧ ¬ bt s.1 (rg_h g (n % 9) k) = true := by
        refine Classical.byContradiction fun z => hs fun _ _ k k1 k3 => ?_
        refine Classical.byContradiction fun y => z ⟨k, k1, k3, y⟩
      obtain ⟨k, k1, k3, k4⟩ := this
      have := sv_lt k3 ((hg.2.1 _ hr).2.2.2 k k1) k4 ((e1 _).mpr (Or.inr ⟨k, k1, rfl⟩)) (fun b hb => (e1 b).mpr (Or.inl hb))
      have p := sv_pos h3
      unfold sv_d
      show sv_c s.1 - 1 < sv_c (s.1 ||| x) - 1
      omega
  · by_cases z : n' % 9 = n % 9
    · exact (e2 _).mpr (Or.inr z)
    · have z2 : n' ≠ n := fun y => z (by rw [y])
      refine (e2 _).mpr (Or.inl (h5 n' a (by omega) c d ?_))
      have cl := yr_cl hg hI (by omega) (n % 9) hr
      have l1 := hg.2.1 _ c
      exact (same cl _ l1.1 l1.2.1).mpr e
theorem yw_findUseful (hg : rg_ok g) (hG : xg_G g b_lefts b_rights b_counts) {post : SY → Prop} (h : ∀ u, yg_U g u → post (h_made, h_depth, h_length, h_tokenCount, h_wrong, h_letterCount, (nI (rg_n g)), h_makingCount, u, h_stateCount, h_wideCount, h_useCount, h_result, b_ops, b_firsts, b_seconds, b_sizes, b_stack, b_roots, b_text, b_ends, b_tokenKinds, b_tokenSizes, b_letters, b_begins, b_closes, b_empties, b_nexts, b_sets, b_leads, b_classes, b_newClasses, b_lefts, b_rights, b_counts, b_making, b_firstSets, b_followSets, b_states, b_looks, b_wides, b_work, b_met, b_tasks, b_held, b_uses, b_reach)) : wpY_findUseful post (h_made, h_depth, h_length, h_tokenCount, h_wrong, h_letterCount, (nI (rg_n g)), h_makingCount, h_usefulRules, h_stateCount, h_wideCount, h_useCount, h_result, b_ops, b_firsts, b_seconds, b_sizes, b_stack, b_roots, b_text, b_ends, b_tokenKinds, b_tokenSizes, b_letters, b_begins, b_closes, b_empties, b_nexts, b_sets, b_leads, b_classes, b_newClasses, b_lefts, b_rights, b_counts, b_making, b_firstSets, b_followSets, b_states, b_looks, b_wides, b_work, b_met, b_tasks, b_held, b_uses, b_reach) := by
  have h9 := hg.1
  have rem : ∀ n, n < 90 → nI n - nI n / 9 * 9 = nI (n % 9) := fun n hn => pk_rem (d := 9) (by omega) (by decide) (by decide)
  refine loop_0 (fun f n s => wY_findUseful_13 post 8 h_made h_depth h_length h_tokenCount h_wrong h_letterCount (nI (rg_n g)) h_makingCount 0 h_stateCount h_wideCount h_useCount h_result b_ops b_firsts b_seconds b_sizes b_stack b_roots b_text b_ends b_tokenKinds b_tokenSizes b_letters b_begins b_closes b_empties b_nexts b_sets b_leads b_classes b_newClasses b_lefts b_rights b_counts b_making b_firstSets b_followSets b_states b_looks b_wides b_work b_met b_tasks b_held b_uses b_reach f s (nI n)) (fun n s => (∀ b, b < 3 → bt s b = true) ∧ (∀ b, bt s b = true → en_E g b) ∧ rd_J 9 (fun r s => r < rg_n g → (∀ k, k < rg_c g r → bt s (rg_h g r k) = true) → bt s (rg_l g r) = true) sv_c n s) 90 7 ?_ ?_ ?_
  · refine ⟨fun b hb => by rw [b_7b, decide_eq_true hb], fun b hb => ?_, rd_i⟩
    rw [b_7b, decide_eq_true_eq] at hb
    exact (en_self g).1 b hb
  · rintro f E ⟨s1, s2, s3⟩
    have cl := rd_end (B := 4) s3 (cn_le _ 4) (by omega) (fun e r _ hr _ => sv_full e (hg.2.1 r hr).1 (hg.2.1 r hr).2.1)
    have hE : ∀ b, bt E b = true ↔ en_E g b := fun b => ⟨s2 b, fun hb => hb (fun b => bt E b = true) ⟨s1, fun r hr hi => cl r (by omega) hr hi⟩⟩
    refine br_t (nI_le (Nat.le_refl 90) (by decide)) ?_
    refine loop_0 (fun f n s => wY_findUseful_68 post E h_made h_depth h_length h_tokenCount h_wrong h_letterCount (nI (rg_n g)) h_makingCount h_stateCount h_wideCount h_useCount h_result b_ops b_firsts b_seconds b_sizes b_stack b_roots b_text b_ends b_tokenKinds b_tokenSizes b_letters b_begins b_closes b_empties b_nexts b_sets b_leads b_classes b_newClasses b_lefts b_rights b_counts b_making b_firstSets b_followSets b_states b_looks b_wides b_work b_met b_tasks b_held b_uses b_reach f s.1 (nI n) s.2) (fun n s => yr_I g n s) 90 ((8 : Int32), (0 : Int32)) ?_ ?_ ?_
    · refine ⟨fun b hb => ?_, fun r hr => ?_, by show bt 8 3 = true; rw [b_8b]; rfl, rd_i, fun n' _ h => absurd h (Nat.not_lt_zero _)⟩
      · have hb : bt 8 b = true := hb
        rw [b_8b, decide_eq_true_eq] at hb
        subst hb
        exact (co_self g).1
      · have hr : bt 0 r = true := hr
        rw [b_0] at hr; cases hr
    · rintro f ⟨s, u⟩ hs
      exact br_t (nI_le (Nat.le_refl 90) (by decide)) (h u (yr_end hg hs))
    · rintro f n ⟨s, u⟩ hn hs hk
      have skip : yr_I g (n + 1) (s, u) → wY_findUseful_118 post (wY_findUseful_68 post E h_made h_depth h_length h_tokenCount h_wrong h_letterCount (nI (rg_n g)) h_makingCount h_stateCount h_wideCount h_useCount h_result b_ops b_firsts b_seconds b_sizes b_stack b_roots b_text b_ends b_tokenKinds b_tokenSizes b_letters b_begins b_closes b_empties b_nexts b_sets b_leads b_classes b_newClasses b_lefts b_rights b_counts b_making b_firstSets b_followSets b_states b_looks b_wides b_work b_met b_tasks b_held b_uses b_reach f) E s (nI n) (nI (n % 9)) h_made h_depth h_length h_tokenCount h_wrong h_letterCount (nI (rg_n g)) h_makingCount u h_stateCount h_wideCount h_useCount h_result b_ops b_firsts b_seconds b_sizes b_stack b_roots b_text b_ends b_tokenKinds b_tokenSizes b_letters b_begins b_closes b_empties b_nexts b_sets b_leads b_classes b_newClasses b_lefts b_rights b_counts b_making b_firstSets b_followSets b_states b_looks b_wides b_work b_met b_tasks b_held b_uses b_reach := by
        intro z
        exact br_t rfl (br_t rfl (nm_r (nI_1 n) (hk (s, u) z)))
      refine br_f (nI_ge hn (by decide)) ⟨by decide, nm_r (rem n hn) (pk_le (rg_n g) (n % 9) (fun z => ?_) (fun z => ?_))⟩
      · exact skip (yr_skip hs fun y => by omega)
      · obtain ⟨g1, g2, g3⟩ := hG (n % 9) (Or.inl z)
        have l := hg.2.1 _ z
        have hen : (∀ k, k < rg_c g (n % 9) → bt E (rg_h g (n % 9) k) = true) ↔ ∀ k, k < rg_c g (n % 9) → en_E g (rg_h g (n % 9) k) := ⟨fun y k hk => (hE _).mp (y k hk), fun y k hk => (hE _).mpr (y k hk)⟩
        refine yw_isWithin hg hG (Or.inl z) (fun y => ?_) (fun y => ?_)
        · refine br_f (by decide) ⟨vp_in_nI (by omega) (by decide), ?_⟩
          rw [nI_clamp (by omega : n % 9 < 2 ^ 31), g1]
          refine br_c (fun w => ?_) (fun w => ?_)
          · have w := (b_test s (n := rg_l g (n % 9)) (by omega)).mp w
            refine br_f (by decide) (yw_symbolsOf hg hG (Or.inl z) (fun x hx => br_f (by decide) (nm_e (nm_r (nI_1 n) (hk _ (yr_use hg hs z hx (hen.mp y) w))))))
          · exact skip (yr_skip hs fun _ _ k => w ((b_test s (by omega)).mpr k))
        · exact br_t rfl (skip (yr_skip hs fun _ k => absurd (hen.mpr k) y))
  · rintro f n s hn ⟨s1, s2, s3⟩ hk
    refine br_f (nI_ge hn (by decide)) ⟨by decide, nm_r (rem n hn) (pk_le (rg_n g) (n % 9) (fun z => ?_) (fun z => ?_))⟩
    · exact nm_r (nI_1 n) (hk s ⟨s1, s2, rd_keep (by omega) s3 (fun y => by omega)⟩)
    · obtain ⟨g1, g2, g3⟩ := hG (n % 9) (Or.inl z)
      have l := hg.2.1 _ z
      refine yw_isWithin hg hG (Or.inl z) (fun hin => ?_) (fun y => ?_)
      · refine br_f (by decide) ⟨vp_in_nI (by omega) (by decide), nm_e (nm_r (nI_1 n) (hk _ ?_))⟩
        rw [nI_clamp (by omega : n % 9 < 2 ^ 31), g1]
        have e : ∀ b, bt (s ||| (1 : Int32) <<< (nI (rg_l g (n % 9)) &&& 31)) b = true ↔ bt s b = true ∨ b = rg_l g (n % 9) := by
          intro b
          rw [b_or, Bool.or_eq_true, b_one _ (by omega), decide_eq_true_eq]
        refine ⟨fun b hb => (e b).mpr (Or.inl (s1 b hb)), fun b hb => ?_, ?_⟩
        · rcases (e b).mp hb with y | rfl
          · exact s2 b y
          · exact (en_self g).2 _ z (fun i hi => s2 _ (hin i hi))
        · by_cases y : bt s (rg_l g (n % 9)) = true
          · have es : s ||| (1 : Int32) <<< (nI (rg_l g (n % 9)) &&& 31) = s := by
              apply b_ext
              intro i _
              cases w : bt s i
              · cases w2 : bt (s ||| (1 : Int32) <<< (nI (rg_l g (n % 9)) &&& 31)) i
                · rfl
                · rcases (e i).mp w2 with k | rfl
                  · rw [w] at k; cases k
                  · rw [w] at y; cases y
              · exact (e i).mpr (Or.inl w)
            rw [es]
            exact rd_keep (by omega) s3 (fun _ _ => y)
          · exact rd_grow (by omega) s3 (fun k => y (k z hin)) (sv_lt l.1 l.2.1 y ((e _).mpr (Or.inr rfl)) (fun b hb => (e b).mpr (Or.inl hb)))
      · refine br_t rfl (nm_r (nI_1 n) (hk s ⟨s1, s2, rd_keep (by omega) s3 (fun _ k => absurd k y)⟩))
end
