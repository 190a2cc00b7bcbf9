/-! the reference meets items along the tokens -/
variable {h_made h_depth h_length h_tokenCount h_wrong h_letterCount h_ruleCount h_makingCount h_usefulRules h_stateCount h_wideCount h_useCount h_result : Int32} {b_ops b_firsts b_seconds b_sizes b_stack b_roots b_text b_ends b_tokenKinds b_tokenSizes b_letters b_begins b_closes b_empties b_nexts b_sets b_leads b_classes b_newClasses b_lefts b_rights b_counts b_making b_firstSets b_followSets b_tasks b_held b_uses b_reach : Nat → Int32} {b_states b_looks b_wides b_work b_met : Nat → Int64}
section
variable {g : rg_T}
/-- symbol s over the places i to j, by what was met -/
def ym_d (g : rg_T) (w : Nat → Nat) (M : Nat → Int64) (s i j : Nat) : Prop := (s < 3 ∧ j = i + 1 ∧ w i = s) ∨ (3 ≤ s ∧ ∃ r, us_U g r ∧ rg_l g r = s ∧ bl (M (j * 25 + i)) (5 * r + rg_c g r) = true)
theorem yw_derives (hg : rg_ok g) (hG : xg_G g b_lefts b_rights b_counts) {u : Int32} (hU : yg_U g u) {w : Nat → Nat} {c s i j : Nat} (hc : c ≤ 24) (hw : ∀ i, i < c → b_tokenKinds i = nI (w i) ∧ w i < 3) (hs : s < 7) (hij : i ≤ j) (hj : j ≤ c) {post : Int32 → Prop} (h1 : ym_d g w b_met s i j → post 1) (h0 : ¬ ym_d g w b_met s i j → post 0) : wpY_derives post (h_made, h_depth, h_length, h_tokenCount, h_wrong, h_letterCount, h_ruleCount, h_makingCount, u, h_stateCount, h_wideCount, h_useCount, h_result, b_ops, b_firsts, b_seconds, b_sizes, b_stack, b_roots, b_text, b_ends, b_tokenKinds, b_tokenSizes, b_letters, b_begins, b_closes, b_empties, b_nexts, b_sets, b_leads, b_classes, b_newClasses, b_lefts, b_rights, b_counts, b_making, b_firstSets, b_followSets, b_states, b_looks, b_wides, b_work, b_met, b_tasks, b_held, b_uses, b_reach) (nI s) (nI i) (nI j) := by
  have h9 := hg.1
  refine pk_le 3 s (fun z => ?_) (fun z => ?_)
  · refine loop_0 (fun f r (_ : Unit) => wY_derives_31 post (nI s) (nI i) (nI j) h_made h_depth h_length h_tokenCount h_wrong h_letterCount h_ruleCount h_makingCount u h_stateCount h_wideCount h_useCount h_result b_ops b_firsts b_seconds b_sizes b_stack b_roots b_text b_ends b_tokenKinds b_tokenSizes b_letters b_begins b_closes b_empties b_nexts b_sets b_leads b_classes b_newClasses b_lefts b_rights b_counts b_making b_firstSets b_followSets b_states b_looks b_wides b_work b_met b_tasks b_held b_uses b_reach f (nI r)) (fun r _ => ∀ r', r' < r → us_U g r' → rg_l g r' = s → ¬ bl (b_met (j * 25 + i)) (5 * r' + rg_c g r') = true) 9 () (fun r' q => absurd q (Nat.not_lt_zero _)) ?_ ?_
    · intro f _ hr
      refine br_t (nI_le (Nat.le_refl 9) (by decide)) (h0 ?_)
      rintro (⟨q, _⟩ | ⟨_, r, q1, q2, q3⟩)
      · omega
      · exact hr r (by have := q1.1; omega) q1 q2 q3
    · intro f r _ hr hno hk
      have skip : ¬ (us_U g r ∧ rg_l g r = s ∧ bl (b_met (j * 25 + i)) (5 * r + rg_c g r) = true) → wY_derives_31 post (nI s) (nI i) (nI j) h_made h_depth h_length h_tokenCount h_wrong h_letterCount h_ruleCount h_makingCount u h_stateCount h_wideCount h_useCount h_result b_ops b_firsts b_seconds b_sizes b_stack b_roots b_text b_ends b_tokenKinds b_tokenSizes b_letters b_begins b_closes b_empties b_nexts b_sets b_leads b_classes b_newClasses b_lefts b_rights b_counts b_making b_firstSets b_followSets b_states b_looks b_wides b_work b_met b_tasks b_held b_uses b_reach f (nI (r + 1)) := by
        intro q
        refine hk () fun r' hr' p1 p2 p3 => ?_
        by_cases e : r' = r
        · subst e; exact q ⟨p1, p2, p3⟩
        · exact hno r' (by omega) p1 p2 p3
      refine br_f (nI_ge hr (by decide)) (br_c (fun q => ?_) (fun q => ?_))
      · have q := (hU r).mp ((b_test u (n := r) (by omega)).mp q)
        obtain ⟨g1, g2, g3⟩ := hG r (Or.inl q.1)
        have l := hg.2.1 r q.1
        have cr : (nI r).toNatClampNeg = r := nI_clamp (by omega)
        refine br_f (by decide) ⟨vp_in_nI (by omega) (by decide), ?_⟩
        rw [cr, g1]
        refine pk_eq (rg_l g r) s (fun e => ⟨pk_in (j * 25 + i) 625 (by omega) (ix_25 j i), vp_in_nI (by omega) (by decide), ?_⟩) (fun e => nm_r (nI_1 r) (skip fun p => e p.2.1))
        rw [pk_cl (j * 25 + i) (ix_25 j i), g2, show (5 : Int32) * nI r + nI (rg_c g r) = nI (r * 5 + rg_c g r) from ix_l5 r _]
        have e5 : r * 5 + rg_c g r = 5 * r + rg_c g r := by omega
        refine br_c (fun p => h1 (Or.inr ⟨z, r, q, e, ?_⟩)) (fun p => nm_r (nI_1 r) (skip fun p2 => p ?_))
        · rw [← e5]; exact (bl_test _ (n := r * 5 + rg_c g r) (by omega)).mp p
        · rw [bl_test _ (by omega), e5]; exact p2.2.2
      · have q : ¬ us_U g r := fun y => q ((b_test u (by omega)).mpr ((hU r).mpr y))
        exact br_t rfl (nm_r (nI_1 r) (skip fun p => q p.1))
  · rw [nI_1]
    refine pk_eq j (i + 1) (fun e => ⟨vp_in_nI (by omega) (by decide), ?_⟩) (fun e => h0 ?_)
    · obtain ⟨w1, w2⟩ := hw i (by omega)
      rw [nI_clamp (by omega : i < 2 ^ 31), w1]
      refine pk_eq (w i) s (fun q => h1 (Or.inl ⟨z, e, q⟩)) (fun q => h0 ?_)
      rintro (⟨_, _, p⟩ | ⟨p, _⟩)
      · exact q p
      · omega
    · rintro (⟨_, p, _⟩ | ⟨p, _⟩)
      · exact e p
      · omega
/-- sound up to row j -/
def ym_S (g : rg_T) (X : tx_T) (M : Nat → Int64) (j : Nat) : Prop := ∀ i' j' k, j' ≤ j → i' ≤ j' → bl (M (j' * 25 + i')) k = true → er_E (tg_G g) X i' j' (k / 5) (k % 5)
/-- more in row j, the rows before as they were -/
def ym_L (M M' : Nat → Int64) (j : Nat) : Prop := (∀ x, x < j * 25 ∨ j * 25 + j < x → M' x = M x) ∧ ∀ i' k, i' ≤ j → bl (M (j * 25 + i')) k = true → bl (M' (j * 25 + i')) k = true
noncomputable def ym_c (M : Nat → Int64) (j : Nat) : Nat := cn_c (fun x => x / 47 ≤ j ∧ bl (M (j * 25 + x / 47)) (x % 47) = true) 1175
theorem ym_lt {M M' : Nat → Int64} {j i k : Nat} (h : ym_L M M' j) (hj : j ≤ 24) (hi : i ≤ j) (hk : k < 47) (h1 : ¬ bl (M (j * 25 + i)) k = true) (h2 : bl (M' (j * 25 + i)) k = true) : ym_c M j < ym_c M' j := by
  have e1 : (i * 47 + k) / 47 = i := by omega
  have e2 : (i * 47 + k) % 47 = k := by omega
  exact cn_lt (a := i * 47 + k) (by rw [e1, e2]; exact fun q => h1 q.2) (by rw [e1, e2]; exact ⟨hi, h2⟩) (fun x _ q => ⟨q.1, h.2 _ _ q.1 q.2⟩) (by omega)
theorem ym_mono {M M' : Nat → Int64} {j : Nat} (h : ym_L M M' j) : ym_c M j ≤ ym_c M' j := cn_mono fun _ _ q => ⟨q.1, h.2 _ _ q.1 q.2⟩
theorem ym_tr {M M' M'' : Nat → Int64} {j : Nat} (h : ym_L M M' j) (h' : ym_L M' M'' j) : ym_L M M'' j := ⟨fun x hx => by rw [h'.1 x hx]; exact h.1 x hx, fun i' k hi hk => h'.2 i' k hi (h.2 i' k hi hk)⟩
theorem er_im {X : tx_T} (hX : tx_ok X) (hg : rg_ok g) {i j k : Nat} (h : er_E (tg_G g) X i j (k / 5) (k % 5)) : im_ok g k := by
  have := er_sound hX (tg_ok hg) h
  exact ⟨this.2.1, this.2.2.1⟩
/-- predicted: all that the items of row j from i ask for is there -/
def ym_P (g : rg_T) (M : Nat → Int64) (i j : Nat) : Prop := ∀ k r, bl (M (j * 25 + i)) k = true → us_U g r → im_nx g k (rg_l g r) → bl (M (j * 25 + j)) (5 * r) = true
/-- completed over the spans m to j -/
def ym_Q (g : rg_T) (w : Nat → Nat) (M : Nat → Int64) (i j m s : Nat) : Prop := ym_d g w M s m j → ∀ k, bl (M (m * 25 + i)) k = true → im_nx g k s → bl (M (j * 25 + i)) (k + 1) = true
theorem ym_up {X : tx_T} {M : Nat → Int64} {j i : Nat} {T : Int64} (hj24 : j ≤ 24) (hS : ym_S g X M j) (hi : i ≤ j) (hT : ∀ k, bl T k = true → er_E (tg_G g) X i j (k / 5) (k % 5)) : ym_S g X (vp_updL M (j * 25 + i) T) j := by
  intro i' j' k h1 h2 h3
  by_cases e : j' * 25 + i' = j * 25 + i
  · rw [e, pk_uLs] at h3
    by_cases q : j' = j
    · subst q
      have : i' = i := by omega
      subst this
      exact hT k h3
    · exfalso
      -- another row with the same place: not below 25
      have : i' ≤ j' := h2
      omega
  · rw [pk_uLn e] at h3
    exact hS i' j' k h1 h2 h3
/-- a place of row j with more in it -/
theorem ym_w {X : tx_T} (hX : tx_ok X) (hg : rg_ok g) {N : Nat → Int64} {j i : Nat} {V : Int64} (hj24 : j ≤ 24) (hi : i ≤ j) (hS : ym_S g X N j) (hV : ∀ k, bl V k = true → er_E (tg_G g) X i j (k / 5) (k % 5)) (hle : ∀ k, bl (N (j * 25 + i)) k = true → bl V k = true) :
    ym_S g X (vp_updL N (j * 25 + i) V) j ∧ ym_L N (vp_updL N (j * 25 + i) V) j ∧ (V = N (j * 25 + i) → vp_updL N (j * 25 + i) V = N) ∧ (¬ V = N (j * 25 + i) → ym_c N j < ym_c (vp_updL N (j * 25 + i) V) j) := by
  have hL : ym_L N (vp_updL N (j * 25 + i) V) j := by
    refine ⟨fun x hx => pk_uLn (by omega), fun i' k hi' hk => ?_⟩
    by_cases e : i' = i
    · subst e; rw [pk_uLs]; exact hle k hk
    · rw [pk_uLn (by omega)]; exact hk
  refine ⟨ym_up hj24 hS hi hV, hL, fun e => ?_, fun e => ?_⟩
  · funext x
    unfold vp_updL
    split
    · rename_i q; rw [q, e]
    · rfl
  · have : ∃ k, bl V k = true ∧ ¬ bl (N (j * 25 + i)) k = true := by
      refine Classical.byContradiction fun q => e (bl_ext fun k _ => ?_)
      cases c1 : bl V k
      · cases c2 : bl (N (j * 25 + i)) k
        · rfl
        · rw [hle k c2] at c1; cases c1
      · cases c2 : bl (N (j * 25 + i)) k
        · exact absurd ⟨k, c1, by rw [c2]; intro p; cases p⟩ q
        · rfl
    obtain ⟨k, p1, p2⟩ := this
    exact ym_lt hL hj24 hi (im_lt hg (er_im hX hg (hV k p1))) p2 (by rw [pk_uLs]; exact p1)
theorem yw_meetMore (hg : rg_ok g) (hG : xg_G g b_lefts b_rights b_counts) {u : Int32} (hU : yg_U g u) {w : Nat → Nat} {c i j : Nat} (hc : c ≤ 24) (hw : ∀ i, i < c → b_tokenKinds i = nI (w i) ∧ w i < 3) (hij : i ≤ j) (hj : j ≤ c) (hS : ym_S g (w, c) b_met j) {post : Int32 → SY → Prop}
    (h0 : ym_P g b_met i j → (∀ m s, i ≤ m → m ≤ j → 3 ≤ s → s < 7 → ym_Q g w b_met i j m s) → post 0 (h_made, h_depth, h_length, h_tokenCount, h_wrong, h_letterCount, h_ruleCount, h_makingCount, u, h_stateCount, h_wideCount, h_useCount, h_result, b_ops, b_firsts, b_seconds, b_sizes, b_stack, b_roots, b_text, b_ends, b_tokenKinds, b_tokenSizes, b_letters, b_begins, b_closes, b_empties, b_nexts, b_sets, b_leads, b_classes, b_newClasses, b_lefts, b_rights, b_counts, b_making, b_firstSets, b_followSets, b_states, b_looks, b_wides, b_work, b_met, b_tasks, b_held, b_uses, b_reach)) (h1 : ∀ M, ym_S g (w, c) M j → ym_L b_met M j → ym_c b_met j < ym_c M j → post 1 (h_made, h_depth, h_length, h_tokenCount, h_wrong, h_letterCount, h_ruleCount, h_makingCount, u, h_stateCount, h_wideCount, h_useCount, h_result, b_ops, b_firsts, b_seconds, b_sizes, b_stack, b_roots, b_text, b_ends, b_tokenKinds, b_tokenSizes, b_letters, b_begins, b_closes, b_empties, b_nexts, b_sets, b_leads, b_classes, b_newClasses, b_lefts, b_rights, b_counts, b_making, b_firstSets, b_followSets, b_states, b_looks, b_wides, b_work, M, b_tasks, b_held, b_uses, b_reach)) : wpY_meetMore post (h_made, h_depth, h_length, h_tokenCount, h_wrong, h_letterCount, h_ruleCount, h_makingCount, u, h_stateCount, h_wideCount, h_useCount, h_result, b_ops, b_firsts, b_seconds, b_sizes, b_stack, b_roots, b_text, b_ends, b_tokenKinds, b_tokenSizes, b_letters, b_begins, b_closes, b_empties, b_nexts, b_sets, b_leads, b_classes, b_newClasses, b_lefts, b_rights, b_counts, b_making, b_firstSets, b_followSets, b_states, b_looks, b_wides, b_work, b_met, b_tasks, b_held, b_uses, b_reach) (nI j) (nI i) := by
  have hX : tx_ok (w, c) := fun i hi => (hw i hi).2
  have S := er_self (tg_G g) (w, c)
  have cji : (25 * nI j + nI i).toNatClampNeg = j * 25 + i := pk_cl (j * 25 + i) (ix_25 j i)
  have cjj : (25 * nI j + nI j).toNatClampNeg = j * 25 + j := pk_cl (j * 25 + j) (ix_25 j j)
  have iji : vp_in (25 * nI j + nI i) 625 := pk_in (j * 25 + i) 625 (by omega) (ix_25 j i)
  have ijj : vp_in (25 * nI j + nI j) 625 := pk_in (j * 25 + j) 625 (by omega) (ix_25 j j)
  refine loop_0 (fun f k σ => wY_meetMore_5 post (nI j) (nI i) h_made h_depth h_length h_tokenCount h_wrong h_letterCount h_ruleCount h_makingCount u h_stateCount h_wideCount h_useCount h_result f σ.1 (nI k) b_ops b_firsts b_seconds b_sizes b_stack b_roots b_text b_ends b_tokenKinds b_tokenSizes b_letters b_begins b_closes b_empties b_nexts b_sets b_leads b_classes b_newClasses b_lefts b_rights b_counts b_making b_firstSets b_followSets b_states b_looks b_wides b_work σ.2 b_tasks b_held b_uses b_reach) (fun k σ => ym_S g (w, c) σ.2 j ∧ ym_L b_met σ.2 j ∧ ((σ.1 = 0 ∧ σ.2 = b_met ∧ ∀ k' r, k' < k → bl (b_met (j * 25 + i)) k' = true → us_U g r → im_nx g k' (rg_l g r) → bl (b_met (j * 25 + j)) (5 * r) = true) ∨ (σ.1 = 1 ∧ ym_c b_met j < ym_c σ.2 j))) 50 ((0 : Int32), b_met) ⟨hS, ⟨fun _ _ => rfl, fun _ _ _ z => z⟩, Or.inl ⟨rfl, rfl, fun k' r q => absurd q (Nat.not_lt_zero _)⟩⟩ ?_ ?_
  · rintro f ⟨cc, M⟩ ⟨s1, s2, s3⟩
    have s1 : ym_S g (w, c) M j := s1
    have s2 : ym_L b_met M j := s2
    have s3 : (cc = 0 ∧ M = b_met ∧ ∀ k' r, k' < 50 → bl (b_met (j * 25 + i)) k' = true → us_U g r → im_nx g k' (rg_l g r) → bl (b_met (j * 25 + j)) (5 * r) = true) ∨ (cc = 1 ∧ ym_c b_met j < ym_c M j) := s3
    have hP : cc = 0 → ym_P g b_met i j := by
      intro q k r p1 p2 p3
      rcases s3 with ⟨_, _, s3⟩ | ⟨s3, _⟩
      · exact s3 k r (by have := im_lt hg (er_im hX hg (hS i j k (Nat.le_refl _) hij p1)); omega) p1 p2 p3
      · rw [q] at s3; exact absurd s3 (by decide)
    refine br_t (nI_le (Nat.le_refl 50) (by decide)) ?_
    -- the spans
    refine pk_loop (fun f m σ => wY_meetMore_134 post (nI j) (nI i) h_made h_depth h_length h_tokenCount h_wrong h_letterCount h_ruleCount h_makingCount u h_stateCount h_wideCount h_useCount h_result f σ.1 (nI m) b_ops b_firsts b_seconds b_sizes b_stack b_roots b_text b_ends b_tokenKinds b_tokenSizes b_letters b_begins b_closes b_empties b_nexts b_sets b_leads b_classes b_newClasses b_lefts b_rights b_counts b_making b_firstSets b_followSets b_states b_looks b_wides b_work σ.2 b_tasks b_held b_uses b_reach) (fun m σ => i ≤ m ∧ ym_S g (w, c) σ.2 j ∧ ym_L b_met σ.2 j ∧ ((σ.1 = 0 ∧ σ.2 = b_met ∧ ym_P g b_met i j ∧ ∀ m' s, i ≤ m' → m' < m → 3 ≤ s → s < 7 → ym_Q g w b_met i j m' s) ∨ (σ.1 = 1 ∧ ym_c b_met j < ym_c σ.2 j))) (j + 1) i (cc, M) (by omega) ⟨Nat.le_refl _, s1, s2, ?_⟩ ?_ ?_
    · rcases s3 with ⟨q1, q2, _⟩ | q
      · exact Or.inl ⟨q1, q2, hP q1, fun m' s p1 p2 => by omega⟩
      · exact Or.inr q
    · rintro f ⟨c2, N⟩ ⟨_, n1, n2, n3⟩
      refine br_t (nI_lt (by omega) (by omega)) ?_
      rcases n3 with ⟨q1, q2, q3, q4⟩ | ⟨q1, q2⟩
      · have q1 : c2 = 0 := q1
        have q2 : N = b_met := q2
        subst q1 q2
        exact ⟨nb_0, h0 q3 fun m s p1 p2 p3 p4 => q4 m s p1 (by omega) p3 p4⟩
      · have q1 : c2 = 1 := q1
        subst q1
        exact ⟨nb_1, h1 N n1 n2 q2⟩
    · rintro f m ⟨c2, N⟩ hm ⟨him, n1, n2, n3⟩ hk
      have n3 : (c2 = 0 ∧ N = b_met ∧ ym_P g b_met i j ∧ ∀ m' s, i ≤ m' → m' < m → 3 ≤ s → s < 7 → ym_Q g w b_met i j m' s) ∨ (c2 = 1 ∧ ym_c b_met j < ym_c N j) := n3
      have n1 : ym_S g (w, c) N j := n1
      have n2 : ym_L b_met N j := n2
      · refine br_f (nI_nlt (by omega) (by omega)) ?_
        refine loop_0 (fun f' y σ => wY_meetMore_143 post (wY_meetMore_134 post (nI j) (nI i) h_made h_depth h_length h_tokenCount h_wrong h_letterCount h_ruleCount h_makingCount u h_stateCount h_wideCount h_useCount h_result f) (nI j) (nI i) (nI m) h_made h_depth h_length h_tokenCount h_wrong h_letterCount h_ruleCount h_makingCount u h_stateCount h_wideCount h_useCount h_result f' σ.1 (nI (3 + y)) b_ops b_firsts b_seconds b_sizes b_stack b_roots b_text b_ends b_tokenKinds b_tokenSizes b_letters b_begins b_closes b_empties b_nexts b_sets b_leads b_classes b_newClasses b_lefts b_rights b_counts b_making b_firstSets b_followSets b_states b_looks b_wides b_work σ.2 b_tasks b_held b_uses b_reach) (fun y σ => ym_S g (w, c) σ.2 j ∧ ym_L b_met σ.2 j ∧ ((σ.1 = 0 ∧ σ.2 = b_met ∧ ym_P g b_met i j ∧ (∀ m' s, i ≤ m' → m' < m → 3 ≤ s → s < 7 → ym_Q g w b_met i j m' s) ∧ ∀ s, 3 ≤ s → s < 3 + y → ym_Q g w b_met i j m s) ∨ (σ.1 = 1 ∧ ym_c b_met j < ym_c σ.2 j))) 4 (c2, N) ⟨n1, n2, n3.imp (fun q => ⟨q.1, q.2.1, q.2.2.1, q.2.2.2, fun s p1 p2 => by omega⟩) id⟩ ?_ ?_
        · rintro f' ⟨c3, P⟩ ⟨p1, p2, p3⟩
          refine br_t (nI_le (Nat.le_refl 7) (by decide)) (nm_r (nI_1 m) (hk (c3, P) ⟨by omega, p1, p2, p3.imp (fun q => ⟨q.1, q.2.1, q.2.2.1, fun m' s a b d e => ?_⟩) id⟩))
          by_cases em : m' = m
          · subst em; exact q.2.2.2.2 s d (by omega)
          · exact q.2.2.2.1 m' s a (by omega) d e
        · rintro f' y ⟨c3, P⟩ hy ⟨p1, p2, p3⟩ hk2
          have p1 : ym_S g (w, c) P j := p1
          have p2 : ym_L b_met P j := p2
          have p3 : (c3 = 0 ∧ P = b_met ∧ ym_P g b_met i j ∧ (∀ m' s, i ≤ m' → m' < m → 3 ≤ s → s < 7 → ym_Q g w b_met i j m' s) ∧ ∀ s, 3 ≤ s → s < 3 + y → ym_Q g w b_met i j m s) ∨ (c3 = 1 ∧ ym_c b_met j < ym_c P j) := p3
          -- the store, with what came
          have st : ∀ T : Int64, (∀ k, bl T k = true ↔ ym_d g w P (3 + y) m j ∧ tb_mv g (P (m * 25 + i)) (3 + y) k) → wY_meetMore_197 post (wY_meetMore_134 post (nI j) (nI i) h_made h_depth h_length h_tokenCount h_wrong h_letterCount h_ruleCount h_makingCount u h_stateCount h_wideCount h_useCount h_result f) (wY_meetMore_143 post (wY_meetMore_134 post (nI j) (nI i) h_made h_depth h_length h_tokenCount h_wrong h_letterCount h_ruleCount h_makingCount u h_stateCount h_wideCount h_useCount h_result f) (nI j) (nI i) (nI m) h_made h_depth h_length h_tokenCount h_wrong h_letterCount h_ruleCount h_makingCount u h_stateCount h_wideCount h_useCount h_result f') (nI j) (nI i) c3 (nI m) (nI (3 + y)) (P (j * 25 + i)) T h_made h_depth h_length h_tokenCount h_wrong h_letterCount h_ruleCount h_makingCount u h_stateCount h_wideCount h_useCount h_result b_ops b_firsts b_seconds b_sizes b_stack b_roots b_text b_ends b_tokenKinds b_tokenSizes b_letters b_begins b_closes b_empties b_nexts b_sets b_leads b_classes b_newClasses b_lefts b_rights b_counts b_making b_firstSets b_followSets b_states b_looks b_wides b_work P b_tasks b_held b_uses b_reach := by
            intro T hT
            have eV : ∀ k, bl (P (j * 25 + i) ||| T) k = true ↔ bl (P (j * 25 + i)) k = true ∨ bl T k = true := fun k => by rw [bl_or, Bool.or_eq_true]
            have sV : ∀ k, bl (P (j * 25 + i) ||| T) k = true → er_E (tg_G g) (w, c) i j (k / 5) (k % 5) := by
              intro k hk
              rcases (eV k).mp hk with q | q
              · exact p1 i j k (Nat.le_refl _) hij q
              · obtain ⟨q1, q0, rfl, q2, q3⟩ := (hT k).mp q
                have e0 := p1 i m q0 (by omega) him q2
                have io := er_im hX hg e0
                obtain ⟨_, e1, e2⟩ := im_s hg io q3
                rw [e1, e2]
                rcases q1 with ⟨q1, _⟩ | ⟨_, r, q4, q5, q6⟩
                · omega
                · have h47 := hg.2.1 r q4.1
                  have er := p1 m j (5 * r + rg_c g r) (Nat.le_refl _) (by omega) q6
                  rw [show (5 * r + rg_c g r) / 5 = r by omega, show (5 * r + rg_c g r) % 5 = rg_c g r by omega] at er
                  exact S.2.2.2 i m j _ _ r e0 q3.1 er q4 (q5.trans q3.2.symm)
            obtain ⟨w1, w2, w3, w4⟩ := ym_w hX hg (by omega) hij p1 sV (fun k hk => (eV k).mpr (Or.inl hk))
            have tr := ym_tr p2 w2
            have le := ym_mono p2
            refine ⟨iji, ?_⟩
            rw [cji]
            refine nm_e (br_c (fun q => ⟨iji, ?_⟩) (fun q => nm_r (nI_1 (3 + y)) (hk2 (1, vp_updL P (j * 25 + i) (P (j * 25 + i) ||| T)) ⟨w1, tr, Or.inr ⟨rfl, ?_⟩⟩)))
            · rw [pk_uLs]
              refine br_c (fun q2 => nm_r (nI_1 (3 + y)) ?_) (fun q2 => nm_r (nI_1 (3 + y)) (hk2 (1, vp_updL P (j * 25 + i) (P (j * 25 + i) ||| T)) ⟨w1, tr, Or.inr ⟨rfl, ?_⟩⟩))
              · rw [w3 q2]
                refine hk2 (0, P) ⟨p1, p2, ?_⟩
                rcases p3 with ⟨a1, a2, a3, a4, a5⟩ | ⟨a1, _⟩
                · refine Or.inl ⟨rfl, a2, a3, a4, fun s b1 b2 => ?_⟩
                  by_cases es : s = 3 + y
                  · subst es
                    rw [← a2]
                    intro d1 k d2 d3
                    have := (eV (k + 1)).mpr (Or.inr ((hT (k + 1)).mpr ⟨d1, k, rfl, d2, d3⟩))
                    rw [q2] at this
                    exact this
                  · exact a5 s b1 (by omega)
                · rw [q] at a1; exact absurd a1 (by decide)
              · have := w4 q2
                show ym_c b_met j < ym_c (vp_updL P (j * 25 + i) (P (j * 25 + i) ||| T)) j
                omega
            · have a : ym_c b_met j < ym_c P j := by
                rcases p3 with ⟨a1, _⟩ | ⟨_, a⟩
                · exact absurd a1 q
                · exact a
              have := ym_mono w2
              show ym_c b_met j < ym_c (vp_updL P (j * 25 + i) (P (j * 25 + i) ||| T)) j
              omega
          refine br_f (nI_ge (a := 3 + y) (b := 7) (by omega) (by decide)) ⟨iji, nm_r (e' := P (j * 25 + i)) (by rw [cji]) ?_⟩
          refine yw_derives (b_met := P) hg hG hU hc hw (by omega) (by omega) hj (fun q => br_f (by decide) ⟨pk_in (m * 25 + i) 625 (by omega) (ix_25 m i), ?_⟩) (fun q => br_t rfl (st 0 fun k => ?_))
          · rw [pk_cl (m * 25 + i) (ix_25 m i)]
            refine yw_moved hg hG (fun k hk => er_im hX hg (p1 i m k (by omega) him hk)) (by omega) (fun T hT => st T fun k => ?_)
            rw [hT k]
            exact ⟨fun z => ⟨q, z⟩, fun z => z.2⟩
          · rw [bl_0]; exact ⟨(fun z => by cases z), fun z => absurd z.1 q⟩
  · rintro f k ⟨cc, M⟩ hk50 ⟨s1, s2, s3⟩ hk
    have s1 : ym_S g (w, c) M j := s1
    have s2 : ym_L b_met M j := s2
    have s3 : (cc = 0 ∧ M = b_met ∧ ∀ k' r, k' < k → bl (b_met (j * 25 + i)) k' = true → us_U g r → im_nx g k' (rg_l g r) → bl (b_met (j * 25 + j)) (5 * r) = true) ∨ (cc = 1 ∧ ym_c b_met j < ym_c M j) := s3
    have keep : (cc = 0 → M = b_met → bl (b_met (j * 25 + i)) k = true → ∀ r, us_U g r → im_nx g k (rg_l g r) → bl (b_met (j * 25 + j)) (5 * r) = true) → wY_meetMore_5 post (nI j) (nI i) h_made h_depth h_length h_tokenCount h_wrong h_letterCount h_ruleCount h_makingCount u h_stateCount h_wideCount h_useCount h_result f cc (nI (k + 1)) b_ops b_firsts b_seconds b_sizes b_stack b_roots b_text b_ends b_tokenKinds b_tokenSizes b_letters b_begins b_closes b_empties b_nexts b_sets b_leads b_classes b_newClasses b_lefts b_rights b_counts b_making b_firstSets b_followSets b_states b_looks b_wides b_work M b_tasks b_held b_uses b_reach := by
      intro q
      refine hk (cc, M) ⟨s1, s2, ?_⟩
      rcases s3 with ⟨a1, a2, a3⟩ | a
      · refine Or.inl ⟨a1, a2, fun k' r b1 b2 b3 b4 => ?_⟩
        by_cases e : k' = k
        · subst e; exact q a1 a2 b2 r b3 b4
        · exact a3 k' r (by omega) b2 b3 b4
      · exact Or.inr a
    refine br_f (nI_ge hk50 (by decide)) ⟨iji, ?_⟩
    rw [cji]
    refine br_c (fun z => ?_) (fun z => br_t (by decide) (nm_r (nI_1 k) (keep fun _ e b => absurd ((bl_test _ (by omega)).mpr (by rw [show (cc, M).2 = M from rfl, e]; exact b)) z)))
    have z : bl (M (j * 25 + i)) k = true := (bl_test (M (j * 25 + i)) (n := k) (by omega)).mp z
    have eK := s1 i j k (Nat.le_refl _) hij z
    have io := er_im hX hg eK
    refine yw_nextOf hg hG io (fun v hv v7 => pk_le v 2 (fun y => nm_r (nI_1 k) (keep fun _ _ _ r hr hn => ?_)) (fun y => ⟨ijj, nm_r (e' := M (j * 25 + j)) (by rw [cjj]) ?_⟩)) (fun hcp => br_t (by decide) (nm_r (nI_1 k) (keep fun _ _ _ r hr hn => ?_)))
    · have := (hg.2.1 r hr.1).1
      have := hv.2.symm.trans hn.2
      omega
    · have eB : ∀ b, bl (M (j * 25 + j) ||| (1 : Int64) <<< ((nI k).toInt64 &&& 63)) b = true ↔ bl (M (j * 25 + j)) b = true ∨ b = k := fun b => by rw [bl_or, Bool.or_eq_true, bl_one _ (by omega), decide_eq_true_eq]
      have ioB : tb_io g (M (j * 25 + j) ||| (1 : Int64) <<< ((nI k).toInt64 &&& 63)) := by
        intro b hb
        rcases (eB b).mp hb with q | rfl
        · exact er_im hX hg (s1 j j b (Nat.le_refl _) (Nat.le_refl _) q)
        · exact io
      refine yw_closure hg hG hU ioB ⟨ijj, ?_⟩
      rw [cjj]
      -- what the place then holds
      have eR := tb_mk hg (S := fun i => bl (M (j * 25 + j) ||| (1 : Int64) <<< ((nI k).toInt64 &&& 63)) i = true) ioB
      generalize mk_l (cl_0 g (fun i => bl (M (j * 25 + j) ||| (1 : Int64) <<< ((nI k).toInt64 &&& 63)) i = true)) = R at eR ⊢
      have snd : ∀ b, cl_0 g (fun i => bl (M (j * 25 + j) ||| (1 : Int64) <<< ((nI k).toInt64 &&& 63)) i = true) b → b = k ∨ er_E (tg_G g) (w, c) j j (b / 5) (b % 5) := by
        intro b hb
        refine hb (fun b => b = k ∨ er_E (tg_G g) (w, c) j j (b / 5) (b % 5)) (fun b hb => ?_) (fun b r hb hr hn => Or.inr ?_)
        · rcases (eB b).mp hb with q | q
          · exact Or.inr (s1 j j b (Nat.le_refl _) (Nat.le_refl _) q)
          · exact Or.inl q
        · rw [show 5 * r / 5 = r by omega, show 5 * r % 5 = 0 by omega]
          rcases hb with rfl | hb
          · exact S.2.1 i j _ _ r eK hn.1 hr hn.2.symm
          · exact S.2.1 j j _ _ r hb hn.1 hr hn.2.symm
      have eV : ∀ b, bl ((R &&& ((1 : Int64) <<< ((nI k).toInt64 &&& 63) ^^^ (-1))) ||| M (j * 25 + j)) b = true ↔ bl (M (j * 25 + j)) b = true ∨ (b ≠ k ∧ bl R b = true) := by
        intro b
        rw [bl_or, Bool.or_eq_true, bl_and, Bool.and_eq_true]
        constructor
        · rintro (⟨q1, q2⟩ | q)
          · refine Or.inr ⟨fun e => ?_, q1⟩
            have b64 : b < 64 := by omega
            rw [bl_not _ b64, bl_one _ (by omega), e] at q2
            simp at q2
          · exact Or.inl q
        · rintro (q | ⟨q1, q2⟩)
          · exact Or.inr q
          · refine Or.inl ⟨q2, ?_⟩
            have b64 : b < 64 := by
              rcases Nat.lt_or_ge b 64 with p | p
              · exact p
              · rw [bl_big p] at q2; cases q2
            rw [bl_not _ b64, bl_one _ (by omega), decide_eq_false q1]; rfl
      obtain ⟨w1, w2, w3, w4⟩ := ym_w hX hg (by omega) (Nat.le_refl j) s1 (V := (R &&& ((1 : Int64) <<< ((nI k).toInt64 &&& 63) ^^^ (-1))) ||| M (j * 25 + j)) (fun b hb => by
        rcases (eV b).mp hb with q | ⟨q1, q2⟩
        · exact s1 j j b (Nat.le_refl _) (Nat.le_refl _) q
        · rcases snd b ((eR b).mp q2) with q | q
          · exact absurd q q1
          · exact q) (fun b hb => (eV b).mpr (Or.inl hb))
      have tr := ym_tr s2 w2
      have le := ym_mono s2
      refine nm_e (br_c (fun q => ⟨ijj, ?_⟩) (fun q => nm_r (nI_1 k) (hk (1, vp_updL M (j * 25 + j) ((R &&& ((1 : Int64) <<< ((nI k).toInt64 &&& 63) ^^^ (-1))) ||| M (j * 25 + j))) ⟨w1, tr, Or.inr ⟨rfl, ?_⟩⟩)))
      · dsimp only
        rw [pk_uLs]
        refine br_c (fun q2 => nm_r (nI_1 k) ?_) (fun q2 => nm_r (nI_1 k) (hk (1, vp_updL M (j * 25 + j) ((R &&& ((1 : Int64) <<< ((nI k).toInt64 &&& 63) ^^^ (-1))) ||| M (j * 25 + j))) ⟨w1, tr, Or.inr ⟨rfl, ?_⟩⟩))
        · rw [w3 q2]
          have q : cc = 0 := q
          have := keep fun _ e _ r hr hn => ?_
          · rw [q] at this; exact this
          · rw [← e]
            by_cases e5 : 5 * r = k
            · rw [e5]
              have k0 : k % 5 = 0 := by omega
              rw [k0] at eK
              have : i = j := (er_sound hX (tg_ok hg) eK).1
              rw [← this]
              rw [← this] at z
              exact z
            · have := (eV (5 * r)).mpr (Or.inr ⟨e5, (eR _).mpr (cl_self g _ k r (cl_sub ((eB k).mpr (Or.inr rfl))) hr hn)⟩)
              rw [q2] at this
              exact this
        · have := w4 q2
          show ym_c b_met j < ym_c (vp_updL M (j * 25 + j) ((R &&& ((1 : Int64) <<< ((nI k).toInt64 &&& 63) ^^^ (-1))) ||| M (j * 25 + j))) j
          omega
      · have a : ym_c b_met j < ym_c M j := by
          rcases s3 with ⟨a1, _⟩ | ⟨_, a⟩
          · exact absurd a1 q
          · exact a
        have := ym_mono w2
        show ym_c b_met j < ym_c (vp_updL M (j * 25 + j) ((R &&& ((1 : Int64) <<< ((nI k).toInt64 &&& 63) ^^^ (-1))) ||| M (j * 25 + j))) j
        omega
    · have := hn.1
      omega
end
