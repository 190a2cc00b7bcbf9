/-! the reference's clashes and grade -/
variable {h_made h_depth h_length h_tokenCount h_wrong h_letterCount h_ruleCount h_makingCount h_usefulRules h_stateCount h_wideCount h_useCount h_result : Int32} {b_ops b_firsts b_seconds b_sizes b_stack b_roots b_text b_ends b_tokenKinds b_tokenSizes b_letters b_begins b_closes b_empties b_nexts b_sets b_leads b_classes b_newClasses b_lefts b_rights b_counts b_making b_firstSets b_followSets b_tasks b_held b_uses b_reach : Nat → Int32} {b_states b_looks b_wides b_work b_met : Nat → Int64}
theorem cn_st {P : Nat → Prop} {i : Nat} (h : P i) : cn_c P (i + 1) = cn_c P i + 1 := by show cn_c P i + cn_b (P i) = _; rw [cn_bt h]
theorem cn_sf {P : Nat → Prop} {i : Nat} (h : ¬ P i) : cn_c P (i + 1) = cn_c P i := by show cn_c P i + cn_b (P i) = _; rw [cn_bf h]; omega
theorem cn_pos {P : Nat → Prop} : ∀ {N : Nat}, 0 < cn_c P N ↔ ∃ k, k < N ∧ P k := by
  intro N
  constructor
  · intro h
    induction N with
    | zero => exact absurd h (Nat.lt_irrefl _)
    | succ N ih =>
      rcases Classical.em (P N) with z | z
      · exact ⟨N, by omega, z⟩
      · rw [cn_sf z] at h
        obtain ⟨k, a, b⟩ := ih h
        exact ⟨k, by omega, b⟩
  · rintro ⟨k, a, b⟩
    have := cn_lt (P := fun _ => False) (Q := P) (a := k) id b (N := N) (fun _ _ z => z.elim) a
    omega
theorem cn_two {P : Nat → Prop} {N : Nat} : 1 < cn_c P N ↔ ∃ k k', k < N ∧ k' < N ∧ k ≠ k' ∧ P k ∧ P k' := by
  constructor
  · intro h
    obtain ⟨y, y1, y2⟩ := cn_pos.mp (by omega : 0 < cn_c P N)
    rw [cn_del y2 y1] at h
    obtain ⟨k, a, b⟩ := cn_pos.mp (by omega : 0 < cn_c (fun k => P k ∧ k ≠ y) N)
    exact ⟨k, y, a, y1, b.2, b.1, y2⟩
  · rintro ⟨k, k', a, b, c, d, e⟩
    rw [cn_del e b]
    have := cn_pos.mpr (⟨k, a, d, c⟩ : ∃ k, k < N ∧ (P k ∧ k ≠ k'))
    omega
section
variable {g : rg_T}
/-- the reference's clash of a set M of items, C those that count, way and look -/
def yk_x (g : rg_T) (M : Int64) (C : Nat → Prop) (way t : Nat) : Prop :=
  (∃ k k', k ≠ k' ∧ (bl M k = true ∧ k % 5 = rg_c g (k / 5) ∧ C k) ∧ (bl M k' = true ∧ k' % 5 = rg_c g (k' / 5) ∧ C k')) ∨
  ((∃ k, bl M k = true ∧ k % 5 = rg_c g (k / 5) ∧ C k) ∧ ∃ k, bl M k = true ∧ ∃ v, v < 3 ∧ im_nx g k v ∧ (way = 0 ∨ v = t))
theorem yw_comesBehind (hg : rg_ok g) (hG : xg_G g b_lefts b_rights b_counts) (hl : ∀ r, r < 9 → ∃ v, v < 7 ∧ b_lefts r = nI v) (hW : yf_ok g b_followSets) {k t : Nat} (hk : k < 50) (ht : t < 4) {post : Int32 → Prop} (h : ∀ c : Nat, c ≤ 1 → (im_ok g k → (c = 1 ↔ cs_C1 g t k)) → post (nI c)) : wpY_comesBehind post (h_made, h_depth, h_length, h_tokenCount, h_wrong, h_letterCount, h_ruleCount, h_makingCount, h_usefulRules, h_stateCount, h_wideCount, h_useCount, h_result, b_ops, b_firsts, b_seconds, b_sizes, b_stack, b_roots, b_text, b_ends, b_tokenKinds, b_tokenSizes, b_letters, b_begins, b_closes, b_empties, b_nexts, b_sets, b_leads, b_classes, b_newClasses, b_lefts, b_rights, b_counts, b_making, b_firstSets, b_followSets, b_states, b_looks, b_wides, b_work, b_met, b_tasks, b_held, b_uses, b_reach) (nI k) (nI t) := by
  have e1 : nI k / 5 = nI (k / 5) := pk_div (d := 5) (by omega) (by decide) (by decide)
  have fin : ∀ x : Int32, (im_ok g k → (bt x t = true ↔ cs_C1 g t k)) → wY_comesBehind_26 post (nI t) x h_made h_depth h_length h_tokenCount h_wrong h_letterCount h_ruleCount h_makingCount h_usefulRules h_stateCount h_wideCount h_useCount h_result b_ops b_firsts b_seconds b_sizes b_stack b_roots b_text b_ends b_tokenKinds b_tokenSizes b_letters b_begins b_closes b_empties b_nexts b_sets b_leads b_classes b_newClasses b_lefts b_rights b_counts b_making b_firstSets b_followSets b_states b_looks b_wides b_work b_met b_tasks b_held b_uses b_reach := by
    intro x hx
    refine br_c (fun z => h 1 (by omega) fun io => ⟨fun _ => (hx io).mp ((b_test x (n := t) (by omega)).mp z), fun _ => rfl⟩) (fun z => h 0 (by omega) fun io => ⟨fun q => by omega, fun q => absurd ((b_test x (by omega)).mpr ((hx io).mpr q)) z⟩)
  refine ⟨by decide, ?_⟩
  rw [e1]
  refine pk_eq (k / 5) 9 (fun z => fin 8 fun _ => ?_) (fun z => ⟨by decide, vp_in_nI (by omega) (by decide), ?_⟩)
  · unfold cs_C1
    rw [if_pos z, b_8b, decide_eq_true_eq]
  · obtain ⟨v, v7, hv⟩ := hl (k / 5) (by omega)
    rw [nI_clamp (by omega : k / 5 < 2 ^ 31), hv]
    refine ⟨vp_in_nI v7 (by decide), fin _ fun io => ?_⟩
    rw [nI_clamp (by omega : v < 2 ^ 31)]
    unfold cs_C1
    rw [if_neg z]
    rcases io.1 with q | q
    · have := (hG _ (Or.inl q.1)).1
      have l := hg.2.1 _ q.1
      have ev : v = rg_l g (k / 5) := by
        rw [hv] at this
        exact (nI_eq (by omega) (by omega)).mp this
      rw [ev]
      exact hW _ _ l.2.1
    · exact absurd q z
theorem yw_clashes (hg : rg_ok g) (hG : xg_G g b_lefts b_rights b_counts) (hl : ∀ r, r < 9 → ∃ v, v < 7 ∧ b_lefts r = nI v) (hW : yf_ok g b_followSets) {s way t : Nat} (hs : s < 61 ∨ (way = 3 ∧ s < 81)) (hw : way ≤ 3) (ht : t < 4) {M : Int64} (hM : tb_io g M)
    (hM0 : way ≠ 3 → b_states s = M) (hM3 : way = 3 → ∀ k, bl M k = true ↔ ∃ u, u < 4 ∧ bl (b_wides (s * 4 + u)) k = true) {C : Nat → Prop}
    (hC : ∀ k, im_ok g k → (C k ↔ way = 0 ∨ (way = 1 ∧ cs_C1 g t k) ∨ (way = 2 ∧ bl (b_looks (s * 4 + t)) k = true) ∨ (way = 3 ∧ bl (b_wides (s * 4 + t)) k = true)))
    {post : Int32 → Prop} (h0 : ¬ yk_x g M C way t → post 0) (h1 : yk_x g M C way t → post 1) : wpY_clashes post (h_made, h_depth, h_length, h_tokenCount, h_wrong, h_letterCount, h_ruleCount, h_makingCount, h_usefulRules, h_stateCount, h_wideCount, h_useCount, h_result, b_ops, b_firsts, b_seconds, b_sizes, b_stack, b_roots, b_text, b_ends, b_tokenKinds, b_tokenSizes, b_letters, b_begins, b_closes, b_empties, b_nexts, b_sets, b_leads, b_classes, b_newClasses, b_lefts, b_rights, b_counts, b_making, b_firstSets, b_followSets, b_states, b_looks, b_wides, b_work, b_met, b_tasks, b_held, b_uses, b_reach) (nI s) (nI way) (nI t) := by
  have E50 : ∀ k, bl M k = true → k < 50 := fun k hk => by have := im_lt hg (hM k hk); omega
  refine loop_0 (fun f i (_ : Unit) => wY_clashes_9 post (nI s) (nI way) (nI t) h_made h_depth h_length h_tokenCount h_wrong h_letterCount h_ruleCount h_makingCount h_usefulRules h_stateCount h_wideCount h_useCount h_result b_ops b_firsts b_seconds b_sizes b_stack b_roots b_text b_ends b_tokenKinds b_tokenSizes b_letters b_begins b_closes b_empties b_nexts b_sets b_leads b_classes b_newClasses b_lefts b_rights b_counts b_making b_firstSets b_followSets b_states b_looks b_wides b_work b_met b_tasks b_held b_uses b_reach f (nI (cn_c (fun k => bl M k = true ∧ k % 5 = rg_c g (k / 5) ∧ C k) i)) (nI (cn_c (fun k => bl M k = true ∧ ∃ v, v < 3 ∧ im_nx g k v ∧ (way = 0 ∨ v = t)) i)) (nI i)) (fun _ _ => True) 50 () trivial ?_ ?_
  · intro f _ _
    have cE := cn_le (fun k => bl M k = true ∧ k % 5 = rg_c g (k / 5) ∧ C k) 50
    have cG := cn_le (fun k => bl M k = true ∧ ∃ v, v < 3 ∧ im_nx g k v ∧ (way = 0 ∨ v = t)) 50
    refine br_t (nI_le (Nat.le_refl 50) (by decide)) (pk_lt 1 _ (fun z => h1 ?_) (fun z => pk_eq _ 1 (fun y => pk_le _ 0 (fun w => h0 ?_) (fun w => h1 ?_)) (fun y => h0 ?_)))
    · obtain ⟨k, k', _, _, a, b, c⟩ := cn_two.mp z
      exact Or.inl ⟨k, k', a, b, c⟩
    · rintro (⟨k, k', a, b, c⟩ | ⟨_, k, b, c⟩)
      · have := (cn_two (P := fun k => bl M k = true ∧ k % 5 = rg_c g (k / 5) ∧ C k)).mpr ⟨k, k', E50 k b.1, E50 k' c.1, a, b, c⟩
        omega
      · have := cn_pos.mpr (⟨k, E50 k b, b, c⟩ : ∃ k, k < 50 ∧ (bl M k = true ∧ ∃ v, v < 3 ∧ im_nx g k v ∧ (way = 0 ∨ v = t)))
        omega
    · obtain ⟨k, _, a⟩ := cn_pos.mp (by omega : 0 < cn_c (fun k => bl M k = true ∧ k % 5 = rg_c g (k / 5) ∧ C k) 50)
      obtain ⟨k', _, b⟩ := cn_pos.mp w
      exact Or.inr ⟨⟨k, a⟩, k', b⟩
    · rintro (⟨k, k', a, b, c⟩ | ⟨⟨k, b⟩, _⟩)
      · have := (cn_two (P := fun k => bl M k = true ∧ k % 5 = rg_c g (k / 5) ∧ C k)).mpr ⟨k, k', E50 k b.1, E50 k' c.1, a, b, c⟩
        omega
      · have := cn_pos.mpr (⟨k, E50 k b.1, b⟩ : ∃ k, k < 50 ∧ (bl M k = true ∧ k % 5 = rg_c g (k / 5) ∧ C k))
        omega
  · intro f i _ hi _ hk
    have go := hk () trivial
    -- one item, its next symbol known
    have step : ∀ nx : Int32, ((nx = -2 ∧ ¬ bl M i = true) ∨ (nx = -1 ∧ bl M i = true ∧ i % 5 = rg_c g (i / 5)) ∨ ∃ v, nx = nI v ∧ v < 7 ∧ bl M i = true ∧ im_nx g i v) → wY_clashes_83 post (wY_clashes_9 post (nI s) (nI way) (nI t) h_made h_depth h_length h_tokenCount h_wrong h_letterCount h_ruleCount h_makingCount h_usefulRules h_stateCount h_wideCount h_useCount h_result b_ops b_firsts b_seconds b_sizes b_stack b_roots b_text b_ends b_tokenKinds b_tokenSizes b_letters b_begins b_closes b_empties b_nexts b_sets b_leads b_classes b_newClasses b_lefts b_rights b_counts b_making b_firstSets b_followSets b_states b_looks b_wides b_work b_met b_tasks b_held b_uses b_reach f) (nI s) (nI way) (nI t) (nI (cn_c (fun k => bl M k = true ∧ k % 5 = rg_c g (k / 5) ∧ C k) i)) (nI (cn_c (fun k => bl M k = true ∧ ∃ v, v < 3 ∧ im_nx g k v ∧ (way = 0 ∨ v = t)) i)) (nI i) nx h_made h_depth h_length h_tokenCount h_wrong h_letterCount h_ruleCount h_makingCount h_usefulRules h_stateCount h_wideCount h_useCount h_result b_ops b_firsts b_seconds b_sizes b_stack b_roots b_text b_ends b_tokenKinds b_tokenSizes b_letters b_begins b_closes b_empties b_nexts b_sets b_leads b_classes b_newClasses b_lefts b_rights b_counts b_making b_firstSets b_followSets b_states b_looks b_wides b_work b_met b_tasks b_held b_uses b_reach := by
      intro nx hnx
      -- the tail, once it is known whether the item counts
      have tail : ∀ c : Nat, c ≤ 1 → (im_ok g i → (c = 1 ↔ C i)) → wY_clashes_150 post (wY_clashes_9 post (nI s) (nI way) (nI t) h_made h_depth h_length h_tokenCount h_wrong h_letterCount h_ruleCount h_makingCount h_usefulRules h_stateCount h_wideCount h_useCount h_result b_ops b_firsts b_seconds b_sizes b_stack b_roots b_text b_ends b_tokenKinds b_tokenSizes b_letters b_begins b_closes b_empties b_nexts b_sets b_leads b_classes b_newClasses b_lefts b_rights b_counts b_making b_firstSets b_followSets b_states b_looks b_wides b_work b_met b_tasks b_held b_uses b_reach f) (nI s) (nI way) (nI t) (nI (cn_c (fun k => bl M k = true ∧ k % 5 = rg_c g (k / 5) ∧ C k) i)) (nI (cn_c (fun k => bl M k = true ∧ ∃ v, v < 3 ∧ im_nx g k v ∧ (way = 0 ∨ v = t)) i)) (nI i) nx (nI c) h_made h_depth h_length h_tokenCount h_wrong h_letterCount h_ruleCount h_makingCount h_usefulRules h_stateCount h_wideCount h_useCount h_result b_ops b_firsts b_seconds b_sizes b_stack b_roots b_text b_ends b_tokenKinds b_tokenSizes b_letters b_begins b_closes b_empties b_nexts b_sets b_leads b_classes b_newClasses b_lefts b_rights b_counts b_making b_firstSets b_followSets b_states b_looks b_wides b_work b_met b_tasks b_held b_uses b_reach := by
        intro c hc1 hc
        rcases hnx with ⟨rfl, q⟩ | ⟨rfl, q1, q2⟩ | ⟨v, rfl, v7, q1, q2⟩
        · rw [cn_sf (i := i) (P := fun k => bl M k = true ∧ k % 5 = rg_c g (k / 5) ∧ C k) (fun w => q w.1), cn_sf (i := i) (P := fun k => bl M k = true ∧ ∃ v, v < 3 ∧ im_nx g k v ∧ (way = 0 ∨ v = t)) (fun w => q w.1)] at go
          exact br_f (by decide) (br_t (by decide) (nm_r (nI_1 i) go))
        · have io := hM i q1
          rw [cn_sf (i := i) (P := fun k => bl M k = true ∧ ∃ v, v < 3 ∧ im_nx g k v ∧ (way = 0 ∨ v = t)) (fun ⟨_, v, _, w, _⟩ => by have := w.1; omega)] at go
          refine br_t rfl (pk_eq c 0 (fun z => ?_) (fun z => ?_))
          · rw [cn_sf (i := i) (P := fun k => bl M k = true ∧ k % 5 = rg_c g (k / 5) ∧ C k) (fun w => by have := (hc io).mpr w.2.2; omega)] at go
            exact br_t (by decide) (nm_r (nI_1 i) go)
          · rw [cn_st (i := i) (P := fun k => bl M k = true ∧ k % 5 = rg_c g (k / 5) ∧ C k) ⟨q1, q2, (hc io).mp (by omega)⟩, ← nI_1] at go
            exact br_t (by decide) (nm_r (nI_1 i) go)
        · rw [cn_sf (i := i) (P := fun k => bl M k = true ∧ k % 5 = rg_c g (k / 5) ∧ C k) (fun w => by have := w.2.1; have := q2.1; omega)] at go
          refine br_f (ne_neg (by omega) (by decide)) (br_f (nI_pos (by omega)) (pk_le 3 v (fun z => ?_) (fun z => pk_eq way 0 (fun y => ?_) (fun y => pk_eq v t (fun w => ?_) (fun w => ?_)))))
          · rw [cn_sf (i := i) (P := fun k => bl M k = true ∧ ∃ v, v < 3 ∧ im_nx g k v ∧ (way = 0 ∨ v = t)) (fun ⟨_, v', p1, p2, _⟩ => by have := q2.2.symm.trans p2.2; omega)] at go
            exact nm_r (nI_1 i) go
          · rw [cn_st (i := i) (P := fun k => bl M k = true ∧ ∃ v, v < 3 ∧ im_nx g k v ∧ (way = 0 ∨ v = t)) ⟨q1, v, z, q2, Or.inl y⟩] at go
            exact nm_r (nI_1 _) (nm_r (nI_1 i) go)
          · rw [cn_st (i := i) (P := fun k => bl M k = true ∧ ∃ v, v < 3 ∧ im_nx g k v ∧ (way = 0 ∨ v = t)) ⟨q1, v, z, q2, Or.inr w⟩] at go
            exact nm_r (nI_1 _) (nm_r (nI_1 i) go)
          · rw [cn_sf (i := i) (P := fun k => bl M k = true ∧ ∃ v, v < 3 ∧ im_nx g k v ∧ (way = 0 ∨ v = t)) (fun ⟨_, v', p1, p2, p3⟩ => by
              have e := q2.2.symm.trans p2.2
              rcases p3 with p3 | p3
              · exact y p3
              · omega)] at go
            exact nm_r (nI_1 i) go
      have bits : ∀ L : Int64, (im_ok g i → (bl L i = true ↔ C i)) → wY_clashes_135 post (wY_clashes_9 post (nI s) (nI way) (nI t) h_made h_depth h_length h_tokenCount h_wrong h_letterCount h_ruleCount h_makingCount h_usefulRules h_stateCount h_wideCount h_useCount h_result b_ops b_firsts b_seconds b_sizes b_stack b_roots b_text b_ends b_tokenKinds b_tokenSizes b_letters b_begins b_closes b_empties b_nexts b_sets b_leads b_classes b_newClasses b_lefts b_rights b_counts b_making b_firstSets b_followSets b_states b_looks b_wides b_work b_met b_tasks b_held b_uses b_reach f) (nI s) (nI way) (nI t) (nI (cn_c (fun k => bl M k = true ∧ k % 5 = rg_c g (k / 5) ∧ C k) i)) (nI (cn_c (fun k => bl M k = true ∧ ∃ v, v < 3 ∧ im_nx g k v ∧ (way = 0 ∨ v = t)) i)) (nI i) nx L h_made h_depth h_length h_tokenCount h_wrong h_letterCount h_ruleCount h_makingCount h_usefulRules h_stateCount h_wideCount h_useCount h_result b_ops b_firsts b_seconds b_sizes b_stack b_roots b_text b_ends b_tokenKinds b_tokenSizes b_letters b_begins b_closes b_empties b_nexts b_sets b_leads b_classes b_newClasses b_lefts b_rights b_counts b_making b_firstSets b_followSets b_states b_looks b_wides b_work b_met b_tasks b_held b_uses b_reach := by
        intro L hL
        refine br_c (fun z => tail 1 (by omega) fun io => ⟨fun _ => (hL io).mp ((bl_test L (n := i) (by omega)).mp z), fun _ => rfl⟩) (fun z => tail 0 (by omega) fun io => ⟨fun q => by omega, fun q => absurd ((bl_test L (by omega)).mpr ((hL io).mpr q)) z⟩)
      refine pk_eq way 0 (fun w0 => tail 1 (by omega) fun io => ⟨fun _ => (hC i io).mpr (Or.inl w0), fun _ => rfl⟩) (fun w0 => pk_eq way 1 (fun w1 => ?_) (fun w1 => pk_eq way 2 (fun w2 => ⟨pk_in (s * 4 + t) 244 (by omega) (ix_l4 s t), ?_⟩) (fun w2 => ⟨pk_in (s * 4 + t) 324 (by omega) (ix_l4 s t), ?_⟩)))
      · refine yw_comesBehind hg hG hl hW hi ht (fun c hc1 hc => ?_)
        have hc2 : im_ok g i → (c = 1 ↔ C i) := fun io => by
          rw [hc io, hC i io]
          exact ⟨fun q => Or.inr (Or.inl ⟨w1, q⟩), fun q => by
            rcases q with q | q | q | q
            · omega
            · exact q.2
            · omega
            · omega⟩
        refine pk_eq c 0 (fun z => ?_) (fun z => ?_)
        · have := tail c hc1 hc2
          rw [z] at this
          exact this
        · have := tail c hc1 hc2
          rw [show c = 1 by omega] at this
          exact this
      · rw [pk_cl (s * 4 + t) (ix_l4 s t)]
        exact bits _ fun io => by
          rw [hC i io]
          exact ⟨fun q => Or.inr (Or.inr (Or.inl ⟨w2, q⟩)), fun q => by
            rcases q with q | q | q | q
            · omega
            · omega
            · exact q.2
            · omega⟩
      · rw [pk_cl (s * 4 + t) (ix_l4 s t)]
        exact bits _ fun io => by
          rw [hC i io]
          exact ⟨fun q => Or.inr (Or.inr (Or.inr ⟨by omega, q⟩)), fun q => by
            rcases q with q | q | q | q
            · omega
            · omega
            · omega
            · exact q.2⟩
    have inn : bl M i = true → wY_clashes_65 post (wY_clashes_9 post (nI s) (nI way) (nI t) h_made h_depth h_length h_tokenCount h_wrong h_letterCount h_ruleCount h_makingCount h_usefulRules h_stateCount h_wideCount h_useCount h_result b_ops b_firsts b_seconds b_sizes b_stack b_roots b_text b_ends b_tokenKinds b_tokenSizes b_letters b_begins b_closes b_empties b_nexts b_sets b_leads b_classes b_newClasses b_lefts b_rights b_counts b_making b_firstSets b_followSets b_states b_looks b_wides b_work b_met b_tasks b_held b_uses b_reach f) (nI s) (nI way) (nI t) (nI (cn_c (fun k => bl M k = true ∧ k % 5 = rg_c g (k / 5) ∧ C k) i)) (nI (cn_c (fun k => bl M k = true ∧ ∃ v, v < 3 ∧ im_nx g k v ∧ (way = 0 ∨ v = t)) i)) (nI i) 1 h_made h_depth h_length h_tokenCount h_wrong h_letterCount h_ruleCount h_makingCount h_usefulRules h_stateCount h_wideCount h_useCount h_result b_ops b_firsts b_seconds b_sizes b_stack b_roots b_text b_ends b_tokenKinds b_tokenSizes b_letters b_begins b_closes b_empties b_nexts b_sets b_leads b_classes b_newClasses b_lefts b_rights b_counts b_making b_firstSets b_followSets b_states b_looks b_wides b_work b_met b_tasks b_held b_uses b_reach := by
      intro q
      exact br_f (by decide) (yw_nextOf hg hG (hM i q) (fun v hv v7 => step _ (Or.inr (Or.inr ⟨v, rfl, v7, q, hv⟩))) (fun hc => step _ (Or.inr (Or.inl ⟨rfl, q, hc⟩))))
    have out : ¬ bl M i = true → wY_clashes_65 post (wY_clashes_9 post (nI s) (nI way) (nI t) h_made h_depth h_length h_tokenCount h_wrong h_letterCount h_ruleCount h_makingCount h_usefulRules h_stateCount h_wideCount h_useCount h_result b_ops b_firsts b_seconds b_sizes b_stack b_roots b_text b_ends b_tokenKinds b_tokenSizes b_letters b_begins b_closes b_empties b_nexts b_sets b_leads b_classes b_newClasses b_lefts b_rights b_counts b_making b_firstSets b_followSets b_states b_looks b_wides b_work b_met b_tasks b_held b_uses b_reach f) (nI s) (nI way) (nI t) (nI (cn_c (fun k => bl M k = true ∧ k % 5 = rg_c g (k / 5) ∧ C k) i)) (nI (cn_c (fun k => bl M k = true ∧ ∃ v, v < 3 ∧ im_nx g k v ∧ (way = 0 ∨ v = t)) i)) (nI i) 0 h_made h_depth h_length h_tokenCount h_wrong h_letterCount h_ruleCount h_makingCount h_usefulRules h_stateCount h_wideCount h_useCount h_result b_ops b_firsts b_seconds b_sizes b_stack b_roots b_text b_ends b_tokenKinds b_tokenSizes b_letters b_begins b_closes b_empties b_nexts b_sets b_leads b_classes b_newClasses b_lefts b_rights b_counts b_making b_firstSets b_followSets b_states b_looks b_wides b_work b_met b_tasks b_held b_uses b_reach := fun q => br_t rfl (step _ (Or.inl ⟨rfl, q⟩))
    refine br_f (nI_ge hi (by decide)) (pk_eq way 3 (fun w => ?_) (fun w => ⟨vp_in_nI (by omega) (by decide), ?_⟩))
    · have e0 : (4 : Int32) * nI s = nI (s * 4 + 0) := by rw [Nat.add_zero, Nat.mul_comm]; exact pk_mul 4 s
      have e1 : (4 : Int32) * nI s + 1 = nI (s * 4 + 1) := ix_l4 s 1
      have e2 : (4 : Int32) * nI s + 2 = nI (s * 4 + 2) := ix_l4 s 2
      have e3 : (4 : Int32) * nI s + 3 = nI (s * 4 + 3) := ix_l4 s 3
      refine ⟨pk_in (s * 4 + 0) 324 (by omega) e0, pk_in (s * 4 + 1) 324 (by omega) e1, pk_in (s * 4 + 2) 324 (by omega) e2, pk_in (s * 4 + 3) 324 (by omega) e3, ?_⟩
      rw [pk_cl (s * 4 + 0) e0, pk_cl (s * 4 + 1) e1, pk_cl (s * 4 + 2) e2, pk_cl (s * 4 + 3) e3]
      have bM : bl (b_wides (s * 4 + 0) ||| b_wides (s * 4 + 1) ||| b_wides (s * 4 + 2) ||| b_wides (s * 4 + 3)) i = true ↔ bl M i = true := by
        rw [hM3 w i, bl_or, bl_or, bl_or, Bool.or_eq_true, Bool.or_eq_true, Bool.or_eq_true]
        constructor
        · rintro (((q | q) | q) | q)
          · exact ⟨0, by omega, q⟩
          · exact ⟨1, by omega, q⟩
          · exact ⟨2, by omega, q⟩
          · exact ⟨3, by omega, q⟩
        · rintro ⟨u, q1, q2⟩
          have : u = 0 ∨ u = 1 ∨ u = 2 ∨ u = 3 := by omega
          rcases this with rfl | rfl | rfl | rfl
          · exact Or.inl (Or.inl (Or.inl q2))
          · exact Or.inl (Or.inl (Or.inr q2))
          · exact Or.inl (Or.inr q2)
          · exact Or.inr q2
      exact br_c (fun q => inn (bM.mp ((bl_test _ (n := i) (by omega)).mp q))) (fun q => out fun q2 => q ((bl_test _ (by omega)).mpr (bM.mpr q2)))
    · rw [nI_clamp (by omega : s < 2 ^ 31), hM0 w]
      exact br_c (fun q => inn ((bl_test _ (n := i) (by omega)).mp q)) (fun q => out fun q2 => q ((bl_test _ (by omega)).mpr q2))
end
