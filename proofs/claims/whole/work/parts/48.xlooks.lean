/-! the component closes four sets of items -/
variable {f_depth f_made f_textLength f_tokenCount f_wrongPlace f_ruleCount f_prepared f_rulesInUse f_stateCount f_wideCount f_gradeFound f_readHeight f_tokensTaken f_usedCount : Int32} {a_spotCounts a_ends a_arrows a_takers a_groups a_marks a_text a_tokenKinds a_tokenLengths a_lefts a_rights a_rightSizes a_beginSets a_followSets a_stateSteps a_wideSteps a_readStates a_readValues a_usedRules : Nat → Int32} {a_nextItems a_openItems a_restItems a_stateItems a_stateLooks a_wideLooks : Nat → Int64}
theorem ax_uL {a : Nat → Int64} {b n t : Nat} {L : Nat → Int64} {x : Int64} (ht : t < n) : vp_updL (ax_set a b n L) (b + t) x = ax_set a b n (vp_updL L t x) := by
  funext j
  unfold vp_updL ax_set
  by_cases h : j = b + t
  · subst h
    rw [if_pos rfl, if_pos (by omega)]
    exact (if_pos (by omega)).symm
  · rw [if_neg h]
    by_cases h2 : b ≤ j ∧ j < b + n
    · rw [if_pos h2, if_pos h2]
      exact (if_neg (by omega)).symm
    · rw [if_neg h2, if_neg h2]
section
variable {g : rg_T}
/-- the looks that variable v is opened with -/
def xo_O (g : rg_T) (L : Nat → Int64) (v t : Nat) : Prop := ∃ t0 k, t0 < 4 ∧ bl (L t0) k = true ∧ im_nx g k v ∧ fs_t (fi_F g) (rg_h g (k / 5)) (rg_c g (k / 5) - (k % 5 + 1)) (k % 5 + 1) t0 t
def xo_s (g : rg_T) (ao L : Nat → Int64) (v : Nat) : Prop := ∀ t, t < 4 → xo_O g L v t → ∀ k, bl (ao v) k = true → bl (L t) k = true
noncomputable def xo_c (ao L : Nat → Int64) : Nat := cn_c (fun x => ∀ k, bl (ao (x / 4 + 3)) k = true → bl (L (x % 4)) k = true) 16
/-- the sets' items are in use, and their looks -/
def xo_io (g : rg_T) (L : Nat → Int64) : Prop := ∀ t k, t < 4 → bl (L t) k = true → tw_in g t k
def xo_S (L : Nat → Int64) (t k : Nat) : Prop := t < 4 ∧ bl (L t) k = true
theorem xo_lt (hg : rg_ok g) {ao L L' : Nat → Int64} {v t : Nat} (v3 : 3 ≤ v) (v7 : v < 7) (ht : t < 4) (h1 : ¬ ∀ k, bl (ao v) k = true → bl (L t) k = true) (h2 : ∀ k, bl (ao v) k = true → bl (L' t) k = true) (h : ∀ t k, t < 4 → bl (L t) k = true → bl (L' t) k = true) : xo_c ao L < xo_c ao L' := by
  have e1 : ((v - 3) * 4 + t) / 4 + 3 = v := by omega
  have e2 : ((v - 3) * 4 + t) % 4 = t := by omega
  exact cn_lt (a := (v - 3) * 4 + t) (by rw [e1, e2]; exact h1) (by rw [e1, e2]; exact h2) (fun x _ z k hk => h _ k (by omega) (z k hk)) (by omega)
/-- closed sets above S and below the least are the least -/
theorem xo_end (hg : rg_ok g) {ao L S : Nat → Int64} (hO : ∀ v k, v < 7 → (bl (ao v) k = true ↔ ∃ r, us_U g r ∧ r < 10 ∧ rg_l g r = v ∧ k = 5 * r)) (hS : xo_io g S) (h1 : ∀ t k, t < 4 → bl (S t) k = true → bl (L t) k = true) (h2 : ∀ t k, t < 4 → bl (L t) k = true → cw_0 g (xo_S S) t k) (h3 : ∀ v, 3 ≤ v → v < 7 → xo_s g ao L v) {t : Nat} (ht : t < 4) : L t = mk_l (cw_0 g (xo_S S) t) := by
  apply bl_ext
  intro i _
  have hin : ∀ t k, xo_S S t k → tw_in g t k := fun t k z => hS t k z.1 z.2
  have e1 := tw_mk hg hin ht i
  rw [w4_tm ht] at e1
  have e2 : bl (L t) i = true ↔ cw_0 g (xo_S S) t i := by
    refine ⟨h2 t i ht, fun z => (z (fun t k => t < 4 ∧ bl (L t) k = true) (fun t k w => ⟨w.1, h1 t k w.1 w.2⟩) fun t k r t' hk hU hn hf => ?_).2⟩
    have ht' : t' < 4 := by have := fs_t_le (t := t) (by omega) hf; omega
    have l := hg.2.1 r hU.1
    exact ⟨ht', h3 (rg_l g r) l.1 l.2.1 t' ht' ⟨t, k, hk.1, hk.2, hn, hf⟩ _ ((hO _ _ l.2.1).mpr ⟨r, hU, by have := hU.1; have := hg.1; omega, rfl, rfl⟩)⟩
  rw [← e1] at e2
  cases c1 : bl (L t) i <;> cases c2 : bl (mk_l (cw_0 g (xo_S S) t)) i
  · rfl
  · rw [c1, c2] at e2; exact absurd (e2.mpr rfl) (by decide)
  · rw [c1, c2] at e2; exact absurd (e2.mp rfl) (by decide)
  · rfl
/-- what is opened is in the least closed sets -/
theorem xo_snd {ao L S : Nat → Int64} (hO : ∀ v k, v < 7 → (bl (ao v) k = true ↔ ∃ r, us_U g r ∧ r < 10 ∧ rg_l g r = v ∧ k = 5 * r)) (h2 : ∀ t k, t < 4 → bl (L t) k = true → cw_0 g (xo_S S) t k) {v t : Nat} (v7 : v < 7) (h : xo_O g L v t) {k : Nat} (hk : bl (ao v) k = true) : cw_0 g (xo_S S) t k := by
  obtain ⟨t0, j, z1, z2, z3, z4⟩ := h
  obtain ⟨r, y1, _, y3, rfl⟩ := (hO v k v7).mp hk
  rw [← y3] at z3
  exact cw_self g _ t0 j r t (h2 t0 j z1 z2) y1 z3 z4
theorem xw_looksOpened_wideLooks (hg : rg_ok g) (hI : xi_I g 10 a_nextItems a_openItems a_restItems) {b v : Nat} (hb : b + 4 ≤ 324) (v3 : 3 ≤ v) (v7 : v < 7) {L : Nat → Int64} (hL : xo_io g L) {post : Int32 → Prop} (h : ∀ x, (∀ t, bt x t = true ↔ xo_O g L v t) → post x) : wpX_looksOpened__wideLooks post (f_depth, f_made, f_textLength, f_tokenCount, f_wrongPlace, f_ruleCount, f_prepared, f_rulesInUse, f_stateCount, f_wideCount, f_gradeFound, f_readHeight, f_tokensTaken, f_usedCount, a_spotCounts, a_ends, a_arrows, a_takers, a_groups, a_marks, a_text, a_tokenKinds, a_tokenLengths, a_lefts, a_rights, a_rightSizes, a_beginSets, a_followSets, a_nextItems, a_openItems, a_restItems, a_stateItems, a_stateSteps, a_stateLooks, a_wideSteps, (ax_set a_wideLooks b 4 L), a_readStates, a_readValues, a_usedRules) (nI b) (nI v) := by
  obtain ⟨i1, i2, i3, i4⟩ := hI
  have cv : (nI v).toNatClampNeg = v := nI_clamp (by omega)
  have here : ∀ t, t < 4 → ∀ k, bl (L t &&& a_nextItems v) k = true ↔ bl (L t) k = true ∧ im_nx g k v := by
    intro t ht k
    rw [bl_and, Bool.and_eq_true, i1 v k v7]
    exact ⟨fun z => ⟨z.1, z.2.2⟩, fun z => ⟨z.1, ⟨(hL t k ht z.1).1.1, xu_10 hg (hL t k ht z.1).1.1⟩, z.2⟩⟩
  refine loop_0 (fun f t s => wX_looksOpened__wideLooks_9 post (nI b) (nI v) f_depth f_made f_textLength f_tokenCount f_wrongPlace f_ruleCount f_prepared f_rulesInUse f_stateCount f_wideCount f_gradeFound f_readHeight f_tokensTaken f_usedCount a_spotCounts a_ends a_arrows a_takers a_groups a_marks a_text a_tokenKinds a_tokenLengths a_lefts a_rights a_rightSizes a_beginSets a_followSets a_nextItems a_openItems a_restItems a_stateItems a_stateSteps a_stateLooks a_wideSteps (ax_set a_wideLooks b 4 L) a_readStates a_readValues a_usedRules f s.1 s.2 (nI t)) (fun t s => (∀ j, bt s.1 j = true ↔ j < t ∧ ∃ k, bl (L j) k = true ∧ im_nx g k v ∧ xi_f g k 3) ∧ ∀ k, bl s.2 k = true ↔ ∃ j, j < t ∧ bl (L j) k = true ∧ im_nx g k v) 4 ((0 : Int32), (0 : Int64)) ?_ ?_ ?_
  · refine ⟨fun j => ?_, fun k => ?_⟩
    · show bt 0 j = true ↔ _
      rw [b_0]; exact ⟨(fun z => by cases z), fun z => absurd z.1 (Nat.not_lt_zero _)⟩
    · show bl 0 k = true ↔ _
      rw [bl_0]; exact ⟨(fun z => by cases z), fun ⟨j, hj, _⟩ => absurd hj (Nat.not_lt_zero j)⟩
  · rintro f ⟨x, A⟩ ⟨s1, s2⟩
    have s1 : ∀ j, bt x j = true ↔ j < 4 ∧ ∃ k, bl (L j) k = true ∧ im_nx g k v ∧ xi_f g k 3 := s1
    have s2 : ∀ k, bl A k = true ↔ ∃ j, j < 4 ∧ bl (L j) k = true ∧ im_nx g k v := s2
    refine br_t (nI_le (Nat.le_refl 4) (by decide)) ?_
    refine loop_0 (fun f i y => wX_looksOpened__wideLooks_69 post A f_depth f_made f_textLength f_tokenCount f_wrongPlace f_ruleCount f_prepared f_rulesInUse f_stateCount f_wideCount f_gradeFound f_readHeight f_tokensTaken f_usedCount a_spotCounts a_ends a_arrows a_takers a_groups a_marks a_text a_tokenKinds a_tokenLengths a_lefts a_rights a_rightSizes a_beginSets a_followSets a_nextItems a_openItems a_restItems a_stateItems a_stateSteps a_stateLooks a_wideSteps (ax_set a_wideLooks b 4 L) a_readStates a_readValues a_usedRules f y (nI i)) (fun i y => ∀ j, bt y j = true ↔ bt x j = true ∨ (j < i ∧ ∃ k, bl A k = true ∧ xi_f g k j)) 3 x (fun j => ⟨Or.inl, fun z => by
      rcases z with z | z
      · exact z
      · omega⟩) ?_ ?_
    · intro f y hy
      refine br_t (nI_le (Nat.le_refl 3) (by decide)) (h y fun t => ?_)
      rw [hy t, s1 t]
      constructor
      · rintro (⟨z1, k, z2, z3, z4⟩ | ⟨z1, k, z2, z4⟩)
        · exact ⟨t, k, z1, z2, z3, Or.inr ⟨z4.2, rfl⟩⟩
        · obtain ⟨j, j1, j2, j3⟩ := (s2 k).mp z2
          exact ⟨j, k, j1, j2, j3, Or.inl ⟨z1, z4.2⟩⟩
      · rintro ⟨t0, k, z1, z2, z3, ⟨z4, z5⟩ | ⟨z4, rfl⟩⟩
        · exact Or.inr ⟨z4, k, (s2 k).mpr ⟨t0, z1, z2, z3⟩, z3.1, z5⟩
        · exact Or.inl ⟨z1, k, z2, z3, z3.1, z4⟩
    · intro f i y hi hy hk
      have ci : (nI i).toNatClampNeg = i := nI_clamp (by omega)
      refine br_f (nI_ge hi (by decide)) ⟨vp_in_nI (by omega) (by decide), ?_⟩
      rw [ci]
      have hz : ∀ k, bl (A &&& a_restItems i) k = true ↔ bl A k = true ∧ xi_f g k i := by
        intro k
        rw [bl_and, Bool.and_eq_true, i4 i k (by omega)]
        refine ⟨fun z => ⟨z.1, z.2.2⟩, fun z => ⟨z.1, ?_, z.2⟩⟩
        obtain ⟨j, j1, j2, j3⟩ := (s2 k).mp z.1
        exact ⟨(hL j k j1 j2).1.1, xu_10 hg (hL j k j1 j2).1.1⟩
      refine br_c (fun z => nm_r (nI_1 i) (hk y fun j => ?_)) (fun z => nm_e (nm_r (nI_1 i) (hk _ fun j => ?_)))
      · rw [hy j]
        constructor
        · rintro (w | ⟨w1, w2⟩)
          · exact Or.inl w
          · exact Or.inr ⟨by omega, w2⟩
        · rintro (w | ⟨w1, k, w2⟩)
          · exact Or.inl w
          · by_cases e : j = i
            · subst e; exact absurd ((hz k).mpr w2) (bl_no z k)
            · exact Or.inr ⟨by omega, k, w2⟩
      · obtain ⟨k0, hk0⟩ := bl_ne z
        rw [b_or, Bool.or_eq_true, hy j, b_one _ (by omega), decide_eq_true_eq]
        constructor
        · rintro ((w | ⟨w1, w2⟩) | rfl)
          · exact Or.inl w
          · exact Or.inr ⟨by omega, w2⟩
          · exact Or.inr ⟨by omega, k0, (hz k0).mp hk0⟩
        · rintro (w | ⟨w1, k, w2⟩)
          · exact Or.inl (Or.inl w)
          · by_cases e : j = i
            · exact Or.inr e
            · exact Or.inl (Or.inr ⟨by omega, k, w2⟩)
  · rintro f t ⟨x, A⟩ ht ⟨s1, s2⟩ hk
    have s1 : ∀ j, bt x j = true ↔ j < t ∧ ∃ k, bl (L j) k = true ∧ im_nx g k v ∧ xi_f g k 3 := s1
    have s2 : ∀ k, bl A k = true ↔ ∃ j, j < t ∧ bl (L j) k = true ∧ im_nx g k v := s2
    refine br_f (nI_ge ht (by decide)) ⟨pk_in (b + t) 324 (by omega) (nI_add b t), vp_in_nI (by omega) (by decide), ?_⟩
    rw [pk_cl (b + t) (nI_add b t), cv, ax_in ht]
    have A' : ∀ k, bl (A ||| (L t &&& a_nextItems v)) k = true ↔ ∃ j, j < t + 1 ∧ bl (L j) k = true ∧ im_nx g k v := by
      intro k
      rw [bl_or, Bool.or_eq_true, s2 k, here t ht k]
      constructor
      · rintro (⟨j, z⟩ | z)
        · exact ⟨j, by omega, z.2⟩
        · exact ⟨t, by omega, z⟩
      · rintro ⟨j, z1, z2⟩
        by_cases e : j = t
        · subst e; exact Or.inr z2
        · exact Or.inl ⟨j, by omega, z2⟩
    have hz : ∀ k, bl ((L t &&& a_nextItems v) &&& a_restItems 3) k = true ↔ bl (L t) k = true ∧ im_nx g k v ∧ xi_f g k 3 := by
      intro k
      rw [bl_and, Bool.and_eq_true, here t ht k, i4 3 k (by omega)]
      exact ⟨fun z => ⟨z.1.1, z.1.2, z.2.2⟩, fun z => ⟨⟨z.1, z.2.1⟩, ⟨(hL t k ht z.1).1.1, xu_10 hg (hL t k ht z.1).1.1⟩, z.2.2⟩⟩
    refine nm_e (nm_e (br_c (fun z => nm_r (nI_1 t) (hk (x, _) ⟨fun j => ?_, A'⟩)) (fun z => nm_e (nm_r (nI_1 t) (hk (_, _) ⟨fun j => ?_, A'⟩)))))
    · show bt x j = true ↔ _
      rw [s1 j]
      constructor
      · rintro ⟨w1, w2⟩; exact ⟨by omega, w2⟩
      · rintro ⟨w1, k, w2⟩
        by_cases e : j = t
        · subst e; exact absurd ((hz k).mpr w2) (bl_no z k)
        · exact ⟨by omega, k, w2⟩
    · obtain ⟨k0, hk0⟩ := bl_ne z
      show bt (x ||| (1 : Int32) <<< (nI t &&& 31)) j = true ↔ _
      rw [b_or, Bool.or_eq_true, s1 j, b_one _ (by omega), decide_eq_true_eq]
      constructor
      · rintro (⟨w1, w2⟩ | rfl)
        · exact ⟨by omega, w2⟩
        · exact ⟨by omega, k0, (hz k0).mp hk0⟩
      · rintro ⟨w1, k, w2⟩
        by_cases e : j = t
        · exact Or.inr e
        · exact Or.inl ⟨by omega, k, w2⟩
theorem xw_closeLooks_wideLooks (hg : rg_ok g) (hI : xi_I g 10 a_nextItems a_openItems a_restItems) {b : Nat} (hb : b + 4 ≤ 324) {S : Nat → Int64} (hS : xo_io g S) {post : SX → Prop} (h : post (f_depth, f_made, f_textLength, f_tokenCount, f_wrongPlace, f_ruleCount, f_prepared, f_rulesInUse, f_stateCount, f_wideCount, f_gradeFound, f_readHeight, f_tokensTaken, f_usedCount, a_spotCounts, a_ends, a_arrows, a_takers, a_groups, a_marks, a_text, a_tokenKinds, a_tokenLengths, a_lefts, a_rights, a_rightSizes, a_beginSets, a_followSets, a_nextItems, a_openItems, a_restItems, a_stateItems, a_stateSteps, a_stateLooks, a_wideSteps, (ax_set a_wideLooks b 4 (fun t => mk_l (cw_0 g (xo_S S) t))), a_readStates, a_readValues, a_usedRules)) : wpX_closeLooks__wideLooks post (f_depth, f_made, f_textLength, f_tokenCount, f_wrongPlace, f_ruleCount, f_prepared, f_rulesInUse, f_stateCount, f_wideCount, f_gradeFound, f_readHeight, f_tokensTaken, f_usedCount, a_spotCounts, a_ends, a_arrows, a_takers, a_groups, a_marks, a_text, a_tokenKinds, a_tokenLengths, a_lefts, a_rights, a_rightSizes, a_beginSets, a_followSets, a_nextItems, a_openItems, a_restItems, a_stateItems, a_stateSteps, a_stateLooks, a_wideSteps, (ax_set a_wideLooks b 4 S), a_readStates, a_readValues, a_usedRules) (nI b) := by
  have hO := hI.2.2.1
  have lin : ∀ t k, xo_S S t k → tw_in g t k := fun t k z => hS t k z.1 z.2
  have fin : ∀ L : Nat → Int64, (∀ t k, t < 4 → bl (S t) k = true → bl (L t) k = true) → (∀ t k, t < 4 → bl (L t) k = true → cw_0 g (xo_S S) t k) → (∀ v, 3 ≤ v → v < 7 → xo_s g a_openItems L v) → post (f_depth, f_made, f_textLength, f_tokenCount, f_wrongPlace, f_ruleCount, f_prepared, f_rulesInUse, f_stateCount, f_wideCount, f_gradeFound, f_readHeight, f_tokensTaken, f_usedCount, a_spotCounts, a_ends, a_arrows, a_takers, a_groups, a_marks, a_text, a_tokenKinds, a_tokenLengths, a_lefts, a_rights, a_rightSizes, a_beginSets, a_followSets, a_nextItems, a_openItems, a_restItems, a_stateItems, a_stateSteps, a_stateLooks, a_wideSteps, (ax_set a_wideLooks b 4 L), a_readStates, a_readValues, a_usedRules) := by
    intro L h1 h2 h3
    have e : ax_set a_wideLooks b 4 L = ax_set a_wideLooks b 4 (fun t => mk_l (cw_0 g (xo_S S) t)) := by
      funext j
      unfold ax_set
      split
      · exact xo_end hg hO hS h1 h2 h3 (by omega)
      · rfl
    rw [e]; exact h
  have key : ∀ d q, q + d = 17 → ∀ (c : Int32) (L : Nat → Int64), (∀ t k, t < 4 → bl (S t) k = true → bl (L t) k = true) → (∀ t k, t < 4 → bl (L t) k = true → cw_0 g (xo_S S) t k) → ((c = 0 ∧ ∀ v, 3 ≤ v → v < 7 → xo_s g a_openItems L v) ∨ (¬ c = 0 ∧ q ≤ xo_c a_openItems L)) → wX_closeLooks__wideLooks_5 post (nI b) f_depth f_made f_textLength f_tokenCount f_wrongPlace f_ruleCount f_prepared f_rulesInUse f_stateCount f_wideCount f_gradeFound f_readHeight f_tokensTaken f_usedCount (d + 1) c (nI q) a_spotCounts a_ends a_arrows a_takers a_groups a_marks a_text a_tokenKinds a_tokenLengths a_lefts a_rights a_rightSizes a_beginSets a_followSets a_nextItems a_openItems a_restItems a_stateItems a_stateSteps a_stateLooks a_wideSteps (ax_set a_wideLooks b 4 L) a_readStates a_readValues a_usedRules := by
    intro d
    induction d with
    | zero =>
      intro q hq c L h1 h2 h3
      refine br_t (nI_lt (a := 16) (by omega) (by omega)) ?_
      rcases h3 with ⟨_, h3⟩ | ⟨_, h3⟩
      · exact fin L h1 h2 h3
      · have : xo_c a_openItems L ≤ 16 := cn_le _ 16
        omega
    | succ d ih =>
      intro q hq c L h1 h2 h3
      refine br_f (nI_nlt (a := 16) (by omega) (by decide)) (br_c (fun z => ?_) (fun z => ?_))
      · rcases h3 with ⟨_, h3⟩ | ⟨h3, _⟩
        · exact fin L h1 h2 h3
        · exact absurd z h3
      · have hq' : q ≤ xo_c a_openItems L := by
          rcases h3 with ⟨h3, _⟩ | ⟨_, h3⟩
          · exact absurd h3 z
          · exact h3
        refine loop_0 (fun f i s => wX_closeLooks__wideLooks_21 post (wX_closeLooks__wideLooks_5 post (nI b) f_depth f_made f_textLength f_tokenCount f_wrongPlace f_ruleCount f_prepared f_rulesInUse f_stateCount f_wideCount f_gradeFound f_readHeight f_tokensTaken f_usedCount (d + 1)) (nI b) (nI q) f_depth f_made f_textLength f_tokenCount f_wrongPlace f_ruleCount f_prepared f_rulesInUse f_stateCount f_wideCount f_gradeFound f_readHeight f_tokensTaken f_usedCount f s.1 (nI (3 + i)) a_spotCounts a_ends a_arrows a_takers a_groups a_marks a_text a_tokenKinds a_tokenLengths a_lefts a_rights a_rightSizes a_beginSets a_followSets a_nextItems a_openItems a_restItems a_stateItems a_stateSteps a_stateLooks a_wideSteps (ax_set a_wideLooks b 4 s.2) a_readStates a_readValues a_usedRules) (fun i s => (∀ t k, t < 4 → bl (S t) k = true → bl (s.2 t) k = true) ∧ (∀ t k, t < 4 → bl (s.2 t) k = true → cw_0 g (xo_S S) t k) ∧ ((s.1 = 0 ∧ s.2 = L ∧ ∀ v, 3 ≤ v → v < 3 + i → xo_s g a_openItems L v) ∨ (s.1 = 1 ∧ xo_c a_openItems L < xo_c a_openItems s.2))) 4 ((0 : Int32), L) ⟨h1, h2, Or.inl ⟨rfl, rfl, fun v v3 v4 => by omega⟩⟩ ?_ ?_
        · rintro f ⟨c', L'⟩ ⟨s1, s2, s3⟩
          refine br_t (nI_le (Nat.le_refl 7) (by decide)) (nm_r (nI_1 q) (ih (q + 1) (by omega) c' L' s1 s2 ?_))
          rcases s3 with ⟨e1, e2, e3⟩ | ⟨e1, e2⟩
          · have e1 : c' = 0 := e1
            have e2 : L' = L := e2
            subst e2
            exact Or.inl ⟨e1, fun v v3 v7 => e3 v v3 (by omega)⟩
          · have e1 : c' = 1 := e1
            have e2 : xo_c a_openItems L < xo_c a_openItems L' := e2
            exact Or.inr ⟨by rw [e1]; decide, by omega⟩
        · rintro f i ⟨c', L'⟩ hi ⟨s1, s2, s3⟩ hk
          have s1 : ∀ t k, t < 4 → bl (S t) k = true → bl (L' t) k = true := s1
          have s2 : ∀ t k, t < 4 → bl (L' t) k = true → cw_0 g (xo_S S) t k := s2
          have hL' : xo_io g L' := fun t k ht hk => cw_ok hg lin (s2 t k ht hk)
          have cv : (nI (3 + i)).toNatClampNeg = 3 + i := nI_clamp (by omega)
          refine br_f (nI_ge (a := 3 + i) (b := 7) (by omega) (by decide)) (xw_looksOpened_wideLooks hg hI hb (by omega) (by omega) hL' (fun x hx => ?_))
          refine loop_0 (fun f' t s => wX_closeLooks__wideLooks_41 post (wX_closeLooks__wideLooks_5 post (nI b) f_depth f_made f_textLength f_tokenCount f_wrongPlace f_ruleCount f_prepared f_rulesInUse f_stateCount f_wideCount f_gradeFound f_readHeight f_tokensTaken f_usedCount (d + 1)) (wX_closeLooks__wideLooks_21 post (wX_closeLooks__wideLooks_5 post (nI b) f_depth f_made f_textLength f_tokenCount f_wrongPlace f_ruleCount f_prepared f_rulesInUse f_stateCount f_wideCount f_gradeFound f_readHeight f_tokensTaken f_usedCount (d + 1)) (nI b) (nI q) f_depth f_made f_textLength f_tokenCount f_wrongPlace f_ruleCount f_prepared f_rulesInUse f_stateCount f_wideCount f_gradeFound f_readHeight f_tokensTaken f_usedCount f) (nI b) (nI q) (nI (3 + i)) x f_depth f_made f_textLength f_tokenCount f_wrongPlace f_ruleCount f_prepared f_rulesInUse f_stateCount f_wideCount f_gradeFound f_readHeight f_tokensTaken f_usedCount f' s.1 (nI t) a_spotCounts a_ends a_arrows a_takers a_groups a_marks a_text a_tokenKinds a_tokenLengths a_lefts a_rights a_rightSizes a_beginSets a_followSets a_nextItems a_openItems a_restItems a_stateItems a_stateSteps a_stateLooks a_wideSteps (ax_set a_wideLooks b 4 s.2) a_readStates a_readValues a_usedRules) (fun t s => (∀ t k, t < 4 → bl (L' t) k = true → bl (s.2 t) k = true) ∧ (∀ t k, t < 4 → bl (s.2 t) k = true → cw_0 g (xo_S S) t k) ∧ ((s.1 = c' ∧ s.2 = L' ∧ ∀ t', t' < t → xo_O g L' (3 + i) t' → ∀ k, bl (a_openItems (3 + i)) k = true → bl (L' t') k = true) ∨ (s.1 = 1 ∧ xo_c a_openItems L' < xo_c a_openItems s.2))) 4 (c', L') ⟨fun _ _ _ z => z, s2, Or.inl ⟨rfl, rfl, fun t' z => absurd z (Nat.not_lt_zero _)⟩⟩ ?_ ?_
          · rintro f' ⟨c2, L2⟩ ⟨w1, w2, w3⟩
            refine br_t (nI_le (Nat.le_refl 4) (by decide)) (nm_r (nI_1 (3 + i)) (hk (c2, L2) ⟨fun t k ht hk => w1 t k ht (s1 t k ht hk), w2, ?_⟩))
            rcases w3 with ⟨e1, e2, e3⟩ | ⟨e1, e2⟩
            · have e1 : c2 = c' := e1
              have e2 : L2 = L' := e2
              subst e1 e2
              rcases s3 with ⟨y1, y2, y3⟩ | y
              · have y2 : L2 = L := y2
                refine Or.inl ⟨y1, y2, fun v v3 v4 => ?_⟩
                by_cases e : v = 3 + i
                · subst e
                  rw [← y2]
                  exact fun t ht => e3 t ht
                · exact y3 v v3 (by omega)
              · exact Or.inr y
            · have e2 : xo_c a_openItems L' < xo_c a_openItems L2 := e2
              refine Or.inr ⟨e1, ?_⟩
              show xo_c a_openItems L < xo_c a_openItems L2
              rcases s3 with ⟨_, y2, _⟩ | ⟨_, y⟩
              · have y2 : L' = L := y2
                rw [← y2]; exact e2
              · have y : xo_c a_openItems L < xo_c a_openItems L' := y
                omega
          · rintro f' t ⟨c2, L2⟩ ht ⟨w1, w2, w3⟩ hk2
            have w1 : ∀ t k, t < 4 → bl (L' t) k = true → bl (L2 t) k = true := w1
            have w2 : ∀ t k, t < 4 → bl (L2 t) k = true → cw_0 g (xo_S S) t k := w2
            have skip : (xo_O g L' (3 + i) t → ∀ k, bl (a_openItems (3 + i)) k = true → bl (L2 t) k = true) → wX_closeLooks__wideLooks_41 post (wX_closeLooks__wideLooks_5 post (nI b) f_depth f_made f_textLength f_tokenCount f_wrongPlace f_ruleCount f_prepared f_rulesInUse f_stateCount f_wideCount f_gradeFound f_readHeight f_tokensTaken f_usedCount (d + 1)) (wX_closeLooks__wideLooks_21 post (wX_closeLooks__wideLooks_5 post (nI b) f_depth f_made f_textLength f_tokenCount f_wrongPlace f_ruleCount f_prepared f_rulesInUse f_stateCount f_wideCount f_gradeFound f_readHeight f_tokensTaken f_usedCount (d + 1)) (nI b) (nI q) f_depth f_made f_textLength f_tokenCount f_wrongPlace f_ruleCount f_prepared f_rulesInUse f_stateCount f_wideCount f_gradeFound f_readHeight f_tokensTaken f_usedCount f) (nI b) (nI q) (nI (3 + i)) x f_depth f_made f_textLength f_tokenCount f_wrongPlace f_ruleCount f_prepared f_rulesInUse f_stateCount f_wideCount f_gradeFound f_readHeight f_tokensTaken f_usedCount f' c2 (nI (t + 1)) a_spotCounts a_ends a_arrows a_takers a_groups a_marks a_text a_tokenKinds a_tokenLengths a_lefts a_rights a_rightSizes a_beginSets a_followSets a_nextItems a_openItems a_restItems a_stateItems a_stateSteps a_stateLooks a_wideSteps (ax_set a_wideLooks b 4 L2) a_readStates a_readValues a_usedRules := by
              intro z
              refine hk2 (c2, L2) ⟨w1, w2, ?_⟩
              rcases w3 with ⟨e1, e2, e3⟩ | e
              · have e2 : L2 = L' := e2
                refine Or.inl ⟨e1, e2, fun t' ht' hO' => ?_⟩
                by_cases e : t' = t
                · subst e; rw [← e2]; exact z hO'
                · exact e3 t' (by omega) hO'
              · exact Or.inr e
            have ib : vp_in (nI b + nI t) 324 := pk_in (b + t) 324 (by omega) (nI_add b t)
            refine br_f (nI_ge ht (by decide)) (br_c (fun z => ?_) (fun z => ?_))
            · have z := (hx t).mp ((b_test x (n := t) (by omega)).mp z)
              refine ⟨vp_in_nI (by omega) (by decide), ib, ?_⟩
              rw [pk_cl (b + t) (nI_add b t), cv, ax_in ht]
              have sub : a_openItems (3 + i) &&& (L2 t ^^^ (-1)) = 0 ↔ ∀ k, bl (a_openItems (3 + i)) k = true → bl (L2 t) k = true := by
                rw [bl_zero]
                constructor
                · intro w k hk'
                  rcases Nat.lt_or_ge k 64 with k64 | k64
                  · have := w k k64
                    rw [bl_and, bl_not _ k64, hk'] at this
                    cases e : bl (L2 t) k
                    · rw [e] at this; cases this
                    · rfl
                  · rw [bl_big k64] at hk'; cases hk'
                · intro w k k64
                  rw [bl_and, bl_not _ k64]
                  cases e : bl (a_openItems (3 + i)) k
                  · rfl
                  · rw [w k e]; rfl
              refine br_c (fun y => nm_r (nI_1 t) (skip fun _ => sub.mp y)) (fun y => ⟨ib, vp_in_nI (by omega) (by decide), ib, nm_r (e' := ax_set a_wideLooks b 4 (vp_updL L2 t (L2 t ||| a_openItems (3 + i)))) (ax_uL ht) (nm_r (nI_1 t) (hk2 (1, vp_updL L2 t (L2 t ||| a_openItems (3 + i))) ?_))⟩)
              have e : ∀ t' k, bl (vp_updL L2 t (L2 t ||| a_openItems (3 + i)) t') k = true ↔ bl (L2 t') k = true ∨ (t' = t ∧ bl (a_openItems (3 + i)) k = true) := by
                intro t' k
                by_cases w : t' = t
                · subst w
                  rw [pk_uLs, bl_or, Bool.or_eq_true]
                  exact ⟨fun q => q.imp id (fun q => ⟨rfl, q⟩), fun q => q.imp id (fun q => q.2)⟩
                · rw [pk_uLn w]
                  exact ⟨Or.inl, fun q => by
                    rcases q with q | q
                    · exact q
                    · exact absurd q.1 w⟩
              refine ⟨fun t' k ht' hk' => (e t' k).mpr (Or.inl (w1 t' k ht' hk')), fun t' k ht' hk' => ?_, Or.inr ⟨rfl, ?_⟩⟩
              · rcases (e t' k).mp hk' with q | ⟨rfl, q⟩
                · exact w2 t' k ht' q
                · exact xo_snd hO (fun t k ht hk => w2 t k ht (w1 t k ht hk)) (by omega) z q
              · have gr : xo_c a_openItems L2 < xo_c a_openItems (vp_updL L2 t (L2 t ||| a_openItems (3 + i))) := xo_lt hg (v := 3 + i) (by omega) (by omega) ht (fun w => y (sub.mpr w)) (fun k hk' => (e t k).mpr (Or.inr ⟨rfl, hk'⟩)) (fun t' k _ hk' => (e t' k).mpr (Or.inl hk'))
                have ge : xo_c a_openItems L' ≤ xo_c a_openItems L2 := cn_mono fun x _ w k hk' => w1 _ k (by omega) (w k hk')
                show xo_c a_openItems L' < xo_c a_openItems (vp_updL L2 t (L2 t ||| a_openItems (3 + i)))
                omega
            · have z : ¬ xo_O g L' (3 + i) t := fun y => z ((b_test x (by omega)).mpr ((hx t).mpr y))
              exact nm_r (nI_1 t) (skip fun y => absurd y z)
  exact ⟨18, key 17 0 rfl 1 S (fun _ _ _ z => z) (fun t k ht hk => cw_sub ⟨ht, hk⟩) (Or.inr ⟨by decide, by omega⟩)⟩
theorem xw_looksOpened_stateLooks (hg : rg_ok g) (hI : xi_I g 10 a_nextItems a_openItems a_restItems) {b v : Nat} (hb : b + 4 ≤ 240) (v3 : 3 ≤ v) (v7 : v < 7) {L : Nat → Int64} (hL : xo_io g L) {post : Int32 → Prop} (h : ∀ x, (∀ t, bt x t = true ↔ xo_O g L v t) → post x) : wpX_looksOpened__stateLooks post (f_depth, f_made, f_textLength, f_tokenCount, f_wrongPlace, f_ruleCount, f_prepared, f_rulesInUse, f_stateCount, f_wideCount, f_gradeFound, f_readHeight, f_tokensTaken, f_usedCount, a_spotCounts, a_ends, a_arrows, a_takers, a_groups, a_marks, a_text, a_tokenKinds, a_tokenLengths, a_lefts, a_rights, a_rightSizes, a_beginSets, a_followSets, a_nextItems, a_openItems, a_restItems, a_stateItems, a_stateSteps, (ax_set a_stateLooks b 4 L), a_wideSteps, a_wideLooks, a_readStates, a_readValues, a_usedRules) (nI b) (nI v) := by
  obtain ⟨i1, i2, i3, i4⟩ := hI
  have cv : (nI v).toNatClampNeg = v := nI_clamp (by omega)
  have here : ∀ t, t < 4 → ∀ k, bl (L t &&& a_nextItems v) k = true ↔ bl (L t) k = true ∧ im_nx g k v := by
    intro t ht k
    rw [bl_and, Bool.and_eq_true, i1 v k v7]
    exact ⟨fun z => ⟨z.1, z.2.2⟩, fun z => ⟨z.1, ⟨(hL t k ht z.1).1.1, xu_10 hg (hL t k ht z.1).1.1⟩, z.2⟩⟩
  refine loop_0 (fun f t s => wX_looksOpened__stateLooks_9 post (nI b) (nI v) f_depth f_made f_textLength f_tokenCount f_wrongPlace f_ruleCount f_prepared f_rulesInUse f_stateCount f_wideCount f_gradeFound f_readHeight f_tokensTaken f_usedCount a_spotCounts a_ends a_arrows a_takers a_groups a_marks a_text a_tokenKinds a_tokenLengths a_lefts a_rights a_rightSizes a_beginSets a_followSets a_nextItems a_openItems a_restItems a_stateItems a_stateSteps (ax_set a_stateLooks b 4 L) a_wideSteps a_wideLooks a_readStates a_readValues a_usedRules f s.1 s.2 (nI t)) (fun t s => (∀ j, bt s.1 j = true ↔ j < t ∧ ∃ k, bl (L j) k = true ∧ im_nx g k v ∧ xi_f g k 3) ∧ ∀ k, bl s.2 k = true ↔ ∃ j, j < t ∧ bl (L j) k = true ∧ im_nx g k v) 4 ((0 : Int32), (0 : Int64)) ?_ ?_ ?_
  · refine ⟨fun j => ?_, fun k => ?_⟩
    · show bt 0 j = true ↔ _
      rw [b_0]; exact ⟨(fun z => by cases z), fun z => absurd z.1 (Nat.not_lt_zero _)⟩
    · show bl 0 k = true ↔ _
      rw [bl_0]; exact ⟨(fun z => by cases z), fun ⟨j, hj, _⟩ => absurd hj (Nat.not_lt_zero j)⟩
  · rintro f ⟨x, A⟩ ⟨s1, s2⟩
    have s1 : ∀ j, bt x j = true ↔ j < 4 ∧ ∃ k, bl (L j) k = true ∧ im_nx g k v ∧ xi_f g k 3 := s1
    have s2 : ∀ k, bl A k = true ↔ ∃ j, j < 4 ∧ bl (L j) k = true ∧ im_nx g k v := s2
    refine br_t (nI_le (Nat.le_refl 4) (by decide)) ?_
    refine loop_0 (fun f i y => wX_looksOpened__stateLooks_69 post A f_depth f_made f_textLength f_tokenCount f_wrongPlace f_ruleCount f_prepared f_rulesInUse f_stateCount f_wideCount f_gradeFound f_readHeight f_tokensTaken f_usedCount a_spotCounts a_ends a_arrows a_takers a_groups a_marks a_text a_tokenKinds a_tokenLengths a_lefts a_rights a_rightSizes a_beginSets a_followSets a_nextItems a_openItems a_restItems a_stateItems a_stateSteps (ax_set a_stateLooks b 4 L) a_wideSteps a_wideLooks a_readStates a_readValues a_usedRules f y (nI i)) (fun i y => ∀ j, bt y j = true ↔ bt x j = true ∨ (j < i ∧ ∃ k, bl A k = true ∧ xi_f g k j)) 3 x (fun j => ⟨Or.inl, fun z => by
      rcases z with z | z
      · exact z
      · omega⟩) ?_ ?_
    · intro f y hy
      refine br_t (nI_le (Nat.le_refl 3) (by decide)) (h y fun t => ?_)
      rw [hy t, s1 t]
      constructor
      · rintro (⟨z1, k, z2, z3, z4⟩ | ⟨z1, k, z2, z4⟩)
        · exact ⟨t, k, z1, z2, z3, Or.inr ⟨z4.2, rfl⟩⟩
        · obtain ⟨j, j1, j2, j3⟩ := (s2 k).mp z2
          exact ⟨j, k, j1, j2, j3, Or.inl ⟨z1, z4.2⟩⟩
      · rintro ⟨t0, k, z1, z2, z3, ⟨z4, z5⟩ | ⟨z4, rfl⟩⟩
        · exact Or.inr ⟨z4, k, (s2 k).mpr ⟨t0, z1, z2, z3⟩, z3.1, z5⟩
        · exact Or.inl ⟨z1, k, z2, z3, z3.1, z4⟩
    · intro f i y hi hy hk
      have ci : (nI i).toNatClampNeg = i := nI_clamp (by omega)
      refine br_f (nI_ge hi (by decide)) ⟨vp_in_nI (by omega) (by decide), ?_⟩
      rw [ci]
      have hz : ∀ k, bl (A &&& a_restItems i) k = true ↔ bl A k = true ∧ xi_f g k i := by
        intro k
        rw [bl_and, Bool.and_eq_true, i4 i k (by omega)]
        refine ⟨fun z => ⟨z.1, z.2.2⟩, fun z => ⟨z.1, ?_, z.2⟩⟩
        obtain ⟨j, j1, j2, j3⟩ := (s2 k).mp z.1
        exact ⟨(hL j k j1 j2).1.1, xu_10 hg (hL j k j1 j2).1.1⟩
      refine br_c (fun z => nm_r (nI_1 i) (hk y fun j => ?_)) (fun z => nm_e (nm_r (nI_1 i) (hk _ fun j => ?_)))
      · rw [hy j]
        constructor
        · rintro (w | ⟨w1, w2⟩)
          · exact Or.inl w
          · exact Or.inr ⟨by omega, w2⟩
        · rintro (w | ⟨w1, k, w2⟩)
          · exact Or.inl w
          · by_cases e : j = i
            · subst e; exact absurd ((hz k).mpr w2) (bl_no z k)
            · exact Or.inr ⟨by omega, k, w2⟩
      · obtain ⟨k0, hk0⟩ := bl_ne z
        rw [b_or, Bool.or_eq_true, hy j, b_one _ (by omega), decide_eq_true_eq]
        constructor
        · rintro ((w | ⟨w1, w2⟩) | rfl)
          · exact Or.inl w
          · exact Or.inr ⟨by omega, w2⟩
          · exact Or.inr ⟨by omega, k0, (hz k0).mp hk0⟩
        · rintro (w | ⟨w1, k, w2⟩)
          · exact Or.inl (Or.inl w)
          · by_cases e : j = i
            · exact Or.inr e
            · exact Or.inl (Or.inr ⟨by omega, k, w2⟩)
  · rintro f t ⟨x, A⟩ ht ⟨s1, s2⟩ hk
    have s1 : ∀ j, bt x j = true ↔ j < t ∧ ∃ k, bl (L j) k = true ∧ im_nx g k v ∧ xi_f g k 3 := s1
    have s2 : ∀ k, bl A k = true ↔ ∃ j, j < t ∧ bl (L j) k = true ∧ im_nx g k v := s2
    refine br_f (nI_ge ht (by decide)) ⟨pk_in (b + t) 240 (by omega) (nI_add b t), vp_in_nI (by omega) (by decide), ?_⟩
    rw [pk_cl (b + t) (nI_add b t), cv, ax_in ht]
    have A' : ∀ k, bl (A ||| (L t &&& a_nextItems v)) k = true ↔ ∃ j, j < t + 1 ∧ bl (L j) k = true ∧ im_nx g k v := by
      intro k
      rw [bl_or, Bool.or_eq_true, s2 k, here t ht k]
      constructor
      · rintro (⟨j, z⟩ | z)
        · exact ⟨j, by omega, z.2⟩
        · exact ⟨t, by omega, z⟩
      · rintro ⟨j, z1, z2⟩
        by_cases e : j = t
        · subst e; exact Or.inr z2
        · exact Or.inl ⟨j, by omega, z2⟩
    have hz : ∀ k, bl ((L t &&& a_nextItems v) &&& a_restItems 3) k = true ↔ bl (L t) k = true ∧ im_nx g k v ∧ xi_f g k 3 := by
      intro k
      rw [bl_and, Bool.and_eq_true, here t ht k, i4 3 k (by omega)]
      exact ⟨fun z => ⟨z.1.1, z.1.2, z.2.2⟩, fun z => ⟨⟨z.1, z.2.1⟩, ⟨(hL t k ht z.1).1.1, xu_10 hg (hL t k ht z.1).1.1⟩, z.2.2⟩⟩
    refine nm_e (nm_e (br_c (fun z => nm_r (nI_1 t) (hk (x, _) ⟨fun j => ?_, A'⟩)) (fun z => nm_e (nm_r (nI_1 t) (hk (_, _) ⟨fun j => ?_, A'⟩)))))
    · show bt x j = true ↔ _
      rw [s1 j]
      constructor
      · rintro ⟨w1, w2⟩; exact ⟨by omega, w2⟩
      · rintro ⟨w1, k, w2⟩
        by_cases e : j = t
        · subst e; exact absurd ((hz k).mpr w2) (bl_no z k)
        · exact ⟨by omega, k, w2⟩
    · obtain ⟨k0, hk0⟩ := bl_ne z
      show bt (x ||| (1 : Int32) <<< (nI t &&& 31)) j = true ↔ _
      rw [b_or, Bool.or_eq_true, s1 j, b_one _ (by omega), decide_eq_true_eq]
      constructor
      · rintro (⟨w1, w2⟩ | rfl)
        · exact ⟨by omega, w2⟩
        · exact ⟨by omega, k0, (hz k0).mp hk0⟩
      · rintro ⟨w1, k, w2⟩
        by_cases e : j = t
        · exact Or.inr e
        · exact Or.inl ⟨by omega, k, w2⟩
theorem xw_closeLooks_stateLooks (hg : rg_ok g) (hI : xi_I g 10 a_nextItems a_openItems a_restItems) {b : Nat} (hb : b + 4 ≤ 240) {S : Nat → Int64} (hS : xo_io g S) {post : SX → Prop} (h : post (f_depth, f_made, f_textLength, f_tokenCount, f_wrongPlace, f_ruleCount, f_prepared, f_rulesInUse, f_stateCount, f_wideCount, f_gradeFound, f_readHeight, f_tokensTaken, f_usedCount, a_spotCounts, a_ends, a_arrows, a_takers, a_groups, a_marks, a_text, a_tokenKinds, a_tokenLengths, a_lefts, a_rights, a_rightSizes, a_beginSets, a_followSets, a_nextItems, a_openItems, a_restItems, a_stateItems, a_stateSteps, (ax_set a_stateLooks b 4 (fun t => mk_l (cw_0 g (xo_S S) t))), a_wideSteps, a_wideLooks, a_readStates, a_readValues, a_usedRules)) : wpX_closeLooks__stateLooks post (f_depth, f_made, f_textLength, f_tokenCount, f_wrongPlace, f_ruleCount, f_prepared, f_rulesInUse, f_stateCount, f_wideCount, f_gradeFound, f_readHeight, f_tokensTaken, f_usedCount, a_spotCounts, a_ends, a_arrows, a_takers, a_groups, a_marks, a_text, a_tokenKinds, a_tokenLengths, a_lefts, a_rights, a_rightSizes, a_beginSets, a_followSets, a_nextItems, a_openItems, a_restItems, a_stateItems, a_stateSteps, (ax_set a_stateLooks b 4 S), a_wideSteps, a_wideLooks, a_readStates, a_readValues, a_usedRules) (nI b) := by
  have hO := hI.2.2.1
  have lin : ∀ t k, xo_S S t k → tw_in g t k := fun t k z => hS t k z.1 z.2
  have fin : ∀ L : Nat → Int64, (∀ t k, t < 4 → bl (S t) k = true → bl (L t) k = true) → (∀ t k, t < 4 → bl (L t) k = true → cw_0 g (xo_S S) t k) → (∀ v, 3 ≤ v → v < 7 → xo_s g a_openItems L v) → post (f_depth, f_made, f_textLength, f_tokenCount, f_wrongPlace, f_ruleCount, f_prepared, f_rulesInUse, f_stateCount, f_wideCount, f_gradeFound, f_readHeight, f_tokensTaken, f_usedCount, a_spotCounts, a_ends, a_arrows, a_takers, a_groups, a_marks, a_text, a_tokenKinds, a_tokenLengths, a_lefts, a_rights, a_rightSizes, a_beginSets, a_followSets, a_nextItems, a_openItems, a_restItems, a_stateItems, a_stateSteps, (ax_set a_stateLooks b 4 L), a_wideSteps, a_wideLooks, a_readStates, a_readValues, a_usedRules) := by
    intro L h1 h2 h3
    have e : ax_set a_stateLooks b 4 L = ax_set a_stateLooks b 4 (fun t => mk_l (cw_0 g (xo_S S) t)) := by
      funext j
      unfold ax_set
      split
      · exact xo_end hg hO hS h1 h2 h3 (by omega)
      · rfl
    rw [e]; exact h
  have key : ∀ d q, q + d = 17 → ∀ (c : Int32) (L : Nat → Int64), (∀ t k, t < 4 → bl (S t) k = true → bl (L t) k = true) → (∀ t k, t < 4 → bl (L t) k = true → cw_0 g (xo_S S) t k) → ((c = 0 ∧ ∀ v, 3 ≤ v → v < 7 → xo_s g a_openItems L v) ∨ (¬ c = 0 ∧ q ≤ xo_c a_openItems L)) → wX_closeLooks__stateLooks_5 post (nI b) f_depth f_made f_textLength f_tokenCount f_wrongPlace f_ruleCount f_prepared f_rulesInUse f_stateCount f_wideCount f_gradeFound f_readHeight f_tokensTaken f_usedCount (d + 1) c (nI q) a_spotCounts a_ends a_arrows a_takers a_groups a_marks a_text a_tokenKinds a_tokenLengths a_lefts a_rights a_rightSizes a_beginSets a_followSets a_nextItems a_openItems a_restItems a_stateItems a_stateSteps (ax_set a_stateLooks b 4 L) a_wideSteps a_wideLooks a_readStates a_readValues a_usedRules := by
    intro d
    induction d with
    | zero =>
      intro q hq c L h1 h2 h3
      refine br_t (nI_lt (a := 16) (by omega) (by omega)) ?_
      rcases h3 with ⟨_, h3⟩ | ⟨_, h3⟩
      · exact fin L h1 h2 h3
      · have : xo_c a_openItems L ≤ 16 := cn_le _ 16
        omega
    | succ d ih =>
      intro q hq c L h1 h2 h3
      refine br_f (nI_nlt (a := 16) (by omega) (by decide)) (br_c (fun z => ?_) (fun z => ?_))
      · rcases h3 with ⟨_, h3⟩ | ⟨h3, _⟩
        · exact fin L h1 h2 h3
        · exact absurd z h3
      · have hq' : q ≤ xo_c a_openItems L := by
          rcases h3 with ⟨h3, _⟩ | ⟨_, h3⟩
          · exact absurd h3 z
          · exact h3
        refine loop_0 (fun f i s => wX_closeLooks__stateLooks_21 post (wX_closeLooks__stateLooks_5 post (nI b) f_depth f_made f_textLength f_tokenCount f_wrongPlace f_ruleCount f_prepared f_rulesInUse f_stateCount f_wideCount f_gradeFound f_readHeight f_tokensTaken f_usedCount (d + 1)) (nI b) (nI q) f_depth f_made f_textLength f_tokenCount f_wrongPlace f_ruleCount f_prepared f_rulesInUse f_stateCount f_wideCount f_gradeFound f_readHeight f_tokensTaken f_usedCount f s.1 (nI (3 + i)) a_spotCounts a_ends a_arrows a_takers a_groups a_marks a_text a_tokenKinds a_tokenLengths a_lefts a_rights a_rightSizes a_beginSets a_followSets a_nextItems a_openItems a_restItems a_stateItems a_stateSteps (ax_set a_stateLooks b 4 s.2) a_wideSteps a_wideLooks a_readStates a_readValues a_usedRules) (fun i s => (∀ t k, t < 4 → bl (S t) k = true → bl (s.2 t) k = true) ∧ (∀ t k, t < 4 → bl (s.2 t) k = true → cw_0 g (xo_S S) t k) ∧ ((s.1 = 0 ∧ s.2 = L ∧ ∀ v, 3 ≤ v → v < 3 + i → xo_s g a_openItems L v) ∨ (s.1 = 1 ∧ xo_c a_openItems L < xo_c a_openItems s.2))) 4 ((0 : Int32), L) ⟨h1, h2, Or.inl ⟨rfl, rfl, fun v v3 v4 => by omega⟩⟩ ?_ ?_
        · rintro f ⟨c', L'⟩ ⟨s1, s2, s3⟩
          refine br_t (nI_le (Nat.le_refl 7) (by decide)) (nm_r (nI_1 q) (ih (q + 1) (by omega) c' L' s1 s2 ?_))
          rcases s3 with ⟨e1, e2, e3⟩ | ⟨e1, e2⟩
          · have e1 : c' = 0 := e1
            have e2 : L' = L := e2
            subst e2
            exact Or.inl ⟨e1, fun v v3 v7 => e3 v v3 (by omega)⟩
          · have e1 : c' = 1 := e1
            have e2 : xo_c a_openItems L < xo_c a_openItems L' := e2
            exact Or.inr ⟨by rw [e1]; decide, by omega⟩
        · rintro f i ⟨c', L'⟩ hi ⟨s1, s2, s3⟩ hk
          have s1 : ∀ t k, t < 4 → bl (S t) k = true → bl (L' t) k = true := s1
          have s2 : ∀ t k, t < 4 → bl (L' t) k = true → cw_0 g (xo_S S) t k := s2
          have hL' : xo_io g L' := fun t k ht hk => cw_ok hg lin (s2 t k ht hk)
          have cv : (nI (3 + i)).toNatClampNeg = 3 + i := nI_clamp (by omega)
          refine br_f (nI_ge (a := 3 + i) (b := 7) (by omega) (by decide)) (xw_looksOpened_stateLooks hg hI hb (by omega) (by omega) hL' (fun x hx => ?_))
          refine loop_0 (fun f' t s => wX_closeLooks__stateLooks_41 post (wX_closeLooks__stateLooks_5 post (nI b) f_depth f_made f_textLength f_tokenCount f_wrongPlace f_ruleCount f_prepared f_rulesInUse f_stateCount f_wideCount f_gradeFound f_readHeight f_tokensTaken f_usedCount (d + 1)) (wX_closeLooks__stateLooks_21 post (wX_closeLooks__stateLooks_5 post (nI b) f_depth f_made f_textLength f_tokenCount f_wrongPlace f_ruleCount f_prepared f_rulesInUse f_stateCount f_wideCount f_gradeFound f_readHeight f_tokensTaken f_usedCount (d + 1)) (nI b) (nI q) f_depth f_made f_textLength f_tokenCount f_wrongPlace f_ruleCount f_prepared f_rulesInUse f_stateCount f_wideCount f_gradeFound f_readHeight f_tokensTaken f_usedCount f) (nI b) (nI q) (nI (3 + i)) x f_depth f_made f_textLength f_tokenCount f_wrongPlace f_ruleCount f_prepared f_rulesInUse f_stateCount f_wideCount f_gradeFound f_readHeight f_tokensTaken f_usedCount f' s.1 (nI t) a_spotCounts a_ends a_arrows a_takers a_groups a_marks a_text a_tokenKinds a_tokenLengths a_lefts a_rights a_rightSizes a_beginSets a_followSets a_nextItems a_openItems a_restItems a_stateItems a_stateSteps (ax_set a_stateLooks b 4 s.2) a_wideSteps a_wideLooks a_readStates a_readValues a_usedRules) (fun t s => (∀ t k, t < 4 → bl (L' t) k = true → bl (s.2 t) k = true) ∧ (∀ t k, t < 4 → bl (s.2 t) k = true → cw_0 g (xo_S S) t k) ∧ ((s.1 = c' ∧ s.2 = L' ∧ ∀ t', t' < t → xo_O g L' (3 + i) t' → ∀ k, bl (a_openItems (3 + i)) k = true → bl (L' t') k = true) ∨ (s.1 = 1 ∧ xo_c a_openItems L' < xo_c a_openItems s.2))) 4 (c', L') ⟨fun _ _ _ z => z, s2, Or.inl ⟨rfl, rfl, fun t' z => absurd z (Nat.not_lt_zero _)⟩⟩ ?_ ?_
          · rintro f' ⟨c2, L2⟩ ⟨w1, w2, w3⟩
            refine br_t (nI_le (Nat.le_refl 4) (by decide)) (nm_r (nI_1 (3 + i)) (hk (c2, L2) ⟨fun t k ht hk => w1 t k ht (s1 t k ht hk), w2, ?_⟩))
            rcases w3 with ⟨e1, e2, e3⟩ | ⟨e1, e2⟩
            · have e1 : c2 = c' := e1
              have e2 : L2 = L' := e2
              subst e1 e2
              rcases s3 with ⟨y1, y2, y3⟩ | y
              · have y2 : L2 = L := y2
                refine Or.inl ⟨y1, y2, fun v v3 v4 => ?_⟩
                by_cases e : v = 3 + i
                · subst e
                  rw [← y2]
                  exact fun t ht => e3 t ht
                · exact y3 v v3 (by omega)
              · exact Or.inr y
            · have e2 : xo_c a_openItems L' < xo_c a_openItems L2 := e2
              refine Or.inr ⟨e1, ?_⟩
              show xo_c a_openItems L < xo_c a_openItems L2
              rcases s3 with ⟨_, y2, _⟩ | ⟨_, y⟩
              · have y2 : L' = L := y2
                rw [← y2]; exact e2
              · have y : xo_c a_openItems L < xo_c a_openItems L' := y
                omega
          · rintro f' t ⟨c2, L2⟩ ht ⟨w1, w2, w3⟩ hk2
            have w1 : ∀ t k, t < 4 → bl (L' t) k = true → bl (L2 t) k = true := w1
            have w2 : ∀ t k, t < 4 → bl (L2 t) k = true → cw_0 g (xo_S S) t k := w2
            have skip : (xo_O g L' (3 + i) t → ∀ k, bl (a_openItems (3 + i)) k = true → bl (L2 t) k = true) → wX_closeLooks__stateLooks_41 post (wX_closeLooks__stateLooks_5 post (nI b) f_depth f_made f_textLength f_tokenCount f_wrongPlace f_ruleCount f_prepared f_rulesInUse f_stateCount f_wideCount f_gradeFound f_readHeight f_tokensTaken f_usedCount (d + 1)) (wX_closeLooks__stateLooks_21 post (wX_closeLooks__stateLooks_5 post (nI b) f_depth f_made f_textLength f_tokenCount f_wrongPlace f_ruleCount f_prepared f_rulesInUse f_stateCount f_wideCount f_gradeFound f_readHeight f_tokensTaken f_usedCount (d + 1)) (nI b) (nI q) f_depth f_made f_textLength f_tokenCount f_wrongPlace f_ruleCount f_prepared f_rulesInUse f_stateCount f_wideCount f_gradeFound f_readHeight f_tokensTaken f_usedCount f) (nI b) (nI q) (nI (3 + i)) x f_depth f_made f_textLength f_tokenCount f_wrongPlace f_ruleCount f_prepared f_rulesInUse f_stateCount f_wideCount f_gradeFound f_readHeight f_tokensTaken f_usedCount f' c2 (nI (t + 1)) a_spotCounts a_ends a_arrows a_takers a_groups a_marks a_text a_tokenKinds a_tokenLengths a_lefts a_rights a_rightSizes a_beginSets a_followSets a_nextItems a_openItems a_restItems a_stateItems a_stateSteps (ax_set a_stateLooks b 4 L2) a_wideSteps a_wideLooks a_readStates a_readValues a_usedRules := by
              intro z
              refine hk2 (c2, L2) ⟨w1, w2, ?_⟩
              rcases w3 with ⟨e1, e2, e3⟩ | e
              · have e2 : L2 = L' := e2
                refine Or.inl ⟨e1, e2, fun t' ht' hO' => ?_⟩
                by_cases e : t' = t
                · subst e; rw [← e2]; exact z hO'
                · exact e3 t' (by omega) hO'
              · exact Or.inr e
            have ib : vp_in (nI b + nI t) 240 := pk_in (b + t) 240 (by omega) (nI_add b t)
            refine br_f (nI_ge ht (by decide)) (br_c (fun z => ?_) (fun z => ?_))
            · have z := (hx t).mp ((b_test x (n := t) (by omega)).mp z)
              refine ⟨vp_in_nI (by omega) (by decide), ib, ?_⟩
              rw [pk_cl (b + t) (nI_add b t), cv, ax_in ht]
              have sub : a_openItems (3 + i) &&& (L2 t ^^^ (-1)) = 0 ↔ ∀ k, bl (a_openItems (3 + i)) k = true → bl (L2 t) k = true := by
                rw [bl_zero]
                constructor
                · intro w k hk'
                  rcases Nat.lt_or_ge k 64 with k64 | k64
                  · have := w k k64
                    rw [bl_and, bl_not _ k64, hk'] at this
                    cases e : bl (L2 t) k
                    · rw [e] at this; cases this
                    · rfl
                  · rw [bl_big k64] at hk'; cases hk'
                · intro w k k64
                  rw [bl_and, bl_not _ k64]
                  cases e : bl (a_openItems (3 + i)) k
                  · rfl
                  · rw [w k e]; rfl
              refine br_c (fun y => nm_r (nI_1 t) (skip fun _ => sub.mp y)) (fun y => ⟨ib, vp_in_nI (by omega) (by decide), ib, nm_r (e' := ax_set a_stateLooks b 4 (vp_updL L2 t (L2 t ||| a_openItems (3 + i)))) (ax_uL ht) (nm_r (nI_1 t) (hk2 (1, vp_updL L2 t (L2 t ||| a_openItems (3 + i))) ?_))⟩)
              have e : ∀ t' k, bl (vp_updL L2 t (L2 t ||| a_openItems (3 + i)) t') k = true ↔ bl (L2 t') k = true ∨ (t' = t ∧ bl (a_openItems (3 + i)) k = true) := by
                intro t' k
                by_cases w : t' = t
                · subst w
                  rw [pk_uLs, bl_or, Bool.or_eq_true]
                  exact ⟨fun q => q.imp id (fun q => ⟨rfl, q⟩), fun q => q.imp id (fun q => q.2)⟩
                · rw [pk_uLn w]
                  exact ⟨Or.inl, fun q => by
                    rcases q with q | q
                    · exact q
                    · exact absurd q.1 w⟩
              refine ⟨fun t' k ht' hk' => (e t' k).mpr (Or.inl (w1 t' k ht' hk')), fun t' k ht' hk' => ?_, Or.inr ⟨rfl, ?_⟩⟩
              · rcases (e t' k).mp hk' with q | ⟨rfl, q⟩
                · exact w2 t' k ht' q
                · exact xo_snd hO (fun t k ht hk => w2 t k ht (w1 t k ht hk)) (by omega) z q
              · have gr : xo_c a_openItems L2 < xo_c a_openItems (vp_updL L2 t (L2 t ||| a_openItems (3 + i))) := xo_lt hg (v := 3 + i) (by omega) (by omega) ht (fun w => y (sub.mpr w)) (fun k hk' => (e t k).mpr (Or.inr ⟨rfl, hk'⟩)) (fun t' k _ hk' => (e t' k).mpr (Or.inl hk'))
                have ge : xo_c a_openItems L' ≤ xo_c a_openItems L2 := cn_mono fun x _ w k hk' => w1 _ k (by omega) (w k hk')
                show xo_c a_openItems L' < xo_c a_openItems (vp_updL L2 t (L2 t ||| a_openItems (3 + i)))
                omega
            · have z : ¬ xo_O g L' (3 + i) t := fun y => z ((b_test x (by omega)).mpr ((hx t).mpr y))
              exact nm_r (nI_1 t) (skip fun y => absurd y z)
  exact ⟨18, key 17 0 rfl 1 S (fun _ _ _ z => z) (fun t k ht hk => cw_sub ⟨ht, hk⟩) (Or.inr ⟨by decide, by omega⟩)⟩
end
