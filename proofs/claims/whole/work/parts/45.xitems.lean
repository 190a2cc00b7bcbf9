/-! the component's sets of items -/
variable {f_depth f_made f_textLength f_tokenCount f_wrongPlace f_ruleCount f_prepared f_rulesInUse f_stateCount f_wideCount f_gradeFound f_readHeight f_tokensTaken f_usedCount : Int32} {a_spotCounts a_ends a_arrows a_takers a_groups a_marks a_text a_tokenKinds a_tokenLengths a_lefts a_rights a_rightSizes a_beginSets a_followSets a_stateSteps a_wideSteps a_readStates a_readValues a_usedRules : Nat → Int32} {a_nextItems a_openItems a_restItems a_stateItems a_stateLooks a_wideLooks : Nat → Int64}
section
variable {g : rg_T}
def xu_U (g : rg_T) (r : Nat) : Prop := us_U g r ∨ r = 9
/-- the looks behind the next symbol of item k -/
def xi_f (g : rg_T) (k t : Nat) : Prop := k % 5 < rg_c g (k / 5) ∧ fs_b (fi_F g) (rg_h g (k / 5)) (rg_c g (k / 5) - (k % 5 + 1)) (k % 5 + 1) t
/-- the sets, with the rules below R -/
def xi_I (g : rg_T) (R : Nat) (an ao ar : Nat → Int64) : Prop :=
  (∀ x k, x < 7 → (bl (an x) k = true ↔ (xu_U g (k / 5) ∧ k / 5 < R) ∧ im_nx g k x)) ∧
  (∀ k, bl (an 7) k = true ↔ (xu_U g (k / 5) ∧ k / 5 < R) ∧ k % 5 = rg_c g (k / 5)) ∧
  (∀ v k, v < 7 → (bl (ao v) k = true ↔ ∃ r, us_U g r ∧ r < R ∧ rg_l g r = v ∧ k = 5 * r)) ∧
  (∀ t k, t < 4 → (bl (ar t) k = true ↔ (xu_U g (k / 5) ∧ k / 5 < R) ∧ xi_f g k t))
def xi_D (g : rg_T) (r p k : Nat) : Prop := (xu_U g (k / 5) ∧ k / 5 < r) ∨ (k / 5 = r ∧ k % 5 < p)
/-- the rest loop's store -/
def xi_r (a : Nat → Int64) (x : Int32) (m : Int64) (t : Nat) : Nat → Int64 := fun j => if j < t ∧ bt x j = true then a j ||| m else a j
theorem xi_rs {a : Nat → Int64} {x : Int32} {m : Int64} {t : Nat} (h : bt x t = true) : vp_updL (xi_r a x m t) t (xi_r a x m t t ||| m) = xi_r a x m (t + 1) := by
  funext j
  unfold vp_updL xi_r
  by_cases e : j = t
  · subst e
    rw [if_pos rfl, if_neg (by omega), if_pos ⟨by omega, h⟩]
  · rw [if_neg e]
    by_cases z : j < t ∧ bt x j = true
    · rw [if_pos z, if_pos ⟨by omega, z.2⟩]
    · rw [if_neg z, if_neg (fun y => z ⟨by omega, y.2⟩)]
theorem xi_rn {a : Nat → Int64} {x : Int32} {m : Int64} {t : Nat} (h : ¬ bt x t = true) : xi_r a x m (t + 1) = xi_r a x m t := by
  funext j
  unfold xi_r
  by_cases z : j < t ∧ bt x j = true
  · rw [if_pos z, if_pos ⟨by omega, z.2⟩]
  · rw [if_neg z, if_neg (fun y => z ⟨by
      have : j ≠ t := fun e => h (by rw [← e]; exact y.2)
      omega, y.2⟩)]
theorem ix_r5 {r p k : Nat} (hp : p < 5) : k = r * 5 + p ↔ k / 5 = r ∧ k % 5 = p := by omega
theorem xw_addItems (hg : rg_ok g) (hG : xg_G g a_lefts a_rights a_rightSizes) (h4 : xb_4 a_beginSets) (hF : xb_ok g a_beginSets) {r : Nat} (hr : xu_U g r) (hI : xi_I g r a_nextItems a_openItems a_restItems) {post : SX → Prop}
    (h : ∀ an ao ar, xi_I g (r + 1) an ao ar → post (f_depth, f_made, f_textLength, f_tokenCount, f_wrongPlace, f_ruleCount, f_prepared, f_rulesInUse, f_stateCount, f_wideCount, f_gradeFound, f_readHeight, f_tokensTaken, f_usedCount, a_spotCounts, a_ends, a_arrows, a_takers, a_groups, a_marks, a_text, a_tokenKinds, a_tokenLengths, a_lefts, a_rights, a_rightSizes, a_beginSets, a_followSets, an, ao, ar, a_stateItems, a_stateSteps, a_stateLooks, a_wideSteps, a_wideLooks, a_readStates, a_readValues, a_usedRules)) : wpX_addItems post (f_depth, f_made, f_textLength, f_tokenCount, f_wrongPlace, f_ruleCount, f_prepared, f_rulesInUse, f_stateCount, f_wideCount, f_gradeFound, f_readHeight, f_tokensTaken, f_usedCount, a_spotCounts, a_ends, a_arrows, a_takers, a_groups, a_marks, a_text, a_tokenKinds, a_tokenLengths, a_lefts, a_rights, a_rightSizes, a_beginSets, a_followSets, a_nextItems, a_openItems, a_restItems, a_stateItems, a_stateSteps, a_stateLooks, a_wideSteps, a_wideLooks, a_readStates, a_readValues, a_usedRules) (nI r) := by
  have hr' : r < rg_n g ∨ r = 9 := hr.imp (fun z => z.1) id
  obtain ⟨b1, b2, b3, b4, b5⟩ := rg_b hg hr'
  obtain ⟨g1, g2, g3⟩ := hG r hr'
  have cr : (nI r).toNatClampNeg = r := nI_clamp (by omega)
  have cl : (nI (rg_l g r)).toNatClampNeg = rg_l g r := nI_clamp (by omega)
  obtain ⟨i1, i2, i3, i4⟩ := hI
  have one : ∀ p, p < 5 → ∀ k, bl ((1 : Int64) <<< ((nI (r * 5 + p)).toInt64 &&& 63)) k = true ↔ k / 5 = r ∧ k % 5 = p := by
    intro p hp k
    rw [bl_one _ (by omega), decide_eq_true_eq]
    exact ix_r5 hp
  -- behind the opened items
  have rest : ∀ ao : Nat → Int64, (∀ v k, v < 7 → (bl (ao v) k = true ↔ ∃ r', us_U g r' ∧ r' < r + 1 ∧ rg_l g r' = v ∧ k = 5 * r')) → ∃ f, wX_addItems_27 post (nI r) f_depth f_made f_textLength f_tokenCount f_wrongPlace f_ruleCount f_prepared f_rulesInUse f_stateCount f_wideCount f_gradeFound f_readHeight f_tokensTaken f_usedCount f 0 a_spotCounts a_ends a_arrows a_takers a_groups a_marks a_text a_tokenKinds a_tokenLengths a_lefts a_rights a_rightSizes a_beginSets a_followSets a_nextItems ao a_restItems a_stateItems a_stateSteps a_stateLooks a_wideSteps a_wideLooks a_readStates a_readValues a_usedRules := by
    intro ao hao
    refine loop_0 (fun f p s => wX_addItems_27 post (nI r) f_depth f_made f_textLength f_tokenCount f_wrongPlace f_ruleCount f_prepared f_rulesInUse f_stateCount f_wideCount f_gradeFound f_readHeight f_tokensTaken f_usedCount f (nI p) a_spotCounts a_ends a_arrows a_takers a_groups a_marks a_text a_tokenKinds a_tokenLengths a_lefts a_rights a_rightSizes a_beginSets a_followSets s.1 ao s.2 a_stateItems a_stateSteps a_stateLooks a_wideSteps a_wideLooks a_readStates a_readValues a_usedRules) (fun p s => (∀ x k, x < 7 → (bl (s.1 x) k = true ↔ xi_D g r p k ∧ im_nx g k x)) ∧ (∀ k, bl (s.1 7) k = true ↔ (xu_U g (k / 5) ∧ k / 5 < r) ∧ k % 5 = rg_c g (k / 5)) ∧ (∀ t k, t < 4 → (bl (s.2 t) k = true ↔ xi_D g r p k ∧ xi_f g k t))) (rg_c g r) (a_nextItems, a_restItems) ?_ ?_ ?_
    · refine ⟨fun x k hx => ?_, i2, fun t k ht => ?_⟩
      · show bl (a_nextItems x) k = true ↔ _
        rw [i1 x k hx]
        exact ⟨fun z => ⟨Or.inl z.1, z.2⟩, fun z => ⟨by
          rcases z.1 with y | y
          · exact y
          · omega, z.2⟩⟩
      · show bl (a_restItems t) k = true ↔ _
        rw [i4 t k ht]
        exact ⟨fun z => ⟨Or.inl z.1, z.2⟩, fun z => ⟨by
          rcases z.1 with y | y
          · exact y
          · omega, z.2⟩⟩
    · rintro f ⟨an, ar⟩ ⟨s1, s2, s3⟩
      have s1 : ∀ x k, x < 7 → (bl (an x) k = true ↔ xi_D g r (rg_c g r) k ∧ im_nx g k x) := s1
      have s2 : ∀ k, bl (an 7) k = true ↔ (xu_U g (k / 5) ∧ k / 5 < r) ∧ k % 5 = rg_c g (k / 5) := s2
      have s3 : ∀ t k, t < 4 → (bl (ar t) k = true ↔ xi_D g r (rg_c g r) k ∧ xi_f g k t) := s3
      refine ⟨vp_in_nI (by omega) (by decide), ?_⟩
      rw [cr, g2]
      refine br_t (nI_le (Nat.le_refl _) (by omega)) ⟨vp_in_nI (by omega) (by decide), ?_⟩
      rw [ix_5]
      refine nm_e (h _ ao ar ⟨fun x k hx => ?_, fun k => ?_, hao, fun t k ht => ?_⟩)
      · rw [pk_uLn (by omega), s1 x k hx]
        constructor
        · rintro ⟨z | z, y⟩
          · exact ⟨⟨z.1, by omega⟩, y⟩
          · exact ⟨⟨by rw [z.1]; exact hr, by omega⟩, y⟩
        · rintro ⟨⟨z1, z2⟩, y⟩
          refine ⟨?_, y⟩
          by_cases e : k / 5 = r
          · refine Or.inr ⟨e, ?_⟩
            have := y.1
            rwa [e] at this
          · exact Or.inl ⟨z1, by omega⟩
      · rw [pk_uLs, bl_or, Bool.or_eq_true, s2 k, one _ (by omega) k]
        constructor
        · rintro (⟨⟨z1, z2⟩, z3⟩ | ⟨z1, z2⟩)
          · exact ⟨⟨z1, by omega⟩, z3⟩
          · rw [z1]
            exact ⟨⟨hr, by omega⟩, z2⟩
        · rintro ⟨⟨z1, z2⟩, z3⟩
          by_cases e : k / 5 = r
          · rw [e] at z3
            exact Or.inr ⟨e, z3⟩
          · exact Or.inl ⟨⟨z1, by omega⟩, z3⟩
      · rw [s3 t k ht]
        constructor
        · rintro ⟨z | z, y⟩
          · exact ⟨⟨z.1, by omega⟩, y⟩
          · exact ⟨⟨by rw [z.1]; exact hr, by omega⟩, y⟩
        · rintro ⟨⟨z1, z2⟩, y⟩
          refine ⟨?_, y⟩
          by_cases e : k / 5 = r
          · refine Or.inr ⟨e, ?_⟩
            have := y.1
            rwa [e] at this
          · exact Or.inl ⟨z1, by omega⟩
    · rintro f p ⟨an, ar⟩ hp ⟨s1, s2, s3⟩ hk
      have s1 : ∀ x k, x < 7 → (bl (an x) k = true ↔ xi_D g r p k ∧ im_nx g k x) := s1
      have s2 : ∀ k, bl (an 7) k = true ↔ (xu_U g (k / 5) ∧ k / 5 < r) ∧ k % 5 = rg_c g (k / 5) := s2
      have s3 : ∀ t k, t < 4 → (bl (ar t) k = true ↔ xi_D g r p k ∧ xi_f g k t) := s3
      have hh := b5 p hp
      have ch : (nI (rg_h g r p)).toNatClampNeg = rg_h g r p := nI_clamp (by omega)
      have Dp : ∀ k, xi_D g r (p + 1) k ↔ xi_D g r p k ∨ (k / 5 = r ∧ k % 5 = p) := by
        intro k
        unfold xi_D
        constructor
        · rintro (z | z)
          · exact Or.inl (Or.inl z)
          · by_cases e : k % 5 = p
            · exact Or.inr ⟨z.1, e⟩
            · exact Or.inl (Or.inr ⟨z.1, by omega⟩)
        · rintro ((z | z) | z)
          · exact Or.inl z
          · exact Or.inr ⟨z.1, by omega⟩
          · exact Or.inr ⟨z.1, by omega⟩
      refine ⟨vp_in_nI (by omega) (by decide), ?_⟩
      rw [cr, g2]
      refine br_f (nI_ge hp (by omega)) ?_
      rw [ix_5]
      refine nm_e ⟨pk_in (r * 4 + p) 44 (by omega) (ix_4 r p), ?_⟩
      rw [pk_cl (r * 4 + p) (ix_4 r p), g3 p hp]
      refine ⟨vp_in_nI (by omega) (by decide), vp_in_nI (by omega) (by decide), nm_r (by rw [ch]) ?_⟩
      rw [nI_1]
      refine xw_beginsFrom hg hG h4 hr' (by omega) (fun x hx => ?_)
      have hx : ∀ b, bt x b = true ↔ fs_b (fi_F g) (rg_h g r) (rg_c g r - (p + 1)) (p + 1) b := fun b => by rw [hx b]; exact fs_iff7 b5 hF _ _ _ (by omega)
      refine loop_0 (fun f' t s => wX_addItems_77 post (wX_addItems_27 post (nI r) f_depth f_made f_textLength f_tokenCount f_wrongPlace f_ruleCount f_prepared f_rulesInUse f_stateCount f_wideCount f_gradeFound f_readHeight f_tokensTaken f_usedCount f) (nI r) (nI p) ((1 : Int64) <<< ((nI (r * 5 + p)).toInt64 &&& 63)) x f_depth f_made f_textLength f_tokenCount f_wrongPlace f_ruleCount f_prepared f_rulesInUse f_stateCount f_wideCount f_gradeFound f_readHeight f_tokensTaken f_usedCount f' (nI t) a_spotCounts a_ends a_arrows a_takers a_groups a_marks a_text a_tokenKinds a_tokenLengths a_lefts a_rights a_rightSizes a_beginSets a_followSets (vp_updL an (rg_h g r p) (an (rg_h g r p) ||| (1 : Int64) <<< ((nI (r * 5 + p)).toInt64 &&& 63))) ao s a_stateItems a_stateSteps a_stateLooks a_wideSteps a_wideLooks a_readStates a_readValues a_usedRules) (fun t s => s = xi_r ar x ((1 : Int64) <<< ((nI (r * 5 + p)).toInt64 &&& 63)) t) 4 ar ?_ ?_ ?_
      · funext j
        unfold xi_r
        rw [if_neg (by omega)]
      · rintro f' s rfl
        refine br_t (nI_le (Nat.le_refl 4) (by decide)) (nm_r (nI_1 p) (hk (_, _) ⟨fun y k hy => ?_, fun k => ?_, fun t k ht => ?_⟩))
        · show bl (vp_updL an (rg_h g r p) (an (rg_h g r p) ||| (1 : Int64) <<< ((nI (r * 5 + p)).toInt64 &&& 63)) y) k = true ↔ _
          rw [Dp k]
          by_cases e : y = rg_h g r p
          · subst e
            rw [pk_uLs, bl_or, Bool.or_eq_true, s1 _ k hy, one p (by omega) k]
            constructor
            · rintro (z | z)
              · exact ⟨Or.inl z.1, z.2⟩
              · exact ⟨Or.inr z, by rw [z.1, z.2]; exact hp, by rw [z.1, z.2]⟩
            · rintro ⟨z | z, y⟩
              · exact Or.inl ⟨z, y⟩
              · exact Or.inr z
          · rw [pk_uLn e, s1 _ k hy]
            constructor
            · rintro ⟨z, y⟩; exact ⟨Or.inl z, y⟩
            · rintro ⟨z | z, y⟩
              · exact ⟨z, y⟩
              · have := y.2
                rw [z.1, z.2] at this
                exact absurd this.symm e
        · show bl (vp_updL an (rg_h g r p) (an (rg_h g r p) ||| (1 : Int64) <<< ((nI (r * 5 + p)).toInt64 &&& 63)) 7) k = true ↔ _
          rw [pk_uLn (by omega)]; exact s2 k
        · show bl (xi_r ar x ((1 : Int64) <<< ((nI (r * 5 + p)).toInt64 &&& 63)) 4 t) k = true ↔ _
          rw [Dp k]
          unfold xi_r
          by_cases e : bt x t = true
          · rw [if_pos ⟨ht, e⟩, bl_or, Bool.or_eq_true, s3 t k ht, one p (by omega) k]
            constructor
            · rintro (z | z)
              · exact ⟨Or.inl z.1, z.2⟩
              · refine ⟨Or.inr z, ?_⟩
                unfold xi_f
                rw [z.1, z.2]
                exact ⟨hp, (hx t).mp e⟩
            · rintro ⟨z | z, y⟩
              · exact Or.inl ⟨z, y⟩
              · exact Or.inr z
          · rw [if_neg (fun z => e z.2), s3 t k ht]
            constructor
            · rintro ⟨z, y⟩; exact ⟨Or.inl z, y⟩
            · rintro ⟨z | z, y⟩
              · exact ⟨z, y⟩
              · have := y.2
                rw [z.1, z.2] at this
                exact absurd ((hx t).mpr this) e
      · rintro f' t s ht rfl hk2
        have ct : (nI t).toNatClampNeg = t := nI_clamp (by omega)
        refine br_f (nI_ge ht (by decide)) (br_c (fun z => ?_) (fun z => ?_))
        · have z := (b_test x (n := t) (by omega)).mp z
          exact ⟨vp_in_nI ht (by decide), vp_in_nI ht (by decide), nm_r (by rw [ct, xi_rs z]) (nm_r (nI_1 t) (hk2 _ rfl))⟩
        · have z : ¬ bt x t = true := fun y => z ((b_test x (by omega)).mpr y)
          exact nm_r (nI_1 t) (hk2 _ (xi_rn z).symm)
  refine pk_eq r 9 (fun z => ?_) (fun z => ⟨vp_in_nI (by omega) (by decide), ?_⟩)
  · refine rest a_openItems fun v k hv => ?_
    rw [i3 v k hv]
    constructor
    · rintro ⟨r', y1, y2, y3⟩; exact ⟨r', y1, by omega, y3⟩
    · rintro ⟨r', y1, y2, y3⟩
      have := y1.1
      have := hg.1
      exact ⟨r', y1, by omega, y3⟩
  · have hU : us_U g r := by
      rcases hr with y | y
      · exact y
      · exact absurd y z
    have hl7 := (hg.2.1 r hU.1).2.1
    rw [cr, g1]
    have e5 : nI r * 5 = nI (r * 5 + 0) := pk_mul r 5
    refine ⟨vp_in_nI hl7 (by decide), vp_in_nI hl7 (by decide), nm_r (by rw [cl, e5]) (rest _ fun v k hv => ?_)⟩
    by_cases e : v = rg_l g r
    · subst e
      rw [pk_uLs, bl_or, Bool.or_eq_true, i3 _ k hv, one 0 (by omega) k]
      constructor
      · rintro (⟨r', y1, y2, y3⟩ | y)
        · exact ⟨r', y1, by omega, y3⟩
        · exact ⟨r, hU, by omega, rfl, by omega⟩
      · rintro ⟨r', y1, y2, y3, y4⟩
        by_cases e : r' = r
        · subst e; exact Or.inr (by omega)
        · exact Or.inl ⟨r', y1, by omega, y3, y4⟩
    · rw [pk_uLn e, i3 v k hv]
      constructor
      · rintro ⟨r', y1, y2, y3⟩; exact ⟨r', y1, by omega, y3⟩
      · rintro ⟨r', y1, y2, y3, y4⟩
        refine ⟨r', y1, ?_, y3, y4⟩
        have : r' ≠ r := fun q => e (by rw [← q]; exact y3.symm)
        omega
theorem xw_findItems (hg : rg_ok g) (hG : xg_G g a_lefts a_rights a_rightSizes) (hU : xg_U g f_rulesInUse) (h4 : xb_4 a_beginSets) (hF : xb_ok g a_beginSets) {post : SX → Prop}
    (h : ∀ an ao ar, xi_I g 10 an ao ar → post (f_depth, f_made, f_textLength, f_tokenCount, f_wrongPlace, f_ruleCount, f_prepared, f_rulesInUse, f_stateCount, f_wideCount, f_gradeFound, f_readHeight, f_tokensTaken, f_usedCount, a_spotCounts, a_ends, a_arrows, a_takers, a_groups, a_marks, a_text, a_tokenKinds, a_tokenLengths, a_lefts, a_rights, a_rightSizes, a_beginSets, a_followSets, an, ao, ar, a_stateItems, a_stateSteps, a_stateLooks, a_wideSteps, a_wideLooks, a_readStates, a_readValues, a_usedRules)) : wpX_findItems post (f_depth, f_made, f_textLength, f_tokenCount, f_wrongPlace, f_ruleCount, f_prepared, f_rulesInUse, f_stateCount, f_wideCount, f_gradeFound, f_readHeight, f_tokensTaken, f_usedCount, a_spotCounts, a_ends, a_arrows, a_takers, a_groups, a_marks, a_text, a_tokenKinds, a_tokenLengths, a_lefts, a_rights, a_rightSizes, a_beginSets, a_followSets, a_nextItems, a_openItems, a_restItems, a_stateItems, a_stateSteps, a_stateLooks, a_wideSteps, a_wideLooks, a_readStates, a_readValues, a_usedRules) := by
  refine loop_0 (fun f i s => wX_findItems_2 post f_depth f_made f_textLength f_tokenCount f_wrongPlace f_ruleCount f_prepared f_rulesInUse f_stateCount f_wideCount f_gradeFound f_readHeight f_tokensTaken f_usedCount f (nI i) a_spotCounts a_ends a_arrows a_takers a_groups a_marks a_text a_tokenKinds a_tokenLengths a_lefts a_rights a_rightSizes a_beginSets a_followSets s a_openItems a_restItems a_stateItems a_stateSteps a_stateLooks a_wideSteps a_wideLooks a_readStates a_readValues a_usedRules) (fun i s => ∀ j, j < i → s j = 0) 8 a_nextItems (fun j hj => absurd hj (Nat.not_lt_zero j)) ?_ ?_
  · intro f an han
    refine br_t (nI_le (Nat.le_refl 8) (by decide)) ?_
    refine loop_0 (fun f i s => wX_findItems_23 post f_depth f_made f_textLength f_tokenCount f_wrongPlace f_ruleCount f_prepared f_rulesInUse f_stateCount f_wideCount f_gradeFound f_readHeight f_tokensTaken f_usedCount f (nI i) a_spotCounts a_ends a_arrows a_takers a_groups a_marks a_text a_tokenKinds a_tokenLengths a_lefts a_rights a_rightSizes a_beginSets a_followSets an s a_restItems a_stateItems a_stateSteps a_stateLooks a_wideSteps a_wideLooks a_readStates a_readValues a_usedRules) (fun i s => ∀ j, j < i → s j = 0) 7 a_openItems (fun j hj => absurd hj (Nat.not_lt_zero j)) ?_ ?_
    · intro f ao hao
      refine br_t (nI_le (Nat.le_refl 7) (by decide)) ?_
      refine loop_0 (fun f i s => wX_findItems_44 post f_depth f_made f_textLength f_tokenCount f_wrongPlace f_ruleCount f_prepared f_rulesInUse f_stateCount f_wideCount f_gradeFound f_readHeight f_tokensTaken f_usedCount f (nI i) a_spotCounts a_ends a_arrows a_takers a_groups a_marks a_text a_tokenKinds a_tokenLengths a_lefts a_rights a_rightSizes a_beginSets a_followSets an ao s a_stateItems a_stateSteps a_stateLooks a_wideSteps a_wideLooks a_readStates a_readValues a_usedRules) (fun i s => ∀ j, j < i → s j = 0) 4 a_restItems (fun j hj => absurd hj (Nat.not_lt_zero j)) ?_ ?_
      · intro f ar har
        refine br_t (nI_le (Nat.le_refl 4) (by decide)) ?_
        refine loop_0 (fun f r s => wX_findItems_64 post f (nI r) f_depth f_made f_textLength f_tokenCount f_wrongPlace f_ruleCount f_prepared f_rulesInUse f_stateCount f_wideCount f_gradeFound f_readHeight f_tokensTaken f_usedCount a_spotCounts a_ends a_arrows a_takers a_groups a_marks a_text a_tokenKinds a_tokenLengths a_lefts a_rights a_rightSizes a_beginSets a_followSets s.1 s.2.1 s.2.2 a_stateItems a_stateSteps a_stateLooks a_wideSteps a_wideLooks a_readStates a_readValues a_usedRules) (fun r s => xi_I g r s.1 s.2.1 s.2.2) 10 (an, ao, ar) ?_ ?_ ?_
        · refine ⟨fun x k hx => ?_, fun k => ?_, fun v k hv => ?_, fun t k ht => ?_⟩
          · show bl (an x) k = true ↔ _
            rw [han x (by omega), bl_0]; exact ⟨(fun z => by cases z), fun z => by omega⟩
          · show bl (an 7) k = true ↔ _
            rw [han 7 (by omega), bl_0]; exact ⟨(fun z => by cases z), fun z => by omega⟩
          · show bl (ao v) k = true ↔ _
            rw [hao v (by omega), bl_0]; exact ⟨(fun z => by cases z), fun ⟨r, _, z, _⟩ => by omega⟩
          · show bl (ar t) k = true ↔ _
            rw [har t (by omega), bl_0]; exact ⟨(fun z => by cases z), fun z => by omega⟩
        · rintro f ⟨n, o, r⟩ hs
          exact br_t (nI_lt (a := 9) (by decide) (by decide)) (h n o r hs)
        · rintro f r ⟨n, o, rs⟩ hr hs hk
          refine br_f (nI_nlt (a := 9) (by omega) (by omega)) (br_c (fun z => ?_) (fun z => ?_))
          · have z := (hU r).mp ((b_test f_rulesInUse (n := r) (by omega)).mp z)
            exact br_f (by decide) (xw_addItems hg hG h4 hF z hs (fun n' o' r' hI => nm_r (nI_1 r) (hk (n', o', r') hI)))
          · have z : ¬ xu_U g r := fun y => z ((b_test f_rulesInUse (by omega)).mpr ((hU r).mpr y))
            refine br_t rfl (nm_r (nI_1 r) (hk (n, o, rs) ?_))
            obtain ⟨i1, i2, i3, i4⟩ := hs
            have e : ∀ k, (xu_U g (k / 5) ∧ k / 5 < r + 1) ↔ (xu_U g (k / 5) ∧ k / 5 < r) := by
              intro k
              refine ⟨fun y => ⟨y.1, ?_⟩, fun y => ⟨y.1, by omega⟩⟩
              have : k / 5 ≠ r := fun q => z (by rw [← q]; exact y.1)
              omega
            refine ⟨fun x k hx => ?_, fun k => ?_, fun v k hv => ?_, fun t k ht => ?_⟩
            · rw [i1 x k hx, e k]
            · rw [i2 k, e k]
            · rw [i3 v k hv]
              constructor
              · rintro ⟨r', y1, y2, y3⟩; exact ⟨r', y1, by omega, y3⟩
              · rintro ⟨r', y1, y2, y3⟩
                refine ⟨r', y1, ?_, y3⟩
                have : r' ≠ r := fun q => z (by rw [← q]; exact Or.inl y1)
                omega
            · rw [i4 t k ht, e k]
      · intro f i s hi hs hk
        refine br_f (nI_ge hi (by decide)) ⟨vp_in_nI hi (by decide), nm_r (by rw [nI_clamp (by omega)]) (nm_r (nI_1 i) (hk _ fun v hv => ?_))⟩
        by_cases e : v = i
        · subst e; exact pk_uLs
        · rw [pk_uLn e]; exact hs v (by omega)
    · intro f i s hi hs hk
      refine br_f (nI_ge hi (by decide)) ⟨vp_in_nI hi (by decide), nm_r (by rw [nI_clamp (by omega)]) (nm_r (nI_1 i) (hk _ fun v hv => ?_))⟩
      by_cases e : v = i
      · subst e; exact pk_uLs
      · rw [pk_uLn e]; exact hs v (by omega)
  · intro f i s hi hs hk
    refine br_f (nI_ge hi (by decide)) ⟨vp_in_nI hi (by decide), nm_r (by rw [nI_clamp (by omega)]) (nm_r (nI_1 i) (hk _ fun v hv => ?_))⟩
    by_cases e : v = i
    · subst e; exact pk_uLs
    · rw [pk_uLn e]; exact hs v (by omega)
end
