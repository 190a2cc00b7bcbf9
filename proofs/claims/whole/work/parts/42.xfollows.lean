/-! the component's follows -/
variable {f_depth f_made f_textLength f_tokenCount f_wrongPlace f_ruleCount f_prepared f_rulesInUse f_stateCount f_wideCount f_gradeFound f_readHeight f_tokensTaken f_usedCount : Int32} {a_spotCounts a_ends a_arrows a_takers a_groups a_marks a_text a_tokenKinds a_tokenLengths a_lefts a_rights a_rightSizes a_beginSets a_followSets a_stateSteps a_wideSteps a_readStates a_readValues a_usedRules : Nat → Int32} {a_nextItems a_openItems a_restItems a_stateItems a_stateLooks a_wideLooks : Nat → Int64}
section
variable {g : rg_T}
/-- the looks behind place i of rule r -/
def xf_R (g : rg_T) (F : Nat → Nat → Prop) (r i b : Nat) : Prop := fs_b F (rg_h g r) (rg_c g r - (i + 1)) (i + 1) b
def xf_s (g : rg_T) (F : Nat → Nat → Prop) (r : Nat) (a : Nat → Int32) : Prop := us_U g r ∨ r = 9 → ∀ i, i < rg_c g r → 3 ≤ rg_h g r i → (∀ b, b < 3 → xf_R g F r i b → bt (a (rg_h g r i)) b = true) ∧ (xf_R g F r i 3 → ∀ b, bt (a (rg_l g r)) b = true → bt (a (rg_h g r i)) b = true)
def xf_S (g : rg_T) (a : Nat → Int32) : Prop := (∀ s b, s < 7 → bt (a s) b = true → fo_W g s b) ∧ ∀ b, bt (a 7) b = true ↔ b = 3
theorem fs_iff7 {F F' : Nat → Nat → Prop} {h : Nat → Nat} {N : Nat} (hh : ∀ k, k < N → h k < 7) (hF : ∀ s b, s < 7 → (F s b ↔ F' s b)) (c p b : Nat) (hp : p + c ≤ N) : fs_b F h c p b ↔ fs_b F' h c p b :=
  ⟨fs_mono7 hh (fun s b hs => (hF s b hs).mp) c p b hp, fs_mono7 hh (fun s b hs => (hF s b hs).mpr) c p b hp⟩
/-- a rule's follows are sound -/
theorem xf_snd (hg : rg_ok g) {F : Nat → Nat → Prop} (hF : ∀ s b, s < 7 → (F s b ↔ fi_F g s b)) {r i b : Nat} (hr : us_U g r ∨ r = 9) (hi : i < rg_c g r) {a : Nat → Int32} (ha : xf_S g a) (h : (b < 3 ∧ xf_R g F r i b) ∨ (xf_R g F r i 3 ∧ bt (a (rg_l g r)) b = true)) : fo_W g (rg_h g r i) b := by
  have W := fo_self g
  rcases hr with hr | rfl
  · have l := hg.2.1 r hr.1
    have e : ∀ b, xf_R g F r i b ↔ fs_b (fi_F g) (rg_h g r) (rg_c g r - (i + 1)) (i + 1) b := fun b => fs_iff7 l.2.2.2 hF _ _ _ (by omega)
    rcases h with ⟨h1, h2⟩ | ⟨h1, h2⟩
    · exact (W.2 r i hr hi).1 b h1 ((e b).mp h2)
    · exact (W.2 r i hr hi).2 ((e 3).mp h1) b (ha.1 _ _ l.2.1 h2)
  · have hc := hg.2.2.2.1
    have i0 : i = 0 := by omega
    subst i0
    unfold xf_R at h
    rw [hc, hg.2.2.1] at h
    have : b = 3 := by
      rcases h with ⟨_, h2⟩ | ⟨_, h2⟩
      · exact h2
      · exact (ha.2 b).mp h2
    rw [hg.2.2.2.2, this]
    exact W.1
theorem xw_addFollows (hg : rg_ok g) (hG : xg_G g a_lefts a_rights a_rightSizes) (h4 : xb_4 a_beginSets) (hF : xb_ok g a_beginSets) {r : Nat} (hr : us_U g r ∨ r = 9) (ha : xf_S g a_followSets) {post : SX → Prop}
    (h : ∀ s, xf_S g s → (∀ v b, bt (a_followSets v) b = true → bt (s v) b = true) → (xf_s g (xb_F a_beginSets) r a_followSets → ∀ v, 3 ≤ v → v < 7 → s v = a_followSets v) → (¬ xf_s g (xb_F a_beginSets) r a_followSets → sw_c a_followSets < sw_c s) → post (f_depth, f_made, f_textLength, f_tokenCount, f_wrongPlace, f_ruleCount, f_prepared, f_rulesInUse, f_stateCount, f_wideCount, f_gradeFound, f_readHeight, f_tokensTaken, f_usedCount, a_spotCounts, a_ends, a_arrows, a_takers, a_groups, a_marks, a_text, a_tokenKinds, a_tokenLengths, a_lefts, a_rights, a_rightSizes, a_beginSets, s, a_nextItems, a_openItems, a_restItems, a_stateItems, a_stateSteps, a_stateLooks, a_wideSteps, a_wideLooks, a_readStates, a_readValues, a_usedRules)) : wpX_addFollows post (f_depth, f_made, f_textLength, f_tokenCount, f_wrongPlace, f_ruleCount, f_prepared, f_rulesInUse, f_stateCount, f_wideCount, f_gradeFound, f_readHeight, f_tokensTaken, f_usedCount, a_spotCounts, a_ends, a_arrows, a_takers, a_groups, a_marks, a_text, a_tokenKinds, a_tokenLengths, a_lefts, a_rights, a_rightSizes, a_beginSets, a_followSets, a_nextItems, a_openItems, a_restItems, a_stateItems, a_stateSteps, a_stateLooks, a_wideSteps, a_wideLooks, a_readStates, a_readValues, a_usedRules) (nI r) := by
  have hr' : r < rg_n g ∨ r = 9 := hr.imp (fun z => z.1) id
  obtain ⟨b1, b2, b3, b4, b5⟩ := rg_b hg hr'
  obtain ⟨g1, g2, g3⟩ := hG r hr'
  have cr : (nI r).toNatClampNeg = r := nI_clamp (by omega)
  have cl : (nI (rg_l g r)).toNatClampNeg = rg_l g r := nI_clamp (by omega)
  refine loop_0 (fun f i s => wX_addFollows_2 post (nI r) f_depth f_made f_textLength f_tokenCount f_wrongPlace f_ruleCount f_prepared f_rulesInUse f_stateCount f_wideCount f_gradeFound f_readHeight f_tokensTaken f_usedCount f (nI i) a_spotCounts a_ends a_arrows a_takers a_groups a_marks a_text a_tokenKinds a_tokenLengths a_lefts a_rights a_rightSizes a_beginSets s a_nextItems a_openItems a_restItems a_stateItems a_stateSteps a_stateLooks a_wideSteps a_wideLooks a_readStates a_readValues a_usedRules) (fun j s => xf_S g s ∧ (∀ v b, bt (a_followSets v) b = true → bt (s v) b = true) ∧ (xf_s g (xb_F a_beginSets) r a_followSets → ∀ v, 3 ≤ v → v < 7 → s v = a_followSets v) ∧ (∀ v, 7 ≤ v → s v = a_followSets v) ∧
      ∀ i, i < j → (∀ b, b < 3 → xf_R g (xb_F a_beginSets) r i b → bt (s (rg_h g r i)) b = true) ∧ (xf_R g (xb_F a_beginSets) r i 3 → ∀ b, bt (a_followSets (rg_l g r)) b = true → bt (s (rg_h g r i)) b = true)) (rg_c g r) a_followSets ⟨ha, fun _ _ z => z, fun _ _ _ _ => rfl, fun _ _ => rfl, fun i hi => absurd hi (Nat.not_lt_zero i)⟩ ?_ ?_
  · rintro f s ⟨s1, s2, s3, s4, s5⟩
    refine ⟨vp_in_nI (by omega) (by decide), br_t ?_ (h s s1 s2 s3 fun z => ?_)⟩
    · rw [cr, g2]; exact nI_le (Nat.le_refl _) (by omega)
    -- something was wanting
    have : ∃ i b, i < rg_c g r ∧ 3 ≤ rg_h g r i ∧ b < 4 ∧ ¬ bt (a_followSets (rg_h g r i)) b = true ∧ bt (s (rg_h g r i)) b = true := by
      refine Classical.byContradiction fun y => z fun _ i hi h3 => ⟨fun b hb hR => ?_, fun hR b hb => ?_⟩
      · exact Classical.byContradiction fun w => y ⟨i, b, hi, h3, by omega, w, (s5 i hi).1 b hb hR⟩
      · have hb4 : b < 4 := by
          rcases Nat.lt_or_ge (rg_l g r) 7 with k | k
          · have := fo_rng (ha.1 _ _ k hb); omega
          · have k : rg_l g r = 7 := by omega
            rw [k] at hb
            have := (ha.2 b).mp hb; omega
        exact Classical.byContradiction fun w => y ⟨i, b, hi, h3, hb4, w, (s5 i hi).2 hR b hb⟩
    obtain ⟨i, b, y1, y2, y3, y4, y5⟩ := this
    exact sw_lt y2 (b5 i y1) y3 y4 y5 (fun v b _ _ => s2 v b)
  · rintro f j s hj ⟨s1, s2, s3, s4, s5⟩ hk
    have hh := b5 j hj
    have ch : (nI (rg_h g r j)).toNatClampNeg = rg_h g r j := nI_clamp (by omega)
    -- the store, whatever the set
    have fin : ∀ x : Int32, (∀ b, bt x b = true ↔ (b < 3 ∧ xf_R g (xb_F a_beginSets) r j b) ∨ (xf_R g (xb_F a_beginSets) r j 3 ∧ bt (s (rg_l g r)) b = true)) → wX_addFollows_50 post (wX_addFollows_2 post (nI r) f_depth f_made f_textLength f_tokenCount f_wrongPlace f_ruleCount f_prepared f_rulesInUse f_stateCount f_wideCount f_gradeFound f_readHeight f_tokensTaken f_usedCount f) (nI r) (nI j) x f_depth f_made f_textLength f_tokenCount f_wrongPlace f_ruleCount f_prepared f_rulesInUse f_stateCount f_wideCount f_gradeFound f_readHeight f_tokensTaken f_usedCount a_spotCounts a_ends a_arrows a_takers a_groups a_marks a_text a_tokenKinds a_tokenLengths a_lefts a_rights a_rightSizes a_beginSets s a_nextItems a_openItems a_restItems a_stateItems a_stateSteps a_stateLooks a_wideSteps a_wideLooks a_readStates a_readValues a_usedRules := by
      intro x hx
      refine ⟨pk_in (r * 4 + j) 44 (by omega) (ix_4 r j), ?_⟩
      rw [pk_cl (r * 4 + j) (ix_4 r j), g3 j hj]
      refine ⟨vp_in_nI (by omega) (by decide), vp_in_nI (by omega) (by decide), nm_r (by rw [ch]) (nm_r (nI_1 j) (hk _ ?_))⟩
      have e : ∀ v b, bt (upd s (rg_h g r j) (s (rg_h g r j) ||| x) v) b = true ↔ bt (s v) b = true ∨ (v = rg_h g r j ∧ bt x b = true) := by
        intro v b
        by_cases z : v = rg_h g r j
        · subst z
          rw [pk_us, b_or, Bool.or_eq_true]
          exact ⟨fun y => y.imp id (fun y => ⟨rfl, y⟩), fun y => y.imp id (fun y => y.2)⟩
        · rw [pk_un z]
          exact ⟨Or.inl, fun y => by
            rcases y with y | y
            · exact y
            · exact absurd y.1 z⟩
      refine ⟨⟨fun v b hv hb => ?_, fun b => ?_⟩, fun v b hb => (e v b).mpr (Or.inl (s2 v b hb)), fun z v v3 v7 => ?_, fun v hv => ?_, fun i hi => ?_⟩
      · rcases (e v b).mp hb with y | ⟨rfl, y⟩
        · exact s1.1 v b hv y
        · exact xf_snd hg hF hr hj s1 ((hx b).mp y)
      · rw [pk_un (by omega)]; exact s1.2 b
      · by_cases y : v = rg_h g r j
        · subst y
          rw [pk_us]
          have sv := s3 z (rg_h g r j) v3 v7
          have sl : s (rg_l g r) = a_followSets (rg_l g r) := by
            rcases Nat.lt_or_ge (rg_l g r) 7 with k | k
            · exact s3 z _ b3 k
            · exact s4 _ k
          apply b_ext
          intro b _
          rw [b_or, sv]
          cases w : bt (a_followSets (rg_h g r j)) b
          · cases w2 : bt x b
            · rfl
            · exfalso
              have := z hr j hj v3
              rcases (hx b).mp w2 with ⟨k1, k2⟩ | ⟨k1, k2⟩
              · rw [this.1 b k1 k2] at w; cases w
              · rw [sl] at k2
                rw [this.2 k1 b k2] at w; cases w
          · rfl
        · rw [pk_un y]; exact s3 z v v3 v7
      · rw [pk_un (by omega)]; exact s4 v hv
      · rcases Nat.lt_or_ge i j with y | y
        · exact ⟨fun b k1 k2 => (e _ b).mpr (Or.inl ((s5 i y).1 b k1 k2)), fun k1 b k2 => (e _ b).mpr (Or.inl ((s5 i y).2 k1 b k2))⟩
        · have y : i = j := by omega
          subst y
          exact ⟨fun b k1 k2 => (e _ b).mpr (Or.inr ⟨rfl, (hx b).mpr (Or.inl ⟨k1, k2⟩)⟩), fun k1 b k2 => (e _ b).mpr (Or.inr ⟨rfl, (hx b).mpr (Or.inr ⟨k1, s2 _ _ k2⟩)⟩)⟩
    refine ⟨vp_in_nI (by omega) (by decide), br_f ?_ ?_⟩
    · rw [cr, g2]; exact nI_ge hj (by omega)
    rw [nI_1]
    refine xw_beginsFrom hg hG h4 hr' (by omega) (fun y hy => nm_e (br_c (fun z => ?_) (fun z => ?_)))
    · have z := (b_and8 _).mp z
      refine fin _ fun b => ?_
      rw [b_and, Bool.and_eq_true, b_7b, decide_eq_true_eq, hy b]
      constructor
      · rintro ⟨k1, k2⟩; exact Or.inl ⟨k2, k1⟩
      · rintro (⟨k1, k2⟩ | ⟨k1, _⟩)
        · exact ⟨k2, k1⟩
        · have k1 := (hy 3).mpr k1
          rw [z] at k1; cases k1
    · have z : bt y 3 = true := ts_nf fun k => z ((b_and8 _).mpr k)
      refine ⟨vp_in_nI (by omega) (by decide), ?_⟩
      rw [cr, g1]
      refine ⟨vp_in_nI (by omega) (by decide), nm_e (fin _ fun b => ?_)⟩
      rw [cl, b_or, Bool.or_eq_true, b_and, Bool.and_eq_true, b_7b, decide_eq_true_eq, hy b]
      constructor
      · rintro (⟨k1, k2⟩ | k)
        · exact Or.inl ⟨k2, k1⟩
        · exact Or.inr ⟨(hy 3).mp z, k⟩
      · rintro (⟨k1, k2⟩ | ⟨_, k⟩)
        · exact Or.inl ⟨k2, k1⟩
        · exact Or.inr k
/-- the follows: the least sets, at the variables; behind the first rule the end alone -/
def xf_ok (g : rg_T) (a : Nat → Int32) : Prop := (∀ v b, 3 ≤ v → v < 7 → (bt (a v) b = true ↔ fo_W g v b)) ∧ ∀ b, bt (a 7) b = true ↔ b = 3
theorem xf_end (hg : rg_ok g) {F : Nat → Nat → Prop} (hF : ∀ s b, s < 7 → (F s b ↔ fi_F g s b)) {n : Nat} {a : Nat → Int32} (hS : xf_S g a) (hJ : rd_J 10 (xf_s g F) sw_c n a) (hn : 160 ≤ n) : xf_ok g a := by
  have cl := rd_end hJ (cn_le _ 16) hn (fun e r hr hU i hi h3 => by
    have hr' : r < rg_n g ∨ r = 9 := hU.imp (fun z => z.1) id
    have h7 := (rg_b hg hr').2.2.2.2 i hi
    refine ⟨fun b hb _ => sw_full e h3 h7 (by omega), fun _ b hb => sw_full e h3 h7 ?_⟩
    rcases Nat.lt_or_ge (rg_l g r) 7 with k | k
    · have := fo_rng (hS.1 _ _ k hb); omega
    · have k : rg_l g r = 7 := by have := (rg_b hg hr').2.1; omega
      rw [k] at hb
      have := (hS.2 b).mp hb; omega)
  refine ⟨fun v b v3 v7 => ⟨hS.1 v b v7, fun z => ?_⟩, hS.2⟩
  have := z (fun v b => 3 ≤ v → v < 7 → bt (a v) b = true) ⟨fun _ _ => ?_, fun r i hU hi => ?_⟩
  · exact this v3 v7
  · have h9 := cl 9 (by omega) (Or.inr rfl) 0 (by have := hg.2.2.2.1; omega) (by have := hg.2.2.2.2; omega)
    unfold xf_R at h9
    rw [hg.2.2.1, hg.2.2.2.1, hg.2.2.2.2] at h9
    exact h9.2 rfl 3 ((hS.2 3).mpr rfl)
  · have l := hg.2.1 r hU.1
    have h9 := hg.1
    have hr := hU.1
    have e : ∀ b, xf_R g F r i b ↔ fs_b (fi_F g) (rg_h g r) (rg_c g r - (i + 1)) (i + 1) b := fun b => fs_iff7 l.2.2.2 hF _ _ _ (by omega)
    refine ⟨fun b hb hR v3 v7 => (cl r (by omega) (Or.inl hU) i hi v3).1 b hb ((e b).mpr hR), fun hR b hb v3 v7 => (cl r (by omega) (Or.inl hU) i hi v3).2 ((e 3).mpr hR) b (hb l.1 l.2.1)⟩
theorem xw_findFollows (hg : rg_ok g) (hG : xg_G g a_lefts a_rights a_rightSizes) (hU : xg_U g f_rulesInUse) (h4 : xb_4 a_beginSets) (hF : xb_ok g a_beginSets) {post : SX → Prop} (h : ∀ a, xf_ok g a → post (f_depth, f_made, f_textLength, f_tokenCount, f_wrongPlace, f_ruleCount, f_prepared, f_rulesInUse, f_stateCount, f_wideCount, f_gradeFound, f_readHeight, f_tokensTaken, f_usedCount, a_spotCounts, a_ends, a_arrows, a_takers, a_groups, a_marks, a_text, a_tokenKinds, a_tokenLengths, a_lefts, a_rights, a_rightSizes, a_beginSets, a, a_nextItems, a_openItems, a_restItems, a_stateItems, a_stateSteps, a_stateLooks, a_wideSteps, a_wideLooks, a_readStates, a_readValues, a_usedRules)) : wpX_findFollows post (f_depth, f_made, f_textLength, f_tokenCount, f_wrongPlace, f_ruleCount, f_prepared, f_rulesInUse, f_stateCount, f_wideCount, f_gradeFound, f_readHeight, f_tokensTaken, f_usedCount, a_spotCounts, a_ends, a_arrows, a_takers, a_groups, a_marks, a_text, a_tokenKinds, a_tokenLengths, a_lefts, a_rights, a_rightSizes, a_beginSets, a_followSets, a_nextItems, a_openItems, a_restItems, a_stateItems, a_stateSteps, a_stateLooks, a_wideSteps, a_wideLooks, a_readStates, a_readValues, a_usedRules) := by
  refine loop_0 (fun f i s => wX_findFollows_2 post f_depth f_made f_textLength f_tokenCount f_wrongPlace f_ruleCount f_prepared f_rulesInUse f_stateCount f_wideCount f_gradeFound f_readHeight f_tokensTaken f_usedCount f (nI i) a_spotCounts a_ends a_arrows a_takers a_groups a_marks a_text a_tokenKinds a_tokenLengths a_lefts a_rights a_rightSizes a_beginSets s a_nextItems a_openItems a_restItems a_stateItems a_stateSteps a_stateLooks a_wideSteps a_wideLooks a_readStates a_readValues a_usedRules) (fun i s => ∀ v, v < i → s v = 0) 8 a_followSets (fun v hv => absurd hv (Nat.not_lt_zero v)) ?_ ?_
  · intro f s hs
    refine br_t (nI_le (Nat.le_refl 8) (by decide)) (nm_e ?_)
    have hS0 : xf_S g (upd s 7 8) := by
      refine ⟨fun v b hv hb => ?_, fun b => ?_⟩
      · rw [pk_un (by omega), hs v (by omega), b_0] at hb; cases hb
      · rw [pk_us, b_8b, decide_eq_true_eq]
    refine loop_0 (fun f q s => wX_findFollows_32 post f (nI q) f_depth f_made f_textLength f_tokenCount f_wrongPlace f_ruleCount f_prepared f_rulesInUse f_stateCount f_wideCount f_gradeFound f_readHeight f_tokensTaken f_usedCount a_spotCounts a_ends a_arrows a_takers a_groups a_marks a_text a_tokenKinds a_tokenLengths a_lefts a_rights a_rightSizes a_beginSets s a_nextItems a_openItems a_restItems a_stateItems a_stateSteps a_stateLooks a_wideSteps a_wideLooks a_readStates a_readValues a_usedRules) (fun q s => xf_S g s ∧ rd_J 10 (xf_s g (xb_F a_beginSets)) sw_c (q * 10) s) 17 (upd s 7 8) ⟨hS0, rd_i⟩ ?_ ?_
    · rintro f s ⟨s1, s2⟩
      exact br_t (nI_lt (a := 16) (by decide) (by decide)) (h s (xf_end hg hF s1 s2 (by omega)))
    · rintro f q s hq ⟨s1, s2⟩ hk
      refine br_f (nI_nlt (a := 16) (by omega) (by omega)) ?_
      refine loop_0 (fun f' r s => wX_findFollows_40 post (wX_findFollows_32 post f) (nI q) f' (nI r) f_depth f_made f_textLength f_tokenCount f_wrongPlace f_ruleCount f_prepared f_rulesInUse f_stateCount f_wideCount f_gradeFound f_readHeight f_tokensTaken f_usedCount a_spotCounts a_ends a_arrows a_takers a_groups a_marks a_text a_tokenKinds a_tokenLengths a_lefts a_rights a_rightSizes a_beginSets s a_nextItems a_openItems a_restItems a_stateItems a_stateSteps a_stateLooks a_wideSteps a_wideLooks a_readStates a_readValues a_usedRules) (fun r s => xf_S g s ∧ rd_J 10 (xf_s g (xb_F a_beginSets)) sw_c (q * 10 + r) s) 10 s ⟨s1, s2⟩ ?_ ?_
      · rintro f' s hs
        refine br_t (nI_lt (a := 9) (by decide) (by decide)) (nm_r (nI_1 q) (hk s ?_))
        rw [Nat.succ_mul]; exact hs
      · rintro f' r s hr ⟨s1, s2⟩ hk2
        refine br_f (nI_nlt (a := 9) (by omega) (by omega)) (br_c (fun z => ?_) (fun z => ?_))
        · have z := (hU r).mp ((b_test f_rulesInUse (n := r) (by omega)).mp z)
          refine br_f (by decide) (xw_addFollows hg hG h4 hF z s1 (fun s' a1 a2 a3 a4 => nm_r (nI_1 r) (hk2 s' ⟨a1, ?_⟩)))
          by_cases y : xf_s g (xb_F a_beginSets) r s
          · have e := a3 y
            refine rd_congr (s := s) (fun k hk w => ?_) (sw_eq fun v v3 v7 => (e v v3 v7).symm) (by omega) (rd_kr hr s2 y)
            intro hUk i hi h3
            have hk' : k < rg_n g ∨ k = 9 := hUk.imp (fun z => z.1) id
            have hb := rg_b hg hk'
            have h7 := hb.2.2.2.2 i hi
            have el : s' (rg_l g k) = s (rg_l g k) ∨ rg_l g k = 7 := by
              rcases Nat.lt_or_ge (rg_l g k) 7 with q | q
              · exact Or.inl (e _ hb.2.2.1 q)
              · exact Or.inr (by omega)
            rw [e _ h3 h7]
            refine ⟨(w hUk i hi h3).1, fun hR b hb2 => (w hUk i hi h3).2 hR b ?_⟩
            rcases el with el | el
            · rw [el] at hb2; exact hb2
            · rw [el] at hb2 ⊢
              exact (s1.2 b).mpr ((a1.2 b).mp hb2)
          · exact rd_gr hr s2 y (a4 y)
        · have z : ¬ (us_U g r ∨ r = 9) := fun y => z ((b_test f_rulesInUse (by omega)).mpr ((hU r).mpr y))
          refine br_t rfl (nm_r (nI_1 r) (hk2 s ⟨s1, rd_kr hr s2 ?_⟩))
          exact fun y => absurd y z
  · intro f i s hi hs hk
    refine br_f (nI_ge hi (by decide)) ⟨vp_in_nI hi (by decide), nm_r (by rw [nI_clamp (by omega)]) (nm_r (nI_1 i) (hk _ fun v hv => ?_))⟩
    by_cases e : v = i
    · subst e; exact pk_us
    · rw [pk_un e]; exact hs v (by omega)
end
