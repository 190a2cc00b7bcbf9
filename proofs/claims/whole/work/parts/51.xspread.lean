/-! the component's looks in the states, and its grade -/
variable {f_depth f_made f_textLength f_tokenCount f_wrongPlace f_ruleCount f_prepared f_rulesInUse f_stateCount f_wideCount f_gradeFound f_readHeight f_tokensTaken f_usedCount : Int32} {a_spotCounts a_ends a_arrows a_takers a_groups a_marks a_text a_tokenKinds a_tokenLengths a_lefts a_rights a_rightSizes a_beginSets a_followSets a_stateSteps a_wideSteps a_readStates a_readValues a_usedRules : Nat → Int32} {a_nextItems a_openItems a_restItems a_stateItems a_stateLooks a_wideLooks : Nat → Int64}
theorem nb_0 : narrow .boolean (.int 0) = .int 0 := rfl
theorem nb_1 : narrow .boolean (.int 1) = .int 1 := rfl
section
variable {g : rg_T}
theorem xw_setStateLooks {n t : Nat} (hn : n ≤ 60) (ht : t < 4) (m : Int64) {post : SX → Prop} (h : ∀ A, (∀ s, s < n → A (s * 4 + t) = a_stateItems s &&& m) → (∀ s u, u < 4 → u ≠ t → A (s * 4 + u) = a_stateLooks (s * 4 + u)) → post (f_depth, f_made, f_textLength, f_tokenCount, f_wrongPlace, f_ruleCount, f_prepared, f_rulesInUse, (nI n), f_wideCount, f_gradeFound, f_readHeight, f_tokensTaken, f_usedCount, a_spotCounts, a_ends, a_arrows, a_takers, a_groups, a_marks, a_text, a_tokenKinds, a_tokenLengths, a_lefts, a_rights, a_rightSizes, a_beginSets, a_followSets, a_nextItems, a_openItems, a_restItems, a_stateItems, a_stateSteps, A, a_wideSteps, a_wideLooks, a_readStates, a_readValues, a_usedRules)) : wpX_setStateLooks post (f_depth, f_made, f_textLength, f_tokenCount, f_wrongPlace, f_ruleCount, f_prepared, f_rulesInUse, (nI n), f_wideCount, f_gradeFound, f_readHeight, f_tokensTaken, f_usedCount, a_spotCounts, a_ends, a_arrows, a_takers, a_groups, a_marks, a_text, a_tokenKinds, a_tokenLengths, a_lefts, a_rights, a_rightSizes, a_beginSets, a_followSets, a_nextItems, a_openItems, a_restItems, a_stateItems, a_stateSteps, a_stateLooks, a_wideSteps, a_wideLooks, a_readStates, a_readValues, a_usedRules) (nI t) m := by
  refine loop_0 (fun f s A => wX_setStateLooks_3 post (nI t) m f_depth f_made f_textLength f_tokenCount f_wrongPlace f_ruleCount f_prepared f_rulesInUse (nI n) f_wideCount f_gradeFound f_readHeight f_tokensTaken f_usedCount f (nI s) a_spotCounts a_ends a_arrows a_takers a_groups a_marks a_text a_tokenKinds a_tokenLengths a_lefts a_rights a_rightSizes a_beginSets a_followSets a_nextItems a_openItems a_restItems a_stateItems a_stateSteps A a_wideSteps a_wideLooks a_readStates a_readValues a_usedRules) (fun s A => (∀ s', s' < s → A (s' * 4 + t) = a_stateItems s' &&& m) ∧ (∀ s u, u < 4 → u ≠ t → A (s * 4 + u) = a_stateLooks (s * 4 + u))) n a_stateLooks ⟨fun s' q => absurd q (Nat.not_lt_zero _), fun _ _ _ _ => rfl⟩ ?_ ?_
  · rintro f A ⟨h1, h2⟩
    exact br_t (nI_le (Nat.le_refl _) (by omega)) (h A h1 h2)
  · rintro f s A hs ⟨h1, h2⟩ hk
    refine br_f (nI_ge hs (by omega)) ⟨vp_in_nI (by omega) (by decide), pk_in (s * 4 + t) 240 (by omega) (ix_4 s t), nm_r (by rw [pk_cl (s * 4 + t) (ix_4 s t), nI_clamp (by omega : s < 2 ^ 31)]) (nm_r (nI_1 s) (hk _ ⟨fun s' hs' => ?_, fun s' u hu hne => ?_⟩))⟩
    · by_cases e : s' = s
      · subst e; exact pk_uLs
      · rw [pk_uLn (by omega)]; exact h1 s' (by omega)
    · rw [pk_uLn (by omega)]; exact h2 s' u hu hne
/-- what counts by the follows -/
theorem xw_followedItems (hg : rg_ok g) (hG : xg_G g a_lefts a_rights a_rightSizes) (hU : xg_U g f_rulesInUse) (hI : xi_I g 10 a_nextItems a_openItems a_restItems) (hW : xf_ok g a_followSets) {t : Nat} (ht : t < 4) {post : Int64 → Prop} (h : ∀ m, (∀ k, im_ok g k → (bl m k = true ↔ (k % 5 = rg_c g (k / 5) → cs_C1 g t k))) → post m) : wpX_followedItems post (f_depth, f_made, f_textLength, f_tokenCount, f_wrongPlace, f_ruleCount, f_prepared, f_rulesInUse, f_stateCount, f_wideCount, f_gradeFound, f_readHeight, f_tokensTaken, f_usedCount, a_spotCounts, a_ends, a_arrows, a_takers, a_groups, a_marks, a_text, a_tokenKinds, a_tokenLengths, a_lefts, a_rights, a_rightSizes, a_beginSets, a_followSets, a_nextItems, a_openItems, a_restItems, a_stateItems, a_stateSteps, a_stateLooks, a_wideSteps, a_wideLooks, a_readStates, a_readValues, a_usedRules) (nI t) := by
  obtain ⟨i1, i2, i3, i4⟩ := hI
  refine nm_e ?_
  refine loop_0 (fun f r m => wX_followedItems_15 post (nI t) f_depth f_made f_textLength f_tokenCount f_wrongPlace f_ruleCount f_prepared f_rulesInUse f_stateCount f_wideCount f_gradeFound f_readHeight f_tokensTaken f_usedCount a_spotCounts a_ends a_arrows a_takers a_groups a_marks a_text a_tokenKinds a_tokenLengths a_lefts a_rights a_rightSizes a_beginSets a_followSets a_nextItems a_openItems a_restItems a_stateItems a_stateSteps a_stateLooks a_wideSteps a_wideLooks a_readStates a_readValues a_usedRules f m (nI r)) (fun r m => ∀ k, im_ok g k → (bl m k = true ↔ (k % 5 = rg_c g (k / 5) → k / 5 < r ∧ cs_C1 g t k))) 10 (a_nextItems 7 ^^^ (-1)) ?_ ?_ ?_
  · intro k hk
    have k64 : k < 64 := by have := im_lt hg hk; omega
    rw [bl_not _ k64]
    have := i2 k
    constructor
    · intro z y
      exfalso
      rw [this.mpr ⟨⟨hk.1, xu_10 hg hk.1⟩, y⟩] at z
      cases z
    · intro z
      cases e : bl (a_nextItems 7) k
      · rfl
      · exact absurd (z (this.mp e).2).1 (Nat.not_lt_zero _)
  · intro f m hm
    refine br_t (nI_lt (a := 9) (by decide) (by decide)) (h m fun k hk => ?_)
    rw [hm k hk]
    exact ⟨fun z y => (z y).2, fun z y => ⟨xu_10 hg hk.1, z y⟩⟩
  · intro f r m hr hm hk
    refine br_f (nI_nlt (a := 9) (by omega) (by omega)) (br_c (fun z => ?_) (fun z => ?_))
    · have z := (hU r).mp ((b_test f_rulesInUse (n := r) (by omega)).mp z)
      have hr' : r < rg_n g ∨ r = 9 := z.imp (fun z => z.1) id
      obtain ⟨b1, b2, b3, b4, b5⟩ := rg_b hg hr'
      obtain ⟨g1, g2, g3⟩ := hG r hr'
      have cr : (nI r).toNatClampNeg = r := nI_clamp (by omega)
      have cl : (nI (rg_l g r)).toNatClampNeg = rg_l g r := nI_clamp (by omega)
      have hC : bt (a_followSets (rg_l g r)) t = true ↔ cs_C1 g t (r * 5 + rg_c g r) := by
        have e : (r * 5 + rg_c g r) / 5 = r := by omega
        unfold cs_C1
        rw [e]
        by_cases e9 : r = 9
        · rw [if_pos e9, e9, hg.2.2.1, hW.2]
        · rw [if_neg e9]
          rcases z with z | z
          · have l := hg.2.1 r z.1
            exact hW.1 _ _ l.1 l.2.1
          · exact absurd z e9
      have same : ∀ k, k / 5 = r → k % 5 = rg_c g (k / 5) → k = r * 5 + rg_c g r := by
        intro k e1 e2
        rw [e1] at e2
        omega
      refine br_f (by decide) ⟨vp_in_nI (by omega) (by decide), ?_⟩
      rw [cr, g1]
      refine ⟨vp_in_nI (by omega) (by decide), ?_⟩
      rw [cl]
      refine br_c (fun y => ⟨vp_in_nI (by omega) (by decide), ?_⟩) (fun y => nm_r (nI_1 r) (hk m fun k hk' => ?_))
      · have y := hC.mp ((b_test _ (n := t) (by omega)).mp y)
        rw [g2, ix_5]
        refine nm_e (nm_r (nI_1 r) (hk _ fun k hk' => ?_))
        rw [bl_or, Bool.or_eq_true, hm k hk', bl_one _ (by omega), decide_eq_true_eq]
        constructor
        · rintro (q | q) w
          · have := q w
            exact ⟨by omega, this.2⟩
          · rw [q]
            exact ⟨by omega, y⟩
        · intro q
          by_cases e : k = r * 5 + rg_c g r
          · exact Or.inr e
          · refine Or.inl fun w => ?_
            have := q w
            have ne : k / 5 ≠ r := fun e1 => e (same k e1 w)
            exact ⟨by omega, this.2⟩
      · have y : ¬ cs_C1 g t (r * 5 + rg_c g r) := fun w => y ((b_test _ (by omega)).mpr (hC.mpr w))
        rw [hm k hk']
        constructor
        · intro q w
          have := q w
          exact ⟨by omega, this.2⟩
        · intro q w
          have := q w
          have ne : k / 5 ≠ r := fun e1 => y (by rw [← same k e1 w]; exact this.2)
          exact ⟨by omega, this.2⟩
    · have z : ¬ xu_U g r := fun y => z ((b_test f_rulesInUse (by omega)).mpr ((hU r).mpr y))
      refine br_t rfl (nm_r (nI_1 r) (hk m fun k hk' => ?_))
      rw [hm k hk']
      constructor
      · intro q w
        have := q w
        exact ⟨by omega, this.2⟩
      · intro q w
        have := q w
        have ne : k / 5 ≠ r := fun e1 => z (by rw [← e1]; exact hk'.1)
        exact ⟨by omega, this.2⟩
/-! spreading: A the looks so far -/
def sp_in (g : rg_T) (f : Nat → Int64) (n : Nat) (A : Nat → Int64) : Prop := ∀ s t k, s < n → t < 4 → bl (A (s * 4 + t)) k = true → la_L g f n s t k
def sp_cl (g : rg_T) (A : Nat → Int64) (s : Nat) : Prop := cw_cl g (fun t k => t < 4 ∧ bl (A (s * 4 + t)) k = true)
def sp_ps (g : rg_T) (f : Nat → Int64) (n : Nat) (A : Nat → Int64) (s x : Nat) : Prop := ∀ s' t k, s' < n → tb_to g (f s) x = some (f s') → t < 4 → bl (A (s * 4 + t)) k = true → im_nx g k x → bl (A (s' * 4 + t)) (k + 1) = true
def sp_le (n : Nat) (A B : Nat → Int64) : Prop := ∀ s t k, s < n → t < 4 → bl (A (s * 4 + t)) k = true → bl (B (s * 4 + t)) k = true
noncomputable def sp_c (n : Nat) (A : Nat → Int64) : Nat := cn_c (fun i => i / 188 < n ∧ bl (A (i / 188 * 4 + i % 188 / 47)) (i % 47) = true) 11280
theorem sp_mono {n : Nat} {A B : Nat → Int64} (h : sp_le n A B) : sp_c n A ≤ sp_c n B := cn_mono fun i _ z => ⟨z.1, h _ _ _ z.1 (by omega) z.2⟩
theorem sp_lt {n : Nat} (hn : n ≤ 60) {A B : Nat → Int64} (h : sp_le n A B) {s t k : Nat} (hs : s < n) (ht : t < 4) (hk : k < 47) (h1 : ¬ bl (A (s * 4 + t)) k = true) (h2 : bl (B (s * 4 + t)) k = true) : sp_c n A < sp_c n B := by
  have e1 : (s * 188 + t * 47 + k) / 188 = s := by omega
  have e2 : (s * 188 + t * 47 + k) % 188 / 47 = t := by omega
  have e3 : (s * 188 + t * 47 + k) % 47 = k := by omega
  exact cn_lt (a := s * 188 + t * 47 + k) (by rw [e1, e2, e3]; exact fun z => h1 z.2) (by rw [e1, e2, e3]; exact ⟨hs, h2⟩) (fun i _ z => ⟨z.1, h _ _ _ z.1 (by omega) z.2⟩) (by omega)
theorem sp_io (hg : rg_ok g) {f : Nat → Int64} {n : Nat} (hf : tb_full g f n) {A : Nat → Int64} (h : sp_in g f n A) {s : Nat} (hs : s < n) : xo_io g (fun t => A (s * 4 + t)) := by
  intro t k ht hk
  have l := h s t k hs ht hk
  have i := la_in hg hf l
  exact ⟨tb_fio hg hf hs k i.2.1, i.2.2.1, i.2.2.2⟩
theorem xw_passLooks (hg : rg_ok g) (hI : xi_I g 10 a_nextItems a_openItems a_restItems) {f : Nat → Int64} {n s : Nat} (hn : n ≤ 60) (hf : tb_full g f n) (hs : s < n) (hst : ∀ x, x < 7 → xt_1 (tb_to g) f n (a_stateSteps (s * 7 + x)) s x) (hA : sp_in g f n a_stateLooks) {post : Int32 → SX → Prop}
    (h0 : (∀ x, x < 7 → sp_ps g f n a_stateLooks s x) → post 0 (f_depth, f_made, f_textLength, f_tokenCount, f_wrongPlace, f_ruleCount, f_prepared, f_rulesInUse, f_stateCount, f_wideCount, f_gradeFound, f_readHeight, f_tokensTaken, f_usedCount, a_spotCounts, a_ends, a_arrows, a_takers, a_groups, a_marks, a_text, a_tokenKinds, a_tokenLengths, a_lefts, a_rights, a_rightSizes, a_beginSets, a_followSets, a_nextItems, a_openItems, a_restItems, a_stateItems, a_stateSteps, a_stateLooks, a_wideSteps, a_wideLooks, a_readStates, a_readValues, a_usedRules)) (h1 : ∀ A, sp_le n a_stateLooks A → sp_in g f n A → sp_c n a_stateLooks < sp_c n A → post 1 (f_depth, f_made, f_textLength, f_tokenCount, f_wrongPlace, f_ruleCount, f_prepared, f_rulesInUse, f_stateCount, f_wideCount, f_gradeFound, f_readHeight, f_tokensTaken, f_usedCount, a_spotCounts, a_ends, a_arrows, a_takers, a_groups, a_marks, a_text, a_tokenKinds, a_tokenLengths, a_lefts, a_rights, a_rightSizes, a_beginSets, a_followSets, a_nextItems, a_openItems, a_restItems, a_stateItems, a_stateSteps, A, a_wideSteps, a_wideLooks, a_readStates, a_readValues, a_usedRules)) : wpX_passLooks post (f_depth, f_made, f_textLength, f_tokenCount, f_wrongPlace, f_ruleCount, f_prepared, f_rulesInUse, f_stateCount, f_wideCount, f_gradeFound, f_readHeight, f_tokensTaken, f_usedCount, a_spotCounts, a_ends, a_arrows, a_takers, a_groups, a_marks, a_text, a_tokenKinds, a_tokenLengths, a_lefts, a_rights, a_rightSizes, a_beginSets, a_followSets, a_nextItems, a_openItems, a_restItems, a_stateItems, a_stateSteps, a_stateLooks, a_wideSteps, a_wideLooks, a_readStates, a_readValues, a_usedRules) (nI s) := by
  refine loop_0 (fun fu x σ => wX_passLooks_4 post (nI s) f_depth f_made f_textLength f_tokenCount f_wrongPlace f_ruleCount f_prepared f_rulesInUse f_stateCount f_wideCount f_gradeFound f_readHeight f_tokensTaken f_usedCount fu σ.1 (nI x) a_spotCounts a_ends a_arrows a_takers a_groups a_marks a_text a_tokenKinds a_tokenLengths a_lefts a_rights a_rightSizes a_beginSets a_followSets a_nextItems a_openItems a_restItems a_stateItems a_stateSteps σ.2 a_wideSteps a_wideLooks a_readStates a_readValues a_usedRules) (fun x σ => sp_le n a_stateLooks σ.2 ∧ sp_in g f n σ.2 ∧ ((σ.1 = 0 ∧ σ.2 = a_stateLooks ∧ ∀ x', x' < x → sp_ps g f n a_stateLooks s x') ∨ (σ.1 = 1 ∧ sp_c n a_stateLooks < sp_c n σ.2))) 7 ((0 : Int32), a_stateLooks) ⟨fun _ _ _ _ _ z => z, hA, Or.inl ⟨rfl, rfl, fun x' q => absurd q (Nat.not_lt_zero _)⟩⟩ ?_ ?_
  · rintro fu ⟨c, A⟩ ⟨a1, a2, a3⟩
    refine br_t (nI_le (Nat.le_refl 7) (by decide)) ?_
    rcases a3 with ⟨e1, e2, e3⟩ | ⟨e1, e2⟩
    · have e1 : c = 0 := e1
      have e2 : A = a_stateLooks := e2
      subst e1 e2
      exact ⟨nb_0, h0 e3⟩
    · have e1 : c = 1 := e1
      subst e1
      exact ⟨nb_1, h1 A a1 a2 e2⟩
  · rintro fu x ⟨c, A⟩ hx ⟨a1, a2, a3⟩ hk
    have a1 : sp_le n a_stateLooks A := a1
    have a2 : sp_in g f n A := a2
    have a3 : (c = 0 ∧ A = a_stateLooks ∧ ∀ x', x' < x → sp_ps g f n a_stateLooks s x') ∨ (c = 1 ∧ sp_c n a_stateLooks < sp_c n A) := a3
    have cx : (nI x).toNatClampNeg = x := nI_clamp (by omega)
    refine br_f (nI_ge hx (by decide)) ⟨pk_in (s * 7 + x) 420 (by omega) (ix_7 s x), nm_r (e' := a_stateSteps (s * 7 + x)) (by rw [pk_cl (s * 7 + x) (ix_7 s x)]) ?_⟩
    -- when nothing was wanting over x
    have done : (c = 0 → A = a_stateLooks → sp_ps g f n a_stateLooks s x) → wX_passLooks_4 post (nI s) f_depth f_made f_textLength f_tokenCount f_wrongPlace f_ruleCount f_prepared f_rulesInUse f_stateCount f_wideCount f_gradeFound f_readHeight f_tokensTaken f_usedCount fu c (nI (x + 1)) a_spotCounts a_ends a_arrows a_takers a_groups a_marks a_text a_tokenKinds a_tokenLengths a_lefts a_rights a_rightSizes a_beginSets a_followSets a_nextItems a_openItems a_restItems a_stateItems a_stateSteps A a_wideSteps a_wideLooks a_readStates a_readValues a_usedRules := by
      intro z
      refine hk (c, A) ⟨a1, a2, ?_⟩
      rcases a3 with ⟨e1, e2, e3⟩ | e
      · refine Or.inl ⟨e1, e2, fun x' hx' => ?_⟩
        by_cases e : x' = x
        · subst e; exact z e1 e2
        · exact e3 x' (by omega)
      · exact Or.inr e
    rcases hst x hx with ⟨w1, w2⟩ | ⟨s', w0, w1, w2⟩
    · rw [w2]
      refine ⟨1, br_f (by decide) (br_t rfl (nm_r (nI_1 x) (done fun _ _ s' t k _ q => ?_)))⟩
      rw [w1] at q; cases q
    · rw [w2]
      refine loop_0 (fun fu' t σ => wX_passLooks_26 post (wX_passLooks_4 post (nI s) f_depth f_made f_textLength f_tokenCount f_wrongPlace f_ruleCount f_prepared f_rulesInUse f_stateCount f_wideCount f_gradeFound f_readHeight f_tokensTaken f_usedCount fu) (nI s) (nI x) (nI s') f_depth f_made f_textLength f_tokenCount f_wrongPlace f_ruleCount f_prepared f_rulesInUse f_stateCount f_wideCount f_gradeFound f_readHeight f_tokensTaken f_usedCount fu' σ.1 (nI t) a_spotCounts a_ends a_arrows a_takers a_groups a_marks a_text a_tokenKinds a_tokenLengths a_lefts a_rights a_rightSizes a_beginSets a_followSets a_nextItems a_openItems a_restItems a_stateItems a_stateSteps σ.2 a_wideSteps a_wideLooks a_readStates a_readValues a_usedRules) (fun t σ => sp_le n A σ.2 ∧ sp_in g f n σ.2 ∧ ((σ.1 = c ∧ σ.2 = A ∧ ∀ t' k, t' < t → bl (A (s * 4 + t')) k = true → im_nx g k x → bl (A (s' * 4 + t')) (k + 1) = true) ∨ (σ.1 = 1 ∧ sp_c n A < sp_c n σ.2))) 4 (c, A) ⟨fun _ _ _ _ _ z => z, a2, Or.inl ⟨rfl, rfl, fun t' k q => absurd q (Nat.not_lt_zero _)⟩⟩ ?_ ?_
      · rintro fu' ⟨c2, B⟩ ⟨b1, b2, b3⟩
        refine br_t (nI_le (Nat.le_refl 4) (by decide)) (nm_r (nI_1 x) ?_)
        rcases b3 with ⟨e1, e2, e3⟩ | ⟨e1, e2⟩
        · have e1 : c2 = c := e1
          have e2 : B = A := e2
          subst e1 e2
          refine done fun q1 q2 s2 t k q3 q4 q5 q6 q7 => ?_
          have es : s2 = s' := hf.2.2.1 s2 s' q3 w0 (by rw [w1] at q4; exact (Option.some.inj q4).symm)
          subst es
          rw [q2] at e3
          exact e3 t k q5 q6 q7
        · have e2 : sp_c n A < sp_c n B := e2
          have e1 : c2 = 1 := e1
          refine hk (c2, B) ⟨fun s t k q1 q2 q3 => b1 s t k q1 q2 (a1 s t k q1 q2 q3), b2, Or.inr ⟨e1, ?_⟩⟩
          have := sp_mono a1
          show sp_c n a_stateLooks < sp_c n B
          omega
      · rintro fu' t ⟨c2, B⟩ ht ⟨b1, b2, b3⟩ hk2
        have b1 : sp_le n A B := b1
        have b2 : sp_in g f n B := b2
        have b3 : (c2 = c ∧ B = A ∧ ∀ t' k, t' < t → bl (A (s * 4 + t')) k = true → im_nx g k x → bl (A (s' * 4 + t')) (k + 1) = true) ∨ (c2 = 1 ∧ sp_c n A < sp_c n B) := b3
        have ioB : tb_io g (B (s * 4 + t)) := fun k hk => (sp_io hg hf b2 hs t k ht hk).1
        have mv := fun k => xm_mv hI hg ioB hx k
        have is' : vp_in (nI s' * 4 + nI t) 240 := pk_in (s' * 4 + t) 240 (by omega) (ix_4 s' t)
        have cs' : (nI s' * 4 + nI t).toNatClampNeg = s' * 4 + t := pk_cl (s' * 4 + t) (ix_4 s' t)
        refine br_f (nI_ge ht (by decide)) (br_f (ne_neg (by omega) (by decide)) ⟨pk_in (s * 4 + t) 240 (by omega) (ix_4 s t), vp_in_nI (by omega) (by decide), nm_r (e' := (B (s * 4 + t) &&& a_nextItems x) <<< ((1 : Int32).toInt64 &&& 63)) (by rw [pk_cl (s * 4 + t) (ix_4 s t), cx]) ⟨is', ?_⟩⟩)
        rw [cs']
        have sub : ((B (s * 4 + t) &&& a_nextItems x) <<< ((1 : Int32).toInt64 &&& 63)) &&& (B (s' * 4 + t) ^^^ (-1)) = 0 ↔ ∀ k, tb_mv g (B (s * 4 + t)) x k → bl (B (s' * 4 + t)) k = true := by
          rw [bl_zero]
          constructor
          · intro w k hk'
            have k64 : k < 64 := by have := im_lt hg (tb_mv_ok hg ioB hk'); omega
            have := w k k64
            rw [bl_and, bl_not _ k64, (mv k).mpr hk'] at this
            cases e : bl (B (s' * 4 + t)) k
            · rw [e] at this; cases this
            · rfl
          · intro w k k64
            rw [bl_and, bl_not _ k64]
            cases e : bl ((B (s * 4 + t) &&& a_nextItems x) <<< ((1 : Int32).toInt64 &&& 63)) k
            · rfl
            · rw [w k ((mv k).mp e)]; rfl
        refine br_c (fun z => nm_r (nI_1 t) (hk2 (c2, B) ⟨b1, b2, ?_⟩)) (fun z => ⟨is', is', ?_⟩)
        · have z := sub.mp z
          rcases b3 with ⟨e1, e2, e3⟩ | e
          · refine Or.inl ⟨e1, e2, fun t' k ht' q1 q2 => ?_⟩
            by_cases e : t' = t
            · subst e
              have e2 : B = A := e2
              rw [e2] at z
              exact z (k + 1) ⟨k, rfl, q1, q2⟩
            · exact e3 t' k (by omega) q1 q2
          · exact Or.inr e
        · have : ∃ k, tb_mv g (B (s * 4 + t)) x k ∧ ¬ bl (B (s' * 4 + t)) k = true := by
            refine Classical.byContradiction fun q => z (sub.mpr fun k hk' => ?_)
            exact Classical.byContradiction fun q2 => q ⟨k, hk', q2⟩
          obtain ⟨k0, z1, z2⟩ := this
          have e : ∀ j k, bl (vp_updL B (s' * 4 + t) (B (s' * 4 + t) ||| (B (s * 4 + t) &&& a_nextItems x) <<< ((1 : Int32).toInt64 &&& 63)) j) k = true ↔ bl (B j) k = true ∨ (j = s' * 4 + t ∧ tb_mv g (B (s * 4 + t)) x k) := by
            intro j k
            by_cases w : j = s' * 4 + t
            · subst w
              rw [pk_uLs, bl_or, Bool.or_eq_true, mv k]
              exact ⟨fun q => q.imp id (fun q => ⟨rfl, q⟩), fun q => q.imp id (fun q => q.2)⟩
            · rw [pk_uLn w]
              exact ⟨Or.inl, fun q => by
                rcases q with q | q
                · exact q
                · exact absurd q.1 w⟩
          have le2 : sp_le n B (vp_updL B (s' * 4 + t) (B (s' * 4 + t) ||| (B (s * 4 + t) &&& a_nextItems x) <<< ((1 : Int32).toInt64 &&& 63))) := fun _ _ k _ _ q => (e _ k).mpr (Or.inl q)
          refine nm_e (nm_r (nI_1 t) (hk2 (1, vp_updL B (s' * 4 + t) (B (s' * 4 + t) ||| (B (s * 4 + t) &&& a_nextItems x) <<< ((1 : Int32).toInt64 &&& 63))) ⟨fun s2 t2 k q1 q2 q3 => le2 s2 t2 k q1 q2 (b1 s2 t2 k q1 q2 q3), fun s2 t2 k q1 q2 q3 => ?_, Or.inr ⟨rfl, ?_⟩⟩))
          · rcases (e _ k).mp q3 with q | ⟨q4, i, rfl, q5, q6⟩
            · exact b2 s2 t2 k q1 q2 q
            · have es : s2 = s' := by omega
              have et : t2 = t := by omega
              subst es et
              exact (la_self g f n).2.2 s t2 i x s2 hs w0 (b2 s t2 i hs ht q5) q6 w1
          · have lt := sp_lt hn le2 (s := s') (t := t) (k := k0) w0 ht (im_lt hg (tb_mv_ok hg ioB z1)) z2 ((e _ _).mpr (Or.inr ⟨rfl, z1⟩))
            have := sp_mono b1
            show sp_c n A < sp_c n (vp_updL B (s' * 4 + t) (B (s' * 4 + t) ||| (B (s * 4 + t) &&& a_nextItems x) <<< ((1 : Int32).toInt64 &&& 63)))
            omega
/-- the looks: the least spread -/
def sp_ok (g : rg_T) (f : Nat → Int64) (n : Nat) (A : Nat → Int64) : Prop := ∀ s t k, s < n → t < 4 → (bl (A (s * 4 + t)) k = true ↔ la_L g f n s t k)
theorem sp_end {f : Nat → Int64} {n : Nat} (hn : 1 ≤ n) {A : Nat → Int64} (h0 : bl (A 3) 45 = true) (hin : sp_in g f n A) (hc : ∀ s, s < n → sp_cl g A s) (hp : ∀ s x, s < n → x < 7 → sp_ps g f n A s x) (h7 : ∀ k x, im_nx g k x → (∃ s t, s < n ∧ t < 4 ∧ bl (A (s * 4 + t)) k = true) → x < 7) : sp_ok g f n A := by
  intro s t k hs ht
  refine ⟨hin s t k hs ht, fun z => ?_⟩
  have := z (fun s t k => s < n ∧ t < 4 ∧ bl (A (s * 4 + t)) k = true) ⟨⟨hn, by omega, h0⟩, fun s hs t k r t' q1 q2 q3 q4 => ?_, fun s t k x s' q1 q2 q3 q4 q5 => ⟨q2, q3.2.1, hp s x q1 (h7 k x q4 ⟨s, t, q1, q3.2⟩) s' t k q2 q5 q3.2.1 q3.2.2 q4⟩⟩
  · exact this.2.2
  · have := hc s hs t k r t' q1.2 q2 q3 q4
    exact ⟨hs, this⟩
/-- one round -/
def sp_I (g : rg_T) (f : Nat → Int64) (n : Nat) (A : Nat → Int64) (s : Nat) (σ : Int32 × (Nat → Int64)) : Prop := sp_le n A σ.2 ∧ sp_in g f n σ.2 ∧ bl (σ.2 3) 45 = true ∧ ((σ.1 = 0 ∧ (∀ s', s' < s → sp_cl g σ.2 s') ∧ (∀ s' x, s' < s → x < 7 → sp_ps g f n σ.2 s' x)) ∨ (σ.1 = 1 ∧ sp_c n A < sp_c n σ.2))
theorem sp_I0 {f : Nat → Int64} {n : Nat} {A : Nat → Int64} (h1 : sp_in g f n A) (h0 : bl (A 3) 45 = true) : sp_I g f n A 0 ((0 : Int32), A) := ⟨fun _ _ _ _ _ z => z, h1, h0, Or.inl ⟨rfl, fun s' q => absurd q (Nat.not_lt_zero _), fun s' x q => absurd q (Nat.not_lt_zero _)⟩⟩
theorem xw_spreadRound (hg : rg_ok g) (hI : xi_I g 10 a_nextItems a_openItems a_restItems) {f : Nat → Int64} {n q : Nat} (hn : n ≤ 60) (hf : tb_full g f n) (hst : ∀ s x, s < n → x < 7 → xt_1 (tb_to g) f n (a_stateSteps (s * 7 + x)) s x) {A : Nat → Int64} (h1 : sp_in g f n A) (h0 : bl (A 3) 45 = true) {post : SX → Prop} {J : Int32 → Int32 → Int32 → Int32 → Int32 → Int32 → Int32 → Int32 → Int32 → Int32 → Int32 → Int32 → Int32 → Int32 → Int32 → Int32 → (Nat → Int32) → (Nat → Int32) → (Nat → Int32) → (Nat → Int32) → (Nat → Int32) → (Nat → Int32) → (Nat → Int32) → (Nat → Int32) → (Nat → Int32) → (Nat → Int32) → (Nat → Int32) → (Nat → Int32) → (Nat → Int32) → (Nat → Int32) → (Nat → Int64) → (Nat → Int64) → (Nat → Int64) → (Nat → Int64) → (Nat → Int32) → (Nat → Int64) → (Nat → Int32) → (Nat → Int64) → (Nat → Int32) → (Nat → Int32) → (Nat → Int32) → Prop}
    (hJ : ∀ (c : Int32) (B : Nat → Int64), bl (B 3) 45 = true → sp_in g f n B → ((c = 0 ∧ (∀ s', s' < n → sp_cl g B s') ∧ (∀ s' x, s' < n → x < 7 → sp_ps g f n B s' x)) ∨ (c = 1 ∧ sp_c n A < sp_c n B)) → J c (nI (q + 1)) f_depth f_made f_textLength f_tokenCount f_wrongPlace f_ruleCount f_prepared f_rulesInUse (nI n) f_wideCount f_gradeFound f_readHeight f_tokensTaken f_usedCount a_spotCounts a_ends a_arrows a_takers a_groups a_marks a_text a_tokenKinds a_tokenLengths a_lefts a_rights a_rightSizes a_beginSets a_followSets a_nextItems a_openItems a_restItems a_stateItems a_stateSteps B a_wideSteps a_wideLooks a_readStates a_readValues a_usedRules) : ∃ fu, wX_spreadLooks_47 post J (nI q) fu 0 0 f_depth f_made f_textLength f_tokenCount f_wrongPlace f_ruleCount f_prepared f_rulesInUse (nI n) f_wideCount f_gradeFound f_readHeight f_tokensTaken f_usedCount a_spotCounts a_ends a_arrows a_takers a_groups a_marks a_text a_tokenKinds a_tokenLengths a_lefts a_rights a_rightSizes a_beginSets a_followSets a_nextItems a_openItems a_restItems a_stateItems a_stateSteps A a_wideSteps a_wideLooks a_readStates a_readValues a_usedRules := by
  refine loop_0 (fun fu s σ => wX_spreadLooks_47 post J (nI q) fu σ.1 (nI s) f_depth f_made f_textLength f_tokenCount f_wrongPlace f_ruleCount f_prepared f_rulesInUse (nI n) f_wideCount f_gradeFound f_readHeight f_tokensTaken f_usedCount a_spotCounts a_ends a_arrows a_takers a_groups a_marks a_text a_tokenKinds a_tokenLengths a_lefts a_rights a_rightSizes a_beginSets a_followSets a_nextItems a_openItems a_restItems a_stateItems a_stateSteps σ.2 a_wideSteps a_wideLooks a_readStates a_readValues a_usedRules) (fun s σ => sp_I g f n A s σ) n ((0 : Int32), A) (sp_I0 h1 h0) ?_ ?_
  · rintro fu ⟨c2, B⟩ ⟨b1, b2, b0, b3⟩
    refine br_t (nI_le (Nat.le_refl _) (by omega)) (nm_r (nI_1 q) (hJ c2 B b0 b2 b3))
  · rintro fu s ⟨c2, B⟩ hs ⟨b1, b2, b0, b3⟩ hk
    have b1 : sp_le n A B := b1
    have b2 : sp_in g f n B := b2
    have b0 : bl (B 3) 45 = true := b0
    have b3 : (c2 = 0 ∧ (∀ s', s' < s → sp_cl g B s') ∧ (∀ s' x, s' < s → x < 7 → sp_ps g f n B s' x)) ∨ (c2 = 1 ∧ sp_c n A < sp_c n B) := b3
    refine br_f (nI_ge hs (by omega)) ?_
    rw [show nI s * 4 = nI (s * 4) from pk_mul s 4]
    have ioB := sp_io hg hf b2 hs
    refine xw_closeP_stateLooks (a_stateLooks := B) hg hI (by omega) ioB ?_
    -- the closed looks
    have lin : ∀ t k, xo_S (fun t => B (s * 4 + t)) t k → tw_in g t k := fun t k z => ioB t k z.1 z.2
    have eC : ∀ t, t < 4 → ∀ k, bl (ax_set B (s * 4) 4 (fun t => mk_l (cw_0 g (xo_S (fun t => B (s * 4 + t))) t)) (s * 4 + t)) k = true ↔ cw_0 g (xo_S (fun t => B (s * 4 + t))) t k := by
      intro t ht k
      rw [ax_in ht]
      have := tw_mk hg lin ht k
      rw [w4_tm ht] at this
      exact this
    have eO : ∀ s2 t, s2 ≠ s → t < 4 → ax_set B (s * 4) 4 (fun t => mk_l (cw_0 g (xo_S (fun t => B (s * 4 + t))) t)) (s2 * 4 + t) = B (s2 * 4 + t) := fun s2 t hne ht => ax_out (by omega)
    have cle : sp_le n B (ax_set B (s * 4) 4 (fun t => mk_l (cw_0 g (xo_S (fun t => B (s * 4 + t))) t))) := by
      intro s2 t k q1 q2 q3
      by_cases e : s2 = s
      · subst e; exact (eC t q2 k).mpr (cw_sub ⟨q2, q3⟩)
      · rw [eO s2 t e q2]; exact q3
    have cin : sp_in g f n (ax_set B (s * 4) 4 (fun t => mk_l (cw_0 g (xo_S (fun t => B (s * 4 + t))) t))) := by
      intro s2 t k q1 q2 q3
      by_cases e : s2 = s
      · subst e
        exact (eC t q2 k).mp q3 (la_L g f n s2) (fun t k z => b2 s2 t k q1 z.1 z.2) ((la_self g f n).2.1 s2 q1)
      · rw [eO s2 t e q2] at q3; exact b2 s2 t k q1 q2 q3
    have ccl : sp_cl g (ax_set B (s * 4) 4 (fun t => mk_l (cw_0 g (xo_S (fun t => B (s * 4 + t))) t))) s := by
      intro t k r t' q1 q2 q3 q4
      have ht' : t' < 4 := by have := fs_t_le (t := t) (by omega) q4; omega
      exact ⟨ht', (eC t' ht' _).mpr (cw_self g _ t k r t' ((eC t q1.1 k).mp q1.2) q2 q3 q4)⟩
    have c45 : bl (ax_set B (s * 4) 4 (fun t => mk_l (cw_0 g (xo_S (fun t => B (s * 4 + t))) t)) 3) 45 = true := cle 0 3 45 hf.1 (by omega) b0
    have old_cl : ∀ s', s' < s → sp_cl g B s' → sp_cl g (ax_set B (s * 4) 4 (fun t => mk_l (cw_0 g (xo_S (fun t => B (s * 4 + t))) t))) s' := by
      intro s' hs' z t k r t' q1 q2 q3 q4
      rw [eO s' t (by omega) q1.1] at q1
      have := z t k r t' q1 q2 q3 q4
      exact ⟨this.1, by rw [eO s' t' (by omega) this.1]; exact this.2⟩
    have old_ps : ∀ s' x, s' < s → sp_ps g f n B s' x → sp_ps g f n (ax_set B (s * 4) 4 (fun t => mk_l (cw_0 g (xo_S (fun t => B (s * 4 + t))) t))) s' x := by
      intro s' x hs' z s2 t k q1 q2 q3 q4 q5
      rw [eO s' t (by omega) q3] at q4
      exact cle s2 t _ q1 q3 (z s2 t k q1 q2 q3 q4 q5)
    generalize ax_set B (s * 4) 4 (fun t => mk_l (cw_0 g (xo_S (fun t => B (s * 4 + t))) t)) = C at cle cin ccl c45 old_cl old_ps ⊢
    refine xw_passLooks (a_stateLooks := C) hg hI hn hf hs (hst s · hs) cin (fun z => br_t rfl (nm_r (nI_1 s) (hk (c2, C) ⟨fun s2 t k q1 q2 q3 => cle s2 t k q1 q2 (b1 s2 t k q1 q2 q3), cin, c45, ?_⟩))) (fun D d1 d2 d3 => br_f (by decide) (nm_r (nI_1 s) (hk (1, D) ⟨fun s2 t k q1 q2 q3 => d1 s2 t k q1 q2 (cle s2 t k q1 q2 (b1 s2 t k q1 q2 q3)), d2, d1 0 3 45 hf.1 (by omega) c45, Or.inr ⟨rfl, ?_⟩⟩)))
    · rcases b3 with ⟨e1, e2, e3⟩ | ⟨e1, e2⟩
      · refine Or.inl ⟨e1, fun s' hs' => ?_, fun s' x hs' hx => ?_⟩
        · by_cases e : s' = s
          · subst e; exact ccl
          · exact old_cl s' (by omega) (e2 s' (by omega))
        · by_cases e : s' = s
          · subst e; exact z x hx
          · exact old_ps s' x (by omega) (e3 s' x (by omega) hx)
      · refine Or.inr ⟨e1, ?_⟩
        have := sp_mono cle
        show sp_c n A < sp_c n C
        omega
    · have m1 := sp_mono cle
      have m2 := sp_mono b1
      show sp_c n A < sp_c n D
      omega
theorem xw_spreadLooks (hg : rg_ok g) (hI : xi_I g 10 a_nextItems a_openItems a_restItems) {f : Nat → Int64} {n : Nat} (hn : n ≤ 60) (hf : tb_full g f n) (hst : ∀ s x, s < n → x < 7 → xt_1 (tb_to g) f n (a_stateSteps (s * 7 + x)) s x) {post : SX → Prop} (h : ∀ A, sp_ok g f n A → post (f_depth, f_made, f_textLength, f_tokenCount, f_wrongPlace, f_ruleCount, f_prepared, f_rulesInUse, (nI n), f_wideCount, f_gradeFound, f_readHeight, f_tokensTaken, f_usedCount, a_spotCounts, a_ends, a_arrows, a_takers, a_groups, a_marks, a_text, a_tokenKinds, a_tokenLengths, a_lefts, a_rights, a_rightSizes, a_beginSets, a_followSets, a_nextItems, a_openItems, a_restItems, a_stateItems, a_stateSteps, A, a_wideSteps, a_wideLooks, a_readStates, a_readValues, a_usedRules)) : wpX_spreadLooks post (f_depth, f_made, f_textLength, f_tokenCount, f_wrongPlace, f_ruleCount, f_prepared, f_rulesInUse, (nI n), f_wideCount, f_gradeFound, f_readHeight, f_tokensTaken, f_usedCount, a_spotCounts, a_ends, a_arrows, a_takers, a_groups, a_marks, a_text, a_tokenKinds, a_tokenLengths, a_lefts, a_rights, a_rightSizes, a_beginSets, a_followSets, a_nextItems, a_openItems, a_restItems, a_stateItems, a_stateSteps, a_stateLooks, a_wideSteps, a_wideLooks, a_readStates, a_readValues, a_usedRules) := by
  have fin : ∀ A, bl (A 3) 45 = true → sp_in g f n A → (∀ s, s < n → sp_cl g A s) → (∀ s x, s < n → x < 7 → sp_ps g f n A s x) → post (f_depth, f_made, f_textLength, f_tokenCount, f_wrongPlace, f_ruleCount, f_prepared, f_rulesInUse, (nI n), f_wideCount, f_gradeFound, f_readHeight, f_tokensTaken, f_usedCount, a_spotCounts, a_ends, a_arrows, a_takers, a_groups, a_marks, a_text, a_tokenKinds, a_tokenLengths, a_lefts, a_rights, a_rightSizes, a_beginSets, a_followSets, a_nextItems, a_openItems, a_restItems, a_stateItems, a_stateSteps, A, a_wideSteps, a_wideLooks, a_readStates, a_readValues, a_usedRules) := by
    intro A h0 h1 h2 h3
    refine h A (sp_end hf.1 h0 h1 h2 h3 fun k x hx ⟨s, t, q1, q2, q3⟩ => ?_)
    have io := (sp_io hg hf h1 q1 t k q2 q3).1
    rw [← hx.2]
    exact ((tg_ok hg).2.1 _ io.1).2 _ hx.1
  have key : ∀ d q, q + d = 11281 → ∀ (c : Int32) (A : Nat → Int64), bl (A 3) 45 = true → sp_in g f n A → ((c = 0 ∧ (∀ s, s < n → sp_cl g A s) ∧ (∀ s x, s < n → x < 7 → sp_ps g f n A s x)) ∨ (¬ c = 0 ∧ q ≤ sp_c n A)) → wX_spreadLooks_32 post (d + 1) c (nI q) f_depth f_made f_textLength f_tokenCount f_wrongPlace f_ruleCount f_prepared f_rulesInUse (nI n) f_wideCount f_gradeFound f_readHeight f_tokensTaken f_usedCount a_spotCounts a_ends a_arrows a_takers a_groups a_marks a_text a_tokenKinds a_tokenLengths a_lefts a_rights a_rightSizes a_beginSets a_followSets a_nextItems a_openItems a_restItems a_stateItems a_stateSteps A a_wideSteps a_wideLooks a_readStates a_readValues a_usedRules := by
    intro d
    induction d with
    | zero =>
      intro q hq c A h0 h1 h2
      refine br_t (nI_le (a := 11281) (by omega) (by omega)) ?_
      rcases h2 with ⟨_, h2, h3⟩ | ⟨_, h2⟩
      · exact fin A h0 h1 h2 h3
      · have : sp_c n A ≤ 11280 := cn_le _ 11280
        omega
    | succ d ih =>
      intro q hq c A h0 h1 h2
      refine br_f (nI_ge (b := 11281) (by omega) (by decide)) (br_c (fun z => ?_) (fun z => ?_))
      · rcases h2 with ⟨_, h2, h3⟩ | ⟨h2, _⟩
        · exact fin A h0 h1 h2 h3
        · exact absurd z h2
      · have hq' : q ≤ sp_c n A := by
          rcases h2 with ⟨h2, _⟩ | ⟨_, h2⟩
          · exact absurd h2 z
          · exact h2
        refine xw_spreadRound hg hI hn hf hst h1 h0 (fun c2 B b0 b2 b3 => ih (q + 1) (by omega) c2 B b0 b2 ?_)
        rcases b3 with e | ⟨e1, e2⟩
        · exact Or.inl e
        · exact Or.inr ⟨by rw [e1]; decide, by omega⟩
  refine loop_0 (fun fu t A => wX_spreadLooks_2 post fu (nI t) f_depth f_made f_textLength f_tokenCount f_wrongPlace f_ruleCount f_prepared f_rulesInUse (nI n) f_wideCount f_gradeFound f_readHeight f_tokensTaken f_usedCount a_spotCounts a_ends a_arrows a_takers a_groups a_marks a_text a_tokenKinds a_tokenLengths a_lefts a_rights a_rightSizes a_beginSets a_followSets a_nextItems a_openItems a_restItems a_stateItems a_stateSteps A a_wideSteps a_wideLooks a_readStates a_readValues a_usedRules) (fun t A => ∀ s t', s < n → t' < t → A (s * 4 + t') = 0) 4 a_stateLooks (fun s t' _ q => absurd q (Nat.not_lt_zero _)) ?_ ?_
  · intro fu A hA
    refine br_t (nI_le (Nat.le_refl 4) (by decide)) (nm_e ⟨11282, key 11281 0 rfl 1 _ ?_ ?_ (Or.inr ⟨by decide, by omega⟩)⟩)
    · rw [pk_uLs, bl_45]; rfl
    · intro s t k q1 q2 q3
      by_cases e : s * 4 + t = 3
      · have es : s = 0 := by omega
        have et : t = 3 := by omega
        subst es et
        rw [pk_uLs, bl_45, decide_eq_true_eq] at q3
        subst q3
        exact (la_self g f n).1
      · rw [pk_uLn e, hA s t q1 q2] at q3
        exact absurd q3 (bl_no rfl k)
  · intro fu t A ht hA hk
    refine br_f (nI_ge ht (by decide)) (xw_setStateLooks (a_stateLooks := A) hn ht 0 (fun B b1 b2 => nm_r (nI_1 t) (hk B fun s t' q1 q2 => ?_)))
    by_cases e : t' = t
    · subst e
      rw [b1 s q1, bl_zero]
      intro i _
      rw [bl_and, bl_0]; simp
    · rw [b2 s t' (by omega) e]; exact hA s t' q1 (by omega)
end
