/-! the component reads the tokens -/
variable {f_depth f_made f_textLength f_tokenCount f_wrongPlace f_ruleCount f_prepared f_rulesInUse f_stateCount f_wideCount f_gradeFound f_readHeight f_tokensTaken f_usedCount : Int32} {a_spotCounts a_ends a_arrows a_takers a_groups a_marks a_text a_tokenKinds a_tokenLengths a_lefts a_rights a_rightSizes a_beginSets a_followSets a_stateSteps a_wideSteps a_readStates a_readValues a_usedRules : Nat → Int32} {a_nextItems a_openItems a_restItems a_stateItems a_stateLooks a_wideLooks : Nat → Int64}
section
variable {g : rg_T}
theorem lr_pos {V : Type} {G : gr_T} {X : tx_T} {A : al_T V} {lk : lr_K} {nx : lr_N} {c d : lr_C V} (h : lr_st G X A lk nx c d) (hc : c.2 ≤ X.2) : d.2 ≤ X.2 ∧ ∃ q v rest, d.1 = (q, v) :: rest := by
  rcases h with ⟨q, v, rest, q', e, _, hp, hx, rfl⟩ | ⟨q, v, rest, r, pop, q0, v0, base, q', e, hl', _, f2, f3, hx, rfl⟩
  · exact ⟨hp, _, _, _, rfl⟩
  · exact ⟨hc, _, _, _, rfl⟩
theorem xw_follow_wideLooks (hg : rg_ok g) (hG : xg_G g a_lefts a_rights a_rightSizes) {w : Nat → Nat} {c n : Nat} {lk : lr_K} {nx : lr_N} (hc : c ≤ 24) (hw : ∀ i, i < c → a_tokenKinds i = nI (w i) ∧ w i < 3) (hT : xr_T lk nx n a_wideLooks a_wideSteps) (hn4 : n * 4 ≤ 324) (hn7 : n * 7 ≤ 560) (h7 : ∀ k, bl (a_nextItems 7) k = true ↔ (xu_U g (k / 5) ∧ k / 5 < 10) ∧ k % 5 = rg_c g (k / 5))
    (hA : lr_A (tg_G g) (fi_F g) lk nx) (hB : lr_B (tg_G g) lk nx) (hU9 : ∀ q r p t, lk q r p t → us_U g r ∨ r = 9) {post : Int32 → SX → Prop} {H f q2 pos2 : Nat} {v2 : vt_T} {rest2 : List (Nat × vt_T)} (hH : H ≤ 2048) :
    ∀ k x3 pos q v rest S V Us, lr_run (tg_G g) (w, c) (vt_A a_tokenLengths) lk nx H k ((q, v) :: rest, pos) ((q2, v2) :: rest2, pos2) → lr_inv (tg_G g) (w, c) (vt_A a_tokenLengths) nx ((q, v) :: rest, pos) → rest.length < 2048 → xr_S n ((q, v) :: rest) S V → yb_us (vt_us (((q, v) :: rest).map Prod.snd)) Us → x3 + k ≤ 1000000 → (vt_us (((q, v) :: rest).map Prod.snd)).length ≤ x3 → pos ≤ c →
    (∀ S' V' Us', lr_inv (tg_G g) (w, c) (vt_A a_tokenLengths) nx ((q2, v2) :: rest2, pos2) → rest2.length < 2048 → xr_S n ((q2, v2) :: rest2) S' V' → yb_us (vt_us (((q2, v2) :: rest2).map Prod.snd)) Us' → (vt_us (((q2, v2) :: rest2).map Prod.snd)).length ≤ x3 + k → pos2 ≤ c → wX_readTokens__wideLooks_wideSteps_24 post f (nI (x3 + k)) f_depth f_made f_textLength (nI c) f_wrongPlace f_ruleCount f_prepared f_rulesInUse f_stateCount f_wideCount f_gradeFound (nI rest2.length) (nI pos2) (nI (vt_us (((q2, v2) :: rest2).map Prod.snd)).length) a_spotCounts a_ends a_arrows a_takers a_groups a_marks a_text a_tokenKinds a_tokenLengths a_lefts a_rights a_rightSizes a_beginSets a_followSets a_nextItems a_openItems a_restItems a_stateItems a_stateSteps a_stateLooks a_wideSteps a_wideLooks S' V' Us') →
    wX_readTokens__wideLooks_wideSteps_24 post (f + k) (nI x3) f_depth f_made f_textLength (nI c) f_wrongPlace f_ruleCount f_prepared f_rulesInUse f_stateCount f_wideCount f_gradeFound (nI rest.length) (nI pos) (nI (vt_us (((q, v) :: rest).map Prod.snd)).length) a_spotCounts a_ends a_arrows a_takers a_groups a_marks a_text a_tokenKinds a_tokenLengths a_lefts a_rights a_rightSizes a_beginSets a_followSets a_nextItems a_openItems a_restItems a_stateItems a_stateSteps a_stateLooks a_wideSteps a_wideLooks S V Us := by
  have hX : tx_ok (w, c) := fun i hi => (hw i hi).2
  intro k
  induction k with
  | zero =>
    intro x3 pos q v rest S V Us hr hi h1 h2 h3 h4 h5 h6 hk
    have e : ((q, v) :: rest, pos) = ((q2, v2) :: rest2, pos2) := hr
    cases e
    exact hk S V Us hi h1 h2 h3 h5 h6
  | succ k ih =>
    intro x3 pos q v rest S V Us hr hi h1 h2 h3 h4 h5 h6 hk
    obtain ⟨d, st, dl, run⟩ := hr
    obtain ⟨p1, qd, vd, rd, ed⟩ := lr_pos st h6
    obtain ⟨d1, d2⟩ := d
    have ed : d1 = (qd, vd) :: rd := ed
    subst ed
    have p1 : d2 ≤ c := p1
    have dl : rd.length + 1 ≤ H := dl
    refine xw_step_wideLooks (f := f + k) hg hG hc hw hT hn4 hn7 h7 hA hB hU9 hi h1 h2 h3 (by omega) h5 h6 (fun q' v' rest' pos' S' V' Us' a1 a2 a3 a4 a5 a6 => ?_) (fun ha => absurd st (lr_acc_no hA ha)) (fun h0 => ?_)
    · have e := lr_det hA a2 st
      cases e
      refine ih (x3 + 1) d2 qd vd rd S' V' Us' run (lr_keep hX hB hi st) a3 a4 a5 (by omega) a6 p1 (fun S2 V2 Us2 b1 b2 b3 b4 b5 b6 => ?_)
      rw [show x3 + 1 + k = x3 + (k + 1) by omega] at b5 ⊢
      exact hk S2 V2 Us2 b1 b2 b3 b4 b5 b6
    · exfalso
      rcases h0 with h0 | ⟨h0, _⟩
      · omega
      · exact h0 qd vd rd d2 st (by omega)
/-- past the last good token -/
theorem xw_wander_wideLooks (hg : rg_ok g) (hG : xg_G g a_lefts a_rights a_rightSizes) {w : Nat → Nat} {c n : Nat} {lk : lr_K} {nx : lr_N} (hc : c ≤ 24) (hw : ∀ i, i < c → a_tokenKinds i = nI (w i) ∧ w i < 3) (hT : xr_T lk nx n a_wideLooks a_wideSteps) (hn4 : n * 4 ≤ 324) (hn7 : n * 7 ≤ 560) (h7 : ∀ k, bl (a_nextItems 7) k = true ↔ (xu_U g (k / 5) ∧ k / 5 < 10) ∧ k % 5 = rg_c g (k / 5))
    (hA : lr_A (tg_G g) (fi_F g) lk nx) (hB : lr_B (tg_G g) lk nx) (hU9 : ∀ q r p t, lk q r p t → us_U g r ∨ r = 9) {post : Int32 → SX → Prop} {pos : Nat} (hp : rr_n (tg_G g) (w, c) pos) (hD : ¬ dv_D (tg_G g) (w, c) 3 0 c) (h0 : ∀ rh uc S' V' Us', post 0 (f_depth, f_made, f_textLength, (nI c), f_wrongPlace, f_ruleCount, f_prepared, f_rulesInUse, f_stateCount, f_wideCount, f_gradeFound, rh, (nI pos), uc, a_spotCounts, a_ends, a_arrows, a_takers, a_groups, a_marks, a_text, a_tokenKinds, a_tokenLengths, a_lefts, a_rights, a_rightSizes, a_beginSets, a_followSets, a_nextItems, a_openItems, a_restItems, a_stateItems, a_stateSteps, a_stateLooks, a_wideSteps, a_wideLooks, S', V', Us')) :
    ∀ f x3 q v rest S V Us, f + x3 = 1000001 → 1 ≤ f → lr_inv (tg_G g) (w, c) (vt_A a_tokenLengths) nx ((q, v) :: rest, pos) → rest.length < 2048 → xr_S n ((q, v) :: rest) S V → yb_us (vt_us (((q, v) :: rest).map Prod.snd)) Us → (vt_us (((q, v) :: rest).map Prod.snd)).length ≤ x3 →
    wX_readTokens__wideLooks_wideSteps_24 post f (nI x3) f_depth f_made f_textLength (nI c) f_wrongPlace f_ruleCount f_prepared f_rulesInUse f_stateCount f_wideCount f_gradeFound (nI rest.length) (nI pos) (nI (vt_us (((q, v) :: rest).map Prod.snd)).length) a_spotCounts a_ends a_arrows a_takers a_groups a_marks a_text a_tokenKinds a_tokenLengths a_lefts a_rights a_rightSizes a_beginSets a_followSets a_nextItems a_openItems a_restItems a_stateItems a_stateSteps a_stateLooks a_wideSteps a_wideLooks S V Us := by
  have hX : tx_ok (w, c) := fun i hi => (hw i hi).2
  intro f
  induction f with
  | zero => intro x3 q v rest S V Us _ q1; omega
  | succ f ih =>
    intro x3 q v rest S V Us e1 _ hi h1 h2 h3 h5
    refine xw_step_wideLooks (f := f) hg hG hc hw hT hn4 hn7 h7 hA hB hU9 hi h1 h2 h3 (by omega) h5 hp.1 (fun q' v' rest' pos' S' V' Us' a1 a2 a3 a4 a5 a6 => ?_) (fun ha => ?_) (fun _ rh uc S' V' Us' => h0 rh uc S' V' Us')
    · have ki := lr_keep hX hB hi a2
      have ep : pos' = pos := by
        rcases a2 with ⟨_, _, _, _, _, _, pc, _, e⟩ | ⟨_, _, _, _, _, _, _, _, _, _, _, _, _, _, _, e⟩
        · have e := congrArg Prod.snd e
          have e : pos' = pos + 1 := e
          subst e
          exact absurd (ki.2 pos (Nat.lt_succ_self _)) (hp.2.2 pc)
        · exact congrArg Prod.snd e
      subst ep
      exact ih (x3 + 1) q' v' rest' S' V' Us' (by omega) (by omega) ki a3 a4 a5 a6
    · obtain ⟨q1, v1, v0, d, _, z⟩ := lr_end (tg_ok hg) hX hB hi ha
      exact absurd (dv_D_of z) hD
theorem xw_follow_stateLooks (hg : rg_ok g) (hG : xg_G g a_lefts a_rights a_rightSizes) {w : Nat → Nat} {c n : Nat} {lk : lr_K} {nx : lr_N} (hc : c ≤ 24) (hw : ∀ i, i < c → a_tokenKinds i = nI (w i) ∧ w i < 3) (hT : xr_T lk nx n a_stateLooks a_stateSteps) (hn4 : n * 4 ≤ 240) (hn7 : n * 7 ≤ 420) (h7 : ∀ k, bl (a_nextItems 7) k = true ↔ (xu_U g (k / 5) ∧ k / 5 < 10) ∧ k % 5 = rg_c g (k / 5))
    (hA : lr_A (tg_G g) (fi_F g) lk nx) (hB : lr_B (tg_G g) lk nx) (hU9 : ∀ q r p t, lk q r p t → us_U g r ∨ r = 9) {post : Int32 → SX → Prop} {H f q2 pos2 : Nat} {v2 : vt_T} {rest2 : List (Nat × vt_T)} (hH : H ≤ 2048) :
    ∀ k x3 pos q v rest S V Us, lr_run (tg_G g) (w, c) (vt_A a_tokenLengths) lk nx H k ((q, v) :: rest, pos) ((q2, v2) :: rest2, pos2) → lr_inv (tg_G g) (w, c) (vt_A a_tokenLengths) nx ((q, v) :: rest, pos) → rest.length < 2048 → xr_S n ((q, v) :: rest) S V → yb_us (vt_us (((q, v) :: rest).map Prod.snd)) Us → x3 + k ≤ 1000000 → (vt_us (((q, v) :: rest).map Prod.snd)).length ≤ x3 → pos ≤ c →
    (∀ S' V' Us', lr_inv (tg_G g) (w, c) (vt_A a_tokenLengths) nx ((q2, v2) :: rest2, pos2) → rest2.length < 2048 → xr_S n ((q2, v2) :: rest2) S' V' → yb_us (vt_us (((q2, v2) :: rest2).map Prod.snd)) Us' → (vt_us (((q2, v2) :: rest2).map Prod.snd)).length ≤ x3 + k → pos2 ≤ c → wX_readTokens__stateLooks_stateSteps_24 post f (nI (x3 + k)) f_depth f_made f_textLength (nI c) f_wrongPlace f_ruleCount f_prepared f_rulesInUse f_stateCount f_wideCount f_gradeFound (nI rest2.length) (nI pos2) (nI (vt_us (((q2, v2) :: rest2).map Prod.snd)).length) a_spotCounts a_ends a_arrows a_takers a_groups a_marks a_text a_tokenKinds a_tokenLengths a_lefts a_rights a_rightSizes a_beginSets a_followSets a_nextItems a_openItems a_restItems a_stateItems a_stateSteps a_stateLooks a_wideSteps a_wideLooks S' V' Us') →
    wX_readTokens__stateLooks_stateSteps_24 post (f + k) (nI x3) f_depth f_made f_textLength (nI c) f_wrongPlace f_ruleCount f_prepared f_rulesInUse f_stateCount f_wideCount f_gradeFound (nI rest.length) (nI pos) (nI (vt_us (((q, v) :: rest).map Prod.snd)).length) a_spotCounts a_ends a_arrows a_takers a_groups a_marks a_text a_tokenKinds a_tokenLengths a_lefts a_rights a_rightSizes a_beginSets a_followSets a_nextItems a_openItems a_restItems a_stateItems a_stateSteps a_stateLooks a_wideSteps a_wideLooks S V Us := by
  have hX : tx_ok (w, c) := fun i hi => (hw i hi).2
  intro k
  induction k with
  | zero =>
    intro x3 pos q v rest S V Us hr hi h1 h2 h3 h4 h5 h6 hk
    have e : ((q, v) :: rest, pos) = ((q2, v2) :: rest2, pos2) := hr
    cases e
    exact hk S V Us hi h1 h2 h3 h5 h6
  | succ k ih =>
    intro x3 pos q v rest S V Us hr hi h1 h2 h3 h4 h5 h6 hk
    obtain ⟨d, st, dl, run⟩ := hr
    obtain ⟨p1, qd, vd, rd, ed⟩ := lr_pos st h6
    obtain ⟨d1, d2⟩ := d
    have ed : d1 = (qd, vd) :: rd := ed
    subst ed
    have p1 : d2 ≤ c := p1
    have dl : rd.length + 1 ≤ H := dl
    refine xw_step_stateLooks (f := f + k) hg hG hc hw hT hn4 hn7 h7 hA hB hU9 hi h1 h2 h3 (by omega) h5 h6 (fun q' v' rest' pos' S' V' Us' a1 a2 a3 a4 a5 a6 => ?_) (fun ha => absurd st (lr_acc_no hA ha)) (fun h0 => ?_)
    · have e := lr_det hA a2 st
      cases e
      refine ih (x3 + 1) d2 qd vd rd S' V' Us' run (lr_keep hX hB hi st) a3 a4 a5 (by omega) a6 p1 (fun S2 V2 Us2 b1 b2 b3 b4 b5 b6 => ?_)
      rw [show x3 + 1 + k = x3 + (k + 1) by omega] at b5 ⊢
      exact hk S2 V2 Us2 b1 b2 b3 b4 b5 b6
    · exfalso
      rcases h0 with h0 | ⟨h0, _⟩
      · omega
      · exact h0 qd vd rd d2 st (by omega)
/-- past the last good token -/
theorem xw_wander_stateLooks (hg : rg_ok g) (hG : xg_G g a_lefts a_rights a_rightSizes) {w : Nat → Nat} {c n : Nat} {lk : lr_K} {nx : lr_N} (hc : c ≤ 24) (hw : ∀ i, i < c → a_tokenKinds i = nI (w i) ∧ w i < 3) (hT : xr_T lk nx n a_stateLooks a_stateSteps) (hn4 : n * 4 ≤ 240) (hn7 : n * 7 ≤ 420) (h7 : ∀ k, bl (a_nextItems 7) k = true ↔ (xu_U g (k / 5) ∧ k / 5 < 10) ∧ k % 5 = rg_c g (k / 5))
    (hA : lr_A (tg_G g) (fi_F g) lk nx) (hB : lr_B (tg_G g) lk nx) (hU9 : ∀ q r p t, lk q r p t → us_U g r ∨ r = 9) {post : Int32 → SX → Prop} {pos : Nat} (hp : rr_n (tg_G g) (w, c) pos) (hD : ¬ dv_D (tg_G g) (w, c) 3 0 c) (h0 : ∀ rh uc S' V' Us', post 0 (f_depth, f_made, f_textLength, (nI c), f_wrongPlace, f_ruleCount, f_prepared, f_rulesInUse, f_stateCount, f_wideCount, f_gradeFound, rh, (nI pos), uc, a_spotCounts, a_ends, a_arrows, a_takers, a_groups, a_marks, a_text, a_tokenKinds, a_tokenLengths, a_lefts, a_rights, a_rightSizes, a_beginSets, a_followSets, a_nextItems, a_openItems, a_restItems, a_stateItems, a_stateSteps, a_stateLooks, a_wideSteps, a_wideLooks, S', V', Us')) :
    ∀ f x3 q v rest S V Us, f + x3 = 1000001 → 1 ≤ f → lr_inv (tg_G g) (w, c) (vt_A a_tokenLengths) nx ((q, v) :: rest, pos) → rest.length < 2048 → xr_S n ((q, v) :: rest) S V → yb_us (vt_us (((q, v) :: rest).map Prod.snd)) Us → (vt_us (((q, v) :: rest).map Prod.snd)).length ≤ x3 →
    wX_readTokens__stateLooks_stateSteps_24 post f (nI x3) f_depth f_made f_textLength (nI c) f_wrongPlace f_ruleCount f_prepared f_rulesInUse f_stateCount f_wideCount f_gradeFound (nI rest.length) (nI pos) (nI (vt_us (((q, v) :: rest).map Prod.snd)).length) a_spotCounts a_ends a_arrows a_takers a_groups a_marks a_text a_tokenKinds a_tokenLengths a_lefts a_rights a_rightSizes a_beginSets a_followSets a_nextItems a_openItems a_restItems a_stateItems a_stateSteps a_stateLooks a_wideSteps a_wideLooks S V Us := by
  have hX : tx_ok (w, c) := fun i hi => (hw i hi).2
  intro f
  induction f with
  | zero => intro x3 q v rest S V Us _ q1; omega
  | succ f ih =>
    intro x3 q v rest S V Us e1 _ hi h1 h2 h3 h5
    refine xw_step_stateLooks (f := f) hg hG hc hw hT hn4 hn7 h7 hA hB hU9 hi h1 h2 h3 (by omega) h5 hp.1 (fun q' v' rest' pos' S' V' Us' a1 a2 a3 a4 a5 a6 => ?_) (fun ha => ?_) (fun _ rh uc S' V' Us' => h0 rh uc S' V' Us')
    · have ki := lr_keep hX hB hi a2
      have ep : pos' = pos := by
        rcases a2 with ⟨_, _, _, _, _, _, pc, _, e⟩ | ⟨_, _, _, _, _, _, _, _, _, _, _, _, _, _, _, e⟩
        · have e := congrArg Prod.snd e
          have e : pos' = pos + 1 := e
          subst e
          exact absurd (ki.2 pos (Nat.lt_succ_self _)) (hp.2.2 pc)
        · exact congrArg Prod.snd e
      subst ep
      exact ih (x3 + 1) q' v' rest' S' V' Us' (by omega) (by omega) ki a3 a4 a5 a6
    · obtain ⟨q1, v1, v0, d, _, z⟩ := lr_end (tg_ok hg) hX hB hi ha
      exact absurd (dv_D_of z) hD
end
