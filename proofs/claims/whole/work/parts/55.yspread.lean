/-! the reference's looks in the states -/
variable {h_made h_depth h_length h_tokenCount h_wrong h_letterCount h_ruleCount h_makingCount h_usefulRules h_stateCount h_wideCount h_useCount h_result : Int32} {b_ops b_firsts b_seconds b_sizes b_stack b_roots b_text b_ends b_tokenKinds b_tokenSizes b_letters b_begins b_closes b_empties b_nexts b_sets b_leads b_classes b_newClasses b_lefts b_rights b_counts b_making b_firstSets b_followSets b_tasks b_held b_uses b_reach : Nat → Int32} {b_states b_looks b_wides b_work b_met : Nat → Int64}
section
variable {g : rg_T}
theorem tb_no45 (hg : rg_ok g) {S T : Int64} {x : Nat} (hS : tb_io g S) (h : tb_to g S x = some T) : ¬ bl T 45 = true := by
  intro z
  have := (tb_blt hg hS h 45).mp z
  refine this (fun k => k ≠ 45) ?_ ?_ rfl
  · rintro k ⟨i, rfl, h1, h2⟩ e
    have e : i = 44 := by omega
    subst e
    have := h2.1
    have c4 : rg_c g (44 / 5) ≤ 4 := by
      have io := hS 44 h1
      exact ((tg_ok hg).2.1 _ io.1).1
    omega
  · rintro k r _ hU _ e
    have := hU.1
    have := hg.1
    omega
/-- every state but the first is led to -/
theorem tb_led (hg : rg_ok g) {f : Nat → Int64} {n : Nat} (hf : tb_full g f n) {s' : Nat} (hs' : s' < n) : s' = 0 ∨ ∃ s x, s < n ∧ x < 7 ∧ tb_to g (f s) x = some (f s') := by
  have := hf.2.2.2.1 (fun a => (∃ s, s < n ∧ f s = a) ∧ (a = tb_a0 g ∨ ∃ s x, s < n ∧ x < 7 ∧ tb_to g (f s) x = some a)) ⟨⟨0, hf.1, hf.2.1⟩, Or.inl rfl⟩ (fun a x b hx ⟨⟨s, h1, h2⟩, _⟩ hto => ?_) s' hs'
  · rcases this.2 with e | e
    · exact Or.inl (hf.2.2.1 s' 0 hs' hf.1 (by rw [e, hf.2.1]))
    · exact Or.inr e
  · obtain ⟨s1, q1, q2⟩ := hf.2.2.2.2 s x b h1 hx (by rw [h2]; exact hto)
    exact ⟨⟨s1, q1, q2⟩, Or.inr ⟨s, x, h1, hx, by rw [h2]; exact hto⟩⟩
theorem yw_pass (hg : rg_ok g) (hG : xg_G g b_lefts b_rights b_counts) {u : Int32} (hU : yg_U g u) (h4 : xb_4 b_firstSets) (hF : xb_ok g b_firstSets) {f : Nat → Int64} {n s x : Nat} (hn : n ≤ 60) (hf : tb_full g f n) (hst : ∀ i, i < n → b_states i = f i) (hs : s < n) (hx : x < 7) (hA : sp_in g f n b_looks) {post : Int32 → SY → Prop}
    (h0 : ∀ W, sp_ps g f n b_looks s x → (∀ s', s' < n → tb_to g (f s) x = some (f s') → sp_cl g b_looks s') → post 0 (h_made, h_depth, h_length, h_tokenCount, h_wrong, h_letterCount, h_ruleCount, h_makingCount, u, (nI n), h_wideCount, h_useCount, h_result, b_ops, b_firsts, b_seconds, b_sizes, b_stack, b_roots, b_text, b_ends, b_tokenKinds, b_tokenSizes, b_letters, b_begins, b_closes, b_empties, b_nexts, b_sets, b_leads, b_classes, b_newClasses, b_lefts, b_rights, b_counts, b_making, b_firstSets, b_followSets, b_states, b_looks, b_wides, W, b_met, b_tasks, b_held, b_uses, b_reach))
    (h1 : ∀ W B, sp_le n b_looks B → sp_in g f n B → sp_c n b_looks < sp_c n B → (∀ t, t < 4 → B (0 * 4 + t) = b_looks (0 * 4 + t)) → post 1 (h_made, h_depth, h_length, h_tokenCount, h_wrong, h_letterCount, h_ruleCount, h_makingCount, u, (nI n), h_wideCount, h_useCount, h_result, b_ops, b_firsts, b_seconds, b_sizes, b_stack, b_roots, b_text, b_ends, b_tokenKinds, b_tokenSizes, b_letters, b_begins, b_closes, b_empties, b_nexts, b_sets, b_leads, b_classes, b_newClasses, b_lefts, b_rights, b_counts, b_making, b_firstSets, b_followSets, b_states, B, b_wides, W, b_met, b_tasks, b_held, b_uses, b_reach)) : wpY_pass post (h_made, h_depth, h_length, h_tokenCount, h_wrong, h_letterCount, h_ruleCount, h_makingCount, u, (nI n), h_wideCount, h_useCount, h_result, b_ops, b_firsts, b_seconds, b_sizes, b_stack, b_roots, b_text, b_ends, b_tokenKinds, b_tokenSizes, b_letters, b_begins, b_closes, b_empties, b_nexts, b_sets, b_leads, b_classes, b_newClasses, b_lefts, b_rights, b_counts, b_making, b_firstSets, b_followSets, b_states, b_looks, b_wides, b_work, b_met, b_tasks, b_held, b_uses, b_reach) (nI s) (nI x) := by
  have cs : (nI s).toNatClampNeg = s := nI_clamp (by omega)
  have hio := tb_fio hg hf hs
  refine ⟨vp_in_nI (by omega) (by decide), ?_⟩
  rw [cs, hst s hs]
  refine yw_moved hg hG hio hx (fun M hM => br_c (fun z => ?_) (fun z => ?_))
  · have no : tb_to g (f s) x = none := if_neg fun ⟨k, hk⟩ => bl_no z k ((hM k).mpr hk)
    refine h0 b_work (fun s' t k _ q => ?_) (fun s' _ q => ?_)
    · rw [no] at q; cases q
    · rw [no] at q; cases q
  · obtain ⟨k0, hk0⟩ := bl_ne z
    have ioM : tb_io g M := fun i hi => tb_mv_ok hg hio ((hM i).mp hi)
    have eM : (fun i => bl M i = true) = tb_mv g (f s) x := by
      funext i
      exact propext (hM i)
    have sm := tb_ex ((hM k0).mp hk0)
    obtain ⟨s', w0, w1⟩ := hf.2.2.2.2 s x _ hs hx sm
    refine yw_closure hg hG hU ioM ?_
    rw [eM, ← w1]
    rw [← w1] at sm
    refine yw_findState (by omega) (fun s2 q1 q2 => ?_) (fun q => absurd (hst s' w0) (q s' w0))
    have e2 : s2 = s' := hf.2.2.1 s2 s' q1 w0 (by rw [← hst s2 q1]; exact q2)
    subst e2
    have s0 : s2 ≠ 0 := by
      intro e
      refine tb_no45 hg hio sm ?_
      rw [e, hf.2.1]
      exact (tb_bl0 hg 45).mpr (cl_sub rfl)
    -- what is put together
    have ioB := sp_io hg hf hA w0
    have ioA := sp_io hg hf hA hs
    refine loop_0 (fun fu t W => wY_pass_37 post (nI s) (nI x) (nI s2) 0 h_made h_depth h_length h_tokenCount h_wrong h_letterCount h_ruleCount h_makingCount u (nI n) h_wideCount h_useCount h_result fu (nI t) b_ops b_firsts b_seconds b_sizes b_stack b_roots b_text b_ends b_tokenKinds b_tokenSizes b_letters b_begins b_closes b_empties b_nexts b_sets b_leads b_classes b_newClasses b_lefts b_rights b_counts b_making b_firstSets b_followSets b_states b_looks b_wides W b_met b_tasks b_held b_uses b_reach) (fun t W => ∀ t' k, t' < t → (bl (W t') k = true ↔ bl (b_looks (s2 * 4 + t')) k = true ∨ tb_mv g (b_looks (s * 4 + t')) x k)) 4 b_work (fun t' k q => absurd q (Nat.not_lt_zero _)) ?_ ?_
    · intro fu W hW
      have ioW : xo_io g W := by
        intro t k ht hk
        rcases (hW t k ht).mp hk with q | ⟨i, rfl, q1, q2⟩
        · exact ioB t k ht q
        · have p := ioA t i ht q1
          have p2 := im_s hg p.1 q2
          exact ⟨p2.1, p.2.1, fun e => p.2.2 (by rw [← p2.2.1]; exact e)⟩
      have hinW : ∀ t k, xo_S W t k → tw_in g t k := fun t k q => ioW t k q.1 q.2
      refine br_t (nI_le (Nat.le_refl 4) (by decide)) (yw_closeWork (b_work := W) hg hG hU h4 hF ioW (fun C hC => ?_))
      have bC : ∀ t, t < 4 → ∀ k, bl (C t) k = true ↔ cw_0 g (xo_S W) t k := by
        intro t ht k
        rw [hC t ht]
        have := tw_mk hg hinW ht k
        rw [w4_tm ht] at this
        exact this
      have eO : ∀ s3 t, s3 ≠ s2 → t < 4 → ax_set b_looks (s2 * 4) 4 C (s3 * 4 + t) = b_looks (s3 * 4 + t) := fun s3 t hne ht => ax_out (by omega)
      have le : sp_le n b_looks (ax_set b_looks (s2 * 4) 4 C) := by
        intro s3 t k p1 p2 p3
        by_cases e : s3 = s2
        · subst e
          rw [ax_in p2]
          exact (bC t p2 k).mpr (cw_sub ⟨p2, (hW t k p2).mpr (Or.inl p3)⟩)
        · rw [eO s3 t e p2]; exact p3
      have inn : sp_in g f n (ax_set b_looks (s2 * 4) 4 C) := by
        intro s3 t k p1 p2 p3
        by_cases e : s3 = s2
        · subst e
          rw [ax_in p2] at p3
          refine (bC t p2 k).mp p3 (la_L g f n s3) (fun t k q => ?_) ((la_self g f n).2.1 s3 p1)
          rcases (hW t k q.1).mp q.2 with w | ⟨i, rfl, w2, w3⟩
          · exact hA s3 t k p1 q.1 w
          · exact (la_self g f n).2.2 s t i x s3 hs p1 (hA s t i hs q.1 w2) w3 sm
        · rw [eO s3 t e p2] at p3; exact hA s3 t k p1 p2 p3
      -- the store of the four
      refine loop_0 (fun fu t σ => wY_pass_92 post (nI s2) h_made h_depth h_length h_tokenCount h_wrong h_letterCount h_ruleCount h_makingCount u (nI n) h_wideCount h_useCount h_result fu σ.1 (nI t) b_ops b_firsts b_seconds b_sizes b_stack b_roots b_text b_ends b_tokenKinds b_tokenSizes b_letters b_begins b_closes b_empties b_nexts b_sets b_leads b_classes b_newClasses b_lefts b_rights b_counts b_making b_firstSets b_followSets b_states σ.2 b_wides C b_met b_tasks b_held b_uses b_reach) (fun t σ => σ.2 = ax_set b_looks (s2 * 4) t C ∧ ((σ.1 = 0 ∧ ∀ t', t' < t → C t' = b_looks (s2 * 4 + t')) ∨ (σ.1 = 1 ∧ ∃ t', t' < 4 ∧ C t' ≠ b_looks (s2 * 4 + t')))) 4 ((0 : Int32), b_looks) ⟨(ax_0 _ _ _).symm, Or.inl ⟨rfl, fun t' q => absurd q (Nat.not_lt_zero _)⟩⟩ ?_ ?_
      · rintro fu ⟨c, B⟩ ⟨e1, e2⟩
        have e1 : B = ax_set b_looks (s2 * 4) 4 C := e1
        subst e1
        refine br_t (nI_le (Nat.le_refl 4) (by decide)) ?_
        rcases e2 with ⟨c0, e2⟩ | ⟨c1, t, ht, e2⟩
        · have c0 : c = 0 := c0
          subst c0
          have same : ax_set b_looks (s2 * 4) 4 C = b_looks := by
            funext j
            unfold ax_set
            by_cases q : s2 * 4 ≤ j ∧ j < s2 * 4 + 4
            · rw [if_pos q, e2 _ (by omega), show s2 * 4 + (j - s2 * 4) = j by omega]
            · rw [if_neg q]
          refine ⟨nb_0, ?_⟩
          have := h0 C (fun s3 t k p1 p2 p3 p4 p5 => ?_) (fun s3 p1 p2 => ?_)
          · rw [← same] at this
            have same2 : ax_set (ax_set b_looks (s2 * 4) 4 C) (s2 * 4) 4 C = ax_set b_looks (s2 * 4) 4 C := ax_ax _ _ _ _ _
            rw [same] at this ⊢
            exact this
          · have e3 : s3 = s2 := hf.2.2.1 s3 s2 p1 w0 (by rw [sm] at p2; exact (Option.some.inj p2).symm)
            subst e3
            rw [← e2 t p3]
            exact (bC t p3 _).mpr (cw_sub ⟨p3, (hW t _ p3).mpr (Or.inr ⟨k, rfl, p4, p5⟩)⟩)
          · have e3 : s3 = s2 := hf.2.2.1 s3 s2 p1 w0 (by rw [sm] at p2; exact (Option.some.inj p2).symm)
            subst e3
            intro t k r t' q1 q2 q3 q4
            have ht' : t' < 4 := by have := fs_t_le (t := t) (by omega) q4; omega
            rw [← e2 t q1.1] at q1
            exact ⟨ht', by rw [← e2 t' ht']; exact (bC t' ht' _).mpr (cw_self g _ t k r t' ((bC t q1.1 k).mp q1.2) q2 q3 q4)⟩
        · have c1 : c = 1 := c1
          subst c1
          refine ⟨nb_1, h1 C _ le inn ?_ (fun t ht => eO 0 t (fun q => s0 q.symm) ht)⟩
          have : ∃ k, bl (C t) k = true ∧ ¬ bl (b_looks (s2 * 4 + t)) k = true := by
            refine Classical.byContradiction fun q => e2 (bl_ext fun i _ => ?_)
            have up := le s2 t i w0 ht
            rw [ax_in ht] at up
            cases c1 : bl (C t) i
            · cases c2 : bl (b_looks (s2 * 4 + t)) i
              · rfl
              · rw [up c2] at c1; cases c1
            · cases c2 : bl (b_looks (s2 * 4 + t)) i
              · exact absurd ⟨i, c1, by rw [c2]; intro q3; cases q3⟩ q
              · rfl
          obtain ⟨k, p1, p2⟩ := this
          refine sp_lt hn le w0 ht ?_ p2 (by show bl (ax_set b_looks (s2 * 4) 4 C (s2 * 4 + t)) k = true; rw [ax_in ht]; exact p1)
          exact im_lt hg (cw_ok hg hinW ((bC t ht k).mp p1)).1
      · rintro fu t ⟨c, B⟩ ht ⟨e1, e2⟩ hk
        have e1 : B = ax_set b_looks (s2 * 4) t C := e1
        subst e1
        have e2 : (c = 0 ∧ ∀ t', t' < t → C t' = b_looks (s2 * 4 + t')) ∨ (c = 1 ∧ ∃ t', t' < 4 ∧ C t' ≠ b_looks (s2 * 4 + t')) := e2
        have ct : (nI t).toNatClampNeg = t := nI_clamp (by omega)
        have ii : vp_in (4 * nI s2 + nI t) 244 := pk_in (s2 * 4 + t) 244 (by omega) (ix_l4 s2 t)
        have ci : (4 * nI s2 + nI t).toNatClampNeg = s2 * 4 + t := pk_cl (s2 * 4 + t) (ix_l4 s2 t)
        have st : ∀ c' : Int32, ((c' = 0 ∧ ∀ t', t' < t + 1 → C t' = b_looks (s2 * 4 + t')) ∨ (c' = 1 ∧ ∃ t', t' < 4 ∧ C t' ≠ b_looks (s2 * 4 + t'))) → wY_pass_131 post (wY_pass_92 post (nI s2) h_made h_depth h_length h_tokenCount h_wrong h_letterCount h_ruleCount h_makingCount u (nI n) h_wideCount h_useCount h_result fu) (nI s2) (nI t) c' h_made h_depth h_length h_tokenCount h_wrong h_letterCount h_ruleCount h_makingCount u (nI n) h_wideCount h_useCount h_result b_ops b_firsts b_seconds b_sizes b_stack b_roots b_text b_ends b_tokenKinds b_tokenSizes b_letters b_begins b_closes b_empties b_nexts b_sets b_leads b_classes b_newClasses b_lefts b_rights b_counts b_making b_firstSets b_followSets b_states (ax_set b_looks (s2 * 4) t C) b_wides C b_met b_tasks b_held b_uses b_reach := by
          intro c' hc'
          exact ⟨vp_in_nI ht (by decide), ii, nm_r (by rw [ci, ct]; exact ax_sL _ _ _ _) (nm_r (nI_1 t) (hk (c', ax_set b_looks (s2 * 4) (t + 1) C) ⟨rfl, hc'⟩))⟩
        refine br_f (nI_ge ht (by decide)) (br_c (fun q => ⟨vp_in_nI ht (by decide), ii, ?_⟩) (fun q => ?_))
        · have q : c = 0 := q
          rw [ci, ct]
          refine br_c (fun p => st 0 (Or.inl ⟨rfl, fun t' ht' => ?_⟩)) (fun p => st 1 (Or.inr ⟨rfl, t, ht, ?_⟩))
          · have p : C t = ax_set b_looks (s2 * 4) t C (s2 * 4 + t) := p
            rw [ax_out (by omega)] at p
            by_cases e : t' = t
            · subst e; exact p
            · rcases e2 with ⟨_, e2⟩ | ⟨e2, _⟩
              · exact e2 t' (by omega)
              · rw [q] at e2; exact absurd e2 (by decide)
          · intro p2
            apply p
            show C t = ax_set b_looks (s2 * 4) t C (s2 * 4 + t)
            rw [ax_out (by omega)]; exact p2
        · have q : ¬ c = 0 := q
          rcases e2 with ⟨e2, _⟩ | ⟨_, e2⟩
          · exact absurd e2 q
          · exact st 1 (Or.inr ⟨rfl, e2⟩)
    · intro fu t W ht hW hk
      have ct : (nI t).toNatClampNeg = t := nI_clamp (by omega)
      refine br_f (nI_ge ht (by decide)) ⟨pk_in (s2 * 4 + t) 244 (by omega) (ix_l4 s2 t), pk_in (s * 4 + t) 244 (by omega) (ix_l4 s t), ?_⟩
      rw [pk_cl (s2 * 4 + t) (ix_l4 s2 t), pk_cl (s * 4 + t) (ix_l4 s t)]
      have ioS : tb_io g (b_looks (s * 4 + t)) := fun i hi => (ioA t i ht hi).1
      refine yw_moved hg hG ioS hx (fun T hT => ⟨vp_in_nI ht (by decide), nm_r (e' := vp_updL W t (b_looks (s2 * 4 + t) ||| T)) (by rw [ct]) (nm_r (nI_1 t) (hk _ fun t' k ht' => ?_))⟩)
      by_cases e : t' = t
      · subst e; rw [pk_uLs, bl_or, Bool.or_eq_true, hT k]
      · rw [pk_uLn e]; exact hW t' k (by omega)
/-- one round -/
def yp_I (g : rg_T) (f : Nat → Int64) (n : Nat) (A : Nat → Int64) (m : Nat) (σ : Int32 × (Nat → Int64)) : Prop := sp_le n A σ.2 ∧ sp_in g f n σ.2 ∧ bl (σ.2 3) 45 = true ∧ sp_cl g σ.2 0 ∧ ((σ.1 = 0 ∧ σ.2 = A ∧ ∀ m', m' < m → sp_ps g f n A (m' / 7) (m' % 7) ∧ ∀ s', s' < n → tb_to g (f (m' / 7)) (m' % 7) = some (f s') → sp_cl g A s') ∨ (σ.1 = 1 ∧ sp_c n A < sp_c n σ.2))
theorem yp_I0 {f : Nat → Int64} {n : Nat} {A : Nat → Int64} (hA : sp_in g f n A) (h0 : bl (A 3) 45 = true) (hc : sp_cl g A 0) : yp_I g f n A 0 ((0 : Int32), A) := ⟨fun _ _ _ _ _ z => z, hA, h0, hc, Or.inl ⟨rfl, rfl, fun m' q => absurd q (Nat.not_lt_zero _)⟩⟩
theorem sp_cl0 {A B : Nat → Int64} {s : Nat} (e : ∀ t, t < 4 → B (s * 4 + t) = A (s * 4 + t)) (h : sp_cl g A s) : sp_cl g B s := by
  intro t k r t' q1 q2 q3 q4
  rw [e t q1.1] at q1
  have := h t k r t' q1 q2 q3 q4
  exact ⟨this.1, by rw [e t' this.1]; exact this.2⟩
theorem yw_round (hg : rg_ok g) (hG : xg_G g b_lefts b_rights b_counts) {u : Int32} (hU : yg_U g u) (h4 : xb_4 b_firstSets) (hF : xb_ok g b_firstSets) {f : Nat → Int64} {n : Nat} (hn : n ≤ 60) (hf : tb_full g f n) (hst : ∀ i, i < n → b_states i = f i) {A W : Nat → Int64} (hA : sp_in g f n A) (h0 : bl (A 3) 45 = true) (hc : sp_cl g A 0) {post : SY → Prop} {J : Int32 → Int32 → Int32 → Int32 → Int32 → Int32 → Int32 → Int32 → Int32 → Int32 → Int32 → Int32 → Int32 → Int32 → (Nat → Int32) → (Nat → Int32) → (Nat → Int32) → (Nat → Int32) → (Nat → Int32) → (Nat → Int32) → (Nat → Int32) → (Nat → Int32) → (Nat → Int32) → (Nat → Int32) → (Nat → Int32) → (Nat → Int32) → (Nat → Int32) → (Nat → Int32) → (Nat → Int32) → (Nat → Int32) → (Nat → Int32) → (Nat → Int32) → (Nat → Int32) → (Nat → Int32) → (Nat → Int32) → (Nat → Int32) → (Nat → Int32) → (Nat → Int32) → (Nat → Int32) → (Nat → Int64) → (Nat → Int64) → (Nat → Int64) → (Nat → Int64) → (Nat → Int64) → (Nat → Int32) → (Nat → Int32) → (Nat → Int32) → (Nat → Int32) → Prop}
    (hJ : ∀ c B W, yp_I g f n A (n * 7) (c, B) → J c h_made h_depth h_length h_tokenCount h_wrong h_letterCount h_ruleCount h_makingCount u (nI n) h_wideCount h_useCount h_result b_ops b_firsts b_seconds b_sizes b_stack b_roots b_text b_ends b_tokenKinds b_tokenSizes b_letters b_begins b_closes b_empties b_nexts b_sets b_leads b_classes b_newClasses b_lefts b_rights b_counts b_making b_firstSets b_followSets b_states B b_wides W b_met b_tasks b_held b_uses b_reach) : ∃ fu, wY_findLooks_95 post J fu 0 0 h_made h_depth h_length h_tokenCount h_wrong h_letterCount h_ruleCount h_makingCount u (nI n) h_wideCount h_useCount h_result b_ops b_firsts b_seconds b_sizes b_stack b_roots b_text b_ends b_tokenKinds b_tokenSizes b_letters b_begins b_closes b_empties b_nexts b_sets b_leads b_classes b_newClasses b_lefts b_rights b_counts b_making b_firstSets b_followSets b_states A b_wides W b_met b_tasks b_held b_uses b_reach := by
  refine loop_0 (fun fu m σ => wY_findLooks_95 post J fu σ.1.1 (nI m) h_made h_depth h_length h_tokenCount h_wrong h_letterCount h_ruleCount h_makingCount u (nI n) h_wideCount h_useCount h_result b_ops b_firsts b_seconds b_sizes b_stack b_roots b_text b_ends b_tokenKinds b_tokenSizes b_letters b_begins b_closes b_empties b_nexts b_sets b_leads b_classes b_newClasses b_lefts b_rights b_counts b_making b_firstSets b_followSets b_states σ.1.2 b_wides σ.2 b_met b_tasks b_held b_uses b_reach) (fun m σ => yp_I g f n A m σ.1) (n * 7) (((0 : Int32), A), W) (yp_I0 hA h0 hc) ?_ ?_
  · rintro fu ⟨⟨c, B⟩, W⟩ hs
    refine br_t ?_ (hJ c B W hs)
    rw [show (7 : Int32) * nI n = nI (n * 7) by rw [Nat.mul_comm]; exact pk_mul 7 n]
    exact nI_le (Nat.le_refl _) (by omega)
  · rintro fu m ⟨⟨c, B⟩, W⟩ hm ⟨s1, s2, s3, s4, s5⟩ hk
    have s1 : sp_le n A B := s1
    have s2 : sp_in g f n B := s2
    have s3 : bl (B 3) 45 = true := s3
    have s4 : sp_cl g B 0 := s4
    have s5 : (c = 0 ∧ B = A ∧ ∀ m', m' < m → sp_ps g f n A (m' / 7) (m' % 7) ∧ ∀ s', s' < n → tb_to g (f (m' / 7)) (m' % 7) = some (f s') → sp_cl g A s') ∨ (c = 1 ∧ sp_c n A < sp_c n B) := s5
    have d1 : nI m / 7 = nI (m / 7) := pk_div (d := 7) (by omega) (by decide) (by decide)
    have d2 : nI m - nI m / 7 * 7 = nI (m % 7) := pk_rem (d := 7) (by omega) (by decide) (by decide)
    refine br_f ?_ ⟨by decide, by decide, ?_⟩
    · rw [show (7 : Int32) * nI n = nI (n * 7) by rw [Nat.mul_comm]; exact pk_mul 7 n]
      exact nI_ge hm (by omega)
    rw [d2, d1]
    refine yw_pass (b_looks := B) (b_work := W) hg hG hU h4 hF hn hf hst (by omega) (Nat.mod_lt _ (by omega)) s2 (fun W' p1 p2 => br_t rfl ?_) (fun W' D d1 d2 d3 d4 => br_f (by decide) (nm_r (nI_1 m) (hk ((1, D), W') ⟨fun s t k q1 q2 q3 => d1 s t k q1 q2 (s1 s t k q1 q2 q3), d2, d1 0 3 45 hf.1 (by omega) s3, sp_cl0 d4 s4, Or.inr ⟨rfl, ?_⟩⟩)))
    · have go : ∀ c' : Int32, c' = c → wY_findLooks_95 post J fu c' (nI (m + 1)) h_made h_depth h_length h_tokenCount h_wrong h_letterCount h_ruleCount h_makingCount u (nI n) h_wideCount h_useCount h_result b_ops b_firsts b_seconds b_sizes b_stack b_roots b_text b_ends b_tokenKinds b_tokenSizes b_letters b_begins b_closes b_empties b_nexts b_sets b_leads b_classes b_newClasses b_lefts b_rights b_counts b_making b_firstSets b_followSets b_states B b_wides W' b_met b_tasks b_held b_uses b_reach := by
        rintro c' rfl
        refine hk ((c', B), W') ⟨s1, s2, s3, s4, ?_⟩
        rcases s5 with ⟨e1, e2, e3⟩ | e
        · refine Or.inl ⟨e1, e2, fun m' hm' => ?_⟩
          by_cases e : m' = m
          · subst e; rw [← e2]; exact ⟨p1, p2⟩
          · exact e3 m' (by omega)
        · exact Or.inr e
      rcases s5 with ⟨e1, _⟩ | ⟨e1, _⟩
      · exact br_t e1 (nm_r (nI_1 m) (go 0 e1.symm))
      · exact br_f (by show ¬ c = 0; rw [e1]; decide) (nm_r (nI_1 m) (go 1 e1.symm))
    · have := sp_mono s1
      show sp_c n A < sp_c n D
      omega
theorem yw_findLooks (hg : rg_ok g) (hG : xg_G g b_lefts b_rights b_counts) {u : Int32} (hU : yg_U g u) (h4 : xb_4 b_firstSets) (hF : xb_ok g b_firstSets) {f : Nat → Int64} {n : Nat} (hn : n ≤ 60) (hf : tb_full g f n) (hst : ∀ i, i < n → b_states i = f i) {post : SY → Prop} (h : ∀ A W, sp_ok g f n A → post (h_made, h_depth, h_length, h_tokenCount, h_wrong, h_letterCount, h_ruleCount, h_makingCount, u, (nI n), h_wideCount, h_useCount, h_result, b_ops, b_firsts, b_seconds, b_sizes, b_stack, b_roots, b_text, b_ends, b_tokenKinds, b_tokenSizes, b_letters, b_begins, b_closes, b_empties, b_nexts, b_sets, b_leads, b_classes, b_newClasses, b_lefts, b_rights, b_counts, b_making, b_firstSets, b_followSets, b_states, A, b_wides, W, b_met, b_tasks, b_held, b_uses, b_reach)) : wpY_findLooks post (h_made, h_depth, h_length, h_tokenCount, h_wrong, h_letterCount, h_ruleCount, h_makingCount, u, (nI n), h_wideCount, h_useCount, h_result, b_ops, b_firsts, b_seconds, b_sizes, b_stack, b_roots, b_text, b_ends, b_tokenKinds, b_tokenSizes, b_letters, b_begins, b_closes, b_empties, b_nexts, b_sets, b_leads, b_classes, b_newClasses, b_lefts, b_rights, b_counts, b_making, b_firstSets, b_followSets, b_states, b_looks, b_wides, b_work, b_met, b_tasks, b_held, b_uses, b_reach) := by
  have key : ∀ d q, q + d = 11282 → ∀ (c : Int32) (A W : Nat → Int64), bl (A 3) 45 = true → sp_in g f n A → sp_cl g A 0 → ((c = 0 ∧ (∀ s, s < n → sp_cl g A s) ∧ (∀ s x, s < n → x < 7 → sp_ps g f n A s x)) ∨ (¬ c = 0 ∧ q ≤ sp_c n A)) → wY_findLooks_87 post (d + 1) c h_made h_depth h_length h_tokenCount h_wrong h_letterCount h_ruleCount h_makingCount u (nI n) h_wideCount h_useCount h_result b_ops b_firsts b_seconds b_sizes b_stack b_roots b_text b_ends b_tokenKinds b_tokenSizes b_letters b_begins b_closes b_empties b_nexts b_sets b_leads b_classes b_newClasses b_lefts b_rights b_counts b_making b_firstSets b_followSets b_states A b_wides W b_met b_tasks b_held b_uses b_reach := by
    have fin : ∀ A W, bl (A 3) 45 = true → sp_in g f n A → (∀ s, s < n → sp_cl g A s) → (∀ s x, s < n → x < 7 → sp_ps g f n A s x) → post (h_made, h_depth, h_length, h_tokenCount, h_wrong, h_letterCount, h_ruleCount, h_makingCount, u, (nI n), h_wideCount, h_useCount, h_result, b_ops, b_firsts, b_seconds, b_sizes, b_stack, b_roots, b_text, b_ends, b_tokenKinds, b_tokenSizes, b_letters, b_begins, b_closes, b_empties, b_nexts, b_sets, b_leads, b_classes, b_newClasses, b_lefts, b_rights, b_counts, b_making, b_firstSets, b_followSets, b_states, A, b_wides, W, b_met, b_tasks, b_held, b_uses, b_reach) := by
      intro A W h0 h1 h2 h3
      refine h A W (sp_end hf.1 h0 h1 h2 h3 fun k x hx ⟨s, t, q1, q2, q3⟩ => ?_)
      have io := (sp_io hg hf h1 q1 t k q2 q3).1
      rw [← hx.2]
      exact ((tg_ok hg).2.1 _ io.1).2 _ hx.1
    intro d
    induction d with
    | zero =>
      intro q hq c A W h0 h1 h2 h3
      rcases h3 with ⟨e, h3, h5⟩ | ⟨_, h3⟩
      · exact br_t e (fin A W h0 h1 h3 h5)
      · have : sp_c n A ≤ 11280 := cn_le _ 11280
        omega
    | succ d ih =>
      intro q hq c A W h0 h1 h2 h3
      rcases h3 with ⟨e, h3, h5⟩ | ⟨e, h3⟩
      · exact br_t e (fin A W h0 h1 h3 h5)
      · refine br_f e (yw_round hg hG hU h4 hF hn hf hst h1 h0 h2 (fun c2 B W2 hI => ?_))
        obtain ⟨s1, s2, s3, s4, s5⟩ := hI
        refine ih (q + 1) (by omega) c2 B W2 s3 s2 s4 ?_
        rcases s5 with ⟨e1, e2, e3⟩ | ⟨e1, e2⟩
        · have e2 : B = A := e2
          subst e2
          have at1 : ∀ s x, s < n → x < 7 → sp_ps g f n B s x ∧ ∀ s', s' < n → tb_to g (f s) x = some (f s') → sp_cl g B s' := by
            intro s x hs hx
            have := e3 (s * 7 + x) (by omega)
            rw [show (s * 7 + x) / 7 = s by omega, show (s * 7 + x) % 7 = x by omega] at this
            exact this
          refine Or.inl ⟨e1, fun s hs => ?_, fun s x hs hx => (at1 s x hs hx).1⟩
          rcases tb_led hg hf hs with rfl | ⟨s1, x, p1, p2, p3⟩
          · exact h2
          · exact (at1 s1 x p1 p2).2 s hs p3
        · have e1 : c2 = 1 := e1
          have e2 : sp_c n A < sp_c n B := e2
          exact Or.inr ⟨by rw [e1]; decide, by omega⟩
  refine loop_0 (fun fu i A => wY_findLooks_2 post h_made h_depth h_length h_tokenCount h_wrong h_letterCount h_ruleCount h_makingCount u (nI n) h_wideCount h_useCount h_result fu (nI i) b_ops b_firsts b_seconds b_sizes b_stack b_roots b_text b_ends b_tokenKinds b_tokenSizes b_letters b_begins b_closes b_empties b_nexts b_sets b_leads b_classes b_newClasses b_lefts b_rights b_counts b_making b_firstSets b_followSets b_states A b_wides b_work b_met b_tasks b_held b_uses b_reach) (fun i A => ∀ j, j < i → A j = 0) (n * 4) b_looks (fun j q => absurd q (Nat.not_lt_zero _)) ?_ ?_
  · intro fu A hA
    refine br_t (by rw [show (4 : Int32) * nI n = nI (n * 4) by rw [Nat.mul_comm]; exact pk_mul 4 n]; exact nI_le (Nat.le_refl _) (by omega)) ?_
    refine loop_0 (fun fu t s => wY_findLooks_27 post h_made h_depth h_length h_tokenCount h_wrong h_letterCount h_ruleCount h_makingCount u (nI n) h_wideCount h_useCount h_result fu (nI t) b_ops b_firsts b_seconds b_sizes b_stack b_roots b_text b_ends b_tokenKinds b_tokenSizes b_letters b_begins b_closes b_empties b_nexts b_sets b_leads b_classes b_newClasses b_lefts b_rights b_counts b_making b_firstSets b_followSets b_states A b_wides s b_met b_tasks b_held b_uses b_reach) (fun t s => ∀ t', t' < t → ∀ k, bl (s t') k = true ↔ t' = 3 ∧ k = 45) 4 b_work (fun t' z => absurd z (Nat.not_lt_zero _)) ?_ ?_
    · intro fu s hs
      have eS : xo_S s = fun t k => t = 3 ∧ k = 45 := by
        funext t k
        exact propext ⟨fun z => (hs t z.1 k).mp z.2, fun z => ⟨by omega, (hs t (by omega) k).mpr z⟩⟩
      have io0 : xo_io g s := fun t k ht hk => tw_45 t k ((hs t ht k).mp hk)
      refine br_t (nI_le (Nat.le_refl 4) (by decide)) (yw_closeWork (b_work := s) hg hG hU h4 hF io0 (fun C hC => ?_))
      rw [eS] at hC
      have bC : ∀ t, t < 4 → ∀ k, bl (C t) k = true ↔ cw_0 g (fun t k => t = 3 ∧ k = 45) t k := by
        intro t ht k
        rw [hC t ht]
        have := tw_mk hg tw_45 ht k
        rw [w4_tm ht] at this
        exact this
      refine loop_0 (fun fu t B => wY_findLooks_62 post h_made h_depth h_length h_tokenCount h_wrong h_letterCount h_ruleCount h_makingCount u (nI n) h_wideCount h_useCount h_result fu (nI t) b_ops b_firsts b_seconds b_sizes b_stack b_roots b_text b_ends b_tokenKinds b_tokenSizes b_letters b_begins b_closes b_empties b_nexts b_sets b_leads b_classes b_newClasses b_lefts b_rights b_counts b_making b_firstSets b_followSets b_states B b_wides C b_met b_tasks b_held b_uses b_reach) (fun t B => B = ax_set A 0 t C) 4 A (ax_0 _ _ _).symm ?_ ?_
      · rintro fu B rfl
        have at0 : ∀ t, t < 4 → ax_set A 0 4 C (0 * 4 + t) = C t := fun t ht => by
          have := ax_in (a := A) (b := 0) (n := 4) (j := t) (v := C) ht
          rw [Nat.zero_mul]; exact this
        refine br_t (nI_le (Nat.le_refl 4) (by decide)) ⟨11283, key 11282 0 rfl 1 _ C ?_ ?_ ?_ (Or.inr ⟨by decide, by omega⟩)⟩
        · have := at0 3 (by omega)
          rw [show (3 : Nat) = 0 * 4 + 3 from rfl, this]
          exact (bC 3 (by omega) 45).mpr (cw_sub ⟨rfl, rfl⟩)
        · intro s2 t k q1 q2 q3
          by_cases e : s2 = 0
          · subst e
            rw [at0 t q2] at q3
            refine (bC t q2 k).mp q3 (la_L g f n 0) (fun t k p => ?_) ((la_self g f n).2.1 0 hf.1)
            obtain ⟨rfl, rfl⟩ := p
            exact (la_self g f n).1
          · rw [ax_out (by omega), hA _ (by omega)] at q3
            exact absurd q3 (bl_no rfl k)
        · intro t k r t' q1 q2 q3 q4
          have ht' : t' < 4 := by have := fs_t_le (t := t) (by omega) q4; omega
          rw [at0 t q1.1] at q1
          exact ⟨ht', by rw [at0 t' ht']; exact (bC t' ht' _).mpr (cw_self g _ t k r t' ((bC t q1.1 k).mp q1.2) q2 q3 q4)⟩
      · rintro fu t B ht rfl hk
        have ct : (nI t).toNatClampNeg = t := nI_clamp (by omega)
        refine br_f (nI_ge ht (by decide)) ⟨vp_in_nI ht (by decide), vp_in_nI (by omega) (by decide), nm_r ?_ (nm_r (nI_1 t) (hk _ rfl))⟩
        rw [ct]
        have := ax_sL A 0 t C
        rw [Nat.zero_add] at this
        exact this
    · intro fu t s ht hs hk
      have ct : (nI t).toNatClampNeg = t := nI_clamp (by omega)
      refine br_f (nI_ge ht (by decide)) (pk_eq t 3 (fun z => ?_) (fun z => ?_))
      · refine ⟨vp_in_nI (by omega) (by decide), nm_r (by rw [ct]) (nm_r (nI_1 t) (hk _ fun t' ht' k => ?_))⟩
        by_cases e : t' = t
        · subst e; rw [pk_uLs, bl_45, decide_eq_true_eq]; exact ⟨fun y => ⟨z, y⟩, fun y => y.2⟩
        · rw [pk_uLn e]; exact hs t' (by omega) k
      · refine ⟨vp_in_nI (by omega) (by decide), nm_r (by rw [ct]) (nm_r (nI_1 t) (hk _ fun t' ht' k => ?_))⟩
        by_cases e : t' = t
        · subst e; rw [pk_uLs, bl_0]; exact ⟨(fun y => by cases y), fun y => absurd y.1 z⟩
        · rw [pk_uLn e]; exact hs t' (by omega) k
  · intro fu i A hi hA hk
    refine br_f (by rw [show (4 : Int32) * nI n = nI (n * 4) by rw [Nat.mul_comm]; exact pk_mul 4 n]; exact nI_ge hi (by omega)) ⟨vp_in_nI (by omega) (by decide), nm_r (by rw [nI_clamp (by omega)]) (nm_r (nI_1 i) (hk _ fun v hv => ?_))⟩
    by_cases e : v = i
    · subst e; exact pk_uLs
    · rw [pk_uLn e]; exact hA v (by omega)
end
