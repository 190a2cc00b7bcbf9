/-! the answers about a text, and the reference's calls that give them -/
def an_F (g : rg_T) (kd : Nat → gk_T) (t : Nat → Nat) (n : Nat) : Prop := ∃ r c, yg_R g r ∧ ct_C kd t n c ∧ rd_g r ∧ ct_w kd t n c = -4 ∧ dv_D (tg_G g) (tk_w kd t n, c) 3 0 c
theorem an_no {g : rg_T} {kd : Nat → gk_T} {t : Nat → Nat} {n c : Nat} {r : Int32} (h1 : yg_R g r) (h2 : ct_C kd t n c) (h : ¬ (rd_g r ∧ ct_w kd t n c = -4 ∧ dv_D (tg_G g) (tk_w kd t n, c) 3 0 c)) : ¬ an_F g kd t n := by
  rintro ⟨r', c', a, b, d⟩
  have e1 := yg_one h1 a
  have e2 := ct_C_one h2 b
  subst e1 e2
  exact h d
def an_T (g : rg_T) (kd : Nat → gk_T) (t : Nat → Nat) (n : Nat) (v : vt_T) : Prop := ∃ r c d, yg_R g r ∧ ct_C kd t n c ∧ rd_g r ∧ ct_w kd t n c = -4 ∧ dv_tr (tg_G g) (tk_w kd t n, c) (vt_A (tk_l kd t n)) d 3 0 c v
theorem an_TF {g : rg_T} {kd : Nat → gk_T} {t : Nat → Nat} {n : Nat} {v : vt_T} (h : an_T g kd t n v) : an_F g kd t n := by
  obtain ⟨r, c, d, a1, a2, a3, a4, a5⟩ := h
  exact ⟨r, c, a1, a2, a3, a4, dv_D_of a5⟩
theorem an_T1 {g : rg_T} (hg : rg_ok g) {kd : Nat → gk_T} {t : Nat → Nat} {n : Nat} {v v' : vt_T} (h : an_T g kd t n v) (h' : an_T g kd t n v') : v = v' := by
  obtain ⟨r, c, d, a1, a2, a3, a4, a5⟩ := h
  obtain ⟨r', c', d', b1, b2, b3, b4, b5⟩ := h'
  have e2 := ct_C_one a2 b2
  subst e2
  exact rd_one hg a1 a3 (X := (tk_w kd t n, c)) (fun i _ => ct_k3 _) _ _ _ _ _ a5 b5
def an_reads (g : rg_T) (kd : Nat → gk_T) (t : Nat → Nat) (n : Nat) (r : Int32) : Prop := (an_F g kd t n ∧ r = 1) ∨ (¬ an_F g kd t n ∧ r = 0)
def an_stops (g : rg_T) (kd : Nat → gk_T) (t : Nat → Nat) (n : Nat) (r : Int32) : Prop := (∃ q c m, yg_R g q ∧ ct_C kd t n c ∧ rd_g q ∧ rr_n (tg_G g) (tk_w kd t n, c) m ∧ r = nI m) ∨ (∃ q, yg_R g q ∧ ¬ rd_g q ∧ r = -4)
def an_uses (g : rg_T) (kd : Nat → gk_T) (t : Nat → Nat) (n : Nat) (r : Int32) : Prop := (∃ v, an_T g kd t n v ∧ r = nI v.1.length) ∨ (¬ an_F g kd t n ∧ r = -4)
def an_u (v : vt_T) (p r : Int32) : Prop := ((p < 0 ∨ nI v.1.length ≤ p ∨ 200 ≤ p) ∧ r = -4) ∨ (¬ p < 0 ∧ ¬ nI v.1.length ≤ p ∧ ¬ 200 ≤ p ∧ ∃ x, v.1[p.toNatClampNeg]? = some x ∧ r = nI x)
def an_used (g : rg_T) (kd : Nat → gk_T) (t : Nat → Nat) (n : Nat) (p r : Int32) : Prop := (∃ v, an_T g kd t n v ∧ an_u v p r) ∨ (¬ an_F g kd t n ∧ r = -4)
def an_value (g : rg_T) (kd : Nat → gk_T) (t : Nat → Nat) (n : Nat) (r : Int32) : Prop := (∃ v, an_T g kd t n v ∧ r = v.2.1) ∨ (¬ an_F g kd t n ∧ r = 0)
theorem an_reads1 {g : rg_T} {kd : Nat → gk_T} {t : Nat → Nat} {n : Nat} {r r' : Int32} (h : an_reads g kd t n r) (h' : an_reads g kd t n r') : r = r' := by
  rcases h with ⟨a, rfl⟩ | ⟨a, rfl⟩ <;> rcases h' with ⟨b, rfl⟩ | ⟨b, rfl⟩
  · rfl
  · exact absurd a b
  · exact absurd b a
  · rfl
theorem an_stops1 {g : rg_T} {kd : Nat → gk_T} {t : Nat → Nat} {n : Nat} {r r' : Int32} (h : an_stops g kd t n r) (h' : an_stops g kd t n r') : r = r' := by
  rcases h with ⟨q, c, m, a1, a2, a3, a4, rfl⟩ | ⟨q, a1, a2, rfl⟩ <;> rcases h' with ⟨q', c', m', b1, b2, b3, b4, rfl⟩ | ⟨q', b1, b2, rfl⟩
  · have e := ct_C_one a2 b2
    subst e
    rw [rr_one a4 b4]
  · have e := yg_one a1 b1
    subst e
    exact absurd a3 b2
  · have e := yg_one a1 b1
    subst e
    exact absurd b3 a2
  · rfl
theorem an_uses1 {g : rg_T} (hg : rg_ok g) {kd : Nat → gk_T} {t : Nat → Nat} {n : Nat} {r r' : Int32} (h : an_uses g kd t n r) (h' : an_uses g kd t n r') : r = r' := by
  rcases h with ⟨v, a, rfl⟩ | ⟨a, rfl⟩ <;> rcases h' with ⟨v', b, rfl⟩ | ⟨b, rfl⟩
  · rw [an_T1 hg a b]
  · exact absurd (an_TF a) b
  · exact absurd (an_TF b) a
  · rfl
theorem an_value1 {g : rg_T} (hg : rg_ok g) {kd : Nat → gk_T} {t : Nat → Nat} {n : Nat} {r r' : Int32} (h : an_value g kd t n r) (h' : an_value g kd t n r') : r = r' := by
  rcases h with ⟨v, a, rfl⟩ | ⟨a, rfl⟩ <;> rcases h' with ⟨v', b, rfl⟩ | ⟨b, rfl⟩
  · rw [an_T1 hg a b]
  · exact absurd (an_TF a) b
  · exact absurd (an_TF b) a
  · rfl
theorem an_u1 {v : vt_T} {p r r' : Int32} (h : an_u v p r) (h' : an_u v p r') : r = r' := by
  rcases h with ⟨a, rfl⟩ | ⟨a1, a2, a3, x, a4, rfl⟩ <;> rcases h' with ⟨b, rfl⟩ | ⟨b1, b2, b3, y, b4, rfl⟩
  · rfl
  · rcases a with a | a | a
    · exact absurd a b1
    · exact absurd a b2
    · exact absurd a b3
  · rcases b with b | b | b
    · exact absurd b a1
    · exact absurd b a2
    · exact absurd b a3
  · rw [Option.some.inj (a4.symm.trans b4)]
theorem an_used1 {g : rg_T} (hg : rg_ok g) {kd : Nat → gk_T} {t : Nat → Nat} {n : Nat} {p r r' : Int32} (h : an_used g kd t n p r) (h' : an_used g kd t n p r') : r = r' := by
  rcases h with ⟨v, a, c⟩ | ⟨a, rfl⟩ <;> rcases h' with ⟨v', b, d⟩ | ⟨b, rfl⟩
  · have e := an_T1 hg a b
    subst e
    exact an_u1 c d
  · exact absurd (an_TF a) b
  · exact absurd (an_TF b) a
  · rfl
/-- a rule that was used, out of what was kept -/
theorem an_ui {v : vt_T} {Us : Nat → Int32} (hv : v.1.length ≤ 98389) (h : yb_us v.1 Us) {p : Int32} (h1 : ¬ p < 0) (h2 : ¬ nI v.1.length ≤ p) (h3 : ¬ 200 ≤ p) : vp_in p 200 ∧ an_u v p (Us p.toNatClampNeg) := by
  obtain ⟨q, hq, rfl⟩ := nI_of h1
  have h3 : ¬ nI 200 ≤ nI q := h3
  rw [nI_leI (by decide) hq] at h3
  have h2' := h2
  rw [nI_leI (by omega) hq] at h2
  refine ⟨vp_in_nI (by omega) (by decide), Or.inr ⟨h1, h2', by show ¬ nI 200 ≤ nI q; rw [nI_leI (by decide) hq]; exact h3, ?_⟩⟩
  rw [nI_clamp hq]
  have e := List.getElem?_eq_getElem (l := v.1) (i := q) (by omega)
  exact ⟨_, e, h q _ e (by omega)⟩
variable {h_made h_depth h_length h_tokenCount h_wrong h_letterCount h_ruleCount h_makingCount h_usefulRules h_stateCount h_wideCount h_useCount h_result : Int32} {b_ops b_firsts b_seconds b_sizes b_stack b_roots b_text b_ends b_tokenKinds b_tokenSizes b_letters b_begins b_closes b_empties b_nexts b_sets b_leads b_classes b_newClasses b_lefts b_rights b_counts b_making b_firstSets b_followSets b_tasks b_held b_uses b_reach : Nat → Int32} {b_states b_looks b_wides b_work b_met : Nat → Int64}
section
variable {g : rg_T}
theorem yw_reads (hg : rg_ok g) (hG : xg_G g b_lefts b_rights b_counts) (hl : ∀ r, r < 9 → ∃ v, v < 7 ∧ b_lefts r = nI v) {m n : Nat} {ga : Nat → gk_T} {lo op fi se : Nat → Nat} {t : Nat → Nat} {kd : Nat → gk_T} (hN : yn_N m ga lo op fi se b_ops b_firsts b_seconds b_sizes) (hm : m ≤ 60) (hn : n ≤ 24) (ht : ∀ i, i < n → b_text i = nI (t i) ∧ t i < 3) (hR : yn_R m ga b_roots kd) {post : Int32 → SY → Prop}
    (h : ∀ r tc wr u sc wc uc rs e K S fs fo st ls wi wo M T H Us R, an_reads g kd t n r → post r ((nI m), h_depth, (nI n), tc, wr, h_letterCount, (nI (rg_n g)), h_makingCount, u, sc, wc, uc, rs, b_ops, b_firsts, b_seconds, b_sizes, b_stack, b_roots, b_text, e, K, S, b_letters, b_begins, b_closes, b_empties, b_nexts, b_sets, b_leads, b_classes, b_newClasses, b_lefts, b_rights, b_counts, b_making, fs, fo, st, ls, wi, wo, M, T, H, Us, R)) : wpY_reads post ((nI m), h_depth, (nI n), h_tokenCount, h_wrong, h_letterCount, (nI (rg_n g)), h_makingCount, h_usefulRules, h_stateCount, h_wideCount, h_useCount, h_result, b_ops, b_firsts, b_seconds, b_sizes, b_stack, b_roots, b_text, b_ends, b_tokenKinds, b_tokenSizes, b_letters, b_begins, b_closes, b_empties, b_nexts, b_sets, b_leads, b_classes, b_newClasses, b_lefts, b_rights, b_counts, b_making, b_firstSets, b_followSets, b_states, b_looks, b_wides, b_work, b_met, b_tasks, b_held, b_uses, b_reach) := by
  delta wpY_reads
  refine yw_isSentence hg hG hl hN hm hn ht hR (fun r u sc wc fs fo st ls wi wo e c K S M a1 a2 a3 => ?_) (fun r u sc wc fs fo st ls wi wo e c K S M hr hU hc hrd hcw hD hM => ?_)
  · exact ⟨nb_0, h _ _ _ _ _ _ _ _ _ _ _ _ _ _ _ _ _ _ _ _ _ _ (Or.inr ⟨an_no a1 a2.1 a3, rfl⟩)⟩
  · exact ⟨nb_1, h _ _ _ _ _ _ _ _ _ _ _ _ _ _ _ _ _ _ _ _ _ _ (Or.inl ⟨⟨r, c, hr, hc.1, hrd, hcw, hD⟩, rfl⟩)⟩
theorem yw_stopsAt (hg : rg_ok g) (hG : xg_G g b_lefts b_rights b_counts) (hl : ∀ r, r < 9 → ∃ v, v < 7 ∧ b_lefts r = nI v) {m n : Nat} {ga : Nat → gk_T} {lo op fi se : Nat → Nat} {t : Nat → Nat} {kd : Nat → gk_T} (hN : yn_N m ga lo op fi se b_ops b_firsts b_seconds b_sizes) (hm : m ≤ 60) (hn : n ≤ 24) (ht : ∀ i, i < n → b_text i = nI (t i) ∧ t i < 3) (hR : yn_R m ga b_roots kd) {post : Int32 → SY → Prop}
    (h : ∀ r tc wr u sc wc uc rs e K S fs fo st ls wi wo M T H Us R, an_stops g kd t n r → post r ((nI m), h_depth, (nI n), tc, wr, h_letterCount, (nI (rg_n g)), h_makingCount, u, sc, wc, uc, rs, b_ops, b_firsts, b_seconds, b_sizes, b_stack, b_roots, b_text, e, K, S, b_letters, b_begins, b_closes, b_empties, b_nexts, b_sets, b_leads, b_classes, b_newClasses, b_lefts, b_rights, b_counts, b_making, fs, fo, st, ls, wi, wo, M, T, H, Us, R)) : wpY_stopsAt post ((nI m), h_depth, (nI n), h_tokenCount, h_wrong, h_letterCount, (nI (rg_n g)), h_makingCount, h_usefulRules, h_stateCount, h_wideCount, h_useCount, h_result, b_ops, b_firsts, b_seconds, b_sizes, b_stack, b_roots, b_text, b_ends, b_tokenKinds, b_tokenSizes, b_letters, b_begins, b_closes, b_empties, b_nexts, b_sets, b_leads, b_classes, b_newClasses, b_lefts, b_rights, b_counts, b_making, b_firstSets, b_followSets, b_states, b_looks, b_wides, b_work, b_met, b_tasks, b_held, b_uses, b_reach) := by
  delta wpY_stopsAt
  refine yw_prepare hg hG hl hN hm hn ht hR (fun r u sc wc fs fo st ls wi wo e c K S hr hU hc => ?_)
  refine ⟨fun z => br_f (by decide) ?_, fun z => br_t rfl (h _ _ _ _ _ _ _ _ _ _ _ _ _ _ _ _ _ _ _ _ _ _ (Or.inr ⟨r, hr, z, rfl⟩))⟩
  obtain ⟨c24, hw, _, hX⟩ := tk_ok hn hc
  refine yw_meet (b_tokenKinds := K) hg hG hU c24 hw (fun n' M n1 n2 n3 hM => ?_)
  exact h _ _ _ _ _ _ _ _ _ _ _ _ _ _ _ _ _ _ _ _ _ _ (Or.inl ⟨r, c, n', hr, hc.1, z, ⟨n1, n2, n3⟩, rfl⟩)
theorem yw_uses (hg : rg_ok g) (hG : xg_G g b_lefts b_rights b_counts) (hl : ∀ r, r < 9 → ∃ v, v < 7 ∧ b_lefts r = nI v) {m n : Nat} {ga : Nat → gk_T} {lo op fi se : Nat → Nat} {t : Nat → Nat} {kd : Nat → gk_T} (hN : yn_N m ga lo op fi se b_ops b_firsts b_seconds b_sizes) (hm : m ≤ 60) (hn : n ≤ 24) (ht : ∀ i, i < n → b_text i = nI (t i) ∧ t i < 3) (hR : yn_R m ga b_roots kd) {post : Int32 → SY → Prop}
    (h : ∀ r tc wr u sc wc uc rs e K S fs fo st ls wi wo M T H Us R, an_uses g kd t n r → post r ((nI m), h_depth, (nI n), tc, wr, h_letterCount, (nI (rg_n g)), h_makingCount, u, sc, wc, uc, rs, b_ops, b_firsts, b_seconds, b_sizes, b_stack, b_roots, b_text, e, K, S, b_letters, b_begins, b_closes, b_empties, b_nexts, b_sets, b_leads, b_classes, b_newClasses, b_lefts, b_rights, b_counts, b_making, fs, fo, st, ls, wi, wo, M, T, H, Us, R)) : wpY_uses post ((nI m), h_depth, (nI n), h_tokenCount, h_wrong, h_letterCount, (nI (rg_n g)), h_makingCount, h_usefulRules, h_stateCount, h_wideCount, h_useCount, h_result, b_ops, b_firsts, b_seconds, b_sizes, b_stack, b_roots, b_text, b_ends, b_tokenKinds, b_tokenSizes, b_letters, b_begins, b_closes, b_empties, b_nexts, b_sets, b_leads, b_classes, b_newClasses, b_lefts, b_rights, b_counts, b_making, b_firstSets, b_followSets, b_states, b_looks, b_wides, b_work, b_met, b_tasks, b_held, b_uses, b_reach) := by
  delta wpY_uses
  refine yw_build hg hG hl hN hm hn ht hR (fun r u sc wc fs fo st ls wi wo e c K S M a1 a2 a3 => ?_) (fun r u sc wc fs fo st ls wi wo e c K S M T H Us R d v hr hc hrd hcw hv hlen hu => ?_)
  · exact br_t rfl (h _ _ _ _ _ _ _ _ _ _ _ _ _ _ _ _ _ _ _ _ _ _ (Or.inr ⟨an_no a1 a2.1 a3, rfl⟩))
  · exact br_f (by decide) (h _ _ _ _ _ _ _ _ _ _ _ _ _ _ _ _ _ _ _ _ _ _ (Or.inl ⟨v, ⟨r, c, d, hr, hc.1, hrd, hcw, hv⟩, rfl⟩))
theorem yw_value (hg : rg_ok g) (hG : xg_G g b_lefts b_rights b_counts) (hl : ∀ r, r < 9 → ∃ v, v < 7 ∧ b_lefts r = nI v) {m n : Nat} {ga : Nat → gk_T} {lo op fi se : Nat → Nat} {t : Nat → Nat} {kd : Nat → gk_T} (hN : yn_N m ga lo op fi se b_ops b_firsts b_seconds b_sizes) (hm : m ≤ 60) (hn : n ≤ 24) (ht : ∀ i, i < n → b_text i = nI (t i) ∧ t i < 3) (hR : yn_R m ga b_roots kd) {post : Int32 → SY → Prop}
    (h : ∀ r tc wr u sc wc uc rs e K S fs fo st ls wi wo M T H Us R, an_value g kd t n r → post r ((nI m), h_depth, (nI n), tc, wr, h_letterCount, (nI (rg_n g)), h_makingCount, u, sc, wc, uc, rs, b_ops, b_firsts, b_seconds, b_sizes, b_stack, b_roots, b_text, e, K, S, b_letters, b_begins, b_closes, b_empties, b_nexts, b_sets, b_leads, b_classes, b_newClasses, b_lefts, b_rights, b_counts, b_making, fs, fo, st, ls, wi, wo, M, T, H, Us, R)) : wpY_value post ((nI m), h_depth, (nI n), h_tokenCount, h_wrong, h_letterCount, (nI (rg_n g)), h_makingCount, h_usefulRules, h_stateCount, h_wideCount, h_useCount, h_result, b_ops, b_firsts, b_seconds, b_sizes, b_stack, b_roots, b_text, b_ends, b_tokenKinds, b_tokenSizes, b_letters, b_begins, b_closes, b_empties, b_nexts, b_sets, b_leads, b_classes, b_newClasses, b_lefts, b_rights, b_counts, b_making, b_firstSets, b_followSets, b_states, b_looks, b_wides, b_work, b_met, b_tasks, b_held, b_uses, b_reach) := by
  delta wpY_value
  refine yw_build hg hG hl hN hm hn ht hR (fun r u sc wc fs fo st ls wi wo e c K S M a1 a2 a3 => ?_) (fun r u sc wc fs fo st ls wi wo e c K S M T H Us R d v hr hc hrd hcw hv hlen hu => ?_)
  · exact br_t rfl (h _ _ _ _ _ _ _ _ _ _ _ _ _ _ _ _ _ _ _ _ _ _ (Or.inr ⟨an_no a1 a2.1 a3, rfl⟩))
  · exact br_f (by decide) (h _ _ _ _ _ _ _ _ _ _ _ _ _ _ _ _ _ _ _ _ _ _ (Or.inl ⟨v, ⟨r, c, d, hr, hc.1, hrd, hcw, hv⟩, rfl⟩))
theorem yw_used (hg : rg_ok g) (hG : xg_G g b_lefts b_rights b_counts) (hl : ∀ r, r < 9 → ∃ v, v < 7 ∧ b_lefts r = nI v) {m n : Nat} {ga : Nat → gk_T} {lo op fi se : Nat → Nat} {t : Nat → Nat} {kd : Nat → gk_T} (hN : yn_N m ga lo op fi se b_ops b_firsts b_seconds b_sizes) (hm : m ≤ 60) (hn : n ≤ 24) (ht : ∀ i, i < n → b_text i = nI (t i) ∧ t i < 3) (hR : yn_R m ga b_roots kd) {post : Int32 → SY → Prop} {p : Int32}
    (h : ∀ r tc wr u sc wc uc rs e K S fs fo st ls wi wo M T H Us R, an_used g kd t n p r → post r ((nI m), h_depth, (nI n), tc, wr, h_letterCount, (nI (rg_n g)), h_makingCount, u, sc, wc, uc, rs, b_ops, b_firsts, b_seconds, b_sizes, b_stack, b_roots, b_text, e, K, S, b_letters, b_begins, b_closes, b_empties, b_nexts, b_sets, b_leads, b_classes, b_newClasses, b_lefts, b_rights, b_counts, b_making, fs, fo, st, ls, wi, wo, M, T, H, Us, R)) : wpY_used post ((nI m), h_depth, (nI n), h_tokenCount, h_wrong, h_letterCount, (nI (rg_n g)), h_makingCount, h_usefulRules, h_stateCount, h_wideCount, h_useCount, h_result, b_ops, b_firsts, b_seconds, b_sizes, b_stack, b_roots, b_text, b_ends, b_tokenKinds, b_tokenSizes, b_letters, b_begins, b_closes, b_empties, b_nexts, b_sets, b_leads, b_classes, b_newClasses, b_lefts, b_rights, b_counts, b_making, b_firstSets, b_followSets, b_states, b_looks, b_wides, b_work, b_met, b_tasks, b_held, b_uses, b_reach) p := by
  delta wpY_used
  refine yw_build hg hG hl hN hm hn ht hR (fun r u sc wc fs fo st ls wi wo e c K S M a1 a2 a3 => ?_) (fun r u sc wc fs fo st ls wi wo e c K S M T H Us R d v hr hc hrd hcw hv hlen hu => ?_)
  · exact br_t rfl (h _ _ _ _ _ _ _ _ _ _ _ _ _ _ _ _ _ _ _ _ _ _ (Or.inr ⟨an_no a1 a2.1 a3, rfl⟩))
  · have T : an_T g kd t n v := ⟨r, c, d, hr, hc.1, hrd, hcw, hv⟩
    refine br_f (by decide) (br_c (fun z => ?_) (fun z => br_c (fun y => ?_) (fun y => br_c (fun x => ?_) (fun x => ?_))))
    · exact h _ _ _ _ _ _ _ _ _ _ _ _ _ _ _ _ _ _ _ _ _ _ (Or.inl ⟨v, T, Or.inl ⟨Or.inl z, rfl⟩⟩)
    · exact h _ _ _ _ _ _ _ _ _ _ _ _ _ _ _ _ _ _ _ _ _ _ (Or.inl ⟨v, T, Or.inl ⟨Or.inr (Or.inl y), rfl⟩⟩)
    · exact h _ _ _ _ _ _ _ _ _ _ _ _ _ _ _ _ _ _ _ _ _ _ (Or.inl ⟨v, T, Or.inl ⟨Or.inr (Or.inr x), rfl⟩⟩)
    · obtain ⟨q1, q2⟩ := an_ui hlen hu z y x
      exact ⟨q1, h _ _ _ _ _ _ _ _ _ _ _ _ _ _ _ _ _ _ _ _ _ _ (Or.inl ⟨v, T, q2⟩)⟩
end
