/-! the component's reading, whole -/
theorem rr_ex (G : gr_T) (X : tx_T) : ∃ m, rr_n G X m := by
  have go : ∀ k, k ≤ X.2 → (∃ m, rr_n G X m) ∨ ∀ m, m < k → er_S G X m := by
    intro k
    induction k with
    | zero => intro _; exact Or.inr fun m q => absurd q (Nat.not_lt_zero _)
    | succ k ih =>
      intro hk
      rcases ih (by omega) with z | z
      · exact Or.inl z
      · by_cases y : er_S G X k
        · refine Or.inr fun m hm => ?_
          by_cases e : m = k
          · subst e; exact y
          · exact z m (by omega)
        · exact Or.inl ⟨k, by omega, z, fun _ => y⟩
  rcases go X.2 (Nat.le_refl _) with z | z
  · exact z
  · exact ⟨X.2, Nat.le_refl _, z, fun q => absurd q (Nat.lt_irrefl _)⟩
theorem lr_run_c {V : Type} {G : gr_T} {X : tx_T} {A : al_T V} {lk : lr_K} {nx : lr_N} {H : Nat} {d : lr_C V} : ∀ k (c : lr_C V), lr_run G X A lk nx H k c d → (∃ q v rest, c.1 = (q, v) :: rest) → c.2 ≤ X.2 → ∃ q v rest, d.1 = (q, v) :: rest := by
  intro k
  induction k with
  | zero =>
    intro c h a _
    have h : c = d := h
    subst h
    exact a
  | succ k ih =>
    intro c h a b
    obtain ⟨e, st, _, run⟩ := h
    obtain ⟨p1, p2⟩ := lr_pos st b
    exact ih e run p2 p1
variable {f_depth f_made f_textLength f_tokenCount f_wrongPlace f_ruleCount f_prepared f_rulesInUse f_stateCount f_wideCount f_gradeFound f_readHeight f_tokensTaken f_usedCount : Int32} {a_spotCounts a_ends a_arrows a_takers a_groups a_marks a_text a_tokenKinds a_tokenLengths a_lefts a_rights a_rightSizes a_beginSets a_followSets a_stateSteps a_wideSteps a_readStates a_readValues a_usedRules : Nat → Int32} {a_nextItems a_openItems a_restItems a_stateItems a_stateLooks a_wideLooks : Nat → Int64}
section
variable {g : rg_T}
theorem xw_readTokens_wideLooks (hg : rg_ok g) (hu : ∃ r, us_U g r) (hG : xg_G g a_lefts a_rights a_rightSizes) {w : Nat → Nat} {c n : Nat} {lk : lr_K} {nx : lr_N} (hc : c ≤ 24) (hw : ∀ i, i < c → a_tokenKinds i = nI (w i) ∧ w i < 3) (hT : xr_T lk nx n a_wideLooks a_wideSteps) (hn4 : n * 4 ≤ 324) (hn7 : n * 7 ≤ 560) (h7 : ∀ k, bl (a_nextItems 7) k = true ↔ (xu_U g (k / 5) ∧ k / 5 < 10) ∧ k % 5 = rg_c g (k / 5))
    (hA : lr_A (tg_G g) (fi_F g) lk nx) (hB : lr_B (tg_G g) lk nx) (hU9 : ∀ q r p t, lk q r p t → us_U g r ∨ r = 9) {post : Int32 → SX → Prop}
    (h1 : ∀ d v S V Us, dv_tr (tg_G g) (w, c) (vt_A a_tokenLengths) d 3 0 c v → v.1.length ≤ 98389 → V 1 = v.2.1 → yb_us v.1 Us → rr_n (tg_G g) (w, c) c → post 1 (f_depth, f_made, f_textLength, (nI c), f_wrongPlace, f_ruleCount, f_prepared, f_rulesInUse, f_stateCount, f_wideCount, f_gradeFound, 1, (nI c), (nI v.1.length), a_spotCounts, a_ends, a_arrows, a_takers, a_groups, a_marks, a_text, a_tokenKinds, a_tokenLengths, a_lefts, a_rights, a_rightSizes, a_beginSets, a_followSets, a_nextItems, a_openItems, a_restItems, a_stateItems, a_stateSteps, a_stateLooks, a_wideSteps, a_wideLooks, S, V, Us))
    (h0 : ¬ dv_D (tg_G g) (w, c) 3 0 c → ∀ m, rr_n (tg_G g) (w, c) m → ∀ rh uc S V Us, post 0 (f_depth, f_made, f_textLength, (nI c), f_wrongPlace, f_ruleCount, f_prepared, f_rulesInUse, f_stateCount, f_wideCount, f_gradeFound, rh, (nI m), uc, a_spotCounts, a_ends, a_arrows, a_takers, a_groups, a_marks, a_text, a_tokenKinds, a_tokenLengths, a_lefts, a_rights, a_rightSizes, a_beginSets, a_followSets, a_nextItems, a_openItems, a_restItems, a_stateItems, a_stateSteps, a_stateLooks, a_wideSteps, a_wideLooks, S, V, Us)) : wpX_readTokens__wideLooks_wideSteps post (f_depth, f_made, f_textLength, (nI c), f_wrongPlace, f_ruleCount, f_prepared, f_rulesInUse, f_stateCount, f_wideCount, f_gradeFound, f_readHeight, f_tokensTaken, f_usedCount, a_spotCounts, a_ends, a_arrows, a_takers, a_groups, a_marks, a_text, a_tokenKinds, a_tokenLengths, a_lefts, a_rights, a_rightSizes, a_beginSets, a_followSets, a_nextItems, a_openItems, a_restItems, a_stateItems, a_stateSteps, a_stateLooks, a_wideSteps, a_wideLooks, a_readStates, a_readValues, a_usedRules) := by
  have hX : tx_ok (w, c) := fun i hi => (hw i hi).2
  obtain ⟨m, hm⟩ := rr_ex (tg_G g) (w, c)
  have n1 := hT.1
  have S0 : ∀ V, xr_S n [(0, (([], 0, 0, 0) : vt_T))] (upd a_readStates 0 0) V := fun V => ⟨n1, pk_us, fun q => absurd rfl q, trivial⟩
  have u0 : yb_us (vt_us ([(0, (([], 0, 0, 0) : vt_T))].map Prod.snd)) a_usedRules := fun q x hx => by
    have hx : ([] : List Nat)[q]? = some x := hx
    rw [List.getElem?_nil] at hx
    cases hx
  by_cases hD : dv_D (tg_G g) (w, c) 3 0 c
  · obtain ⟨v, z, sz⟩ := gd_24 (A := vt_A a_tokenLengths) (tg_ok hg) (vt_ok a_tokenLengths) hc hD (Nat.zero_le _)
    have len := vt_len _ _ _ _ _ z
    obtain ⟨q', run, acc⟩ := lr_sent (tg_ok hg) hX (fi_ok g) hA (vt_ok a_tokenLengths) (v0 := (([], 0, 0, 0) : vt_T)) z (H := 302) (by omega)
    refine nm_e ⟨1 + vt_sz v, xw_follow_wideLooks (f := 1) (H := 302) hg hG hc hw hT hn4 hn7 h7 hA hB hU9 (by decide) (vt_sz v) 0 0 0 ([], 0, 0, 0) [] _ a_readValues a_usedRules run (lr_inv0 _) (by decide) (S0 _) u0 (by omega) (Nat.zero_le _) (Nat.zero_le _) (fun S' V' Us' i1 i2 i3 i4 i5 i6 => ?_)⟩
    refine xw_step_wideLooks (f := 0) hg hG hc hw hT hn4 hn7 h7 hA hB hU9 i1 i2 i3 i4 (by omega) i5 i6 (fun _ _ _ _ _ _ _ _ a2 => absurd a2 (lr_acc_no hA acc)) (fun _ => ?_) (fun y => ?_)
    · have rr := rr_D (tg_ok hg) hX hm hD
      have rr : m = c := rr
      subst rr
      exact h1 100 v S' V' Us' z (by omega) (i3.2.2.1 (by intro q; cases q)) i4 hm
    · rcases y with y | ⟨_, y⟩
      · omega
      · exact absurd acc y
  · by_cases m0 : m = 0
    · subst m0
      exact nm_e ⟨1000001, xw_wander_wideLooks hg hG hc hw hT hn4 hn7 h7 hA hB hU9 hm hD (h0 hD 0 hm) 1000001 0 0 ([], 0, 0, 0) [] _ a_readValues a_usedRules (by omega) (by omega) (lr_inv0 _) (by decide) (S0 _) u0 (Nat.zero_le _)⟩
    · have er := hm.2.1 (m - 1) (by omega)
      obtain ⟨d, pt⟩ := pt_of hX (tg_ok hg) er
      rw [show m - 1 + 1 = m by omega] at pt
      have pt := pt_168 (tg_ok hg) hc pt
      obtain ⟨k, cc, run, e, kb⟩ := lr_part (A := vt_A a_tokenLengths) (tg_ok hg) hX (fi_ok g) (fi_ne hg hu) hA (vt_ok a_tokenLengths) hU9 (e := 100) (C := 4096) (fun s i j z hi => gd_24 (tg_ok hg) (vt_ok a_tokenLengths) hc z hi) 168 3 0 m pt 0 ([], 0, 0, 0) [] 9 0 3 hA.1 (by show 0 < rg_c g 9; rw [hg.2.2.2.1]; omega) hg.2.2.2.2 2047 (by rw [List.length_nil]; omega)
      obtain ⟨q2, v2, rest2, e2⟩ := lr_run_c k _ run ⟨_, _, _, rfl⟩ (Nat.zero_le _)
      obtain ⟨c1, c2⟩ := cc
      have e2 : c1 = (q2, v2) :: rest2 := e2
      have e : c2 = m := e
      subst e2 e
      have mc : c2 ≤ c := hm.1
      refine nm_e ⟨(1000001 - k) + k, xw_follow_wideLooks (f := 1000001 - k) (H := 2047) hg hG hc hw hT hn4 hn7 h7 hA hB hU9 (by decide) k 0 0 0 ([], 0, 0, 0) [] _ a_readValues a_usedRules run (lr_inv0 _) (by decide) (S0 _) u0 (by omega) (Nat.zero_le _) (Nat.zero_le _) (fun S' V' Us' i1 i2 i3 i4 i5 i6 => ?_)⟩
      exact xw_wander_wideLooks hg hG hc hw hT hn4 hn7 h7 hA hB hU9 hm hD (h0 hD c2 hm) (1000001 - k) (0 + k) q2 v2 rest2 S' V' Us' (by omega) (by omega) i1 i2 i3 i4 i5
theorem xw_readTokens_stateLooks (hg : rg_ok g) (hu : ∃ r, us_U g r) (hG : xg_G g a_lefts a_rights a_rightSizes) {w : Nat → Nat} {c n : Nat} {lk : lr_K} {nx : lr_N} (hc : c ≤ 24) (hw : ∀ i, i < c → a_tokenKinds i = nI (w i) ∧ w i < 3) (hT : xr_T lk nx n a_stateLooks a_stateSteps) (hn4 : n * 4 ≤ 240) (hn7 : n * 7 ≤ 420) (h7 : ∀ k, bl (a_nextItems 7) k = true ↔ (xu_U g (k / 5) ∧ k / 5 < 10) ∧ k % 5 = rg_c g (k / 5))
    (hA : lr_A (tg_G g) (fi_F g) lk nx) (hB : lr_B (tg_G g) lk nx) (hU9 : ∀ q r p t, lk q r p t → us_U g r ∨ r = 9) {post : Int32 → SX → Prop}
    (h1 : ∀ d v S V Us, dv_tr (tg_G g) (w, c) (vt_A a_tokenLengths) d 3 0 c v → v.1.length ≤ 98389 → V 1 = v.2.1 → yb_us v.1 Us → rr_n (tg_G g) (w, c) c → post 1 (f_depth, f_made, f_textLength, (nI c), f_wrongPlace, f_ruleCount, f_prepared, f_rulesInUse, f_stateCount, f_wideCount, f_gradeFound, 1, (nI c), (nI v.1.length), a_spotCounts, a_ends, a_arrows, a_takers, a_groups, a_marks, a_text, a_tokenKinds, a_tokenLengths, a_lefts, a_rights, a_rightSizes, a_beginSets, a_followSets, a_nextItems, a_openItems, a_restItems, a_stateItems, a_stateSteps, a_stateLooks, a_wideSteps, a_wideLooks, S, V, Us))
    (h0 : ¬ dv_D (tg_G g) (w, c) 3 0 c → ∀ m, rr_n (tg_G g) (w, c) m → ∀ rh uc S V Us, post 0 (f_depth, f_made, f_textLength, (nI c), f_wrongPlace, f_ruleCount, f_prepared, f_rulesInUse, f_stateCount, f_wideCount, f_gradeFound, rh, (nI m), uc, a_spotCounts, a_ends, a_arrows, a_takers, a_groups, a_marks, a_text, a_tokenKinds, a_tokenLengths, a_lefts, a_rights, a_rightSizes, a_beginSets, a_followSets, a_nextItems, a_openItems, a_restItems, a_stateItems, a_stateSteps, a_stateLooks, a_wideSteps, a_wideLooks, S, V, Us)) : wpX_readTokens__stateLooks_stateSteps post (f_depth, f_made, f_textLength, (nI c), f_wrongPlace, f_ruleCount, f_prepared, f_rulesInUse, f_stateCount, f_wideCount, f_gradeFound, f_readHeight, f_tokensTaken, f_usedCount, a_spotCounts, a_ends, a_arrows, a_takers, a_groups, a_marks, a_text, a_tokenKinds, a_tokenLengths, a_lefts, a_rights, a_rightSizes, a_beginSets, a_followSets, a_nextItems, a_openItems, a_restItems, a_stateItems, a_stateSteps, a_stateLooks, a_wideSteps, a_wideLooks, a_readStates, a_readValues, a_usedRules) := by
  have hX : tx_ok (w, c) := fun i hi => (hw i hi).2
  obtain ⟨m, hm⟩ := rr_ex (tg_G g) (w, c)
  have n1 := hT.1
  have S0 : ∀ V, xr_S n [(0, (([], 0, 0, 0) : vt_T))] (upd a_readStates 0 0) V := fun V => ⟨n1, pk_us, fun q => absurd rfl q, trivial⟩
  have u0 : yb_us (vt_us ([(0, (([], 0, 0, 0) : vt_T))].map Prod.snd)) a_usedRules := fun q x hx => by
    have hx : ([] : List Nat)[q]? = some x := hx
    rw [List.getElem?_nil] at hx
    cases hx
  by_cases hD : dv_D (tg_G g) (w, c) 3 0 c
  · obtain ⟨v, z, sz⟩ := gd_24 (A := vt_A a_tokenLengths) (tg_ok hg) (vt_ok a_tokenLengths) hc hD (Nat.zero_le _)
    have len := vt_len _ _ _ _ _ z
    obtain ⟨q', run, acc⟩ := lr_sent (tg_ok hg) hX (fi_ok g) hA (vt_ok a_tokenLengths) (v0 := (([], 0, 0, 0) : vt_T)) z (H := 302) (by omega)
    refine nm_e ⟨1 + vt_sz v, xw_follow_stateLooks (f := 1) (H := 302) hg hG hc hw hT hn4 hn7 h7 hA hB hU9 (by decide) (vt_sz v) 0 0 0 ([], 0, 0, 0) [] _ a_readValues a_usedRules run (lr_inv0 _) (by decide) (S0 _) u0 (by omega) (Nat.zero_le _) (Nat.zero_le _) (fun S' V' Us' i1 i2 i3 i4 i5 i6 => ?_)⟩
    refine xw_step_stateLooks (f := 0) hg hG hc hw hT hn4 hn7 h7 hA hB hU9 i1 i2 i3 i4 (by omega) i5 i6 (fun _ _ _ _ _ _ _ _ a2 => absurd a2 (lr_acc_no hA acc)) (fun _ => ?_) (fun y => ?_)
    · have rr := rr_D (tg_ok hg) hX hm hD
      have rr : m = c := rr
      subst rr
      exact h1 100 v S' V' Us' z (by omega) (i3.2.2.1 (by intro q; cases q)) i4 hm
    · rcases y with y | ⟨_, y⟩
      · omega
      · exact absurd acc y
  · by_cases m0 : m = 0
    · subst m0
      exact nm_e ⟨1000001, xw_wander_stateLooks hg hG hc hw hT hn4 hn7 h7 hA hB hU9 hm hD (h0 hD 0 hm) 1000001 0 0 ([], 0, 0, 0) [] _ a_readValues a_usedRules (by omega) (by omega) (lr_inv0 _) (by decide) (S0 _) u0 (Nat.zero_le _)⟩
    · have er := hm.2.1 (m - 1) (by omega)
      obtain ⟨d, pt⟩ := pt_of hX (tg_ok hg) er
      rw [show m - 1 + 1 = m by omega] at pt
      have pt := pt_168 (tg_ok hg) hc pt
      obtain ⟨k, cc, run, e, kb⟩ := lr_part (A := vt_A a_tokenLengths) (tg_ok hg) hX (fi_ok g) (fi_ne hg hu) hA (vt_ok a_tokenLengths) hU9 (e := 100) (C := 4096) (fun s i j z hi => gd_24 (tg_ok hg) (vt_ok a_tokenLengths) hc z hi) 168 3 0 m pt 0 ([], 0, 0, 0) [] 9 0 3 hA.1 (by show 0 < rg_c g 9; rw [hg.2.2.2.1]; omega) hg.2.2.2.2 2047 (by rw [List.length_nil]; omega)
      obtain ⟨q2, v2, rest2, e2⟩ := lr_run_c k _ run ⟨_, _, _, rfl⟩ (Nat.zero_le _)
      obtain ⟨c1, c2⟩ := cc
      have e2 : c1 = (q2, v2) :: rest2 := e2
      have e : c2 = m := e
      subst e2 e
      have mc : c2 ≤ c := hm.1
      refine nm_e ⟨(1000001 - k) + k, xw_follow_stateLooks (f := 1000001 - k) (H := 2047) hg hG hc hw hT hn4 hn7 h7 hA hB hU9 (by decide) k 0 0 0 ([], 0, 0, 0) [] _ a_readValues a_usedRules run (lr_inv0 _) (by decide) (S0 _) u0 (by omega) (Nat.zero_le _) (Nat.zero_le _) (fun S' V' Us' i1 i2 i3 i4 i5 i6 => ?_)⟩
      exact xw_wander_stateLooks hg hG hc hw hT hn4 hn7 h7 hA hB hU9 hm hD (h0 hD c2 hm) (1000001 - k) (0 + k) q2 v2 rest2 S' V' Us' (by omega) (by omega) i1 i2 i3 i4 i5
end
