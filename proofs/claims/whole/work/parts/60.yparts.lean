/-! the reference's places between the parts of a rule -/
variable {h_made h_depth h_length h_tokenCount h_wrong h_letterCount h_ruleCount h_makingCount h_usefulRules h_stateCount h_wideCount h_useCount h_result : Int32} {b_ops b_firsts b_seconds b_sizes b_stack b_roots b_text b_ends b_tokenKinds b_tokenSizes b_letters b_begins b_closes b_empties b_nexts b_sets b_leads b_classes b_newClasses b_lefts b_rights b_counts b_making b_firstSets b_followSets b_tasks b_held b_uses b_reach : Nat → Int32} {b_states b_looks b_wides b_work b_met : Nat → Int64}
section
variable {g : rg_T}
def yb_Q (g : rg_T) (w : Nat → Nat) (M : Nat → Int64) (s p q : Nat) : Prop := p ≤ q ∧ ym_d g w M s p q
def yb_P (g : rg_T) (w : Nat → Nat) (M : Nat → Int64) (r i j k q : Nat) : Prop := q ≤ j ∧ dv_prd (rg_h g r) (yb_Q g w M) k i q
def yb_R (g : rg_T) (w : Nat → Nat) (M : Nat → Int64) (r i j : Nat) (R : Nat → Int32) (n : Nat) : Prop := ∀ k, k ≤ n → ∀ q, q < 32 → (bt (R k) q = true ↔ yb_P g w M r i j k q)
theorem yw_parts (hg : rg_ok g) (hG : xg_G g b_lefts b_rights b_counts) {u : Int32} (hU : yg_U g u) {w : Nat → Nat} {c r i j : Nat} (hc : c ≤ 24) (hw : ∀ i, i < c → b_tokenKinds i = nI (w i) ∧ w i < 3) (hr : us_U g r) (hij : i ≤ j) (hj : j ≤ c) {post : Int32 → SY → Prop}
    (h1 : ∀ R, yb_R g w b_met r i j R (rg_c g r) → dv_prd (rg_h g r) (yb_Q g w b_met) (rg_c g r) i j → post 1 (h_made, h_depth, h_length, h_tokenCount, h_wrong, h_letterCount, h_ruleCount, h_makingCount, u, h_stateCount, h_wideCount, h_useCount, h_result, b_ops, b_firsts, b_seconds, b_sizes, b_stack, b_roots, b_text, b_ends, b_tokenKinds, b_tokenSizes, b_letters, b_begins, b_closes, b_empties, b_nexts, b_sets, b_leads, b_classes, b_newClasses, b_lefts, b_rights, b_counts, b_making, b_firstSets, b_followSets, b_states, b_looks, b_wides, b_work, b_met, b_tasks, b_held, b_uses, R)) (h0 : ∀ R, ¬ dv_prd (rg_h g r) (yb_Q g w b_met) (rg_c g r) i j → post 0 (h_made, h_depth, h_length, h_tokenCount, h_wrong, h_letterCount, h_ruleCount, h_makingCount, u, h_stateCount, h_wideCount, h_useCount, h_result, b_ops, b_firsts, b_seconds, b_sizes, b_stack, b_roots, b_text, b_ends, b_tokenKinds, b_tokenSizes, b_letters, b_begins, b_closes, b_empties, b_nexts, b_sets, b_leads, b_classes, b_newClasses, b_lefts, b_rights, b_counts, b_making, b_firstSets, b_followSets, b_states, b_looks, b_wides, b_work, b_met, b_tasks, b_held, b_uses, R)) : wpY_parts post (h_made, h_depth, h_length, h_tokenCount, h_wrong, h_letterCount, h_ruleCount, h_makingCount, u, h_stateCount, h_wideCount, h_useCount, h_result, b_ops, b_firsts, b_seconds, b_sizes, b_stack, b_roots, b_text, b_ends, b_tokenKinds, b_tokenSizes, b_letters, b_begins, b_closes, b_empties, b_nexts, b_sets, b_leads, b_classes, b_newClasses, b_lefts, b_rights, b_counts, b_making, b_firstSets, b_followSets, b_states, b_looks, b_wides, b_work, b_met, b_tasks, b_held, b_uses, b_reach) (nI r) (nI i) (nI j) := by
  have h9 := hg.1
  obtain ⟨_, _, c4, h7⟩ := hg.2.1 r hr.1
  have r9 := hr.1
  obtain ⟨g1, g2, g3⟩ := hG r (Or.inl hr.1)
  have ir : vp_in (nI r) 10 := vp_in_nI (by omega) (by decide)
  have cr : (nI r).toNatClampNeg = r := nI_clamp (by omega)
  refine nm_e ?_
  refine loop_0 (fun f k R => wY_parts_12 post (nI r) (nI j) h_made h_depth h_length h_tokenCount h_wrong h_letterCount h_ruleCount h_makingCount u h_stateCount h_wideCount h_useCount h_result f (nI k) b_ops b_firsts b_seconds b_sizes b_stack b_roots b_text b_ends b_tokenKinds b_tokenSizes b_letters b_begins b_closes b_empties b_nexts b_sets b_leads b_classes b_newClasses b_lefts b_rights b_counts b_making b_firstSets b_followSets b_states b_looks b_wides b_work b_met b_tasks b_held b_uses R) (fun k R => yb_R g w b_met r i j R k) (rg_c g r) (upd b_reach 0 ((1 : Int32) <<< (nI i &&& 31))) ?_ ?_ ?_
  · intro k hk q hq
    have e : k = 0 := by omega
    subst e
    rw [pk_us, b_one i (by omega), decide_eq_true_eq]
    exact ⟨fun z => ⟨by omega, z.symm⟩, fun z => z.2.symm⟩
  · intro f R hR
    refine ⟨ir, ?_⟩
    rw [cr, g2]
    refine br_t (nI_le (Nat.le_refl _) (by omega)) ⟨ir, vp_in_nI (by omega) (by decide), ?_⟩
    rw [nI_clamp (by omega : rg_c g r < 2 ^ 31)]
    have t := hR (rg_c g r) (Nat.le_refl _) j (by omega)
    refine br_c (fun z => h1 R hR ?_) (fun z => h0 R fun y => z ?_)
    · exact (t.mp ((b_test _ (by omega)).mp z)).2
    · exact (b_test _ (by omega)).mpr (t.mpr ⟨Nat.le_refl _, y⟩)
  · intro f k R hk hR hk1
    have ik : vp_in (nI (k + 1)) 5 := vp_in_nI (by omega) (by decide)
    have ck : (nI (k + 1)).toNatClampNeg = k + 1 := nI_clamp (by omega)
    have hk7 := h7 k hk
    refine ⟨ir, ?_⟩
    rw [cr, g2]
    refine br_f (nI_ge hk (by omega)) ?_
    rw [nI_1, ck]
    refine ⟨ik, nm_e ?_⟩
    refine loop_0 (fun f' x P => wY_parts_36 post (wY_parts_12 post (nI r) (nI j) h_made h_depth h_length h_tokenCount h_wrong h_letterCount h_ruleCount h_makingCount u h_stateCount h_wideCount h_useCount h_result f) (nI r) (nI j) (nI k) h_made h_depth h_length h_tokenCount h_wrong h_letterCount h_ruleCount h_makingCount u h_stateCount h_wideCount h_useCount h_result f' (nI x) b_ops b_firsts b_seconds b_sizes b_stack b_roots b_text b_ends b_tokenKinds b_tokenSizes b_letters b_begins b_closes b_empties b_nexts b_sets b_leads b_classes b_newClasses b_lefts b_rights b_counts b_making b_firstSets b_followSets b_states b_looks b_wides b_work b_met b_tasks b_held b_uses P) (fun x P => yb_R g w b_met r i j P k ∧ ∀ q, q < 32 → (bt (P (k + 1)) q = true ↔ ∃ y, y < x ∧ y % 25 = q ∧ yb_P g w b_met r i j k (y / 25) ∧ y % 25 ≤ j ∧ yb_Q g w b_met (rg_h g r k) (y / 25) (y % 25))) 625 (upd R (k + 1) 0) ⟨fun k' hk' q hq => ?_, fun q hq => ?_⟩ ?_ ?_
    · rw [pk_un (by omega)]; exact hR k' hk' q hq
    · rw [pk_us, b_zero.mp rfl q hq]
      exact ⟨(fun z => by cases z), fun ⟨y, z, _⟩ => absurd z (Nat.not_lt_zero _)⟩
    · rintro f' P ⟨p1, p2⟩
      refine br_t (nI_le (Nat.le_refl 625) (by decide)) (nm_r (nI_1 k) (hk1 P fun k' hk' q hq => ?_))
      by_cases e : k' = k + 1
      · subst e
        rw [p2 q hq]
        constructor
        · rintro ⟨y, _, rfl, z1, z2, z3⟩
          exact ⟨z2, y / 25, z1.2, z3⟩
        · rintro ⟨z1, m, z2, z3⟩
          have := z3.1
          exact ⟨m * 25 + q, by omega, by omega, by rw [show (m * 25 + q) / 25 = m by omega]; exact ⟨by omega, z2⟩, by omega, by rw [show (m * 25 + q) / 25 = m by omega, show (m * 25 + q) % 25 = q by omega]; exact z3⟩
      · exact p1 k' (by omega) q hq
    · rintro f' x P hx ⟨p1, p2⟩ hk2
      have e1 : nI x / 25 = nI (x / 25) := pk_div (d := 25) (by omega) (by decide) (by decide)
      have e2 : nI x - nI x / 25 * 25 = nI (x % 25) := pk_rem (d := 25) (by omega) (by decide) (by decide)
      have sk : ¬ (yb_P g w b_met r i j k (x / 25) ∧ x % 25 ≤ j ∧ yb_Q g w b_met (rg_h g r k) (x / 25) (x % 25)) → wY_parts_117 post (wY_parts_12 post (nI r) (nI j) h_made h_depth h_length h_tokenCount h_wrong h_letterCount h_ruleCount h_makingCount u h_stateCount h_wideCount h_useCount h_result f) (wY_parts_36 post (wY_parts_12 post (nI r) (nI j) h_made h_depth h_length h_tokenCount h_wrong h_letterCount h_ruleCount h_makingCount u h_stateCount h_wideCount h_useCount h_result f) (nI r) (nI j) (nI k) h_made h_depth h_length h_tokenCount h_wrong h_letterCount h_ruleCount h_makingCount u h_stateCount h_wideCount h_useCount h_result f') (nI r) (nI j) (nI k) (nI x) h_made h_depth h_length h_tokenCount h_wrong h_letterCount h_ruleCount h_makingCount u h_stateCount h_wideCount h_useCount h_result b_ops b_firsts b_seconds b_sizes b_stack b_roots b_text b_ends b_tokenKinds b_tokenSizes b_letters b_begins b_closes b_empties b_nexts b_sets b_leads b_classes b_newClasses b_lefts b_rights b_counts b_making b_firstSets b_followSets b_states b_looks b_wides b_work b_met b_tasks b_held b_uses P := by
        intro nz
        refine br_t rfl ?_
        rw [nI_1 k, ck]
        refine ⟨ik, ik, nm_e (nm_r (nI_1 x) (hk2 _ ⟨fun k' hk' q hq => ?_, fun q hq => ?_⟩))⟩
        · rw [pk_un (by omega)]; exact p1 k' hk' q hq
        · rw [pk_us, p2 q hq]
          constructor
          · rintro ⟨y, z, zz⟩
            exact ⟨y, by omega, zz⟩
          · rintro ⟨y, z, z2, z3⟩
            by_cases e : y = x
            · subst e; exact absurd z3 nz
            · exact ⟨y, by omega, z2, z3⟩
      refine br_f (nI_ge hx (by decide)) ⟨vp_in_nI (by omega) (by decide), by decide, ?_⟩
      rw [e2, e1, nI_clamp (by omega : k < 2 ^ 31)]
      refine br_c (fun z => ⟨by decide, pk_lt j (x % 25) (fun z2 => sk fun y => by omega) (fun z2 => ⟨by decide, by decide, pk_lt (x % 25) (x / 25) (fun z3 => sk fun y => ?_) (fun z3 => ⟨pk_in (r * 4 + k) 40 (by omega) (ix_l4 r k), by decide, by decide, ?_⟩)⟩)⟩) (fun z => sk fun y => z ((b_test _ (by omega)).mpr ((p1 k (Nat.le_refl _) _ (by omega)).mpr y.1)))
      · have := y.2.2.1; omega
      · have z := (p1 k (Nat.le_refl _) _ (by omega)).mp ((b_test (P k) (n := x / 25) (by omega)).mp z)
        rw [pk_cl (r * 4 + k) (ix_l4 r k), g3 k hk]
        refine yw_derives (b_reach := P) hg hG hU hc hw hk7 z3 (by omega) (fun y => br_f (by decide) ?_) (fun y => br_t rfl (sk fun q => y q.2.2.2))
        refine br_f (by decide) ?_
        rw [nI_1 k, e2, ck]
        refine ⟨ik, by decide, ik, nm_e (nm_r (nI_1 x) (hk2 _ ⟨fun k' hk' q hq => ?_, fun q hq => ?_⟩))⟩
        · rw [pk_un (by omega)]; exact p1 k' hk' q hq
        · rw [pk_us, b_or, Bool.or_eq_true, b_one _ (by omega), decide_eq_true_eq, p2 q hq]
          constructor
          · rintro (⟨y, z, zz⟩ | rfl)
            · exact ⟨y, by omega, zz⟩
            · exact ⟨x, by omega, rfl, z, z2, z3, y⟩
          · rintro ⟨y', q1, q2, q3⟩
            by_cases e : y' = x
            · rw [e] at q2; exact Or.inr q2.symm
            · exact Or.inl ⟨y', by omega, q2, q3⟩
end
