/-! the reference's sets, its groups, and its automaton -/
variable {h_made h_depth h_length h_tokenCount h_wrong h_letterCount h_ruleCount h_makingCount h_usefulRules h_stateCount h_wideCount h_useCount h_result : Int32} {b_ops b_firsts b_seconds b_sizes b_stack b_roots b_text b_ends b_tokenKinds b_tokenSizes b_letters b_begins b_closes b_empties b_nexts b_sets b_leads b_classes b_newClasses b_lefts b_rights b_counts b_making b_firstSets b_followSets b_tasks b_held b_uses b_reach : Nat → Int32} {b_states b_looks b_wides b_work b_met : Nat → Int64}
section
variable {x : gk_T} {p : Nat}
/-- where the letters lead, of the first i sets and l letters of the next -/
def yd_D (x : gk_T) (L : Nat) (q : Nat → Nat) (D : Nat → Int32) (i l : Nat) : Prop := ∀ i' l', l' < 3 → (i' < i ∨ (i' = i ∧ l' < l)) → ∃ j, j < L ∧ q j = ap_d x (q i') l' ∧ D (i' * 3 + l') = nI j
theorem yd_d {L : Nat} {q : Nat → Nat} {D : Nat → Int32} {i l : Nat} (h : yd_D x L q D i l) : ll_d x L q i l := fun i' l' hl hh => by
  obtain ⟨j, a, b, _⟩ := h i' l' hl hh
  exact ⟨j, a, b⟩
theorem yd_s {L : Nat} {q : Nat → Nat} {D : Nat → Int32} {i l j : Nat} (h : yd_D x L q D i l) (h3 : l < 3) (hj : j < L) (e : q j = ap_d x (q i) l) : yd_D x L q (upd D (i * 3 + l) (nI j)) i (l + 1) := by
  intro i' l' hl hh
  by_cases z : i' = i ∧ l' = l
  · rw [z.1, z.2, pk_us]; exact ⟨j, hj, e, rfl⟩
  · rw [pk_un (by omega)]; exact h i' l' hl (by omega)
theorem yd_k {L : Nat} {q : Nat → Nat} {D : Nat → Int32} {i l m : Nat} (h : yd_D x L q D i l) (hi : i < L) : yd_D x (L + 1) (gh_u q L m) D i l := by
  intro i' l' hl hh
  obtain ⟨j, a, b, c⟩ := h i' l' hl hh
  refine ⟨j, by omega, ?_, c⟩
  rw [gh_n (by omega), gh_n (by omega)]
  exact b
def yl_S (L : Nat) (q : Nat → Nat) (S : Nat → Int32) : Prop := ∀ i, i < L → S i = nI (yv_v (q i))
theorem yw_listSets (hx : gk_wf x) (hp : p < 60) (hD : yp_D x 0 p b_letters b_begins b_closes b_empties b_nexts) {post : Int32 → SY → Prop}
    (h : ∀ L q S D, ll_q x L q → ll_d x L q L 0 → yl_S L q S → yc_l x L q D → post (nI L) (h_made, h_depth, h_length, h_tokenCount, h_wrong, (nI (gk_c x)), h_ruleCount, h_makingCount, h_usefulRules, h_stateCount, h_wideCount, h_useCount, h_result, b_ops, b_firsts, b_seconds, b_sizes, b_stack, b_roots, b_text, b_ends, b_tokenKinds, b_tokenSizes, b_letters, b_begins, b_closes, b_empties, b_nexts, S, D, b_classes, b_newClasses, b_lefts, b_rights, b_counts, b_making, b_firstSets, b_followSets, b_states, b_looks, b_wides, b_work, b_met, b_tasks, b_held, b_uses, b_reach)) : wpY_listSets post (h_made, h_depth, h_length, h_tokenCount, h_wrong, (nI (gk_c x)), h_ruleCount, h_makingCount, h_usefulRules, h_stateCount, h_wideCount, h_useCount, h_result, b_ops, b_firsts, b_seconds, b_sizes, b_stack, b_roots, b_text, b_ends, b_tokenKinds, b_tokenSizes, b_letters, b_begins, b_closes, b_empties, b_nexts, b_sets, b_leads, b_classes, b_newClasses, b_lefts, b_rights, b_counts, b_making, b_firstSets, b_followSets, b_states, b_looks, b_wides, b_work, b_met, b_tasks, b_held, b_uses, b_reach) (nI p) := by
  have key : ∀ f i L q S D, 65 - i < f → ll_q x L q → yl_S L q S → yd_D x L q D i 0 → i ≤ L → wY_listSets_13 post (nI p) h_made h_depth h_length h_tokenCount h_wrong (nI (gk_c x)) h_ruleCount h_makingCount h_usefulRules h_stateCount h_wideCount h_useCount h_result f (nI L) (nI i) b_ops b_firsts b_seconds b_sizes b_stack b_roots b_text b_ends b_tokenKinds b_tokenSizes b_letters b_begins b_closes b_empties b_nexts S D b_classes b_newClasses b_lefts b_rights b_counts b_making b_firstSets b_followSets b_states b_looks b_wides b_work b_met b_tasks b_held b_uses b_reach := by
    intro f
    induction f with
    | zero => intro i L q S D z; omega
    | succ f ih =>
      intro i L q S D hf hL hS hd hi
      have L65 := ll_65 hx hL
      refine pk_le L i (fun z => ?_) (fun z => ?_)
      · have e : i = L := by omega
        rw [e] at hd
        exact h L q S D hL (yd_d hd) hS (fun s l hs hl => hd s l hl (Or.inl hs))
      · refine loop_0 (fun n l (w : Nat × (Nat → Nat) × (Nat → Int32) × (Nat → Int32)) => wY_listSets_21 post (wY_listSets_13 post (nI p) h_made h_depth h_length h_tokenCount h_wrong (nI (gk_c x)) h_ruleCount h_makingCount h_usefulRules h_stateCount h_wideCount h_useCount h_result f) (nI p) (nI i) h_made h_depth h_length h_tokenCount h_wrong (nI (gk_c x)) h_ruleCount h_makingCount h_usefulRules h_stateCount h_wideCount h_useCount h_result n (nI w.1) (nI l) b_ops b_firsts b_seconds b_sizes b_stack b_roots b_text b_ends b_tokenKinds b_tokenSizes b_letters b_begins b_closes b_empties b_nexts w.2.2.1 w.2.2.2 b_classes b_newClasses b_lefts b_rights b_counts b_making b_firstSets b_followSets b_states b_looks b_wides b_work b_met b_tasks b_held b_uses b_reach) (fun l w => ll_q x w.1 w.2.1 ∧ yl_S w.1 w.2.1 w.2.2.1 ∧ yd_D x w.1 w.2.1 w.2.2.2 i l ∧ i < w.1) 3 (L, q, S, D) ⟨hL, hS, hd, z⟩ ?_ ?_
        · rintro n ⟨L', q', S', D'⟩ ⟨h1, h2, h3, h4⟩
          have h1 : ll_q x L' q' := h1
          have h2 : yl_S L' q' S' := h2
          have h3 : yd_D x L' q' D' i 3 := h3
          have h4 : i < L' := h4
          have L65' := ll_65 hx h1
          exact br_t (nI_le (Nat.le_refl 3) (by decide)) (nm_r (nI_1 i) (ih (i + 1) L' q' S' D' (by omega) h1 h2 (fun i' l' hl hh => h3 i' l' hl (by omega)) h4))
        · rintro n l ⟨L', q', S', D'⟩ hl ⟨h1, h2, h3, h4⟩ hk
          have h1 : ll_q x L' q' := h1
          have h2 : yl_S L' q' S' := h2
          have h3 : yd_D x L' q' D' i l := h3
          have h4 : i < L' := h4
          have L65' := ll_65 hx h1
          have Ri := h1.2.2.1 i h4
          have Rm := ap_R1 Ri hl
          have m64 := (ap_d64 hx (q' i) l).1
          refine br_f (nI_ge hl (by decide)) ⟨vp_in_nI (by omega) (by decide), ?_⟩
          dsimp only
          rw [nI_clamp (by omega : i < 2 ^ 31), h2 i h4]
          refine yw_after (b_sets := S') (b_leads := D') hx hp hD hl Ri ?_
          obtain ⟨a, ea⟩ : ∃ a, a = ap_d x (q' i) l := ⟨_, rfl⟩
          rw [← ea] at Rm m64 ⊢
          have ev : yv_v a = a := if_neg (by omega)
          have fin : ∀ j L2 q2 S2, ll_q x L2 q2 → yl_S L2 q2 S2 → yd_D x L2 q2 D' i l → i < L2 → j < L2 → q2 j = ap_d x (q2 i) l → wY_listSets_91 post (wY_listSets_13 post (nI p) h_made h_depth h_length h_tokenCount h_wrong (nI (gk_c x)) h_ruleCount h_makingCount h_usefulRules h_stateCount h_wideCount h_useCount h_result f) (wY_listSets_21 post (wY_listSets_13 post (nI p) h_made h_depth h_length h_tokenCount h_wrong (nI (gk_c x)) h_ruleCount h_makingCount h_usefulRules h_stateCount h_wideCount h_useCount h_result f) (nI p) (nI i) h_made h_depth h_length h_tokenCount h_wrong (nI (gk_c x)) h_ruleCount h_makingCount h_usefulRules h_stateCount h_wideCount h_useCount h_result n) (nI p) (nI i) (nI l) (nI j) (nI L2) h_made h_depth h_length h_tokenCount h_wrong (nI (gk_c x)) h_ruleCount h_makingCount h_usefulRules h_stateCount h_wideCount h_useCount h_result b_ops b_firsts b_seconds b_sizes b_stack b_roots b_text b_ends b_tokenKinds b_tokenSizes b_letters b_begins b_closes b_empties b_nexts S2 D' b_classes b_newClasses b_lefts b_rights b_counts b_making b_firstSets b_followSets b_states b_looks b_wides b_work b_met b_tasks b_held b_uses b_reach := by
            intro j L2 q2 S2 g1 g2 g3 g4 g5 g6
            have L2b := ll_65 hx g1
            exact ⟨pk_in (i * 3 + l) 420 (by omega) (ix_l3 i l), nm_r (e' := upd D' (i * 3 + l) (nI j)) (by rw [pk_cl (i * 3 + l) (ix_l3 i l)]) (nm_r (nI_1 l) (hk (L2, q2, S2, upd D' (i * 3 + l) (nI j)) ⟨g1, g2, yd_s g3 hl g5 g6, g4⟩))⟩
          refine loop_0 (fun f' j (_ : Unit) => wY_listSets_45 post (wY_listSets_13 post (nI p) h_made h_depth h_length h_tokenCount h_wrong (nI (gk_c x)) h_ruleCount h_makingCount h_usefulRules h_stateCount h_wideCount h_useCount h_result f) (wY_listSets_21 post (wY_listSets_13 post (nI p) h_made h_depth h_length h_tokenCount h_wrong (nI (gk_c x)) h_ruleCount h_makingCount h_usefulRules h_stateCount h_wideCount h_useCount h_result f) (nI p) (nI i) h_made h_depth h_length h_tokenCount h_wrong (nI (gk_c x)) h_ruleCount h_makingCount h_usefulRules h_stateCount h_wideCount h_useCount h_result n) (nI p) (nI L') (nI i) (nI l) (nI a) h_made h_depth h_length h_tokenCount h_wrong (nI (gk_c x)) h_ruleCount h_makingCount h_usefulRules h_stateCount h_wideCount h_useCount h_result b_ops b_firsts b_seconds b_sizes b_stack b_roots b_text b_ends b_tokenKinds b_tokenSizes b_letters b_begins b_closes b_empties b_nexts S' D' b_classes b_newClasses b_lefts b_rights b_counts b_making b_firstSets b_followSets b_states b_looks b_wides b_work b_met b_tasks b_held b_uses b_reach f' (nI j)) (fun j _ => ∀ j', j' < j → q' j' ≠ a) L' () (fun j' hj => absurd hj (Nat.not_lt_zero _)) ?_ ?_
          · intro f' _ hno
            refine br_t (nI_le (Nat.le_refl L') (by omega)) ⟨vp_in_nI (by omega) (by decide), nm_r (e' := upd S' L' (nI a)) (by rw [nI_clamp (by omega : L' < 2 ^ 31)]) (br_t rfl ?_)⟩
            rw [nI_1 L']
            refine fin L' (L' + 1) (gh_u q' L' a) (upd S' L' (nI a)) (ll_add h1 Rm hno) (fun s hs => ?_) (yd_k h3 h4) (by omega) (by omega) (by rw [gh_s, gh_n (by omega), ea])
            by_cases z : s = L'
            · rw [z, pk_us, gh_s, ev]
            · rw [pk_un z, gh_n z]; exact h2 s (by omega)
          · intro f' j _ hj hno hk'
            refine br_f (nI_ge hj (by omega)) ⟨vp_in_nI (by omega) (by decide), ?_⟩
            have cj : (nI j).toNatClampNeg = j := nI_clamp (by omega)
            have ej : S' j = nI a ↔ q' j = a := by
              have := yv_e (ap_R65 hx (h1.2.2.1 j hj)) (ap_R65 hx Rm)
              rw [ev] at this
              rw [h2 j hj]
              exact this
            rw [cj]
            refine br_c (fun z => ⟨vp_in_nI (by omega) (by decide), nm_r (e' := upd S' j (nI a)) (by rw [cj]) (br_f (fun w => ?_) ?_)⟩) (fun z => nm_r (nI_1 j) (hk' () fun j' hj' => ?_))
            · rw [nI_eq (by omega) (by omega)] at w
              omega
            · refine fin j L' q' (upd S' j (nI a)) h1 (fun s hs => ?_) h3 h4 hj (by rw [ej.mp z, ea])
              by_cases y : s = j
              · rw [y, pk_us, ← z]; exact h2 j hj
              · rw [pk_un y]; exact h2 s hs
            · by_cases y : j' = j
              · rw [y]; exact fun w => z (ej.mpr w)
              · exact hno j' (by omega)
  refine nm_e ⟨66, key 66 0 1 (fun _ => 64) _ _ (by omega) ll_0 (fun i hi => ?_) (fun i' l' _ hh => by omega) (by omega)⟩
  rw [show i = 0 by omega, pk_us]
  rfl
theorem yw_isSame {L n : Nat} {q : Nat → Nat} {C D : Nat → Int32} (hL : L ≤ 65) (hC : yc_C x L q n C) (hl : yc_l x L q D) {s t : Nat} (hs : s < L) (ht : t < L) {post : Int32 → Prop} (h1 : ap_e x (n + 1) (q s) (q t) → post 1) (h0 : ¬ ap_e x (n + 1) (q s) (q t) → post 0) : wpY_isSameKind post (h_made, h_depth, h_length, h_tokenCount, h_wrong, h_letterCount, h_ruleCount, h_makingCount, h_usefulRules, h_stateCount, h_wideCount, h_useCount, h_result, b_ops, b_firsts, b_seconds, b_sizes, b_stack, b_roots, b_text, b_ends, b_tokenKinds, b_tokenSizes, b_letters, b_begins, b_closes, b_empties, b_nexts, b_sets, D, C, b_newClasses, b_lefts, b_rights, b_counts, b_making, b_firstSets, b_followSets, b_states, b_looks, b_wides, b_work, b_met, b_tasks, b_held, b_uses, b_reach) (nI s) (nI t) := by
  have vs : vp_in (nI s) 140 := vp_in_nI (by omega) (by decide)
  have vt : vp_in (nI t) 140 := vp_in_nI (by omega) (by decide)
  have cs : (nI s).toNatClampNeg = s := nI_clamp (by omega)
  have ct : (nI t).toNatClampNeg = t := nI_clamp (by omega)
  have lead : ∀ l, l < 3 → ∃ j k, j < L ∧ k < L ∧ D (s * 3 + l) = nI j ∧ D (t * 3 + l) = nI k ∧ (C j = C k ↔ ap_e x n (ap_d x (q s) l) (ap_d x (q t) l)) := by
    intro l hl3
    obtain ⟨j, j1, j2, j3⟩ := hl s l hs hl3
    obtain ⟨k, k1, k2, k3⟩ := hl t l ht hl3
    refine ⟨j, k, j1, k1, j3, k3, ?_⟩
    rw [hC j k j1 k1, j2, k2]
  have z3 : ∀ i, (3 : Int32) * nI i = nI (i * 3 + 0) := fun i => by rw [Nat.add_zero, Nat.mul_comm]; exact pk_mul 3 i
  have z1 : ∀ i, (3 : Int32) * nI i + 1 = nI (i * 3 + 1) := fun i => ix_l3 i 1
  have z2 : ∀ i, (3 : Int32) * nI i + 2 = nI (i * 3 + 2) := fun i => ix_l3 i 2
  obtain ⟨j0, k0, a1, a2, a3, a4, a5⟩ := lead 0 (by omega)
  obtain ⟨j1, k1, b1, b2, b3, b4, b5⟩ := lead 1 (by omega)
  obtain ⟨j2, k2, c1, c2, c3, c4, c5⟩ := lead 2 (by omega)
  refine ⟨vs, vt, ?_⟩
  rw [cs, ct]
  refine br_c (fun e => ?_) (fun e => h0 fun w => e ((hC s t hs ht).mpr w.1))
  refine ⟨pk_in (s * 3 + 0) 420 (by omega) (z3 s), ?_⟩
  rw [pk_cl (s * 3 + 0) (z3 s), a3]
  refine ⟨vp_in_nI (by omega) (by decide), pk_in (t * 3 + 0) 420 (by omega) (z3 t), ?_⟩
  rw [pk_cl (t * 3 + 0) (z3 t), a4]
  refine ⟨vp_in_nI (by omega) (by decide), ?_⟩
  rw [nI_clamp (by omega : j0 < 2 ^ 31), nI_clamp (by omega : k0 < 2 ^ 31)]
  refine br_c (fun e0 => ?_) (fun e0 => h0 fun w => e0 (a5.mpr (w.2 0 (by omega))))
  refine ⟨pk_in (s * 3 + 1) 420 (by omega) (z1 s), ?_⟩
  rw [pk_cl (s * 3 + 1) (z1 s), b3]
  refine ⟨vp_in_nI (by omega) (by decide), pk_in (t * 3 + 1) 420 (by omega) (z1 t), ?_⟩
  rw [pk_cl (t * 3 + 1) (z1 t), b4]
  refine ⟨vp_in_nI (by omega) (by decide), ?_⟩
  rw [nI_clamp (by omega : j1 < 2 ^ 31), nI_clamp (by omega : k1 < 2 ^ 31)]
  refine br_c (fun e1 => ?_) (fun e1 => h0 fun w => e1 (b5.mpr (w.2 1 (by omega))))
  refine ⟨pk_in (s * 3 + 2) 420 (by omega) (z2 s), ?_⟩
  rw [pk_cl (s * 3 + 2) (z2 s), c3]
  refine ⟨vp_in_nI (by omega) (by decide), pk_in (t * 3 + 2) 420 (by omega) (z2 t), ?_⟩
  rw [pk_cl (t * 3 + 2) (z2 t), c4]
  refine ⟨vp_in_nI (by omega) (by decide), ?_⟩
  rw [nI_clamp (by omega : j2 < 2 ^ 31), nI_clamp (by omega : k2 < 2 ^ 31)]
  refine br_c (fun e2 => h1 ⟨(hC s t hs ht).mp e, fun l hl3 => ?_⟩) (fun e2 => h0 fun w => e2 (c5.mpr (w.2 2 (by omega))))
  have hl3 : l = 0 ∨ l = 1 ∨ l = 2 := by omega
  rcases hl3 with rfl | rfl | rfl
  · exact a5.mp e0
  · exact b5.mp e1
  · exact c5.mp e2
theorem yw_partAgain (hx : gk_wf x) {L n : Nat} {q : Nat → Nat} {C D : Nat → Int32} (hL : ll_q x L q) (hd : ll_d x L q L 0) (hC : yc_C x L q n C) (hl : yc_l x L q D) {post : Int32 → SY → Prop} (h : ∀ C' N', yc_C x L q (n + 1) C' → post (nI (ap_n x (n + 1))) (h_made, h_depth, h_length, h_tokenCount, h_wrong, h_letterCount, h_ruleCount, h_makingCount, h_usefulRules, h_stateCount, h_wideCount, h_useCount, h_result, b_ops, b_firsts, b_seconds, b_sizes, b_stack, b_roots, b_text, b_ends, b_tokenKinds, b_tokenSizes, b_letters, b_begins, b_closes, b_empties, b_nexts, b_sets, D, C', N', b_lefts, b_rights, b_counts, b_making, b_firstSets, b_followSets, b_states, b_looks, b_wides, b_work, b_met, b_tasks, b_held, b_uses, b_reach)) : wpY_partAgain post (h_made, h_depth, h_length, h_tokenCount, h_wrong, h_letterCount, h_ruleCount, h_makingCount, h_usefulRules, h_stateCount, h_wideCount, h_useCount, h_result, b_ops, b_firsts, b_seconds, b_sizes, b_stack, b_roots, b_text, b_ends, b_tokenKinds, b_tokenSizes, b_letters, b_begins, b_closes, b_empties, b_nexts, b_sets, D, C, b_newClasses, b_lefts, b_rights, b_counts, b_making, b_firstSets, b_followSets, b_states, b_looks, b_wides, b_work, b_met, b_tasks, b_held, b_uses, b_reach) (nI L) := by
  have L65 := ll_65 hx hL
  have tot : cn_c (au_f (ap_e x (n + 1)) (fun _ => True) q) L = ap_n x (n + 1) := au_list (fun m hm => by have := ap_R65 hx hm; omega) hL.2.2.1 (fun m hm => ll_R hL hd hm) (n + 1)
  refine loop_0 (fun f s (w : Nat × (Nat → Int32)) => wY_partAgain_4 post (nI L) h_made h_depth h_length h_tokenCount h_wrong h_letterCount h_ruleCount h_makingCount h_usefulRules h_stateCount h_wideCount h_useCount h_result f (nI w.1) (nI s) b_ops b_firsts b_seconds b_sizes b_stack b_roots b_text b_ends b_tokenKinds b_tokenSizes b_letters b_begins b_closes b_empties b_nexts b_sets D C w.2 b_lefts b_rights b_counts b_making b_firstSets b_followSets b_states b_looks b_wides b_work b_met b_tasks b_held b_uses b_reach) (fun s w => yc_N x q n s w.1 w.2 ∧ w.1 = cn_c (au_f (ap_e x (n + 1)) (fun _ => True) q) s) L (0, b_newClasses) ⟨⟨fun s hs => absurd hs (Nat.not_lt_zero _), fun s s' hs => absurd hs (Nat.not_lt_zero _)⟩, rfl⟩ ?_ ?_
  · rintro f ⟨c, N⟩ ⟨h1, h2⟩
    have h1 : yc_N x q n L c N := h1
    have h2 : c = ap_n x (n + 1) := h2.trans tot
    refine br_t (nI_le (Nat.le_refl L) (by omega)) ?_
    refine loop_0 (fun f i w => wY_partAgain_73 post (nI L) (nI c) h_made h_depth h_length h_tokenCount h_wrong h_letterCount h_ruleCount h_makingCount h_usefulRules h_stateCount h_wideCount h_useCount h_result f (nI i) b_ops b_firsts b_seconds b_sizes b_stack b_roots b_text b_ends b_tokenKinds b_tokenSizes b_letters b_begins b_closes b_empties b_nexts b_sets D w N b_lefts b_rights b_counts b_making b_firstSets b_followSets b_states b_looks b_wides b_work b_met b_tasks b_held b_uses b_reach) (fun i w => ∀ j, j < i → w j = N j) L C (fun j hj => absurd hj (Nat.not_lt_zero _)) ?_ ?_
    · intro f' w hw
      refine br_t (nI_le (Nat.le_refl L) (by omega)) ?_
      rw [h2]
      refine h w N fun s s' hs hs' => ?_
      rw [hw s hs, hw s' hs']
      exact h1.2 s s' hs hs'
    · intro f' i w hi hw hk
      have vi : vp_in (nI i) 140 := vp_in_nI (by omega) (by decide)
      have ci : (nI i).toNatClampNeg = i := nI_clamp (by omega)
      refine br_f (nI_ge hi (by omega)) ⟨vi, vi, nm_r (e' := upd w i (N i)) (by rw [ci]) (nm_r (nI_1 i) (hk _ fun j hj => ?_))⟩
      by_cases z : j = i
      · rw [z, pk_us]
      · rw [pk_un z]; exact hw j (by omega)
  · rintro f s ⟨c, N⟩ hs ⟨h1, h2⟩ hk
    have h1 : yc_N x q n s c N := h1
    have h2 : c = cn_c (au_f (ap_e x (n + 1)) (fun _ => True) q) s := h2
    have cb : c ≤ s := by rw [h2]; exact cn_le _ _
    have vs : vp_in (nI s) 140 := vp_in_nI (by omega) (by decide)
    have cs : (nI s).toNatClampNeg = s := nI_clamp (by omega)
    have cn : cn_c (au_f (ap_e x (n + 1)) (fun _ => True) q) (s + 1) = cn_c (au_f (ap_e x (n + 1)) (fun _ => True) q) s + cn_b (au_f (ap_e x (n + 1)) (fun _ => True) q s) := rfl
    refine br_f (nI_ge hs (by omega)) ?_
    refine loop_0 (fun f' r (_ : Unit) => wY_partAgain_12 post (wY_partAgain_4 post (nI L) h_made h_depth h_length h_tokenCount h_wrong h_letterCount h_ruleCount h_makingCount h_usefulRules h_stateCount h_wideCount h_useCount h_result f) (nI L) (nI c) (nI s) h_made h_depth h_length h_tokenCount h_wrong h_letterCount h_ruleCount h_makingCount h_usefulRules h_stateCount h_wideCount h_useCount h_result b_ops b_firsts b_seconds b_sizes b_stack b_roots b_text b_ends b_tokenKinds b_tokenSizes b_letters b_begins b_closes b_empties b_nexts b_sets D C N b_lefts b_rights b_counts b_making b_firstSets b_followSets b_states b_looks b_wides b_work b_met b_tasks b_held b_uses b_reach f' (nI r)) (fun r _ => ∀ r', r' < r → ¬ ap_e x (n + 1) (q r') (q s)) s () (fun r' hr => absurd hr (Nat.not_lt_zero _)) ?_ ?_
    · intro f' _ hno
      rw [wY_partAgain_12]
      refine yw_isSame (b_newClasses := N) L65 hC hl hs hs (fun e => ?_) (fun e => absurd (au_refl _ _) e)
      refine br_f (by decide) (br_t rfl ⟨vs, nm_r (e' := upd N s (nI c)) (by rw [cs]) (br_t rfl (nm_r (nI_1 c) (nm_r (nI_1 s) (hk (c + 1, upd N s (nI c)) ⟨yc_new (by omega) h1 hno, ?_⟩))))⟩)
      show c + 1 = _
      rw [cn, cn_bt ⟨trivial, fun r' hr _ => hno r' hr⟩, h2]
    · intro f' r _ hr hno hk'
      have nr : ¬ nI r = nI s := fun w => by
        rw [nI_eq (by omega) (by omega)] at w
        omega
      rw [wY_partAgain_12]
      refine yw_isSame (s := r) (b_newClasses := N) L65 hC hl (by omega) hs (fun e => ?_) (fun e => ?_)
      · refine br_f (by decide) (br_f nr ⟨vp_in_nI (by omega) (by decide), ?_⟩)
        refine ⟨vs, nm_r (e' := upd N s (N r)) (by rw [cs, nI_clamp (by omega : r < 2 ^ 31)]) (br_f nr (nm_r (nI_1 s) (hk (c, upd N s (N r)) ⟨yc_old h1 hr e, ?_⟩)))⟩
        show c = _
        rw [cn, cn_bf (fun w => w.2 r hr trivial e)]
        exact h2
      · refine br_t rfl (nm_r (nI_1 r) (hk' () fun r' hr' => ?_))
        by_cases z : r' = r
        · rw [z]; exact e
        · exact hno r' (by omega)
end
section
variable {m : Nat} {ga : Nat → gk_T} {lo op fi se : Nat → Nat}
theorem yw_autoR (hN : yn_N m ga lo op fi se b_ops b_firsts b_seconds b_sizes) (hm : m ≤ 60) {r : Nat} (hr : r < m) {post : Int32 → SY → Prop} (h : ∀ a lc L B C E N S D K K', ap_A (ga r) a → post a (h_made, h_depth, h_length, h_tokenCount, h_wrong, lc, h_ruleCount, h_makingCount, h_usefulRules, h_stateCount, h_wideCount, h_useCount, h_result, b_ops, b_firsts, b_seconds, b_sizes, b_stack, b_roots, b_text, b_ends, b_tokenKinds, b_tokenSizes, L, B, C, E, N, S, D, K, K', b_lefts, b_rights, b_counts, b_making, b_firstSets, b_followSets, b_states, b_looks, b_wides, b_work, b_met, b_tasks, b_held, b_uses, b_reach)) : ∃ n, wY_automaton_31 post (nI r) n (nI 0) h_made h_depth h_length h_tokenCount h_wrong 0 h_ruleCount h_makingCount h_usefulRules h_stateCount h_wideCount h_useCount h_result b_ops b_firsts b_seconds b_sizes b_stack b_roots b_text b_ends b_tokenKinds b_tokenSizes b_letters b_begins b_closes b_empties b_nexts b_sets b_leads b_classes b_newClasses b_lefts b_rights b_counts b_making b_firstSets b_followSets b_states b_looks b_wides b_work b_met b_tasks b_held b_uses b_reach := by
  have hx := (hN r hr).2.1
  have hD := nd_of hN
  have lr := (hN r hr).2.2.2.1
  have wk : wY_automaton_31 post (nI r) (1 + (r + 1 - lo r)) (nI (lo r)) h_made h_depth h_length h_tokenCount h_wrong (nI 0) h_ruleCount h_makingCount h_usefulRules h_stateCount h_wideCount h_useCount h_result b_ops b_firsts b_seconds b_sizes b_stack b_roots b_text b_ends b_tokenKinds b_tokenSizes b_letters b_begins b_closes b_empties b_nexts b_sets b_leads b_classes b_newClasses b_lefts b_rights b_counts b_making b_firstSets b_followSets b_states b_looks b_wides b_work b_met b_tasks b_held b_uses b_reach := by
    refine yw_walk hN hm hr r r (Nat.le_refl _) nd_r 1 0 b_letters b_begins b_closes b_empties b_nexts (by have := hx.1; omega) ?_
    intro L B C E N h1 h2
    refine br_t (nI_lt (Nat.lt_succ_self r) (by omega)) ?_
    rw [Nat.zero_add]
    refine yw_listSets (b_letters := L) (b_begins := B) (b_closes := C) (b_empties := E) (b_nexts := N) hx (by omega) h1 (fun n q S D q1 q2 q3 q4 => ?_)
    have n65 := ll_65 hx q1
    have vr : vp_in (nI r) 60 := vp_in_nI (by omega) (by decide)
    have cr : (nI r).toNatClampNeg = r := nI_clamp (by omega)
    -- the rounds
    have key : ∀ f j c C' N', 66 - j < f → yc_C (ga r) n q (j + 1) C' → ((j = 0 ∧ c = 0) ∨ ∃ j', j = j' + 1 ∧ c = ap_n (ga r) j ∧ ∀ i, i < j' → ap_n (ga r) (i + 1) ≠ ap_n (ga r) (i + 2)) → wY_automaton_146 post (nI n) f (nI (ap_n (ga r) (j + 1))) (nI c) h_made h_depth h_length h_tokenCount h_wrong (nI (gk_c (ga r))) h_ruleCount h_makingCount h_usefulRules h_stateCount h_wideCount h_useCount h_result b_ops b_firsts b_seconds b_sizes b_stack b_roots b_text b_ends b_tokenKinds b_tokenSizes L B C E N S D C' N' b_lefts b_rights b_counts b_making b_firstSets b_followSets b_states b_looks b_wides b_work b_met b_tasks b_held b_uses b_reach := by
      intro f
      induction f with
      | zero => intro j c C' N' z; omega
      | succ f ih =>
        intro j c C' N' hf hC hj
        have n1 := ap_n1 hx (j + 1)
        have n2 := ap_n65 hx (j + 1)
        have j65 : j ≤ 65 ∧ c ≤ 65 := by
          rcases hj with ⟨a, b⟩ | ⟨j', a, b, e⟩
          · omega
          · have a1 := ap_ge hx j' e
            have a2 := ap_n65 hx (j' + 1)
            rw [← a] at a2
            rw [← a] at a1
            omega
        have hf' : 66 - (j + 1) < f := by
          clear hj ih
          omega
        refine pk_eq (ap_n (ga r) (j + 1)) c (fun e => ?_) (fun e => ?_)
        · rcases hj with ⟨a, b⟩ | ⟨j', a, b, e'⟩
          · omega
          · subst a
            exact h _ _ _ _ _ _ _ _ _ _ _ ⟨j', e', by rw [e, b], rfl⟩
        · refine yw_partAgain (b_newClasses := N') hx q1 q2 hC q4 (fun C2 N2 hC2 => ?_)
          refine ih (j + 1) (ap_n (ga r) (j + 1)) C2 N2 hf' hC2 (Or.inr ⟨j, rfl, rfl, fun i hi => ?_⟩)
          rcases hj with ⟨a, b⟩ | ⟨j', a, b, e'⟩
          · omega
          · by_cases z : i = j'
            · rw [z]
              intro w
              subst a
              rw [b] at e
              exact e w.symm
            · exact e' i (by omega)
    -- the first groups
    refine loop_0 (fun f s w => wY_automaton_65 post (nI r) (nI n) h_made h_depth h_length h_tokenCount h_wrong (nI (gk_c (ga r))) h_ruleCount h_makingCount h_usefulRules h_stateCount h_wideCount h_useCount h_result f (nI s) b_ops b_firsts b_seconds b_sizes b_stack b_roots b_text b_ends b_tokenKinds b_tokenSizes L B C E N S D w b_newClasses b_lefts b_rights b_counts b_making b_firstSets b_followSets b_states b_looks b_wides b_work b_met b_tasks b_held b_uses b_reach) (fun s w => ∀ j, j < s → (w j = 1 ∧ ap_c (ga r) (q j)) ∨ (w j = 0 ∧ ¬ ap_c (ga r) (q j))) n b_classes (fun j hj => absurd hj (Nat.not_lt_zero _)) ?_ ?_
    · intro f w hw
      have hC : yc_C (ga r) n q 0 w := by
        intro s s' hs hs'
        show _ ↔ (ap_c (ga r) (q s) ↔ ap_c (ga r) (q s'))
        rcases hw s hs with a | a <;> rcases hw s' hs' with b | b
        · rw [a.1, b.1]; exact ⟨fun _ => ⟨fun _ => b.2, fun _ => a.2⟩, fun _ => rfl⟩
        · rw [a.1, b.1]; exact ⟨(fun k => absurd k (by decide)), fun k => absurd (k.mp a.2) b.2⟩
        · rw [a.1, b.1]; exact ⟨(fun k => absurd k (by decide)), fun k => absurd (k.mpr b.2) a.2⟩
        · rw [a.1, b.1]; exact ⟨fun _ => ⟨fun z => absurd z a.2, fun z => absurd z b.2⟩, fun _ => rfl⟩
      refine br_t (nI_le (Nat.le_refl n) (by omega)) ⟨68, br_f (by decide) ?_⟩
      refine yw_partAgain hx q1 q2 hC q4 (fun C2 N2 hC2 => ?_)
      exact key 67 0 0 C2 N2 (by omega) hC2 (Or.inl ⟨rfl, rfl⟩)
    · intro f s w hs hw hk
      have vs : vp_in (nI s) 140 := vp_in_nI (by omega) (by decide)
      have cs : (nI s).toNatClampNeg = s := nI_clamp (by omega)
      have Rs := q1.2.2.1 s hs
      have s65 := ap_R65 hx Rs
      have one : ap_c (ga r) (q s) → wY_automaton_110 post (wY_automaton_65 post (nI r) (nI n) h_made h_depth h_length h_tokenCount h_wrong (nI (gk_c (ga r))) h_ruleCount h_makingCount h_usefulRules h_stateCount h_wideCount h_useCount h_result f) (nI r) (nI n) (nI s) h_made h_depth h_length h_tokenCount h_wrong (nI (gk_c (ga r))) h_ruleCount h_makingCount h_usefulRules h_stateCount h_wideCount h_useCount h_result b_ops b_firsts b_seconds b_sizes b_stack b_roots b_text b_ends b_tokenKinds b_tokenSizes L B C E N S D w b_newClasses b_lefts b_rights b_counts b_making b_firstSets b_followSets b_states b_looks b_wides b_work b_met b_tasks b_held b_uses b_reach := fun a => by
        refine br_f (by decide) ⟨vs, nm_r (e' := upd w s 1) (by rw [cs]) (nm_r (nI_1 s) (hk _ fun j hj => ?_))⟩
        by_cases z : j = s
        · rw [z, pk_us]; exact Or.inl ⟨rfl, a⟩
        · rw [pk_un z]; exact hw j (by omega)
      have zero : ¬ ap_c (ga r) (q s) → wY_automaton_114 post (wY_automaton_65 post (nI r) (nI n) h_made h_depth h_length h_tokenCount h_wrong (nI (gk_c (ga r))) h_ruleCount h_makingCount h_usefulRules h_stateCount h_wideCount h_useCount h_result f) (nI r) (nI n) (nI s) h_made h_depth h_length h_tokenCount h_wrong (nI (gk_c (ga r))) h_ruleCount h_makingCount h_usefulRules h_stateCount h_wideCount h_useCount h_result b_ops b_firsts b_seconds b_sizes b_stack b_roots b_text b_ends b_tokenKinds b_tokenSizes L B C E N S D w b_newClasses b_lefts b_rights b_counts b_making b_firstSets b_followSets b_states b_looks b_wides b_work b_met b_tasks b_held b_uses b_reach := fun a => by
        refine br_t rfl ⟨vs, nm_r (e' := upd w s 0) (by rw [cs]) (nm_r (nI_1 s) (hk _ fun j hj => ?_))⟩
        by_cases z : j = s
        · rw [z, pk_us]; exact Or.inr ⟨rfl, a⟩
        · rw [pk_un z]; exact hw j (by omega)
      have yb := yv_b s65
      have cl : ∀ b, bt (C r) b = true ↔ gk_en (ga r) b := fun b => by
        rw [h1.2.1 b, Nat.sub_zero]
        exact ⟨fun k => k.2, fun k => ⟨Nat.zero_le _, k⟩⟩
      have c6 := hx.1
      refine br_f (nI_ge hs (by omega)) ⟨vs, vr, ?_⟩
      rw [cs, cr, q3 s hs]
      refine br_c (fun z => ⟨vs, br_c (fun y => ⟨vr, ?_⟩) (fun y => zero ?_)⟩) (fun z => one ?_)
      · have e64 : q s = 64 := by
          have y : nI (yv_v (q s)) = nI (yv_v 64) := y
          exact (yv_e s65 (by omega)).mp y
        rcases h1.2.2.1 with ⟨e, nu⟩ | ⟨e, nu⟩
        · rw [e]
          exact br_f (by decide) (one ⟨6, by rw [e64]; exact (bn_64 6).mpr rfl, Or.inr ⟨rfl, nu⟩⟩)
        · rw [e]
          refine br_t rfl (zero ?_)
          rintro ⟨b, b1, b2 | b2⟩
          · rw [e64] at b1
            have := (bn_64 b).mp b1
            have := hx.2.2.1 b b2
            omega
          · exact nu b2.2
      · rintro ⟨b, b1, b2⟩
        have n64 : q s ≠ 64 := fun w => y (by rw [w]; rfl)
        rcases b2 with b2 | b2
        · exact an_0.mp z b ⟨(yb b).mpr (Or.inr ⟨n64, b1⟩), (cl b).mpr b2⟩
        · rcases ap_Rb hx Rs with w | w
          · exact n64 w
          · have := w.2 b b1
            omega
      · refine Classical.byContradiction fun no => z (an_0.mpr ?_)
        rintro b ⟨b1, b2⟩
        have en := (cl b).mp b2
        have := hx.2.2.1 b en
        rcases (yb b).mp b1 with w | w
        · omega
        · exact no ⟨b, w.2, Or.inl en⟩
  refine ⟨1 + (r + 1 - lo r) + lo r, ?_⟩
  have sk := yw_skip (h_letterCount := nI 0) (post := post) (f := 1 + (r + 1 - lo r)) hN hm hr (lo r) 0 (by omega) (fun j _ hj w => by
    have := nd_in hD hr w
    omega) (by rw [Nat.zero_add]; exact wk)
  exact sk
theorem yw_automaton (hN : yn_N m ga lo op fi se b_ops b_firsts b_seconds b_sizes) (hm : m ≤ 60) {kd : Nat → gk_T} (hR : yn_R m ga b_roots kd) {k : Nat} (hk : k < 3) {post : Int32 → SY → Prop} (h : ∀ a lc L B C E N S D K K', ap_A (kd k) a → post a (h_made, h_depth, h_length, h_tokenCount, h_wrong, lc, h_ruleCount, h_makingCount, h_usefulRules, h_stateCount, h_wideCount, h_useCount, h_result, b_ops, b_firsts, b_seconds, b_sizes, b_stack, b_roots, b_text, b_ends, b_tokenKinds, b_tokenSizes, L, B, C, E, N, S, D, K, K', b_lefts, b_rights, b_counts, b_making, b_firstSets, b_followSets, b_states, b_looks, b_wides, b_work, b_met, b_tasks, b_held, b_uses, b_reach)) : wpY_automaton post (h_made, h_depth, h_length, h_tokenCount, h_wrong, h_letterCount, h_ruleCount, h_makingCount, h_usefulRules, h_stateCount, h_wideCount, h_useCount, h_result, b_ops, b_firsts, b_seconds, b_sizes, b_stack, b_roots, b_text, b_ends, b_tokenKinds, b_tokenSizes, b_letters, b_begins, b_closes, b_empties, b_nexts, b_sets, b_leads, b_classes, b_newClasses, b_lefts, b_rights, b_counts, b_making, b_firstSets, b_followSets, b_states, b_looks, b_wides, b_work, b_met, b_tasks, b_held, b_uses, b_reach) (nI k) := by
  refine br_f (nI_nlt (b := 0) (Nat.zero_le _) (by omega)) (br_t (nI_le (b := 2) (by omega) (by decide)) ⟨vp_in_nI hk (by decide), ?_⟩)
  rw [nI_clamp (by omega : k < 2 ^ 31)]
  rcases hR k hk with ⟨e1, e2⟩ | ⟨r, r1, e1, e2⟩
  · rw [e2] at h
    refine nm_r e1 (br_f (by decide) (h _ _ _ _ _ _ _ _ _ _ _ ap_Anone))
  · rw [e2] at h
    exact nm_r e1 (br_t (nI_le (a := 0) (Nat.zero_le _) (by omega)) (yw_autoR hN hm r1 h))
end
