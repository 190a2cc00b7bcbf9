/-! the component's automaton -/
theorem bo_e {a b : Bool} (h : a = true ↔ b = true) : a = b := by
  cases a <;> cases b
  · rfl
  · exact absurd (h.mpr rfl) (by decide)
  · exact absurd (h.mp rfl) (by decide)
  · rfl
theorem an_0 {x y : Int32} : x &&& y = 0 ↔ ∀ b, ¬ (bt x b = true ∧ bt y b = true) := by
  rw [b_zero]
  constructor
  · rintro h b ⟨h1, h2⟩
    by_cases z : b < 32
    · have := h b z
      rw [b_and, h1, h2] at this
      cases this
    · rw [b_big (by omega)] at h1
      cases h1
  · intro h i _
    rw [b_and]
    cases e1 : bt x i
    · rfl
    · cases e2 : bt y i
      · rfl
      · exact absurd ⟨e1, e2⟩ (h i)
variable {f_depth f_made f_textLength f_tokenCount f_wrongPlace f_ruleCount f_prepared f_rulesInUse f_stateCount f_wideCount f_gradeFound f_readHeight f_tokensTaken f_usedCount : Int32} {a_spotCounts a_ends a_arrows a_takers a_groups a_marks a_text a_tokenKinds a_tokenLengths a_lefts a_rights a_rightSizes a_beginSets a_followSets a_stateSteps a_wideSteps a_readStates a_readValues a_usedRules : Nat → Int32} {a_nextItems a_openItems a_restItems a_stateItems a_stateLooks a_wideLooks : Nat → Int64}
section
variable {x : gk_T} {s : Nat}
theorem xw_after (hS : xs_S a_spotCounts a_ends a_arrows a_takers s x) (hs : s < 11) {m l : Nat} (hl : l < 3) (hm : ap_R x m) {post : Int32 → Prop} (h : post (nI (ap_d x m l))) : wpX_spotsAfter post (f_depth, f_made, f_textLength, f_tokenCount, f_wrongPlace, f_ruleCount, f_prepared, f_rulesInUse, f_stateCount, f_wideCount, f_gradeFound, f_readHeight, f_tokensTaken, f_usedCount, a_spotCounts, a_ends, a_arrows, a_takers, a_groups, a_marks, a_text, a_tokenKinds, a_tokenLengths, a_lefts, a_rights, a_rightSizes, a_beginSets, a_followSets, a_nextItems, a_openItems, a_restItems, a_stateItems, a_stateSteps, a_stateLooks, a_wideSteps, a_wideLooks, a_readStates, a_readValues, a_usedRules) (nI s) (nI m) (nI l) := by
  obtain ⟨g0, g1, g2, g3, g4, g5⟩ := hS
  refine xw_spotsAfter hs hl (fun r hr => ?_)
  have e : r = nI (ap_d x m l) := by
    apply b_ext
    intro i hi
    apply bo_e
    unfold ap_d
    rw [hr, sm_b, g5 l i hl]
    constructor
    · rintro ⟨⟨a, a7, a1, a2⟩, k⟩
      have i6 := g0.2.2.2.2 i l k
      have c6 := g0.1
      refine ⟨by omega, ⟨a, a1, ?_⟩, k⟩
      rcases ap_Rc g0 hm a1 with z | z
      · exact Or.inr ⟨z, (g3 a i z).mp a2⟩
      · rw [z] at a2
        exact Or.inl ⟨z, (g4 i).mp a2⟩
    · rintro ⟨_, ⟨a, a1, a2⟩, k⟩
      refine ⟨⟨a, ?_, a1, ?_⟩, k⟩
      · have c6 := g0.1
        rcases ap_Rc g0 hm a1 with z | z <;> omega
      · rcases a2 with ⟨z, a2⟩ | ⟨z, a2⟩
        · rw [z]; exact (g4 i).mpr a2
        · exact (g3 a i z).mpr a2
  rw [e]
  exact h
theorem xw_acc (hS : xs_S a_spotCounts a_ends a_arrows a_takers s x) (hs : s < 11) (m : Nat) {post : Int32 → Prop} (h1 : ap_c x m → post 1) (h0 : ¬ ap_c x m → post 0) : wpX_accepting post (f_depth, f_made, f_textLength, f_tokenCount, f_wrongPlace, f_ruleCount, f_prepared, f_rulesInUse, f_stateCount, f_wideCount, f_gradeFound, f_readHeight, f_tokensTaken, f_usedCount, a_spotCounts, a_ends, a_arrows, a_takers, a_groups, a_marks, a_text, a_tokenKinds, a_tokenLengths, a_lefts, a_rights, a_rightSizes, a_beginSets, a_followSets, a_nextItems, a_openItems, a_restItems, a_stateItems, a_stateSteps, a_stateLooks, a_wideSteps, a_wideLooks, a_readStates, a_readValues, a_usedRules) (nI s) (nI m) := by
  refine ⟨vp_in_nI hs (by decide), ?_⟩
  rw [nI_clamp (by omega : s < 2 ^ 31)]
  refine br_c (fun z => h0 ?_) (fun z => h1 ?_)
  · rintro ⟨b, b1, b2⟩
    exact an_0.mp z b ⟨b1, (hS.2.2.1 b).mpr b2⟩
  · refine Classical.byContradiction fun y => z (an_0.mpr fun b hb => y ⟨b, hb.1, (hS.2.2.1 b).mp hb.2⟩)
theorem xw_findSpotSets (hS : xs_S a_spotCounts a_ends a_arrows a_takers s x) (hs : s < 11) {post : SX → Prop} (h : ∀ G M, xa_G x 0 G → post (f_depth, f_made, f_textLength, f_tokenCount, f_wrongPlace, f_ruleCount, f_prepared, f_rulesInUse, f_stateCount, f_wideCount, f_gradeFound, f_readHeight, f_tokensTaken, f_usedCount, a_spotCounts, a_ends, a_arrows, a_takers, G, M, a_text, a_tokenKinds, a_tokenLengths, a_lefts, a_rights, a_rightSizes, a_beginSets, a_followSets, a_nextItems, a_openItems, a_restItems, a_stateItems, a_stateSteps, a_stateLooks, a_wideSteps, a_wideLooks, a_readStates, a_readValues, a_usedRules)) : wpX_findSpotSets post (f_depth, f_made, f_textLength, f_tokenCount, f_wrongPlace, f_ruleCount, f_prepared, f_rulesInUse, f_stateCount, f_wideCount, f_gradeFound, f_readHeight, f_tokensTaken, f_usedCount, a_spotCounts, a_ends, a_arrows, a_takers, a_groups, a_marks, a_text, a_tokenKinds, a_tokenLengths, a_lefts, a_rights, a_rightSizes, a_beginSets, a_followSets, a_nextItems, a_openItems, a_restItems, a_stateItems, a_stateSteps, a_stateLooks, a_wideSteps, a_wideLooks, a_readStates, a_readValues, a_usedRules) (nI s) := by
  have hx := hS.1
  have key : ∀ f i L q G M, 65 - i < f → xl_L x L q G M → ll_d x L q i 0 → i ≤ L → wX_findSpotSets_48 post (nI s) f_depth f_made f_textLength f_tokenCount f_wrongPlace f_ruleCount f_prepared f_rulesInUse f_stateCount f_wideCount f_gradeFound f_readHeight f_tokensTaken f_usedCount f (nI L) (nI i) a_spotCounts a_ends a_arrows a_takers G M a_text a_tokenKinds a_tokenLengths a_lefts a_rights a_rightSizes a_beginSets a_followSets a_nextItems a_openItems a_restItems a_stateItems a_stateSteps a_stateLooks a_wideSteps a_wideLooks a_readStates a_readValues a_usedRules := by
    intro f
    induction f with
    | zero => intro i L q G M q1; omega
    | succ f ih =>
      intro i L q G M hf hL hd hi
      have L65 := ll_65 hx hL.1
      refine pk_le L i (fun z => ?_) (fun z => br_f (nI_ge (a := i) (b := 128) (by omega) (by decide)) ?_)
      · have e : i = L := by omega
        rw [e] at hd
        exact h G M (xl_end hL hd)
      · refine loop_0 (fun n l (w : Nat × (Nat → Nat) × (Nat → Int32) × (Nat → Int32)) => wX_findSpotSets_63 post (wX_findSpotSets_48 post (nI s) f_depth f_made f_textLength f_tokenCount f_wrongPlace f_ruleCount f_prepared f_rulesInUse f_stateCount f_wideCount f_gradeFound f_readHeight f_tokensTaken f_usedCount f) (nI s) (nI i) f_depth f_made f_textLength f_tokenCount f_wrongPlace f_ruleCount f_prepared f_rulesInUse f_stateCount f_wideCount f_gradeFound f_readHeight f_tokensTaken f_usedCount n (nI w.1) (nI l) a_spotCounts a_ends a_arrows a_takers w.2.2.1 w.2.2.2 a_text a_tokenKinds a_tokenLengths a_lefts a_rights a_rightSizes a_beginSets a_followSets a_nextItems a_openItems a_restItems a_stateItems a_stateSteps a_stateLooks a_wideSteps a_wideLooks a_readStates a_readValues a_usedRules) (fun l w => xl_L x w.1 w.2.1 w.2.2.1 w.2.2.2 ∧ ll_d x w.1 w.2.1 i l ∧ i < w.1) 3 (L, q, G, M) ⟨hL, hd, z⟩ ?_ ?_
        · rintro n ⟨L', q', G', M'⟩ ⟨h1, h2, h3⟩
          have h3 : i < L' := h3
          have L65' := ll_65 hx (show ll_q x L' q' from h1.1)
          exact br_t (nI_le (Nat.le_refl 3) (by decide)) (nm_r (nI_1 i) (ih (i + 1) L' q' G' M' (by omega) h1 (ll_d3 h2) h3))
        · rintro n l ⟨L', q', G', M'⟩ hl ⟨h1, h2, h3⟩ hk
          have h3 : i < L' := h3
          have h2 : ll_d x L' q' i l := h2
          have h1 : xl_L x L' q' G' M' := h1
          have L65' := ll_65 hx h1.1
          have Ri := h1.1.2.2.1 i h3
          refine br_f (nI_ge hl (by decide)) ⟨vp_in_nI (by omega) (by decide), ?_⟩
          dsimp only
          rw [nI_clamp (by omega : i < 2 ^ 31), h1.2.1 i h3]
          refine xw_after (a_groups := G') (a_marks := M') hS hs hl Ri ?_
          have Rm := ap_R1 Ri hl
          have m128 : ap_d x (q' i) l < 128 := sm_128 _
          have hm : ∃ m, m = ap_d x (q' i) l := ⟨_, rfl⟩
          obtain ⟨m, em⟩ := hm
          rw [← em] at Rm m128 ⊢
          refine ⟨vp_in_nI m128 (by decide), ?_⟩
          rw [nI_clamp (by omega : m < 2 ^ 31)]
          rcases h1.2.2 m m128 with ⟨⟨j, j1, j2⟩, k⟩ | ⟨no, k⟩
          · have ge : (0 : Int32) ≤ G' m := by
              rcases k with k | k <;> rw [k.1] <;> decide
            exact br_t ge (nm_r (nI_1 l) (hk (L', q', G', M') ⟨h1, ll_ds h2 j1 (j2.trans em), h3⟩))
          · refine br_f (by rw [k]; decide) (br_f (nI_ge (a := L') (b := 128) (by omega) (by decide)) ?_)
            have fin : ∀ v : Int32, (v = 1 ∧ ap_c x m) ∨ (v = 0 ∧ ¬ ap_c x m) → xl_L x (L' + 1) (gh_u q' L' m) (upd G' m v) (upd M' L' (nI m)) ∧ ll_d x (L' + 1) (gh_u q' L' m) i (l + 1) ∧ i < L' + 1 := fun v hv =>
              ⟨xl_add h1 Rm no hv, ll_ds (ll_dk h2 h3) (j := L') (by omega) (by rw [gh_s, gh_n (by omega), em]), by omega⟩
            refine xw_acc (a_groups := G') (a_marks := M') hS hs m (fun c => ?_) (fun c => ?_)
            · exact ⟨vp_in_nI m128 (by decide), nm_r (e' := upd G' m 1) rfl ⟨vp_in_nI (by omega) (by decide), nm_r (e' := upd M' L' (nI m)) (by rw [nI_clamp (by omega : L' < 2 ^ 31)]) (nm_r (nI_1 L') (nm_r (nI_1 l) (hk (L' + 1, gh_u q' L' m, upd G' m 1, upd M' L' (nI m)) (fin 1 (Or.inl ⟨rfl, c⟩)))))⟩⟩
            · exact ⟨vp_in_nI m128 (by decide), nm_r (e' := upd G' m 0) rfl ⟨vp_in_nI (by omega) (by decide), nm_r (e' := upd M' L' (nI m)) (by rw [nI_clamp (by omega : L' < 2 ^ 31)]) (nm_r (nI_1 L') (nm_r (nI_1 l) (hk (L' + 1, gh_u q' L' m, upd G' m 0, upd M' L' (nI m)) (fin 0 (Or.inr ⟨rfl, c⟩)))))⟩⟩
  refine loop_0 (fun n i w => wX_findSpotSets_2 post (nI s) f_depth f_made f_textLength f_tokenCount f_wrongPlace f_ruleCount f_prepared f_rulesInUse f_stateCount f_wideCount f_gradeFound f_readHeight f_tokensTaken f_usedCount n (nI i) a_spotCounts a_ends a_arrows a_takers w a_marks a_text a_tokenKinds a_tokenLengths a_lefts a_rights a_rightSizes a_beginSets a_followSets a_nextItems a_openItems a_restItems a_stateItems a_stateSteps a_stateLooks a_wideSteps a_wideLooks a_readStates a_readValues a_usedRules) (fun i w => ∀ m, m < i → w m = -1) 128 a_groups (fun m hm => absurd hm (Nat.not_lt_zero _)) ?_ ?_
  · intro n w hw
    refine br_t (nI_le (Nat.le_refl 128) (by decide)) (nm_e ?_)
    have fin : ∀ v : Int32, (v = 1 ∧ ap_c x 64) ∨ (v = 0 ∧ ¬ ap_c x 64) → wX_findSpotSets_48 post (nI s) f_depth f_made f_textLength f_tokenCount f_wrongPlace f_ruleCount f_prepared f_rulesInUse f_stateCount f_wideCount f_gradeFound f_readHeight f_tokensTaken f_usedCount 66 (nI 1) (nI 0) a_spotCounts a_ends a_arrows a_takers (upd w 64 v) (upd a_marks 0 64) a_text a_tokenKinds a_tokenLengths a_lefts a_rights a_rightSizes a_beginSets a_followSets a_nextItems a_openItems a_restItems a_stateItems a_stateSteps a_stateLooks a_wideSteps a_wideLooks a_readStates a_readValues a_usedRules := fun v hv =>
      key 66 0 1 (fun _ => 64) _ _ (by omega) (xl_0 hv hw) (fun i' l' _ hh => by omega) (by omega)
    exact xw_acc (a_groups := w) (a_marks := upd a_marks 0 64) hS hs 64 (fun c => nm_e ⟨66, fin 1 (Or.inl ⟨rfl, c⟩)⟩) (fun c => nm_e ⟨66, fin 0 (Or.inr ⟨rfl, c⟩)⟩)
  · intro n i w hi hw hk
    refine br_f (nI_ge hi (by decide)) ⟨vp_in_nI (by omega) (by decide), nm_r (e' := upd w i (-1)) (by rw [nI_clamp (by omega : i < 2 ^ 31)]) (nm_r (nI_1 i) (hk _ fun m hm => ?_))⟩
    by_cases z : m = i
    · rw [z, pk_us]
    · rw [pk_un z]; exact hw m (by omega)
theorem xw_markSpotSets (hS : xs_S a_spotCounts a_ends a_arrows a_takers s x) (hs : s < 11) {k : Nat} {G : Nat → Int32} (hG : xa_G x k G) {post : SX → Prop} (h : ∀ M, xa_M x k M → post (f_depth, f_made, f_textLength, f_tokenCount, f_wrongPlace, f_ruleCount, f_prepared, f_rulesInUse, f_stateCount, f_wideCount, f_gradeFound, f_readHeight, f_tokensTaken, f_usedCount, a_spotCounts, a_ends, a_arrows, a_takers, G, M, a_text, a_tokenKinds, a_tokenLengths, a_lefts, a_rights, a_rightSizes, a_beginSets, a_followSets, a_nextItems, a_openItems, a_restItems, a_stateItems, a_stateSteps, a_stateLooks, a_wideSteps, a_wideLooks, a_readStates, a_readValues, a_usedRules)) : wpX_markSpotSets post (f_depth, f_made, f_textLength, f_tokenCount, f_wrongPlace, f_ruleCount, f_prepared, f_rulesInUse, f_stateCount, f_wideCount, f_gradeFound, f_readHeight, f_tokensTaken, f_usedCount, a_spotCounts, a_ends, a_arrows, a_takers, G, a_marks, a_text, a_tokenKinds, a_tokenLengths, a_lefts, a_rights, a_rightSizes, a_beginSets, a_followSets, a_nextItems, a_openItems, a_restItems, a_stateItems, a_stateSteps, a_stateLooks, a_wideSteps, a_wideLooks, a_readStates, a_readValues, a_usedRules) (nI s) := by
  have hx := hS.1
  obtain ⟨kk, hk1, hk2⟩ := xa_kk hG
  refine loop_0 (fun n i w => wX_markSpotSets_2 post (nI s) f_depth f_made f_textLength f_tokenCount f_wrongPlace f_ruleCount f_prepared f_rulesInUse f_stateCount f_wideCount f_gradeFound f_readHeight f_tokensTaken f_usedCount n (nI i) a_spotCounts a_ends a_arrows a_takers G w a_text a_tokenKinds a_tokenLengths a_lefts a_rights a_rightSizes a_beginSets a_followSets a_nextItems a_openItems a_restItems a_stateItems a_stateSteps a_stateLooks a_wideSteps a_wideLooks a_readStates a_readValues a_usedRules) (fun i w => ∀ m, m < i → (ap_R x m → w m = nI (xa_k x kk m 3)) ∧ (¬ ap_R x m → w m = -1)) 128 a_marks (fun m hm => absurd hm (Nat.not_lt_zero _)) ?_ ?_
  · intro n w hw
    exact br_t (nI_le (Nat.le_refl 128) (by decide)) (h w (xa_GM hx hG hk1 hk2 hw))
  · intro n m w hm hw hk
    have vm : vp_in (nI m) 128 := vp_in_nI hm (by decide)
    have cm : (nI m).toNatClampNeg = m := nI_clamp (by omega)
    refine br_f (nI_ge hm (by decide)) ⟨vm, nm_r (e' := upd w m (-1)) (by rw [cm]) ⟨vm, ?_⟩⟩
    rw [cm]
    by_cases R : ap_R x m
    · have ge : ¬ G m < 0 := by rw [hk2 m hm R]; exact nI_nlt (b := 0) (Nat.zero_le _) (by have := hk1 m; omega)
      refine br_f ge ⟨vm, nm_r (e' := nI (kk m)) (hk2 m hm R) ?_⟩
      refine loop_0 (fun f l y => wX_markSpotSets_35 post (wX_markSpotSets_2 post (nI s) f_depth f_made f_textLength f_tokenCount f_wrongPlace f_ruleCount f_prepared f_rulesInUse f_stateCount f_wideCount f_gradeFound f_readHeight f_tokensTaken f_usedCount n) (nI s) (nI m) f_depth f_made f_textLength f_tokenCount f_wrongPlace f_ruleCount f_prepared f_rulesInUse f_stateCount f_wideCount f_gradeFound f_readHeight f_tokensTaken f_usedCount a_spotCounts a_ends a_arrows a_takers G (upd w m (-1)) a_text a_tokenKinds a_tokenLengths a_lefts a_rights a_rightSizes a_beginSets a_followSets a_nextItems a_openItems a_restItems a_stateItems a_stateSteps a_stateLooks a_wideSteps a_wideLooks a_readStates a_readValues a_usedRules f y (nI l)) (fun l y => y = nI (xa_k x kk m l)) 3 (nI (kk m)) rfl ?_ ?_
      · rintro f y rfl
        refine br_t (nI_le (Nat.le_refl 3) (by decide)) ⟨vm, nm_r (e' := upd (upd w m (-1)) m (nI (xa_k x kk m 3))) (by rw [cm]) (nm_r (nI_1 m) (hk _ fun j hj => ?_))⟩
        by_cases z : j = m
        · rw [z, pk_us]; exact ⟨fun _ => rfl, fun q => absurd R q⟩
        · rw [pk_un z, pk_un z]; exact hw j (by omega)
      · rintro f l y hl rfl hk'
        refine br_f (nI_ge hl (by decide)) (xw_after (a_groups := G) (a_marks := upd w m (-1)) hS hs hl R ⟨vp_in_nI (sm_128 _) (by decide), nm_r (e' := nI (xa_k x kk m (l + 1))) ?_ (nm_r (nI_1 l) (hk' _ rfl))⟩)
        have d128 : ap_d x m l < 128 := sm_128 _
        rw [nI_clamp (by omega : ap_d x m l < 2 ^ 31), hk2 _ d128 (ap_R1 R hl)]
        have b := xa_kb (x := x) hk1 m
        have bl : xa_k x kk m l < 2 ^ 21 := by
          have hl : l = 0 ∨ l = 1 ∨ l = 2 := by omega
          rcases hl with rfl | rfl | rfl <;> omega
        exact sh_or bl (hk1 _)
    · have lt : G m < 0 := by rw [(hG m hm).1 R]; decide
      refine br_t lt (nm_r (nI_1 m) (hk _ fun j hj => ?_))
      by_cases z : j = m
      · rw [z, pk_us]; exact ⟨fun q => absurd q R, fun _ => rfl⟩
      · rw [pk_un z]; exact hw j (by omega)
theorem xw_regroup (hx : gk_wf x) {k : Nat} {G M : Nat → Int32} (hG : xa_G x k G) (hM : xa_M x k M) {post : Int32 → SX → Prop} (h : ∀ G', xa_G x (k + 1) G' → post (nI (ap_n x (k + 1))) (f_depth, f_made, f_textLength, f_tokenCount, f_wrongPlace, f_ruleCount, f_prepared, f_rulesInUse, f_stateCount, f_wideCount, f_gradeFound, f_readHeight, f_tokensTaken, f_usedCount, a_spotCounts, a_ends, a_arrows, a_takers, G', M, a_text, a_tokenKinds, a_tokenLengths, a_lefts, a_rights, a_rightSizes, a_beginSets, a_followSets, a_nextItems, a_openItems, a_restItems, a_stateItems, a_stateSteps, a_stateLooks, a_wideSteps, a_wideLooks, a_readStates, a_readValues, a_usedRules)) : wpX_regroupSpotSets post (f_depth, f_made, f_textLength, f_tokenCount, f_wrongPlace, f_ruleCount, f_prepared, f_rulesInUse, f_stateCount, f_wideCount, f_gradeFound, f_readHeight, f_tokensTaken, f_usedCount, a_spotCounts, a_ends, a_arrows, a_takers, G, M, a_text, a_tokenKinds, a_tokenLengths, a_lefts, a_rights, a_rightSizes, a_beginSets, a_followSets, a_nextItems, a_openItems, a_restItems, a_stateItems, a_stateSteps, a_stateLooks, a_wideSteps, a_wideLooks, a_readStates, a_readValues, a_usedRules) := by
  refine loop_0 (fun n m (w : Nat × (Nat → Int32)) => wX_regroupSpotSets_4 post f_depth f_made f_textLength f_tokenCount f_wrongPlace f_ruleCount f_prepared f_rulesInUse f_stateCount f_wideCount f_gradeFound f_readHeight f_tokensTaken f_usedCount n (nI w.1) (nI m) a_spotCounts a_ends a_arrows a_takers w.2 M a_text a_tokenKinds a_tokenLengths a_lefts a_rights a_rightSizes a_beginSets a_followSets a_nextItems a_openItems a_restItems a_stateItems a_stateSteps a_stateLooks a_wideSteps a_wideLooks a_readStates a_readValues a_usedRules) (fun m w => w.1 = cn_c (au_f (ap_e x (k + 1)) (ap_R x) (fun m => m)) m ∧ (∀ j, j < m → (¬ ap_R x j → w.2 j = -1) ∧ (ap_R x j → ∃ i, i ≤ j ∧ w.2 j = nI i ∧ M i = M j ∧ ∀ i', i' < i → M i' ≠ M j)) ∧ ∀ j, m ≤ j → w.2 j = G j) 128 (0, G) ⟨rfl, fun j hj => absurd hj (Nat.not_lt_zero _), fun _ _ => rfl⟩ ?_ ?_
  · rintro n ⟨c, W⟩ ⟨h1, h2, h3⟩
    have h1 : c = ap_n x (k + 1) := h1
    subst h1
    exact br_t (nI_le (Nat.le_refl 128) (by decide)) (h W (xa_MG hM h2))
  · rintro n m ⟨c, W⟩ hm ⟨h1, h2, h3⟩ hk
    have h1 : c = cn_c (au_f (ap_e x (k + 1)) (ap_R x) (fun m => m)) m := h1
    have h2 : ∀ j, j < m → (¬ ap_R x j → W j = -1) ∧ (ap_R x j → ∃ i, i ≤ j ∧ W j = nI i ∧ M i = M j ∧ ∀ i', i' < i → M i' ≠ M j) := h2
    have h3 : ∀ j, m ≤ j → W j = G j := h3
    have vm : vp_in (nI m) 128 := vp_in_nI hm (by decide)
    have cm : (nI m).toNatClampNeg = m := nI_clamp (by omega)
    refine br_f (nI_ge hm (by decide)) ⟨vm, ?_⟩
    dsimp only
    rw [cm, h3 m (Nat.le_refl _)]
    by_cases R : ap_R x m
    · obtain ⟨g0, g1, g2⟩ := (hG m hm).2.1 R
      have ge : ¬ G m < 0 := by rw [g2]; exact nI_nlt (b := 0) (Nat.zero_le _) (by omega)
      refine br_f ge ?_
      have fin : ∀ i, i ≤ m → M i = M m → (∀ i', i' < i → M i' ≠ M m) → wX_regroupSpotSets_48 post (wX_regroupSpotSets_4 post f_depth f_made f_textLength f_tokenCount f_wrongPlace f_ruleCount f_prepared f_rulesInUse f_stateCount f_wideCount f_gradeFound f_readHeight f_tokensTaken f_usedCount n) (nI c) (nI m) (nI i) f_depth f_made f_textLength f_tokenCount f_wrongPlace f_ruleCount f_prepared f_rulesInUse f_stateCount f_wideCount f_gradeFound f_readHeight f_tokensTaken f_usedCount a_spotCounts a_ends a_arrows a_takers W M a_text a_tokenKinds a_tokenLengths a_lefts a_rights a_rightSizes a_beginSets a_followSets a_nextItems a_openItems a_restItems a_stateItems a_stateSteps a_stateLooks a_wideSteps a_wideLooks a_readStates a_readValues a_usedRules := by
        intro i im e1 e2
        have ff := xa_first hM hm R im e1 e2
        have done : ∀ j, j < m + 1 → (¬ ap_R x j → upd W m (nI i) j = -1) ∧ (ap_R x j → ∃ i_1, i_1 ≤ j ∧ upd W m (nI i) j = nI i_1 ∧ M i_1 = M j ∧ ∀ i', i' < i_1 → M i' ≠ M j) := by
          intro j hj
          by_cases z : j = m
          · rw [z, pk_us]
            exact ⟨fun q => absurd R q, fun _ => ⟨i, im, rfl, e1, e2⟩⟩
          · rw [pk_un z]; exact h2 j (by omega)
        have rest : ∀ j, m + 1 ≤ j → upd W m (nI i) j = G j := fun j hj => by rw [pk_un (by omega)]; exact h3 j (by omega)
        have cs : cn_c (au_f (ap_e x (k + 1)) (ap_R x) (fun m => m)) (m + 1) = cn_c (au_f (ap_e x (k + 1)) (ap_R x) (fun m => m)) m + cn_b (au_f (ap_e x (k + 1)) (ap_R x) (fun m => m) m) := rfl
        refine ⟨vm, nm_r (e' := upd W m (nI i)) (by rw [cm]) (pk_eq i m (fun e => nm_r (nI_1 c) (nm_r (nI_1 m) (hk (c + 1, upd W m (nI i)) ⟨?_, done, rest⟩))) (fun e => nm_r (nI_1 m) (hk (c, upd W m (nI i)) ⟨?_, done, rest⟩)))⟩
        · show c + 1 = _
          rw [cs, cn_bt (ff.mp e), h1]
        · show c = _
          rw [cs, cn_bf (fun q => e (ff.mpr q))]
          exact h1
      refine loop_0 (fun f i (_ : Unit) => wX_regroupSpotSets_22 post (wX_regroupSpotSets_4 post f_depth f_made f_textLength f_tokenCount f_wrongPlace f_ruleCount f_prepared f_rulesInUse f_stateCount f_wideCount f_gradeFound f_readHeight f_tokensTaken f_usedCount n) (nI c) (nI m) f_depth f_made f_textLength f_tokenCount f_wrongPlace f_ruleCount f_prepared f_rulesInUse f_stateCount f_wideCount f_gradeFound f_readHeight f_tokensTaken f_usedCount a_spotCounts a_ends a_arrows a_takers W M a_text a_tokenKinds a_tokenLengths a_lefts a_rights a_rightSizes a_beginSets a_followSets a_nextItems a_openItems a_restItems a_stateItems a_stateSteps a_stateLooks a_wideSteps a_wideLooks a_readStates a_readValues a_usedRules f (nI i)) (fun i _ => ∀ i', i' < i → M i' ≠ M m) m () (fun i' hi => absurd hi (Nat.not_lt_zero _)) ?_ ?_
      · intro f _ hno
        exact br_t (nI_le (Nat.le_refl m) (by omega)) (fin m (Nat.le_refl _) rfl hno)
      · intro f i _ hi hno hk'
        refine br_f (nI_ge hi (by omega)) ⟨vp_in_nI (by omega) (by decide), vm, ?_⟩
        rw [cm, nI_clamp (by omega : i < 2 ^ 31)]
        refine br_c (fun e => fin i (by omega) e hno) (fun e => nm_r (nI_1 i) (hk' () fun i' hi' => ?_))
        by_cases z : i' = i
        · rw [z]; exact e
        · exact hno i' (by omega)
    · have lt : G m < 0 := by rw [(hG m hm).1 R]; decide
      refine br_t lt (nm_r (nI_1 m) (hk (c, W) ⟨?_, fun j hj => ?_, fun j hj => h3 j (by omega)⟩))
      · show c = cn_c (au_f (ap_e x (k + 1)) (ap_R x) (fun m => m)) m + cn_b (au_f (ap_e x (k + 1)) (ap_R x) (fun m => m) m)
        rw [cn_bf (fun q => R q.1)]
        exact h1
      · by_cases z : j = m
        · rw [z]
          exact ⟨fun _ => (h3 m (Nat.le_refl _)).trans ((hG m hm).1 R), fun q => absurd q R⟩
        · exact h2 j (by omega)
theorem xw_automaton {k : Nat} (hk : k < 3) (hS : xs_S a_spotCounts a_ends a_arrows a_takers (8 + k) x) {post : Int32 → SX → Prop} (h : ∀ r G M, ap_A x r → post r (f_depth, f_made, f_textLength, f_tokenCount, f_wrongPlace, f_ruleCount, f_prepared, f_rulesInUse, f_stateCount, f_wideCount, f_gradeFound, f_readHeight, f_tokensTaken, f_usedCount, a_spotCounts, a_ends, a_arrows, a_takers, G, M, a_text, a_tokenKinds, a_tokenLengths, a_lefts, a_rights, a_rightSizes, a_beginSets, a_followSets, a_nextItems, a_openItems, a_restItems, a_stateItems, a_stateSteps, a_stateLooks, a_wideSteps, a_wideLooks, a_readStates, a_readValues, a_usedRules)) : wpX_automaton post (f_depth, f_made, f_textLength, f_tokenCount, f_wrongPlace, f_ruleCount, f_prepared, f_rulesInUse, f_stateCount, f_wideCount, f_gradeFound, f_readHeight, f_tokensTaken, f_usedCount, a_spotCounts, a_ends, a_arrows, a_takers, a_groups, a_marks, a_text, a_tokenKinds, a_tokenLengths, a_lefts, a_rights, a_rightSizes, a_beginSets, a_followSets, a_nextItems, a_openItems, a_restItems, a_stateItems, a_stateSteps, a_stateLooks, a_wideSteps, a_wideLooks, a_readStates, a_readValues, a_usedRules) (nI k) := by
  have hx := hS.1
  have key : ∀ f j c G M, 66 - j < f → xa_G x j G → ((j = 0 ∧ c = 0) ∨ ∃ j', j = j' + 1 ∧ c = ap_n x j ∧ ∀ i, i < j' → ap_n x (i + 1) ≠ ap_n x (i + 2)) → wX_automaton_26 post (nI (8 + k)) f (nI c) (nI j) f_depth f_made f_textLength f_tokenCount f_wrongPlace f_ruleCount f_prepared f_rulesInUse f_stateCount f_wideCount f_gradeFound f_readHeight f_tokensTaken f_usedCount a_spotCounts a_ends a_arrows a_takers G M a_text a_tokenKinds a_tokenLengths a_lefts a_rights a_rightSizes a_beginSets a_followSets a_nextItems a_openItems a_restItems a_stateItems a_stateSteps a_stateLooks a_wideSteps a_wideLooks a_readStates a_readValues a_usedRules := by
    intro f
    induction f with
    | zero => intro j c G M q; omega
    | succ f ih =>
      intro j c G M hf hG hj
      have j65 : j ≤ 65 ∧ c ≤ 65 := by
        rcases hj with ⟨a, b⟩ | ⟨j', a, b, e⟩
        · omega
        · have a1 := ap_ge hx j' e
          have a2 := ap_n65 hx (j' + 1)
          rw [← a] at a2
          rw [← a] at a1
          omega
      have n1 := ap_n1 hx (j + 1)
      have n65 := ap_n65 hx (j + 1)
      have hf' : 66 - (j + 1) < f := by
        clear hj ih
        omega
      refine br_f (nI_ge (a := j) (b := 128) (by omega) (by decide)) ?_
      refine xw_markSpotSets hS (by omega) hG (fun M' hM => ?_)
      refine xw_regroup hx hG hM (fun G' hG' => ?_)
      refine pk_eq (ap_n x (j + 1)) c (fun e => ?_) (fun e => nm_r (nI_1 j) (ih (j + 1) (ap_n x (j + 1)) G' M' hf' hG' (Or.inr ⟨j, rfl, rfl, fun i hi => ?_⟩)))
      · rcases hj with ⟨a, b⟩ | ⟨j', a, b, e'⟩
        · omega
        · subst a
          exact h _ G' M' ⟨j', e', by rw [e, b], rfl⟩
      · rcases hj with ⟨a, b⟩ | ⟨j', a, b, e'⟩
        · omega
        · by_cases z : i = j'
          · rw [z]
            intro q
            subst a
            rw [b] at e
            exact e q.symm
          · exact e' i (by omega)
  refine br_f (nI_nlt (b := 0) (Nat.zero_le _) (by omega)) (br_t (nI_lt (b := 3) hk (by decide)) (nm_r (ix_8 k) ?_))
  exact xw_findSpotSets hS (by omega) (fun G M hG => ⟨67, key 67 0 0 G M (by omega) hG (Or.inl ⟨rfl, rfl⟩)⟩)
end
