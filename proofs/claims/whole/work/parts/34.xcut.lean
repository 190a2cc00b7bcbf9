/-! the component's tokens -/
variable {f_depth f_made f_textLength f_tokenCount f_wrongPlace f_ruleCount f_prepared f_rulesInUse f_stateCount f_wideCount f_gradeFound f_readHeight f_tokensTaken f_usedCount : Int32} {a_spotCounts a_ends a_arrows a_takers a_groups a_marks a_text a_tokenKinds a_tokenLengths a_lefts a_rights a_rightSizes a_beginSets a_followSets a_stateSteps a_wideSteps a_readStates a_readValues a_usedRules : Nat → Int32} {a_nextItems a_openItems a_restItems a_stateItems a_stateLooks a_wideLooks : Nat → Int64}
theorem xw_spotsAfter {s l : Nat} {x : Int32} (hs : s < 11) (hl : l < 3) {post : Int32 → Prop} (h : ∀ r, (∀ b, bt r b = true ↔ (∃ a, a < 7 ∧ bt x a = true ∧ bt (a_arrows (s * 7 + a)) b = true) ∧ bt (a_takers (s * 3 + l)) b = true) → post r) : wpX_spotsAfter post (f_depth, f_made, f_textLength, f_tokenCount, f_wrongPlace, f_ruleCount, f_prepared, f_rulesInUse, f_stateCount, f_wideCount, f_gradeFound, f_readHeight, f_tokensTaken, f_usedCount, a_spotCounts, a_ends, a_arrows, a_takers, a_groups, a_marks, a_text, a_tokenKinds, a_tokenLengths, a_lefts, a_rights, a_rightSizes, a_beginSets, a_followSets, a_nextItems, a_openItems, a_restItems, a_stateItems, a_stateSteps, a_stateLooks, a_wideSteps, a_wideLooks, a_readStates, a_readValues, a_usedRules) (nI s) x (nI l) := by
  refine loop_0 (fun k i z => wX_spotsAfter_6 post (nI s) x (nI l) f_depth f_made f_textLength f_tokenCount f_wrongPlace f_ruleCount f_prepared f_rulesInUse f_stateCount f_wideCount f_gradeFound f_readHeight f_tokensTaken f_usedCount a_spotCounts a_ends a_arrows a_takers a_groups a_marks a_text a_tokenKinds a_tokenLengths a_lefts a_rights a_rightSizes a_beginSets a_followSets a_nextItems a_openItems a_restItems a_stateItems a_stateSteps a_stateLooks a_wideSteps a_wideLooks a_readStates a_readValues a_usedRules k z (nI i)) (fun i z => ∀ b, bt z b = true ↔ ∃ a, a < i ∧ bt x a = true ∧ bt (a_arrows (s * 7 + a)) b = true) 7 0 ?_ ?_ ?_
  · intro b
    rw [b_0]
    exact ⟨(fun z => by cases z), fun ⟨a, ha, _⟩ => absurd ha (Nat.not_lt_zero a)⟩
  · intro k z hz
    refine br_t (nI_le (Nat.le_refl 7) (by decide)) ⟨pk_in (s * 3 + l) 33 (by omega) (ix_3 s l), h _ fun b => ?_⟩
    rw [pk_cl (s * 3 + l) (ix_3 s l), b_and, Bool.and_eq_true, hz b]
  · intro k i z hi hz hk
    refine br_f (nI_ge hi (by decide)) (br_c (fun y => ?_) (fun y => ?_))
    · have y := (b_test x (n := i) (by omega)).mp y
      refine ⟨pk_in (s * 7 + i) 77 (by omega) (ix_7 s i), nm_e (nm_r (nI_1 i) (hk _ fun b => ?_))⟩
      rw [pk_cl (s * 7 + i) (ix_7 s i), b_or, Bool.or_eq_true, hz b]
      constructor
      · rintro (⟨a, a1, a2⟩ | a)
        · exact ⟨a, by omega, a2⟩
        · exact ⟨i, by omega, y, a⟩
      · rintro ⟨a, a1, a2, a3⟩
        rcases Nat.lt_or_ge a i with w | w
        · exact Or.inl ⟨a, w, a2, a3⟩
        · have w : a = i := by omega
          subst w; exact Or.inr a3
    · have y : ¬ bt x i = true := fun w => y ((b_test x (by omega)).mpr w)
      refine nm_r (nI_1 i) (hk _ fun b => ?_)
      rw [hz b]
      constructor
      · rintro ⟨a, a1, a2⟩; exact ⟨a, by omega, a2⟩
      · rintro ⟨a, a1, a2, a3⟩
        rcases Nat.lt_or_ge a i with w | w
        · exact ⟨a, w, a2, a3⟩
        · have w : a = i := by omega
          subst w; exact absurd a2 y
/-- the set of spots after c letters from a place -/
def xs_W (x : gk_T) (t : Nat → Nat) (place c : Nat) (S : Int32) : Prop := (c = 0 → ∀ b, bt S b = true ↔ b = 6) ∧ (c ≠ 0 → ∀ b, bt S b = true ↔ gk_rs x t place c b)
theorem xs_Wt {ca ea aa ta : Nat → Int32} {s : Nat} {x : gk_T} (h : xs_S ca ea aa ta s x) {t : Nat → Nat} {place c : Nat} {S r : Int32} (hl : t (place + c) < 3) (hS : xs_W x t place c S) (hr : ∀ b, bt r b = true ↔ (∃ a, a < 7 ∧ bt S a = true ∧ bt (aa (s * 7 + a)) b = true) ∧ bt (ta (s * 3 + t (place + c))) b = true) : xs_W x t place (c + 1) r ∧ (r &&& ea s = 0 ↔ ¬ gk_acc x t place (place + (c + 1))) := by
  obtain ⟨g0, g1, g2, g3, g4, g5⟩ := h
  have key : ∀ b, bt r b = true ↔ gk_rs x t place (c + 1) b := by
    intro b
    rw [hr b, g5 _ _ hl]
    rcases Nat.eq_zero_or_pos c with z | z
    · subst z
      constructor
      · rintro ⟨⟨a, a1, a2, a3⟩, b1⟩
        have e := (hS.1 rfl a).mp a2
        subst e
        exact ⟨b1, Or.inl ⟨rfl, (g4 b).mp a3⟩⟩
      · rintro ⟨b1, ⟨_, b2⟩ | ⟨a, b2, _⟩⟩
        · exact ⟨⟨6, by omega, (hS.1 rfl 6).mpr rfl, (g4 b).mpr b2⟩, b1⟩
        · exact b2.elim
    · have hS := hS.2 (by omega)
      constructor
      · rintro ⟨⟨a, a1, a2, a3⟩, b1⟩
        have e := (hS a).mp a2
        exact ⟨b1, Or.inr ⟨a, e, (g3 a b (gk_rs_lt g0 e)).mp a3⟩⟩
      · rintro ⟨b1, ⟨b2, _⟩ | ⟨a, b2, b3⟩⟩
        · omega
        · have ha := gk_rs_lt g0 b2
          exact ⟨⟨a, by have := g0.1; omega, (hS a).mpr b2, (g3 a b ha).mpr b3⟩, b1⟩
  refine ⟨⟨fun z => by omega, fun _ => key⟩, ?_⟩
  constructor
  · intro z y
    obtain ⟨b, b1, b2⟩ := gk_acc_ne y (by omega)
    rw [Nat.add_sub_cancel_left] at b1
    have hb := gk_rs_lt g0 b1
    have := b_zero.mp z b (by have := g0.1; omega)
    rw [b_and, (key b).mpr b1, (g2 b).mpr (Or.inl b2)] at this
    cases this
  · intro z
    refine b_zero.mpr fun b _ => ?_
    rw [b_and]
    cases w1 : bt r b
    · rfl
    · cases w2 : bt (ea s) b
      · rfl
      · exfalso
        have b1 := (key b).mp w1
        rcases (g2 b).mp w2 with b2 | ⟨b2, _⟩
        · exact z (gk_acc_mk b1 b2)
        · have := gk_rs_lt g0 b1
          have := g0.1
          omega
theorem xs_W0 (x : gk_T) (t : Nat → Nat) (place : Nat) : xs_W x t place 0 64 := ⟨fun _ b => by rw [b_64, decide_eq_true_eq], fun z => absurd rfl z⟩
theorem xw_longestMatch {n k place : Nat} {t : Nat → Nat} {kd : Nat → gk_T} (hn : n ≤ 24) (hk : k < 3) (hp : place ≤ n) (ht : ∀ i, i < n → a_text i = nI (t i) ∧ t i < 3) (hS : xs_S a_spotCounts a_ends a_arrows a_takers (8 + k) (kd k))
    {post : Int32 → Prop} (h : post (nI (ct_l kd t n k place))) : wpX_longestMatch post (f_depth, f_made, (nI n), f_tokenCount, f_wrongPlace, f_ruleCount, f_prepared, f_rulesInUse, f_stateCount, f_wideCount, f_gradeFound, f_readHeight, f_tokensTaken, f_usedCount, a_spotCounts, a_ends, a_arrows, a_takers, a_groups, a_marks, a_text, a_tokenKinds, a_tokenLengths, a_lefts, a_rights, a_rightSizes, a_beginSets, a_followSets, a_nextItems, a_openItems, a_restItems, a_stateItems, a_stateSteps, a_stateLooks, a_wideSteps, a_wideLooks, a_readStates, a_readValues, a_usedRules) (nI k) (nI place) := by
  refine nm_r (ix_8 k) ?_
  refine loop_0 (fun f c s => wX_longestMatch_15 post (nI place) (nI (8 + k)) f_depth f_made (nI n) f_tokenCount f_wrongPlace f_ruleCount f_prepared f_rulesInUse f_stateCount f_wideCount f_gradeFound f_readHeight f_tokensTaken f_usedCount a_spotCounts a_ends a_arrows a_takers a_groups a_marks a_text a_tokenKinds a_tokenLengths a_lefts a_rights a_rightSizes a_beginSets a_followSets a_nextItems a_openItems a_restItems a_stateItems a_stateSteps a_stateLooks a_wideSteps a_wideLooks a_readStates a_readValues a_usedRules f s.1 s.2 (nI (place + c))) (fun c s => xs_W (kd k) t place c s.1 ∧ s.2 = nI (lg_w (fun j => gk_acc (kd k) t place j) place c)) (n - place) ((64 : Int32), (0 : Int32)) ⟨xs_W0 _ _ _, rfl⟩ ?_ ?_
  · rintro f ⟨s1, s2⟩ ⟨_, hs⟩
    have hs : s2 = nI (lg_w (fun j => gk_acc (kd k) t place j) place (n - place)) := hs
    subst hs
    exact br_t (nI_le (by omega) (by omega)) h
  · rintro f c ⟨s1, s2⟩ hc ⟨hw, hs⟩ hk2
    have hs : s2 = nI (lg_w (fun j => gk_acc (kd k) t place j) place c) := hs
    subst hs
    obtain ⟨t1, t2⟩ := ht (place + c) (by omega)
    refine br_f (nI_ge (by omega) (by omega)) ⟨vp_in_nI (by omega) (by decide), ?_⟩
    rw [nI_clamp (by omega : place + c < 2 ^ 31), t1]
    refine xw_spotsAfter (by omega) t2 (fun r hr => ?_)
    obtain ⟨w1, w2⟩ := xs_Wt hS t2 hw hr
    refine ⟨vp_in_nI (by omega) (by decide), ?_⟩
    rw [nI_clamp (by omega : 8 + k < 2 ^ 31)]
    refine br_c (fun z => ?_) (fun z => ?_)
    · refine nm_r (nI_1 _) (hk2 (r, _) ⟨w1, ?_⟩)
      rw [lg_w_n (w2.mp z)]
    · have z : gk_acc (kd k) t place (place + (c + 1)) := Classical.byContradiction fun y => z (w2.mpr y)
      refine nm_r (e' := nI (c + 1)) (by rw [nI_1]; exact pk_subn (by omega)) (nm_r (nI_1 _) (hk2 (r, _) ⟨w1, ?_⟩))
      rw [lg_w_s z]
      rfl
theorem xw_cutToken {n place c : Nat} {t : Nat → Nat} {kd : Nat → gk_T} (hn : n ≤ 24) (hp : place ≤ n) (hc : c < 24) (ht : ∀ i, i < n → a_text i = nI (t i) ∧ t i < 3) (hS : ∀ k, k < 3 → xs_S a_spotCounts a_ends a_arrows a_takers (8 + k) (kd k))
    {post : Int32 → SX → Prop} (h0 : ct_n kd t n place = 0 → post 0 (f_depth, f_made, (nI n), (nI c), f_wrongPlace, f_ruleCount, f_prepared, f_rulesInUse, f_stateCount, f_wideCount, f_gradeFound, f_readHeight, f_tokensTaken, f_usedCount, a_spotCounts, a_ends, a_arrows, a_takers, a_groups, a_marks, a_text, a_tokenKinds, a_tokenLengths, a_lefts, a_rights, a_rightSizes, a_beginSets, a_followSets, a_nextItems, a_openItems, a_restItems, a_stateItems, a_stateSteps, a_stateLooks, a_wideSteps, a_wideLooks, a_readStates, a_readValues, a_usedRules)) (h1 : ct_n kd t n place ≠ 0 → post (nI (ct_n kd t n place)) (f_depth, f_made, (nI n), (nI (c + 1)), f_wrongPlace, f_ruleCount, f_prepared, f_rulesInUse, f_stateCount, f_wideCount, f_gradeFound, f_readHeight, f_tokensTaken, f_usedCount, a_spotCounts, a_ends, a_arrows, a_takers, a_groups, a_marks, a_text, (upd a_tokenKinds c (nI (ct_k kd t n place))), (upd a_tokenLengths c (nI (ct_n kd t n place))), a_lefts, a_rights, a_rightSizes, a_beginSets, a_followSets, a_nextItems, a_openItems, a_restItems, a_stateItems, a_stateSteps, a_stateLooks, a_wideSteps, a_wideLooks, a_readStates, a_readValues, a_usedRules)) :
    wpX_cutToken post (f_depth, f_made, (nI n), (nI c), f_wrongPlace, f_ruleCount, f_prepared, f_rulesInUse, f_stateCount, f_wideCount, f_gradeFound, f_readHeight, f_tokensTaken, f_usedCount, a_spotCounts, a_ends, a_arrows, a_takers, a_groups, a_marks, a_text, a_tokenKinds, a_tokenLengths, a_lefts, a_rights, a_rightSizes, a_beginSets, a_followSets, a_nextItems, a_openItems, a_restItems, a_stateItems, a_stateSteps, a_stateLooks, a_wideSteps, a_wideLooks, a_readStates, a_readValues, a_usedRules) (nI place) := by
  refine ⟨4, ?_⟩
  have hl : ∀ k, ct_l kd t n k place ≤ 24 := fun k => by
    have := lg_w_le (A := fun j => gk_acc (kd k) t place j) (place := place) (n - place)
    unfold ct_l
    omega
  have hn24 : ct_n kd t n place ≤ 24 := hl _
  have fin : ∀ b, b = ct_k kd t n place → wX_cutToken_7 post (nI place) f_depth f_made (nI n) (nI c) f_wrongPlace f_ruleCount f_prepared f_rulesInUse f_stateCount f_wideCount f_gradeFound f_readHeight f_tokensTaken f_usedCount a_spotCounts a_ends a_arrows a_takers a_groups a_marks a_text a_tokenKinds a_tokenLengths a_lefts a_rights a_rightSizes a_beginSets a_followSets a_nextItems a_openItems a_restItems a_stateItems a_stateSteps a_stateLooks a_wideSteps a_wideLooks a_readStates a_readValues a_usedRules 1 (nI (ct_n kd t n place)) (nI b) (nI 3) := by
    intro b hb
    subst hb
    refine br_t (nI_le (Nat.le_refl 3) (by decide)) (pk_le (ct_n kd t n place) 0 (fun z => ?_) (fun z => ?_))
    · have z : ct_n kd t n place = 0 := by omega
      have := h0 z
      rw [z]
      exact this
    · exact ⟨vp_in_nI hc (by decide), nm_r (by rw [nI_clamp (by omega)]) ⟨vp_in_nI hc (by decide), nm_r (by rw [nI_clamp (by omega)]) (nm_r (nI_1 c) (h1 (by omega)))⟩⟩
  have two : ∀ b, b = ct_1 kd t n place → wX_cutToken_7 post (nI place) f_depth f_made (nI n) (nI c) f_wrongPlace f_ruleCount f_prepared f_rulesInUse f_stateCount f_wideCount f_gradeFound f_readHeight f_tokensTaken f_usedCount a_spotCounts a_ends a_arrows a_takers a_groups a_marks a_text a_tokenKinds a_tokenLengths a_lefts a_rights a_rightSizes a_beginSets a_followSets a_nextItems a_openItems a_restItems a_stateItems a_stateSteps a_stateLooks a_wideSteps a_wideLooks a_readStates a_readValues a_usedRules 2 (nI (ct_l kd t n b place)) (nI b) (nI 2) := by
    intro b hb
    have a1 := hl 2
    have a2 := hl b
    refine br_f (nI_ge (a := 2) (b := 3) (by decide) (by decide)) (xw_longestMatch hn (by omega) hp ht (hS 2 (by omega)) (pk_le (ct_l kd t n 2 place) (ct_l kd t n b place) (fun y => ?_) (fun y => ?_)))
    · refine nm_r (nI_1 2) ?_
      have e : b = ct_k kd t n place := by
        unfold ct_k
        rw [← hb, if_pos y]
      have := fin b e
      unfold ct_n at this
      rw [← e] at this
      exact this
    · refine nm_r (nI_1 2) ?_
      have e : 2 = ct_k kd t n place := by
        unfold ct_k
        rw [← hb, if_neg (by omega)]
      have := fin 2 e
      unfold ct_n at this
      rw [← e] at this
      exact this
  have one : wX_cutToken_7 post (nI place) f_depth f_made (nI n) (nI c) f_wrongPlace f_ruleCount f_prepared f_rulesInUse f_stateCount f_wideCount f_gradeFound f_readHeight f_tokensTaken f_usedCount a_spotCounts a_ends a_arrows a_takers a_groups a_marks a_text a_tokenKinds a_tokenLengths a_lefts a_rights a_rightSizes a_beginSets a_followSets a_nextItems a_openItems a_restItems a_stateItems a_stateSteps a_stateLooks a_wideSteps a_wideLooks a_readStates a_readValues a_usedRules 3 (nI (ct_l kd t n 0 place)) (nI 0) (nI 1) := by
    have a1 := hl 1
    have a2 := hl 0
    refine br_f (nI_ge (a := 1) (b := 3) (by decide) (by decide)) (xw_longestMatch hn (by omega) hp ht (hS 1 (by omega)) (pk_le (ct_l kd t n 1 place) (ct_l kd t n 0 place) (fun y => ?_) (fun y => ?_)))
    · refine nm_r (nI_1 1) (two 0 ?_)
      unfold ct_1
      rw [if_pos y]
    · refine nm_r (nI_1 1) (two 1 ?_)
      unfold ct_1
      rw [if_neg (by omega)]
  have a2 := hl 0
  refine br_f (nI_ge (a := 0) (b := 3) (by decide) (by decide)) (xw_longestMatch (k := 0) hn (by omega) hp ht (hS 0 (by omega)) (pk_le (ct_l kd t n 0 place) 0 (fun y => ?_) (fun y => ?_)))
  · refine nm_r (nI_1 0) ?_
    have e : ct_l kd t n 0 place = 0 := by omega
    rw [e] at one
    exact one
  · exact nm_r (nI_1 0) one
theorem xw_cutText {n : Nat} {t : Nat → Nat} {kd : Nat → gk_T} (hn : n ≤ 24) (ht : ∀ i, i < n → a_text i = nI (t i) ∧ t i < 3) (hS : ∀ k, k < 3 → xs_S a_spotCounts a_ends a_arrows a_takers (8 + k) (kd k))
    {post : SX → Prop} (h : ∀ c K S, ct_ok kd t n c K S → post (f_depth, f_made, (nI n), (nI c), (ct_w kd t n c), f_ruleCount, f_prepared, f_rulesInUse, f_stateCount, f_wideCount, f_gradeFound, f_readHeight, f_tokensTaken, f_usedCount, a_spotCounts, a_ends, a_arrows, a_takers, a_groups, a_marks, a_text, K, S, a_lefts, a_rights, a_rightSizes, a_beginSets, a_followSets, a_nextItems, a_openItems, a_restItems, a_stateItems, a_stateSteps, a_stateLooks, a_wideSteps, a_wideLooks, a_readStates, a_readValues, a_usedRules)) : wpX_cutText post (f_depth, f_made, (nI n), f_tokenCount, f_wrongPlace, f_ruleCount, f_prepared, f_rulesInUse, f_stateCount, f_wideCount, f_gradeFound, f_readHeight, f_tokensTaken, f_usedCount, a_spotCounts, a_ends, a_arrows, a_takers, a_groups, a_marks, a_text, a_tokenKinds, a_tokenLengths, a_lefts, a_rights, a_rightSizes, a_beginSets, a_followSets, a_nextItems, a_openItems, a_restItems, a_stateItems, a_stateSteps, a_stateLooks, a_wideSteps, a_wideLooks, a_readStates, a_readValues, a_usedRules) := by
  have key : ∀ f c (K S : Nat → Int32), n - ct_p kd t n c < f → (∀ i, i < c → ct_p kd t n i < n ∧ ct_n kd t n (ct_p kd t n i) ≠ 0) → (∀ i, i < c → K i = nI (ct_k kd t n (ct_p kd t n i)) ∧ S i = nI (ct_n kd t n (ct_p kd t n i))) →
      wX_cutText_15 post f (nI (ct_p kd t n c)) (nI c) f_depth f_made (nI n) (nI c) (-4) f_ruleCount f_prepared f_rulesInUse f_stateCount f_wideCount f_gradeFound f_readHeight f_tokensTaken f_usedCount a_spotCounts a_ends a_arrows a_takers a_groups a_marks a_text K S a_lefts a_rights a_rightSizes a_beginSets a_followSets a_nextItems a_openItems a_restItems a_stateItems a_stateSteps a_stateLooks a_wideSteps a_wideLooks a_readStates a_readValues a_usedRules := by
    intro f
    induction f with
    | zero => intro c K S hf; omega
    | succ f ih =>
      intro c K S hf h1 h2
      have h3 := ct_p_ge h1
      have hend : n ≤ ct_p kd t n c → post (f_depth, f_made, (nI n), (nI c), (-4), f_ruleCount, f_prepared, f_rulesInUse, f_stateCount, f_wideCount, f_gradeFound, f_readHeight, f_tokensTaken, f_usedCount, a_spotCounts, a_ends, a_arrows, a_takers, a_groups, a_marks, a_text, K, S, a_lefts, a_rights, a_rightSizes, a_beginSets, a_followSets, a_nextItems, a_openItems, a_restItems, a_stateItems, a_stateSteps, a_stateLooks, a_wideSteps, a_wideLooks, a_readStates, a_readValues, a_usedRules) := by
        intro z
        have := h c K S ⟨⟨h1, Or.inl z⟩, h2⟩
        unfold ct_w at this
        rw [if_neg (by omega)] at this
        exact this
      refine pk_le 24 c (fun z => hend (by omega)) (fun z24 => pk_le n (ct_p kd t n c) hend (fun z => ?_))
      have hle := ct_n_le (kd := kd) (t := t) (n := n) (ct_p kd t n c)
      refine xw_cutToken hn (by omega) z24 ht hS (fun y => ?_) (fun y => ?_)
      · refine br_t rfl ?_
        have := h c K S ⟨⟨h1, Or.inr y⟩, h2⟩
        unfold ct_w at this
        rw [if_pos z] at this
        exact this
      · refine br_f (nI_ne0 (by omega) (by omega)) (nm_r (nI_add _ _) (nm_r (nI_1 c) (ih (c + 1) _ _ ?_ ?_ ?_)))
        · show n - (ct_p kd t n c + ct_n kd t n (ct_p kd t n c)) < f
          omega
        · intro i hi
          rcases Nat.lt_or_ge i c with w | w
          · exact h1 i w
          · have w : i = c := by omega
            subst w; exact ⟨z, y⟩
        · intro i hi
          rcases Nat.lt_or_ge i c with w | w
          · rw [pk_un (by omega), pk_un (by omega)]; exact h2 i w
          · have w : i = c := by omega
            subst w
            rw [pk_us, pk_us]
            exact ⟨rfl, rfl⟩
  exact ⟨n + 1, key (n + 1) 0 a_tokenKinds a_tokenLengths (by omega) (fun i hi => absurd hi (Nat.not_lt_zero i)) (fun i hi => absurd hi (Nat.not_lt_zero i))⟩
