/-! the component's clashes -/
variable {f_depth f_made f_textLength f_tokenCount f_wrongPlace f_ruleCount f_prepared f_rulesInUse f_stateCount f_wideCount f_gradeFound f_readHeight f_tokensTaken f_usedCount : Int32} {a_spotCounts a_ends a_arrows a_takers a_groups a_marks a_text a_tokenKinds a_tokenLengths a_lefts a_rights a_rightSizes a_beginSets a_followSets a_stateSteps a_wideSteps a_readStates a_readValues a_usedRules : Nat → Int32} {a_nextItems a_openItems a_restItems a_stateItems a_stateLooks a_wideLooks : Nat → Int64}
theorem nt_one {n : Nat} (hn : 0 < n) : (∀ i, n.testBit i = true → (n - 1).testBit i = false) ↔ ∀ i j, n.testBit i = true → n.testBit j = true → i = j := by
  have ex : ∃ i, n.testBit i = true := by
    refine Classical.byContradiction fun z => ?_
    have : n = 0 := Nat.eq_of_testBit_eq fun i => by
      rw [Nat.zero_testBit]
      cases e : n.testBit i
      · rfl
      · exact absurd ⟨i, e⟩ z
    omega
  obtain ⟨l, h1, h2⟩ := pk_least (fun i => n.testBit i = true) ex
  have hm : n % 2 ^ (l + 1) = 2 ^ l := by
    apply Nat.eq_of_testBit_eq
    intro i
    rw [Nat.testBit_mod_two_pow, Nat.testBit_two_pow]
    rcases Nat.lt_trichotomy i l with z | z | z
    · have : n.testBit i = false := by
        cases e : n.testBit i
        · rfl
        · exact absurd e (h2 i z)
      rw [this, decide_eq_false (by omega : ¬ l = i)]; simp
    · subst z; rw [h1]; simp
    · rw [decide_eq_false (by omega : ¬ i < l + 1), decide_eq_false (by omega : ¬ l = i)]; rfl
  have hd := Nat.div_add_mod n (2 ^ (l + 1))
  rw [hm] at hd
  have hp : 0 < 2 ^ l := Nat.two_pow_pos l
  have hlt : 2 ^ l < 2 ^ (l + 1) := Nat.pow_lt_pow_right (by decide) (by omega)
  have hn1 : n - 1 = 2 ^ (l + 1) * (n / 2 ^ (l + 1)) + (2 ^ l - 1) := by omega
  have up : ∀ j, l < j → (n - 1).testBit j = n.testBit j := by
    intro j hj
    have e1 : (n - 1).testBit j = (n / 2 ^ (l + 1)).testBit (j - (l + 1)) := by
      rw [hn1, Nat.testBit_two_pow_mul_add _ (by omega), if_neg (by omega)]
    have e2 : n.testBit j = (n / 2 ^ (l + 1)).testBit (j - (l + 1)) := by
      conv => lhs; rw [← hd]
      rw [Nat.testBit_two_pow_mul_add _ hlt, if_neg (by omega)]
    rw [e1, e2]
  constructor
  · intro h
    have only : ∀ j, n.testBit j = true → j = l := by
      intro j hj
      rcases Nat.lt_trichotomy j l with z | z | z
      · exact absurd hj (h2 j z)
      · exact z
      · have := h j hj
        rw [up j z, hj] at this
        cases this
    intro i j hi hj
    rw [only i hi, only j hj]
  · intro h i hi
    have e : i = l := h i l hi h1
    subst e
    rw [hn1, Nat.testBit_two_pow_mul_add _ (by omega), if_pos (by omega), Nat.testBit_two_pow_sub_one]
    simp
theorem bl_1bit (c : Int64) : c &&& (c - 1) = 0 ↔ ∀ i j, bl c i = true → bl c j = true → i = j := by
  rcases Nat.eq_zero_or_pos c.toBitVec.toNat with z | z
  · have e : c = 0 := Int64.toBitVec_inj.mp (BitVec.eq_of_toNat_eq (by rw [z]; rfl))
    subst e
    exact ⟨fun _ i j hi => absurd hi (bl_no rfl i), fun _ => by decide⟩
  · have e1 : (c - 1).toBitVec.toNat = c.toBitVec.toNat - 1 := by
      rw [Int64.toBitVec_sub, BitVec.toNat_sub_of_le]
      · rfl
      · rw [BitVec.le_def]; exact z
    have b1 : ∀ i, bl c i = c.toBitVec.toNat.testBit i := fun i => rfl
    have b2 : ∀ i, bl (c - 1) i = (c.toBitVec.toNat - 1).testBit i := fun i => by rw [← e1]; rfl
    have := nt_one z
    constructor
    · intro h
      refine this.mp fun i hi => ?_
      have h3 := congrArg (fun x => bl x i) h
      simp only [bl_and, bl_0] at h3
      rw [b1 i, b2 i, hi] at h3
      simpa using h3
    · intro h
      have h2 := this.mpr h
      rw [bl_zero]
      intro i _
      rw [bl_and, b1 i, b2 i]
      cases e : c.toBitVec.toNat.testBit i
      · rfl
      · rw [h2 i e]; rfl
section
variable {g : rg_T}
/-- the clash at look t of four sets -/
def ck_x (g : rg_T) (L : Nat → Int64) (t : Nat) : Prop := cs_x g (fun k => ∃ u, u < 4 ∧ bl (L u) k = true) (fun t k => bl (L t) k = true) t
theorem xw_clashesAt_wideLooks (hg : rg_ok g) (hI : xi_I g 10 a_nextItems a_openItems a_restItems) {b t : Nat} (hb : b + 4 ≤ 324) (ht : t < 4) (hL : ∀ u, u < 4 → tb_io g (a_wideLooks (b + u))) {post : Int32 → Prop} (h0 : ¬ ck_x g (fun u => a_wideLooks (b + u)) t → post 0) (h1 : ck_x g (fun u => a_wideLooks (b + u)) t → post 1) : wpX_clashesAt__wideLooks post (f_depth, f_made, f_textLength, f_tokenCount, f_wrongPlace, f_ruleCount, f_prepared, f_rulesInUse, f_stateCount, f_wideCount, f_gradeFound, f_readHeight, f_tokensTaken, f_usedCount, a_spotCounts, a_ends, a_arrows, a_takers, a_groups, a_marks, a_text, a_tokenKinds, a_tokenLengths, a_lefts, a_rights, a_rightSizes, a_beginSets, a_followSets, a_nextItems, a_openItems, a_restItems, a_stateItems, a_stateSteps, a_stateLooks, a_wideSteps, a_wideLooks, a_readStates, a_readValues, a_usedRules) (nI b) (nI t) := by
  obtain ⟨i1, i2, i3, i4⟩ := hI
  have cc : ∀ k, bl (a_wideLooks (b + t) &&& a_nextItems 7) k = true ↔ bl (a_wideLooks (b + t)) k = true ∧ k % 5 = rg_c g (k / 5) := by
    intro k
    rw [bl_and, Bool.and_eq_true, i2 k]
    exact ⟨fun z => ⟨z.1, z.2.2⟩, fun z => ⟨z.1, ⟨(hL t ht k z.1).1, xu_10 hg (hL t ht k z.1).1⟩, z.2⟩⟩
  refine ⟨pk_in (b + t) 324 (by omega) (nI_add b t), nm_r (e' := a_wideLooks (b + t) &&& a_nextItems 7) (by rw [pk_cl (b + t) (nI_add b t)]) (br_c (fun z => ?_) (fun z => h1 ?_))⟩
  · have z := (bl_1bit _).mp z
    have no1 : ¬ ∃ k k', k ≠ k' ∧ (∃ u, u < 4 ∧ bl (a_wideLooks (b + u)) k = true) ∧ (∃ u, u < 4 ∧ bl (a_wideLooks (b + u)) k' = true) ∧ bl (a_wideLooks (b + t)) k = true ∧ bl (a_wideLooks (b + t)) k' = true ∧ k % 5 = rg_c g (k / 5) ∧ k' % 5 = rg_c g (k' / 5) := by
      rintro ⟨k, k', q1, _, _, q4, q5, q6, q7⟩
      exact q1 (z k k' ((cc k).mpr ⟨q4, q6⟩) ((cc k').mpr ⟨q5, q7⟩))
    refine br_c (fun y => h0 fun w => ?_) (fun y => pk_eq t 3 (fun e => h0 fun w => ?_) (fun e => ?_))
    · rcases w with w | ⟨_, k, k', _, w3, w4, _⟩
      · exact no1 w
      · exact bl_no y k ((cc k).mpr ⟨w3, w4⟩)
    · rcases w with w | ⟨w, _⟩
      · exact no1 w
      · omega
    · obtain ⟨k0, hk0⟩ := bl_ne y
      have hk0 := (cc k0).mp hk0
      refine loop_0 (fun f u A => wX_clashesAt__wideLooks_49 post (nI b) (nI t) f_depth f_made f_textLength f_tokenCount f_wrongPlace f_ruleCount f_prepared f_rulesInUse f_stateCount f_wideCount f_gradeFound f_readHeight f_tokensTaken f_usedCount a_spotCounts a_ends a_arrows a_takers a_groups a_marks a_text a_tokenKinds a_tokenLengths a_lefts a_rights a_rightSizes a_beginSets a_followSets a_nextItems a_openItems a_restItems a_stateItems a_stateSteps a_stateLooks a_wideSteps a_wideLooks a_readStates a_readValues a_usedRules f A (nI u)) (fun u A => ∀ k, bl A k = true ↔ ∃ u', u' < u ∧ bl (a_wideLooks (b + u')) k = true) 4 0 (fun k => ?_) ?_ ?_
      · rw [bl_0]; exact ⟨(fun z => by cases z), fun ⟨u', q, _⟩ => absurd q (Nat.not_lt_zero _)⟩
      · intro f A hA
        have ct : (nI t).toNatClampNeg = t := nI_clamp (by omega)
        have nx : ∀ k, bl (A &&& a_nextItems t) k = true ↔ (∃ u, u < 4 ∧ bl (a_wideLooks (b + u)) k = true) ∧ im_nx g k t := by
          intro k
          rw [bl_and, Bool.and_eq_true, hA k, i1 t k (by omega)]
          refine ⟨fun q => ⟨q.1, q.2.2⟩, fun q => ⟨q.1, ?_, q.2⟩⟩
          obtain ⟨u, u1, u2⟩ := q.1
          exact ⟨(hL u u1 k u2).1, xu_10 hg (hL u u1 k u2).1⟩
        refine br_t (nI_le (Nat.le_refl 4) (by decide)) ⟨vp_in_nI (by omega) (by decide), ?_⟩
        rw [ct]
        refine br_c (fun q => h0 fun w => ?_) (fun q => h1 ?_)
        · rcases w with w | ⟨_, k, k', _, _, _, w5, w6⟩
          · exact no1 w
          · exact bl_no q k' ((nx k').mpr ⟨w5, w6⟩)
        · obtain ⟨k', hk'⟩ := bl_ne q
          have hk' := (nx k').mp hk'
          exact Or.inr ⟨by omega, k0, k', ⟨t, ht, hk0.1⟩, hk0.1, hk0.2, hk'.1, hk'.2⟩
      · intro f u A hu hA hk
        refine br_f (nI_ge hu (by decide)) ⟨pk_in (b + u) 324 (by omega) (nI_add b u), nm_e (nm_r (nI_1 u) (hk _ fun k => ?_))⟩
        rw [pk_cl (b + u) (nI_add b u), bl_or, Bool.or_eq_true, hA k]
        constructor
        · rintro (⟨u', q⟩ | q)
          · exact ⟨u', by omega, q.2⟩
          · exact ⟨u, by omega, q⟩
        · rintro ⟨u', q1, q2⟩
          by_cases e : u' = u
          · subst e; exact Or.inr q2
          · exact Or.inl ⟨u', by omega, q2⟩
  · have : ∃ i j, bl (a_wideLooks (b + t) &&& a_nextItems 7) i = true ∧ bl (a_wideLooks (b + t) &&& a_nextItems 7) j = true ∧ i ≠ j := by
      refine Classical.byContradiction fun q => z ((bl_1bit _).mpr fun i j hi hj => ?_)
      exact Classical.byContradiction fun q2 => q ⟨i, j, hi, hj, q2⟩
    obtain ⟨i, j, q1, q2, q3⟩ := this
    have q1 := (cc i).mp q1
    have q2 := (cc j).mp q2
    exact Or.inl ⟨i, j, q3, ⟨t, ht, q1.1⟩, ⟨t, ht, q2.1⟩, q1.1, q2.1, q1.2, q2.2⟩
theorem xw_clashes_wideLooks (hg : rg_ok g) (hI : xi_I g 10 a_nextItems a_openItems a_restItems) {n : Nat} (hn : n * 4 ≤ 324) (hL : ∀ s u, s < n → u < 4 → tb_io g (a_wideLooks (s * 4 + u))) {post : Int32 → Prop} (h0 : (¬ ∃ s t, s < n ∧ t < 4 ∧ ck_x g (fun u => a_wideLooks (s * 4 + u)) t) → post 0) (h1 : (∃ s t, s < n ∧ t < 4 ∧ ck_x g (fun u => a_wideLooks (s * 4 + u)) t) → post 1) : wpX_clashes__wideLooks post (f_depth, f_made, f_textLength, f_tokenCount, f_wrongPlace, f_ruleCount, f_prepared, f_rulesInUse, f_stateCount, f_wideCount, f_gradeFound, f_readHeight, f_tokensTaken, f_usedCount, a_spotCounts, a_ends, a_arrows, a_takers, a_groups, a_marks, a_text, a_tokenKinds, a_tokenLengths, a_lefts, a_rights, a_rightSizes, a_beginSets, a_followSets, a_nextItems, a_openItems, a_restItems, a_stateItems, a_stateSteps, a_stateLooks, a_wideSteps, a_wideLooks, a_readStates, a_readValues, a_usedRules) (nI n) := by
  refine loop_0 (fun f s (_ : Unit) => wX_clashes__wideLooks_2 post (nI n) f_depth f_made f_textLength f_tokenCount f_wrongPlace f_ruleCount f_prepared f_rulesInUse f_stateCount f_wideCount f_gradeFound f_readHeight f_tokensTaken f_usedCount a_spotCounts a_ends a_arrows a_takers a_groups a_marks a_text a_tokenKinds a_tokenLengths a_lefts a_rights a_rightSizes a_beginSets a_followSets a_nextItems a_openItems a_restItems a_stateItems a_stateSteps a_stateLooks a_wideSteps a_wideLooks a_readStates a_readValues a_usedRules f (nI s)) (fun s _ => ¬ ∃ s' t, s' < s ∧ t < 4 ∧ ck_x g (fun u => a_wideLooks (s' * 4 + u)) t) n () (fun ⟨s', t, q, _⟩ => absurd q (Nat.not_lt_zero _)) ?_ ?_
  · intro f _ hs
    exact br_t (nI_le (Nat.le_refl _) (by omega)) (h0 hs)
  · intro f s _ hs hno hk
    refine br_f (nI_ge hs (by omega)) ?_
    refine loop_0 (fun f' t (_ : Unit) => wX_clashes__wideLooks_10 post (wX_clashes__wideLooks_2 post (nI n) f_depth f_made f_textLength f_tokenCount f_wrongPlace f_ruleCount f_prepared f_rulesInUse f_stateCount f_wideCount f_gradeFound f_readHeight f_tokensTaken f_usedCount a_spotCounts a_ends a_arrows a_takers a_groups a_marks a_text a_tokenKinds a_tokenLengths a_lefts a_rights a_rightSizes a_beginSets a_followSets a_nextItems a_openItems a_restItems a_stateItems a_stateSteps a_stateLooks a_wideSteps a_wideLooks a_readStates a_readValues a_usedRules f) (nI n) (nI s) f_depth f_made f_textLength f_tokenCount f_wrongPlace f_ruleCount f_prepared f_rulesInUse f_stateCount f_wideCount f_gradeFound f_readHeight f_tokensTaken f_usedCount a_spotCounts a_ends a_arrows a_takers a_groups a_marks a_text a_tokenKinds a_tokenLengths a_lefts a_rights a_rightSizes a_beginSets a_followSets a_nextItems a_openItems a_restItems a_stateItems a_stateSteps a_stateLooks a_wideSteps a_wideLooks a_readStates a_readValues a_usedRules f' (nI t)) (fun t _ => ¬ ∃ t', t' < t ∧ ck_x g (fun u => a_wideLooks (s * 4 + u)) t') 4 () (fun ⟨t', q, _⟩ => absurd q (Nat.not_lt_zero _)) ?_ ?_
    · intro f' _ ht
      refine br_t (nI_le (Nat.le_refl 4) (by decide)) (nm_r (nI_1 s) (hk () ?_))
      rintro ⟨s', t, q1, q2, q3⟩
      by_cases e : s' = s
      · subst e; exact ht ⟨t, q2, q3⟩
      · exact hno ⟨s', t, by omega, q2, q3⟩
    · intro f' t _ ht hno2 hk2
      refine br_f (nI_ge ht (by decide)) ?_
      rw [show nI s * 4 = nI (s * 4) from pk_mul s 4]
      refine xw_clashesAt_wideLooks hg hI (by omega) ht (hL s · hs) (fun q => br_t rfl (nm_r (nI_1 t) (hk2 () ?_))) (fun q => br_f (by decide) (h1 ⟨s, t, hs, ht, q⟩))
      rintro ⟨t', q1, q2⟩
      by_cases e : t' = t
      · subst e; exact q q2
      · exact hno2 ⟨t', by omega, q2⟩
theorem xw_closeP_wideLooks (hg : rg_ok g) (hI : xi_I g 10 a_nextItems a_openItems a_restItems) {b : Nat} (hb : b + 4 ≤ 324) (hS : xo_io g (fun t => a_wideLooks (b + t))) {post : SX → Prop} (h : post (f_depth, f_made, f_textLength, f_tokenCount, f_wrongPlace, f_ruleCount, f_prepared, f_rulesInUse, f_stateCount, f_wideCount, f_gradeFound, f_readHeight, f_tokensTaken, f_usedCount, a_spotCounts, a_ends, a_arrows, a_takers, a_groups, a_marks, a_text, a_tokenKinds, a_tokenLengths, a_lefts, a_rights, a_rightSizes, a_beginSets, a_followSets, a_nextItems, a_openItems, a_restItems, a_stateItems, a_stateSteps, a_stateLooks, a_wideSteps, (ax_set a_wideLooks b 4 (fun t => mk_l (cw_0 g (xo_S (fun t => a_wideLooks (b + t))) t))), a_readStates, a_readValues, a_usedRules)) : wpX_closeLooks__wideLooks post (f_depth, f_made, f_textLength, f_tokenCount, f_wrongPlace, f_ruleCount, f_prepared, f_rulesInUse, f_stateCount, f_wideCount, f_gradeFound, f_readHeight, f_tokensTaken, f_usedCount, a_spotCounts, a_ends, a_arrows, a_takers, a_groups, a_marks, a_text, a_tokenKinds, a_tokenLengths, a_lefts, a_rights, a_rightSizes, a_beginSets, a_followSets, a_nextItems, a_openItems, a_restItems, a_stateItems, a_stateSteps, a_stateLooks, a_wideSteps, a_wideLooks, a_readStates, a_readValues, a_usedRules) (nI b) := by
  have := xw_closeLooks_wideLooks hg hI hb hS h
  rw [ax_self] at this
  exact this
theorem xw_clashesAt_stateLooks (hg : rg_ok g) (hI : xi_I g 10 a_nextItems a_openItems a_restItems) {b t : Nat} (hb : b + 4 ≤ 240) (ht : t < 4) (hL : ∀ u, u < 4 → tb_io g (a_stateLooks (b + u))) {post : Int32 → Prop} (h0 : ¬ ck_x g (fun u => a_stateLooks (b + u)) t → post 0) (h1 : ck_x g (fun u => a_stateLooks (b + u)) t → post 1) : wpX_clashesAt__stateLooks post (f_depth, f_made, f_textLength, f_tokenCount, f_wrongPlace, f_ruleCount, f_prepared, f_rulesInUse, f_stateCount, f_wideCount, f_gradeFound, f_readHeight, f_tokensTaken, f_usedCount, a_spotCounts, a_ends, a_arrows, a_takers, a_groups, a_marks, a_text, a_tokenKinds, a_tokenLengths, a_lefts, a_rights, a_rightSizes, a_beginSets, a_followSets, a_nextItems, a_openItems, a_restItems, a_stateItems, a_stateSteps, a_stateLooks, a_wideSteps, a_wideLooks, a_readStates, a_readValues, a_usedRules) (nI b) (nI t) := by
  obtain ⟨i1, i2, i3, i4⟩ := hI
  have cc : ∀ k, bl (a_stateLooks (b + t) &&& a_nextItems 7) k = true ↔ bl (a_stateLooks (b + t)) k = true ∧ k % 5 = rg_c g (k / 5) := by
    intro k
    rw [bl_and, Bool.and_eq_true, i2 k]
    exact ⟨fun z => ⟨z.1, z.2.2⟩, fun z => ⟨z.1, ⟨(hL t ht k z.1).1, xu_10 hg (hL t ht k z.1).1⟩, z.2⟩⟩
  refine ⟨pk_in (b + t) 240 (by omega) (nI_add b t), nm_r (e' := a_stateLooks (b + t) &&& a_nextItems 7) (by rw [pk_cl (b + t) (nI_add b t)]) (br_c (fun z => ?_) (fun z => h1 ?_))⟩
  · have z := (bl_1bit _).mp z
    have no1 : ¬ ∃ k k', k ≠ k' ∧ (∃ u, u < 4 ∧ bl (a_stateLooks (b + u)) k = true) ∧ (∃ u, u < 4 ∧ bl (a_stateLooks (b + u)) k' = true) ∧ bl (a_stateLooks (b + t)) k = true ∧ bl (a_stateLooks (b + t)) k' = true ∧ k % 5 = rg_c g (k / 5) ∧ k' % 5 = rg_c g (k' / 5) := by
      rintro ⟨k, k', q1, _, _, q4, q5, q6, q7⟩
      exact q1 (z k k' ((cc k).mpr ⟨q4, q6⟩) ((cc k').mpr ⟨q5, q7⟩))
    refine br_c (fun y => h0 fun w => ?_) (fun y => pk_eq t 3 (fun e => h0 fun w => ?_) (fun e => ?_))
    · rcases w with w | ⟨_, k, k', _, w3, w4, _⟩
      · exact no1 w
      · exact bl_no y k ((cc k).mpr ⟨w3, w4⟩)
    · rcases w with w | ⟨w, _⟩
      · exact no1 w
      · omega
    · obtain ⟨k0, hk0⟩ := bl_ne y
      have hk0 := (cc k0).mp hk0
      refine loop_0 (fun f u A => wX_clashesAt__stateLooks_49 post (nI b) (nI t) f_depth f_made f_textLength f_tokenCount f_wrongPlace f_ruleCount f_prepared f_rulesInUse f_stateCount f_wideCount f_gradeFound f_readHeight f_tokensTaken f_usedCount a_spotCounts a_ends a_arrows a_takers a_groups a_marks a_text a_tokenKinds a_tokenLengths a_lefts a_rights a_rightSizes a_beginSets a_followSets a_nextItems a_openItems a_restItems a_stateItems a_stateSteps a_stateLooks a_wideSteps a_wideLooks a_readStates a_readValues a_usedRules f A (nI u)) (fun u A => ∀ k, bl A k = true ↔ ∃ u', u' < u ∧ bl (a_stateLooks (b + u')) k = true) 4 0 (fun k => ?_) ?_ ?_
      · rw [bl_0]; exact ⟨(fun z => by cases z), fun ⟨u', q, _⟩ => absurd q (Nat.not_lt_zero _)⟩
      · intro f A hA
        have ct : (nI t).toNatClampNeg = t := nI_clamp (by omega)
        have nx : ∀ k, bl (A &&& a_nextItems t) k = true ↔ (∃ u, u < 4 ∧ bl (a_stateLooks (b + u)) k = true) ∧ im_nx g k t := by
          intro k
          rw [bl_and, Bool.and_eq_true, hA k, i1 t k (by omega)]
          refine ⟨fun q => ⟨q.1, q.2.2⟩, fun q => ⟨q.1, ?_, q.2⟩⟩
          obtain ⟨u, u1, u2⟩ := q.1
          exact ⟨(hL u u1 k u2).1, xu_10 hg (hL u u1 k u2).1⟩
        refine br_t (nI_le (Nat.le_refl 4) (by decide)) ⟨vp_in_nI (by omega) (by decide), ?_⟩
        rw [ct]
        refine br_c (fun q => h0 fun w => ?_) (fun q => h1 ?_)
        · rcases w with w | ⟨_, k, k', _, _, _, w5, w6⟩
          · exact no1 w
          · exact bl_no q k' ((nx k').mpr ⟨w5, w6⟩)
        · obtain ⟨k', hk'⟩ := bl_ne q
          have hk' := (nx k').mp hk'
          exact Or.inr ⟨by omega, k0, k', ⟨t, ht, hk0.1⟩, hk0.1, hk0.2, hk'.1, hk'.2⟩
      · intro f u A hu hA hk
        refine br_f (nI_ge hu (by decide)) ⟨pk_in (b + u) 240 (by omega) (nI_add b u), nm_e (nm_r (nI_1 u) (hk _ fun k => ?_))⟩
        rw [pk_cl (b + u) (nI_add b u), bl_or, Bool.or_eq_true, hA k]
        constructor
        · rintro (⟨u', q⟩ | q)
          · exact ⟨u', by omega, q.2⟩
          · exact ⟨u, by omega, q⟩
        · rintro ⟨u', q1, q2⟩
          by_cases e : u' = u
          · subst e; exact Or.inr q2
          · exact Or.inl ⟨u', by omega, q2⟩
  · have : ∃ i j, bl (a_stateLooks (b + t) &&& a_nextItems 7) i = true ∧ bl (a_stateLooks (b + t) &&& a_nextItems 7) j = true ∧ i ≠ j := by
      refine Classical.byContradiction fun q => z ((bl_1bit _).mpr fun i j hi hj => ?_)
      exact Classical.byContradiction fun q2 => q ⟨i, j, hi, hj, q2⟩
    obtain ⟨i, j, q1, q2, q3⟩ := this
    have q1 := (cc i).mp q1
    have q2 := (cc j).mp q2
    exact Or.inl ⟨i, j, q3, ⟨t, ht, q1.1⟩, ⟨t, ht, q2.1⟩, q1.1, q2.1, q1.2, q2.2⟩
theorem xw_clashes_stateLooks (hg : rg_ok g) (hI : xi_I g 10 a_nextItems a_openItems a_restItems) {n : Nat} (hn : n * 4 ≤ 240) (hL : ∀ s u, s < n → u < 4 → tb_io g (a_stateLooks (s * 4 + u))) {post : Int32 → Prop} (h0 : (¬ ∃ s t, s < n ∧ t < 4 ∧ ck_x g (fun u => a_stateLooks (s * 4 + u)) t) → post 0) (h1 : (∃ s t, s < n ∧ t < 4 ∧ ck_x g (fun u => a_stateLooks (s * 4 + u)) t) → post 1) : wpX_clashes__stateLooks post (f_depth, f_made, f_textLength, f_tokenCount, f_wrongPlace, f_ruleCount, f_prepared, f_rulesInUse, f_stateCount, f_wideCount, f_gradeFound, f_readHeight, f_tokensTaken, f_usedCount, a_spotCounts, a_ends, a_arrows, a_takers, a_groups, a_marks, a_text, a_tokenKinds, a_tokenLengths, a_lefts, a_rights, a_rightSizes, a_beginSets, a_followSets, a_nextItems, a_openItems, a_restItems, a_stateItems, a_stateSteps, a_stateLooks, a_wideSteps, a_wideLooks, a_readStates, a_readValues, a_usedRules) (nI n) := by
  refine loop_0 (fun f s (_ : Unit) => wX_clashes__stateLooks_2 post (nI n) f_depth f_made f_textLength f_tokenCount f_wrongPlace f_ruleCount f_prepared f_rulesInUse f_stateCount f_wideCount f_gradeFound f_readHeight f_tokensTaken f_usedCount a_spotCounts a_ends a_arrows a_takers a_groups a_marks a_text a_tokenKinds a_tokenLengths a_lefts a_rights a_rightSizes a_beginSets a_followSets a_nextItems a_openItems a_restItems a_stateItems a_stateSteps a_stateLooks a_wideSteps a_wideLooks a_readStates a_readValues a_usedRules f (nI s)) (fun s _ => ¬ ∃ s' t, s' < s ∧ t < 4 ∧ ck_x g (fun u => a_stateLooks (s' * 4 + u)) t) n () (fun ⟨s', t, q, _⟩ => absurd q (Nat.not_lt_zero _)) ?_ ?_
  · intro f _ hs
    exact br_t (nI_le (Nat.le_refl _) (by omega)) (h0 hs)
  · intro f s _ hs hno hk
    refine br_f (nI_ge hs (by omega)) ?_
    refine loop_0 (fun f' t (_ : Unit) => wX_clashes__stateLooks_10 post (wX_clashes__stateLooks_2 post (nI n) f_depth f_made f_textLength f_tokenCount f_wrongPlace f_ruleCount f_prepared f_rulesInUse f_stateCount f_wideCount f_gradeFound f_readHeight f_tokensTaken f_usedCount a_spotCounts a_ends a_arrows a_takers a_groups a_marks a_text a_tokenKinds a_tokenLengths a_lefts a_rights a_rightSizes a_beginSets a_followSets a_nextItems a_openItems a_restItems a_stateItems a_stateSteps a_stateLooks a_wideSteps a_wideLooks a_readStates a_readValues a_usedRules f) (nI n) (nI s) f_depth f_made f_textLength f_tokenCount f_wrongPlace f_ruleCount f_prepared f_rulesInUse f_stateCount f_wideCount f_gradeFound f_readHeight f_tokensTaken f_usedCount a_spotCounts a_ends a_arrows a_takers a_groups a_marks a_text a_tokenKinds a_tokenLengths a_lefts a_rights a_rightSizes a_beginSets a_followSets a_nextItems a_openItems a_restItems a_stateItems a_stateSteps a_stateLooks a_wideSteps a_wideLooks a_readStates a_readValues a_usedRules f' (nI t)) (fun t _ => ¬ ∃ t', t' < t ∧ ck_x g (fun u => a_stateLooks (s * 4 + u)) t') 4 () (fun ⟨t', q, _⟩ => absurd q (Nat.not_lt_zero _)) ?_ ?_
    · intro f' _ ht
      refine br_t (nI_le (Nat.le_refl 4) (by decide)) (nm_r (nI_1 s) (hk () ?_))
      rintro ⟨s', t, q1, q2, q3⟩
      by_cases e : s' = s
      · subst e; exact ht ⟨t, q2, q3⟩
      · exact hno ⟨s', t, by omega, q2, q3⟩
    · intro f' t _ ht hno2 hk2
      refine br_f (nI_ge ht (by decide)) ?_
      rw [show nI s * 4 = nI (s * 4) from pk_mul s 4]
      refine xw_clashesAt_stateLooks hg hI (by omega) ht (hL s · hs) (fun q => br_t rfl (nm_r (nI_1 t) (hk2 () ?_))) (fun q => br_f (by decide) (h1 ⟨s, t, hs, ht, q⟩))
      rintro ⟨t', q1, q2⟩
      by_cases e : t' = t
      · subst e; exact q q2
      · exact hno2 ⟨t', by omega, q2⟩
theorem xw_closeP_stateLooks (hg : rg_ok g) (hI : xi_I g 10 a_nextItems a_openItems a_restItems) {b : Nat} (hb : b + 4 ≤ 240) (hS : xo_io g (fun t => a_stateLooks (b + t))) {post : SX → Prop} (h : post (f_depth, f_made, f_textLength, f_tokenCount, f_wrongPlace, f_ruleCount, f_prepared, f_rulesInUse, f_stateCount, f_wideCount, f_gradeFound, f_readHeight, f_tokensTaken, f_usedCount, a_spotCounts, a_ends, a_arrows, a_takers, a_groups, a_marks, a_text, a_tokenKinds, a_tokenLengths, a_lefts, a_rights, a_rightSizes, a_beginSets, a_followSets, a_nextItems, a_openItems, a_restItems, a_stateItems, a_stateSteps, (ax_set a_stateLooks b 4 (fun t => mk_l (cw_0 g (xo_S (fun t => a_stateLooks (b + t))) t))), a_wideSteps, a_wideLooks, a_readStates, a_readValues, a_usedRules)) : wpX_closeLooks__stateLooks post (f_depth, f_made, f_textLength, f_tokenCount, f_wrongPlace, f_ruleCount, f_prepared, f_rulesInUse, f_stateCount, f_wideCount, f_gradeFound, f_readHeight, f_tokensTaken, f_usedCount, a_spotCounts, a_ends, a_arrows, a_takers, a_groups, a_marks, a_text, a_tokenKinds, a_tokenLengths, a_lefts, a_rights, a_rightSizes, a_beginSets, a_followSets, a_nextItems, a_openItems, a_restItems, a_stateItems, a_stateSteps, a_stateLooks, a_wideSteps, a_wideLooks, a_readStates, a_readValues, a_usedRules) (nI b) := by
  have := xw_closeLooks_stateLooks hg hI hb hS h
  rw [ax_self] at this
  exact this
end
