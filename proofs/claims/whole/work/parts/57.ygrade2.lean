/-! the reference's grade -/
variable {h_made h_depth h_length h_tokenCount h_wrong h_letterCount h_ruleCount h_makingCount h_usefulRules h_stateCount h_wideCount h_useCount h_result : Int32} {b_ops b_firsts b_seconds b_sizes b_stack b_roots b_text b_ends b_tokenKinds b_tokenSizes b_letters b_begins b_closes b_empties b_nexts b_sets b_leads b_classes b_newClasses b_lefts b_rights b_counts b_making b_firstSets b_followSets b_tasks b_held b_uses b_reach : Nat → Int32} {b_states b_looks b_wides b_work b_met : Nat → Int64}
section
variable {g : rg_T}
theorem yw_isClear (hg : rg_ok g) (hG : xg_G g b_lefts b_rights b_counts) (hl : ∀ r, r < 9 → ∃ v, v < 7 ∧ b_lefts r = nI v) (hW : yf_ok g b_followSets) {n way : Nat} (hn : n ≤ 60 ∨ (way = 3 ∧ n ≤ 80)) (hw : way ≤ 3) (hcnt : (way = 3 → h_wideCount = nI n) ∧ (way ≠ 3 → h_stateCount = nI n)) {M : Nat → Int64} (hM : ∀ s, s < n → tb_io g (M s)) (hM0 : way ≠ 3 → ∀ s, s < n → b_states s = M s) (hM3 : way = 3 → ∀ s, s < n → ∀ k, bl (M s) k = true ↔ ∃ u, u < 4 ∧ bl (b_wides (s * 4 + u)) k = true) {C : Nat → Nat → Nat → Prop}
    (hC : ∀ s t k, s < n → t < 4 → im_ok g k → (C s t k ↔ way = 0 ∨ (way = 1 ∧ cs_C1 g t k) ∨ (way = 2 ∧ bl (b_looks (s * 4 + t)) k = true) ∨ (way = 3 ∧ bl (b_wides (s * 4 + t)) k = true)))
    {post : Int32 → Prop} (h1 : (¬ ∃ s t, s < n ∧ t < 4 ∧ yk_x g (M s) (C s t) way t) → post 1) (h0 : (∃ s t, s < n ∧ t < 4 ∧ yk_x g (M s) (C s t) way t) → post 0) : wpY_isClear post (h_made, h_depth, h_length, h_tokenCount, h_wrong, h_letterCount, h_ruleCount, h_makingCount, h_usefulRules, h_stateCount, h_wideCount, h_useCount, h_result, b_ops, b_firsts, b_seconds, b_sizes, b_stack, b_roots, b_text, b_ends, b_tokenKinds, b_tokenSizes, b_letters, b_begins, b_closes, b_empties, b_nexts, b_sets, b_leads, b_classes, b_newClasses, b_lefts, b_rights, b_counts, b_making, b_firstSets, b_followSets, b_states, b_looks, b_wides, b_work, b_met, b_tasks, b_held, b_uses, b_reach) (nI way) := by
  have lp : ∃ f, wY_isClear_19 post (nI way) (nI n) h_made h_depth h_length h_tokenCount h_wrong h_letterCount h_ruleCount h_makingCount h_usefulRules h_stateCount h_wideCount h_useCount h_result b_ops b_firsts b_seconds b_sizes b_stack b_roots b_text b_ends b_tokenKinds b_tokenSizes b_letters b_begins b_closes b_empties b_nexts b_sets b_leads b_classes b_newClasses b_lefts b_rights b_counts b_making b_firstSets b_followSets b_states b_looks b_wides b_work b_met b_tasks b_held b_uses b_reach f 0 := by
    have e4 : (4 : Int32) * nI n = nI (n * 4) := by rw [Nat.mul_comm]; exact pk_mul 4 n
    refine loop_0 (fun f m (_ : Unit) => wY_isClear_19 post (nI way) (nI n) h_made h_depth h_length h_tokenCount h_wrong h_letterCount h_ruleCount h_makingCount h_usefulRules h_stateCount h_wideCount h_useCount h_result b_ops b_firsts b_seconds b_sizes b_stack b_roots b_text b_ends b_tokenKinds b_tokenSizes b_letters b_begins b_closes b_empties b_nexts b_sets b_leads b_classes b_newClasses b_lefts b_rights b_counts b_making b_firstSets b_followSets b_states b_looks b_wides b_work b_met b_tasks b_held b_uses b_reach f (nI m)) (fun m _ => ¬ ∃ m', m' < m ∧ yk_x g (M (m' / 4)) (C (m' / 4) (m' % 4)) way (m' % 4)) (n * 4) () (fun ⟨m', q, _⟩ => absurd q (Nat.not_lt_zero _)) ?_ ?_
    · intro f _ hm
      refine br_t (by rw [e4]; exact nI_le (Nat.le_refl _) (by omega)) (h1 ?_)
      rintro ⟨s, t, q1, q2, q3⟩
      refine hm ⟨s * 4 + t, by omega, ?_⟩
      rw [show (s * 4 + t) / 4 = s by omega, show (s * 4 + t) % 4 = t by omega]; exact q3
    · intro f m _ hm hno hk
      have hs61 : m / 4 < 61 ∨ (way = 3 ∧ m / 4 < 81) := by clear hno h0 h1; omega
      have hm31 : m < 2 ^ 31 := by clear hno h0 h1; omega
      have hn31 : n * 4 < 2 ^ 31 := by clear hno h0 h1; omega
      have hmn : m / 4 < n := by clear hno h0 h1; omega
      have hm4 : m % 4 < 4 := Nat.mod_lt _ (by decide)
      have d1 : nI m / 4 = nI (m / 4) := pk_div (d := 4) hm31 (by decide) (by decide)
      have d2 : nI m - nI m / 4 * 4 = nI (m % 4) := pk_rem (d := 4) hm31 (by decide) (by decide)
      refine br_f (by rw [e4]; exact nI_ge hm hn31) ⟨by decide, by decide, ?_⟩
      rw [d2, d1]
      refine yw_clashes hg hG hl hW (s := m / 4) hs61 hw hm4 (hM _ hmn) (fun w => hM0 w _ hmn) (fun w => hM3 w _ hmn) (C := C (m / 4) (m % 4)) (fun k io => hC _ _ k hmn hm4 io) (fun q => br_t rfl (nm_r (nI_1 m) (hk () ?_))) (fun q => br_f (by decide) (h0 ⟨m / 4, m % 4, hmn, hm4, q⟩))
      rintro ⟨m', p1, p2⟩
      by_cases e : m' = m
      · subst e; exact q p2
      · exact hno ⟨m', Nat.lt_of_le_of_ne (Nat.le_of_lt_succ p1) e, p2⟩
  refine pk_eq way 3 (fun w => ?_) (fun w => ?_)
  · rw [← hcnt.1 w] at lp; exact lp
  · rw [← hcnt.2 w] at lp; exact lp
/-- the grade, as both sides find it -/
def yg_R (g : rg_T) (r : Int32) : Prop := ((¬ ∃ r, us_U g r) ∧ r = -4) ∨ ((∃ r, us_U g r) ∧ (∃ k, 60 < (sb_B g k).2) ∧ r = -5) ∨ ((∃ r, us_U g r) ∧ ∃ f n, bf_fin (tb_a0 g) (tb_to g) f n ∧ n ≤ 60 ∧ gd_R g f n r)
theorem yg_no {f : Nat → Int64} {n : Nat} (h : bf_fin (tb_a0 g) (tb_to g) f n) (hn : n ≤ 60) : ¬ ∃ k, 60 < (sb_B g k).2 := by
  rintro ⟨k, hk⟩
  have := bf_big (k := k) h
  have hk : 60 < (bf_at (tb_a0 g) (tb_to g) k).2 := hk
  omega
theorem yg_one {r r' : Int32} (h : yg_R g r) (h' : yg_R g r') : r = r' := by
  rcases h with ⟨a1, a2⟩ | ⟨a1, a2, a3⟩ | ⟨a1, f, n, a2, a3, a4⟩ <;> rcases h' with ⟨b1, b2⟩ | ⟨b1, b2, b3⟩ | ⟨b1, f', n', b2, b3, b4⟩
  · rw [a2, b2]
  · exact absurd b1 a1
  · exact absurd b1 a1
  · exact absurd a1 b1
  · rw [a3, b3]
  · exact absurd a2 (yg_no b2 b3)
  · exact absurd a1 b1
  · exact absurd b2 (yg_no a2 a3)
  · obtain ⟨rfl, rfl⟩ := bf_one a2 b2
    exact gd_one a4 b4
/-- the reference's clashes are those told by cs -/
theorem yk_0 (hg : rg_ok g) {f : Nat → Int64} {n : Nat} (hn : 1 ≤ n) : (∃ s t, s < n ∧ t < 4 ∧ yk_x g (f s) (fun _ => True) 0 t) ↔ cs_0 g f n := by
  constructor
  · rintro ⟨s, t, q1, q2, ⟨k, k', a, b, c⟩ | ⟨⟨k, a⟩, k', b, v, v3, c, _⟩⟩
    · exact ⟨s, t, q1, q2, Or.inl ⟨k, k', a, b.1, c.1, trivial, trivial, b.2.1, c.2.1⟩⟩
    · exact ⟨s, v, q1, by omega, Or.inr ⟨v3, k, k', a.1, trivial, a.2.1, b, c⟩⟩
  · rintro ⟨s, t, q1, q2, ⟨k, k', a, b, c, _, _, d, e⟩ | ⟨t3, k, k', a, _, b, c, d⟩⟩
    · exact ⟨s, t, q1, q2, Or.inl ⟨k, k', a, ⟨b, d, trivial⟩, ⟨c, e, trivial⟩⟩⟩
    · exact ⟨s, t, q1, q2, Or.inr ⟨⟨k, a, b, trivial⟩, k', c, t, t3, d, Or.inl rfl⟩⟩
theorem yk_c {M : Int64} {N : Nat → Prop} {C : Nat → Nat → Prop} {way t : Nat} (hN : ∀ k, bl M k = true ↔ N k) (hw : way ≠ 0) : yk_x g M (C t) way t ↔ cs_x g N C t := by
  constructor
  · rintro (⟨k, k', a, b, c⟩ | ⟨⟨k, a⟩, k', b, v, v3, c, e⟩)
    · exact Or.inl ⟨k, k', a, (hN k).mp b.1, (hN k').mp c.1, b.2.2, c.2.2, b.2.1, c.2.1⟩
    · rcases e with e | rfl
      · exact absurd e hw
      · exact Or.inr ⟨v3, k, k', (hN k).mp a.1, a.2.2, a.2.1, (hN k').mp b, c⟩
  · rintro (⟨k, k', a, b, c, p, q, d, e⟩ | ⟨t3, k, k', a, p, b, c, d⟩)
    · exact Or.inl ⟨k, k', a, ⟨(hN k).mpr b, d, p⟩, ⟨(hN k').mpr c, e, q⟩⟩
    · exact Or.inr ⟨⟨k, (hN k).mpr a, b, p⟩, k', (hN k').mpr c, t, t3, d, Or.inr rfl⟩
theorem yw_findGrade (hg : rg_ok g) (hG : xg_G g b_lefts b_rights b_counts) (hl : ∀ r, r < 9 → ∃ v, v < 7 ∧ b_lefts r = nI v) {post : Int32 → SY → Prop} (h : ∀ r u sc wc fi fo st lo wi wo, yg_R g r → yg_U g u → xb_ok g fi → xb_4 fi → post r (h_made, h_depth, h_length, h_tokenCount, h_wrong, h_letterCount, (nI (rg_n g)), h_makingCount, u, sc, wc, h_useCount, h_result, b_ops, b_firsts, b_seconds, b_sizes, b_stack, b_roots, b_text, b_ends, b_tokenKinds, b_tokenSizes, b_letters, b_begins, b_closes, b_empties, b_nexts, b_sets, b_leads, b_classes, b_newClasses, b_lefts, b_rights, b_counts, b_making, fi, fo, st, lo, wi, wo, b_met, b_tasks, b_held, b_uses, b_reach)) : wpY_findGrade post (h_made, h_depth, h_length, h_tokenCount, h_wrong, h_letterCount, (nI (rg_n g)), h_makingCount, h_usefulRules, h_stateCount, h_wideCount, h_useCount, h_result, b_ops, b_firsts, b_seconds, b_sizes, b_stack, b_roots, b_text, b_ends, b_tokenKinds, b_tokenSizes, b_letters, b_begins, b_closes, b_empties, b_nexts, b_sets, b_leads, b_classes, b_newClasses, b_lefts, b_rights, b_counts, b_making, b_firstSets, b_followSets, b_states, b_looks, b_wides, b_work, b_met, b_tasks, b_held, b_uses, b_reach) := by
  refine yw_makeStates (h_usefulRules := h_usefulRules) (h_stateCount := h_stateCount) (b_firstSets := b_firstSets) (b_followSets := b_followSets) (b_states := b_states) hg hG (fun u fi fo sc st hU hF h4 hW hS => ?_)
  have e0 : u = 0 ↔ ¬ ∃ r, us_U g r := by
    constructor
    · rintro rfl ⟨r, hr⟩
      have := (hU r).mpr hr
      rw [b_0] at this; cases this
    · intro no
      rw [b_zero]
      intro i _
      cases e : bt u i
      · rfl
      · exact absurd ⟨i, (hU i).mp e⟩ no
  obtain ⟨k, n, ⟨hk1, hk2⟩, hn61, hk3, rfl⟩ := hS
  refine br_c (fun z => br_t z (h _ u _ _ fi fo st _ _ _ (Or.inl ⟨e0.mp z, rfl⟩) hU hF h4)) (fun z => pk_le n 60 (fun hn => ?_) (fun hn => br_f z (h _ u _ _ fi fo st _ _ _ (Or.inr (Or.inl ⟨Classical.byContradiction fun q => z (e0.mpr q), ⟨k, by omega⟩, rfl⟩)) hU hF h4)))
  have hu : ∃ r, us_U g r := Classical.byContradiction fun q => z (e0.mpr q)
  have hfin : bf_fin (tb_a0 g) (tb_to g) (sb_B g k).1 n := ⟨k, by rw [← hk1]; rfl, by omega⟩
  have hf := fin_full hfin
  generalize (sb_B g k).1 = f at hfin hf hk2
  refine yw_findLooks hg hG hU h4 hF hn hf hk2 (fun lo wo hlo => ?_)
  have end4 : ∀ r, gd_R g f n r → ∀ wc wi wo', post r (h_made, h_depth, h_length, h_tokenCount, h_wrong, h_letterCount, (nI (rg_n g)), h_makingCount, u, (nI n), wc, h_useCount, h_result, b_ops, b_firsts, b_seconds, b_sizes, b_stack, b_roots, b_text, b_ends, b_tokenKinds, b_tokenSizes, b_letters, b_begins, b_closes, b_empties, b_nexts, b_sets, b_leads, b_classes, b_newClasses, b_lefts, b_rights, b_counts, b_making, fi, fo, st, lo, wi, wo', b_met, b_tasks, b_held, b_uses, b_reach) := fun r hr wc wi wo' => h r u _ wc fi fo st lo wi wo' (Or.inr (Or.inr ⟨hu, f, n, hfin, hn, hr⟩)) hU hF h4
  have io : ∀ s, s < n → tb_io g (f s) := fun s hs => tb_fio hg hf hs
  -- way 3
  have w3 : cs_0 g f n → cs_1 g f n → cs_2 g f n → wY_findGrade_41 post h_made h_depth h_length h_tokenCount h_wrong h_letterCount (nI (rg_n g)) h_makingCount u (nI n) h_wideCount h_useCount h_result b_ops b_firsts b_seconds b_sizes b_stack b_roots b_text b_ends b_tokenKinds b_tokenSizes b_letters b_begins b_closes b_empties b_nexts b_sets b_leads b_classes b_newClasses b_lefts b_rights b_counts b_making fi fo st lo b_wides wo b_met b_tasks b_held b_uses b_reach 1 (nI 3) := by
    intro c0 c1 c2
    refine br_t (nI_le (Nat.le_refl 3) (by decide)) (yw_makeWides hg hG hU h4 hF (fun wc wi wo' hZ => ?_))
    obtain ⟨kw, nw, ⟨z1, z2⟩, z3, z4, rfl⟩ := hZ
    refine pk_le nw 80 (fun q => ?_) (fun q => end4 _ (Or.inr (Or.inr (Or.inr (Or.inl ⟨c0, c1, c2, ⟨kw, by omega⟩, rfl⟩)))) _ _ _)
    have hfw : bf_fin (tw_a0 g) (tw_to g) (wb_B g kw).1 nw := ⟨kw, by rw [← z1]; rfl, by omega⟩
    have hfull := fin_fullw hfw
    generalize (wb_B g kw).1 = fw at hfw hfull z2
    have eL : ∀ s, s < nw → ∀ u', u' < 4 → wi (s * 4 + u') = w4_t (fw s) u' := by
      intro s hs u' hu'
      rw [← z2 s hs]
      unfold xz_w
      rw [w4_tm hu']
    have eN : ∀ s, s < nw → ∀ k, bl (mk_l (fun k => ∃ u', u' < 4 ∧ bl (w4_t (fw s) u') k = true)) k = true ↔ ∃ u', u' < 4 ∧ bl (w4_t (fw s) u') k = true := by
      intro s hs k
      rcases Nat.lt_or_ge k 64 with q | q
      · exact mk_bl _ q
      · rw [bl_big q]
        refine ⟨(fun w => by cases w), fun ⟨u', w1, w2⟩ => ?_⟩
        rw [bl_big q] at w2; cases w2
    have eq3 : (∃ s t, s < nw ∧ t < 4 ∧ yk_x g (mk_l (fun k => ∃ u', u' < 4 ∧ bl (w4_t (fw s) u') k = true)) (fun k => bl (w4_t (fw s) t) k = true) 3 t) ↔ cs_3 g fw nw := by
      constructor
      · rintro ⟨s, t, p1, p2, p3⟩
        exact ⟨s, t, p1, p2, (yk_c (C := fun t k => bl (w4_t (fw s) t) k = true) (eN s p1) (by decide)).mp p3⟩
      · rintro ⟨s, t, p1, p2, p3⟩
        exact ⟨s, t, p1, p2, (yk_c (C := fun t k => bl (w4_t (fw s) t) k = true) (eN s p1) (by decide)).mpr p3⟩
    refine yw_isClear (way := 3) (n := nw) (b_wides := wi) hg hG hl hW (Or.inr ⟨rfl, q⟩) (by omega) ⟨fun _ => rfl, fun q => absurd rfl q⟩ (M := fun s => mk_l (fun k => ∃ u', u' < 4 ∧ bl (w4_t (fw s) u') k = true)) (fun s hs k hk => ?_) (fun q => absurd rfl q) (fun _ s hs k => ?_) (C := fun s t k => bl (w4_t (fw s) t) k = true) (fun s t k hs ht _ => ?_) (fun p => br_f (by decide) (end4 _ (Or.inr (Or.inr (Or.inr (Or.inr ⟨c0, c1, c2, fw, nw, hfw, q, Or.inl ⟨fun p2 => p (eq3.mpr p2), rfl⟩⟩)))) _ _ _)) (fun p => br_t rfl (end4 _ (Or.inr (Or.inr (Or.inr (Or.inr ⟨c0, c1, c2, fw, nw, hfw, q, Or.inr ⟨eq3.mp p, rfl⟩⟩)))) _ _ _))
    · obtain ⟨u', p1, p2⟩ := (eN s hs k).mp hk
      exact (tw_fio hg hfull hs u' k p1 p2).1
    · rw [eN s hs k]
      exact ⟨fun ⟨u', p1, p2⟩ => ⟨u', p1, by rw [eL s hs u' p1]; exact p2⟩, fun ⟨u', p1, p2⟩ => ⟨u', p1, by rw [← eL s hs u' p1]; exact p2⟩⟩
    · rw [eL s hs t ht]
      exact ⟨fun p => Or.inr (Or.inr (Or.inr ⟨rfl, p⟩)), fun p => by
        rcases p with p | p | p | p
        · omega
        · omega
        · omega
        · exact p.2⟩
  have w2 : cs_0 g f n → cs_1 g f n → wY_findGrade_41 post h_made h_depth h_length h_tokenCount h_wrong h_letterCount (nI (rg_n g)) h_makingCount u (nI n) h_wideCount h_useCount h_result b_ops b_firsts b_seconds b_sizes b_stack b_roots b_text b_ends b_tokenKinds b_tokenSizes b_letters b_begins b_closes b_empties b_nexts b_sets b_leads b_classes b_newClasses b_lefts b_rights b_counts b_making fi fo st lo b_wides wo b_met b_tasks b_held b_uses b_reach 2 (nI 2) := by
    intro c0 c1
    have eq2 : (∃ s t, s < n ∧ t < 4 ∧ yk_x g (f s) (la_L g f n s t) 2 t) ↔ cs_2 g f n := by
      constructor
      · rintro ⟨s, t, p1, p2, p3⟩
        exact ⟨s, t, p1, p2, (yk_c (C := la_L g f n s) (fun _ => Iff.rfl) (by decide)).mp p3⟩
      · rintro ⟨s, t, p1, p2, p3⟩
        exact ⟨s, t, p1, p2, (yk_c (C := la_L g f n s) (fun _ => Iff.rfl) (by decide)).mpr p3⟩
    refine br_f (nI_ge (a := 2) (b := 3) (by decide) (by decide)) (yw_isClear (way := 2) (n := n) (b_looks := lo) (b_states := st) hg hG hl hW (Or.inl hn) (by omega) ⟨fun q => absurd q (by decide), fun _ => rfl⟩ (M := f) io (fun _ s hs => hk2 s hs) (fun q => absurd q (by decide)) (C := fun s t k => la_L g f n s t k) (fun s t k hs ht _ => ?_) (fun p => br_f (by decide) (end4 _ (Or.inr (Or.inr (Or.inl ⟨c0, c1, fun p2 => p (eq2.mpr p2), rfl⟩))) _ _ _)) (fun p => br_t rfl (nm_r (nI_1 2) (w3 c0 c1 (eq2.mp p)))))
    rw [hlo s t k hs ht]
    exact ⟨fun p => Or.inr (Or.inr (Or.inl ⟨rfl, p⟩)), fun p => by
      rcases p with p | p | p | p
      · omega
      · omega
      · exact p.2
      · omega⟩
  have w1 : cs_0 g f n → wY_findGrade_41 post h_made h_depth h_length h_tokenCount h_wrong h_letterCount (nI (rg_n g)) h_makingCount u (nI n) h_wideCount h_useCount h_result b_ops b_firsts b_seconds b_sizes b_stack b_roots b_text b_ends b_tokenKinds b_tokenSizes b_letters b_begins b_closes b_empties b_nexts b_sets b_leads b_classes b_newClasses b_lefts b_rights b_counts b_making fi fo st lo b_wides wo b_met b_tasks b_held b_uses b_reach 3 (nI 1) := by
    intro c0
    have eq1 : (∃ s t, s < n ∧ t < 4 ∧ yk_x g (f s) (cs_C1 g t) 1 t) ↔ cs_1 g f n := by
      constructor
      · rintro ⟨s, t, p1, p2, p3⟩
        exact ⟨s, t, p1, p2, (yk_c (C := cs_C1 g) (fun _ => Iff.rfl) (by decide)).mp p3⟩
      · rintro ⟨s, t, p1, p2, p3⟩
        exact ⟨s, t, p1, p2, (yk_c (C := cs_C1 g) (fun _ => Iff.rfl) (by decide)).mpr p3⟩
    refine br_f (nI_ge (a := 1) (b := 3) (by decide) (by decide)) (yw_isClear (way := 1) (n := n) (b_states := st) hg hG hl hW (Or.inl hn) (by omega) ⟨fun q => absurd q (by decide), fun _ => rfl⟩ (M := f) io (fun _ s hs => hk2 s hs) (fun q => absurd q (by decide)) (C := fun s t k => cs_C1 g t k) (fun s t k hs ht _ => ?_) (fun p => br_f (by decide) (end4 _ (Or.inr (Or.inl ⟨c0, fun p2 => p (eq1.mpr p2), rfl⟩)) _ _ _)) (fun p => br_t rfl (nm_r (nI_1 1) (w2 c0 (eq1.mp p)))))
    exact ⟨fun p => Or.inr (Or.inl ⟨rfl, p⟩), fun p => by
      rcases p with p | p | p | p
      · omega
      · exact p.2
      · omega
      · omega⟩
  have eq0 := yk_0 hg (f := f) (n := n) hf.1
  refine ⟨4, br_f (nI_ge (a := 0) (b := 3) (by decide) (by decide)) (yw_isClear (way := 0) (n := n) (b_states := st) hg hG hl hW (Or.inl hn) (by omega) ⟨fun q => absurd q (by decide), fun _ => rfl⟩ (M := f) io (fun _ s hs => hk2 s hs) (fun q => absurd q (by decide)) (C := fun s t k => True) (fun s t k hs ht _ => ⟨fun _ => Or.inl rfl, fun _ => trivial⟩) (fun p => br_f (by decide) (end4 _ (Or.inl ⟨fun p2 => p (eq0.mpr p2), rfl⟩) _ _ _)) (fun p => br_t rfl (nm_r (nI_1 0) (w1 (eq0.mp p)))))⟩
/-- the component's grade is that -/
theorem xp_R {ru sc wc gf : Int32} {bs fs : Nat → Int32} {ni oi ri si : Nat → Int64} {ss : Nat → Int32} {sl : Nat → Int64} {ws : Nat → Int32} {wl : Nat → Int64} (h : xp_T g ru sc wc gf bs fs ni oi ri si ss sl ws wl) : yg_R g gf := by
  obtain ⟨_, _, _, _, h | h | ⟨h1, f, n, h2, h3, h4, h5, h6⟩⟩ := h
  · exact Or.inl ⟨h.1, h.2.2.2⟩
  · exact Or.inr (Or.inl ⟨h.1, h.2.1, h.2.2.2.2⟩)
  · exact Or.inr (Or.inr ⟨h1, f, n, h2.1, h2.2.1, h6⟩)
end
