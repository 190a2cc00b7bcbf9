/-! the reference's table of patterns, what matches where, and its tokens -/
variable {h_made h_depth h_length h_tokenCount h_wrong h_letterCount h_ruleCount h_makingCount h_usefulRules h_stateCount h_wideCount h_useCount h_result : Int32} {b_ops b_firsts b_seconds b_sizes b_stack b_roots b_text b_ends b_tokenKinds b_tokenSizes b_letters b_begins b_closes b_empties b_nexts b_sets b_leads b_classes b_newClasses b_lefts b_rights b_counts b_making b_firstSets b_followSets b_tasks b_held b_uses b_reach : Nat → Int32} {b_states b_looks b_wides b_work b_met : Nat → Int64}
def yn_N (m : Nat) (g : Nat → gk_T) (lo op fi se : Nat → Nat) (b_ops b_firsts b_seconds b_sizes : Nat → Int32) : Prop := ∀ p, p < m → b_ops p = nI (op p) ∧ gk_wf (g p) ∧ b_sizes p = nI (gk_c (g p)) ∧ lo p ≤ p ∧
  ((op p < 5 ∧ g p = gk_leaf (op p) ∧ b_firsts p = -1 ∧ b_seconds p = -1 ∧ lo p = p) ∨
   (5 ≤ op p ∧ op p < 8 ∧ fi p < p ∧ b_firsts p = nI (fi p) ∧ b_seconds p = -1 ∧ g p = gk_rep (op p - 5) (g (fi p)) ∧ lo p = lo (fi p)) ∨
   (8 ≤ op p ∧ op p < 10 ∧ fi p < lo (se p) ∧ se p < p ∧ b_firsts p = nI (fi p) ∧ b_seconds p = nI (se p) ∧ g p = gk_join (op p - 8) (g (fi p)) (g (se p)) ∧ lo p = lo (fi p)))
theorem yw_endsOf {p n : Nat} {x : Int32} (hp : p < 60) (hn : n ≤ 24) {post : Int32 → Prop} (h : ∀ r, (∀ j, bt r j = true ↔ ∃ i, i ≤ n ∧ bt x i = true ∧ bt (b_ends (p * 25 + i)) j = true) → post r) : wpY_endsOf post (h_made, h_depth, (nI n), h_tokenCount, h_wrong, h_letterCount, h_ruleCount, h_makingCount, h_usefulRules, h_stateCount, h_wideCount, h_useCount, h_result, b_ops, b_firsts, b_seconds, b_sizes, b_stack, b_roots, b_text, b_ends, b_tokenKinds, b_tokenSizes, b_letters, b_begins, b_closes, b_empties, b_nexts, b_sets, b_leads, b_classes, b_newClasses, b_lefts, b_rights, b_counts, b_making, b_firstSets, b_followSets, b_states, b_looks, b_wides, b_work, b_met, b_tasks, b_held, b_uses, b_reach) (nI p) x := by
  refine loop_0 (fun k i s => wY_endsOf_5 post (nI p) x h_made h_depth (nI n) h_tokenCount h_wrong h_letterCount h_ruleCount h_makingCount h_usefulRules h_stateCount h_wideCount h_useCount h_result b_ops b_firsts b_seconds b_sizes b_stack b_roots b_text b_ends b_tokenKinds b_tokenSizes b_letters b_begins b_closes b_empties b_nexts b_sets b_leads b_classes b_newClasses b_lefts b_rights b_counts b_making b_firstSets b_followSets b_states b_looks b_wides b_work b_met b_tasks b_held b_uses b_reach k s (nI i)) (fun i s => ∀ j, bt s j = true ↔ ∃ i', i' < i ∧ bt x i' = true ∧ bt (b_ends (p * 25 + i')) j = true) (n + 1) 0 ?_ ?_ ?_
  · intro j
    rw [b_0]
    exact ⟨(fun z => by cases z), fun ⟨i', hi, _⟩ => absurd hi (Nat.not_lt_zero i')⟩
  · intro k s hs
    refine br_t (nI_lt (by omega) (by omega)) (h s fun j => ?_)
    rw [hs j]
    exact ⟨fun ⟨i, a, b⟩ => ⟨i, by omega, b⟩, fun ⟨i, a, b⟩ => ⟨i, by omega, b⟩⟩
  · intro k i s hi hs hk
    refine br_f (nI_nlt (by omega) (by omega)) (br_c (fun z => ?_) (fun z => ?_))
    · have z := (b_test x (n := i) (by omega)).mp z
      refine ⟨pk_in (p * 25 + i) 1500 (by omega) (ix_25 p i), nm_e (nm_r (nI_1 i) (hk _ fun j => ?_))⟩
      rw [pk_cl (p * 25 + i) (ix_25 p i), b_or, Bool.or_eq_true, hs j]
      constructor
      · rintro (⟨i', a, b⟩ | a)
        · exact ⟨i', by omega, b⟩
        · exact ⟨i, by omega, z, a⟩
      · rintro ⟨i', a, b, c⟩
        rcases Nat.lt_or_ge i' i with y | y
        · exact Or.inl ⟨i', y, b, c⟩
        · have e : i' = i := by omega
          subst e; exact Or.inr c
    · have z : ¬ bt x i = true := fun y => z ((b_test x (by omega)).mpr y)
      refine nm_r (nI_1 i) (hk _ fun j => ?_)
      rw [hs j]
      constructor
      · rintro ⟨i', a, b⟩; exact ⟨i', by omega, b⟩
      · rintro ⟨i', a, b, c⟩
        rcases Nat.lt_or_ge i' i with y | y
        · exact ⟨i', y, b, c⟩
        · have e : i' = i := by omega
          subst e; exact absurd b z
/-- the ends of node p from every place -/
def yn_E (b_ends : Nat → Int32) (x : gk_T) (t : Nat → Nat) (n p : Nat) : Prop := ∀ i, i ≤ n → ∀ j, bt (b_ends (p * 25 + i)) j = true ↔ j ≤ n ∧ gk_acc x t i j
/-- the 24 rounds of a repeat -/
theorem yw_rounds {p q o n : Nat} {x : gk_T} {t : Nat → Nat} {B : Int32} (hp : p < 60) (hq : q < 60) (ho : o < 7) (hn : n ≤ 24) (hf : b_firsts p = nI q) (hE : yn_E b_ends x t n q) (hB : ∀ j, bt B j = true → j ≤ n) {post : Int32 → Prop}
    (h : ∀ r, (∀ j, bt r j = true ↔ j ≤ n ∧ ∃ b, bt B b = true ∧ gk_star (gk_acc x t) b j) → post r) : ∃ k, wY_endsFrom_171 post (nI p) (nI o) h_made h_depth (nI n) h_tokenCount h_wrong h_letterCount h_ruleCount h_makingCount h_usefulRules h_stateCount h_wideCount h_useCount h_result b_ops b_firsts b_seconds b_sizes b_stack b_roots b_text b_ends b_tokenKinds b_tokenSizes b_letters b_begins b_closes b_empties b_nexts b_sets b_leads b_classes b_newClasses b_lefts b_rights b_counts b_making b_firstSets b_followSets b_states b_looks b_wides b_work b_met b_tasks b_held b_uses b_reach k B 0 := by
  refine loop_0 (fun k i s => wY_endsFrom_171 post (nI p) (nI o) h_made h_depth (nI n) h_tokenCount h_wrong h_letterCount h_ruleCount h_makingCount h_usefulRules h_stateCount h_wideCount h_useCount h_result b_ops b_firsts b_seconds b_sizes b_stack b_roots b_text b_ends b_tokenKinds b_tokenSizes b_letters b_begins b_closes b_empties b_nexts b_sets b_leads b_classes b_newClasses b_lefts b_rights b_counts b_making b_firstSets b_followSets b_states b_looks b_wides b_work b_met b_tasks b_held b_uses b_reach k s (nI i)) (fun i s => ∀ j, bt s j = true ↔ j ≤ n ∧ ∃ b c, c ≤ i ∧ bt B b = true ∧ gk_it (gk_acc x t) c b j) 24 B ?_ ?_ ?_
  · intro j
    constructor
    · intro z; exact ⟨hB j z, j, 0, Nat.le_refl _, z, rfl⟩
    · rintro ⟨_, b, c, hc, z, y⟩
      have e : c = 0 := by omega
      subst e
      have y : b = j := y
      subst y; exact z
  · intro k s hs
    refine br_t (nI_le (Nat.le_refl 24) (by decide)) (h s fun j => ?_)
    rw [hs j]
    constructor
    · rintro ⟨a, b, c, _, d, e⟩; exact ⟨a, b, d, c, e⟩
    · rintro ⟨a, b, d, e⟩
      obtain ⟨c, c1, c2⟩ := gk_short (fun _ _ z => gk_acc_le z) 24 j (by omega) e
      exact ⟨a, b, c, c1, d, c2⟩
  · intro k i s hi hs hk
    refine br_f (nI_ge hi (by decide)) (br_f (nI_ge (b := 7) ho (by decide)) ⟨vp_in_nI hp (by decide), ?_⟩)
    rw [nI_clamp (by omega : p < 2 ^ 31), hf]
    refine yw_endsOf hq hn (fun r hr => nm_e (nm_r (nI_1 i) (hk _ fun j => ?_)))
    rw [b_or, Bool.or_eq_true, hs j, hr j]
    constructor
    · rintro (⟨a, b, c, d, e, f⟩ | ⟨m, m1, m2, m3⟩)
      · exact ⟨a, b, c, by omega, e, f⟩
      · obtain ⟨_, b, c, d, e, f⟩ := (hs m).mp m2
        obtain ⟨j1, j2⟩ := (hE m m1 j).mp m3
        exact ⟨j1, b, c + 1, by omega, e, m, f, j2⟩
    · rintro ⟨a, b, c, d, e, f⟩
      rcases Nat.lt_or_ge c (i + 1) with z | z
      · exact Or.inl ⟨a, b, c, by omega, e, f⟩
      · have z : c = i + 1 := by omega
        subst z
        obtain ⟨m, f1, f2⟩ := f
        have hm : m ≤ n := by have := gk_acc_le f2; omega
        exact Or.inr ⟨m, hm, (hs m).mpr ⟨hm, b, i, Nat.le_refl _, e, f1⟩, (hE m hm j).mpr ⟨a, f2⟩⟩
theorem yw_endsFrom {m p n i : Nat} {g : Nat → gk_T} {lo op fi se : Nat → Nat} {t : Nat → Nat} (hN : yn_N m g lo op fi se b_ops b_firsts b_seconds b_sizes) (hm : m ≤ 60) (hp : p < m) (hn : n ≤ 24) (hi : i ≤ n) (ht : ∀ i, i < n → b_text i = nI (t i) ∧ t i < 3)
    (hE : ∀ q, q < p → yn_E b_ends (g q) t n q) {post : Int32 → Prop} (h : ∀ r, (∀ j, bt r j = true ↔ j ≤ n ∧ gk_acc (g p) t i j) → post r) : wpY_endsFrom post (h_made, h_depth, (nI n), h_tokenCount, h_wrong, h_letterCount, h_ruleCount, h_makingCount, h_usefulRules, h_stateCount, h_wideCount, h_useCount, h_result, b_ops, b_firsts, b_seconds, b_sizes, b_stack, b_roots, b_text, b_ends, b_tokenKinds, b_tokenSizes, b_letters, b_begins, b_closes, b_empties, b_nexts, b_sets, b_leads, b_classes, b_newClasses, b_lefts, b_rights, b_counts, b_making, b_firstSets, b_followSets, b_states, b_looks, b_wides, b_work, b_met, b_tasks, b_held, b_uses, b_reach) (nI p) (nI i) := by
  obtain ⟨h1, h2, h3, h4, h5⟩ := hN p hp
  have cp : (nI p).toNatClampNeg = p := nI_clamp (by omega)
  have ip : vp_in (nI p) 60 := vp_in_nI (by omega) (by decide)
  refine ⟨ip, nm_r (e' := nI (op p)) (by rw [cp]; exact h1) ?_⟩
  rcases h5 with ⟨o1, o2, _⟩ | ⟨o1, o2, o3, o4, _, o5, _⟩ | ⟨o1, o2, o3, o4, o5, o6, o7, _⟩
  · refine br_f (nI_ge (b := 5) o1 (by decide)) ?_
    have fin : ∀ z : Nat, (z = 1 ↔ op p < 4 ∧ i < n ∧ (op p = 3 ∨ op p = t i)) ∨ op p = 4 → z ≤ 1 → wY_endsFrom_40 post (nI i) (nI (op p)) (nI z) h_made h_depth (nI n) h_tokenCount h_wrong h_letterCount h_ruleCount h_makingCount h_usefulRules h_stateCount h_wideCount h_useCount h_result b_ops b_firsts b_seconds b_sizes b_stack b_roots b_text b_ends b_tokenKinds b_tokenSizes b_letters b_begins b_closes b_empties b_nexts b_sets b_leads b_classes b_newClasses b_lefts b_rights b_counts b_making b_firstSets b_followSets b_states b_looks b_wides b_work b_met b_tasks b_held b_uses b_reach := by
      intro z hz hz1
      refine pk_eq (op p) 4 (fun y => ?_) (fun y => pk_eq z 0 (fun w => ?_) (fun w => ?_))
      · refine h _ fun j => ?_
        rw [b_one i (by omega), decide_eq_true_eq, o2, gk_acc_leaf]
        constructor
        · rintro rfl; exact ⟨hi, Or.inl ⟨y, rfl⟩⟩
        · rintro ⟨_, ⟨_, e⟩ | ⟨e, _⟩⟩
          · exact e.symm
          · omega
      · refine h _ fun j => ?_
        rw [b_0, o2, gk_acc_leaf]
        refine ⟨(fun z => by cases z), ?_⟩
        rintro ⟨j1, ⟨e, _⟩ | ⟨e1, e2, e3⟩⟩
        · exact absurd e y
        · rcases hz with hz | hz
          · have := hz.mpr ⟨e1, by omega, e3⟩; omega
          · exact absurd hz y
      · have z1 : z = 1 := by omega
        have z2 : op p < 4 ∧ i < n ∧ (op p = 3 ∨ op p = t i) := by
          rcases hz with hz | hz
          · exact hz.mp z1
          · exact absurd hz y
        refine h _ fun j => ?_
        rw [b_two i (by omega), decide_eq_true_eq, o2, gk_acc_leaf]
        constructor
        · rintro rfl; exact ⟨by omega, Or.inr ⟨z2.1, rfl, z2.2.2⟩⟩
        · rintro ⟨_, ⟨e, _⟩ | ⟨_, e, _⟩⟩
          · exact absurd e y
          · exact e
    refine pk_le n i (fun z => ?_) (fun z => pk_eq (op p) 3 (fun y => ?_) (fun y => ?_))
    · refine fin 0 ?_ (by omega)
      rcases Nat.lt_or_ge (op p) 4 with w | w
      · exact Or.inl ⟨fun k => by omega, fun k => by omega⟩
      · exact Or.inr (by omega)
    · exact fin 1 (Or.inl ⟨fun _ => ⟨by omega, z, Or.inl y⟩, fun _ => rfl⟩) (by omega)
    · obtain ⟨t1, t2⟩ := ht i z
      have ci : (nI i).toNatClampNeg = i := nI_clamp (by omega)
      refine ⟨vp_in_nI (by omega) (by decide), pk_eq (op p) (t i) (fun w => ?_) (fun w => ?_) rfl (by rw [ci]; exact t1)⟩
      · exact fin 1 (Or.inl ⟨fun _ => ⟨by omega, z, Or.inr w⟩, fun _ => rfl⟩) (by omega)
      · refine fin 0 ?_ (by omega)
        rcases Nat.lt_or_ge (op p) 4 with k | k
        · exact Or.inl ⟨fun k => by omega, fun k => by omega⟩
        · exact Or.inr (by omega)
  · have e1 : 25 * nI (fi p) + nI i = nI (fi p * 25 + i) := ix_25 _ _
    have hEf := hE (fi p) o3
    refine br_t (nI_le (a := 5) o1 (by omega)) (br_t (nI_le (b := 7) (by omega) (by decide)) ⟨ip, ?_⟩)
    rw [cp, o4]
    refine ⟨pk_in (fi p * 25 + i) 1500 (by omega) e1, nm_r (e' := b_ends (fi p * 25 + i)) (by rw [pk_cl (fi p * 25 + i) e1]) (pk_eq (op p) 6 (fun z => ?_) (fun z => ?_))⟩
    · refine yw_rounds (by omega) (by omega) (by omega) hn o4 hEf (fun j z => ((hEf i hi j).mp z).1) (fun r hr => h r fun j => ?_)
      rw [hr j, o5, show op p - 5 = 1 by omega, gk_acc_plus, ← gk_swap]
      constructor
      · rintro ⟨a, b, c, d⟩; exact ⟨a, b, ((hEf i hi b).mp c).2, d⟩
      · rintro ⟨a, b, c, d⟩
        refine ⟨a, b, (hEf i hi b).mpr ⟨?_, c⟩, d⟩
        have := gk_star_le (fun _ _ z => gk_acc_le z) d
        omega
    · refine nm_e ?_
      have hB : ∀ j, bt (b_ends (fi p * 25 + i) ||| (1 : Int32) <<< (nI i &&& 31)) j = true ↔ (j ≤ n ∧ gk_acc (g (fi p)) t i j) ∨ j = i := by
        intro j
        rw [b_or, Bool.or_eq_true, hEf i hi j, b_one i (by omega), decide_eq_true_eq]
      rcases Nat.lt_or_ge (op p) 7 with w | w
      · refine yw_rounds (by omega) (by omega) w hn o4 hEf (fun j z => by rcases (hB j).mp z with ⟨a, _⟩ | a <;> omega) (fun r hr => h r fun j => ?_)
        rw [hr j, o5, show op p - 5 = 0 by omega, gk_acc_star]
        constructor
        · rintro ⟨a, b, c, d⟩
          refine ⟨a, ?_⟩
          rcases (hB b).mp c with ⟨_, c⟩ | rfl
          · obtain ⟨k, e, f⟩ := gk_swap.mp ⟨b, c, d⟩
            exact gk_star_s e f
          · exact d
        · rintro ⟨a, b⟩; exact ⟨a, i, (hB i).mpr (Or.inr rfl), b⟩
      · refine ⟨1, pk_le 24 0 (fun z => by omega) (fun _ => br_t (nI_le (a := 7) w (by omega)) (h _ fun j => ?_))⟩
        rw [hB j, o5, show op p - 5 = 2 by omega, gk_acc_opt]
        constructor
        · rintro (⟨a, b⟩ | rfl)
          · exact ⟨a, Or.inr b⟩
          · exact ⟨hi, Or.inl rfl⟩
        · rintro ⟨a, b | b⟩
          · exact Or.inr b.symm
          · exact Or.inl ⟨a, b⟩
  · have e1 : 25 * nI (fi p) + nI i = nI (fi p * 25 + i) := ix_25 _ _
    have e2 : 25 * nI (se p) + nI i = nI (se p * 25 + i) := ix_25 _ _
    have hs := (hN (se p) (by omega)).2.2.2.1
    have hEf := hE (fi p) (by omega)
    have hEs := hE (se p) o4
    have hwf := (hN (fi p) (by omega)).2.1
    refine br_t (nI_le (a := 5) (by omega) (by omega)) (br_f (nI_ge (a := 7) (by omega) (by omega)) ⟨ip, ?_⟩)
    rw [cp, o5]
    refine ⟨pk_in (fi p * 25 + i) 1500 (by omega) e1, nm_r (e' := b_ends (fi p * 25 + i)) (by rw [pk_cl (fi p * 25 + i) e1]) (pk_eq (op p) 9 (fun z => ⟨ip, ?_⟩) (fun z => ⟨ip, ?_⟩))⟩
    · rw [o6]
      refine ⟨pk_in (se p * 25 + i) 1500 (by omega) e2, h _ fun j => ?_⟩
      rw [pk_cl (se p * 25 + i) e2, b_or, Bool.or_eq_true, hEf i hi j, hEs i hi j, o7, gk_acc_alt (by omega) hwf]
      constructor
      · rintro (⟨a, b⟩ | ⟨a, b⟩)
        · exact ⟨a, Or.inl b⟩
        · exact ⟨a, Or.inr b⟩
      · rintro ⟨a, b | b⟩
        · exact Or.inl ⟨a, b⟩
        · exact Or.inr ⟨a, b⟩
    · rw [o6]
      refine yw_endsOf (by omega) hn (fun r hr => h r fun j => ?_)
      rw [hr j, o7, show op p - 8 = 0 by omega, gk_acc_cat hwf]
      constructor
      · rintro ⟨k, a, b, c⟩
        obtain ⟨c1, c2⟩ := (hEs k a j).mp c
        exact ⟨c1, k, ((hEf i hi k).mp b).2, c2⟩
      · rintro ⟨a, k, b, c⟩
        have hk : k ≤ n := by have := gk_acc_le c; omega
        exact ⟨k, hk, (hEf i hi k).mpr ⟨hk, b⟩, (hEs k hk j).mpr ⟨a, c⟩⟩
theorem yw_match {m n : Nat} {g : Nat → gk_T} {lo op fi se : Nat → Nat} {t : Nat → Nat} (hN : yn_N m g lo op fi se b_ops b_firsts b_seconds b_sizes) (hm : m ≤ 60) (hn : n ≤ 24) (ht : ∀ i, i < n → b_text i = nI (t i) ∧ t i < 3)
    {post : SY → Prop} (h : ∀ e, (∀ p, p < m → yn_E e (g p) t n p) → post ((nI m), h_depth, (nI n), h_tokenCount, h_wrong, h_letterCount, h_ruleCount, h_makingCount, h_usefulRules, h_stateCount, h_wideCount, h_useCount, h_result, b_ops, b_firsts, b_seconds, b_sizes, b_stack, b_roots, b_text, e, b_tokenKinds, b_tokenSizes, b_letters, b_begins, b_closes, b_empties, b_nexts, b_sets, b_leads, b_classes, b_newClasses, b_lefts, b_rights, b_counts, b_making, b_firstSets, b_followSets, b_states, b_looks, b_wides, b_work, b_met, b_tasks, b_held, b_uses, b_reach)) : wpY_match post ((nI m), h_depth, (nI n), h_tokenCount, h_wrong, h_letterCount, h_ruleCount, h_makingCount, h_usefulRules, h_stateCount, h_wideCount, h_useCount, h_result, b_ops, b_firsts, b_seconds, b_sizes, b_stack, b_roots, b_text, b_ends, b_tokenKinds, b_tokenSizes, b_letters, b_begins, b_closes, b_empties, b_nexts, b_sets, b_leads, b_classes, b_newClasses, b_lefts, b_rights, b_counts, b_making, b_firstSets, b_followSets, b_states, b_looks, b_wides, b_work, b_met, b_tasks, b_held, b_uses, b_reach) := by
  refine loop_0 (fun k p s => wY_match_2 post (nI m) h_depth (nI n) h_tokenCount h_wrong h_letterCount h_ruleCount h_makingCount h_usefulRules h_stateCount h_wideCount h_useCount h_result k (nI p) b_ops b_firsts b_seconds b_sizes b_stack b_roots b_text s b_tokenKinds b_tokenSizes b_letters b_begins b_closes b_empties b_nexts b_sets b_leads b_classes b_newClasses b_lefts b_rights b_counts b_making b_firstSets b_followSets b_states b_looks b_wides b_work b_met b_tasks b_held b_uses b_reach) (fun p s => ∀ q, q < p → yn_E s (g q) t n q) m b_ends (fun q hq => absurd hq (Nat.not_lt_zero q)) ?_ ?_
  · intro k s hs
    exact br_t (nI_le (Nat.le_refl _) (by omega)) (h s hs)
  · intro k p s hp hs hk
    refine br_f (nI_ge hp (by omega)) ?_
    refine ⟨n + 2, ?_⟩
    -- downward over the places
    have key : ∀ c (s : Nat → Int32), c ≤ n + 1 → (∀ q, q < p → yn_E s (g q) t n q) → (∀ i, c ≤ i → i ≤ n → ∀ j, bt (s (p * 25 + i)) j = true ↔ j ≤ n ∧ gk_acc (g p) t i j) → wY_match_15 post (wY_match_2 post (nI m) h_depth (nI n) h_tokenCount h_wrong h_letterCount h_ruleCount h_makingCount h_usefulRules h_stateCount h_wideCount h_useCount h_result k) (nI p) (nI m) h_depth (nI n) h_tokenCount h_wrong h_letterCount h_ruleCount h_makingCount h_usefulRules h_stateCount h_wideCount h_useCount h_result (c + 1) (nI c + (-1)) b_ops b_firsts b_seconds b_sizes b_stack b_roots b_text s b_tokenKinds b_tokenSizes b_letters b_begins b_closes b_empties b_nexts b_sets b_leads b_classes b_newClasses b_lefts b_rights b_counts b_making b_firstSets b_followSets b_states b_looks b_wides b_work b_met b_tasks b_held b_uses b_reach := by
      intro c
      induction c with
      | zero =>
        intro s _ h1 h2
        refine br_t (by decide) (nm_r (nI_1 p) (hk s fun q hq => ?_))
        rcases Nat.lt_or_ge q p with z | z
        · exact h1 q z
        · have e : q = p := by omega
          subst e
          exact fun i hi j => h2 i (Nat.zero_le _) hi j
      | succ c ih =>
        intro s hc h1 h2
        rw [pk_m1]
        refine br_f (nI_pos (by omega)) ?_
        refine yw_endsFrom (b_ends := s) hN hm hp hn (by omega) ht h1 (fun r hr => ⟨pk_in (p * 25 + c) 1500 (by omega) (ix_25 p c), nm_r (by rw [pk_cl (p * 25 + c) (ix_25 p c)]) (nm_e (ih _ (by omega) (fun q hq i hi j => ?_) (fun i hi hin j => ?_)))⟩)
        · rw [pk_un (by omega)]; exact h1 q hq i hi j
        · by_cases e : i = c
          · subst e; rw [pk_us]; exact hr j
          · rw [pk_un (by omega)]; exact h2 i (by omega) hin j
    have := key (n + 1) s (Nat.le_refl _) hs (fun i h1 h2 => by omega)
    rw [pk_m1] at this
    exact this
theorem ne_neg {a : Nat} (h : a < 2 ^ 31) {x : Int32} (hx : x < 0) : ¬ nI a = x := by
  intro e
  rw [← e] at hx
  exact nI_pos h hx
theorem pk_subn {a b c : Nat} (h : a = b + c) : nI a - nI b = nI c := by rw [pk_sub (by omega)]; congr 1; omega
/-- the kinds' patterns -/
def yn_R (m : Nat) (g : Nat → gk_T) (b_roots : Nat → Int32) (kd : Nat → gk_T) : Prop := ∀ k, k < 3 → (b_roots k = -1 ∧ kd k = gk_none) ∨ ∃ p, p < m ∧ b_roots k = nI p ∧ kd k = g p
theorem yw_longest {m n k place : Nat} {g : Nat → gk_T} {t : Nat → Nat} {kd : Nat → gk_T} (hm : m ≤ 60) (hn : n ≤ 24) (hE : ∀ p, p < m → yn_E b_ends (g p) t n p) (hR : yn_R m g b_roots kd) (hk : k < 3) (hp : place ≤ n)
    {post : Int32 → Prop} (h : post (nI (ct_l kd t n k place))) : wpY_longest post (h_made, h_depth, (nI n), h_tokenCount, h_wrong, h_letterCount, h_ruleCount, h_makingCount, h_usefulRules, h_stateCount, h_wideCount, h_useCount, h_result, b_ops, b_firsts, b_seconds, b_sizes, b_stack, b_roots, b_text, b_ends, b_tokenKinds, b_tokenSizes, b_letters, b_begins, b_closes, b_empties, b_nexts, b_sets, b_leads, b_classes, b_newClasses, b_lefts, b_rights, b_counts, b_making, b_firstSets, b_followSets, b_states, b_looks, b_wides, b_work, b_met, b_tasks, b_held, b_uses, b_reach) (nI k) (nI place) := by
  have ck : (nI k).toNatClampNeg = k := nI_clamp (by omega)
  have ik : vp_in (nI k) 3 := vp_in_nI hk (by decide)
  have key : ∀ S : Int32, (∀ j, bt S j = true ↔ j ≤ n ∧ gk_acc (kd k) t place j) → ∃ f, wY_longest_36 post (nI place) S h_made h_depth (nI n) h_tokenCount h_wrong h_letterCount h_ruleCount h_makingCount h_usefulRules h_stateCount h_wideCount h_useCount h_result b_ops b_firsts b_seconds b_sizes b_stack b_roots b_text b_ends b_tokenKinds b_tokenSizes b_letters b_begins b_closes b_empties b_nexts b_sets b_leads b_classes b_newClasses b_lefts b_rights b_counts b_making b_firstSets b_followSets b_states b_looks b_wides b_work b_met b_tasks b_held b_uses b_reach f 0 (nI place) := by
    intro S hS
    refine loop_0 (fun f c s => wY_longest_36 post (nI place) S h_made h_depth (nI n) h_tokenCount h_wrong h_letterCount h_ruleCount h_makingCount h_usefulRules h_stateCount h_wideCount h_useCount h_result b_ops b_firsts b_seconds b_sizes b_stack b_roots b_text b_ends b_tokenKinds b_tokenSizes b_letters b_begins b_closes b_empties b_nexts b_sets b_leads b_classes b_newClasses b_lefts b_rights b_counts b_making b_firstSets b_followSets b_states b_looks b_wides b_work b_met b_tasks b_held b_uses b_reach f s (nI (place + c))) (fun c s => s = nI (lg_w (fun j => gk_acc (kd k) t place j) place (c - 1))) (n + 1 - place) 0 rfl ?_ ?_
    · intro f s hs
      subst hs
      refine br_t (nI_lt (by omega) (by omega)) ?_
      rw [show n + 1 - place - 1 = n - place by omega]
      exact h
    · intro f c s hc hs hk2
      subst hs
      refine br_f (nI_nlt (by omega) (by omega)) (br_c (fun z => ?_) (fun z => ?_))
      · have z := ((hS _).mp ((b_test S (n := place + c) (by omega)).mp z)).2
        refine nm_r (pk_subn (c := c) rfl) (nm_r (nI_1 _) (hk2 _ ?_))
        rw [Nat.add_sub_cancel]
        cases c with
        | zero => rfl
        | succ c => rw [lg_w_s z]
      · have z : ¬ gk_acc (kd k) t place (place + c) := fun y => z ((b_test S (n := place + c) (by omega)).mpr ((hS _).mpr ⟨by omega, y⟩))
        refine nm_r (nI_1 _) (hk2 _ ?_)
        rw [Nat.add_sub_cancel]
        cases c with
        | zero => rfl
        | succ c => rw [lg_w_n z]; rfl
  refine ⟨ik, ?_⟩
  rw [ck]
  rcases hR k hk with ⟨r1, r2⟩ | ⟨p, r0, r1, r2⟩
  · rw [r1]
    refine br_f (by decide) (key 0 fun j => ?_)
    rw [b_0, r2]
    exact ⟨(fun z => by cases z), fun z => absurd z.2 gk_acc_no⟩
  · rw [r1]
    refine br_t (nI_pos' (by omega)) ⟨ik, pk_in (p * 25 + place) 1500 (by omega) (ix_25 p place), nm_r (by rw [pk_cl (p * 25 + place) (ix_25 p place)]) (key _ fun j => ?_)⟩
    rw [r2]
    exact hE p r0 place hp j
/-- what cut leaves: c tokens -/
def ct_ok (kd : Nat → gk_T) (t : Nat → Nat) (n c : Nat) (K S : Nat → Int32) : Prop := ct_C kd t n c ∧ ∀ i, i < c → K i = nI (ct_k kd t n (ct_p kd t n i)) ∧ S i = nI (ct_n kd t n (ct_p kd t n i))
theorem yw_cut {m n : Nat} {g : Nat → gk_T} {lo op fi se : Nat → Nat} {t : Nat → Nat} {kd : Nat → gk_T} (hN : yn_N m g lo op fi se b_ops b_firsts b_seconds b_sizes) (hm : m ≤ 60) (hn : n ≤ 24) (ht : ∀ i, i < n → b_text i = nI (t i) ∧ t i < 3) (hR : yn_R m g b_roots kd)
    {post : SY → Prop} (h : ∀ e c K S, ct_ok kd t n c K S → post ((nI m), h_depth, (nI n), (nI c), (ct_w kd t n c), h_letterCount, h_ruleCount, h_makingCount, h_usefulRules, h_stateCount, h_wideCount, h_useCount, h_result, b_ops, b_firsts, b_seconds, b_sizes, b_stack, b_roots, b_text, e, K, S, b_letters, b_begins, b_closes, b_empties, b_nexts, b_sets, b_leads, b_classes, b_newClasses, b_lefts, b_rights, b_counts, b_making, b_firstSets, b_followSets, b_states, b_looks, b_wides, b_work, b_met, b_tasks, b_held, b_uses, b_reach)) : wpY_cut post ((nI m), h_depth, (nI n), h_tokenCount, h_wrong, h_letterCount, h_ruleCount, h_makingCount, h_usefulRules, h_stateCount, h_wideCount, h_useCount, h_result, b_ops, b_firsts, b_seconds, b_sizes, b_stack, b_roots, b_text, b_ends, b_tokenKinds, b_tokenSizes, b_letters, b_begins, b_closes, b_empties, b_nexts, b_sets, b_leads, b_classes, b_newClasses, b_lefts, b_rights, b_counts, b_making, b_firstSets, b_followSets, b_states, b_looks, b_wides, b_work, b_met, b_tasks, b_held, b_uses, b_reach) := by
  refine yw_match hN hm hn ht (fun e hE => ?_)
  have key : ∀ f c (K S : Nat → Int32), n - ct_p kd t n c < f → (∀ i, i < c → ct_p kd t n i < n ∧ ct_n kd t n (ct_p kd t n i) ≠ 0) → (∀ i, i < c → K i = nI (ct_k kd t n (ct_p kd t n i)) ∧ S i = nI (ct_n kd t n (ct_p kd t n i))) →
      wY_cut_17 post (nI m) h_depth (nI n) h_letterCount h_ruleCount h_makingCount h_usefulRules h_stateCount h_wideCount h_useCount h_result f (nI (ct_p kd t n c)) (nI c) (-4) b_ops b_firsts b_seconds b_sizes b_stack b_roots b_text e K S b_letters b_begins b_closes b_empties b_nexts b_sets b_leads b_classes b_newClasses b_lefts b_rights b_counts b_making b_firstSets b_followSets b_states b_looks b_wides b_work b_met b_tasks b_held b_uses b_reach := by
    intro f
    induction f with
    | zero => intro c K S hf; omega
    | succ f ih =>
      intro c K S hf h1 h2
      have h3 := ct_p_ge h1
      refine pk_le n (ct_p kd t n c) (fun z => ?_) (fun z => ?_)
      · have := h e c K S ⟨⟨h1, Or.inl z⟩, h2⟩
        unfold ct_w at this
        rw [if_neg (by omega)] at this
        exact this
      · refine br_t rfl ⟨3, ?_⟩
        have hw := fun k (hk : k < 3) (po : Int32 → Prop) (hpo : po (nI (ct_l kd t n k (ct_p kd t n c)))) => yw_longest (b_ends := e) (b_tokenKinds := K) (b_tokenSizes := S) (b_roots := b_roots) (place := ct_p kd t n c) hm hn hE hR hk (by omega) (post := po) hpo (h_made := nI m) (h_depth := h_depth) (h_tokenCount := nI c) (h_wrong := -4) (h_letterCount := h_letterCount) (h_ruleCount := h_ruleCount) (h_makingCount := h_makingCount) (h_usefulRules := h_usefulRules) (h_stateCount := h_stateCount) (h_wideCount := h_wideCount) (h_useCount := h_useCount) (h_result := h_result) (b_ops := b_ops) (b_firsts := b_firsts) (b_seconds := b_seconds) (b_sizes := b_sizes) (b_stack := b_stack) (b_text := b_text) (b_letters := b_letters) (b_begins := b_begins) (b_closes := b_closes) (b_empties := b_empties) (b_nexts := b_nexts) (b_sets := b_sets) (b_leads := b_leads) (b_classes := b_classes) (b_newClasses := b_newClasses) (b_lefts := b_lefts) (b_rights := b_rights) (b_counts := b_counts) (b_making := b_making) (b_firstSets := b_firstSets) (b_followSets := b_followSets) (b_states := b_states) (b_looks := b_looks) (b_wides := b_wides) (b_work := b_work) (b_met := b_met) (b_tasks := b_tasks) (b_held := b_held) (b_uses := b_uses) (b_reach := b_reach)
        have fin : ∀ b, b < 3 → b = ct_k kd t n (ct_p kd t n c) → wY_cut_38 post (wY_cut_17 post (nI m) h_depth (nI n) h_letterCount h_ruleCount h_makingCount h_usefulRules h_stateCount h_wideCount h_useCount h_result f) (nI (ct_p kd t n c)) (nI m) h_depth (nI n) (nI c) (-4) h_letterCount h_ruleCount h_makingCount h_usefulRules h_stateCount h_wideCount h_useCount h_result b_ops b_firsts b_seconds b_sizes b_stack b_roots b_text e K S b_letters b_begins b_closes b_empties b_nexts b_sets b_leads b_classes b_newClasses b_lefts b_rights b_counts b_making b_firstSets b_followSets b_states b_looks b_wides b_work b_met b_tasks b_held b_uses b_reach 1 (nI b) (nI 3) := by
          intro b hb3 hb
          refine br_t (nI_le (Nat.le_refl 3) (by decide)) (hw b hb3 _ ?_)
          have hsz : ct_l kd t n b (ct_p kd t n c) = ct_n kd t n (ct_p kd t n c) := by rw [hb]; rfl
          rw [hsz]
          have hle := ct_n_le (kd := kd) (t := t) (n := n) (ct_p kd t n c)
          refine pk_eq (ct_n kd t n (ct_p kd t n c)) 0 (fun y => ?_) (fun y => ?_)
          · obtain ⟨f', rfl⟩ : ∃ f', f = f' + 1 := ⟨f - 1, by omega⟩
            refine br_f (nI_ge z (by omega)) (br_f (ne_neg (by omega) (by decide)) ?_)
            have := h e c K S ⟨⟨h1, Or.inr y⟩, h2⟩
            unfold ct_w at this
            rw [if_pos z] at this
            exact this
          · have c24 : c < 24 := by omega
            refine ⟨vp_in_nI c24 (by decide), nm_r (by rw [nI_clamp (by omega)]) ⟨vp_in_nI c24 (by decide), nm_r (by rw [nI_clamp (by omega)]) (nm_r (nI_1 c) (nm_r (nI_add _ _) ?_))⟩⟩
            refine ih (c + 1) _ _ ?_ ?_ ?_
            · show n - (ct_p kd t n c + ct_n kd t n (ct_p kd t n c)) < f
              omega
            · intro i hi
              rcases Nat.lt_or_ge i c with w | w
              · exact h1 i w
              · have w : i = c := by omega
                subst w; exact ⟨z, y⟩
            · intro i hi
              rcases Nat.lt_or_ge i c with w | w
              · rw [pk_un (by omega), pk_un (by omega)]; exact h2 i w
              · have w : i = c := by omega
                subst w
                rw [pk_us, pk_us, hb]
                exact ⟨rfl, rfl⟩
        have two : ∀ b, b < 3 → b = ct_1 kd t n (ct_p kd t n c) → wY_cut_38 post (wY_cut_17 post (nI m) h_depth (nI n) h_letterCount h_ruleCount h_makingCount h_usefulRules h_stateCount h_wideCount h_useCount h_result f) (nI (ct_p kd t n c)) (nI m) h_depth (nI n) (nI c) (-4) h_letterCount h_ruleCount h_makingCount h_usefulRules h_stateCount h_wideCount h_useCount h_result b_ops b_firsts b_seconds b_sizes b_stack b_roots b_text e K S b_letters b_begins b_closes b_empties b_nexts b_sets b_leads b_classes b_newClasses b_lefts b_rights b_counts b_making b_firstSets b_followSets b_states b_looks b_wides b_work b_met b_tasks b_held b_uses b_reach 2 (nI b) (nI 2) := by
          intro b hb3 hb
          have l1 := lg_w_le (A := fun j => gk_acc (kd 2) t (ct_p kd t n c) j) (place := ct_p kd t n c) (n - ct_p kd t n c)
          have l2 := lg_w_le (A := fun j => gk_acc (kd b) t (ct_p kd t n c) j) (place := ct_p kd t n c) (n - ct_p kd t n c)
          refine br_f (nI_ge (a := 2) (b := 3) (by decide) (by decide)) (hw 2 (by omega) _ (hw b hb3 _ (pk_le (ct_l kd t n 2 (ct_p kd t n c)) (ct_l kd t n b (ct_p kd t n c)) (fun y => ?_) (fun y => ?_) rfl rfl (by unfold ct_l; omega) (by unfold ct_l; omega))))
          · refine nm_r (nI_1 2) (fin b hb3 ?_)
            unfold ct_k
            rw [hb] at y
            rw [if_pos y, hb]
          · refine nm_r (nI_1 2) (fin 2 (by omega) ?_)
            unfold ct_k
            rw [hb] at y
            rw [if_neg (by omega)]
        have l1 := lg_w_le (A := fun j => gk_acc (kd 1) t (ct_p kd t n c) j) (place := ct_p kd t n c) (n - ct_p kd t n c)
        have l2 := lg_w_le (A := fun j => gk_acc (kd 0) t (ct_p kd t n c) j) (place := ct_p kd t n c) (n - ct_p kd t n c)
        refine br_f (nI_ge (a := 1) (b := 3) (by decide) (by decide)) (hw 1 (by omega) _ (hw 0 (by omega) _ (pk_le (ct_l kd t n 1 (ct_p kd t n c)) (ct_l kd t n 0 (ct_p kd t n c)) (fun y => ?_) (fun y => ?_) rfl rfl (by unfold ct_l; omega) (by unfold ct_l; omega))))
        · refine nm_r (nI_1 1) (two 0 (by omega) ?_)
          unfold ct_1
          rw [if_pos y]
        · refine nm_r (nI_1 1) (two 1 (by omega) ?_)
          unfold ct_1
          rw [if_neg (by omega)]
  exact ⟨n + 1, key (n + 1) 0 b_tokenKinds b_tokenSizes (by omega) (fun i hi => absurd hi (Nat.not_lt_zero i)) (fun i hi => absurd hi (Nat.not_lt_zero i))⟩
