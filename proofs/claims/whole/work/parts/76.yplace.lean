/-! the reference's places: which nodes are parts, and what a part's sets are -/
theorem nr_1 : vp_nar .boolean 1 = 1 := rfl
theorem nr_0 : vp_nar .boolean 0 = 0 := rfl
theorem m1_lt {p : Nat} (h : p < 2 ^ 31) : nI p + (-1) < nI p := by
  cases p with
  | zero => decide
  | succ p => rw [pk_m1]; exact nI_lt (Nat.lt_succ_self p) h
section
variable {m : Nat} {lo op fi se : Nat → Nat}
def nd_c (op fi se : Nat → Nat) (q i : Nat) : Prop := (5 ≤ op q ∧ fi q = i) ∨ (8 ≤ op q ∧ se q = i)
def nd_I (op fi se : Nat → Nat) (r b : Nat) (X : Int64) : Prop := ∀ i, bl X i = true ↔ nd_P op fi se r i ∧ (i = r ∨ ∃ q, b ≤ q ∧ nd_P op fi se r q ∧ nd_c op fi se q i)
theorem nd_I0 {r : Nat} (hr : r < 64) (b : Nat) (hb : r < b) (hN : nd_N m lo op fi se) (hm : r < m) : nd_I op fi se r b ((1 : Int64) <<< ((nI r).toInt64 &&& 63)) := by
  intro i
  rw [bl_one r hr, decide_eq_true_eq]
  constructor
  · rintro rfl
    exact ⟨nd_r, Or.inl rfl⟩
  · rintro ⟨_, e | ⟨q, q1, q2, _⟩⟩
    · exact e
    · have := (nd_in hN hm q2).2.2
      omega
theorem nd_Ip (hN : nd_N m lo op fi se) {r q : Nat} (hr : r < m) {X : Int64} (h : nd_I op fi se r (q + 1) X) : bl X q = true ↔ nd_P op fi se r q := by
  rw [h q]
  constructor
  · exact fun z => z.1
  · intro z
    refine ⟨z, ?_⟩
    rcases nd_par z with e | ⟨q', a, b⟩
    · exact Or.inl e
    · have := (nd_in hN hr a).2.2
      have := nd_up hN (by omega) b
      exact Or.inr ⟨q', this, a, b⟩
theorem nd_Ik {r q : Nat} {X X' : Int64} (h : nd_I op fi se r (q + 1) X) (hX : ∀ i, bl X' i = true ↔ bl X i = true ∨ (nd_P op fi se r q ∧ nd_c op fi se q i)) : nd_I op fi se r q X' := by
  intro i
  rw [hX i, h i]
  constructor
  · rintro (⟨a, b⟩ | ⟨a, b⟩)
    · refine ⟨a, b.imp id ?_⟩
      rintro ⟨q', c, d⟩
      exact ⟨q', by omega, d⟩
    · refine ⟨?_, Or.inr ⟨q, Nat.le_refl _, a, b⟩⟩
      rcases b with ⟨b1, b2⟩ | ⟨b1, b2⟩
      · rw [← b2]; exact nd_f a b1
      · rw [← b2]; exact nd_s a b1
  · rintro ⟨a, b | ⟨q', c, d, e⟩⟩
    · exact Or.inl ⟨a, Or.inl b⟩
    · by_cases z : q' = q
      · rw [z] at d e; exact Or.inr ⟨d, e⟩
      · exact Or.inl ⟨a, Or.inr ⟨q', by omega, d, e⟩⟩
end
theorem yp_fs {N : Nat → Int32} {i : Nat} {u v : Int32} (h : bt u i = true) : upd (yp_f N i u v) i (yp_f N i u v i ||| v) = yp_f N (i + 1) u v := by
  funext j
  unfold upd yp_f
  by_cases z : j = i
  · subst z
    rw [if_pos rfl, if_neg (by omega), if_pos ⟨by omega, h⟩]
  · rw [if_neg z]
    by_cases y : j < i ∧ bt u j = true
    · rw [if_pos y, if_pos ⟨by omega, y.2⟩]
    · rw [if_neg y, if_neg (fun w => y ⟨by omega, w.2⟩)]
theorem yp_fn {N : Nat → Int32} {i : Nat} {u v : Int32} (h : ¬ bt u i = true) : upd (yp_f N i u v) i (yp_f N i u v i) = yp_f N (i + 1) u v := by
  funext j
  unfold upd yp_f
  by_cases z : j = i
  · subst z
    rw [if_pos rfl, if_neg (by omega), if_neg (fun w => h w.2)]
  · rw [if_neg z]
    by_cases y : j < i ∧ bt u j = true
    · rw [if_pos y, if_pos ⟨by omega, y.2⟩]
    · rw [if_neg y, if_neg (fun w => y ⟨by omega, w.2⟩)]
variable {h_made h_depth h_length h_tokenCount h_wrong h_letterCount h_ruleCount h_makingCount h_usefulRules h_stateCount h_wideCount h_useCount h_result : Int32} {b_ops b_firsts b_seconds b_sizes b_stack b_roots b_text b_ends b_tokenKinds b_tokenSizes b_letters b_begins b_closes b_empties b_nexts b_sets b_leads b_classes b_newClasses b_lefts b_rights b_counts b_making b_firstSets b_followSets b_tasks b_held b_uses b_reach : Nat → Int32} {b_states b_looks b_wides b_work b_met : Nat → Int64}
section
variable {m : Nat} {ga : Nat → gk_T} {lo op fi se : Nat → Nat}
theorem yw_isPart (hN : yn_N m ga lo op fi se b_ops b_firsts b_seconds b_sizes) (hm : m ≤ 60) {r p : Nat} (hr : r < m) (hp : p ≤ r) {post : Int32 → Prop} (h1 : nd_P op fi se r p → post 1) (h0 : ¬ nd_P op fi se r p → post 0) : wpY_isPart post (h_made, h_depth, h_length, h_tokenCount, h_wrong, h_letterCount, h_ruleCount, h_makingCount, h_usefulRules, h_stateCount, h_wideCount, h_useCount, h_result, b_ops, b_firsts, b_seconds, b_sizes, b_stack, b_roots, b_text, b_ends, b_tokenKinds, b_tokenSizes, b_letters, b_begins, b_closes, b_empties, b_nexts, b_sets, b_leads, b_classes, b_newClasses, b_lefts, b_rights, b_counts, b_making, b_firstSets, b_followSets, b_states, b_looks, b_wides, b_work, b_met, b_tasks, b_held, b_uses, b_reach) (nI p) (nI r) := by
  have hD := nd_of hN
  have key : ∀ n q X, q - p + 1 < n → p ≤ q → q ≤ r → nd_I op fi se r (q + 1) X → wY_isPart_10 post (nI p) h_made h_depth h_length h_tokenCount h_wrong h_letterCount h_ruleCount h_makingCount h_usefulRules h_stateCount h_wideCount h_useCount h_result b_ops b_firsts b_seconds b_sizes b_stack b_roots b_text b_ends b_tokenKinds b_tokenSizes b_letters b_begins b_closes b_empties b_nexts b_sets b_leads b_classes b_newClasses b_lefts b_rights b_counts b_making b_firstSets b_followSets b_states b_looks b_wides b_work b_met b_tasks b_held b_uses b_reach n 0 X (nI q) := by
    intro n
    induction n with
    | zero => intro q X z; omega
    | succ n ih =>
      intro q X hn pq qr hI
      have bq := nd_Ip hD hr hI
      have te := bl_test X (n := q) (by omega)
      have vq : vp_in (nI q) 60 := vp_in_nI (by omega) (by decide)
      have cq : (nI q).toNatClampNeg = q := nI_clamp (by omega)
      -- the end of a round
      have last : ∀ X' : Int64, nd_I op fi se r q X' → ∀ v : Int32, (q = p → (v = 1 ∧ nd_P op fi se r p) ∨ (v = 0 ∧ ¬ nd_P op fi se r p)) → (q ≠ p → v = 0) → wY_isPart_10 post (nI p) h_made h_depth h_length h_tokenCount h_wrong h_letterCount h_ruleCount h_makingCount h_usefulRules h_stateCount h_wideCount h_useCount h_result b_ops b_firsts b_seconds b_sizes b_stack b_roots b_text b_ends b_tokenKinds b_tokenSizes b_letters b_begins b_closes b_empties b_nexts b_sets b_leads b_classes b_newClasses b_lefts b_rights b_counts b_making b_firstSets b_followSets b_states b_looks b_wides b_work b_met b_tasks b_held b_uses b_reach n v X' (nI q + (-1)) := by
        intro X' hX' v v1 v2
        by_cases e : q = p
        · subst e
          cases n with
          | zero => omega
          | succ n =>
            refine br_t (m1_lt (by omega)) ?_
            rcases v1 rfl with ⟨rfl, z⟩ | ⟨rfl, z⟩
            · exact br_t rfl (h1 z)
            · exact br_f (by decide) (h0 z)
        · rw [v2 e]
          cases q with
          | zero => omega
          | succ q =>
            rw [pk_m1]
            exact ih q X' (by omega) (by omega) (by omega) hX'
      refine br_f (nI_nlt pq (by omega)) (br_c (fun z => ?_) (fun z => ?_))
      · have P := bq.mp (te.mp z)
        have fin : ∀ X' : Int64, (∀ i, bl X' i = true ↔ bl X i = true ∨ nd_c op fi se q i) → wY_isPart_101 post (wY_isPart_10 post (nI p) h_made h_depth h_length h_tokenCount h_wrong h_letterCount h_ruleCount h_makingCount h_usefulRules h_stateCount h_wideCount h_useCount h_result b_ops b_firsts b_seconds b_sizes b_stack b_roots b_text b_ends b_tokenKinds b_tokenSizes b_letters b_begins b_closes b_empties b_nexts b_sets b_leads b_classes b_newClasses b_lefts b_rights b_counts b_making b_firstSets b_followSets b_states b_looks b_wides b_work b_met b_tasks b_held b_uses b_reach n) (nI p) 0 (nI q) 1 X' h_made h_depth h_length h_tokenCount h_wrong h_letterCount h_ruleCount h_makingCount h_usefulRules h_stateCount h_wideCount h_useCount h_result b_ops b_firsts b_seconds b_sizes b_stack b_roots b_text b_ends b_tokenKinds b_tokenSizes b_letters b_begins b_closes b_empties b_nexts b_sets b_leads b_classes b_newClasses b_lefts b_rights b_counts b_making b_firstSets b_followSets b_states b_looks b_wides b_work b_met b_tasks b_held b_uses b_reach := by
          intro X' hX'
          have hI' := nd_Ik (X' := X') hI (fun i => by rw [hX' i]; exact ⟨fun k => k.imp id fun w => ⟨P, w⟩, fun k => k.imp id fun w => w.2⟩)
          refine br_f (by decide) (pk_eq q p (fun e => nm_e (last X' hI' 1 (fun _ => Or.inl ⟨rfl, by rw [← e]; exact P⟩) (fun w => absurd e w))) (fun e => nm_e (last X' hI' 0 (fun w => absurd w e) (fun _ => rfl))))
        obtain ⟨_, _, _, _, k | k | k⟩ := hN q (by omega)
        · refine br_f (by decide) ⟨vq, ?_⟩
          rw [cq, k.2.2.1]
          refine br_t (by decide) (br_f (by decide) ⟨vq, ?_⟩)
          rw [cq, k.2.2.2.1]
          exact br_t (by decide) (fin X fun i => ⟨Or.inl, fun w => w.elim id fun w => w.elim (fun w => by omega) (fun w => by omega)⟩)
        · have f64 : fi q < 64 := by omega
          refine br_f (by decide) ⟨vq, ?_⟩
          rw [cq, k.2.2.2.1]
          refine br_f (nI_nlt (b := 0) (Nat.zero_le _) (by omega)) ⟨vq, br_f (by decide) ⟨vq, ?_⟩⟩
          rw [cq, k.2.2.2.2.1]
          refine br_t (by decide) (fin _ fun i => ?_)
          rw [bl_or, Bool.or_eq_true, bl_one (fi q) f64, decide_eq_true_eq]
          exact ⟨fun w => w.imp id fun e => Or.inl ⟨k.1, e.symm⟩, fun w => w.imp id fun e => e.elim (fun e => e.2.symm) fun e => by omega⟩
        · have := (hN (se q) (by omega)).2.2.2.1
          have f64 : fi q < 64 := by omega
          have s64 : se q < 64 := by omega
          refine br_f (by decide) ⟨vq, ?_⟩
          rw [cq, k.2.2.2.2.1]
          refine br_f (nI_nlt (b := 0) (Nat.zero_le _) (by omega)) ⟨vq, br_f (by decide) ⟨vq, ?_⟩⟩
          rw [cq, k.2.2.2.2.2.1]
          refine br_f (nI_nlt (b := 0) (Nat.zero_le _) (by omega)) ⟨vq, fin _ fun i => ?_⟩
          rw [bl_or, bl_or, Bool.or_eq_true, Bool.or_eq_true, bl_one (fi q) f64, bl_one (se q) s64, decide_eq_true_eq, decide_eq_true_eq]
          constructor
          · rintro ((w | w) | w)
            · exact Or.inl w
            · exact Or.inr (Or.inl ⟨by omega, w.symm⟩)
            · exact Or.inr (Or.inr ⟨k.1, w.symm⟩)
          · rintro (w | w | w)
            · exact Or.inl (Or.inl w)
            · exact Or.inl (Or.inr w.2.symm)
            · exact Or.inr w.2.symm
      · have P : ¬ nd_P op fi se r q := fun w => z (te.mpr (bq.mpr w))
        have hI' := nd_Ik (X' := X) hI (fun i => ⟨Or.inl, fun k => k.elim id fun w => absurd w.1 P⟩)
        refine br_t rfl (br_t rfl (br_t rfl (nm_e (last X hI' 0 (fun e => Or.inr ⟨rfl, by rw [← e]; exact P⟩) (fun _ => rfl)))))
  exact nm_e ⟨r - p + 2, key (r - p + 2) r _ (by omega) hp (Nat.le_refl _) (nd_I0 (by omega) (r + 1) (Nat.lt_succ_self _) hD hr)⟩
theorem yw_follow {c : Nat} (hc : c ≤ 8) (u v : Int32) {post : SY → Prop} (h : post (h_made, h_depth, h_length, h_tokenCount, h_wrong, (nI c), h_ruleCount, h_makingCount, h_usefulRules, h_stateCount, h_wideCount, h_useCount, h_result, b_ops, b_firsts, b_seconds, b_sizes, b_stack, b_roots, b_text, b_ends, b_tokenKinds, b_tokenSizes, b_letters, b_begins, b_closes, b_empties, (yp_f b_nexts c u v), b_sets, b_leads, b_classes, b_newClasses, b_lefts, b_rights, b_counts, b_making, b_firstSets, b_followSets, b_states, b_looks, b_wides, b_work, b_met, b_tasks, b_held, b_uses, b_reach)) : wpY_follow post (h_made, h_depth, h_length, h_tokenCount, h_wrong, (nI c), h_ruleCount, h_makingCount, h_usefulRules, h_stateCount, h_wideCount, h_useCount, h_result, b_ops, b_firsts, b_seconds, b_sizes, b_stack, b_roots, b_text, b_ends, b_tokenKinds, b_tokenSizes, b_letters, b_begins, b_closes, b_empties, b_nexts, b_sets, b_leads, b_classes, b_newClasses, b_lefts, b_rights, b_counts, b_making, b_firstSets, b_followSets, b_states, b_looks, b_wides, b_work, b_met, b_tasks, b_held, b_uses, b_reach) u v := by
  refine loop_0 (fun n i s => wY_follow_2 post u v h_made h_depth h_length h_tokenCount h_wrong (nI c) h_ruleCount h_makingCount h_usefulRules h_stateCount h_wideCount h_useCount h_result n (nI i) b_ops b_firsts b_seconds b_sizes b_stack b_roots b_text b_ends b_tokenKinds b_tokenSizes b_letters b_begins b_closes b_empties s b_sets b_leads b_classes b_newClasses b_lefts b_rights b_counts b_making b_firstSets b_followSets b_states b_looks b_wides b_work b_met b_tasks b_held b_uses b_reach) (fun i s => s = yp_f b_nexts i u v) c b_nexts ?_ ?_ ?_
  · funext j
    exact (if_neg (by omega)).symm
  · rintro n s rfl
    exact br_t (nI_le (Nat.le_refl c) (by omega)) h
  · rintro n i s hi rfl hk
    have vi : vp_in (nI i) 8 := vp_in_nI (by omega) (by decide)
    have ci : (nI i).toNatClampNeg = i := nI_clamp (by omega)
    have te := b_test u (n := i) (by omega)
    refine br_f (nI_ge hi (by omega)) (br_c (fun z => ?_) (fun z => ?_))
    · exact ⟨vi, vi, nm_r (by rw [ci]; exact yp_fs (te.mp z)) (nm_r (nI_1 i) (hk _ rfl))⟩
    · exact ⟨vi, vi, nm_r (by rw [ci]; exact yp_fn (fun w => z (te.mpr w))) (nm_r (nI_1 i) (hk _ rfl))⟩
/-- what a place leaves -/
def yp_P (x : gk_T) (b p l : Nat) (L B C E N : Nat → Int32) (K : (Nat → Int32) → (Nat → Int32) → (Nat → Int32) → (Nat → Int32) → (Nat → Int32) → Prop) : Prop := ∀ L' B' C' E' N', yp_D x b p L' B' C' E' N' → yp_F b l L B C E N L' B' C' E' N' → K L' B' C' E' N'
theorem yw_placeL (hN : yn_N m ga lo op fi se b_ops b_firsts b_seconds b_sizes) (hm : m ≤ 60) {p b : Nat} (hp : p < m) (ho : op p < 5) (hb : b < 6 ∨ (b ≤ 6 ∧ op p = 4)) {post : SY → Prop}
    (h : yp_P (ga p) b p (lo p) b_letters b_begins b_closes b_empties b_nexts (fun L B C E N => post (h_made, h_depth, h_length, h_tokenCount, h_wrong, (nI (b + gk_c (ga p))), h_ruleCount, h_makingCount, h_usefulRules, h_stateCount, h_wideCount, h_useCount, h_result, b_ops, b_firsts, b_seconds, b_sizes, b_stack, b_roots, b_text, b_ends, b_tokenKinds, b_tokenSizes, L, B, C, E, N, b_sets, b_leads, b_classes, b_newClasses, b_lefts, b_rights, b_counts, b_making, b_firstSets, b_followSets, b_states, b_looks, b_wides, b_work, b_met, b_tasks, b_held, b_uses, b_reach))) : wpY_place post (h_made, h_depth, h_length, h_tokenCount, h_wrong, (nI b), h_ruleCount, h_makingCount, h_usefulRules, h_stateCount, h_wideCount, h_useCount, h_result, b_ops, b_firsts, b_seconds, b_sizes, b_stack, b_roots, b_text, b_ends, b_tokenKinds, b_tokenSizes, b_letters, b_begins, b_closes, b_empties, b_nexts, b_sets, b_leads, b_classes, b_newClasses, b_lefts, b_rights, b_counts, b_making, b_firstSets, b_followSets, b_states, b_looks, b_wides, b_work, b_met, b_tasks, b_held, b_uses, b_reach) (nI p) := by
  obtain ⟨ko, _, _, kl, k | k | k⟩ := hN p hp
  · have vp : vp_in (nI p) 60 := vp_in_nI (by omega) (by decide)
    have cp : (nI p).toNatClampNeg = p := nI_clamp (by omega)
    rw [k.2.1] at h
    refine ⟨vp, nm_r (e' := nI (op p)) (by rw [cp]; exact ko) ⟨vp, nm_e ⟨vp, nm_e (br_f (nI_ge (b := 5) ho (by decide)) ?_)⟩⟩⟩
    by_cases e : op p = 4
    · rw [e] at h ⊢
      refine br_t rfl ⟨vp, nm_r (e' := upd b_empties p 1) (by rw [cp, nr_1]) (br_t (by decide) ⟨vp, nm_r (e' := upd b_begins p 0) (by rw [cp]) ⟨vp, vp, nm_r (e' := upd b_closes p 0) (by rw [cp, pk_us]) (br_t (by decide) ?_)⟩⟩)⟩
      exact h b_letters (upd b_begins p 0) (upd b_closes p 0) (upd b_empties p 1) b_nexts (yp_empty _ _ _ _ _) ⟨fun i _ => ⟨rfl, rfl⟩, fun q hq => ⟨pk_un (by omega), pk_un (by omega), pk_un (by omega)⟩⟩
    · have c1 : gk_c (gk_leaf (op p)) = 1 := if_pos (by omega)
      have lt : ¬ (4 : Int32) ≤ nI (op p) := nI_ge (b := 4) (by omega) (by decide)
      rw [c1] at h
      have vb : vp_in (nI b) 8 := vp_in_nI (by omega) (by decide)
      have cb : (nI b).toNatClampNeg = b := nI_clamp (by omega)
      have n4 : ¬ nI (op p) = 4 := fun w => e ((nI_eq (b := 4) (by omega) (by decide)).mp w)
      refine br_f n4 ⟨vp, nm_r (e' := upd b_empties p 0) (by rw [cp, nr_0]) (br_f lt ⟨vp, nm_r (e' := upd b_begins p (1 <<< (nI b &&& 31))) (by rw [cp]) ⟨vp, vp, nm_r (e' := upd b_closes p (1 <<< (nI b &&& 31))) (by rw [cp, pk_us]) (br_f lt ⟨vb, nm_r (e' := upd b_letters b (nI (op p))) (by rw [cb]) ⟨vb, nm_r (e' := upd b_nexts b 0) (by rw [cb]) (nm_r (nI_1 b) ?_)⟩⟩)⟩⟩)⟩
      exact h (upd b_letters b (nI (op p))) (upd b_begins p (1 <<< (nI b &&& 31))) (upd b_closes p (1 <<< (nI b &&& 31))) (upd b_empties p 0) (upd b_nexts b 0) (yp_leaf (by omega) (by omega) _ _ _ _ _) ⟨fun i hi => ⟨pk_un (by omega), pk_un (by omega)⟩, fun q hq => ⟨pk_un (by omega), pk_un (by omega), pk_un (by omega)⟩⟩
  · omega
  · omega
theorem yw_placeR (hN : yn_N m ga lo op fi se b_ops b_firsts b_seconds b_sizes) (hm : m ≤ 60) {p b : Nat} (hp : p < m) (h5 : 5 ≤ op p) (h8 : op p < 8) (hb : b + gk_c (ga p) ≤ 6) (hD : yp_D (ga (fi p)) b (fi p) b_letters b_begins b_closes b_empties b_nexts) {post : SY → Prop}
    (h : yp_P (ga p) b p (lo p) b_letters b_begins b_closes b_empties b_nexts (fun L B C E N => post (h_made, h_depth, h_length, h_tokenCount, h_wrong, (nI (b + gk_c (ga p))), h_ruleCount, h_makingCount, h_usefulRules, h_stateCount, h_wideCount, h_useCount, h_result, b_ops, b_firsts, b_seconds, b_sizes, b_stack, b_roots, b_text, b_ends, b_tokenKinds, b_tokenSizes, L, B, C, E, N, b_sets, b_leads, b_classes, b_newClasses, b_lefts, b_rights, b_counts, b_making, b_firstSets, b_followSets, b_states, b_looks, b_wides, b_work, b_met, b_tasks, b_held, b_uses, b_reach))) : wpY_place post (h_made, h_depth, h_length, h_tokenCount, h_wrong, (nI (b + gk_c (ga p))), h_ruleCount, h_makingCount, h_usefulRules, h_stateCount, h_wideCount, h_useCount, h_result, b_ops, b_firsts, b_seconds, b_sizes, b_stack, b_roots, b_text, b_ends, b_tokenKinds, b_tokenSizes, b_letters, b_begins, b_closes, b_empties, b_nexts, b_sets, b_leads, b_classes, b_newClasses, b_lefts, b_rights, b_counts, b_making, b_firstSets, b_followSets, b_states, b_looks, b_wides, b_work, b_met, b_tasks, b_held, b_uses, b_reach) (nI p) := by
  obtain ⟨ko, _, _, kl, k | k | k⟩ := hN p hp
  · omega
  · have vp : vp_in (nI p) 60 := vp_in_nI (by omega) (by decide)
    have cp : (nI p).toNatClampNeg = p := nI_clamp (by omega)
    have vx : vp_in (nI (fi p)) 60 := vp_in_nI (by omega) (by decide)
    have cx : (nI (fi p)).toNatClampNeg = fi p := nI_clamp (by omega)
    have wx := (hN (fi p) (by omega)).2.1
    have lx := (hN (fi p) (by omega)).2.2.2.1
    have xp : fi p ≠ p := by omega
    have eg : ga p = gk_rep (op p - 5) (ga (fi p)) := k.2.2.2.2.2.1
    have ec : gk_c (ga p) = gk_c (ga (fi p)) := by rw [eg]; rfl
    have lp : lo p ≤ p := kl
    have fin : ∀ e : Int32, ((e = 1 ∧ (gk_nu (ga (fi p)) ∨ op p - 5 ≠ 1)) ∨ (e = 0 ∧ ¬ (gk_nu (ga (fi p)) ∨ op p - 5 ≠ 1))) → wY_place_145 post (nI p) (nI (op p)) (nI (fi p)) e (nI p) h_made h_depth h_length h_tokenCount h_wrong (nI (b + gk_c (ga p))) h_ruleCount h_makingCount h_usefulRules h_stateCount h_wideCount h_useCount h_result b_ops b_firsts b_seconds b_sizes b_stack b_roots b_text b_ends b_tokenKinds b_tokenSizes b_letters b_begins b_closes b_empties b_nexts b_sets b_leads b_classes b_newClasses b_lefts b_rights b_counts b_making b_firstSets b_followSets b_states b_looks b_wides b_work b_met b_tasks b_held b_uses b_reach := by
      intro e he
      have ne : vp_nar .boolean e = e := by
        rcases he with ⟨rfl, _⟩ | ⟨rfl, _⟩
        · exact nr_1
        · exact nr_0
      refine ⟨vp, nm_r (e' := upd b_empties p e) (by rw [cp, ne]) ⟨vx, vp, nm_r (e' := upd b_begins p (b_begins (fi p))) (by rw [cp, cx]) ⟨vx, vp, nm_r (e' := upd b_closes p (b_closes (fi p))) (by rw [cp, cx]) (pk_le 7 (op p) (fun z => ?_) (fun z => ⟨vx, vx, ?_⟩))⟩⟩⟩
      · refine h b_letters (upd b_begins p (b_begins (fi p))) (upd b_closes p (b_closes (fi p))) (upd b_empties p e) b_nexts ?_ ⟨fun i _ => ⟨rfl, rfl⟩, fun q hq => ⟨pk_un (by omega), pk_un (by omega), pk_un (by omega)⟩⟩
        rw [eg]
        exact yp_rep wx hD he (fun w => absurd (by omega) w) (fun _ => rfl)
      · rw [cx, pk_un xp, pk_un xp]
        refine yw_follow (b_begins := upd b_begins p (b_begins (fi p))) (b_closes := upd b_closes p (b_closes (fi p))) (b_empties := upd b_empties p e) (by omega) _ _ ?_
        refine h b_letters (upd b_begins p (b_begins (fi p))) (upd b_closes p (b_closes (fi p))) (upd b_empties p e) (yp_f b_nexts (b + gk_c (ga p)) (b_closes (fi p)) (b_begins (fi p))) ?_ ⟨fun i hi => ⟨rfl, ?_⟩, fun q hq => ⟨pk_un (by omega), pk_un (by omega), pk_un (by omega)⟩⟩
        · rw [eg]
          exact yp_rep wx hD he (fun _ => rfl) (fun w => by omega)
        · refine if_neg fun w => ?_
          have := (hD.2.1 i).mp w.2
          omega
    refine ⟨vp, nm_r (e' := nI (op p)) (by rw [cp]; exact ko) ⟨vp, nm_r (e' := nI (fi p)) (by rw [cp]; exact k.2.2.2.1) ⟨vp, nm_e (br_t (nI_le (a := 5) h5 (by omega)) (br_f (nI_ge (b := 8) h8 (by decide)) ⟨vx, ?_⟩))⟩⟩⟩
    rw [cx]
    rcases hD.2.2.1 with ⟨z, nu⟩ | ⟨z, nu⟩
    · rw [z]
      exact br_f (by decide) (fin 1 (Or.inl ⟨rfl, Or.inl nu⟩))
    · rw [z]
      refine br_t rfl (pk_eq (op p) 6 (fun e => fin 0 (Or.inr ⟨rfl, fun w => ?_⟩)) (fun e => fin 1 (Or.inl ⟨rfl, Or.inr (by omega)⟩)))
      rcases w with w | w
      · exact nu w
      · omega
  · omega
theorem yw_placeJ (hN : yn_N m ga lo op fi se b_ops b_firsts b_seconds b_sizes) (hm : m ≤ 60) {p b : Nat} (hp : p < m) (h8 : 8 ≤ op p) (hb : b + gk_c (ga p) ≤ 6) (hD : yp_D (ga (fi p)) b (fi p) b_letters b_begins b_closes b_empties b_nexts) (hE : yp_D (ga (se p)) (b + gk_c (ga (fi p))) (se p) b_letters b_begins b_closes b_empties b_nexts) {post : SY → Prop}
    (h : yp_P (ga p) b p (lo p) b_letters b_begins b_closes b_empties b_nexts (fun L B C E N => post (h_made, h_depth, h_length, h_tokenCount, h_wrong, (nI (b + gk_c (ga p))), h_ruleCount, h_makingCount, h_usefulRules, h_stateCount, h_wideCount, h_useCount, h_result, b_ops, b_firsts, b_seconds, b_sizes, b_stack, b_roots, b_text, b_ends, b_tokenKinds, b_tokenSizes, L, B, C, E, N, b_sets, b_leads, b_classes, b_newClasses, b_lefts, b_rights, b_counts, b_making, b_firstSets, b_followSets, b_states, b_looks, b_wides, b_work, b_met, b_tasks, b_held, b_uses, b_reach))) : wpY_place post (h_made, h_depth, h_length, h_tokenCount, h_wrong, (nI (b + gk_c (ga p))), h_ruleCount, h_makingCount, h_usefulRules, h_stateCount, h_wideCount, h_useCount, h_result, b_ops, b_firsts, b_seconds, b_sizes, b_stack, b_roots, b_text, b_ends, b_tokenKinds, b_tokenSizes, b_letters, b_begins, b_closes, b_empties, b_nexts, b_sets, b_leads, b_classes, b_newClasses, b_lefts, b_rights, b_counts, b_making, b_firstSets, b_followSets, b_states, b_looks, b_wides, b_work, b_met, b_tasks, b_held, b_uses, b_reach) (nI p) := by
  obtain ⟨ko, _, _, kl, k | k | k⟩ := hN p hp
  · omega
  · omega
  · have ly := (hN (se p) (by omega)).2.2.2.1
    have vp : vp_in (nI p) 60 := vp_in_nI (by omega) (by decide)
    have cp : (nI p).toNatClampNeg = p := nI_clamp (by omega)
    have vx : vp_in (nI (fi p)) 60 := vp_in_nI (by omega) (by decide)
    have cx : (nI (fi p)).toNatClampNeg = fi p := nI_clamp (by omega)
    have vy : vp_in (nI (se p)) 60 := vp_in_nI (by omega) (by decide)
    have cy : (nI (se p)).toNatClampNeg = se p := nI_clamp (by omega)
    have wx := (hN (fi p) (by omega)).2.1
    have wy := (hN (se p) (by omega)).2.1
    have xp : fi p ≠ p := by omega
    have yp : se p ≠ p := by omega
    have eg : ga p = gk_join (op p - 8) (ga (fi p)) (ga (se p)) := k.2.2.2.2.2.2.1
    have ec : gk_c (ga p) = gk_c (ga (fi p)) + gk_c (ga (se p)) := by rw [eg]; rfl
    have lp : lo p ≤ p := kl
    have o9 : op p = 9 ↔ op p - 8 ≠ 0 := by omega
    have e9 : nI (op p) = 9 ↔ op p - 8 ≠ 0 := by rw [← o9]; exact nI_eq (b := 9) (by omega) (by decide)
    have e8 : nI (op p) = 8 ↔ op p - 8 = 0 := (nI_eq (b := 8) (by omega) (by decide)).trans (by omega)
    have f347 : ∀ e v w : Int32, ((e = 1 ∧ gk_nu (ga p)) ∨ (e = 0 ∧ ¬ gk_nu (ga p))) → (op p - 8 ≠ 0 ∨ gk_nu (ga (fi p)) → v = b_begins (fi p) ||| b_begins (se p)) → (¬ (op p - 8 ≠ 0 ∨ gk_nu (ga (fi p))) → v = b_begins (fi p)) → (op p - 8 ≠ 0 ∨ gk_nu (ga (se p)) → w = b_closes (fi p) ||| b_closes (se p)) → (¬ (op p - 8 ≠ 0 ∨ gk_nu (ga (se p))) → w = b_closes (se p)) → wY_place_347 post (nI (op p)) (nI (fi p)) (nI (se p)) w (nI p) h_made h_depth h_length h_tokenCount h_wrong (nI (b + gk_c (ga p))) h_ruleCount h_makingCount h_usefulRules h_stateCount h_wideCount h_useCount h_result b_ops b_firsts b_seconds b_sizes b_stack b_roots b_text b_ends b_tokenKinds b_tokenSizes b_letters (upd b_begins p v) b_closes (upd b_empties p e) b_nexts b_sets b_leads b_classes b_newClasses b_lefts b_rights b_counts b_making b_firstSets b_followSets b_states b_looks b_wides b_work b_met b_tasks b_held b_uses b_reach := by
      intro e v w he v1 v2 w1 w2
      refine ⟨vp, nm_r (e' := upd b_closes p w) (by rw [cp]) (br_c (fun z => ⟨vx, vy, ?_⟩) (fun z => ?_))⟩
      · rw [cx, cy, pk_un xp, pk_un yp]
        refine yw_follow (b_begins := upd b_begins p v) (b_closes := upd b_closes p w) (b_empties := upd b_empties p e) (by omega) _ _ ?_
        refine h b_letters (upd b_begins p v) (upd b_closes p w) (upd b_empties p e) (yp_f b_nexts (b + gk_c (ga p)) (b_closes (fi p)) (b_begins (se p))) ?_ ⟨fun i hi => ⟨rfl, ?_⟩, fun q hq => ⟨pk_un (by omega), pk_un (by omega), pk_un (by omega)⟩⟩
        · rw [eg] at he ⊢
          exact yp_join wx wy hD hE he v1 v2 w1 w2 (fun _ => by rw [← eg, ec, Nat.add_assoc]) (fun q => absurd (e8.mp z) q)
        · refine if_neg fun w => ?_
          have := (hD.2.1 i).mp w.2
          omega
      · refine h b_letters (upd b_begins p v) (upd b_closes p w) (upd b_empties p e) b_nexts ?_ ⟨fun i _ => ⟨rfl, rfl⟩, fun q hq => ⟨pk_un (by omega), pk_un (by omega), pk_un (by omega)⟩⟩
        rw [eg] at he ⊢
        exact yp_join wx wy hD hE he v1 v2 w1 w2 (fun q => absurd (e8.mpr q) z) (fun _ => rfl)
    have f301 : ∀ e v : Int32, ((e = 1 ∧ gk_nu (ga p)) ∨ (e = 0 ∧ ¬ gk_nu (ga p))) → (op p - 8 ≠ 0 ∨ gk_nu (ga (fi p)) → v = b_begins (fi p) ||| b_begins (se p)) → (¬ (op p - 8 ≠ 0 ∨ gk_nu (ga (fi p))) → v = b_begins (fi p)) → wY_place_301 post (nI p) (nI (op p)) (nI (fi p)) (nI (se p)) v (nI p) h_made h_depth h_length h_tokenCount h_wrong (nI (b + gk_c (ga p))) h_ruleCount h_makingCount h_usefulRules h_stateCount h_wideCount h_useCount h_result b_ops b_firsts b_seconds b_sizes b_stack b_roots b_text b_ends b_tokenKinds b_tokenSizes b_letters b_begins b_closes (upd b_empties p e) b_nexts b_sets b_leads b_classes b_newClasses b_lefts b_rights b_counts b_making b_firstSets b_followSets b_states b_looks b_wides b_work b_met b_tasks b_held b_uses b_reach := by
      intro e v he v1 v2
      have both : op p - 8 ≠ 0 ∨ gk_nu (ga (se p)) → wY_place_323 post (nI (op p)) (nI (fi p)) (nI (se p)) (nI p) h_made h_depth h_length h_tokenCount h_wrong (nI (b + gk_c (ga p))) h_ruleCount h_makingCount h_usefulRules h_stateCount h_wideCount h_useCount h_result b_ops b_firsts b_seconds b_sizes b_stack b_roots b_text b_ends b_tokenKinds b_tokenSizes b_letters (upd b_begins p v) b_closes (upd b_empties p e) b_nexts b_sets b_leads b_classes b_newClasses b_lefts b_rights b_counts b_making b_firstSets b_followSets b_states b_looks b_wides b_work b_met b_tasks b_held b_uses b_reach := fun q => by
        refine ⟨vx, vy, ?_⟩
        rw [cx, cy]
        exact f347 e v _ he v1 v2 (fun _ => rfl) (fun z => absurd q z)
      refine ⟨vp, nm_r (e' := upd b_begins p v) (by rw [cp]) (br_c (fun z => both (Or.inl (e9.mp z))) (fun z => ⟨vy, ?_⟩))⟩
      rw [cy, pk_un yp]
      rcases hE.2.2.1 with ⟨y, nu⟩ | ⟨y, nu⟩
      · rw [y]
        exact br_f (by decide) (both (Or.inr nu))
      · rw [y]
        refine br_t rfl ⟨vy, f347 e v _ he v1 v2 (fun q => ?_) (fun _ => rfl)⟩
        rcases q with q | q
        · exact absurd (e9.mpr q) z
        · exact absurd q nu
    have f257 : ∀ e : Int32, ((e = 1 ∧ gk_nu (ga p)) ∨ (e = 0 ∧ ¬ gk_nu (ga p))) → wY_place_257 post (nI p) (nI (op p)) (nI (fi p)) (nI (se p)) e (nI p) h_made h_depth h_length h_tokenCount h_wrong (nI (b + gk_c (ga p))) h_ruleCount h_makingCount h_usefulRules h_stateCount h_wideCount h_useCount h_result b_ops b_firsts b_seconds b_sizes b_stack b_roots b_text b_ends b_tokenKinds b_tokenSizes b_letters b_begins b_closes b_empties b_nexts b_sets b_leads b_classes b_newClasses b_lefts b_rights b_counts b_making b_firstSets b_followSets b_states b_looks b_wides b_work b_met b_tasks b_held b_uses b_reach := by
      intro e he
      have ne : vp_nar .boolean e = e := by
        rcases he with ⟨rfl, _⟩ | ⟨rfl, _⟩
        · exact nr_1
        · exact nr_0
      have both : op p - 8 ≠ 0 ∨ gk_nu (ga (fi p)) → wY_place_278 post (nI p) (nI (op p)) (nI (fi p)) (nI (se p)) (nI p) h_made h_depth h_length h_tokenCount h_wrong (nI (b + gk_c (ga p))) h_ruleCount h_makingCount h_usefulRules h_stateCount h_wideCount h_useCount h_result b_ops b_firsts b_seconds b_sizes b_stack b_roots b_text b_ends b_tokenKinds b_tokenSizes b_letters b_begins b_closes (upd b_empties p e) b_nexts b_sets b_leads b_classes b_newClasses b_lefts b_rights b_counts b_making b_firstSets b_followSets b_states b_looks b_wides b_work b_met b_tasks b_held b_uses b_reach := fun q => by
        refine ⟨vx, vy, ?_⟩
        rw [cx, cy]
        exact f301 e _ he (fun _ => rfl) (fun z => absurd q z)
      refine ⟨vp, nm_r (e' := upd b_empties p e) (by rw [cp, ne]) (br_c (fun z => both (Or.inl (e9.mp z))) (fun z => ⟨vx, ?_⟩))⟩
      rw [cx, pk_un xp]
      rcases hD.2.2.1 with ⟨y, nu⟩ | ⟨y, nu⟩
      · rw [y]
        exact br_f (by decide) (both (Or.inr nu))
      · rw [y]
        refine br_t rfl ⟨vx, f301 e _ he (fun q => ?_) (fun _ => rfl)⟩
        rcases q with q | q
        · exact absurd (e9.mpr q) z
        · exact absurd q nu
    have nuJ : gk_nu (ga p) ↔ (op p - 8 = 0 ∧ gk_nu (ga (fi p)) ∧ gk_nu (ga (se p))) ∨ (op p - 8 ≠ 0 ∧ (gk_nu (ga (fi p)) ∨ gk_nu (ga (se p)))) := by rw [eg]; exact Iff.rfl
    refine ⟨vp, nm_r (e' := nI (op p)) (by rw [cp]; exact ko) ⟨vp, nm_r (e' := nI (fi p)) (by rw [cp]; exact k.2.2.2.2.1) ⟨vp, nm_r (e' := nI (se p)) (by rw [cp]; exact k.2.2.2.2.2.1) (br_t (nI_le (a := 5) (by omega) (by omega)) (br_t (nI_le (a := 8) h8 (by omega)) (br_c (fun z => ⟨vx, ?_⟩) (fun z => ⟨vx, ?_⟩))))⟩⟩⟩
    · rw [cx]
      have o1 := e9.mp z
      rcases hD.2.2.1 with ⟨y, nu⟩ | ⟨y, nu⟩
      · rw [y]
        exact br_f (by decide) (f257 1 (Or.inl ⟨rfl, nuJ.mpr (Or.inr ⟨o1, Or.inl nu⟩)⟩))
      · rw [y]
        refine br_t rfl ⟨vy, ?_⟩
        rw [cy]
        rcases hE.2.2.1 with ⟨y', nu'⟩ | ⟨y', nu'⟩
        · rw [y']
          exact br_f (by decide) (f257 1 (Or.inl ⟨rfl, nuJ.mpr (Or.inr ⟨o1, Or.inr nu'⟩)⟩))
        · rw [y']
          refine br_t rfl (f257 0 (Or.inr ⟨rfl, fun w => ?_⟩))
          rcases nuJ.mp w with w | w
          · exact o1 w.1
          · exact w.2.elim nu nu'
    · rw [cx]
      have o0 : op p - 8 = 0 := Classical.byContradiction fun w => z (e9.mpr w)
      rcases hD.2.2.1 with ⟨y, nu⟩ | ⟨y, nu⟩
      · rw [y]
        refine br_f (by decide) ⟨vy, ?_⟩
        rw [cy]
        rcases hE.2.2.1 with ⟨y', nu'⟩ | ⟨y', nu'⟩
        · rw [y']
          exact br_f (by decide) (f257 1 (Or.inl ⟨rfl, nuJ.mpr (Or.inl ⟨o0, nu, nu'⟩)⟩))
        · rw [y']
          refine br_t rfl (f257 0 (Or.inr ⟨rfl, fun w => ?_⟩))
          rcases nuJ.mp w with w | w
          · exact nu' w.2.2
          · exact w.1 o0
      · rw [y]
        refine br_t rfl (f257 0 (Or.inr ⟨rfl, fun w => ?_⟩))
        rcases nuJ.mp w with w | w
        · exact nu w.2.1
        · exact w.1 o0
end
