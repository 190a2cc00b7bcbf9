/-! the reference meets the whole of a row, and the rows one after another -/
variable {h_made h_depth h_length h_tokenCount h_wrong h_letterCount h_ruleCount h_makingCount h_usefulRules h_stateCount h_wideCount h_useCount h_result : Int32} {b_ops b_firsts b_seconds b_sizes b_stack b_roots b_text b_ends b_tokenKinds b_tokenSizes b_letters b_begins b_closes b_empties b_nexts b_sets b_leads b_classes b_newClasses b_lefts b_rights b_counts b_making b_firstSets b_followSets b_tasks b_held b_uses b_reach : Nat → Int32} {b_states b_looks b_wides b_work b_met : Nat → Int64}
section
variable {g : rg_T}
/-- nothing more comes from i to row j -/
def ym_F (g : rg_T) (w : Nat → Nat) (M : Nat → Int64) (i j : Nat) : Prop := ym_P g M i j ∧ ∀ m s, i ≤ m → m ≤ j → 3 ≤ s → s < 7 → ym_Q g w M i j m s
theorem yw_meetAt (hg : rg_ok g) (hG : xg_G g b_lefts b_rights b_counts) {u : Int32} (hU : yg_U g u) {w : Nat → Nat} {c j : Nat} (hc : c ≤ 24) (hw : ∀ i, i < c → b_tokenKinds i = nI (w i) ∧ w i < 3) (hj : j ≤ c) (hS : ym_S g (w, c) b_met j) {post : SY → Prop}
    (h : ∀ M, ym_S g (w, c) M j → ym_L b_met M j → (∀ i, i ≤ j → ym_F g w M i j) → post (h_made, h_depth, h_length, h_tokenCount, h_wrong, h_letterCount, h_ruleCount, h_makingCount, u, h_stateCount, h_wideCount, h_useCount, h_result, b_ops, b_firsts, b_seconds, b_sizes, b_stack, b_roots, b_text, b_ends, b_tokenKinds, b_tokenSizes, b_letters, b_begins, b_closes, b_empties, b_nexts, b_sets, b_leads, b_classes, b_newClasses, b_lefts, b_rights, b_counts, b_making, b_firstSets, b_followSets, b_states, b_looks, b_wides, b_work, M, b_tasks, b_held, b_uses, b_reach)) : wpY_meetAt post (h_made, h_depth, h_length, h_tokenCount, h_wrong, h_letterCount, h_ruleCount, h_makingCount, u, h_stateCount, h_wideCount, h_useCount, h_result, b_ops, b_firsts, b_seconds, b_sizes, b_stack, b_roots, b_text, b_ends, b_tokenKinds, b_tokenSizes, b_letters, b_begins, b_closes, b_empties, b_nexts, b_sets, b_leads, b_classes, b_newClasses, b_lefts, b_rights, b_counts, b_making, b_firstSets, b_followSets, b_states, b_looks, b_wides, b_work, b_met, b_tasks, b_held, b_uses, b_reach) (nI j) := by
  refine loop_m (fun f (σ : Int32 × (Nat → Int64)) => wY_meetAt_2 post (nI j) f σ.1 h_made h_depth h_length h_tokenCount h_wrong h_letterCount h_ruleCount h_makingCount u h_stateCount h_wideCount h_useCount h_result b_ops b_firsts b_seconds b_sizes b_stack b_roots b_text b_ends b_tokenKinds b_tokenSizes b_letters b_begins b_closes b_empties b_nexts b_sets b_leads b_classes b_newClasses b_lefts b_rights b_counts b_making b_firstSets b_followSets b_states b_looks b_wides b_work σ.2 b_tasks b_held b_uses b_reach) (fun σ => ym_S g (w, c) σ.2 j ∧ ym_L b_met σ.2 j ∧ ((σ.1 = 0 ∧ ∀ i, i ≤ j → ym_F g w σ.2 i j) ∨ σ.1 = 1)) (fun σ => 2 * (1175 - ym_c σ.2 j) + (if σ.1 = 0 then 0 else 1)) ?_ (1, b_met) ⟨hS, ⟨fun _ _ => rfl, fun _ _ _ z => z⟩, Or.inr rfl⟩
  rintro f ⟨cc, M⟩ ⟨s1, s2, s3⟩ hk
  have s1 : ym_S g (w, c) M j := s1
  have s2 : ym_L b_met M j := s2
  rcases s3 with ⟨q, s3⟩ | q
  · have q : cc = 0 := q
    subst q
    exact br_t rfl (h M s1 s2 s3)
  · have q : cc = 1 := q
    subst q
    refine br_f (show ¬ (1 : Int32) = 0 by decide) ?_
    have lo : ∀ t (a : Int32) (N : Nat → Int64), t ≤ j + 1 → ym_S g (w, c) N j → ym_L M N j → ((a = 0 ∧ N = M ∧ ∀ i, t ≤ i → i ≤ j → ym_F g w M i j) ∨ (a = 1 ∧ ym_c M j < ym_c N j)) → wY_meetAt_10 post (wY_meetAt_2 post (nI j) f) (nI j) (t + 1) a (nI t + (-1)) h_made h_depth h_length h_tokenCount h_wrong h_letterCount h_ruleCount h_makingCount u h_stateCount h_wideCount h_useCount h_result b_ops b_firsts b_seconds b_sizes b_stack b_roots b_text b_ends b_tokenKinds b_tokenSizes b_letters b_begins b_closes b_empties b_nexts b_sets b_leads b_classes b_newClasses b_lefts b_rights b_counts b_making b_firstSets b_followSets b_states b_looks b_wides b_work N b_tasks b_held b_uses b_reach := by
      intro t
      induction t with
      | zero =>
        intro a N _ n1 n2 n3
        refine br_t (by decide) (hk (a, N) ⟨n1, ym_tr s2 n2, ?_⟩ ?_)
        · rcases n3 with ⟨e1, e2, e3⟩ | ⟨e1, _⟩
          · have e2 : N = M := e2
            subst e2
            exact Or.inl ⟨e1, fun i hi => e3 i (Nat.zero_le _) hi⟩
          · exact Or.inr e1
        · rcases n3 with ⟨e1, e2, e3⟩ | ⟨e1, e2⟩
          · have e2 : N = M := e2
            subst e1 e2
            show 2 * (1175 - ym_c N j) + 0 < 2 * (1175 - ym_c N j) + 1
            omega
          · subst e1
            have : ym_c N j ≤ 1175 := cn_le _ _
            show 2 * (1175 - ym_c N j) + 1 < 2 * (1175 - ym_c M j) + 1
            omega
      | succ t ih =>
        intro a N ht n1 n2 n3
        rw [pk_m1]
        refine br_f (nI_nlt (a := t) (b := 0) (Nat.zero_le _) (by omega)) ?_
        refine yw_meetMore (b_met := N) hg hG hU hc hw (by omega) hj n1 (fun p1 p2 => br_t rfl ?_) (fun N' m1 m2 m3 => br_f (by decide) (nm_e (ih 1 N' (by omega) m1 (ym_tr n2 m2) (Or.inr ⟨rfl, ?_⟩))))
        · rcases n3 with ⟨e1, e2, e3⟩ | ⟨e1, e2⟩
          · have e2 : N = M := e2
            subst e1 e2
            refine br_t rfl (nm_e (ih 0 N (by omega) n1 n2 (Or.inl ⟨rfl, rfl, fun i hi hj' => ?_⟩)))
            by_cases e : i = t
            · subst e; exact ⟨p1, p2⟩
            · exact e3 i (by omega) hj'
          · subst e1
            exact br_f (by decide) (nm_e (ih 1 N (by omega) n1 n2 (Or.inr ⟨rfl, e2⟩)))
        · have := ym_mono n2
          omega
    have hf := lo (j + 1) 0 M (Nat.le_refl _) s1 ⟨fun _ _ => rfl, fun _ _ _ z => z⟩ (Or.inl ⟨rfl, rfl, fun i p q => by omega⟩)
    rw [pk_m1] at hf
    exact ⟨_, hf⟩
/-- a row that gets no more holds all -/
theorem ym_full (hg : rg_ok g) {w : Nat → Nat} {c j : Nat} (hX : tx_ok (w, c)) {M0 M : Nat → Int64} (hlt : ∀ j' i k, j' < j → i ≤ j' → (bl (M0 (j' * 25 + i)) k = true ↔ er_E (tg_G g) (w, c) i j' (k / 5) (k % 5))) (h45 : j = 0 → bl (M0 0) 45 = true)
    (hsc : ∀ j0, j = j0 + 1 → j0 < c → ∀ i k, i ≤ j0 → bl (M0 (j0 * 25 + i)) k = true → im_nx g k (w j0) → bl (M0 (j * 25 + i)) (k + 1) = true) (hj : j ≤ 24) (hL : ym_L M0 M j) (hS : ym_S g (w, c) M j) (hF : ∀ i, i ≤ j → ym_F g w M i j) : ∀ j' i k, j' ≤ j → i ≤ j' → (bl (M (j' * 25 + i)) k = true ↔ er_E (tg_G g) (w, c) i j' (k / 5) (k % 5)) := by
  have hO := tg_ok hg
  have low : ∀ j' i k, j' < j → i ≤ j' → (bl (M (j' * 25 + i)) k = true ↔ er_E (tg_G g) (w, c) i j' (k / 5) (k % 5)) := by
    intro j' i k h1 h2
    rw [hL.1 (j' * 25 + i) (by omega)]
    exact hlt j' i k h1 h2
  have dm : ∀ {i j' r p}, er_E (tg_G g) (w, c) i j' r p → (5 * r + p) / 5 = r ∧ (5 * r + p) % 5 = p ∧ i ≤ j' ∧ j' ≤ c := by
    intro i j' r p h
    obtain ⟨_, a1, a2, a3, a4, _⟩ := er_sound hX hO h
    have := (hO.2.1 r a1).1
    exact ⟨by omega, by omega, a3, a4⟩
  have all : ∀ {i j' r p}, er_E (tg_G g) (w, c) i j' r p → (j' = j → bl (M (j * 25 + i)) (5 * r + p) = true) := by
    intro i j' r p h
    refine er_ind (fun i j' r p => j' = j → bl (M (j * 25 + i)) (5 * r + p) = true) ?_ ?_ ?_ ?_ h
    · intro e
      have := hL.2 0 45 (Nat.zero_le _) (by rw [← e]; exact h45 e.symm)
      exact this
    · intro i j' r p r' a b d e f z
      have b := b z
      subst z
      obtain ⟨d1, d2, d3, _⟩ := dm a
      exact (hF i d3).1 _ r' b e ⟨by rw [d1, d2]; exact d, by rw [d1, d2]; exact f.symm⟩
    · intro i j0 r p a b d e f z
      obtain ⟨d1, d2, d3, _⟩ := dm a
      subst z
      have := (hlt j0 i (5 * r + p) (by omega) d3).mpr (by rw [d1, d2]; exact a)
      exact hL.2 i _ (by omega) (hsc j0 rfl e i (5 * r + p) d3 this ⟨by rw [d1, d2]; exact d, by rw [d1, d2]; exact f⟩)
    · intro i m j' r p r' a b d e f l n z
      have f := f z
      subst z
      obtain ⟨d1, d2, d3, _⟩ := dm a
      obtain ⟨_, _, d4, _⟩ := dm e
      have l7 := hO.1 r' l
      refine (hF i (by omega)).2 m (gr_l (tg_G g) r') d3 d4 l7.2.1 l7.2.2 (Or.inr ⟨l7.2.1, r', l, rfl, f⟩) (5 * r + p) ?_ ⟨by rw [d1, d2]; exact d, by rw [d1, d2]; exact n.symm⟩
      by_cases q : m = j'
      · rw [q]; exact b q
      · exact (low m i _ (by omega) d3).mpr (by rw [d1, d2]; exact a)
  intro j' i k h1 h2
  by_cases e : j' = j
  · subst e
    refine ⟨hS i j' k h1 h2, fun z => ?_⟩
    have := all z rfl
    rw [show 5 * (k / 5) + k % 5 = k by omega] at this
    exact this
  · exact low j' i k (by omega) h2
theorem ym_45 (k : Nat) : bl 35184372088832 k = true ↔ k = 45 := by
  rcases Nat.lt_or_ge k 64 with z | z
  · have : ∀ k, k < 64 → (bl 35184372088832 k = true ↔ k = 45) := by decide +kernel
    exact this k z
  · rw [bl_big z]
    exact ⟨(fun q => by cases q), fun q => by omega⟩
theorem yw_meet (hg : rg_ok g) (hG : xg_G g b_lefts b_rights b_counts) {u : Int32} (hU : yg_U g u) {w : Nat → Nat} {c : Nat} (hc : c ≤ 24) (hw : ∀ i, i < c → b_tokenKinds i = nI (w i) ∧ w i < 3) {post : Int32 → SY → Prop}
    (h : ∀ n M, n ≤ c → (∀ m, m < n → er_S (tg_G g) (w, c) m) → (n < c → ¬ er_S (tg_G g) (w, c) n) → (∀ j i k, j ≤ n → i ≤ j → (bl (M (j * 25 + i)) k = true ↔ er_E (tg_G g) (w, c) i j (k / 5) (k % 5))) → post (nI n) (h_made, h_depth, h_length, (nI c), h_wrong, h_letterCount, h_ruleCount, h_makingCount, u, h_stateCount, h_wideCount, h_useCount, h_result, b_ops, b_firsts, b_seconds, b_sizes, b_stack, b_roots, b_text, b_ends, b_tokenKinds, b_tokenSizes, b_letters, b_begins, b_closes, b_empties, b_nexts, b_sets, b_leads, b_classes, b_newClasses, b_lefts, b_rights, b_counts, b_making, b_firstSets, b_followSets, b_states, b_looks, b_wides, b_work, M, b_tasks, b_held, b_uses, b_reach)) : wpY_meet post (h_made, h_depth, h_length, (nI c), h_wrong, h_letterCount, h_ruleCount, h_makingCount, u, h_stateCount, h_wideCount, h_useCount, h_result, b_ops, b_firsts, b_seconds, b_sizes, b_stack, b_roots, b_text, b_ends, b_tokenKinds, b_tokenSizes, b_letters, b_begins, b_closes, b_empties, b_nexts, b_sets, b_leads, b_classes, b_newClasses, b_lefts, b_rights, b_counts, b_making, b_firstSets, b_followSets, b_states, b_looks, b_wides, b_work, b_met, b_tasks, b_held, b_uses, b_reach) := by
  have hX : tx_ok (w, c) := fun i hi => (hw i hi).2
  have hO := tg_ok hg
  have S := er_self (tg_G g) (w, c)
  refine loop_0 (fun f n N => wY_meet_2 post h_made h_depth h_length (nI c) h_wrong h_letterCount h_ruleCount h_makingCount u h_stateCount h_wideCount h_useCount h_result f (nI n) b_ops b_firsts b_seconds b_sizes b_stack b_roots b_text b_ends b_tokenKinds b_tokenSizes b_letters b_begins b_closes b_empties b_nexts b_sets b_leads b_classes b_newClasses b_lefts b_rights b_counts b_making b_firstSets b_followSets b_states b_looks b_wides b_work N b_tasks b_held b_uses b_reach) (fun n N => ∀ x, x < n → N x = 0) 625 b_met (fun x q => absurd q (Nat.not_lt_zero _)) ?_ ?_
  · intro f N hN
    refine br_t (nI_le (Nat.le_refl 625) (by decide)) (nm_e ?_)
    refine loop_0 (fun f j M => wY_meet_33 post f (nI j) h_made h_depth h_length (nI c) h_wrong h_letterCount h_ruleCount h_makingCount u h_stateCount h_wideCount h_useCount h_result b_ops b_firsts b_seconds b_sizes b_stack b_roots b_text b_ends b_tokenKinds b_tokenSizes b_letters b_begins b_closes b_empties b_nexts b_sets b_leads b_classes b_newClasses b_lefts b_rights b_counts b_making b_firstSets b_followSets b_states b_looks b_wides b_work M b_tasks b_held b_uses b_reach) (fun j M => (∀ j' i k, j' < j → i ≤ j' → (bl (M (j' * 25 + i)) k = true ↔ er_E (tg_G g) (w, c) i j' (k / 5) (k % 5))) ∧ (∀ m, m + 1 < j → er_S (tg_G g) (w, c) m) ∧ (∀ x k, j * 25 ≤ x → x < 625 → bl (M x) k = true → x = 0 ∧ k = 45) ∧ (j = 0 → bl (M 0) 45 = true)) (c + 1) (vp_updL N 0 35184372088832) ⟨fun j' i k q => absurd q (Nat.not_lt_zero _), fun m q => by omega, fun x k _ hx q => ?_, fun _ => ?_⟩ ?_ ?_
    · by_cases e : x = 0
      · subst e
        rw [pk_uLs] at q
        exact ⟨rfl, (ym_45 k).mp q⟩
      · rw [pk_uLn e, hN x hx, bl_0] at q
        cases q
    · rw [pk_uLs]; exact (ym_45 45).mpr rfl
    · rintro f M ⟨a1, a2, a3, a4⟩
      exact br_t (nI_lt (by omega) (by omega)) (h c M (Nat.le_refl _) (fun m hm => a2 m (by omega)) (fun q => absurd q (Nat.lt_irrefl _)) (fun j i k hj hi => a1 j i k (by omega) hi))
    · rintro f j M hj ⟨a1, a2, a3, a4⟩ hk
      refine br_f (nI_nlt (by omega) (by omega)) (br_c (fun q0 => ?_) (fun q0 => ?_))
      · have q0 : j = 0 := by
          have : nI j = nI 0 := q0
          exact (nI_eq (by omega) (by omega)).mp this
        subst q0
        refine ⟨1, br_t (nI_le (a := 0) (b := 0) (Nat.le_refl 0) (by decide)) (br_f (by decide) ?_)⟩
        refine yw_meetAt (b_met := M) hg hG hU hc hw (Nat.zero_le _) ?_ (fun M' m1 m2 m3 => nm_r (nI_1 0) (hk M' ⟨fun j' i k h1 h2 => ?_, fun m q => by omega, fun x k h1 h2 q => ?_, fun q => by omega⟩))
        · intro i' j' k h1 h2 q
          have e1 : j' = 0 := by omega
          have e2 : i' = 0 := by omega
          subst e1 e2
          have := (a3 0 k (Nat.zero_le _) (by decide) q).2
          subst this
          exact S.1
        · exact ym_full hg hX a1 a4 (fun j0 e => by omega) (by omega) m2 m1 m3 j' i k (by omega) h2
        · rw [m2.1 x (by omega)] at q
          exact a3 x k (by omega) h2 q
      · have j1 : 1 ≤ j := by
          rcases Nat.eq_zero_or_pos j with e | e
          · exact absurd (by rw [e]; rfl) q0
          · exact e
        have ej : nI j - 1 = nI (j - 1) := pk_sub (b := 1) j1
        obtain ⟨w1, w2⟩ := hw (j - 1) (by omega)
        refine loop_0 (fun f' i σ => wY_meet_54 post (wY_meet_33 post f) (nI j) h_made h_depth h_length (nI c) h_wrong h_letterCount h_ruleCount h_makingCount u h_stateCount h_wideCount h_useCount h_result f' σ.1 (nI i) b_ops b_firsts b_seconds b_sizes b_stack b_roots b_text b_ends b_tokenKinds b_tokenSizes b_letters b_begins b_closes b_empties b_nexts b_sets b_leads b_classes b_newClasses b_lefts b_rights b_counts b_making b_firstSets b_followSets b_states b_looks b_wides b_work σ.2 b_tasks b_held b_uses b_reach) (fun i (σ : Int64 × (Nat → Int64)) => (∀ x, x < j * 25 ∨ j * 25 + i ≤ x → σ.2 x = M x) ∧ (∀ i', i' < i → ∀ k, bl (σ.2 (j * 25 + i')) k = true ↔ tb_mv g (M ((j - 1) * 25 + i')) (w (j - 1)) k) ∧ ∀ k, bl σ.1 k = true ↔ ∃ i', i' < i ∧ bl (σ.2 (j * 25 + i')) k = true) j ((0 : Int64), M) ⟨fun _ _ => rfl, fun i' q => absurd q (Nat.not_lt_zero _), fun k => ?_⟩ ?_ ?_
        · show bl 0 k = true ↔ _
          rw [bl_0]
          exact ⟨(fun z => by cases z), fun ⟨i', z, _⟩ => absurd z (Nat.not_lt_zero _)⟩
        · rintro f' ⟨A, P⟩ ⟨p1, p2, p3⟩
          have p1 : ∀ x, x < j * 25 ∨ j * 25 + j ≤ x → P x = M x := p1
          have p2 : ∀ i', i' < j → ∀ k, bl (P (j * 25 + i')) k = true ↔ tb_mv g (M ((j - 1) * 25 + i')) (w (j - 1)) k := p2
          have p3 : ∀ k, bl A k = true ↔ ∃ i', i' < j ∧ bl (P (j * 25 + i')) k = true := p3
          have toS : ∀ i' k, i' < j → bl (P (j * 25 + i')) k = true → er_E (tg_G g) (w, c) i' j (k / 5) (k % 5) ∧ er_S (tg_G g) (w, c) (j - 1) := by
            intro i' k hi hb
            obtain ⟨q, rfl, q2, q3⟩ := (p2 i' hi k).mp hb
            have e0 := (a1 (j - 1) i' q (by omega) (by omega)).mp q2
            obtain ⟨_, e1, e2⟩ := im_s hg (er_im hX hg e0) q3
            rw [e1, e2]
            refine ⟨?_, by show j - 1 < c; omega, i', _, _, e0, q3⟩
            have := S.2.2.1 i' (j - 1) _ _ e0 q3.1 (by show j - 1 < c; omega) q3.2
            rw [show j - 1 + 1 = j by omega] at this
            exact this
          refine br_t (nI_le (Nat.le_refl j) (by omega)) (br_c (fun z => ?_) (fun z => ?_))
          · have z : A = 0 := z
            rw [ej]
            have := h (j - 1) P (by omega) (fun m hm => a2 m (by omega)) (fun _ => ?_) (fun j' i k h1 h2 => ?_)
            · exact this
            · rintro ⟨_, i, r, p, e1, e2, e3⟩
              obtain ⟨_, s1, s2, s3, _⟩ := er_sound hX hO e1
              have c4 := (hO.2.1 r s1).1
              have := (a1 (j - 1) i (5 * r + p) (by omega) s3).mpr (by rw [show (5 * r + p) / 5 = r by omega, show (5 * r + p) % 5 = p by omega]; exact e1)
              have := (p2 i (by omega) (5 * r + p + 1)).mpr ⟨5 * r + p, rfl, this, by rw [show (5 * r + p) / 5 = r by omega, show (5 * r + p) % 5 = p by omega]; exact e2, by rw [show (5 * r + p) / 5 = r by omega, show (5 * r + p) % 5 = p by omega]; exact e3⟩
              have := (p3 _).mpr ⟨i, by omega, this⟩
              rw [z, bl_0] at this
              cases this
            · rw [p1 _ (by omega)]
              exact a1 j' i k (by omega) h2
          · have z : ¬ A = 0 := z
            have ex : ∃ k, bl A k = true := by
              refine Classical.byContradiction fun q => z (bl_ext fun k _ => ?_)
              rw [bl_0]
              cases c1 : bl A k
              · rfl
              · exact absurd ⟨k, c1⟩ q
            obtain ⟨k0, ex⟩ := ex
            obtain ⟨i0, h0, ex⟩ := (p3 k0).mp ex
            have eS := (toS i0 k0 h0 ex).2
            have lowP : ∀ j' i k, j' < j → i ≤ j' → (bl (P (j' * 25 + i)) k = true ↔ er_E (tg_G g) (w, c) i j' (k / 5) (k % 5)) := by
              intro j' i k h1 h2
              rw [p1 _ (by omega)]
              exact a1 j' i k h1 h2
            refine yw_meetAt (b_met := P) hg hG hU hc hw (by omega) ?_ (fun M' m1 m2 m3 => nm_r (nI_1 j) (hk M' ⟨fun j' i k h1 h2 => ?_, fun m q => ?_, fun x k h1 h2 q => ?_, fun q => by omega⟩))
            · intro i' j' k h1 h2 q
              by_cases e : j' = j
              · subst e
                by_cases e2 : i' = j'
                · subst e2
                  rw [p1 _ (by omega)] at q
                  have := (a3 _ k (by omega) (by omega) q).1
                  omega
                · exact (toS i' k (by omega) q).1
              · exact (lowP j' i' k (by omega) h2).mp q
            · refine ym_full hg hX lowP (fun e => by omega) (fun j0 e hj0 i k hi hb hn => ?_) (by omega) m2 m1 m3 j' i k (by omega) h2
              have e0 : j0 = j - 1 := by omega
              subst e0
              exact (p2 i (by omega) (k + 1)).mpr ⟨k, rfl, by rw [← p1 _ (by omega)]; exact hb, hn⟩
            · by_cases e : m = j - 1
              · rw [e]; exact eS
              · exact a2 m (by omega)
            · rw [m2.1 x (by omega), p1 x (by omega)] at q
              exact a3 x k (by omega) h2 q
        · rintro f' i ⟨A, P⟩ hi ⟨p1, p2, p3⟩ hk2
          have p1 : ∀ x, x < j * 25 ∨ j * 25 + i ≤ x → P x = M x := p1
          have p2 : ∀ i', i' < i → ∀ k, bl (P (j * 25 + i')) k = true ↔ tb_mv g (M ((j - 1) * 25 + i')) (w (j - 1)) k := p2
          have p3 : ∀ k, bl A k = true ↔ ∃ i', i' < i ∧ bl (P (j * 25 + i')) k = true := p3
          have iji : vp_in (25 * nI j + nI i) 625 := pk_in (j * 25 + i) 625 (by omega) (ix_25 j i)
          have cji : (25 * nI j + nI i).toNatClampNeg = j * 25 + i := pk_cl (j * 25 + i) (ix_25 j i)
          refine br_f (nI_ge hi (by omega)) ?_
          rw [ej]
          refine ⟨pk_in ((j - 1) * 25 + i) 625 (by omega) (ix_25 (j - 1) i), vp_in_nI (by omega) (by decide), ?_⟩
          rw [pk_cl ((j - 1) * 25 + i) (ix_25 (j - 1) i), nI_clamp (by omega : j - 1 < 2 ^ 31), w1]
          have eP : P ((j - 1) * 25 + i) = M ((j - 1) * 25 + i) := p1 _ (by omega)
          refine yw_moved (b_met := P) hg hG (fun k hk => er_im hX hg ((a1 (j - 1) i k (by omega) (by omega)).mp (by rw [← eP]; exact hk))) (by omega) (fun T hT => ⟨iji, nm_e ⟨iji, nm_e (nm_r (nI_1 i) ?_)⟩⟩)
          rw [cji]
          refine hk2 (A ||| vp_updL P (j * 25 + i) T (j * 25 + i), vp_updL P (j * 25 + i) T) ⟨fun x hx => ?_, fun i' hi' k => ?_, fun k => ?_⟩
          · show vp_updL P (j * 25 + i) T x = M x
            rw [pk_uLn (by omega)]
            exact p1 x (by omega)
          · show bl (vp_updL P (j * 25 + i) T (j * 25 + i')) k = true ↔ _
            by_cases e : i' = i
            · subst e
              rw [pk_uLs, hT k]
              show tb_mv g (P ((j - 1) * 25 + i')) (w (j - 1)) k ↔ _
              rw [eP]
            · rw [pk_uLn (by omega)]
              exact p2 i' (by omega) k
          · show bl (A ||| vp_updL P (j * 25 + i) T (j * 25 + i)) k = true ↔ ∃ i', i' < i + 1 ∧ bl (vp_updL P (j * 25 + i) T (j * 25 + i')) k = true
            rw [bl_or, Bool.or_eq_true, p3 k, pk_uLs]
            constructor
            · rintro (⟨i', q1, q2⟩ | q)
              · exact ⟨i', by omega, by rw [pk_uLn (by omega)]; exact q2⟩
              · exact ⟨i, by omega, by rw [pk_uLs]; exact q⟩
            · rintro ⟨i', q1, q2⟩
              by_cases e : i' = i
              · subst e
                rw [pk_uLs] at q2
                exact Or.inr q2
              · rw [pk_uLn (by omega)] at q2
                exact Or.inl ⟨i', by omega, q2⟩
  · intro f n N hn hN hk
    refine br_f (nI_ge hn (by decide)) ⟨vp_in_nI hn (by decide), nm_e (nm_r (nI_1 n) (hk _ fun x hx => ?_))⟩
    rw [nI_clamp (by omega)]
    by_cases e : x = n
    · subst e; exact pk_uLs
    · rw [pk_uLn e]; exact hN x (by omega)
end
