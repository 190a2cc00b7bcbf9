/-! the reference's begins and follows -/
variable {h_made h_depth h_length h_tokenCount h_wrong h_letterCount h_ruleCount h_makingCount h_usefulRules h_stateCount h_wideCount h_useCount h_result : Int32} {b_ops b_firsts b_seconds b_sizes b_stack b_roots b_text b_ends b_tokenKinds b_tokenSizes b_letters b_begins b_closes b_empties b_nexts b_sets b_leads b_classes b_newClasses b_lefts b_rights b_counts b_making b_firstSets b_followSets b_tasks b_held b_uses b_reach : Nat → Int32} {b_states b_looks b_wides b_work b_met : Nat → Int64}
section
variable {g : rg_T}
theorem dn_lt {p : Nat} (hp : p < 2 ^ 31) : nI p + (-1) < nI p := by
  cases p with
  | zero => decide
  | succ q => rw [pk_m1]; exact nI_lt (by omega) hp
theorem yw_firstFrom (hg : rg_ok g) (hG : xg_G g b_lefts b_rights b_counts) (h4 : xb_4 b_firstSets) {r p : Nat} (hr : r < rg_n g ∨ r = 9) (hp : p ≤ rg_c g r) {post : Int32 → Prop} (h : ∀ x, (∀ b, bt x b = true ↔ fs_b (xb_F b_firstSets) (rg_h g r) (rg_c g r - p) p b) → post x) : wpY_firstFrom post (h_made, h_depth, h_length, h_tokenCount, h_wrong, h_letterCount, h_ruleCount, h_makingCount, h_usefulRules, h_stateCount, h_wideCount, h_useCount, h_result, b_ops, b_firsts, b_seconds, b_sizes, b_stack, b_roots, b_text, b_ends, b_tokenKinds, b_tokenSizes, b_letters, b_begins, b_closes, b_empties, b_nexts, b_sets, b_leads, b_classes, b_newClasses, b_lefts, b_rights, b_counts, b_making, b_firstSets, b_followSets, b_states, b_looks, b_wides, b_work, b_met, b_tasks, b_held, b_uses, b_reach) (nI r) (nI p) := by
  obtain ⟨b1, b2, b3, b4, b5⟩ := rg_b hg hr
  obtain ⟨g1, g2, g3⟩ := hG r hr
  have cr : (nI r).toNatClampNeg = r := nI_clamp (by omega)
  have key : ∀ j (s : Int32), p + j ≤ rg_c g r → (∀ b, bt s b = true ↔ fs_b (xb_F b_firstSets) (rg_h g r) (rg_c g r - (p + j)) (p + j) b) → wY_firstFrom_13 post (nI r) (nI p) h_made h_depth h_length h_tokenCount h_wrong h_letterCount h_ruleCount h_makingCount h_usefulRules h_stateCount h_wideCount h_useCount h_result b_ops b_firsts b_seconds b_sizes b_stack b_roots b_text b_ends b_tokenKinds b_tokenSizes b_letters b_begins b_closes b_empties b_nexts b_sets b_leads b_classes b_newClasses b_lefts b_rights b_counts b_making b_firstSets b_followSets b_states b_looks b_wides b_work b_met b_tasks b_held b_uses b_reach (j + 1) s (nI (p + j) + (-1)) := by
    intro j
    induction j with
    | zero => intro s hj hs; exact br_t (dn_lt (by omega)) (h s hs)
    | succ j ih =>
      intro s hj hs
      have hc : rg_c g r - (p + j) = (rg_c g r - (p + (j + 1))) + 1 := by omega
      have hh := b5 (p + j) (by omega)
      have ch : (nI (rg_h g r (p + j))).toNatClampNeg = rg_h g r (p + j) := nI_clamp (by omega)
      rw [show nI (p + (j + 1)) + (-1) = nI (p + j) from pk_m1 _]
      refine br_f (nI_nlt (by omega) (by omega)) ⟨pk_in (r * 4 + (p + j)) 40 (by omega) (ix_l4 r (p + j)), ?_⟩
      rw [pk_cl (r * 4 + (p + j)) (ix_l4 r (p + j)), g3 (p + j) (by omega)]
      refine ⟨vp_in_nI hh (by decide), nm_r (e' := b_firstSets (rg_h g r (p + j))) (by rw [ch]) (br_c (fun z => ?_) (fun z => ?_))⟩
      · have z := (b_and8 _).mp z
        refine nm_e (ih _ (by omega) fun b => ?_)
        rw [hc]
        constructor
        · intro y
          have := h4 _ b hh y
          refine Or.inl ⟨?_, y⟩
          have : b ≠ 3 := fun e => by rw [e, z] at y; cases y
          omega
        · rintro (⟨_, y⟩ | ⟨y, _⟩)
          · exact y
          · have y : bt (b_firstSets (rg_h g r (p + j))) 3 = true := y
            rw [z] at y; cases y
      · have z : xb_F b_firstSets (rg_h g r (p + j)) 3 := ts_nf fun y => z ((b_and8 _).mpr y)
        refine nm_e (nm_e (ih _ (by omega) fun b => ?_))
        rw [hc, b_or, Bool.or_eq_true, b_and, Bool.and_eq_true, b_7b, decide_eq_true_eq, hs b]
        constructor
        · rintro (⟨y1, y2⟩ | y)
          · exact Or.inl ⟨y2, y1⟩
          · exact Or.inr ⟨z, y⟩
        · rintro (⟨y1, y2⟩ | ⟨_, y⟩)
          · exact Or.inl ⟨y2, y1⟩
          · exact Or.inr y
  refine ⟨vp_in_nI (by omega) (by decide), nm_r (e' := nI (p + (rg_c g r - p)) + (-1)) ?_ ⟨rg_c g r - p + 1, key _ 8 (by omega) fun b => ?_⟩⟩
  · rw [cr, g2, show p + (rg_c g r - p) = rg_c g r by omega]; exact Int32.sub_eq_add_neg _ _
  · rw [show p + (rg_c g r - p) = rg_c g r by omega, Nat.sub_self, b_8b, decide_eq_true_eq]
    exact Iff.rfl
noncomputable def sx_c (a : Nat → Int32) : Nat := cn_c (fun x => bt (a (x / 4)) (x % 4) = true) 28
theorem sx_lt {a a' : Nat → Int32} {v b : Nat} (h7 : v < 7) (hb : b < 4) (h1 : ¬ bt (a v) b = true) (h2 : bt (a' v) b = true) (h : ∀ s b, s < 7 → bt (a s) b = true → bt (a' s) b = true) : sx_c a < sx_c a' := by
  have e1 : (v * 4 + b) / 4 = v := by omega
  have e2 : (v * 4 + b) % 4 = b := by omega
  exact cn_lt (a := v * 4 + b) (by rw [e1, e2]; exact h1) (by rw [e1, e2]; exact h2) (fun k hk z => h _ _ (by omega) z) (by omega)
theorem sx_full {a : Nat → Int32} (h : sx_c a = 28) {v b : Nat} (h7 : v < 7) (hb : b < 4) : bt (a v) b = true := by
  have := cn_full h (v * 4 + b) (by omega)
  rwa [show (v * 4 + b) / 4 = v by omega, show (v * 4 + b) % 4 = b by omega] at this
/-- place k % 4 of rule k / 4 adds nothing to the follows -/
def yf_s (g : rg_T) (F : Nat → Nat → Prop) (k : Nat) (a : Nat → Int32) : Prop := us_U g (k / 4) → k % 4 < rg_c g (k / 4) → (∀ b, b < 3 → xf_R g F (k / 4) (k % 4) b → bt (a (rg_h g (k / 4) (k % 4))) b = true) ∧ (xf_R g F (k / 4) (k % 4) 3 → ∀ b, bt (a (rg_l g (k / 4))) b = true → bt (a (rg_h g (k / 4) (k % 4))) b = true)
def yf_S (g : rg_T) (a : Nat → Int32) : Prop := (∀ s b, s < 7 → bt (a s) b = true → fo_W g s b) ∧ bt (a 3) 3 = true
def yf_ok (g : rg_T) (a : Nat → Int32) : Prop := ∀ v b, v < 7 → (bt (a v) b = true ↔ fo_W g v b)
theorem yf_end (hg : rg_ok g) {F : Nat → Nat → Prop} (hF : ∀ s b, s < 7 → (F s b ↔ fi_F g s b)) {n : Nat} {a : Nat → Int32} (hS : yf_S g a) (hJ : rd_J 36 (yf_s g F) sx_c n a) (hn : 1008 ≤ n) : yf_ok g a := by
  have cl := rd_end hJ (cn_le _ 28) hn (fun e k hk hU hi => by
    have l := hg.2.1 _ hU.1
    have h7 := l.2.2.2 _ hi
    exact ⟨fun b hb _ => sx_full e h7 (by omega), fun _ b hb => sx_full e h7 (by have := fo_rng (hS.1 _ _ l.2.1 hb); omega)⟩)
  intro v b v7
  refine ⟨hS.1 v b v7, fun z => ?_⟩
  have := z (fun v b => v < 7 → bt (a v) b = true) ⟨fun _ => hS.2, fun r i hU hi => ?_⟩
  · exact this v7
  · have l := hg.2.1 r hU.1
    have h9 := hg.1
    have hr := hU.1
    have e : ∀ b, xf_R g F r i b ↔ fs_b (fi_F g) (rg_h g r) (rg_c g r - (i + 1)) (i + 1) b := fun b => fs_iff7 l.2.2.2 hF _ _ _ (by omega)
    have h4 : (r * 4 + i) / 4 = r := by omega
    have h5 : (r * 4 + i) % 4 = i := by omega
    have := cl (r * 4 + i) (by omega)
    unfold yf_s at this
    rw [h4, h5] at this
    have := this hU hi
    exact ⟨fun b hb hR _ => this.1 b hb ((e b).mpr hR), fun hR b hb _ => this.2 ((e 3).mpr hR) b (hb l.2.1)⟩
theorem yw_findSets (hg : rg_ok g) (hG : xg_G g b_lefts b_rights b_counts) {post : SY → Prop} (h : ∀ u a w, yg_U g u → xb_ok g a → xb_4 a → yf_ok g w → post (h_made, h_depth, h_length, h_tokenCount, h_wrong, h_letterCount, (nI (rg_n g)), h_makingCount, u, h_stateCount, h_wideCount, h_useCount, h_result, b_ops, b_firsts, b_seconds, b_sizes, b_stack, b_roots, b_text, b_ends, b_tokenKinds, b_tokenSizes, b_letters, b_begins, b_closes, b_empties, b_nexts, b_sets, b_leads, b_classes, b_newClasses, b_lefts, b_rights, b_counts, b_making, a, w, b_states, b_looks, b_wides, b_work, b_met, b_tasks, b_held, b_uses, b_reach)) : wpY_findSets post (h_made, h_depth, h_length, h_tokenCount, h_wrong, h_letterCount, (nI (rg_n g)), h_makingCount, h_usefulRules, h_stateCount, h_wideCount, h_useCount, h_result, b_ops, b_firsts, b_seconds, b_sizes, b_stack, b_roots, b_text, b_ends, b_tokenKinds, b_tokenSizes, b_letters, b_begins, b_closes, b_empties, b_nexts, b_sets, b_leads, b_classes, b_newClasses, b_lefts, b_rights, b_counts, b_making, b_firstSets, b_followSets, b_states, b_looks, b_wides, b_work, b_met, b_tasks, b_held, b_uses, b_reach) := by
  have h9 := hg.1
  refine yw_findUseful (h_usefulRules := h_usefulRules) hg hG (fun u hU => ?_)
  refine loop_0 (fun f i s => wY_findSets_6 post h_made h_depth h_length h_tokenCount h_wrong h_letterCount (nI (rg_n g)) h_makingCount u h_stateCount h_wideCount h_useCount h_result f (nI i) b_ops b_firsts b_seconds b_sizes b_stack b_roots b_text b_ends b_tokenKinds b_tokenSizes b_letters b_begins b_closes b_empties b_nexts b_sets b_leads b_classes b_newClasses b_lefts b_rights b_counts b_making s.1 s.2 b_states b_looks b_wides b_work b_met b_tasks b_held b_uses b_reach) (fun i s => (∀ s', s' < i → ∀ b, bt (s.1 s') b = true ↔ s' < 3 ∧ b = s') ∧ (∀ s', s' < i → ∀ b, bt (s.2 s') b = true ↔ s' = 3 ∧ b = 3)) 7 (b_firstSets, b_followSets) ⟨fun s' hs => absurd hs (Nat.not_lt_zero s'), fun s' hs => absurd hs (Nat.not_lt_zero s')⟩ ?_ ?_
  · rintro f ⟨s, w⟩ ⟨hs, hw⟩
    have hs : ∀ s', s' < 7 → ∀ b, bt (s s') b = true ↔ s' < 3 ∧ b = s' := hs
    have hw : ∀ s', s' < 7 → ∀ b, bt (w s') b = true ↔ s' = 3 ∧ b = 3 := hw
    refine br_t (nI_le (Nat.le_refl 7) (by decide)) ?_
    refine loop_0 (fun f n s => wY_findSets_55 post h_made h_depth h_length h_tokenCount h_wrong h_letterCount (nI (rg_n g)) h_makingCount u h_stateCount h_wideCount h_useCount h_result f (nI n) b_ops b_firsts b_seconds b_sizes b_stack b_roots b_text b_ends b_tokenKinds b_tokenSizes b_letters b_begins b_closes b_empties b_nexts b_sets b_leads b_classes b_newClasses b_lefts b_rights b_counts b_making s w b_states b_looks b_wides b_work b_met b_tasks b_held b_uses b_reach) (fun n s => xb_I g 9 n s) 360 s ?_ ?_ ?_
    · refine ⟨fun s' b h7 hb => ?_, fun s' b h3 => ?_, fun s' b h7 hb => ?_, rd_i⟩
      · obtain ⟨_, rfl⟩ := (hs s' h7 b).mp hb; omega
      · rw [hs s' (by omega) b]; exact ⟨fun z => z.2, fun z => ⟨h3, z⟩⟩
      · obtain ⟨z, rfl⟩ := (hs s' h7 b).mp hb
        exact (fi_ok g).1 _ z
    · intro f a ha
      have hF := xb_end hg ha h9 (by omega)
      have h4 := ha.1
      refine br_t (nI_le (Nat.le_refl 360) (by decide)) ?_
      refine loop_0 (fun f n w => wY_findSets_112 post h_made h_depth h_length h_tokenCount h_wrong h_letterCount (nI (rg_n g)) h_makingCount u h_stateCount h_wideCount h_useCount h_result f (nI n) b_ops b_firsts b_seconds b_sizes b_stack b_roots b_text b_ends b_tokenKinds b_tokenSizes b_letters b_begins b_closes b_empties b_nexts b_sets b_leads b_classes b_newClasses b_lefts b_rights b_counts b_making a w b_states b_looks b_wides b_work b_met b_tasks b_held b_uses b_reach) (fun n w => yf_S g w ∧ rd_J 36 (yf_s g (xb_F a)) sx_c n w) 1440 w ?_ ?_ ?_
      · refine ⟨⟨fun s' b h7 hb => ?_, (hw 3 (by omega) 3).mpr ⟨rfl, rfl⟩⟩, rd_i⟩
        obtain ⟨rfl, rfl⟩ := (hw s' h7 b).mp hb
        exact (fo_self g).1
      · rintro f w ⟨w1, w2⟩
        exact br_t (nI_le (Nat.le_refl 1440) (by decide)) (h u a w hU hF h4 (yf_end hg hF w1 w2 (by omega)))
      · rintro f n w hn ⟨w1, w2⟩ hk
        have e1 : nI n / 4 - nI n / 4 / 9 * 9 = nI (n / 4 % 9) := by
          rw [show nI n / 4 = nI (n / 4) from pk_div (d := 4) (by omega) (by decide) (by decide)]
          exact pk_rem (d := 9) (by omega) (by decide) (by decide)
        have e2 : nI n - nI n / 4 * 4 = nI (n % 4) := pk_rem (d := 4) (by omega) (by decide) (by decide)
        have k1 : n % 36 / 4 = n / 4 % 9 := by omega
        have k2 : n % 36 % 4 = n % 4 := by omega
        have skip : (us_U g (n / 4 % 9) → n % 4 < rg_c g (n / 4 % 9) → False) → yf_S g w ∧ rd_J 36 (yf_s g (xb_F a)) sx_c (n + 1) w := by
          intro z
          refine ⟨w1, rd_keep (by omega) w2 ?_⟩
          unfold yf_s
          rw [k1, k2]
          exact fun a b => (z a b).elim
        refine br_f (nI_ge hn (by decide)) ⟨by decide, by decide, nm_r e1 ⟨by decide, nm_r e2 (br_c (fun z => ?_) (fun z => ?_))⟩⟩
        · have z := (hU _).mp ((b_test u (n := n / 4 % 9) (by omega)).mp z)
          obtain ⟨g1, g2, g3⟩ := hG (n / 4 % 9) (Or.inl z.1)
          have l := hg.2.1 _ z.1
          have cr : (nI (n / 4 % 9)).toNatClampNeg = n / 4 % 9 := nI_clamp (by omega)
          have cl : (nI (rg_l g (n / 4 % 9))).toNatClampNeg = rg_l g (n / 4 % 9) := nI_clamp (by omega)
          refine br_f (by decide) ⟨vp_in_nI (by omega) (by decide), ?_⟩
          rw [cr, g2, g1]
          refine pk_le (rg_c g (n / 4 % 9)) (n % 4) (fun y => ?_) (fun y => ?_)
          · exact nm_r (nI_1 n) (hk w (skip fun _ y' => by omega))
          · have hh := l.2.2.2 _ y
            have ch : (nI (rg_h g (n / 4 % 9) (n % 4))).toNatClampNeg = rg_h g (n / 4 % 9) (n % 4) := nI_clamp (by omega)
            have fin : ∀ x : Int32, (∀ b, bt x b = true ↔ (b < 3 ∧ xf_R g (xb_F a) (n / 4 % 9) (n % 4) b) ∨ (xf_R g (xb_F a) (n / 4 % 9) (n % 4) 3 ∧ bt (w (rg_l g (n / 4 % 9))) b = true)) → wY_findSets_188 post (wY_findSets_112 post h_made h_depth h_length h_tokenCount h_wrong h_letterCount (nI (rg_n g)) h_makingCount u h_stateCount h_wideCount h_useCount h_result f) (nI n) (nI (n / 4 % 9)) (nI (n % 4)) x h_made h_depth h_length h_tokenCount h_wrong h_letterCount (nI (rg_n g)) h_makingCount u h_stateCount h_wideCount h_useCount h_result b_ops b_firsts b_seconds b_sizes b_stack b_roots b_text b_ends b_tokenKinds b_tokenSizes b_letters b_begins b_closes b_empties b_nexts b_sets b_leads b_classes b_newClasses b_lefts b_rights b_counts b_making a w b_states b_looks b_wides b_work b_met b_tasks b_held b_uses b_reach := by
              intro x hx
              have ixx := ix_l4 (n / 4 % 9) (n % 4)
              refine ⟨pk_in _ 40 (by omega) ixx, pk_in _ 40 (by omega) ixx, ?_⟩
              rw [pk_cl _ ixx, g3 _ y]
              refine ⟨vp_in_nI hh (by decide), vp_in_nI hh (by decide), nm_r (by rw [ch]) (nm_r (nI_1 n) (hk _ ?_))⟩
              have e : ∀ v b, bt (upd w (rg_h g (n / 4 % 9) (n % 4)) (w (rg_h g (n / 4 % 9) (n % 4)) ||| x) v) b = true ↔ bt (w v) b = true ∨ (v = rg_h g (n / 4 % 9) (n % 4) ∧ bt x b = true) := by
                intro v b
                by_cases q : v = rg_h g (n / 4 % 9) (n % 4)
                · subst q
                  rw [pk_us, b_or, Bool.or_eq_true]
                  exact ⟨fun y => y.imp id (fun y => ⟨rfl, y⟩), fun y => y.imp id (fun y => y.2)⟩
                · rw [pk_un q]
                  exact ⟨Or.inl, fun y => by
                    rcases y with y | y
                    · exact y
                    · exact absurd y.1 q⟩
              have snd : ∀ b, bt x b = true → fo_W g (rg_h g (n / 4 % 9) (n % 4)) b := by
                intro b hb
                have W := fo_self g
                have ee : ∀ b, xf_R g (xb_F a) (n / 4 % 9) (n % 4) b ↔ fs_b (fi_F g) (rg_h g (n / 4 % 9)) (rg_c g (n / 4 % 9) - (n % 4 + 1)) (n % 4 + 1) b := fun b => fs_iff7 l.2.2.2 hF _ _ _ (by omega)
                rcases (hx b).mp hb with ⟨q1, q2⟩ | ⟨q1, q2⟩
                · exact (W.2 _ _ z y).1 b q1 ((ee b).mp q2)
                · exact (W.2 _ _ z y).2 ((ee 3).mp q1) b (w1.1 _ _ l.2.1 q2)
              refine ⟨⟨fun v b hv hb => ?_, (e 3 3).mpr (Or.inl w1.2)⟩, ?_⟩
              · rcases (e v b).mp hb with q | ⟨rfl, q⟩
                · exact w1.1 v b hv q
                · exact snd b q
              · by_cases q : ∀ b, bt x b = true → bt (w (rg_h g (n / 4 % 9) (n % 4))) b = true
                · have es : upd w (rg_h g (n / 4 % 9) (n % 4)) (w (rg_h g (n / 4 % 9) (n % 4)) ||| x) = w := by
                    funext v
                    apply b_ext
                    intro b _
                    cases c1 : bt (w v) b
                    · cases c2 : bt (upd w (rg_h g (n / 4 % 9) (n % 4)) (w (rg_h g (n / 4 % 9) (n % 4)) ||| x) v) b
                      · rfl
                      · rcases (e v b).mp c2 with k | ⟨rfl, k⟩
                        · rw [c1] at k; cases k
                        · rw [q b k] at c1; cases c1
                    · exact (e v b).mpr (Or.inl c1)
                  rw [es]
                  refine rd_keep (by omega) w2 ?_
                  unfold yf_s
                  rw [k1, k2]
                  exact fun _ _ => ⟨fun b b3 hR => q b ((hx b).mpr (Or.inl ⟨b3, hR⟩)), fun hR b hb => q b ((hx b).mpr (Or.inr ⟨hR, hb⟩))⟩
                · refine rd_grow (by omega) w2 (fun hs => q fun b hb => ?_) ?_
                  · unfold yf_s at hs
                    rw [k1, k2] at hs
                    have hs := hs z y
                    rcases (hx b).mp hb with ⟨q1, q2⟩ | ⟨q1, q2⟩
                    · exact hs.1 b q1 q2
                    · exact hs.2 q1 b q2
                  · have : ∃ b, bt x b = true ∧ ¬ bt (w (rg_h g (n / 4 % 9) (n % 4))) b = true := by
                      refine Classical.byContradiction fun k => q fun b hb => ?_
                      exact Classical.byContradiction fun k2 => k ⟨b, hb, k2⟩
                    obtain ⟨b, q1, q2⟩ := this
                    exact sx_lt hh (by have := fo_rng (snd b q1); omega) q2 ((e _ _).mpr (Or.inr ⟨rfl, q1⟩)) (fun s b _ hb => (e s b).mpr (Or.inl hb))
            rw [nI_1]
            refine yw_firstFrom hg hG h4 (Or.inl z.1) (by omega) (fun x hx => br_c (fun q => ?_) (fun q => ?_))
            · have q := (b_and8 _).mp q
              refine fin _ fun b => ?_
              rw [hx b]
              constructor
              · intro k
                refine Or.inl ⟨?_, k⟩
                have k3 := fs_le _ _ _ k
                have : b ≠ 3 := fun e => by rw [e] at k; rw [(hx 3).mpr k] at q; cases q
                omega
              · rintro (⟨_, k⟩ | ⟨k, _⟩)
                · exact k
                · rw [(hx 3).mpr k] at q; cases q
            · have q : bt x 3 = true := ts_nf fun k => q ((b_and8 _).mpr k)
              refine ⟨vp_in_nI (by omega) (by decide), vp_in_nI l.2.1 (by decide), ?_⟩
              refine fin _ fun b => ?_
              rw [cl, b_or, Bool.or_eq_true, b_and, Bool.and_eq_true, b_7b, decide_eq_true_eq, hx b]
              constructor
              · rintro (⟨k1, k2⟩ | k)
                · exact Or.inl ⟨k2, k1⟩
                · exact Or.inr ⟨(hx 3).mp q, k⟩
              · rintro (⟨k1, k2⟩ | ⟨_, k⟩)
                · exact Or.inl ⟨k2, k1⟩
                · exact Or.inr k
        · have z : ¬ us_U g (n / 4 % 9) := fun y => z ((b_test u (by omega)).mpr ((hU _).mpr y))
          exact br_t rfl (nm_r (nI_1 n) (hk w (skip fun y => absurd y z)))
    · intro f n s hn hs hk
      have e1 : nI n - nI n / 9 * 9 = nI (n % 9) := pk_rem (d := 9) (by omega) (by decide) (by decide)
      refine br_f (nI_ge hn (by decide)) ⟨by decide, nm_r e1 (br_c (fun z => ?_) (fun z => ?_))⟩
      · have z := (hU _).mp ((b_test u (n := n % 9) (by omega)).mp z)
        obtain ⟨g1, g2, g3⟩ := hG (n % 9) (Or.inl z.1)
        have l := hg.2.1 _ z.1
        have cr : (nI (n % 9)).toNatClampNeg = n % 9 := nI_clamp (by omega)
        have cl : (nI (rg_l g (n % 9))).toNatClampNeg = rg_l g (n % 9) := nI_clamp (by omega)
        refine br_f (by decide) ⟨vp_in_nI (by omega) (by decide), vp_in_nI (by omega) (by decide), ?_⟩
        rw [cr, g1]
        refine ⟨vp_in_nI l.2.1 (by decide), yw_firstFrom (p := 0) hg hG hs.1 (Or.inl z.1) (Nat.zero_le _) (fun x hx => ⟨vp_in_nI l.2.1 (by decide), nm_r (by rw [cl]) (nm_r (nI_1 n) (hk _ ?_))⟩)⟩
        exact xb_step hg hs (by omega) rfl z hx
      · have z : ¬ us_U g (n % 9) := fun y => z ((b_test u (by omega)).mpr ((hU _).mpr y))
        exact br_t rfl (nm_r (nI_1 n) (hk _ ⟨hs.1, hs.2.1, hs.2.2.1, rd_keep (by omega) hs.2.2.2 (fun y => absurd y z)⟩))
  · rintro f i ⟨s, w⟩ hi ⟨hs, hw⟩ hk
    have hs : ∀ s', s' < i → ∀ b, bt (s s') b = true ↔ s' < 3 ∧ b = s' := hs
    have hw : ∀ s', s' < i → ∀ b, bt (w s') b = true ↔ s' = 3 ∧ b = 3 := hw
    have ci : (nI i).toNatClampNeg = i := nI_clamp (by omega)
    have fin : ∀ x : Int32, (∀ b, bt x b = true ↔ i < 3 ∧ b = i) → wY_findSets_29 post (wY_findSets_6 post h_made h_depth h_length h_tokenCount h_wrong h_letterCount (nI (rg_n g)) h_makingCount u h_stateCount h_wideCount h_useCount h_result f) (nI i) x (nI i) h_made h_depth h_length h_tokenCount h_wrong h_letterCount (nI (rg_n g)) h_makingCount u h_stateCount h_wideCount h_useCount h_result b_ops b_firsts b_seconds b_sizes b_stack b_roots b_text b_ends b_tokenKinds b_tokenSizes b_letters b_begins b_closes b_empties b_nexts b_sets b_leads b_classes b_newClasses b_lefts b_rights b_counts b_making s w b_states b_looks b_wides b_work b_met b_tasks b_held b_uses b_reach := by
      intro x hx
      have h1 : ∀ s', s' < i + 1 → ∀ b, bt (upd s i x s') b = true ↔ s' < 3 ∧ b = s' := by
        intro s' h1 b
        by_cases e : s' = i
        · subst e; rw [pk_us]; exact hx b
        · rw [pk_un e]; exact hs s' (by omega) b
      refine ⟨vp_in_nI hi (by decide), nm_r (e' := upd s i x) (by rw [ci]) (pk_eq i 3 (fun z => ⟨vp_in_nI hi (by decide), nm_r (e' := upd w i 8) (by rw [ci]) (nm_r (nI_1 i) (hk (upd s i x, upd w i 8) ⟨h1, fun s' h2 b => ?_⟩))⟩) (fun z => ⟨vp_in_nI hi (by decide), nm_r (e' := upd w i 0) (by rw [ci]) (nm_r (nI_1 i) (hk (upd s i x, upd w i 0) ⟨h1, fun s' h2 b => ?_⟩))⟩))⟩
      · by_cases e : s' = i
        · subst e
          show bt (upd w s' 8 s') b = true ↔ _
          rw [pk_us, b_8b, decide_eq_true_eq]
          exact ⟨fun y => ⟨z, y⟩, fun y => y.2⟩
        · show bt (upd w i 8 s') b = true ↔ _
          rw [pk_un e]; exact hw s' (by omega) b
      · by_cases e : s' = i
        · subst e
          show bt (upd w s' 0 s') b = true ↔ _
          rw [pk_us, b_0]
          exact ⟨(fun y => by cases y), fun y => absurd y.1 z⟩
        · show bt (upd w i 0 s') b = true ↔ _
          rw [pk_un e]; exact hw s' (by omega) b
    refine br_f (nI_ge hi (by decide)) (pk_le 3 i (fun z => fin 0 fun b => ?_) (fun z => fin _ fun b => ?_))
    · rw [b_0]; exact ⟨(fun y => by cases y), fun y => by omega⟩
    · rw [b_one _ (by omega), decide_eq_true_eq]; exact ⟨fun y => ⟨z, y⟩, fun y => y.2⟩
end
