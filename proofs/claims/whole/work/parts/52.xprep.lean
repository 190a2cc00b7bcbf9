/-! the component's grade, and all that prepare finds -/
variable {f_depth f_made f_textLength f_tokenCount f_wrongPlace f_ruleCount f_prepared f_rulesInUse f_stateCount f_wideCount f_gradeFound f_readHeight f_tokensTaken f_usedCount : Int32} {a_spotCounts a_ends a_arrows a_takers a_groups a_marks a_text a_tokenKinds a_tokenLengths a_lefts a_rights a_rightSizes a_beginSets a_followSets a_stateSteps a_wideSteps a_readStates a_readValues a_usedRules : Nat → Int32} {a_nextItems a_openItems a_restItems a_stateItems a_stateLooks a_wideLooks : Nat → Int64}
section
variable {g : rg_T}
/-- the list of all members, gone through -/
def bf_fin {α : Type} (a0 : α) (to : α → Nat → Option α) (f : Nat → α) (n : Nat) : Prop := ∃ k, bf_at a0 to k = (f, n) ∧ n * 7 ≤ k
theorem bf_one {α : Type} {a0 : α} {to : α → Nat → Option α} {f f' : Nat → α} {n n' : Nat} (h : bf_fin a0 to f n) (h' : bf_fin a0 to f' n') : f = f' ∧ n = n' := by
  obtain ⟨k, e, hk⟩ := h
  obtain ⟨k', e', hk'⟩ := h'
  have s1 := bf_stop (a0 := a0) (to := to) (k := k) (by rw [e]; exact hk) k'
  have s2 := bf_stop (a0 := a0) (to := to) (k := k') (by rw [e']; exact hk') k
  rw [Nat.add_comm k' k, s1, e, e'] at s2
  exact ⟨congrArg Prod.fst s2, congrArg Prod.snd s2⟩
theorem bf_big {α : Type} {a0 : α} {to : α → Nat → Option α} {f : Nat → α} {n k : Nat} (h : bf_fin a0 to f n) : (bf_at a0 to k).2 ≤ n := by
  obtain ⟨k', e, hk'⟩ := h
  have s1 := bf_stop (a0 := a0) (to := to) (k := k') (by rw [e]; exact hk') k
  have m := (bf_mono (a0 := a0) (to := to) k k').1
  rw [Nat.add_comm k k', s1, e] at m
  exact m
theorem fin_full {f : Nat → Int64} {n : Nat} (h : bf_fin (tb_a0 g) (tb_to g) f n) : tb_full g f n := by
  obtain ⟨k, e, hk⟩ := h
  have := bf_full (a0 := tb_a0 g) (to := tb_to g) (k := k) (by rw [e]; exact hk)
  rw [e] at this
  exact this
theorem fin_fullw {f : Nat → w4_T} {n : Nat} (h : bf_fin (tw_a0 g) (tw_to g) f n) : tw_full g f n := by
  obtain ⟨k, e, hk⟩ := h
  have := bf_full (a0 := tw_a0 g) (to := tw_to g) (k := k) (by rw [e]; exact hk)
  rw [e] at this
  exact this
/-- the wide states: too many, or all -/
def wz_L (g : rg_T) : Prop := ∃ k, 80 < (wb_B g k).2
def gd_R (g : rg_T) (f : Nat → Int64) (n : Nat) (r : Int32) : Prop :=
  (¬ cs_0 g f n ∧ r = 0) ∨ (cs_0 g f n ∧ ¬ cs_1 g f n ∧ r = 1) ∨ (cs_0 g f n ∧ cs_1 g f n ∧ ¬ cs_2 g f n ∧ r = 2) ∨ (cs_0 g f n ∧ cs_1 g f n ∧ cs_2 g f n ∧ wz_L g ∧ r = -5) ∨
  (cs_0 g f n ∧ cs_1 g f n ∧ cs_2 g f n ∧ ∃ fw nw, bf_fin (tw_a0 g) (tw_to g) fw nw ∧ nw ≤ 80 ∧ ((¬ cs_3 g fw nw ∧ r = 3) ∨ (cs_3 g fw nw ∧ r = 4)))
theorem gd_one {f : Nat → Int64} {n : Nat} {r r' : Int32} (h : gd_R g f n r) (h' : gd_R g f n r') : r = r' := by
  have nl : ∀ fw nw, bf_fin (tw_a0 g) (tw_to g) fw nw → nw ≤ 80 → ¬ wz_L g := by
    intro fw nw h1 h2 ⟨k, hk⟩
    have := bf_big (k := k) h1
    have hk : 80 < (bf_at (tw_a0 g) (tw_to g) k).2 := hk
    omega
  rcases h with ⟨a1, e⟩ | ⟨a1, a2, e⟩ | ⟨a1, a2, a3, e⟩ | ⟨a1, a2, a3, a4, e⟩ | ⟨a1, a2, a3, fw, nw, a4, a5, a6⟩ <;>
  rcases h' with ⟨b1, e'⟩ | ⟨b1, b2, e'⟩ | ⟨b1, b2, b3, e'⟩ | ⟨b1, b2, b3, b4, e'⟩ | ⟨b1, b2, b3, fw', nw', b4, b5, b6⟩ <;>
  first
  | exact e.trans e'.symm
  | exact absurd b1 a1
  | exact absurd a1 b1
  | exact absurd b2 a2
  | exact absurd a2 b2
  | exact absurd b3 a3
  | exact absurd a3 b3
  | exact absurd a4 (nl _ _ b4 b5)
  | exact absurd b4 (nl _ _ a4 a5)
  | (obtain ⟨rfl, rfl⟩ := bf_one a4 b4
     rcases a6 with ⟨q1, q2⟩ | ⟨q1, q2⟩ <;> rcases b6 with ⟨p1, p2⟩ | ⟨p1, p2⟩ <;> first | exact q2.trans p2.symm | exact absurd p1 q1 | exact absurd q1 p1)
theorem ck_0 {S : Int64} {t : Nat} : ck_x g (fun _ => S) t ↔ cs_x g (fun k => bl S k = true) (fun _ _ => True) t := by
  constructor
  · rintro (⟨k, k', h1, h2, h3, h4, h5, h6, h7⟩ | ⟨h1, k, k', h2, h3, h4, ⟨u, h5, h6⟩, h7⟩)
    · exact Or.inl ⟨k, k', h1, h4, h5, trivial, trivial, h6, h7⟩
    · exact Or.inr ⟨h1, k, k', h3, trivial, h4, h6, h7⟩
  · rintro (⟨k, k', h1, h2, h3, h4, h5, h6, h7⟩ | ⟨h1, k, k', h2, h3, h4, h5, h7⟩)
    · exact Or.inl ⟨k, k', h1, ⟨0, by omega, h2⟩, ⟨0, by omega, h3⟩, h2, h3, h6, h7⟩
    · exact Or.inr ⟨h1, k, k', ⟨0, by omega, h2⟩, h2, h4, ⟨0, by omega, h5⟩, h7⟩
theorem ck_1 {S : Int64} {L : Nat → Int64} (hS : tb_io g S) (hL : ∀ u, u < 4 → ∀ k, bl (L u) k = true ↔ bl S k = true ∧ (k % 5 = rg_c g (k / 5) → cs_C1 g u k)) {t : Nat} (ht : t < 4) : ck_x g L t ↔ cs_x g (fun k => bl S k = true) (cs_C1 g) t := by
  constructor
  · rintro (⟨k, k', h1, h2, h3, h4, h5, h6, h7⟩ | ⟨h1, k, k', h2, h3, h4, ⟨u, h5, h6⟩, h7⟩)
    · have q1 := (hL t ht k).mp h4
      have q2 := (hL t ht k').mp h5
      exact Or.inl ⟨k, k', h1, q1.1, q2.1, q1.2 h6, q2.2 h7, h6, h7⟩
    · have q1 := (hL t ht k).mp h3
      exact Or.inr ⟨h1, k, k', q1.1, q1.2 h4, h4, ((hL u h5 k').mp h6).1, h7⟩
  · rintro (⟨k, k', h1, h2, h3, h4, h5, h6, h7⟩ | ⟨h1, k, k', h2, h3, h4, h5, h7⟩)
    · have q1 := (hL t ht k).mpr ⟨h2, fun _ => h4⟩
      have q2 := (hL t ht k').mpr ⟨h3, fun _ => h5⟩
      exact Or.inl ⟨k, k', h1, ⟨t, ht, q1⟩, ⟨t, ht, q2⟩, q1, q2, h6, h7⟩
    · have q1 := (hL t ht k).mpr ⟨h2, fun _ => h3⟩
      refine Or.inr ⟨h1, k, k', ⟨t, ht, q1⟩, q1, h4, ⟨t, ht, (hL t ht k').mpr ⟨h5, fun e => ?_⟩⟩, h7⟩
      have := h7.1
      omega
theorem ck_2 (hg : rg_ok g) (hu : ∃ r, us_U g r) {f : Nat → Int64} {n : Nat} (hf : tb_full g f n) {s : Nat} (hs : s < n) {L : Nat → Int64} (hL : ∀ u, u < 4 → ∀ k, bl (L u) k = true ↔ la_L g f n s u k) {t : Nat} (ht : t < 4) : ck_x g L t ↔ cs_x g (fun k => bl (f s) k = true) (la_L g f n s) t := by
  constructor
  · rintro (⟨k, k', h1, h2, h3, h4, h5, h6, h7⟩ | ⟨h1, k, k', h2, h3, h4, ⟨u, h5, h6⟩, h7⟩)
    · have q1 := (hL t ht k).mp h4
      have q2 := (hL t ht k').mp h5
      exact Or.inl ⟨k, k', h1, (la_in hg hf q1).2.1, (la_in hg hf q2).2.1, q1, q2, h6, h7⟩
    · have q1 := (hL t ht k).mp h3
      exact Or.inr ⟨h1, k, k', (la_in hg hf q1).2.1, q1, h4, (la_in hg hf ((hL u h5 k').mp h6)).2.1, h7⟩
  · rintro (⟨k, k', h1, h2, h3, h4, h5, h6, h7⟩ | ⟨h1, k, k', h2, h3, h4, h5, h7⟩)
    · have q1 := (hL t ht k).mpr h4
      have q2 := (hL t ht k').mpr h5
      exact Or.inl ⟨k, k', h1, ⟨t, ht, q1⟩, ⟨t, ht, q2⟩, q1, q2, h6, h7⟩
    · have q1 := (hL t ht k).mpr h3
      obtain ⟨u, hu⟩ := la_ex hg hu hf hs h5
      have u4 : u < 4 := by have := (la_in hg hf hu).2.2.1; omega
      exact Or.inr ⟨h1, k, k', ⟨t, ht, q1⟩, q1, h4, ⟨u, u4, (hL u u4 k').mpr hu⟩, h7⟩
/-- the wide tables, as the component holds them -/
def xz_T (g : rg_T) (cnt : Int32) (arr : Nat → Int64) (steps : Nat → Int32) : Prop := (cnt = -5 ∧ wz_L g) ∨ ∃ f n, bf_fin (tw_a0 g) (tw_to g) f n ∧ n ≤ 80 ∧ cnt = nI n ∧ (∀ i, i < n → xz_w arr i = f i) ∧ ∀ s x, s < n → x < 7 → xt_1 (tw_to g) f n (steps (s * 7 + x)) s x
theorem xz_to {cnt : Int32} {arr : Nat → Int64} {steps : Nat → Int32} (h : xz_ok g cnt arr steps) : xz_T g cnt arr steps := by
  rcases h with ⟨h1, h2⟩ | ⟨k, n, ⟨h1, h2, h3⟩, h4, h5, h6⟩
  · exact Or.inl ⟨h1, h2⟩
  · refine Or.inr ⟨(wb_B g k).1, n, ⟨k, ?_, h5⟩, h4, h6, h2, fun s x hs hx => ?_⟩
    · rw [← h1]; rfl
    · have := h3 (s * 7 + x) (by omega) (by omega)
      rw [show (s * 7 + x) / 7 = s by omega, show (s * 7 + x) % 7 = x by omega] at this
      exact this
/-- the tables of the states, as the component holds them -/
def xt_T (g : rg_T) (f : Nat → Int64) (n : Nat) (items : Nat → Int64) (steps : Nat → Int32) : Prop := bf_fin (tb_a0 g) (tb_to g) f n ∧ n ≤ 60 ∧ (∀ i, i < n → items i = f i) ∧ ∀ s x, s < n → x < 7 → xt_1 (tb_to g) f n (steps (s * 7 + x)) s x
theorem xt_to {cnt : Int32} {items : Nat → Int64} {steps : Nat → Int32} (h : xt_ok g cnt items steps) : (cnt = -5 ∧ ∃ k, 60 < (sb_B g k).2) ∨ ∃ f n, xt_T g f n items steps ∧ cnt = nI n := by
  rcases h with ⟨h1, h2⟩ | ⟨k, n, ⟨h1, h2, h3⟩, h4, h5, h6⟩
  · exact Or.inl ⟨h1, h2⟩
  · refine Or.inr ⟨(sb_B g k).1, n, ⟨⟨k, ?_, h5⟩, h4, h2, fun s x hs hx => ?_⟩, h6⟩
    · rw [← h1]; rfl
    · have := h3 (s * 7 + x) (by omega) (by omega)
      rw [show (s * 7 + x) / 7 = s by omega, show (s * 7 + x) % 7 = x by omega] at this
      exact this
theorem xw_findGrade (hg : rg_ok g) (hG : xg_G g a_lefts a_rights a_rightSizes) (hU : xg_U g f_rulesInUse) (hI : xi_I g 10 a_nextItems a_openItems a_restItems) (hW : xf_ok g a_followSets) (hu : ∃ r, us_U g r) {f : Nat → Int64} {n : Nat} (hT : xt_T g f n a_stateItems a_stateSteps) (hZ : xz_T g f_wideCount a_wideLooks a_wideSteps) {post : Int32 → SX → Prop}
    (h : ∀ A r, sp_ok g f n A → gd_R g f n r → post r (f_depth, f_made, f_textLength, f_tokenCount, f_wrongPlace, f_ruleCount, f_prepared, f_rulesInUse, (nI n), f_wideCount, f_gradeFound, f_readHeight, f_tokensTaken, f_usedCount, a_spotCounts, a_ends, a_arrows, a_takers, a_groups, a_marks, a_text, a_tokenKinds, a_tokenLengths, a_lefts, a_rights, a_rightSizes, a_beginSets, a_followSets, a_nextItems, a_openItems, a_restItems, a_stateItems, a_stateSteps, A, a_wideSteps, a_wideLooks, a_readStates, a_readValues, a_usedRules)) : wpX_findGrade post (f_depth, f_made, f_textLength, f_tokenCount, f_wrongPlace, f_ruleCount, f_prepared, f_rulesInUse, (nI n), f_wideCount, f_gradeFound, f_readHeight, f_tokensTaken, f_usedCount, a_spotCounts, a_ends, a_arrows, a_takers, a_groups, a_marks, a_text, a_tokenKinds, a_tokenLengths, a_lefts, a_rights, a_rightSizes, a_beginSets, a_followSets, a_nextItems, a_openItems, a_restItems, a_stateItems, a_stateSteps, a_stateLooks, a_wideSteps, a_wideLooks, a_readStates, a_readValues, a_usedRules) := by
  obtain ⟨hfin, hn, hit, hst⟩ := hT
  have hf := fin_full hfin
  -- the end, when all three are known
  have last : ∀ (A : Nat → Int64) (x y z : Int32), sp_ok g f n A → (x = 0 ↔ cs_0 g f n) → (y = 0 ↔ cs_1 g f n) → (z = 0 ↔ cs_2 g f n) → wX_findGrade_112 post x y z f_depth f_made f_textLength f_tokenCount f_wrongPlace f_ruleCount f_prepared f_rulesInUse (nI n) f_wideCount f_gradeFound f_readHeight f_tokensTaken f_usedCount a_spotCounts a_ends a_arrows a_takers a_groups a_marks a_text a_tokenKinds a_tokenLengths a_lefts a_rights a_rightSizes a_beginSets a_followSets a_nextItems a_openItems a_restItems a_stateItems a_stateSteps A a_wideSteps a_wideLooks a_readStates a_readValues a_usedRules := by
    intro A x y z hA hx hy hz
    refine br_c (fun e1 => br_c (fun e2 => br_c (fun e3 => ?_) (fun e3 => ?_)) (fun e2 => ?_)) (fun e1 => ?_)
    · have c0 := hx.mp e1
      have c1 := hy.mp e2
      have c2 := hz.mp e3
      rcases hZ with ⟨w1, w2⟩ | ⟨fw, nw, w1, w2, w3, w4, w5⟩
      · exact br_t w1 (h A _ hA (Or.inr (Or.inr (Or.inr (Or.inl ⟨c0, c1, c2, w2, rfl⟩)))))
      · have hfw := fin_fullw w1
        refine br_f (by rw [w3]; exact ne_neg (by omega) (by decide)) ?_
        rw [w3] at h ⊢
        have eL : ∀ s, s < nw → ∀ u, u < 4 → a_wideLooks (s * 4 + u) = w4_t (fw s) u := by
          intro s hs u hu
          rw [← w4 s hs]
          unfold xz_w
          rw [w4_tm hu]
        have eC : ∀ s t, s < nw → t < 4 → (ck_x g (fun u => a_wideLooks (s * 4 + u)) t ↔ cs_x g (fun k => ∃ u, u < 4 ∧ bl (w4_t (fw s) u) k = true) (fun t k => bl (w4_t (fw s) t) k = true) t) := by
          intro s t hs ht
          have e1 : (fun k => ∃ u, u < 4 ∧ bl (a_wideLooks (s * 4 + u)) k = true) = fun k => ∃ u, u < 4 ∧ bl (w4_t (fw s) u) k = true := by
            funext k
            refine propext ⟨fun ⟨u, q1, q2⟩ => ⟨u, q1, by rw [← eL s hs u q1]; exact q2⟩, fun ⟨u, q1, q2⟩ => ⟨u, q1, by rw [eL s hs u q1]; exact q2⟩⟩
          unfold ck_x
          rw [e1]
          have q := eL s hs t ht
          constructor
          · refine cs_mono fun k _ _ z => ?_
            show bl (w4_t (fw s) t) k = true
            rw [← q]; exact z
          · refine cs_mono fun k _ _ z => ?_
            show bl (a_wideLooks (s * 4 + t)) k = true
            rw [q]; exact z
        refine xw_clashes_wideLooks hg hI (by omega) (fun s u hs hu k hk => ?_) (fun q => br_t rfl (h A _ hA (Or.inr (Or.inr (Or.inr (Or.inr ⟨c0, c1, c2, fw, nw, w1, w2, Or.inl ⟨?_, rfl⟩⟩)))))) (fun q => br_f (by decide) (h A _ hA (Or.inr (Or.inr (Or.inr (Or.inr ⟨c0, c1, c2, fw, nw, w1, w2, Or.inr ⟨?_, rfl⟩⟩))))))
        · rw [eL s hs u hu] at hk
          exact (tw_fio hg hfw hs u k hu hk).1
        · rintro ⟨s, t, q1, q2, q3⟩
          exact q ⟨s, t, q1, q2, (eC s t q1 q2).mpr q3⟩
        · obtain ⟨s, t, q1, q2, q3⟩ := q
          exact ⟨s, t, q1, q2, (eC s t q1 q2).mp q3⟩
    · exact h A _ hA (Or.inr (Or.inr (Or.inl ⟨hx.mp e1, hy.mp e2, fun q => e3 (hz.mpr q), rfl⟩)))
    · exact h A _ hA (Or.inr (Or.inl ⟨hx.mp e1, fun q => e2 (hy.mpr q), rfl⟩))
    · exact h A _ hA (Or.inl ⟨fun q => e1 (hx.mpr q), rfl⟩)
  have two : ∀ (B : Nat → Int64) (x y : Int32), (x = 0 ↔ cs_0 g f n) → (y = 0 ↔ cs_1 g f n) → wX_findGrade_87 post x y f_depth f_made f_textLength f_tokenCount f_wrongPlace f_ruleCount f_prepared f_rulesInUse (nI n) f_wideCount f_gradeFound f_readHeight f_tokensTaken f_usedCount a_spotCounts a_ends a_arrows a_takers a_groups a_marks a_text a_tokenKinds a_tokenLengths a_lefts a_rights a_rightSizes a_beginSets a_followSets a_nextItems a_openItems a_restItems a_stateItems a_stateSteps B a_wideSteps a_wideLooks a_readStates a_readValues a_usedRules := by
    intro B x y hx hy
    refine xw_spreadLooks (a_stateLooks := B) hg hI hn hf hst (fun A hA => ?_)
    have eC : (∃ s t, s < n ∧ t < 4 ∧ ck_x g (fun u => A (s * 4 + u)) t) ↔ cs_2 g f n := by
      constructor
      · rintro ⟨s, t, q1, q2, q3⟩
        exact ⟨s, t, q1, q2, (ck_2 hg hu hf q1 (fun u hu k => hA s u k q1 hu) q2).mp q3⟩
      · rintro ⟨s, t, q1, q2, q3⟩
        exact ⟨s, t, q1, q2, (ck_2 hg hu hf q1 (fun u hu k => hA s u k q1 hu) q2).mpr q3⟩
    refine xw_clashes_stateLooks (a_stateLooks := A) hg hI (by omega) (fun s u hs hu k hk => tb_fio hg hf hs k (la_in hg hf ((hA s u k hs hu).mp hk)).2.1) (fun q => br_t rfl (last A x y 1 hA hx hy ⟨fun e => absurd e (by decide), fun e => absurd (eC.mpr e) q⟩)) (fun q => br_f (by decide) (last A x y 0 hA hx hy ⟨fun _ => eC.mp q, fun _ => rfl⟩))
  have one : ∀ (B : Nat → Int64) (x : Int32), (x = 0 ↔ cs_0 g f n) → ∃ fu, wX_findGrade_44 post x fu 0 f_depth f_made f_textLength f_tokenCount f_wrongPlace f_ruleCount f_prepared f_rulesInUse (nI n) f_wideCount f_gradeFound f_readHeight f_tokensTaken f_usedCount a_spotCounts a_ends a_arrows a_takers a_groups a_marks a_text a_tokenKinds a_tokenLengths a_lefts a_rights a_rightSizes a_beginSets a_followSets a_nextItems a_openItems a_restItems a_stateItems a_stateSteps B a_wideSteps a_wideLooks a_readStates a_readValues a_usedRules := by
    intro B x hx
    refine loop_0 (fun fu t A => wX_findGrade_44 post x fu (nI t) f_depth f_made f_textLength f_tokenCount f_wrongPlace f_ruleCount f_prepared f_rulesInUse (nI n) f_wideCount f_gradeFound f_readHeight f_tokensTaken f_usedCount a_spotCounts a_ends a_arrows a_takers a_groups a_marks a_text a_tokenKinds a_tokenLengths a_lefts a_rights a_rightSizes a_beginSets a_followSets a_nextItems a_openItems a_restItems a_stateItems a_stateSteps A a_wideSteps a_wideLooks a_readStates a_readValues a_usedRules) (fun t A => ∀ s u, s < n → u < t → ∀ k, bl (A (s * 4 + u)) k = true ↔ bl (f s) k = true ∧ (k % 5 = rg_c g (k / 5) → cs_C1 g u k)) 4 B (fun s u _ q => absurd q (Nat.not_lt_zero _)) ?_ ?_
    · intro fu A hA
      have eC : (∃ s t, s < n ∧ t < 4 ∧ ck_x g (fun u => A (s * 4 + u)) t) ↔ cs_1 g f n := by
        constructor
        · rintro ⟨s, t, q1, q2, q3⟩
          exact ⟨s, t, q1, q2, (ck_1 (tb_fio hg hf q1) (fun u hu k => hA s u q1 hu k) q2).mp q3⟩
        · rintro ⟨s, t, q1, q2, q3⟩
          exact ⟨s, t, q1, q2, (ck_1 (tb_fio hg hf q1) (fun u hu k => hA s u q1 hu k) q2).mpr q3⟩
      exact br_t (nI_le (Nat.le_refl 4) (by decide)) (xw_clashes_stateLooks (a_stateLooks := A) hg hI (by omega) (fun s u hs hu k hk => tb_fio hg hf hs k ((hA s u hs hu k).mp hk).1) (fun q => br_t rfl (two A x 1 hx ⟨fun e => absurd e (by decide), fun e => absurd (eC.mpr e) q⟩)) (fun q => br_f (by decide) (two A x 0 hx ⟨fun _ => eC.mp q, fun _ => rfl⟩)))
    · intro fu t A ht hA hk
      refine br_f (nI_ge ht (by decide)) (xw_followedItems (a_stateLooks := A) hg hG hU hI hW ht (fun m hm => xw_setStateLooks (a_stateLooks := A) hn ht m (fun C c1 c2 => nm_r (nI_1 t) (hk C fun s u hs hu k => ?_))))
      by_cases e : u = t
      · subst e
        rw [c1 s hs, hit s hs, bl_and, Bool.and_eq_true]
        constructor
        · rintro ⟨q1, q2⟩
          exact ⟨q1, (hm k (tb_fio hg hf hs k q1)).mp q2⟩
        · rintro ⟨q1, q2⟩
          exact ⟨q1, (hm k (tb_fio hg hf hs k q1)).mpr q2⟩
      · rw [c2 s u (by omega) e]; exact hA s u hs (by omega) k
  refine loop_0 (fun fu t A => wX_findGrade_2 post fu (nI t) f_depth f_made f_textLength f_tokenCount f_wrongPlace f_ruleCount f_prepared f_rulesInUse (nI n) f_wideCount f_gradeFound f_readHeight f_tokensTaken f_usedCount a_spotCounts a_ends a_arrows a_takers a_groups a_marks a_text a_tokenKinds a_tokenLengths a_lefts a_rights a_rightSizes a_beginSets a_followSets a_nextItems a_openItems a_restItems a_stateItems a_stateSteps A a_wideSteps a_wideLooks a_readStates a_readValues a_usedRules) (fun t A => ∀ s u, s < n → u < t → A (s * 4 + u) = f s) 4 a_stateLooks (fun s u _ q => absurd q (Nat.not_lt_zero _)) ?_ ?_
  · intro fu A hA
    have eC : (∃ s t, s < n ∧ t < 4 ∧ ck_x g (fun u => A (s * 4 + u)) t) ↔ cs_0 g f n := by
      have e : ∀ s t, s < n → t < 4 → (ck_x g (fun u => A (s * 4 + u)) t ↔ ck_x g (fun _ => f s) t) := by
        intro s t hs ht
        have e1 : (fun k => ∃ u, u < 4 ∧ bl (A (s * 4 + u)) k = true) = fun k => ∃ u, u < 4 ∧ bl (f s) k = true := by
          funext k
          refine propext ⟨fun ⟨u, q1, q2⟩ => ⟨u, q1, by rw [← hA s u hs q1]; exact q2⟩, fun ⟨u, q1, q2⟩ => ⟨u, q1, by rw [hA s u hs q1]; exact q2⟩⟩
        unfold ck_x
        rw [e1]
        have q := hA s t hs ht
        constructor
        · refine cs_mono fun k _ _ z => ?_
          show bl (f s) k = true
          rw [← q]; exact z
        · refine cs_mono fun k _ _ z => ?_
          show bl (A (s * 4 + t)) k = true
          rw [q]; exact z
      constructor
      · rintro ⟨s, t, q1, q2, q3⟩
        exact ⟨s, t, q1, q2, ck_0.mp ((e s t q1 q2).mp q3)⟩
      · rintro ⟨s, t, q1, q2, q3⟩
        exact ⟨s, t, q1, q2, (e s t q1 q2).mpr (ck_0.mpr q3)⟩
    exact br_t (nI_le (Nat.le_refl 4) (by decide)) (xw_clashes_stateLooks (a_stateLooks := A) hg hI (by omega) (fun s u hs hu => by rw [hA s u hs hu]; exact tb_fio hg hf hs) (fun q => br_t rfl (one A 1 ⟨fun e => absurd e (by decide), fun e => absurd (eC.mpr e) q⟩)) (fun q => br_f (by decide) (one A 0 ⟨fun _ => eC.mp q, fun _ => rfl⟩)))
  · intro fu t A ht hA hk
    refine br_f (nI_ge ht (by decide)) (xw_setStateLooks (a_stateLooks := A) hn ht (-1) (fun C c1 c2 => nm_r (nI_1 t) (hk C fun s u hs hu => ?_)))
    by_cases e : u = t
    · subst e
      rw [c1 s hs, hit s hs]
      apply bl_ext
      intro i hi
      rw [bl_and, bl_m1 i hi, Bool.and_true]
    · rw [c2 s u (by omega) e]; exact hA s u hs (by omega)
/-- all that prepare finds -/
def xp_T (g : rg_T) (rulesInUse stateCount wideCount gradeFound : Int32) (beginSets followSets : Nat → Int32) (nextItems openItems restItems stateItems : Nat → Int64) (stateSteps : Nat → Int32) (stateLooks : Nat → Int64) (wideSteps : Nat → Int32) (wideLooks : Nat → Int64) : Prop :=
  xg_U g rulesInUse ∧ xb_ok g beginSets ∧ xf_ok g followSets ∧ xi_I g 10 nextItems openItems restItems ∧
  (((¬ ∃ r, us_U g r) ∧ stateCount = -4 ∧ wideCount = -4 ∧ gradeFound = -4) ∨
   ((∃ r, us_U g r) ∧ (∃ k, 60 < (sb_B g k).2) ∧ stateCount = -5 ∧ wideCount = -5 ∧ gradeFound = -5) ∨
   ((∃ r, us_U g r) ∧ ∃ f n, xt_T g f n stateItems stateSteps ∧ stateCount = nI n ∧ xz_T g wideCount wideLooks wideSteps ∧ sp_ok g f n stateLooks ∧ gd_R g f n gradeFound))
theorem xw_prepare (hg : rg_ok g) (hG : xg_G g a_lefts a_rights a_rightSizes) (hP : f_prepared = 0 ∨ (f_prepared = 1 ∧ xp_T g f_rulesInUse f_stateCount f_wideCount f_gradeFound a_beginSets a_followSets a_nextItems a_openItems a_restItems a_stateItems a_stateSteps a_stateLooks a_wideSteps a_wideLooks)) {post : SX → Prop}
    (h : ∀ ru sc wc gf bs fs ni oi ri si ss sl ws wl, xp_T g ru sc wc gf bs fs ni oi ri si ss sl ws wl → post (f_depth, f_made, f_textLength, f_tokenCount, f_wrongPlace, (nI (rg_n g)), 1, ru, sc, wc, gf, f_readHeight, f_tokensTaken, f_usedCount, a_spotCounts, a_ends, a_arrows, a_takers, a_groups, a_marks, a_text, a_tokenKinds, a_tokenLengths, a_lefts, a_rights, a_rightSizes, bs, fs, ni, oi, ri, si, ss, sl, ws, wl, a_readStates, a_readValues, a_usedRules)) : wpX_prepare post (f_depth, f_made, f_textLength, f_tokenCount, f_wrongPlace, (nI (rg_n g)), f_prepared, f_rulesInUse, f_stateCount, f_wideCount, f_gradeFound, f_readHeight, f_tokensTaken, f_usedCount, a_spotCounts, a_ends, a_arrows, a_takers, a_groups, a_marks, a_text, a_tokenKinds, a_tokenLengths, a_lefts, a_rights, a_rightSizes, a_beginSets, a_followSets, a_nextItems, a_openItems, a_restItems, a_stateItems, a_stateSteps, a_stateLooks, a_wideSteps, a_wideLooks, a_readStates, a_readValues, a_usedRules) := by
  rcases hP with hP | ⟨hP, hT⟩
  · refine br_t hP ?_
    refine xw_findRulesInUse (f_rulesInUse := f_rulesInUse) hg hG (fun u hU => ?_)
    refine xw_findBegins (a_beginSets := a_beginSets) hg hG hU (fun bs hF h4 => ?_)
    refine xw_findFollows (a_followSets := a_followSets) hg hG hU h4 hF (fun fs hW => ?_)
    refine xw_findItems (a_nextItems := a_nextItems) (a_openItems := a_openItems) (a_restItems := a_restItems) hg hG hU h4 hF (fun ni oi ri hI => ?_)
    have e512 : u = 512 ↔ ¬ ∃ r, us_U g r := by
      constructor
      · rintro rfl ⟨r, hr⟩
        have := (hU r).mpr (Or.inl hr)
        rw [b_512, decide_eq_true_eq] at this
        have := hr.1
        have := hg.1
        omega
      · intro no
        apply b_ext
        intro i _
        have q := hU i
        rw [b_512]
        cases e : bt u i
        · rw [decide_eq_false]
          intro q2
          rw [q.mpr (Or.inr q2)] at e; cases e
        · rw [decide_eq_true]
          rcases q.mp e with q2 | q2
          · exact absurd ⟨i, q2⟩ no
          · exact q2
    refine br_c (fun z => ?_) (fun z => ?_)
    · exact h _ _ _ _ _ _ _ _ _ _ _ _ _ _ ⟨hU, hF, hW, hI, Or.inl ⟨e512.mp z, rfl, rfl, rfl⟩⟩
    · have hu : ∃ r, us_U g r := Classical.byContradiction fun q => z (e512.mpr q)
      refine xw_findStates hg hI (fun cnt items steps hS => ?_)
      rcases xt_to hS with ⟨s1, s2⟩ | ⟨f, n, s1, s2⟩
      · exact br_t s1 (h _ _ _ _ _ _ _ _ _ _ _ _ _ _ ⟨hU, hF, hW, hI, Or.inr (Or.inl ⟨hu, s2, s1, rfl, rfl⟩)⟩)
      · refine br_f (by rw [s2]; exact ne_neg (by have := s1.2.1; omega) (by decide)) ?_
        rw [s2]
        refine xw_findWideStates hg hI (fun wc wl ws hZ => ?_)
        have hZ := xz_to hZ
        refine xw_findGrade hg hG hU hI hW hu s1 hZ (fun A r hA hR => ?_)
        exact h _ _ _ _ _ _ _ _ _ _ _ _ _ _ ⟨hU, hF, hW, hI, Or.inr (Or.inr ⟨hu, f, n, s1, rfl, hZ, hA, hR⟩)⟩
  · refine br_f (by rw [hP]; decide) ?_
    rw [hP]
    exact h _ _ _ _ _ _ _ _ _ _ _ _ _ _ hT
end
