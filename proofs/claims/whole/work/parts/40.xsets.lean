/-! the component's useful rules, begins and follows -/
variable {f_depth f_made f_textLength f_tokenCount f_wrongPlace f_ruleCount f_prepared f_rulesInUse f_stateCount f_wideCount f_gradeFound f_readHeight f_tokensTaken f_usedCount : Int32} {a_spotCounts a_ends a_arrows a_takers a_groups a_marks a_text a_tokenKinds a_tokenLengths a_lefts a_rights a_rightSizes a_beginSets a_followSets a_stateSteps a_wideSteps a_readStates a_readValues a_usedRules : Nat → Int32} {a_nextItems a_openItems a_restItems a_stateItems a_stateLooks a_wideLooks : Nat → Int64}
theorem rd_i {σ : Type} {m : Nat} {sat : Nat → σ → Prop} {c : σ → Nat} {s : σ} : rd_J m sat c 0 s := by
  rcases Nat.eq_zero_or_pos m with h | h
  · exact Or.inl fun k hk => by omega
  · exact rd_0 h
theorem md_r {q m r : Nat} (h : r < m) : (q * m + r) % m = r := by rw [Nat.mul_comm, Nat.mul_add_mod, Nat.mod_eq_of_lt h]
theorem rd_kr {σ : Type} {m q r : Nat} {sat : Nat → σ → Prop} {c : σ → Nat} {s : σ} (hr : r < m) (h : rd_J m sat c (q * m + r) s) (hs : sat r s) : rd_J m sat c (q * m + (r + 1)) s := rd_keep (n := q * m + r) (by omega) h (by rw [md_r hr]; exact hs)
theorem rd_gr {σ : Type} {m q r : Nat} {sat : Nat → σ → Prop} {c : σ → Nat} {s s' : σ} (hr : r < m) (h : rd_J m sat c (q * m + r) s) (hs : ¬ sat r s) (hc : c s < c s') : rd_J m sat c (q * m + (r + 1)) s' := rd_grow (n := q * m + r) (by omega) h (by rw [md_r hr]; exact hs) hc
theorem cn_full {P : Nat → Prop} : ∀ {N : Nat}, cn_c P N = N → ∀ k, k < N → P k
  | 0, _, k, hk => absurd hk (Nat.not_lt_zero k)
  | N + 1, h, k, hk => by
    have a := cn_le P N
    have b := cn_ble (P N)
    have e : cn_c P N + cn_b (P N) = N + 1 := h
    rcases Nat.lt_or_ge k N with z | z
    · exact cn_full (N := N) (by omega) k z
    · have z : k = N := by omega
      subst z
      refine Classical.byContradiction fun y => ?_
      rw [cn_bf y] at e
      omega
theorem b_7b (i : Nat) : bt 7 i = decide (i < 3) := by
  rcases Nat.lt_or_ge i 32 with h | h
  · exact (by decide +kernel : ∀ i, i < 32 → bt 7 i = decide (i < 3)) i h
  · rw [b_big h, decide_eq_false (by omega)]
theorem b_8b (i : Nat) : bt 8 i = decide (i = 3) := by
  rcases Nat.lt_or_ge i 32 with h | h
  · exact (by decide +kernel : ∀ i, i < 32 → bt 8 i = decide (i = 3)) i h
  · rw [b_big h, decide_eq_false (by omega)]
theorem b_512 (i : Nat) : bt 512 i = decide (i = 9) := by
  rcases Nat.lt_or_ge i 32 with h | h
  · exact (by decide +kernel : ∀ i, i < 32 → bt 512 i = decide (i = 9)) i h
  · rw [b_big h, decide_eq_false (by omega)]
theorem b_not (x : Int32) {i : Nat} (hi : i < 32) : bt (x ^^^ (-1)) i = !bt x i := by rw [b_xor, b_m1 i hi]; cases bt x i <;> rfl
/-- x & ~y is 0: x lies in y -/
theorem b_sub {x y : Int32} : x &&& (y ^^^ (-1)) = 0 ↔ ∀ i, bt x i = true → bt y i = true := by
  rw [b_zero]
  constructor
  · intro h i hi
    rcases Nat.lt_or_ge i 32 with z | z
    · have := h i z
      rw [b_and, b_not y z, hi] at this
      cases e : bt y i
      · rw [e] at this; cases this
      · rfl
    · rw [b_big z] at hi; cases hi
  · intro h i hi
    rw [b_and, b_not y hi]
    cases e : bt x i
    · rfl
    · rw [h i e]; rfl
/-- x & 8 is 0: bit 3 is not set -/
theorem b_and8 (x : Int32) : x &&& 8 = 0 ↔ bt x 3 = false := by
  rw [b_zero]
  constructor
  · intro h
    have := h 3 (by omega)
    rw [b_and, b_8b] at this
    simpa using this
  · intro h i hi
    rw [b_and, b_8b]
    by_cases e : i = 3
    · subst e; rw [h]; rfl
    · simp [e]
/-- the rules, as the arrays hold them -/
def xg_G (g : rg_T) (a_lefts a_rights a_rightSizes : Nat → Int32) : Prop := ∀ r, r < rg_n g ∨ r = 9 → a_lefts r = nI (rg_l g r) ∧ a_rightSizes r = nI (rg_c g r) ∧ ∀ k, k < rg_c g r → a_rights (r * 4 + k) = nI (rg_h g r k)
theorem rg_b {g : rg_T} (hg : rg_ok g) {r : Nat} (hr : r < rg_n g ∨ r = 9) : r < 10 ∧ rg_l g r < 8 ∧ 3 ≤ rg_l g r ∧ rg_c g r ≤ 4 ∧ ∀ k, k < rg_c g r → rg_h g r k < 7 := by
  rcases hr with hr | rfl
  · have := hg.2.1 r hr
    have h9 := hg.1
    exact ⟨by omega, by omega, this.1, this.2.2.1, this.2.2.2⟩
  · refine ⟨by omega, by have := hg.2.2.1; omega, by have := hg.2.2.1; omega, by have := hg.2.2.2.1; omega, fun k hk => ?_⟩
    have : k = 0 := by have := hg.2.2.2.1; omega
    subst this
    have := hg.2.2.2.2
    omega
section
variable {g : rg_T}
theorem xw_rightSymbols (hg : rg_ok g) (hG : xg_G g a_lefts a_rights a_rightSizes) {r : Nat} (hr : r < rg_n g ∨ r = 9) {post : Int32 → Prop} (h : ∀ x, (∀ b, bt x b = true ↔ ∃ k, k < rg_c g r ∧ rg_h g r k = b) → post x) : wpX_rightSymbols post (f_depth, f_made, f_textLength, f_tokenCount, f_wrongPlace, f_ruleCount, f_prepared, f_rulesInUse, f_stateCount, f_wideCount, f_gradeFound, f_readHeight, f_tokensTaken, f_usedCount, a_spotCounts, a_ends, a_arrows, a_takers, a_groups, a_marks, a_text, a_tokenKinds, a_tokenLengths, a_lefts, a_rights, a_rightSizes, a_beginSets, a_followSets, a_nextItems, a_openItems, a_restItems, a_stateItems, a_stateSteps, a_stateLooks, a_wideSteps, a_wideLooks, a_readStates, a_readValues, a_usedRules) (nI r) := by
  obtain ⟨b1, b2, b3, b4, b5⟩ := rg_b hg hr
  obtain ⟨g1, g2, g3⟩ := hG r hr
  have cr : (nI r).toNatClampNeg = r := nI_clamp (by omega)
  refine loop_0 (fun f i s => wX_rightSymbols_4 post (nI r) f_depth f_made f_textLength f_tokenCount f_wrongPlace f_ruleCount f_prepared f_rulesInUse f_stateCount f_wideCount f_gradeFound f_readHeight f_tokensTaken f_usedCount a_spotCounts a_ends a_arrows a_takers a_groups a_marks a_text a_tokenKinds a_tokenLengths a_lefts a_rights a_rightSizes a_beginSets a_followSets a_nextItems a_openItems a_restItems a_stateItems a_stateSteps a_stateLooks a_wideSteps a_wideLooks a_readStates a_readValues a_usedRules f s (nI i)) (fun i s => ∀ b, bt s b = true ↔ ∃ k, k < i ∧ rg_h g r k = b) (rg_c g r) 0 ?_ ?_ ?_
  · intro b
    rw [b_0]
    exact ⟨(fun z => by cases z), fun ⟨k, hk, _⟩ => absurd hk (Nat.not_lt_zero k)⟩
  · intro f s hs
    refine ⟨vp_in_nI (by omega) (by decide), br_t ?_ (h s hs)⟩
    rw [cr, g2]; exact nI_le (Nat.le_refl _) (by omega)
  · intro f i s hi hs hk
    refine ⟨vp_in_nI (by omega) (by decide), br_f ?_ ⟨pk_in (r * 4 + i) 44 (by omega) (ix_4 r i), nm_e (nm_r (nI_1 i) (hk _ fun b => ?_))⟩⟩
    · rw [cr, g2]; exact nI_ge hi (by omega)
    · have hb := b5 i hi
      rw [pk_cl (r * 4 + i) (ix_4 r i), g3 i hi, b_or, Bool.or_eq_true, hs b, b_one _ (by omega), decide_eq_true_eq]
      constructor
      · rintro (⟨k, k1, k2⟩ | rfl)
        · exact ⟨k, by omega, k2⟩
        · exact ⟨i, by omega, rfl⟩
      · rintro ⟨k, k1, k2⟩
        rcases Nat.lt_or_ge k i with z | z
        · exact Or.inl ⟨k, z, k2⟩
        · have z : k = i := by omega
          subst z; exact Or.inr k2.symm
/-- how many variables a set of symbols holds -/
noncomputable def sv_c (s : Int32) : Nat := cn_c (fun x => bt s (x + 3) = true) 4
theorem sv_lt {s s' : Int32} {v : Nat} (h3 : 3 ≤ v) (h7 : v < 7) (h1 : ¬ bt s v = true) (h2 : bt s' v = true) (h : ∀ b, bt s b = true → bt s' b = true) : sv_c s < sv_c s' := by
  have e : v - 3 + 3 = v := by omega
  exact cn_lt (a := v - 3) (by rw [e]; exact h1) (by rw [e]; exact h2) (fun k _ z => h _ z) (by omega)
theorem sv_full {s : Int32} (h : sv_c s = 4) {v : Nat} (h3 : 3 ≤ v) (h7 : v < 7) : bt s v = true := by
  have := cn_full h (v - 3) (by omega)
  rwa [show v - 3 + 3 = v by omega] at this
theorem xw_endingSymbols (hg : rg_ok g) (hG : xg_G g a_lefts a_rights a_rightSizes) {post : Int32 → Prop} (h : ∀ x, (∀ b, bt x b = true ↔ en_E g b) → post x) : wpX_endingSymbols post (f_depth, f_made, f_textLength, f_tokenCount, f_wrongPlace, (nI (rg_n g)), f_prepared, f_rulesInUse, f_stateCount, f_wideCount, f_gradeFound, f_readHeight, f_tokensTaken, f_usedCount, a_spotCounts, a_ends, a_arrows, a_takers, a_groups, a_marks, a_text, a_tokenKinds, a_tokenLengths, a_lefts, a_rights, a_rightSizes, a_beginSets, a_followSets, a_nextItems, a_openItems, a_restItems, a_stateItems, a_stateSteps, a_stateLooks, a_wideSteps, a_wideLooks, a_readStates, a_readValues, a_usedRules) := by
  have h9 := hg.1
  refine loop_0 (fun f q s => wX_endingSymbols_5 post f_depth f_made f_textLength f_tokenCount f_wrongPlace (nI (rg_n g)) f_prepared f_rulesInUse f_stateCount f_wideCount f_gradeFound f_readHeight f_tokensTaken f_usedCount a_spotCounts a_ends a_arrows a_takers a_groups a_marks a_text a_tokenKinds a_tokenLengths a_lefts a_rights a_rightSizes a_beginSets a_followSets a_nextItems a_openItems a_restItems a_stateItems a_stateSteps a_stateLooks a_wideSteps a_wideLooks a_readStates a_readValues a_usedRules f s (nI q)) (fun q s => (∀ b, b < 3 → bt s b = true) ∧ (∀ b, bt s b = true → en_E g b) ∧ rd_J (rg_n g) (fun r s => (∀ k, k < rg_c g r → bt s (rg_h g r k) = true) → bt s (rg_l g r) = true) sv_c (q * rg_n g) s) 4 7 ?_ ?_ ?_
  · refine ⟨fun b hb => by rw [b_7b, decide_eq_true hb], fun b hb => ?_, by rw [Nat.zero_mul]; exact rd_i⟩
    rw [b_7b, decide_eq_true_eq] at hb
    exact (en_self g).1 b hb
  · rintro f s ⟨s1, s2, s3⟩
    refine br_t (nI_le (Nat.le_refl 4) (by decide)) (h s fun b => ⟨s2 b, fun hb => ?_⟩)
    have cl := rd_end s3 (cn_le _ 4) (by omega) (fun e r hr _ => sv_full e (hg.2.1 r hr).1 (hg.2.1 r hr).2.1)
    exact hb (fun b => bt s b = true) ⟨s1, fun r hr hi => cl r hr hi⟩
  · rintro f q s hq ⟨s1, s2, s3⟩ hk
    refine br_f (nI_ge hq (by decide)) ?_
    refine loop_0 (fun f' r s => wX_endingSymbols_12 post (wX_endingSymbols_5 post f_depth f_made f_textLength f_tokenCount f_wrongPlace (nI (rg_n g)) f_prepared f_rulesInUse f_stateCount f_wideCount f_gradeFound f_readHeight f_tokensTaken f_usedCount a_spotCounts a_ends a_arrows a_takers a_groups a_marks a_text a_tokenKinds a_tokenLengths a_lefts a_rights a_rightSizes a_beginSets a_followSets a_nextItems a_openItems a_restItems a_stateItems a_stateSteps a_stateLooks a_wideSteps a_wideLooks a_readStates a_readValues a_usedRules f) (nI q) f_depth f_made f_textLength f_tokenCount f_wrongPlace (nI (rg_n g)) f_prepared f_rulesInUse f_stateCount f_wideCount f_gradeFound f_readHeight f_tokensTaken f_usedCount a_spotCounts a_ends a_arrows a_takers a_groups a_marks a_text a_tokenKinds a_tokenLengths a_lefts a_rights a_rightSizes a_beginSets a_followSets a_nextItems a_openItems a_restItems a_stateItems a_stateSteps a_stateLooks a_wideSteps a_wideLooks a_readStates a_readValues a_usedRules f' s (nI r)) (fun r s => (∀ b, b < 3 → bt s b = true) ∧ (∀ b, bt s b = true → en_E g b) ∧ rd_J (rg_n g) (fun r s => (∀ k, k < rg_c g r → bt s (rg_h g r k) = true) → bt s (rg_l g r) = true) sv_c (q * rg_n g + r) s) (rg_n g) s ⟨s1, s2, s3⟩ ?_ ?_
    · rintro f' s hs
      refine br_t (nI_le (Nat.le_refl _) (by omega)) (nm_r (nI_1 q) (hk s ?_))
      rw [Nat.succ_mul]; exact hs
    · rintro f' r s hr ⟨s1, s2, s3⟩ hk2
      obtain ⟨b1, b2, b3, b4, b5⟩ := rg_b hg (Or.inl hr)
      obtain ⟨g1, g2, g3⟩ := hG r (Or.inl hr)
      refine br_f (nI_ge hr (by omega)) (xw_rightSymbols hg hG (Or.inl hr) (fun x hx => br_c (fun z => ?_) (fun z => ?_)))
      · have z := b_sub.mp z
        have hin : ∀ k, k < rg_c g r → bt s (rg_h g r k) = true := fun k hk => z _ ((hx _).mpr ⟨k, hk, rfl⟩)
        have hl7 := (hg.2.1 r hr).2.1
        refine ⟨vp_in_nI (by omega) (by decide), nm_e (nm_r (nI_1 r) (hk2 _ ?_))⟩
        rw [nI_clamp (by omega : r < 2 ^ 31), g1]
        have e : ∀ b, bt (s ||| (1 : Int32) <<< (nI (rg_l g r) &&& 31)) b = true ↔ bt s b = true ∨ b = rg_l g r := by
          intro b
          rw [b_or, Bool.or_eq_true, b_one _ (by omega), decide_eq_true_eq]
        refine ⟨fun b hb => (e b).mpr (Or.inl (s1 b hb)), fun b hb => ?_, ?_⟩
        · rcases (e b).mp hb with y | rfl
          · exact s2 b y
          · exact (en_self g).2 r hr (fun i hi => s2 _ (hin i hi))
        · by_cases y : bt s (rg_l g r) = true
          · have es : s ||| (1 : Int32) <<< (nI (rg_l g r) &&& 31) = s := by
              apply b_ext
              intro i _
              cases w : bt s i
              · cases w2 : bt (s ||| (1 : Int32) <<< (nI (rg_l g r) &&& 31)) i
                · rfl
                · rcases (e i).mp w2 with k | rfl
                  · rw [w] at k; cases k
                  · rw [w] at y; cases y
              · exact (e i).mpr (Or.inl w)
            rw [es]
            exact rd_kr hr s3 (fun _ => y)
          · exact rd_gr hr s3 (fun k => y (k hin)) (sv_lt b3 hl7 y ((e _).mpr (Or.inr rfl)) (fun b hb => (e b).mpr (Or.inl hb)))
      · refine nm_r (nI_1 r) (hk2 _ ⟨s1, s2, rd_kr hr s3 ?_⟩)
        intro k
        exact absurd (b_sub.mpr fun b hb => by
          obtain ⟨i, i1, rfl⟩ := (hx b).mp hb
          exact k i i1) z
/-- in use: the useful rules, and the first one -/
def xg_U (g : rg_T) (u : Int32) : Prop := ∀ r, bt u r = true ↔ us_U g r ∨ r = 9
noncomputable def sv_d (s : Int32 × Int32) : Nat := sv_c s.1 - 1
def xr_s (g : rg_T) (r : Nat) (s : Int32 × Int32) : Prop := (∀ k, k < rg_c g r → en_E g (rg_h g r k)) → bt s.1 (rg_l g r) = true → ∀ k, k < rg_c g r → 3 ≤ rg_h g r k → bt s.1 (rg_h g r k) = true
/-- what holds at round q before rule r -/
def xr_I (g : rg_T) (q r : Nat) (s : Int32 × Int32) : Prop :=
  (∀ b, bt s.1 b = true → co_C g b) ∧ (∀ r', bt s.2 r' = true → us_U g r' ∨ r' = 9) ∧ (en_E g 3 → bt s.1 3 = true) ∧ (en_E g 3 → rd_J (rg_n g) (xr_s g) sv_d (q * rg_n g + r) s) ∧
  (∀ r', q = 4 ∨ (q = 3 ∧ r' < r) → r' < rg_n g → (∀ k, k < rg_c g r' → en_E g (rg_h g r' k)) → bt s.1 (rg_l g r') = true → bt s.2 r' = true) ∧ bt s.2 9 = true
theorem rd_congr {σ : Type} {m n : Nat} {sat : Nat → σ → Prop} {c : σ → Nat} {s s' : σ} (h1 : ∀ k, k < m → sat k s → sat k s') (h2 : c s = c s') (hm : 0 < m) (h : rd_J m sat c n s) : rd_J m sat c n s' := by
  rcases h with h | ⟨a, a1, a2, a3, a4⟩
  · exact Or.inl fun k hk => h1 k hk (h k hk)
  · exact Or.inr ⟨a, a1, a2, by rw [← h2]; exact a3, fun i i1 i2 => h1 _ (Nat.mod_lt _ hm) (a4 i i1 i2)⟩
theorem sv_pos {s : Int32} (h : bt s 3 = true) : 1 ≤ sv_c s := by
  have := cn_lt (P := fun _ => False) (Q := fun x => bt s (x + 3) = true) (a := 0) id h (N := 4) (fun _ _ z => z.elim) (by omega)
  unfold sv_c
  omega
theorem sv_eq {s s' : Int32} (h : ∀ v, 3 ≤ v → v < 7 → (bt s v = true ↔ bt s' v = true)) : sv_c s = sv_c s' := cn_eq fun k hk => h (k + 3) (by omega) (by omega)
/-- from round 3 on what is reached is closed -/
theorem xr_cl (hg : rg_ok g) {q r : Nat} {s : Int32 × Int32} (h : xr_I g q r s) (hq : 3 ≤ q) (h3 : en_E g 3) : ∀ k, k < rg_n g → xr_s g k s := by
  have h1 := sv_pos (h.2.2.1 h3)
  have h4 : sv_c s.1 ≤ 4 := cn_le _ 4
  refine rd_end (B := 3) (h.2.2.2.1 h3) (by unfold sv_d; omega) ?_ (fun e r hr _ _ k hk hv => ?_)
  · have : rg_n g * 3 ≤ q * rg_n g := by rw [Nat.mul_comm]; exact Nat.mul_le_mul_right _ hq
    omega
  · unfold sv_d at e
    exact sv_full (by omega) hv ((hg.2.1 r hr).2.2.2 k hk)
theorem xr_end (hg : rg_ok g) {s : Int32 × Int32} (h : xr_I g 4 0 s) : xg_U g s.2 := by
  intro r
  refine ⟨h.2.1 r, fun z => ?_⟩
  rcases z with z | rfl
  · have h3 := us_3 z
    have cl := xr_cl hg h (by omega) h3
    refine h.2.2.2.2.1 r (Or.inl rfl) z.1 z.2.1 ?_
    have := z.2.2 (fun b => b < 3 ∨ bt s.1 b = true) ⟨Or.inr (h.2.2.1 h3), fun r hr he hl i hi => ?_⟩
    · rcases this with y | y
      · have := (hg.2.1 r z.1).1; omega
      · exact y
    · rcases Nat.lt_or_ge (rg_h g r i) 3 with y | y
      · exact Or.inl y
      · refine Or.inr (cl r hr he ?_ i hi y)
        rcases hl with y | y
        · have := (hg.2.1 r hr).1; omega
        · exact y
  · exact h.2.2.2.2.2
/-- a rule that is not used changes nothing -/
theorem xr_skip {q r : Nat} {s : Int32 × Int32} (h : xr_I g q r s) (hr : r < rg_n g) (hn : (∀ k, k < rg_c g r → en_E g (rg_h g r k)) → ¬ bt s.1 (rg_l g r) = true) : xr_I g q (r + 1) s := by
  obtain ⟨h1, h2, h3, h4, h5, h6⟩ := h
  refine ⟨h1, h2, h3, fun e => rd_kr hr (h4 e) ?_, fun r' hr' a b c => ?_, h6⟩
  · exact fun a b => absurd b (hn a)
  · by_cases e : r' = r
    · subst e; exact absurd c (hn b)
    · exact h5 r' (by omega) a b c
theorem xr_use (hg : rg_ok g) {q r : Nat} {s : Int32 × Int32} {x : Int32} (h : xr_I g q r s) (hq : q < 4) (hr : r < rg_n g) (hx : ∀ b, bt x b = true ↔ ∃ k, k < rg_c g r ∧ rg_h g r k = b) (he : ∀ k, k < rg_c g r → en_E g (rg_h g r k)) (hl : bt s.1 (rg_l g r) = true) : xr_I g q (r + 1) (s.1 ||| x, s.2 ||| (1 : Int32) <<< (nI r &&& 31)) := by
  have hI := h
  obtain ⟨h1, h2, h3, h4, h5, h6⟩ := h
  have h9 := hg.1
  have e1 : ∀ b, bt (s.1 ||| x) b = true ↔ bt s.1 b = true ∨ ∃ k, k < rg_c g r ∧ rg_h g r k = b := fun b => by rw [b_or, Bool.or_eq_true, hx]
  have e2 : ∀ b, bt (s.2 ||| (1 : Int32) <<< (nI r &&& 31)) b = true ↔ bt s.2 b = true ∨ b = r := fun b => by rw [b_or, Bool.or_eq_true, b_one _ (by omega), decide_eq_true_eq]
  have hU : us_U g r := ⟨hr, he, h1 _ hl⟩
  have same : xr_s g r s → ∀ v, 3 ≤ v → v < 7 → (bt s.1 v = true ↔ bt (s.1 ||| x) v = true) := by
    intro hs v v3 v7
    rw [e1]
    refine ⟨Or.inl, fun z => ?_⟩
    rcases z with z | ⟨k, k1, rfl⟩
    · exact z
    · exact hs he hl k k1 v3
  refine ⟨fun b hb => ?_, fun r' hr' => ?_, fun e => (e1 3).mpr (Or.inl (h3 e)), fun e => ?_, fun r' hr' a b c => ?_, (e2 9).mpr (Or.inl h6)⟩
  · rcases (e1 b).mp hb with z | ⟨k, k1, rfl⟩
    · exact h1 b z
    · exact (co_self g).2 r hr he (h1 _ hl) k k1
  · rcases (e2 r').mp hr' with z | rfl
    · exact h2 r' z
    · exact Or.inl hU
  · by_cases hs : xr_s g r s
    · have sm := same hs
      refine rd_congr (s := s) (fun k hk z a b i i1 i3 => ?_) ?_ (by omega) (rd_kr hr (h4 e) hs)
      · have l1 := hg.2.1 k hk
        exact (sm _ i3 (l1.2.2.2 i i1)).mp (z a ((sm _ l1.1 l1.2.1).mpr b) i i1 i3)
      · unfold sv_d
        rw [sv_eq sm]
    · refine rd_gr hr (h4 e) hs ?_
      have : ∃ k, k < rg_c g r ∧ 3 ≤ rg_h g r k ∧ ¬ bt s.1 (rg_h g r k) = true := by
        refine Classical.byContradiction fun z => hs fun _ _ k k1 k3 => ?_
        refine Classical.byContradiction fun y => z ⟨k, k1, k3, y⟩
      obtain ⟨k, k1, k3, k4⟩ := this
      have := sv_lt k3 ((hg.2.1 r hr).2.2.2 k k1) k4 ((e1 _).mpr (Or.inr ⟨k, k1, rfl⟩)) (fun b hb => (e1 b).mpr (Or.inl hb))
      have p := sv_pos (h3 e)
      unfold sv_d
      show sv_c s.1 - 1 < sv_c (s.1 ||| x) - 1
      omega
  · by_cases er : r' = r
    · exact (e2 r').mpr (Or.inr er)
    · have q3 : q = 3 ∧ r' < r := by omega
      refine (e2 r').mpr (Or.inl (h5 r' (by omega) a b ?_))
      rcases co_3 (h1 _ hl) with y | y
      · -- symbol 3 ends: its own rule is used
        have y3 : en_E g 3 := by rw [← y]; exact (en_self g).2 r hr he
        have cl := xr_cl hg hI (by omega) y3 r hr
        have l1 := hg.2.1 r' a
        exact (same cl _ l1.1 l1.2.1).mpr c
      · have cl := xr_cl hg hI (by omega) y r hr
        have l1 := hg.2.1 r' a
        exact (same cl _ l1.1 l1.2.1).mpr c
theorem xw_findRulesInUse (hg : rg_ok g) (hG : xg_G g a_lefts a_rights a_rightSizes) {post : SX → Prop} (h : ∀ u, xg_U g u → post (f_depth, f_made, f_textLength, f_tokenCount, f_wrongPlace, (nI (rg_n g)), f_prepared, u, f_stateCount, f_wideCount, f_gradeFound, f_readHeight, f_tokensTaken, f_usedCount, a_spotCounts, a_ends, a_arrows, a_takers, a_groups, a_marks, a_text, a_tokenKinds, a_tokenLengths, a_lefts, a_rights, a_rightSizes, a_beginSets, a_followSets, a_nextItems, a_openItems, a_restItems, a_stateItems, a_stateSteps, a_stateLooks, a_wideSteps, a_wideLooks, a_readStates, a_readValues, a_usedRules)) : wpX_findRulesInUse post (f_depth, f_made, f_textLength, f_tokenCount, f_wrongPlace, (nI (rg_n g)), f_prepared, f_rulesInUse, f_stateCount, f_wideCount, f_gradeFound, f_readHeight, f_tokensTaken, f_usedCount, a_spotCounts, a_ends, a_arrows, a_takers, a_groups, a_marks, a_text, a_tokenKinds, a_tokenLengths, a_lefts, a_rights, a_rightSizes, a_beginSets, a_followSets, a_nextItems, a_openItems, a_restItems, a_stateItems, a_stateSteps, a_stateLooks, a_wideSteps, a_wideLooks, a_readStates, a_readValues, a_usedRules) := by
  have h9 := hg.1
  refine xw_endingSymbols hg hG (fun E hE => nm_e ?_)
  have h3 : ∀ b, bt (E &&& 8) b = true ↔ b = 3 ∧ en_E g 3 := by
    intro b
    rw [b_and, Bool.and_eq_true, b_8b, decide_eq_true_eq, hE]
    constructor
    · rintro ⟨a, rfl⟩; exact ⟨rfl, a⟩
    · rintro ⟨rfl, a⟩; exact ⟨a, rfl⟩
  refine loop_0 (fun f q s => wX_findRulesInUse_19 post E f_depth f_made f_textLength f_tokenCount f_wrongPlace (nI (rg_n g)) f_prepared f_stateCount f_wideCount f_gradeFound f_readHeight f_tokensTaken f_usedCount a_spotCounts a_ends a_arrows a_takers a_groups a_marks a_text a_tokenKinds a_tokenLengths a_lefts a_rights a_rightSizes a_beginSets a_followSets a_nextItems a_openItems a_restItems a_stateItems a_stateSteps a_stateLooks a_wideSteps a_wideLooks a_readStates a_readValues a_usedRules f s.1 (nI q) s.2) (fun q s => xr_I g q 0 s) 4 (E &&& 8, (512 : Int32)) ?_ ?_ ?_
  · refine ⟨fun b hb => ?_, fun r hr => ?_, fun e => (h3 3).mpr ⟨rfl, e⟩, fun e => ?_, fun r' hr' => by omega, by show bt 512 9 = true; rw [b_512]; rfl⟩
    · obtain ⟨rfl, _⟩ := (h3 b).mp hb
      exact (co_self g).1
    · have hr : bt 512 r = true := hr
      rw [b_512, decide_eq_true_eq] at hr
      exact Or.inr hr
    · rw [Nat.zero_mul]; exact rd_i
  · rintro f ⟨s, u⟩ hs
    exact br_t (nI_le (Nat.le_refl 4) (by decide)) (h u (xr_end hg hs))
  · rintro f q ⟨s, u⟩ hq hs hk
    refine br_f (nI_ge hq (by decide)) ?_
    refine loop_0 (fun f' r s => wX_findRulesInUse_27 post (wX_findRulesInUse_19 post E f_depth f_made f_textLength f_tokenCount f_wrongPlace (nI (rg_n g)) f_prepared f_stateCount f_wideCount f_gradeFound f_readHeight f_tokensTaken f_usedCount a_spotCounts a_ends a_arrows a_takers a_groups a_marks a_text a_tokenKinds a_tokenLengths a_lefts a_rights a_rightSizes a_beginSets a_followSets a_nextItems a_openItems a_restItems a_stateItems a_stateSteps a_stateLooks a_wideSteps a_wideLooks a_readStates a_readValues a_usedRules f) E (nI q) f_depth f_made f_textLength f_tokenCount f_wrongPlace (nI (rg_n g)) f_prepared f_stateCount f_wideCount f_gradeFound f_readHeight f_tokensTaken f_usedCount a_spotCounts a_ends a_arrows a_takers a_groups a_marks a_text a_tokenKinds a_tokenLengths a_lefts a_rights a_rightSizes a_beginSets a_followSets a_nextItems a_openItems a_restItems a_stateItems a_stateSteps a_stateLooks a_wideSteps a_wideLooks a_readStates a_readValues a_usedRules f' s.1 (nI r) s.2) (fun r s => xr_I g q r s) (rg_n g) (s, u) hs ?_ ?_
    · rintro f' ⟨s, u⟩ hs
      refine br_t (nI_le (Nat.le_refl _) (by omega)) (nm_r (nI_1 q) (hk (s, u) ?_))
      obtain ⟨h1, h2, h3, h4, h5, h6⟩ := hs
      refine ⟨h1, h2, h3, fun e => ?_, fun r' hr' a b c => h5 r' ?_ a b c, h6⟩
      · rw [Nat.succ_mul]; exact h4 e
      · omega
    · rintro f' r ⟨s, u⟩ hr hs hk2
      obtain ⟨b1, b2, b3, b4, b5⟩ := rg_b hg (Or.inl hr)
      obtain ⟨g1, g2, g3⟩ := hG r (Or.inl hr)
      refine br_f (nI_ge hr (by omega)) (xw_rightSymbols hg hG (Or.inl hr) (fun x hx => ⟨vp_in_nI (by omega) (by decide), ?_⟩))
      rw [nI_clamp (by omega : r < 2 ^ 31), g1]
      have hen : x &&& (E ^^^ (-1)) = 0 ↔ ∀ k, k < rg_c g r → en_E g (rg_h g r k) := by
        rw [b_sub]
        constructor
        · intro z k hk; exact (hE _).mp (z _ ((hx _).mpr ⟨k, hk, rfl⟩))
        · intro z b hb
          obtain ⟨k, k1, rfl⟩ := (hx b).mp hb
          exact (hE _).mpr (z k k1)
      refine br_c (fun z => ?_) (fun z => ?_)
      · have z := (b_test s (n := rg_l g r) (by omega)).mp z
        refine br_c (fun y => ?_) (fun y => ?_)
        · exact nm_e (nm_e (nm_r (nI_1 r) (hk2 _ (xr_use hg hs hq hr hx (hen.mp y) z))))
        · exact nm_r (nI_1 r) (hk2 (s, u) (xr_skip hs hr fun k => absurd (hen.mpr k) y))
      · refine nm_r (nI_1 r) (hk2 (s, u) (xr_skip hs hr fun _ k => z ((b_test s (by omega)).mpr k)))
end
