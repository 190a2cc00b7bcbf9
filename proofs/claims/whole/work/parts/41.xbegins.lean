/-! the component's begins and follows -/
variable {f_depth f_made f_textLength f_tokenCount f_wrongPlace f_ruleCount f_prepared f_rulesInUse f_stateCount f_wideCount f_gradeFound f_readHeight f_tokensTaken f_usedCount : Int32} {a_spotCounts a_ends a_arrows a_takers a_groups a_marks a_text a_tokenKinds a_tokenLengths a_lefts a_rights a_rightSizes a_beginSets a_followSets a_stateSteps a_wideSteps a_readStates a_readValues a_usedRules : Nat → Int32} {a_nextItems a_openItems a_restItems a_stateItems a_stateLooks a_wideLooks : Nat → Int64}
section
variable {g : rg_T}
/-- sets of looks, as an array holds them -/
def xb_F (a : Nat → Int32) (s b : Nat) : Prop := bt (a s) b = true
/-- no bits but the first four -/
def xb_4 (a : Nat → Int32) : Prop := ∀ s b, s < 7 → bt (a s) b = true → b < 4
theorem xw_beginsFrom (hg : rg_ok g) (hG : xg_G g a_lefts a_rights a_rightSizes) (h4 : xb_4 a_beginSets) {r p : Nat} (hr : r < rg_n g ∨ r = 9) (hp : p ≤ rg_c g r) {post : Int32 → Prop} (h : ∀ x, (∀ b, bt x b = true ↔ fs_b (xb_F a_beginSets) (rg_h g r) (rg_c g r - p) p b) → post x) : wpX_beginsFrom post (f_depth, f_made, f_textLength, f_tokenCount, f_wrongPlace, f_ruleCount, f_prepared, f_rulesInUse, f_stateCount, f_wideCount, f_gradeFound, f_readHeight, f_tokensTaken, f_usedCount, a_spotCounts, a_ends, a_arrows, a_takers, a_groups, a_marks, a_text, a_tokenKinds, a_tokenLengths, a_lefts, a_rights, a_rightSizes, a_beginSets, a_followSets, a_nextItems, a_openItems, a_restItems, a_stateItems, a_stateSteps, a_stateLooks, a_wideSteps, a_wideLooks, a_readStates, a_readValues, a_usedRules) (nI r) (nI p) := by
  obtain ⟨b1, b2, b3, b4, b5⟩ := rg_b hg hr
  obtain ⟨g1, g2, g3⟩ := hG r hr
  have cr : (nI r).toNatClampNeg = r := nI_clamp (by omega)
  refine loop_0 (fun f i s => wX_beginsFrom_5 post (nI r) f_depth f_made f_textLength f_tokenCount f_wrongPlace f_ruleCount f_prepared f_rulesInUse f_stateCount f_wideCount f_gradeFound f_readHeight f_tokensTaken f_usedCount a_spotCounts a_ends a_arrows a_takers a_groups a_marks a_text a_tokenKinds a_tokenLengths a_lefts a_rights a_rightSizes a_beginSets a_followSets a_nextItems a_openItems a_restItems a_stateItems a_stateSteps a_stateLooks a_wideSteps a_wideLooks a_readStates a_readValues a_usedRules f s (nI (p + i))) (fun i s => (∀ b, bt s b = true → b < 3) ∧ ∀ b, fs_b (xb_F a_beginSets) (rg_h g r) (rg_c g r - p) p b ↔ bt s b = true ∨ fs_b (xb_F a_beginSets) (rg_h g r) (rg_c g r - (p + i)) (p + i) b) (rg_c g r - p) 0 ?_ ?_ ?_
  · refine ⟨(fun b hb => by rw [b_0] at hb; cases hb), fun b => ?_⟩
    rw [b_0]
    exact ⟨Or.inr, fun z => by
      rcases z with z | z
      · cases z
      · exact z⟩
  · rintro f s ⟨s1, s2⟩
    rw [show p + (rg_c g r - p) = rg_c g r by omega] at s2 ⊢
    refine ⟨vp_in_nI (by omega) (by decide), br_t ?_ (h _ fun b => ?_)⟩
    · rw [cr, g2]; exact nI_le (Nat.le_refl _) (by omega)
    · rw [s2 b, Nat.sub_self, b_or, Bool.or_eq_true, b_8b, decide_eq_true_eq]
      exact Iff.rfl
  · rintro f i s hi ⟨s1, s2⟩ hk
    have hc : rg_c g r - (p + i) = (rg_c g r - (p + (i + 1))) + 1 := by omega
    have hh := b5 (p + i) (by omega)
    have ch : (nI (rg_h g r (p + i))).toNatClampNeg = rg_h g r (p + i) := nI_clamp (by omega)
    refine ⟨vp_in_nI (by omega) (by decide), br_f ?_ ⟨pk_in (r * 4 + (p + i)) 44 (by omega) (ix_4 r (p + i)), ?_⟩⟩
    · rw [cr, g2]; exact nI_ge (by omega) (by omega)
    rw [pk_cl (r * 4 + (p + i)) (ix_4 r (p + i)), g3 (p + i) (by omega)]
    refine ⟨vp_in_nI hh (by decide), nm_r (e' := a_beginSets (rg_h g r (p + i))) (by rw [ch]) (nm_e ?_)⟩
    have e : ∀ b, bt (s ||| (a_beginSets (rg_h g r (p + i)) &&& 7)) b = true ↔ bt s b = true ∨ (b < 3 ∧ xb_F a_beginSets (rg_h g r (p + i)) b) := by
      intro b
      rw [b_or, Bool.or_eq_true, b_and, Bool.and_eq_true, b_7b, decide_eq_true_eq]
      exact ⟨fun z => z.imp id (fun z => ⟨z.2, z.1⟩), fun z => z.imp id (fun z => ⟨z.2, z.1⟩)⟩
    refine br_c (fun z => ?_) (fun z => ?_)
    · have z := (b_and8 _).mp z
      refine h _ fun b => ?_
      rw [e b, s2 b, hc]
      constructor
      · rintro (y | y)
        · exact Or.inl y
        · exact Or.inr (Or.inl y)
      · rintro (y | y | ⟨y, _⟩)
        · exact Or.inl y
        · exact Or.inr y
        · have y : bt (a_beginSets (rg_h g r (p + i))) 3 = true := y
          rw [z] at y; cases y
    · have z : xb_F a_beginSets (rg_h g r (p + i)) 3 := ts_nf fun y => z ((b_and8 _).mpr y)
      refine nm_r (nI_1 (p + i)) (hk _ ⟨fun b hb => ?_, fun b => ?_⟩)
      · rcases (e b).mp hb with y | y
        · exact s1 b y
        · exact y.1
      · rw [s2 b, e b, hc]
        constructor
        · rintro (y | y | ⟨_, y⟩)
          · exact Or.inl (Or.inl y)
          · exact Or.inl (Or.inr y)
          · exact Or.inr y
        · rintro ((y | y) | y)
          · exact Or.inl y
          · exact Or.inr (Or.inl y)
          · exact Or.inr (Or.inr ⟨z, y⟩)
/-- how many looks the variables' sets hold -/
noncomputable def sw_c (a : Nat → Int32) : Nat := cn_c (fun x => bt (a (x / 4 + 3)) (x % 4) = true) 16
theorem sw_lt {a a' : Nat → Int32} {v b : Nat} (h3 : 3 ≤ v) (h7 : v < 7) (hb : b < 4) (h1 : ¬ bt (a v) b = true) (h2 : bt (a' v) b = true) (h : ∀ s b, 3 ≤ s → s < 7 → bt (a s) b = true → bt (a' s) b = true) : sw_c a < sw_c a' := by
  have e1 : ((v - 3) * 4 + b) / 4 + 3 = v := by omega
  have e2 : ((v - 3) * 4 + b) % 4 = b := by omega
  refine cn_lt (a := (v - 3) * 4 + b) (by rw [e1, e2]; exact h1) (by rw [e1, e2]; exact h2) (fun k hk z => h _ _ (by omega) (by omega) z) (by omega)
theorem sw_full {a : Nat → Int32} (h : sw_c a = 16) {v b : Nat} (h3 : 3 ≤ v) (h7 : v < 7) (hb : b < 4) : bt (a v) b = true := by
  have := cn_full h ((v - 3) * 4 + b) (by omega)
  rwa [show ((v - 3) * 4 + b) / 4 + 3 = v by omega, show ((v - 3) * 4 + b) % 4 = b by omega] at this
theorem sw_eq {a a' : Nat → Int32} (h : ∀ s, 3 ≤ s → s < 7 → a s = a' s) : sw_c a = sw_c a' := cn_eq fun k hk => by rw [h (k / 4 + 3) (by omega) (by omega)]
/-- rule r adds nothing to the begins -/
def xb_s (g : rg_T) (r : Nat) (a : Nat → Int32) : Prop := us_U g r → ∀ b, fs_b (xb_F a) (rg_h g r) (rg_c g r) 0 b → bt (a (rg_l g r)) b = true
def xb_I (g : rg_T) (m n : Nat) (a : Nat → Int32) : Prop := xb_4 a ∧ (∀ s b, s < 3 → (bt (a s) b = true ↔ b = s)) ∧ (∀ s b, s < 7 → bt (a s) b = true → fi_F g s b) ∧ rd_J m (xb_s g) sw_c n a
/-- the begins: the least sets -/
def xb_ok (g : rg_T) (a : Nat → Int32) : Prop := ∀ s b, s < 7 → (bt (a s) b = true ↔ fi_F g s b)
theorem fs_mono7 {F F' : Nat → Nat → Prop} {h : Nat → Nat} {N : Nat} (hh : ∀ k, k < N → h k < 7) (hF : ∀ s b, s < 7 → F s b → F' s b) : ∀ c p b, p + c ≤ N → fs_b F h c p b → fs_b F' h c p b := by
  intro c
  induction c with
  | zero => intro p b _ z; exact z
  | succ c ih =>
    intro p b hp z
    rcases z with ⟨z1, z2⟩ | ⟨z1, z2⟩
    · exact Or.inl ⟨z1, hF _ _ (hh p (by omega)) z2⟩
    · exact Or.inr ⟨hF _ _ (hh p (by omega)) z1, ih _ _ (by omega) z2⟩
theorem xb_end (hg : rg_ok g) {m n : Nat} {a : Nat → Int32} (h : xb_I g m n a) (hm : rg_n g ≤ m) (hn : m * 16 ≤ n) : xb_ok g a := by
  obtain ⟨h1, h2, h3, h4⟩ := h
  have cl := rd_end h4 (cn_le _ 16) hn (fun e r hr hU b hb => by
    have l := hg.2.1 r hU.1
    exact sw_full e l.1 l.2.1 (by have := fs_le _ _ _ hb; omega))
  intro s b hs
  refine ⟨h3 s b hs, fun z => ?_⟩
  have := z (fun s b => s < 7 → bt (a s) b = true) ⟨fun s hs _ => (h2 s s hs).mpr rfl, fun r b hU hb h7 => ?_⟩
  · exact this hs
  · have hU : us_U g r := hU
    exact cl r (by have := hU.1; omega) hU b (fs_mono7 (N := rg_c g r) (hg.2.1 r hU.1).2.2.2 (fun s b hs z => z hs) _ _ _ (by show 0 + rg_c g r ≤ rg_c g r; omega) hb)
theorem xb_step (hg : rg_ok g) {m n r : Nat} {a : Nat → Int32} {x : Int32} (h : xb_I g m n a) (hm : 0 < m) (hn : n % m = r) (hU : us_U g r) (hx : ∀ b, bt x b = true ↔ fs_b (xb_F a) (rg_h g r) (rg_c g r) 0 b) : xb_I g m (n + 1) (upd a (rg_l g r) (a (rg_l g r) ||| x)) := by
  obtain ⟨h1, h2, h3, h4⟩ := h
  have l := hg.2.1 r hU.1
  have e : ∀ s b, bt (upd a (rg_l g r) (a (rg_l g r) ||| x) s) b = true ↔ bt (a s) b = true ∨ (s = rg_l g r ∧ fs_b (xb_F a) (rg_h g r) (rg_c g r) 0 b) := by
    intro s b
    by_cases z : s = rg_l g r
    · subst z
      rw [pk_us, b_or, Bool.or_eq_true, hx]
      exact ⟨fun y => y.imp id (fun y => ⟨rfl, y⟩), fun y => y.imp id (fun y => y.2)⟩
    · rw [pk_un z]
      exact ⟨Or.inl, fun y => by
        rcases y with y | y
        · exact y
        · exact absurd y.1 z⟩
  refine ⟨fun s b hs hb => ?_, fun s b hs => ?_, fun s b hs hb => ?_, ?_⟩
  · rcases (e s b).mp hb with z | z
    · exact h1 s b hs z
    · have := fs_le _ _ _ z.2; omega
  · rw [e s b, h2 s b hs]
    exact ⟨fun y => by
      rcases y with y | y
      · exact y
      · omega, Or.inl⟩
  · rcases (e s b).mp hb with z | ⟨rfl, z⟩
    · exact h3 s b hs z
    · exact (fi_ok g).2 r b hU (fs_mono7 (N := rg_c g r) l.2.2.2 h3 _ _ _ (by show 0 + rg_c g r ≤ rg_c g r; omega) z)
  · by_cases hs : xb_s g r a
    · have es : upd a (rg_l g r) (a (rg_l g r) ||| x) = a := by
        funext s
        apply b_ext
        intro b _
        cases w : bt (a s) b
        · cases w2 : bt (upd a (rg_l g r) (a (rg_l g r) ||| x) s) b
          · rfl
          · rcases (e s b).mp w2 with k | ⟨rfl, k⟩
            · rw [w] at k; cases k
            · rw [hs hU b k] at w; cases w
        · exact (e s b).mpr (Or.inl w)
      rw [es]
      exact rd_keep hm h4 (by rw [hn]; exact hs)
    · refine rd_grow hm h4 (by rw [hn]; exact hs) ?_
      have : ∃ b, fs_b (xb_F a) (rg_h g r) (rg_c g r) 0 b ∧ ¬ bt (a (rg_l g r)) b = true := by
        refine Classical.byContradiction fun z => hs fun _ b k => ?_
        refine Classical.byContradiction fun y => z ⟨b, k, y⟩
      obtain ⟨b, k1, k2⟩ := this
      exact sw_lt l.1 l.2.1 (by have := fs_le _ _ _ k1; omega) k2 ((e _ _).mpr (Or.inr ⟨rfl, k1⟩)) (fun s b _ _ hb => (e s b).mpr (Or.inl hb))
theorem xw_findBegins (hg : rg_ok g) (hG : xg_G g a_lefts a_rights a_rightSizes) (hU : xg_U g f_rulesInUse) {post : SX → Prop} (h : ∀ a, xb_ok g a → xb_4 a → post (f_depth, f_made, f_textLength, f_tokenCount, f_wrongPlace, (nI (rg_n g)), f_prepared, f_rulesInUse, f_stateCount, f_wideCount, f_gradeFound, f_readHeight, f_tokensTaken, f_usedCount, a_spotCounts, a_ends, a_arrows, a_takers, a_groups, a_marks, a_text, a_tokenKinds, a_tokenLengths, a_lefts, a_rights, a_rightSizes, a, a_followSets, a_nextItems, a_openItems, a_restItems, a_stateItems, a_stateSteps, a_stateLooks, a_wideSteps, a_wideLooks, a_readStates, a_readValues, a_usedRules)) : wpX_findBegins post (f_depth, f_made, f_textLength, f_tokenCount, f_wrongPlace, (nI (rg_n g)), f_prepared, f_rulesInUse, f_stateCount, f_wideCount, f_gradeFound, f_readHeight, f_tokensTaken, f_usedCount, a_spotCounts, a_ends, a_arrows, a_takers, a_groups, a_marks, a_text, a_tokenKinds, a_tokenLengths, a_lefts, a_rights, a_rightSizes, a_beginSets, a_followSets, a_nextItems, a_openItems, a_restItems, a_stateItems, a_stateSteps, a_stateLooks, a_wideSteps, a_wideLooks, a_readStates, a_readValues, a_usedRules) := by
  have h9 := hg.1
  refine loop_0 (fun f i s => wX_findBegins_2 post f_depth f_made f_textLength f_tokenCount f_wrongPlace (nI (rg_n g)) f_prepared f_rulesInUse f_stateCount f_wideCount f_gradeFound f_readHeight f_tokensTaken f_usedCount f (nI i) a_spotCounts a_ends a_arrows a_takers a_groups a_marks a_text a_tokenKinds a_tokenLengths a_lefts a_rights a_rightSizes s a_followSets a_nextItems a_openItems a_restItems a_stateItems a_stateSteps a_stateLooks a_wideSteps a_wideLooks a_readStates a_readValues a_usedRules) (fun i s => ∀ s', s' < i → ∀ b, bt (s s') b = true ↔ s' < 3 ∧ b = s') 7 a_beginSets (fun s' hs => absurd hs (Nat.not_lt_zero s')) ?_ ?_
  · intro f s hs
    refine br_t (nI_le (Nat.le_refl 7) (by decide)) ?_
    refine loop_0 (fun f q s => wX_findBegins_34 post f_depth f_made f_textLength f_tokenCount f_wrongPlace (nI (rg_n g)) f_prepared f_rulesInUse f_stateCount f_wideCount f_gradeFound f_readHeight f_tokensTaken f_usedCount f (nI q) a_spotCounts a_ends a_arrows a_takers a_groups a_marks a_text a_tokenKinds a_tokenLengths a_lefts a_rights a_rightSizes s a_followSets a_nextItems a_openItems a_restItems a_stateItems a_stateSteps a_stateLooks a_wideSteps a_wideLooks a_readStates a_readValues a_usedRules) (fun q s => xb_I g (rg_n g) (q * rg_n g) s) 16 s ?_ ?_ ?_
    · refine ⟨fun s' b h7 hb => ?_, fun s' b h3 => ?_, fun s' b h7 hb => ?_, by rw [Nat.zero_mul]; exact rd_i⟩
      · obtain ⟨_, rfl⟩ := (hs s' h7 b).mp hb; omega
      · rw [hs s' (by omega) b]; exact ⟨fun z => z.2, fun z => ⟨h3, z⟩⟩
      · obtain ⟨z, rfl⟩ := (hs s' h7 b).mp hb
        exact (fi_ok g).1 _ z
    · intro f s hs
      exact br_t (nI_le (Nat.le_refl 16) (by decide)) (h s (xb_end hg hs (Nat.le_refl _) (by omega)) hs.1)
    · intro f q s hq hs hk
      refine br_f (nI_ge hq (by decide)) ?_
      refine loop_0 (fun f' r s => wX_findBegins_42 post (wX_findBegins_34 post f_depth f_made f_textLength f_tokenCount f_wrongPlace (nI (rg_n g)) f_prepared f_rulesInUse f_stateCount f_wideCount f_gradeFound f_readHeight f_tokensTaken f_usedCount f) (nI q) f_depth f_made f_textLength f_tokenCount f_wrongPlace (nI (rg_n g)) f_prepared f_rulesInUse f_stateCount f_wideCount f_gradeFound f_readHeight f_tokensTaken f_usedCount f' (nI r) a_spotCounts a_ends a_arrows a_takers a_groups a_marks a_text a_tokenKinds a_tokenLengths a_lefts a_rights a_rightSizes s a_followSets a_nextItems a_openItems a_restItems a_stateItems a_stateSteps a_stateLooks a_wideSteps a_wideLooks a_readStates a_readValues a_usedRules) (fun r s => xb_I g (rg_n g) (q * rg_n g + r) s) (rg_n g) s hs ?_ ?_
      · intro f' s hs
        refine br_t (nI_le (Nat.le_refl _) (by omega)) (nm_r (nI_1 q) (hk s ?_))
        rw [Nat.succ_mul]; exact hs
      · intro f' r s hr hs hk2
        obtain ⟨b1, b2, b3, b4, b5⟩ := rg_b hg (Or.inl hr)
        obtain ⟨g1, g2, g3⟩ := hG r (Or.inl hr)
        have hl7 := (hg.2.1 r hr).2.1
        have cr : (nI r).toNatClampNeg = r := nI_clamp (by omega)
        have cl : (nI (rg_l g r)).toNatClampNeg = rg_l g r := nI_clamp (by omega)
        refine br_f (nI_ge hr (by omega)) (br_c (fun z => ?_) (fun z => ?_))
        · have z := (b_test f_rulesInUse (n := r) (by omega)).mp z
          have hUr : us_U g r := by
            rcases (hU r).mp z with y | y
            · exact y
            · omega
          refine br_f (by decide) ⟨vp_in_nI (by omega) (by decide), ?_⟩
          rw [cr, g1]
          refine ⟨vp_in_nI hl7 (by decide), xw_beginsFrom (p := 0) hg hG hs.1 (Or.inl hr) (Nat.zero_le _) (fun x hx => ⟨vp_in_nI hl7 (by decide), nm_r (by rw [cl]) (nm_r (nI_1 r) (hk2 _ ?_))⟩)⟩
          exact xb_step hg hs (by omega) (md_r hr) hUr hx
        · have z : ¬ us_U g r := fun y => z ((b_test f_rulesInUse (by omega)).mpr ((hU r).mpr (Or.inl y)))
          refine br_t rfl (nm_r (nI_1 r) (hk2 _ ⟨hs.1, hs.2.1, hs.2.2.1, rd_kr hr hs.2.2.2 ?_⟩))
          exact fun y => absurd y z
  · intro f i s hi hs hk
    refine br_f (nI_ge hi (by decide)) (pk_le 3 i (fun z => ?_) (fun z => ?_))
    · refine ⟨vp_in_nI hi (by decide), nm_r (by rw [nI_clamp (by omega)]) (nm_r (nI_1 i) (hk _ fun s' h1 b => ?_))⟩
      by_cases e : s' = i
      · subst e; rw [pk_us, b_0]; exact ⟨(fun y => by cases y), fun y => by omega⟩
      · rw [pk_un e]; exact hs s' (by omega) b
    · refine ⟨vp_in_nI hi (by decide), nm_r (by rw [nI_clamp (by omega)]) (nm_r (nI_1 i) (hk _ fun s' h1 b => ?_))⟩
      by_cases e : s' = i
      · subst e; rw [pk_us, b_one _ (by omega), decide_eq_true_eq]; exact ⟨fun y => ⟨z, y⟩, fun y => y.2⟩
      · rw [pk_un e]; exact hs s' (by omega) b
end
