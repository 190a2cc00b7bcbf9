/-! what a grade says of reading, and the reference's answers about a text -/
noncomputable def nx_of {α : Type} (to : α → Nat → Option α) (f : Nat → α) (n : Nat) : lr_N := fun q x =>
  @dite _ (q < n ∧ x < 7 ∧ ∃ q', q' < n ∧ to (f q) x = some (f q')) (Classical.propDecidable _) (fun h => some (Classical.choose h.2.2)) (fun _ => none)
theorem nx_ok {α : Type} {to : α → Nat → Option α} {f : Nat → α} {n : Nat} (hi : ∀ s t, s < n → t < n → f s = f t → s = t) (q x q' : Nat) : nx_of to f n q x = some q' ↔ q < n ∧ x < 7 ∧ q' < n ∧ to (f q) x = some (f q') := by
  unfold nx_of
  by_cases h : q < n ∧ x < 7 ∧ ∃ q', q' < n ∧ to (f q) x = some (f q')
  · rw [dif_pos h]
    have sp := Classical.choose_spec h.2.2
    constructor
    · intro e
      have e := Option.some.inj e
      rw [e] at sp
      exact ⟨h.1, h.2.1, sp⟩
    · rintro ⟨_, _, h3, h4⟩
      have := Option.some.inj (sp.2.symm.trans h4)
      exact congrArg some (hi _ _ sp.1 h3 this)
  · rw [dif_neg h]
    exact ⟨(fun e => by cases e), fun e => absurd ⟨e.1, e.2.1, q', e.2.2⟩ h⟩
/-- a grade at which texts are read -/
def rd_g (r : Int32) : Prop := ¬ r < 0 ∧ ¬ 4 ≤ r
theorem rd_A {g : rg_T} (hg : rg_ok g) {r : Int32} (h : yg_R g r) (hr : rd_g r) : (∃ r, us_U g r) ∧ ∃ lk nx, lr_A (tg_G g) (fi_F g) lk nx := by
  rcases h with ⟨_, rfl⟩ | ⟨_, _, rfl⟩ | ⟨hu, f, n, hf, hn, h⟩
  · exact absurd (by decide) hr.1
  · exact absurd (by decide) hr.1
  · refine ⟨hu, ?_⟩
    have ff := fin_full hf
    have two : ¬ cs_2 g f n → ∃ lk nx, lr_A (tg_G g) (fi_F g) lk nx := fun z => ⟨tb_lk g f n, nx_of (tb_to g) f n, tb_A hg ff (nx_ok ff.2.2.1) z⟩
    rcases h with ⟨z, _⟩ | ⟨_, z, _⟩ | ⟨_, _, z, _⟩ | ⟨_, _, _, _, rfl⟩ | ⟨_, _, _, fw, nw, h1, h2, ⟨z, _⟩ | ⟨_, rfl⟩⟩
    · exact two fun y => z (cs_20 y)
    · exact two fun y => z (cs_21 hg ff y)
    · exact two z
    · exact absurd (by decide) hr.1
    · have fw' := fin_fullw h1
      exact ⟨tw_lk fw nw, nx_of (tw_to g) fw nw, tw_A hg fw' (nx_ok fw'.2.2.1) z⟩
    · exact absurd (by decide) hr.2
theorem rd_one {g : rg_T} (hg : rg_ok g) {r : Int32} (h : yg_R g r) (hr : rd_g r) {X : tx_T} (hX : tx_ok X) (len : Nat → Int32) : cx_one (tg_G g) X len := by
  obtain ⟨_, lk, nx, hA⟩ := rd_A hg h hr
  exact fun d e v w a b => lr_one (tg_ok hg) hX (fi_ok g) hA (vt_ok len) a b
theorem er_all {G : gr_T} {X : tx_T} {i j r p : Nat} (h : er_E G X i j r p) : ∀ m, m < j → er_S G X m := by
  refine er_ind (fun i j r p => ∀ m, m < j → er_S G X m) (fun m hm => absurd hm (Nat.not_lt_zero _)) ?_ ?_ ?_ h
  · intro i j r p r' _ a _ _ _; exact a
  · intro i j r p a b c d e m hm
    by_cases z : m = j
    · subst z; exact ⟨d, i, r, p, a, c, e⟩
    · exact b m (by omega)
  · intro i m j r p r' _ _ _ _ a _ _; exact a
theorem er_D {G : gr_T} {X : tx_T} (hG : gr_ok G) (hX : tx_ok X) {j : Nat} : er_E G X 0 j 9 1 ↔ dv_D G X 3 0 j := by
  constructor
  · intro h
    obtain ⟨m, a, b⟩ := (er_sound hX hG h).1
    have a : 0 = m := a
    subst a
    rw [hG.2.2.2.2] at b
    exact b
  · intro h
    obtain ⟨d, z⟩ := h
    exact er_step d 3 0 j () z 0 9 0 (er_self G X).1 (by rw [hG.2.2.2.1]; omega) hG.2.2.2.2
/-- the first place at which the text cannot go on -/
def rr_n (G : gr_T) (X : tx_T) (n : Nat) : Prop := n ≤ X.2 ∧ (∀ m, m < n → er_S G X m) ∧ (n < X.2 → ¬ er_S G X n)
theorem rr_one {G : gr_T} {X : tx_T} {n n' : Nat} (h : rr_n G X n) (h' : rr_n G X n') : n = n' := by
  rcases Nat.lt_trichotomy n n' with z | z | z
  · exact absurd (h'.2.1 n z) (h.2.2 (by have := h'.1; omega))
  · exact z
  · exact absurd (h.2.1 n' z) (h'.2.2 (by have := h.1; omega))
theorem rr_D {G : gr_T} {X : tx_T} (hG : gr_ok G) (hX : tx_ok X) {n : Nat} (h : rr_n G X n) (hD : dv_D G X 3 0 X.2) : n = X.2 := rr_one h ⟨Nat.le_refl _, er_all ((er_D hG hX).mpr hD), fun z => absurd z (Nat.lt_irrefl _)⟩
variable {h_made h_depth h_length h_tokenCount h_wrong h_letterCount h_ruleCount h_makingCount h_usefulRules h_stateCount h_wideCount h_useCount h_result : Int32} {b_ops b_firsts b_seconds b_sizes b_stack b_roots b_text b_ends b_tokenKinds b_tokenSizes b_letters b_begins b_closes b_empties b_nexts b_sets b_leads b_classes b_newClasses b_lefts b_rights b_counts b_making b_firstSets b_followSets b_tasks b_held b_uses b_reach : Nat → Int32} {b_states b_looks b_wides b_work b_met : Nat → Int64}
section
variable {g : rg_T}
/-- the text's tokens -/
noncomputable def tk_w (kd : Nat → gk_T) (t : Nat → Nat) (n : Nat) (i : Nat) : Nat := ct_k kd t n (ct_p kd t n i)
noncomputable def tk_l (kd : Nat → gk_T) (t : Nat → Nat) (n : Nat) (i : Nat) : Int32 := nI (ct_n kd t n (ct_p kd t n i))
theorem yw_prepare (hg : rg_ok g) (hG : xg_G g b_lefts b_rights b_counts) (hl : ∀ r, r < 9 → ∃ v, v < 7 ∧ b_lefts r = nI v) {m n : Nat} {ga : Nat → gk_T} {lo op fi se : Nat → Nat} {t : Nat → Nat} {kd : Nat → gk_T} (hN : yn_N m ga lo op fi se b_ops b_firsts b_seconds b_sizes) (hm : m ≤ 60) (hn : n ≤ 24) (ht : ∀ i, i < n → b_text i = nI (t i) ∧ t i < 3) (hR : yn_R m ga b_roots kd) {post : Int32 → SY → Prop}
    (h : ∀ r u sc wc fs fo st ls wi wo e c K S, yg_R g r → yg_U g u → ct_ok kd t n c K S → (rd_g r → post 1 ((nI m), h_depth, (nI n), (nI c), (ct_w kd t n c), h_letterCount, (nI (rg_n g)), h_makingCount, u, sc, wc, h_useCount, h_result, b_ops, b_firsts, b_seconds, b_sizes, b_stack, b_roots, b_text, e, K, S, b_letters, b_begins, b_closes, b_empties, b_nexts, b_sets, b_leads, b_classes, b_newClasses, b_lefts, b_rights, b_counts, b_making, fs, fo, st, ls, wi, wo, b_met, b_tasks, b_held, b_uses, b_reach)) ∧ (¬ rd_g r → post 0 ((nI m), h_depth, (nI n), (nI c), (ct_w kd t n c), h_letterCount, (nI (rg_n g)), h_makingCount, u, sc, wc, h_useCount, h_result, b_ops, b_firsts, b_seconds, b_sizes, b_stack, b_roots, b_text, e, K, S, b_letters, b_begins, b_closes, b_empties, b_nexts, b_sets, b_leads, b_classes, b_newClasses, b_lefts, b_rights, b_counts, b_making, fs, fo, st, ls, wi, wo, b_met, b_tasks, b_held, b_uses, b_reach))) : wpY_prepare post ((nI m), h_depth, (nI n), h_tokenCount, h_wrong, h_letterCount, (nI (rg_n g)), h_makingCount, h_usefulRules, h_stateCount, h_wideCount, h_useCount, h_result, b_ops, b_firsts, b_seconds, b_sizes, b_stack, b_roots, b_text, b_ends, b_tokenKinds, b_tokenSizes, b_letters, b_begins, b_closes, b_empties, b_nexts, b_sets, b_leads, b_classes, b_newClasses, b_lefts, b_rights, b_counts, b_making, b_firstSets, b_followSets, b_states, b_looks, b_wides, b_work, b_met, b_tasks, b_held, b_uses, b_reach) := by
  refine yw_findGrade (h_usefulRules := h_usefulRules) (h_stateCount := h_stateCount) (h_wideCount := h_wideCount) (b_firstSets := b_firstSets) (b_followSets := b_followSets) (b_states := b_states) (b_looks := b_looks) (b_wides := b_wides) (b_work := b_work) hg hG hl (fun r u sc wc fs fo st ls wi wo h1 h2 h3 h4 => ?_)
  refine yw_cut hN hm hn ht hR (fun e c K S h5 => ?_)
  obtain ⟨a, b⟩ := h r u sc wc fs fo st ls wi wo e c K S h1 h2 h5
  exact br_c (fun z => b fun q => q.1 z) (fun z => br_c (fun y => b fun q => q.2 y) (fun y => a ⟨z, y⟩))
theorem tk_ok {kd : Nat → gk_T} {t : Nat → Nat} {n c : Nat} {K S : Nat → Int32} (hn : n ≤ 24) (h : ct_ok kd t n c K S) : c ≤ 24 ∧ (∀ i, i < c → K i = nI (tk_w kd t n i) ∧ tk_w kd t n i < 3) ∧ (∀ i, i < c → S i = tk_l kd t n i) ∧ tx_ok (tk_w kd t n, c) :=
  ⟨ct_C_24 hn h.1.1, fun i hi => ⟨(h.2 i hi).1, ct_k3 _⟩, fun i hi => (h.2 i hi).2, fun i _ => ct_k3 _⟩
theorem yw_isSentence (hg : rg_ok g) (hG : xg_G g b_lefts b_rights b_counts) (hl : ∀ r, r < 9 → ∃ v, v < 7 ∧ b_lefts r = nI v) {m n : Nat} {ga : Nat → gk_T} {lo op fi se : Nat → Nat} {t : Nat → Nat} {kd : Nat → gk_T} (hN : yn_N m ga lo op fi se b_ops b_firsts b_seconds b_sizes) (hm : m ≤ 60) (hn : n ≤ 24) (ht : ∀ i, i < n → b_text i = nI (t i) ∧ t i < 3) (hR : yn_R m ga b_roots kd) {post : Int32 → SY → Prop}
    (h0 : ∀ r u sc wc fs fo st ls wi wo e c K S M, yg_R g r → ct_ok kd t n c K S → ¬ (rd_g r ∧ ct_w kd t n c = -4 ∧ dv_D (tg_G g) (tk_w kd t n, c) 3 0 c) → post 0 ((nI m), h_depth, (nI n), (nI c), (ct_w kd t n c), h_letterCount, (nI (rg_n g)), h_makingCount, u, sc, wc, h_useCount, h_result, b_ops, b_firsts, b_seconds, b_sizes, b_stack, b_roots, b_text, e, K, S, b_letters, b_begins, b_closes, b_empties, b_nexts, b_sets, b_leads, b_classes, b_newClasses, b_lefts, b_rights, b_counts, b_making, fs, fo, st, ls, wi, wo, M, b_tasks, b_held, b_uses, b_reach))
    (h1 : ∀ r u sc wc fs fo st ls wi wo e c K S M, yg_R g r → yg_U g u → ct_ok kd t n c K S → rd_g r → ct_w kd t n c = -4 → dv_D (tg_G g) (tk_w kd t n, c) 3 0 c → ym_M g (tk_w kd t n) c M → post 1 ((nI m), h_depth, (nI n), (nI c), (ct_w kd t n c), h_letterCount, (nI (rg_n g)), h_makingCount, u, sc, wc, h_useCount, h_result, b_ops, b_firsts, b_seconds, b_sizes, b_stack, b_roots, b_text, e, K, S, b_letters, b_begins, b_closes, b_empties, b_nexts, b_sets, b_leads, b_classes, b_newClasses, b_lefts, b_rights, b_counts, b_making, fs, fo, st, ls, wi, wo, M, b_tasks, b_held, b_uses, b_reach)) : wpY_isSentence post ((nI m), h_depth, (nI n), h_tokenCount, h_wrong, h_letterCount, (nI (rg_n g)), h_makingCount, h_usefulRules, h_stateCount, h_wideCount, h_useCount, h_result, b_ops, b_firsts, b_seconds, b_sizes, b_stack, b_roots, b_text, b_ends, b_tokenKinds, b_tokenSizes, b_letters, b_begins, b_closes, b_empties, b_nexts, b_sets, b_leads, b_classes, b_newClasses, b_lefts, b_rights, b_counts, b_making, b_firstSets, b_followSets, b_states, b_looks, b_wides, b_work, b_met, b_tasks, b_held, b_uses, b_reach) := by
  delta wpY_isSentence
  refine yw_prepare hg hG hl hN hm hn ht hR (fun r u sc wc fs fo st ls wi wo e c K S hr hU hc => ?_)
  refine ⟨fun z => br_f (by decide) ?_, fun z => br_t rfl (h0 r u sc wc fs fo st ls wi wo e c K S b_met hr hc fun q => z q.1)⟩
  obtain ⟨c24, hw, _, hX⟩ := tk_ok hn hc
  refine br_c (fun y => ?_) (fun y => h0 r u sc wc fs fo st ls wi wo e c K S b_met hr hc fun q => y q.2.1)
  refine yw_meet (b_tokenKinds := K) hg hG hU c24 hw (fun n' M n1 n2 n3 hM => ?_)
  have rr : rr_n (tg_G g) (tk_w kd t n, c) n' := ⟨n1, n2, n3⟩
  refine pk_eq n' c (fun q => ?_) (fun q => h0 r u sc wc fs fo st ls wi wo e c K S M hr hc fun p => q (rr_D (tg_ok hg) hX rr p.2.2))
  subst q
  have ix : (25 : Int32) * nI n' = nI (n' * 25 + 0) := by rw [Nat.add_zero, Nat.mul_comm]; exact pk_mul 25 n'
  refine ⟨pk_in (n' * 25 + 0) 625 (by omega) ix, ?_⟩
  rw [pk_cl (n' * 25 + 0) ix]
  have b := hM n' 0 46 (Nat.le_refl _) (Nat.zero_le _)
  have b : bl (M (n' * 25 + 0)) 46 = true ↔ er_E (tg_G g) (tk_w kd t n, n') 0 n' 9 1 := b
  rw [er_D (tg_ok hg) hX] at b
  have te := bl_test (M (n' * 25 + 0)) (n := 46) (by decide)
  exact br_c (fun q => h1 r u sc wc fs fo st ls wi wo e n' K S M hr hU hc z y (b.mp (te.mp q)) hM) (fun q => h0 r u sc wc fs fo st ls wi wo e n' K S M hr hc fun p => q (te.mpr (b.mpr p.2.2)))
theorem dv_len {G : gr_T} {X : tx_T} {len len' : Nat → Int32} (he : ∀ i, i < X.2 → len i = len' i) : ∀ d s i j v, dv_tr G X (vt_A len) d s i j v → dv_tr G X (vt_A len') d s i j v := by
  intro d
  induction d with
  | zero =>
    intro s i j v z
    obtain ⟨a, b, c, e, rfl⟩ := z
    refine ⟨a, b, c, e, ?_⟩
    show (([], len i, 0, 1) : vt_T) = ([], len' i, 0, 1)
    rw [he i b]
  | succ d ih =>
    intro s i j v z
    rcases z with z | ⟨r, vs, a, b, z, rfl⟩
    · exact Or.inl (ih _ _ _ _ z)
    · exact Or.inr ⟨r, vs, a, b, dv_pre_mono (fun _ _ _ _ q => ih _ _ _ _ q) _ _ _ _ z, rfl⟩
theorem dv_lim (hg : rg_ok g) {X : tx_T} (hn : X.2 ≤ 24) {len : Nat → Int32} (h1 : cx_one (tg_G g) X len) {d : Nat} {v : vt_T} (z : dv_tr (tg_G g) X (vt_A len) d 3 0 X.2 v) : vt_sz v ≤ 98389 ∧ v.1.length ≤ 98389 := by
  obtain ⟨v', a, b⟩ := gd_24 (A := vt_A len) (tg_ok hg) (vt_ok len) hn (dv_D_of z) (Nat.zero_le _)
  have e := h1 _ _ _ _ z a
  subst e
  have := vt_len _ _ _ _ _ z
  omega
theorem yw_build (hg : rg_ok g) (hG : xg_G g b_lefts b_rights b_counts) (hl : ∀ r, r < 9 → ∃ v, v < 7 ∧ b_lefts r = nI v) {m n : Nat} {ga : Nat → gk_T} {lo op fi se : Nat → Nat} {t : Nat → Nat} {kd : Nat → gk_T} (hN : yn_N m ga lo op fi se b_ops b_firsts b_seconds b_sizes) (hm : m ≤ 60) (hn : n ≤ 24) (ht : ∀ i, i < n → b_text i = nI (t i) ∧ t i < 3) (hR : yn_R m ga b_roots kd) {post : Int32 → SY → Prop}
    (h0 : ∀ r u sc wc fs fo st ls wi wo e c K S M, yg_R g r → ct_ok kd t n c K S → ¬ (rd_g r ∧ ct_w kd t n c = -4 ∧ dv_D (tg_G g) (tk_w kd t n, c) 3 0 c) → post 0 ((nI m), h_depth, (nI n), (nI c), (ct_w kd t n c), h_letterCount, (nI (rg_n g)), h_makingCount, u, sc, wc, h_useCount, h_result, b_ops, b_firsts, b_seconds, b_sizes, b_stack, b_roots, b_text, e, K, S, b_letters, b_begins, b_closes, b_empties, b_nexts, b_sets, b_leads, b_classes, b_newClasses, b_lefts, b_rights, b_counts, b_making, fs, fo, st, ls, wi, wo, M, b_tasks, b_held, b_uses, b_reach))
    (h1 : ∀ r u sc wc fs fo st ls wi wo e c K S M T H Us R d v, yg_R g r → ct_ok kd t n c K S → rd_g r → ct_w kd t n c = -4 → dv_tr (tg_G g) (tk_w kd t n, c) (vt_A (tk_l kd t n)) d 3 0 c v → v.1.length ≤ 98389 → yb_us v.1 Us → post 1 ((nI m), h_depth, (nI n), (nI c), (ct_w kd t n c), h_letterCount, (nI (rg_n g)), h_makingCount, u, sc, wc, (nI v.1.length), v.2.1, b_ops, b_firsts, b_seconds, b_sizes, b_stack, b_roots, b_text, e, K, S, b_letters, b_begins, b_closes, b_empties, b_nexts, b_sets, b_leads, b_classes, b_newClasses, b_lefts, b_rights, b_counts, b_making, fs, fo, st, ls, wi, wo, M, T, H, Us, R)) : wpY_build post ((nI m), h_depth, (nI n), h_tokenCount, h_wrong, h_letterCount, (nI (rg_n g)), h_makingCount, h_usefulRules, h_stateCount, h_wideCount, h_useCount, h_result, b_ops, b_firsts, b_seconds, b_sizes, b_stack, b_roots, b_text, b_ends, b_tokenKinds, b_tokenSizes, b_letters, b_begins, b_closes, b_empties, b_nexts, b_sets, b_leads, b_classes, b_newClasses, b_lefts, b_rights, b_counts, b_making, b_firstSets, b_followSets, b_states, b_looks, b_wides, b_work, b_met, b_tasks, b_held, b_uses, b_reach) := by
  delta wpY_build
  refine yw_isSentence hg hG hl hN hm hn ht hR (fun r u sc wc fs fo st ls wi wo e c K S M a1 a2 a3 => ?_) (fun r u sc wc fs fo st ls wi wo e c K S M hr hU hc hrd hcw hD hM => ?_)
  · exact br_t rfl (h0 r u sc wc fs fo st ls wi wo e c K S M a1 a2 a3)
  refine br_f (by decide) ?_
  obtain ⟨c24, hw, hS, hX⟩ := tk_ok hn hc
  have one := rd_one hg hr hrd hX S
  obtain ⟨d0, u0, z0⟩ := dv_D_to (vt_A S) hD
  have dv : er_dv (tg_G g) (tk_w kd t n, c) 3 0 c := er_dv_of (tg_ok hg) z0 (er_self _ _).1 (by show 0 < rg_c g 9; rw [hg.2.2.2.1]; omega) hg.2.2.2.2
  obtain ⟨Kn, d, v, z, run⟩ := yw_run (h_made := nI m) (h_depth := h_depth) (h_length := nI n) (h_tokenCount := nI c) (h_wrong := ct_w kd t n c) (h_ruleCount := nI (rg_n g)) (h_stateCount := sc) (h_wideCount := wc) (b_ends := e) (b_tokenKinds := K) (b_tokenSizes := S) (b_firstSets := fs) (b_followSets := fo) (b_states := st) (b_looks := ls) (b_wides := wi) (b_work := wo) (b_met := M) (post := post) hg hG hU c24 hw hM one (vt_sz u0) 0 3 0 c d0 u0 z0 (Nat.le_refl _) cx_root dv (by decide) (Nat.zero_le _)
  have lim := dv_lim hg c24 one z
  have e1 : (((0 : Int32) * 16 + 3) * 32 + 0) * 32 + nI c = yb_c 0 3 0 c := yb_cd 0 3 0 c
  refine nm_r (e' := upd b_tasks 0 (yb_c 0 3 0 c)) (by rw [e1]) ⟨1 + Kn, ?_⟩
  refine run 1 0 0 (upd b_tasks 0 (yb_c 0 3 0 c)) b_held b_reach b_uses [] (by omega) (by omega) (by show 0 + vt_sz v ≤ 2 ^ 29; omega) pk_us (fun q x hx => by rw [List.getElem?_nil] at hx; cases hx) (fun T H R Us _ _ k3 k4 => ?_)
  refine br_t (by decide) (nm_r (e' := v.2.1) k3 ?_)
  exact h1 r u sc wc fs fo st ls wi wo e c K S M T H Us R d v hr hc hrd hcw (dv_len (len := S) hS _ _ _ _ _ z) lim.2 k4
end
