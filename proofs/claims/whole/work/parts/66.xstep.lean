/-! one step of the component's reading -/
variable {f_depth f_made f_textLength f_tokenCount f_wrongPlace f_ruleCount f_prepared f_rulesInUse f_stateCount f_wideCount f_gradeFound f_readHeight f_tokensTaken f_usedCount : Int32} {a_spotCounts a_ends a_arrows a_takers a_groups a_marks a_text a_tokenKinds a_tokenLengths a_lefts a_rights a_rightSizes a_beginSets a_followSets a_stateSteps a_wideSteps a_readStates a_readValues a_usedRules : Nat → Int32} {a_nextItems a_openItems a_restItems a_stateItems a_stateLooks a_wideLooks : Nat → Int64}
section
variable {g : rg_T}
/-- the arrays hold the reader's tables -/
def xr_T (lk : lr_K) (nx : lr_N) (n : Nat) (looks : Nat → Int64) (steps : Nat → Int32) : Prop := 1 ≤ n ∧ (∀ q t k, q < n → t < 4 → (bl (looks (q * 4 + t)) k = true ↔ lk q (k / 5) (k % 5) t)) ∧ ∀ q x, q < n → x < 7 → (nx q x = none ∧ steps (q * 7 + x) = -1) ∨ ∃ q', q' < n ∧ nx q x = some q' ∧ steps (q * 7 + x) = nI q'
/-- the arrays hold the stack -/
def xr_S (n : Nat) : List (Nat × vt_T) → (Nat → Int32) → (Nat → Int32) → Prop
  | [] => fun _ _ => True
  | a :: rest => fun S V => a.1 < n ∧ S rest.length = nI a.1 ∧ (rest ≠ [] → V rest.length = a.2.2.1) ∧ xr_S n rest S V
theorem xr_Sk {n : Nat} {S V S' V' : Nat → Int32} : ∀ st : List (Nat × vt_T), (∀ k, k < st.length → S' k = S k ∧ V' k = V k) → xr_S n st S V → xr_S n st S' V' := by
  intro st
  induction st with
  | nil => intro _ _; trivial
  | cons a rest ih =>
    intro h z
    obtain ⟨z1, z2, z3, z4⟩ := z
    have hl := h rest.length (Nat.lt_succ_self _)
    exact ⟨z1, hl.1.trans z2, fun q => hl.2.trans (z3 q), ih (fun k hk => h k (Nat.lt_succ_of_lt hk)) z4⟩
theorem xr_Sp {n : Nat} {S V : Nat → Int32} {st : List (Nat × vt_T)} {q : Nat} {v : vt_T} (h : xr_S n st S V) (hq : q < n) (h0 : st ≠ []) : xr_S n ((q, v) :: st) (upd S st.length (nI q)) (upd V st.length v.2.1) :=
  ⟨hq, pk_us, fun _ => pk_us, xr_Sk st (fun k hk => ⟨pk_un (by omega), pk_un (by omega)⟩) h⟩
/-- below what is popped -/
theorem xr_Sb {n : Nat} {S V : Nat → Int32} {b : List (Nat × vt_T)} : ∀ pop : List (Nat × vt_T), xr_S n (pop ++ b) S V → xr_S n b S V := by
  intro pop
  induction pop with
  | nil => exact fun z => z
  | cons a rest ih => exact fun z => ih z.2.2.2
/-- the values that are popped, the first one first -/
def xr_f (pop : List (Nat × vt_T)) (k : Nat) : vt_T := ((pop.map Prod.snd).reverse[k]?).getD ([], 0, 0, 0)
theorem xr_fc {a : Nat × vt_T} {rest : List (Nat × vt_T)} {k : Nat} (h : k < rest.length) : xr_f (a :: rest) k = xr_f rest k := by
  unfold xr_f
  rw [List.map_cons, List.reverse_cons, List.getElem?_append_left (by rw [List.length_reverse, List.length_map]; exact h)]
theorem xr_f0 {a : Nat × vt_T} {rest : List (Nat × vt_T)} : xr_f (a :: rest) rest.length = a.2 := by
  unfold xr_f
  rw [List.map_cons, List.reverse_cons, List.getElem?_append_right (by rw [List.length_reverse, List.length_map]; exact Nat.le_refl _)]
  rw [List.length_reverse, List.length_map, Nat.sub_self]
  rfl
theorem vt_lic {V : Type} {f f' : Nat → V} : ∀ c, (∀ k, k < c → f k = f' k) → vt_li f c = vt_li f' c := by
  intro c
  induction c with
  | zero => intro _; rfl
  | succ c ih =>
    intro h
    show f c :: vt_li f c = f' c :: vt_li f' c
    rw [h c (by omega), ih (fun k hk => h k (by omega))]
theorem xr_fl : ∀ pop : List (Nat × vt_T), vt_li (xr_f pop) pop.length = pop.map Prod.snd := by
  intro pop
  induction pop with
  | nil => rfl
  | cons a rest ih =>
    show xr_f (a :: rest) rest.length :: vt_li (xr_f (a :: rest)) rest.length = a.2 :: rest.map Prod.snd
    rw [xr_f0, vt_lic rest.length (fun k hk => xr_fc hk), ih]
theorem xr_Sv {n : Nat} {S V : Nat → Int32} {b : List (Nat × vt_T)} (hb : b ≠ []) : ∀ pop : List (Nat × vt_T), xr_S n (pop ++ b) S V → ∀ k, k < pop.length → V (b.length + k) = (xr_f pop k).2.1 := by
  intro pop
  induction pop with
  | nil => intro _ k hk; exact absurd hk (Nat.not_lt_zero _)
  | cons a rest ih =>
    intro z k hk
    obtain ⟨z1, z2, z3, z4⟩ := z
    by_cases e : k = rest.length
    · subst e
      rw [xr_f0]
      have := z3 (by intro q; exact hb (List.append_eq_nil_iff.mp q).2)
      have this : V (rest ++ b).length = a.2.2.1 := this
      rw [List.length_append, Nat.add_comm] at this
      exact this
    · have hk : k < rest.length + 1 := hk
      rw [xr_fc (by omega)]
      exact ih z4 k (by omega)
theorem vt_usa : ∀ a b : List vt_T, vt_us (a ++ b) = vt_us b ++ vt_us a := by
  intro a
  induction a with
  | nil => intro b; exact (List.append_nil _).symm
  | cons x xs ih =>
    intro b
    show vt_us (xs ++ b) ++ x.1 = vt_us b ++ (vt_us xs ++ x.1)
    rw [ih b, List.append_assoc]
theorem nI_nm {k : Nat} (h : k < 2 ^ 31) : nI k ≠ -1 := fun e => by
  have h1 := nI_nlt (a := k) (b := 0) (Nat.zero_le _) h
  rw [e] at h1
  exact h1 (by decide)
theorem xw_step_wideLooks (hg : rg_ok g) (hG : xg_G g a_lefts a_rights a_rightSizes) {w : Nat → Nat} {c n : Nat} {lk : lr_K} {nx : lr_N} (hc : c ≤ 24) (hw : ∀ i, i < c → a_tokenKinds i = nI (w i) ∧ w i < 3) (hT : xr_T lk nx n a_wideLooks a_wideSteps) (hn4 : n * 4 ≤ 324) (hn7 : n * 7 ≤ 560) (h7 : ∀ k, bl (a_nextItems 7) k = true ↔ (xu_U g (k / 5) ∧ k / 5 < 10) ∧ k % 5 = rg_c g (k / 5))
    (hA : lr_A (tg_G g) (fi_F g) lk nx) (hB : lr_B (tg_G g) lk nx) (hU9 : ∀ q r p t, lk q r p t → us_U g r ∨ r = 9) {post : Int32 → SX → Prop} {f x3 pos q : Nat} {v : vt_T} {rest : List (Nat × vt_T)} {S V Us : Nat → Int32} (hinv : lr_inv (tg_G g) (w, c) (vt_A a_tokenLengths) nx ((q, v) :: rest, pos)) (hl : rest.length < 2048) (hS : xr_S n ((q, v) :: rest) S V) (hu : yb_us (vt_us (((q, v) :: rest).map Prod.snd)) Us) (hx3 : x3 ≤ 1000000) (hul : (vt_us (((q, v) :: rest).map Prod.snd)).length ≤ x3) (hpos : pos ≤ c)
    (hs : ∀ q' v' rest' pos' S' V' Us', x3 < 1000000 → lr_st (tg_G g) (w, c) (vt_A a_tokenLengths) lk nx ((q, v) :: rest, pos) ((q', v') :: rest', pos') → rest'.length < 2048 → xr_S n ((q', v') :: rest') S' V' → yb_us (vt_us (((q', v') :: rest').map Prod.snd)) Us' → (vt_us (((q', v') :: rest').map Prod.snd)).length ≤ x3 + 1 → wX_readTokens__wideLooks_wideSteps_24 post f (nI (x3 + 1)) f_depth f_made f_textLength (nI c) f_wrongPlace f_ruleCount f_prepared f_rulesInUse f_stateCount f_wideCount f_gradeFound (nI rest'.length) (nI pos') (nI (vt_us (((q', v') :: rest').map Prod.snd)).length) a_spotCounts a_ends a_arrows a_takers a_groups a_marks a_text a_tokenKinds a_tokenLengths a_lefts a_rights a_rightSizes a_beginSets a_followSets a_nextItems a_openItems a_restItems a_stateItems a_stateSteps a_stateLooks a_wideSteps a_wideLooks S' V' Us')
    (ha : lr_acc (tg_G g) (w, c) lk ((q, v) :: rest, pos) → post 1 (f_depth, f_made, f_textLength, (nI c), f_wrongPlace, f_ruleCount, f_prepared, f_rulesInUse, f_stateCount, f_wideCount, f_gradeFound, (nI rest.length), (nI pos), (nI (vt_us (((q, v) :: rest).map Prod.snd)).length), a_spotCounts, a_ends, a_arrows, a_takers, a_groups, a_marks, a_text, a_tokenKinds, a_tokenLengths, a_lefts, a_rights, a_rightSizes, a_beginSets, a_followSets, a_nextItems, a_openItems, a_restItems, a_stateItems, a_stateSteps, a_stateLooks, a_wideSteps, a_wideLooks, S, V, Us))
    (h0 : (x3 = 1000000 ∨ ((∀ q' v' rest' pos', lr_st (tg_G g) (w, c) (vt_A a_tokenLengths) lk nx ((q, v) :: rest, pos) ((q', v') :: rest', pos') → ¬ rest'.length < 2048) ∧ ¬ lr_acc (tg_G g) (w, c) lk ((q, v) :: rest, pos))) → ∀ rh uc S' V' Us', post 0 (f_depth, f_made, f_textLength, (nI c), f_wrongPlace, f_ruleCount, f_prepared, f_rulesInUse, f_stateCount, f_wideCount, f_gradeFound, rh, (nI pos), uc, a_spotCounts, a_ends, a_arrows, a_takers, a_groups, a_marks, a_text, a_tokenKinds, a_tokenLengths, a_lefts, a_rights, a_rightSizes, a_beginSets, a_followSets, a_nextItems, a_openItems, a_restItems, a_stateItems, a_stateSteps, a_stateLooks, a_wideSteps, a_wideLooks, S', V', Us')) :
    wX_readTokens__wideLooks_wideSteps_24 post (f + 1) (nI x3) f_depth f_made f_textLength (nI c) f_wrongPlace f_ruleCount f_prepared f_rulesInUse f_stateCount f_wideCount f_gradeFound (nI rest.length) (nI pos) (nI (vt_us (((q, v) :: rest).map Prod.snd)).length) a_spotCounts a_ends a_arrows a_takers a_groups a_marks a_text a_tokenKinds a_tokenLengths a_lefts a_rights a_rightSizes a_beginSets a_followSets a_nextItems a_openItems a_restItems a_stateItems a_stateSteps a_stateLooks a_wideSteps a_wideLooks S V Us := by
  have hX : tx_ok (w, c) := fun i hi => (hw i hi).2
  obtain ⟨n1, hlk, hnx⟩ := hT
  have qn : q < n := hS.1
  have Sq : S rest.length = nI q := hS.2.1
  have core : x3 < 1000000 → ∀ t, t = tx_k (w, c) pos → wX_readTokens__wideLooks_wideSteps_55 post (wX_readTokens__wideLooks_wideSteps_24 post f) (nI x3) (nI t) f_depth f_made f_textLength (nI c) f_wrongPlace f_ruleCount f_prepared f_rulesInUse f_stateCount f_wideCount f_gradeFound (nI rest.length) (nI pos) (nI (vt_us (((q, v) :: rest).map Prod.snd)).length) a_spotCounts a_ends a_arrows a_takers a_groups a_marks a_text a_tokenKinds a_tokenLengths a_lefts a_rights a_rightSizes a_beginSets a_followSets a_nextItems a_openItems a_restItems a_stateItems a_stateSteps a_stateLooks a_wideSteps a_wideLooks S V Us := by
    intro x3lt t ht
    have tp : (pos < c ∧ t = w pos ∧ t < 3) ∨ (¬ pos < c ∧ t = 3) := by
      by_cases z : pos < c
      · have e : tx_k (w, c) pos = w pos := if_pos z
        rw [e] at ht
        exact Or.inl ⟨z, ht, by rw [ht]; exact (hw pos z).2⟩
      · have e : tx_k (w, c) pos = 3 := if_neg z
        rw [e] at ht
        exact Or.inr ⟨z, ht⟩
    have t4 : t < 4 := by omega
    refine ⟨vp_in_nI hl (by decide), ?_⟩
    rw [nI_clamp (by omega : rest.length < 2 ^ 31), Sq]
    refine ⟨pk_in (q * 4 + t) 324 (by omega) (ix_4 q t), nm_r (e' := a_wideLooks (q * 4 + t) &&& a_nextItems 7) (by rw [pk_cl (q * 4 + t) (ix_4 q t)]) ?_⟩
    have bits : ∀ k, bl (a_wideLooks (q * 4 + t) &&& a_nextItems 7) k = true ↔ lk q (k / 5) (k % 5) t ∧ (xu_U g (k / 5) ∧ k / 5 < 10) ∧ k % 5 = rg_c g (k / 5) := fun k => by rw [bl_and, Bool.and_eq_true, hlk q t k qn t4, h7 k]
    generalize a_wideLooks (q * 4 + t) &&& a_nextItems 7 = Z at bits ⊢
    have c4 : ∀ r, us_U g r ∨ r = 9 → rg_c g r ≤ 4 ∧ r < 10 := fun r hr => by
      have := rg_b hg (hr.imp (fun z => z.1) id)
      exact ⟨this.2.2.2.1, this.1⟩
    have cmp : ∀ r, lk q r (rg_c g r) t → bl Z (5 * r + rg_c g r) = true := fun r hr => by
      have u := hU9 _ _ _ _ hr
      obtain ⟨u1, u2⟩ := c4 r u
      rw [bits, show (5 * r + rg_c g r) / 5 = r by omega, show (5 * r + rg_c g r) % 5 = rg_c g r by omega]
      exact ⟨hr, ⟨u, u2⟩, rfl⟩
    refine br_c (fun z => ?_) (fun z => ?_)
    · have no : ∀ r, ¬ lk q r (gr_c (tg_G g) r) t := fun r hr => by
        have := cmp r hr
        rw [z, bl_0] at this
        cases this
      have nacc : ¬ lr_acc (tg_G g) (w, c) lk ((q, v) :: rest, pos) := by
        rintro ⟨q1, v1, r1, e, hl'⟩
        have e : (q, v) :: rest = (q1, v1) :: r1 := e
        cases e
        exact no 9 (by rw [ht]; exact hl')
      have only : ∀ q' v' rest' pos', lr_st (tg_G g) (w, c) (vt_A a_tokenLengths) lk nx ((q, v) :: rest, pos) ((q', v') :: rest', pos') → pos < c ∧ nx q t = some q' ∧ rest' = (q, v) :: rest := by
        rintro q' v' rest' pos' (⟨q1, v1, r1, q2, e, _, hp, hx, e2⟩ | ⟨q1, v1, r1, r, pop, q0, v0, base, q2, e, hl', _⟩)
        · have e : (q, v) :: rest = (q1, v1) :: r1 := e
          cases e
          have hp : pos < c := hp
          have e3 := congrArg Prod.fst e2
          have e3 : (q', v') :: rest' = (q2, (vt_A a_tokenLengths).1 pos) :: (q, v) :: rest := e3
          cases e3
          have hx : nx q (w pos) = some q' := hx
          rcases tp with ⟨_, tw, _⟩ | ⟨z', _⟩
          · exact ⟨hp, by rw [tw]; exact hx, rfl⟩
          · exact absurd hp z'
        · have e : (q, v) :: rest = (q1, v1) :: r1 := e
          cases e
          exact absurd (by rw [ht]; exact hl') (no r)
      refine pk_eq t 3 (fun e => h0 (Or.inr ⟨fun q' v' rest' pos' st => ?_, nacc⟩) _ _ _ _ _) (fun e => ?_)
      · have := (only q' v' rest' pos' st).1
        omega
      · obtain ⟨pc, tw, t3⟩ : pos < c ∧ t = w pos ∧ t < 3 := by
          rcases tp with z' | ⟨_, z'⟩
          · exact z'
          · exact absurd z' e
        refine ⟨vp_in_nI (by omega) (by decide), ?_⟩
        rw [nI_clamp (by omega : pos < 2 ^ 31)]
        refine xw_push_wideSteps (a_readStates := S) (a_readValues := V) hl Sq qn hn7 (by omega) (fun y => br_t rfl (h0 (Or.inr ⟨fun q' v' rest' pos' st => ?_, nacc⟩) _ _ _ _ _)) (fun y y2 => br_f (by decide) (nm_r (nI_1 pos) (nm_r (nI_1 x3) ?_)))
        · obtain ⟨_, o1, o2⟩ := only q' v' rest' pos' st
          rcases y with y | y
          · rcases hnx q t qn (by omega) with ⟨m1, _⟩ | ⟨q2, m0, m1, m2⟩
            · rw [m1] at o1; cases o1
            · exact absurd (m2.symm.trans y) (nI_nm (by omega))
          · rw [o2]
            show ¬ rest.length + 1 < 2048
            omega
        · rcases hnx q t qn (by omega) with ⟨_, m2⟩ | ⟨q2, m0, m1, m2⟩
          · exact absurd m2 y
          · have eu : vt_us (((q2, (vt_A a_tokenLengths).1 pos) :: (q, v) :: rest).map Prod.snd) = vt_us (((q, v) :: rest).map Prod.snd) := List.append_nil _
            have sp := xr_Sp (v := (vt_A a_tokenLengths).1 pos) hS m0 (by intro q; cases q)
            have := hs q2 ((vt_A a_tokenLengths).1 pos) ((q, v) :: rest) (pos + 1) _ _ Us x3lt (Or.inl ⟨q, v, rest, q2, rfl, fun r hr => no r (by rw [ht]; exact hr), pc, by rw [← m1, tw], rfl⟩) y2 sp (by rw [eu]; exact hu) (by rw [eu]; omega)
            rw [eu] at this
            rw [m2]
            exact this
    · have ex : ∃ k, bl Z k = true := by
        refine Classical.byContradiction fun no => z (bl_ext fun k _ => ?_)
        rw [bl_0]
        cases c1 : bl Z k
        · rfl
        · exact absurd ⟨k, c1⟩ no
      have b47 : ∀ k, bl Z k = true → k < 47 := by
        intro k hk
        obtain ⟨_, ⟨u, _⟩, e⟩ := (bits k).mp hk
        exact im_lt hg ⟨u, Nat.le_of_eq e⟩
      refine xw_ruleOf ex b47 (fun k hk => ?_)
      obtain ⟨lk1, ⟨u, r10⟩, ek⟩ := (bits k).mp hk
      generalize k / 5 = r at lk1 u r10 ek ⊢
      rw [ek] at lk1
      have lkt : lk q r (gr_c (tg_G g) r) (tx_k (w, c) pos) := by rw [← ht]; exact lk1
      refine pk_eq r 9 (fun e => ?_) (fun e => ?_)
      · subst e
        exact ha ⟨q, v, rest, rfl, lkt⟩
      · have uU : us_U g r := u.resolve_right e
        obtain ⟨_, _, pop, q0, v0, base, i0, e2, e3, _⟩ := lr_items hB _ pos hinv.1 q v rest rfl r _ _ lkt
        have e2 : (q, v) :: rest = pop ++ (q0, v0) :: base := e2
        have e3 : pop.length = rg_c g r := e3
        have el := congrArg List.length e2
        rw [List.length_append, List.length_cons, List.length_cons] at el
        have hS' := hS
        rw [e2] at hS'
        have hb := xr_Sb pop hS'
        obtain ⟨q0n, Sq0, _, _⟩ := hb
        have q0n : q0 < n := q0n
        have Sq0 : S base.length = nI q0 := Sq0
        have eb : rest.length - rg_c g r = base.length := by omega
        obtain ⟨l3, l7, cc4, _⟩ := hg.2.1 r uU.1
        obtain ⟨g1, g2, _⟩ := hG r (Or.inl uU.1)
        have vv := xr_Sv (b := (q0, v0) :: base) (by intro q; cases q) pop hS'
        have nacc : ¬ lr_acc (tg_G g) (w, c) lk ((q, v) :: rest, pos) := by
          rintro ⟨q1, v1, r1, e', hl'⟩
          have e' : (q, v) :: rest = (q1, v1) :: r1 := e'
          cases e'
          exact e (hA.2.2.2.1 q r 9 _ lkt hl')
        have only : ∀ q' v' rest' pos', lr_st (tg_G g) (w, c) (vt_A a_tokenLengths) lk nx ((q, v) :: rest, pos) ((q', v') :: rest', pos') → nx q0 (rg_l g r) = some q' ∧ rest' = (q0, v0) :: base := by
          rintro q' v' rest' pos' (⟨q1, v1, r1, q2, e', hno, _⟩ | ⟨q1, v1, r1, r', pop', q0', v0', base', q2, e', hl', _, f2, f3, hx, e4⟩)
          · have e' : (q, v) :: rest = (q1, v1) :: r1 := e'
            cases e'
            exact absurd lkt (hno r)
          · have e' : (q, v) :: rest = (q1, v1) :: r1 := e'
            cases e'
            have er := hA.2.2.2.1 q r r' _ lkt hl'
            subst er
            have f2 : (q, v) :: rest = pop' ++ (q0', v0') :: base' := f2
            have f3 : pop'.length = rg_c g r := f3
            have f4 := List.append_inj (e2.symm.trans f2) (by omega)
            have f5 := f4.2
            cases f5
            have e5 := congrArg Prod.fst e4
            have e5 : (q', v') :: rest' = (q2, (vt_A a_tokenLengths).2 r (pop'.map Prod.snd)) :: (q0, v0) :: base := e5
            cases e5
            exact ⟨hx, rfl⟩
        refine xw_use_wideSteps (a_readStates := S) (a_readValues := V) (a_usedRules := Us) (fs := xr_f pop) (q := q0) (by omega) g2 g1 cc4 l7 hl (by omega) (fun k' hk' => ?_) (by rw [eb]; exact Sq0) q0n hn7 (by omega) hu (fun y Us' => br_t rfl (h0 (Or.inr ⟨fun q' v' rest' pos' st => ?_, nacc⟩) _ _ _ _ _)) (fun y y2 Us' hu' => br_f (by decide) (nm_r (nI_1 x3) ?_))
        · have := vv k' (by omega)
          rw [List.length_cons] at this
          rw [eb, show base.length + (k' + 1) = base.length + 1 + k' by omega]
          exact this
        · obtain ⟨o1, o2⟩ := only q' v' rest' pos' st
          rcases y with y | y
          · rcases hnx q0 (rg_l g r) q0n l7 with ⟨m1, _⟩ | ⟨q2, m0, m1, m2⟩
            · rw [m1] at o1; cases o1
            · exact absurd (m2.symm.trans y) (nI_nm (by omega))
          · rw [o2]
            show ¬ base.length + 1 < 2048
            omega
        · rcases hnx q0 (rg_l g r) q0n l7 with ⟨_, m2⟩ | ⟨q2, m0, m1, m2⟩
          · exact absurd m2 y
          · have eu : vt_us (((q2, (vt_A a_tokenLengths).2 r (pop.map Prod.snd)) :: (q0, v0) :: base).map Prod.snd) = vt_us (((q, v) :: rest).map Prod.snd) ++ [r] := by
              rw [e2, List.map_append, vt_usa, List.append_assoc]
              rfl
            have sp := xr_Sp (v := (vt_A a_tokenLengths).2 r (pop.map Prod.snd)) (xr_Sb pop hS') m0 (by intro q; cases q)
            have := hs q2 ((vt_A a_tokenLengths).2 r (pop.map Prod.snd)) ((q0, v0) :: base) pos _ _ Us' x3lt (Or.inr ⟨q, v, rest, r, pop, q0, v0, base, q2, rfl, lkt, e, e2, e3, m1, rfl⟩) (by rw [List.length_cons, ← eb]; exact y2) sp (by rw [eu]; exact hu') (by rw [eu, List.length_append]; show _ + 1 ≤ _; omega)
            rw [eu] at this
            have ev : vt_vl r (vt_li (xr_f pop) (rg_c g r)) = ((vt_A a_tokenLengths).2 r (pop.map Prod.snd)).2.1 := by
              rw [← e3, xr_fl]; rfl
            rw [ev, m2, eb]
            exact this
  refine pk_le 1000000 x3 (fun z => h0 (Or.inl (by omega)) _ _ _ _ _) (fun z => pk_le c pos (fun y => ?_) (fun y => ⟨vp_in_nI (by omega) (by decide), ?_⟩))
  · exact core z 3 (if_neg (by show ¬ pos < c; omega)).symm
  · rw [nI_clamp (by omega : pos < 2 ^ 31), (hw pos y).1]
    exact core z (w pos) (if_pos (show pos < c from y)).symm
theorem xw_step_stateLooks (hg : rg_ok g) (hG : xg_G g a_lefts a_rights a_rightSizes) {w : Nat → Nat} {c n : Nat} {lk : lr_K} {nx : lr_N} (hc : c ≤ 24) (hw : ∀ i, i < c → a_tokenKinds i = nI (w i) ∧ w i < 3) (hT : xr_T lk nx n a_stateLooks a_stateSteps) (hn4 : n * 4 ≤ 240) (hn7 : n * 7 ≤ 420) (h7 : ∀ k, bl (a_nextItems 7) k = true ↔ (xu_U g (k / 5) ∧ k / 5 < 10) ∧ k % 5 = rg_c g (k / 5))
    (hA : lr_A (tg_G g) (fi_F g) lk nx) (hB : lr_B (tg_G g) lk nx) (hU9 : ∀ q r p t, lk q r p t → us_U g r ∨ r = 9) {post : Int32 → SX → Prop} {f x3 pos q : Nat} {v : vt_T} {rest : List (Nat × vt_T)} {S V Us : Nat → Int32} (hinv : lr_inv (tg_G g) (w, c) (vt_A a_tokenLengths) nx ((q, v) :: rest, pos)) (hl : rest.length < 2048) (hS : xr_S n ((q, v) :: rest) S V) (hu : yb_us (vt_us (((q, v) :: rest).map Prod.snd)) Us) (hx3 : x3 ≤ 1000000) (hul : (vt_us (((q, v) :: rest).map Prod.snd)).length ≤ x3) (hpos : pos ≤ c)
    (hs : ∀ q' v' rest' pos' S' V' Us', x3 < 1000000 → lr_st (tg_G g) (w, c) (vt_A a_tokenLengths) lk nx ((q, v) :: rest, pos) ((q', v') :: rest', pos') → rest'.length < 2048 → xr_S n ((q', v') :: rest') S' V' → yb_us (vt_us (((q', v') :: rest').map Prod.snd)) Us' → (vt_us (((q', v') :: rest').map Prod.snd)).length ≤ x3 + 1 → wX_readTokens__stateLooks_stateSteps_24 post f (nI (x3 + 1)) f_depth f_made f_textLength (nI c) f_wrongPlace f_ruleCount f_prepared f_rulesInUse f_stateCount f_wideCount f_gradeFound (nI rest'.length) (nI pos') (nI (vt_us (((q', v') :: rest').map Prod.snd)).length) a_spotCounts a_ends a_arrows a_takers a_groups a_marks a_text a_tokenKinds a_tokenLengths a_lefts a_rights a_rightSizes a_beginSets a_followSets a_nextItems a_openItems a_restItems a_stateItems a_stateSteps a_stateLooks a_wideSteps a_wideLooks S' V' Us')
    (ha : lr_acc (tg_G g) (w, c) lk ((q, v) :: rest, pos) → post 1 (f_depth, f_made, f_textLength, (nI c), f_wrongPlace, f_ruleCount, f_prepared, f_rulesInUse, f_stateCount, f_wideCount, f_gradeFound, (nI rest.length), (nI pos), (nI (vt_us (((q, v) :: rest).map Prod.snd)).length), a_spotCounts, a_ends, a_arrows, a_takers, a_groups, a_marks, a_text, a_tokenKinds, a_tokenLengths, a_lefts, a_rights, a_rightSizes, a_beginSets, a_followSets, a_nextItems, a_openItems, a_restItems, a_stateItems, a_stateSteps, a_stateLooks, a_wideSteps, a_wideLooks, S, V, Us))
    (h0 : (x3 = 1000000 ∨ ((∀ q' v' rest' pos', lr_st (tg_G g) (w, c) (vt_A a_tokenLengths) lk nx ((q, v) :: rest, pos) ((q', v') :: rest', pos') → ¬ rest'.length < 2048) ∧ ¬ lr_acc (tg_G g) (w, c) lk ((q, v) :: rest, pos))) → ∀ rh uc S' V' Us', post 0 (f_depth, f_made, f_textLength, (nI c), f_wrongPlace, f_ruleCount, f_prepared, f_rulesInUse, f_stateCount, f_wideCount, f_gradeFound, rh, (nI pos), uc, a_spotCounts, a_ends, a_arrows, a_takers, a_groups, a_marks, a_text, a_tokenKinds, a_tokenLengths, a_lefts, a_rights, a_rightSizes, a_beginSets, a_followSets, a_nextItems, a_openItems, a_restItems, a_stateItems, a_stateSteps, a_stateLooks, a_wideSteps, a_wideLooks, S', V', Us')) :
    wX_readTokens__stateLooks_stateSteps_24 post (f + 1) (nI x3) f_depth f_made f_textLength (nI c) f_wrongPlace f_ruleCount f_prepared f_rulesInUse f_stateCount f_wideCount f_gradeFound (nI rest.length) (nI pos) (nI (vt_us (((q, v) :: rest).map Prod.snd)).length) a_spotCounts a_ends a_arrows a_takers a_groups a_marks a_text a_tokenKinds a_tokenLengths a_lefts a_rights a_rightSizes a_beginSets a_followSets a_nextItems a_openItems a_restItems a_stateItems a_stateSteps a_stateLooks a_wideSteps a_wideLooks S V Us := by
  have hX : tx_ok (w, c) := fun i hi => (hw i hi).2
  obtain ⟨n1, hlk, hnx⟩ := hT
  have qn : q < n := hS.1
  have Sq : S rest.length = nI q := hS.2.1
  have core : x3 < 1000000 → ∀ t, t = tx_k (w, c) pos → wX_readTokens__stateLooks_stateSteps_55 post (wX_readTokens__stateLooks_stateSteps_24 post f) (nI x3) (nI t) f_depth f_made f_textLength (nI c) f_wrongPlace f_ruleCount f_prepared f_rulesInUse f_stateCount f_wideCount f_gradeFound (nI rest.length) (nI pos) (nI (vt_us (((q, v) :: rest).map Prod.snd)).length) a_spotCounts a_ends a_arrows a_takers a_groups a_marks a_text a_tokenKinds a_tokenLengths a_lefts a_rights a_rightSizes a_beginSets a_followSets a_nextItems a_openItems a_restItems a_stateItems a_stateSteps a_stateLooks a_wideSteps a_wideLooks S V Us := by
    intro x3lt t ht
    have tp : (pos < c ∧ t = w pos ∧ t < 3) ∨ (¬ pos < c ∧ t = 3) := by
      by_cases z : pos < c
      · have e : tx_k (w, c) pos = w pos := if_pos z
        rw [e] at ht
        exact Or.inl ⟨z, ht, by rw [ht]; exact (hw pos z).2⟩
      · have e : tx_k (w, c) pos = 3 := if_neg z
        rw [e] at ht
        exact Or.inr ⟨z, ht⟩
    have t4 : t < 4 := by omega
    refine ⟨vp_in_nI hl (by decide), ?_⟩
    rw [nI_clamp (by omega : rest.length < 2 ^ 31), Sq]
    refine ⟨pk_in (q * 4 + t) 240 (by omega) (ix_4 q t), nm_r (e' := a_stateLooks (q * 4 + t) &&& a_nextItems 7) (by rw [pk_cl (q * 4 + t) (ix_4 q t)]) ?_⟩
    have bits : ∀ k, bl (a_stateLooks (q * 4 + t) &&& a_nextItems 7) k = true ↔ lk q (k / 5) (k % 5) t ∧ (xu_U g (k / 5) ∧ k / 5 < 10) ∧ k % 5 = rg_c g (k / 5) := fun k => by rw [bl_and, Bool.and_eq_true, hlk q t k qn t4, h7 k]
    generalize a_stateLooks (q * 4 + t) &&& a_nextItems 7 = Z at bits ⊢
    have c4 : ∀ r, us_U g r ∨ r = 9 → rg_c g r ≤ 4 ∧ r < 10 := fun r hr => by
      have := rg_b hg (hr.imp (fun z => z.1) id)
      exact ⟨this.2.2.2.1, this.1⟩
    have cmp : ∀ r, lk q r (rg_c g r) t → bl Z (5 * r + rg_c g r) = true := fun r hr => by
      have u := hU9 _ _ _ _ hr
      obtain ⟨u1, u2⟩ := c4 r u
      rw [bits, show (5 * r + rg_c g r) / 5 = r by omega, show (5 * r + rg_c g r) % 5 = rg_c g r by omega]
      exact ⟨hr, ⟨u, u2⟩, rfl⟩
    refine br_c (fun z => ?_) (fun z => ?_)
    · have no : ∀ r, ¬ lk q r (gr_c (tg_G g) r) t := fun r hr => by
        have := cmp r hr
        rw [z, bl_0] at this
        cases this
      have nacc : ¬ lr_acc (tg_G g) (w, c) lk ((q, v) :: rest, pos) := by
        rintro ⟨q1, v1, r1, e, hl'⟩
        have e : (q, v) :: rest = (q1, v1) :: r1 := e
        cases e
        exact no 9 (by rw [ht]; exact hl')
      have only : ∀ q' v' rest' pos', lr_st (tg_G g) (w, c) (vt_A a_tokenLengths) lk nx ((q, v) :: rest, pos) ((q', v') :: rest', pos') → pos < c ∧ nx q t = some q' ∧ rest' = (q, v) :: rest := by
        rintro q' v' rest' pos' (⟨q1, v1, r1, q2, e, _, hp, hx, e2⟩ | ⟨q1, v1, r1, r, pop, q0, v0, base, q2, e, hl', _⟩)
        · have e : (q, v) :: rest = (q1, v1) :: r1 := e
          cases e
          have hp : pos < c := hp
          have e3 := congrArg Prod.fst e2
          have e3 : (q', v') :: rest' = (q2, (vt_A a_tokenLengths).1 pos) :: (q, v) :: rest := e3
          cases e3
          have hx : nx q (w pos) = some q' := hx
          rcases tp with ⟨_, tw, _⟩ | ⟨z', _⟩
          · exact ⟨hp, by rw [tw]; exact hx, rfl⟩
          · exact absurd hp z'
        · have e : (q, v) :: rest = (q1, v1) :: r1 := e
          cases e
          exact absurd (by rw [ht]; exact hl') (no r)
      refine pk_eq t 3 (fun e => h0 (Or.inr ⟨fun q' v' rest' pos' st => ?_, nacc⟩) _ _ _ _ _) (fun e => ?_)
      · have := (only q' v' rest' pos' st).1
        omega
      · obtain ⟨pc, tw, t3⟩ : pos < c ∧ t = w pos ∧ t < 3 := by
          rcases tp with z' | ⟨_, z'⟩
          · exact z'
          · exact absurd z' e
        refine ⟨vp_in_nI (by omega) (by decide), ?_⟩
        rw [nI_clamp (by omega : pos < 2 ^ 31)]
        refine xw_push_stateSteps (a_readStates := S) (a_readValues := V) hl Sq qn hn7 (by omega) (fun y => br_t rfl (h0 (Or.inr ⟨fun q' v' rest' pos' st => ?_, nacc⟩) _ _ _ _ _)) (fun y y2 => br_f (by decide) (nm_r (nI_1 pos) (nm_r (nI_1 x3) ?_)))
        · obtain ⟨_, o1, o2⟩ := only q' v' rest' pos' st
          rcases y with y | y
          · rcases hnx q t qn (by omega) with ⟨m1, _⟩ | ⟨q2, m0, m1, m2⟩
            · rw [m1] at o1; cases o1
            · exact absurd (m2.symm.trans y) (nI_nm (by omega))
          · rw [o2]
            show ¬ rest.length + 1 < 2048
            omega
        · rcases hnx q t qn (by omega) with ⟨_, m2⟩ | ⟨q2, m0, m1, m2⟩
          · exact absurd m2 y
          · have eu : vt_us (((q2, (vt_A a_tokenLengths).1 pos) :: (q, v) :: rest).map Prod.snd) = vt_us (((q, v) :: rest).map Prod.snd) := List.append_nil _
            have sp := xr_Sp (v := (vt_A a_tokenLengths).1 pos) hS m0 (by intro q; cases q)
            have := hs q2 ((vt_A a_tokenLengths).1 pos) ((q, v) :: rest) (pos + 1) _ _ Us x3lt (Or.inl ⟨q, v, rest, q2, rfl, fun r hr => no r (by rw [ht]; exact hr), pc, by rw [← m1, tw], rfl⟩) y2 sp (by rw [eu]; exact hu) (by rw [eu]; omega)
            rw [eu] at this
            rw [m2]
            exact this
    · have ex : ∃ k, bl Z k = true := by
        refine Classical.byContradiction fun no => z (bl_ext fun k _ => ?_)
        rw [bl_0]
        cases c1 : bl Z k
        · rfl
        · exact absurd ⟨k, c1⟩ no
      have b47 : ∀ k, bl Z k = true → k < 47 := by
        intro k hk
        obtain ⟨_, ⟨u, _⟩, e⟩ := (bits k).mp hk
        exact im_lt hg ⟨u, Nat.le_of_eq e⟩
      refine xw_ruleOf ex b47 (fun k hk => ?_)
      obtain ⟨lk1, ⟨u, r10⟩, ek⟩ := (bits k).mp hk
      generalize k / 5 = r at lk1 u r10 ek ⊢
      rw [ek] at lk1
      have lkt : lk q r (gr_c (tg_G g) r) (tx_k (w, c) pos) := by rw [← ht]; exact lk1
      refine pk_eq r 9 (fun e => ?_) (fun e => ?_)
      · subst e
        exact ha ⟨q, v, rest, rfl, lkt⟩
      · have uU : us_U g r := u.resolve_right e
        obtain ⟨_, _, pop, q0, v0, base, i0, e2, e3, _⟩ := lr_items hB _ pos hinv.1 q v rest rfl r _ _ lkt
        have e2 : (q, v) :: rest = pop ++ (q0, v0) :: base := e2
        have e3 : pop.length = rg_c g r := e3
        have el := congrArg List.length e2
        rw [List.length_append, List.length_cons, List.length_cons] at el
        have hS' := hS
        rw [e2] at hS'
        have hb := xr_Sb pop hS'
        obtain ⟨q0n, Sq0, _, _⟩ := hb
        have q0n : q0 < n := q0n
        have Sq0 : S base.length = nI q0 := Sq0
        have eb : rest.length - rg_c g r = base.length := by omega
        obtain ⟨l3, l7, cc4, _⟩ := hg.2.1 r uU.1
        obtain ⟨g1, g2, _⟩ := hG r (Or.inl uU.1)
        have vv := xr_Sv (b := (q0, v0) :: base) (by intro q; cases q) pop hS'
        have nacc : ¬ lr_acc (tg_G g) (w, c) lk ((q, v) :: rest, pos) := by
          rintro ⟨q1, v1, r1, e', hl'⟩
          have e' : (q, v) :: rest = (q1, v1) :: r1 := e'
          cases e'
          exact e (hA.2.2.2.1 q r 9 _ lkt hl')
        have only : ∀ q' v' rest' pos', lr_st (tg_G g) (w, c) (vt_A a_tokenLengths) lk nx ((q, v) :: rest, pos) ((q', v') :: rest', pos') → nx q0 (rg_l g r) = some q' ∧ rest' = (q0, v0) :: base := by
          rintro q' v' rest' pos' (⟨q1, v1, r1, q2, e', hno, _⟩ | ⟨q1, v1, r1, r', pop', q0', v0', base', q2, e', hl', _, f2, f3, hx, e4⟩)
          · have e' : (q, v) :: rest = (q1, v1) :: r1 := e'
            cases e'
            exact absurd lkt (hno r)
          · have e' : (q, v) :: rest = (q1, v1) :: r1 := e'
            cases e'
            have er := hA.2.2.2.1 q r r' _ lkt hl'
            subst er
            have f2 : (q, v) :: rest = pop' ++ (q0', v0') :: base' := f2
            have f3 : pop'.length = rg_c g r := f3
            have f4 := List.append_inj (e2.symm.trans f2) (by omega)
            have f5 := f4.2
            cases f5
            have e5 := congrArg Prod.fst e4
            have e5 : (q', v') :: rest' = (q2, (vt_A a_tokenLengths).2 r (pop'.map Prod.snd)) :: (q0, v0) :: base := e5
            cases e5
            exact ⟨hx, rfl⟩
        refine xw_use_stateSteps (a_readStates := S) (a_readValues := V) (a_usedRules := Us) (fs := xr_f pop) (q := q0) (by omega) g2 g1 cc4 l7 hl (by omega) (fun k' hk' => ?_) (by rw [eb]; exact Sq0) q0n hn7 (by omega) hu (fun y Us' => br_t rfl (h0 (Or.inr ⟨fun q' v' rest' pos' st => ?_, nacc⟩) _ _ _ _ _)) (fun y y2 Us' hu' => br_f (by decide) (nm_r (nI_1 x3) ?_))
        · have := vv k' (by omega)
          rw [List.length_cons] at this
          rw [eb, show base.length + (k' + 1) = base.length + 1 + k' by omega]
          exact this
        · obtain ⟨o1, o2⟩ := only q' v' rest' pos' st
          rcases y with y | y
          · rcases hnx q0 (rg_l g r) q0n l7 with ⟨m1, _⟩ | ⟨q2, m0, m1, m2⟩
            · rw [m1] at o1; cases o1
            · exact absurd (m2.symm.trans y) (nI_nm (by omega))
          · rw [o2]
            show ¬ base.length + 1 < 2048
            omega
        · rcases hnx q0 (rg_l g r) q0n l7 with ⟨_, m2⟩ | ⟨q2, m0, m1, m2⟩
          · exact absurd m2 y
          · have eu : vt_us (((q2, (vt_A a_tokenLengths).2 r (pop.map Prod.snd)) :: (q0, v0) :: base).map Prod.snd) = vt_us (((q, v) :: rest).map Prod.snd) ++ [r] := by
              rw [e2, List.map_append, vt_usa, List.append_assoc]
              rfl
            have sp := xr_Sp (v := (vt_A a_tokenLengths).2 r (pop.map Prod.snd)) (xr_Sb pop hS') m0 (by intro q; cases q)
            have := hs q2 ((vt_A a_tokenLengths).2 r (pop.map Prod.snd)) ((q0, v0) :: base) pos _ _ Us' x3lt (Or.inr ⟨q, v, rest, r, pop, q0, v0, base, q2, rfl, lkt, e, e2, e3, m1, rfl⟩) (by rw [List.length_cons, ← eb]; exact y2) sp (by rw [eu]; exact hu') (by rw [eu, List.length_append]; show _ + 1 ≤ _; omega)
            rw [eu] at this
            have ev : vt_vl r (vt_li (xr_f pop) (rg_c g r)) = ((vt_A a_tokenLengths).2 r (pop.map Prod.snd)).2.1 := by
              rw [← e3, xr_fl]; rfl
            rw [ev, m2, eb]
            exact this
  refine pk_le 1000000 x3 (fun z => h0 (Or.inl (by omega)) _ _ _ _ _) (fun z => pk_le c pos (fun y => ?_) (fun y => ⟨vp_in_nI (by omega) (by decide), ?_⟩))
  · exact core z 3 (if_neg (by show ¬ pos < c; omega)).symm
  · rw [nI_clamp (by omega : pos < 2 ^ 31), (hw pos y).1]
    exact core z (w pos) (if_pos (show pos < c from y)).symm
end
