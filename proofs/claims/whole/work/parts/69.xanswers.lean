/-! the component's answers about a text -/
theorem nx_t {α : Type} {to : α → Nat → Option α} {f : Nat → α} {n : Nat} (hi : ∀ s t, s < n → t < n → f s = f t → s = t) {q x : Nat} {e : Int32} (hq : q < n) (hx : x < 7) (h : xt_1 to f n e q x) : (nx_of to f n q x = none ∧ e = -1) ∨ ∃ q', q' < n ∧ nx_of to f n q x = some q' ∧ e = nI q' := by
  rcases h with ⟨h1, h2⟩ | ⟨s, h1, h2, h3⟩
  · refine Or.inl ⟨?_, h2⟩
    cases e' : nx_of to f n q x with
    | none => rfl
    | some q' =>
      have := ((nx_ok hi q x q').mp e').2.2.2
      rw [h1] at this
      cases this
  · exact Or.inr ⟨s, h1, (nx_ok hi q x s).mpr ⟨hq, hx, h1, h2⟩, h3⟩
theorem xr_st {g : rg_T} {f : Nat → Int64} {n : Nat} {si : Nat → Int64} {ss : Nat → Int32} {sl : Nat → Int64} (hT : xt_T g f n si ss) (hL : sp_ok g f n sl) : xr_T (tb_lk g f n) (nx_of (tb_to g) f n) n sl ss := by
  have ff := fin_full hT.1
  refine ⟨ff.1, fun q t k hq ht => ?_, fun q x hq hx => nx_t ff.2.2.1 hq hx (hT.2.2.2 q x hq hx)⟩
  rw [hL q t k hq ht]
  unfold tb_lk
  rw [show 5 * (k / 5) + k % 5 = k by omega]
  exact ⟨fun z => ⟨by omega, z⟩, fun z => z.2⟩
theorem xr_wd {g : rg_T} {f : Nat → w4_T} {n : Nat} {ws : Nat → Int32} {wl : Nat → Int64} (h1 : bf_fin (tw_a0 g) (tw_to g) f n) (h2 : ∀ i, i < n → xz_w wl i = f i) (h3 : ∀ s x, s < n → x < 7 → xt_1 (tw_to g) f n (ws (s * 7 + x)) s x) : xr_T (tw_lk f n) (nx_of (tw_to g) f n) n wl ws := by
  have ff := fin_fullw h1
  refine ⟨ff.1, fun q t k hq ht => ?_, fun q x hq hx => nx_t ff.2.2.1 hq hx (h3 q x hq hx)⟩
  unfold tw_lk
  rw [show 5 * (k / 5) + k % 5 = k by omega, ← h2 q hq]
  have e : w4_t (xz_w wl q) t = wl (q * 4 + t) := w4_tm (F := fun t => wl (q * 4 + t)) ht
  rw [e]
  exact ⟨fun z => ⟨hq, by omega, ht, z⟩, fun z => z.2.2.2⟩
theorem tb_u9 {g : rg_T} (hg : rg_ok g) {f : Nat → Int64} {n : Nat} (hf : tb_full g f n) : ∀ q r p t, tb_lk g f n q r p t → us_U g r ∨ r = 9 := by
  rintro q r p t ⟨p5, h⟩
  obtain ⟨a, b, _⟩ := la_in hg hf h
  have c := (tb_fio hg hf a _ b).1
  rw [(im_rp p5).1] at c
  exact c
theorem tw_u9 {g : rg_T} (hg : rg_ok g) {f : Nat → w4_T} {n : Nat} (hf : tw_full g f n) : ∀ q r p t, tw_lk f n q r p t → us_U g r ∨ r = 9 := by
  rintro q r p t ⟨qn, p5, t4, h⟩
  have c := (tw_fio hg hf qn t _ t4 h).1.1
  rw [(im_rp p5).1] at c
  exact c
variable {f_depth f_made f_textLength f_tokenCount f_wrongPlace f_ruleCount f_prepared f_rulesInUse f_stateCount f_wideCount f_gradeFound f_readHeight f_tokensTaken f_usedCount : Int32} {a_spotCounts a_ends a_arrows a_takers a_groups a_marks a_text a_tokenKinds a_tokenLengths a_lefts a_rights a_rightSizes a_beginSets a_followSets a_stateSteps a_wideSteps a_readStates a_readValues a_usedRules : Nat → Int32} {a_nextItems a_openItems a_restItems a_stateItems a_stateLooks a_wideLooks : Nat → Int64}
section
variable {g : rg_T}
theorem xw_canRead (hR : yg_R g f_gradeFound) {post : Int32 → Prop} (h1 : rd_g f_gradeFound → post 1) (h0 : ¬ rd_g f_gradeFound → post 0) : wpX_canRead post (f_depth, f_made, f_textLength, f_tokenCount, f_wrongPlace, f_ruleCount, f_prepared, f_rulesInUse, f_stateCount, f_wideCount, f_gradeFound, f_readHeight, f_tokensTaken, f_usedCount, a_spotCounts, a_ends, a_arrows, a_takers, a_groups, a_marks, a_text, a_tokenKinds, a_tokenLengths, a_lefts, a_rights, a_rightSizes, a_beginSets, a_followSets, a_nextItems, a_openItems, a_restItems, a_stateItems, a_stateSteps, a_stateLooks, a_wideSteps, a_wideLooks, a_readStates, a_readValues, a_usedRules) := by
  have e : 3 < f_gradeFound ↔ 4 ≤ f_gradeFound := by
    rcases yg_v hR with e | e | e | e | e | e | e <;> rw [e] <;> decide
  exact br_c (fun z => h0 fun q => q.1 z) (fun z => br_c (fun y => h0 fun q => q.2 (e.mp y)) (fun y => h1 ⟨z, fun q => y (e.mpr q)⟩))
theorem xw_readText (hg : rg_ok g) (hG : xg_G g a_lefts a_rights a_rightSizes) (hP : xp_T g f_rulesInUse f_stateCount f_wideCount f_gradeFound a_beginSets a_followSets a_nextItems a_openItems a_restItems a_stateItems a_stateSteps a_stateLooks a_wideSteps a_wideLooks) {n : Nat} {t : Nat → Nat} {kd : Nat → gk_T} (hn : n ≤ 24) (ht : ∀ i, i < n → a_text i = nI (t i) ∧ t i < 3) (hS : ∀ k, k < 3 → xs_S a_spotCounts a_ends a_arrows a_takers (8 + k) (kd k)) {post : Int32 → SX → Prop}
    (hN : ¬ rd_g f_gradeFound → post 0 (f_depth, f_made, (nI n), f_tokenCount, f_wrongPlace, f_ruleCount, f_prepared, f_rulesInUse, f_stateCount, f_wideCount, f_gradeFound, f_readHeight, f_tokensTaken, f_usedCount, a_spotCounts, a_ends, a_arrows, a_takers, a_groups, a_marks, a_text, a_tokenKinds, a_tokenLengths, a_lefts, a_rights, a_rightSizes, a_beginSets, a_followSets, a_nextItems, a_openItems, a_restItems, a_stateItems, a_stateSteps, a_stateLooks, a_wideSteps, a_wideLooks, a_readStates, a_readValues, a_usedRules))
    (h1 : ∀ c K L d v S V Us, rd_g f_gradeFound → ct_ok kd t n c K L → dv_tr (tg_G g) (tk_w kd t n, c) (vt_A (tk_l kd t n)) d 3 0 c v → v.1.length ≤ 98389 → V 1 = v.2.1 → yb_us v.1 Us → rr_n (tg_G g) (tk_w kd t n, c) c → post 1 (f_depth, f_made, (nI n), (nI c), (ct_w kd t n c), f_ruleCount, f_prepared, f_rulesInUse, f_stateCount, f_wideCount, f_gradeFound, 1, (nI c), (nI v.1.length), a_spotCounts, a_ends, a_arrows, a_takers, a_groups, a_marks, a_text, K, L, a_lefts, a_rights, a_rightSizes, a_beginSets, a_followSets, a_nextItems, a_openItems, a_restItems, a_stateItems, a_stateSteps, a_stateLooks, a_wideSteps, a_wideLooks, S, V, Us))
    (h0 : ∀ c K L m rh uc S V Us, rd_g f_gradeFound → ct_ok kd t n c K L → ¬ dv_D (tg_G g) (tk_w kd t n, c) 3 0 c → rr_n (tg_G g) (tk_w kd t n, c) m → post 0 (f_depth, f_made, (nI n), (nI c), (ct_w kd t n c), f_ruleCount, f_prepared, f_rulesInUse, f_stateCount, f_wideCount, f_gradeFound, rh, (nI m), uc, a_spotCounts, a_ends, a_arrows, a_takers, a_groups, a_marks, a_text, K, L, a_lefts, a_rights, a_rightSizes, a_beginSets, a_followSets, a_nextItems, a_openItems, a_restItems, a_stateItems, a_stateSteps, a_stateLooks, a_wideSteps, a_wideLooks, S, V, Us)) : wpX_readText post (f_depth, f_made, (nI n), f_tokenCount, f_wrongPlace, f_ruleCount, f_prepared, f_rulesInUse, f_stateCount, f_wideCount, f_gradeFound, f_readHeight, f_tokensTaken, f_usedCount, a_spotCounts, a_ends, a_arrows, a_takers, a_groups, a_marks, a_text, a_tokenKinds, a_tokenLengths, a_lefts, a_rights, a_rightSizes, a_beginSets, a_followSets, a_nextItems, a_openItems, a_restItems, a_stateItems, a_stateSteps, a_stateLooks, a_wideSteps, a_wideLooks, a_readStates, a_readValues, a_usedRules) := by
  have hR := xp_R hP
  delta wpX_readText
  refine xw_canRead hR (fun rd => br_f (by decide) ?_) (fun z => br_t rfl (hN z))
  refine xw_cutText hn ht hS (fun c K L hc => ?_)
  obtain ⟨c24, hw, hl, hX⟩ := tk_ok hn hc
  obtain ⟨_, _, _, hI, hP | hP | ⟨hu, f, m, hT, _, hZ, hL, hgr⟩⟩ := hP
  · exact absurd (by rw [hP.2.2.2]; decide) rd.1
  · exact absurd (by rw [hP.2.2.2.2]; decide) rd.1
  have ff := fin_full hT.1
  have two : (¬ f_gradeFound = 3 ∧ ¬ cs_2 g f m) ∨ (f_gradeFound = 3 ∧ ∃ fw nw, bf_fin (tw_a0 g) (tw_to g) fw nw ∧ nw ≤ 80 ∧ ¬ cs_3 g fw nw) := by
    rcases hgr with ⟨z, e⟩ | ⟨_, z, e⟩ | ⟨_, _, z, e⟩ | ⟨_, _, _, _, e⟩ | ⟨_, _, _, fw, nw, w1, w2, ⟨z, e⟩ | ⟨_, e⟩⟩
    · exact Or.inl ⟨by rw [e]; decide, fun y => z (cs_20 y)⟩
    · exact Or.inl ⟨by rw [e]; decide, fun y => z (cs_21 hg ff y)⟩
    · exact Or.inl ⟨by rw [e]; decide, z⟩
    · exact absurd (by rw [e]; decide) rd.1
    · exact Or.inr ⟨e, fw, nw, w1, w2, z⟩
    · exact absurd (by rw [e]; decide) rd.2
  rcases two with ⟨e, z⟩ | ⟨e, fw, nw, w1, w2, z⟩
  · refine br_f e (xw_readTokens_stateLooks (a_tokenKinds := K) hg hu hG c24 hw (xr_st hT hL) (by have := hT.2.1; omega) (by have := hT.2.1; omega) hI.2.1 (tb_A hg ff (nx_ok ff.2.2.1) z) (tb_B hg hu ff (nx_ok ff.2.2.1)) (tb_u9 hg ff) (fun d v S V Us a1 a2 a3 a4 a5 => ?_) (fun a1 m' a2 rh uc S V Us => ?_))
    · exact ⟨nb_1, h1 c K L d v S V Us rd hc (dv_len (len := L) hl _ _ _ _ _ a1) a2 a3 a4 a5⟩
    · exact ⟨nb_0, h0 c K L m' rh uc S V Us rd hc a1 a2⟩
  · rcases hZ with ⟨_, hZ⟩ | ⟨f', n', q1, q2, q3, q4, q5⟩
    · exact absurd hZ (wz_no w1 w2)
    · obtain ⟨rfl, rfl⟩ := bf_one w1 q1
      have fw' := fin_fullw w1
      refine br_t e (xw_readTokens_wideLooks (a_tokenKinds := K) hg hu hG c24 hw (xr_wd q1 q4 q5) (by omega) (by omega) hI.2.1 (tw_A hg fw' (nx_ok fw'.2.2.1) z) (tw_B hg fw' (nx_ok fw'.2.2.1)) (tw_u9 hg fw') (fun d v S V Us a1 a2 a3 a4 a5 => ?_) (fun a1 m' a2 rh uc S V Us => ?_))
      · exact ⟨nb_1, h1 c K L d v S V Us rd hc (dv_len (len := L) hl _ _ _ _ _ a1) a2 a3 a4 a5⟩
      · exact ⟨nb_0, h0 c K L m' rh uc S V Us rd hc a1 a2⟩
theorem an_nr {r : Int32} (hR : yg_R g r) (h : ¬ rd_g r) {kd : Nat → gk_T} {t : Nat → Nat} {n : Nat} : ¬ an_F g kd t n := by
  rintro ⟨r', c, a, _, b, _⟩
  have e := yg_one hR a
  subst e
  exact h b
theorem xw_reads (hg : rg_ok g) (hG : xg_G g a_lefts a_rights a_rightSizes) (hP : f_prepared = 0 ∨ (f_prepared = 1 ∧ xp_T g f_rulesInUse f_stateCount f_wideCount f_gradeFound a_beginSets a_followSets a_nextItems a_openItems a_restItems a_stateItems a_stateSteps a_stateLooks a_wideSteps a_wideLooks)) {n : Nat} {t : Nat → Nat} {kd : Nat → gk_T} (hn : n ≤ 24) (ht : ∀ i, i < n → a_text i = nI (t i) ∧ t i < 3) (hS : ∀ k, k < 3 → xs_S a_spotCounts a_ends a_arrows a_takers (8 + k) (kd k)) {post : Int32 → SX → Prop} (h : ∀ r tc wp ru sc wc gf rh tt uc K L bs fs ni oi ri si ss sl ws wl S V Us, an_reads g kd t n r → xp_T g ru sc wc gf bs fs ni oi ri si ss sl ws wl → post r (f_depth, f_made, (nI n), tc, wp, (nI (rg_n g)), 1, ru, sc, wc, gf, rh, tt, uc, a_spotCounts, a_ends, a_arrows, a_takers, a_groups, a_marks, a_text, K, L, a_lefts, a_rights, a_rightSizes, bs, fs, ni, oi, ri, si, ss, sl, ws, wl, S, V, Us)) : wpX_reads post (f_depth, f_made, (nI n), f_tokenCount, f_wrongPlace, (nI (rg_n g)), f_prepared, f_rulesInUse, f_stateCount, f_wideCount, f_gradeFound, f_readHeight, f_tokensTaken, f_usedCount, a_spotCounts, a_ends, a_arrows, a_takers, a_groups, a_marks, a_text, a_tokenKinds, a_tokenLengths, a_lefts, a_rights, a_rightSizes, a_beginSets, a_followSets, a_nextItems, a_openItems, a_restItems, a_stateItems, a_stateSteps, a_stateLooks, a_wideSteps, a_wideLooks, a_readStates, a_readValues, a_usedRules) := by
  delta wpX_reads
  refine xw_prepare hg hG hP (fun ru sc wc gf bs fs ni oi ri si ss sl ws wl hT => ?_)
  have hR := xp_R hT
  refine xw_readText hg hG hT hn ht hS (fun z => ?_) (fun c K L d v S V Us rd hc tr len hV hu rr => ?_) (fun c K L m rh uc S V Us rd hc hD rr => ?_)
  · exact br_t rfl (h _ _ _ _ _ _ _ _ _ _ _ _ _ _ _ _ _ _ _ _ _ _ _ _ _ (Or.inr ⟨an_nr hR z, rfl⟩) hT)
  · refine br_f (by decide) (br_c (fun w => ?_) (fun w => ?_))
    · exact h _ _ _ _ _ _ _ _ _ _ _ _ _ _ _ _ _ _ _ _ _ _ _ _ _ (Or.inl ⟨⟨gf, c, hR, hc.1, rd, w, dv_D_of tr⟩, rfl⟩) hT
    · exact h _ _ _ _ _ _ _ _ _ _ _ _ _ _ _ _ _ _ _ _ _ _ _ _ _ (Or.inr ⟨an_no hR hc.1 fun q => w q.2.1, rfl⟩) hT
  · exact br_t rfl (h _ _ _ _ _ _ _ _ _ _ _ _ _ _ _ _ _ _ _ _ _ _ _ _ _ (Or.inr ⟨an_no hR hc.1 fun q => hD q.2.2, rfl⟩) hT)
theorem xw_uses (hg : rg_ok g) (hG : xg_G g a_lefts a_rights a_rightSizes) (hP : f_prepared = 0 ∨ (f_prepared = 1 ∧ xp_T g f_rulesInUse f_stateCount f_wideCount f_gradeFound a_beginSets a_followSets a_nextItems a_openItems a_restItems a_stateItems a_stateSteps a_stateLooks a_wideSteps a_wideLooks)) {n : Nat} {t : Nat → Nat} {kd : Nat → gk_T} (hn : n ≤ 24) (ht : ∀ i, i < n → a_text i = nI (t i) ∧ t i < 3) (hS : ∀ k, k < 3 → xs_S a_spotCounts a_ends a_arrows a_takers (8 + k) (kd k)) {post : Int32 → SX → Prop} (h : ∀ r tc wp ru sc wc gf rh tt uc K L bs fs ni oi ri si ss sl ws wl S V Us, an_uses g kd t n r → xp_T g ru sc wc gf bs fs ni oi ri si ss sl ws wl → post r (f_depth, f_made, (nI n), tc, wp, (nI (rg_n g)), 1, ru, sc, wc, gf, rh, tt, uc, a_spotCounts, a_ends, a_arrows, a_takers, a_groups, a_marks, a_text, K, L, a_lefts, a_rights, a_rightSizes, bs, fs, ni, oi, ri, si, ss, sl, ws, wl, S, V, Us)) : wpX_uses post (f_depth, f_made, (nI n), f_tokenCount, f_wrongPlace, (nI (rg_n g)), f_prepared, f_rulesInUse, f_stateCount, f_wideCount, f_gradeFound, f_readHeight, f_tokensTaken, f_usedCount, a_spotCounts, a_ends, a_arrows, a_takers, a_groups, a_marks, a_text, a_tokenKinds, a_tokenLengths, a_lefts, a_rights, a_rightSizes, a_beginSets, a_followSets, a_nextItems, a_openItems, a_restItems, a_stateItems, a_stateSteps, a_stateLooks, a_wideSteps, a_wideLooks, a_readStates, a_readValues, a_usedRules) := by
  delta wpX_uses
  refine xw_prepare hg hG hP (fun ru sc wc gf bs fs ni oi ri si ss sl ws wl hT => ?_)
  have hR := xp_R hT
  refine xw_readText hg hG hT hn ht hS (fun z => ?_) (fun c K L d v S V Us rd hc tr len hV hu rr => ?_) (fun c K L m rh uc S V Us rd hc hD rr => ?_)
  · exact br_t rfl (h _ _ _ _ _ _ _ _ _ _ _ _ _ _ _ _ _ _ _ _ _ _ _ _ _ (Or.inr ⟨an_nr hR z, rfl⟩) hT)
  · refine br_f (by decide) (br_c (fun w => ?_) (fun w => ?_))
    · exact h _ _ _ _ _ _ _ _ _ _ _ _ _ _ _ _ _ _ _ _ _ _ _ _ _ (Or.inl ⟨v, ⟨gf, c, d, hR, hc.1, rd, w, tr⟩, rfl⟩) hT
    · exact h _ _ _ _ _ _ _ _ _ _ _ _ _ _ _ _ _ _ _ _ _ _ _ _ _ (Or.inr ⟨an_no hR hc.1 fun q => w q.2.1, rfl⟩) hT
  · exact br_t rfl (h _ _ _ _ _ _ _ _ _ _ _ _ _ _ _ _ _ _ _ _ _ _ _ _ _ (Or.inr ⟨an_no hR hc.1 fun q => hD q.2.2, rfl⟩) hT)
theorem xw_value (hg : rg_ok g) (hG : xg_G g a_lefts a_rights a_rightSizes) (hP : f_prepared = 0 ∨ (f_prepared = 1 ∧ xp_T g f_rulesInUse f_stateCount f_wideCount f_gradeFound a_beginSets a_followSets a_nextItems a_openItems a_restItems a_stateItems a_stateSteps a_stateLooks a_wideSteps a_wideLooks)) {n : Nat} {t : Nat → Nat} {kd : Nat → gk_T} (hn : n ≤ 24) (ht : ∀ i, i < n → a_text i = nI (t i) ∧ t i < 3) (hS : ∀ k, k < 3 → xs_S a_spotCounts a_ends a_arrows a_takers (8 + k) (kd k)) {post : Int32 → SX → Prop} (h : ∀ r tc wp ru sc wc gf rh tt uc K L bs fs ni oi ri si ss sl ws wl S V Us, an_value g kd t n r → xp_T g ru sc wc gf bs fs ni oi ri si ss sl ws wl → post r (f_depth, f_made, (nI n), tc, wp, (nI (rg_n g)), 1, ru, sc, wc, gf, rh, tt, uc, a_spotCounts, a_ends, a_arrows, a_takers, a_groups, a_marks, a_text, K, L, a_lefts, a_rights, a_rightSizes, bs, fs, ni, oi, ri, si, ss, sl, ws, wl, S, V, Us)) : wpX_value post (f_depth, f_made, (nI n), f_tokenCount, f_wrongPlace, (nI (rg_n g)), f_prepared, f_rulesInUse, f_stateCount, f_wideCount, f_gradeFound, f_readHeight, f_tokensTaken, f_usedCount, a_spotCounts, a_ends, a_arrows, a_takers, a_groups, a_marks, a_text, a_tokenKinds, a_tokenLengths, a_lefts, a_rights, a_rightSizes, a_beginSets, a_followSets, a_nextItems, a_openItems, a_restItems, a_stateItems, a_stateSteps, a_stateLooks, a_wideSteps, a_wideLooks, a_readStates, a_readValues, a_usedRules) := by
  delta wpX_value
  refine xw_prepare hg hG hP (fun ru sc wc gf bs fs ni oi ri si ss sl ws wl hT => ?_)
  have hR := xp_R hT
  refine xw_readText hg hG hT hn ht hS (fun z => ?_) (fun c K L d v S V Us rd hc tr len hV hu rr => ?_) (fun c K L m rh uc S V Us rd hc hD rr => ?_)
  · exact br_t rfl (h _ _ _ _ _ _ _ _ _ _ _ _ _ _ _ _ _ _ _ _ _ _ _ _ _ (Or.inr ⟨an_nr hR z, rfl⟩) hT)
  · refine br_f (by decide) (br_c (fun w => ⟨pk_in 1 2048 (by omega), ?_⟩) (fun w => ?_))
    · exact h _ _ _ _ _ _ _ _ _ _ _ _ _ _ _ _ _ _ _ _ _ _ _ _ _ (Or.inl ⟨v, ⟨gf, c, d, hR, hc.1, rd, w, tr⟩, hV⟩) hT
    · exact h _ _ _ _ _ _ _ _ _ _ _ _ _ _ _ _ _ _ _ _ _ _ _ _ _ (Or.inr ⟨an_no hR hc.1 fun q => w q.2.1, rfl⟩) hT
  · exact br_t rfl (h _ _ _ _ _ _ _ _ _ _ _ _ _ _ _ _ _ _ _ _ _ _ _ _ _ (Or.inr ⟨an_no hR hc.1 fun q => hD q.2.2, rfl⟩) hT)
theorem xw_used (hg : rg_ok g) (hG : xg_G g a_lefts a_rights a_rightSizes) (hP : f_prepared = 0 ∨ (f_prepared = 1 ∧ xp_T g f_rulesInUse f_stateCount f_wideCount f_gradeFound a_beginSets a_followSets a_nextItems a_openItems a_restItems a_stateItems a_stateSteps a_stateLooks a_wideSteps a_wideLooks)) {n : Nat} {t : Nat → Nat} {kd : Nat → gk_T} (hn : n ≤ 24) (ht : ∀ i, i < n → a_text i = nI (t i) ∧ t i < 3) (hS : ∀ k, k < 3 → xs_S a_spotCounts a_ends a_arrows a_takers (8 + k) (kd k)) {post : Int32 → SX → Prop} {p : Int32} (h : ∀ r tc wp ru sc wc gf rh tt uc K L bs fs ni oi ri si ss sl ws wl S V Us, an_used g kd t n p r → xp_T g ru sc wc gf bs fs ni oi ri si ss sl ws wl → post r (f_depth, f_made, (nI n), tc, wp, (nI (rg_n g)), 1, ru, sc, wc, gf, rh, tt, uc, a_spotCounts, a_ends, a_arrows, a_takers, a_groups, a_marks, a_text, K, L, a_lefts, a_rights, a_rightSizes, bs, fs, ni, oi, ri, si, ss, sl, ws, wl, S, V, Us)) : wpX_used post (f_depth, f_made, (nI n), f_tokenCount, f_wrongPlace, (nI (rg_n g)), f_prepared, f_rulesInUse, f_stateCount, f_wideCount, f_gradeFound, f_readHeight, f_tokensTaken, f_usedCount, a_spotCounts, a_ends, a_arrows, a_takers, a_groups, a_marks, a_text, a_tokenKinds, a_tokenLengths, a_lefts, a_rights, a_rightSizes, a_beginSets, a_followSets, a_nextItems, a_openItems, a_restItems, a_stateItems, a_stateSteps, a_stateLooks, a_wideSteps, a_wideLooks, a_readStates, a_readValues, a_usedRules) p := by
  delta wpX_used
  refine xw_prepare hg hG hP (fun ru sc wc gf bs fs ni oi ri si ss sl ws wl hT => ?_)
  have hR := xp_R hT
  refine xw_readText hg hG hT hn ht hS (fun z => ?_) (fun c K L d v S V Us rd hc tr len hV hu rr => ?_) (fun c K L m rh uc S V Us rd hc hD rr => ?_)
  · exact br_t rfl (br_t rfl (h _ _ _ _ _ _ _ _ _ _ _ _ _ _ _ _ _ _ _ _ _ _ _ _ _ (Or.inr ⟨an_nr hR z, rfl⟩) hT))
  · refine br_f (by decide) (br_c (fun w => ?_) (fun w => ?_))
    · have T : an_T g kd t n v := ⟨gf, c, d, hR, hc.1, rd, w, tr⟩
      refine br_f (by decide) (br_c (fun z => ?_) (fun z => br_c (fun y => ?_) (fun y => br_c (fun x => ?_) (fun x => ?_))))
      · exact h _ _ _ _ _ _ _ _ _ _ _ _ _ _ _ _ _ _ _ _ _ _ _ _ _ (Or.inl ⟨v, T, Or.inl ⟨Or.inl z, rfl⟩⟩) hT
      · exact h _ _ _ _ _ _ _ _ _ _ _ _ _ _ _ _ _ _ _ _ _ _ _ _ _ (Or.inl ⟨v, T, Or.inl ⟨Or.inr (Or.inl y), rfl⟩⟩) hT
      · exact h _ _ _ _ _ _ _ _ _ _ _ _ _ _ _ _ _ _ _ _ _ _ _ _ _ (Or.inl ⟨v, T, Or.inl ⟨Or.inr (Or.inr x), rfl⟩⟩) hT
      · obtain ⟨q1, q2⟩ := an_ui len hu z y x
        exact ⟨q1, h _ _ _ _ _ _ _ _ _ _ _ _ _ _ _ _ _ _ _ _ _ _ _ _ _ (Or.inl ⟨v, T, q2⟩) hT⟩
    · exact br_t rfl (h _ _ _ _ _ _ _ _ _ _ _ _ _ _ _ _ _ _ _ _ _ _ _ _ _ (Or.inr ⟨an_no hR hc.1 fun q => w q.2.1, rfl⟩) hT)
  · exact br_t rfl (br_t rfl (h _ _ _ _ _ _ _ _ _ _ _ _ _ _ _ _ _ _ _ _ _ _ _ _ _ (Or.inr ⟨an_no hR hc.1 fun q => hD q.2.2, rfl⟩) hT))
theorem xw_stopsAt (hg : rg_ok g) (hG : xg_G g a_lefts a_rights a_rightSizes) (hP : f_prepared = 0 ∨ (f_prepared = 1 ∧ xp_T g f_rulesInUse f_stateCount f_wideCount f_gradeFound a_beginSets a_followSets a_nextItems a_openItems a_restItems a_stateItems a_stateSteps a_stateLooks a_wideSteps a_wideLooks)) {n : Nat} {t : Nat → Nat} {kd : Nat → gk_T} (hn : n ≤ 24) (ht : ∀ i, i < n → a_text i = nI (t i) ∧ t i < 3) (hS : ∀ k, k < 3 → xs_S a_spotCounts a_ends a_arrows a_takers (8 + k) (kd k)) {post : Int32 → SX → Prop} (h : ∀ r tc wp ru sc wc gf rh tt uc K L bs fs ni oi ri si ss sl ws wl S V Us, an_stops g kd t n r → xp_T g ru sc wc gf bs fs ni oi ri si ss sl ws wl → post r (f_depth, f_made, (nI n), tc, wp, (nI (rg_n g)), 1, ru, sc, wc, gf, rh, tt, uc, a_spotCounts, a_ends, a_arrows, a_takers, a_groups, a_marks, a_text, K, L, a_lefts, a_rights, a_rightSizes, bs, fs, ni, oi, ri, si, ss, sl, ws, wl, S, V, Us)) : wpX_stopsAt post (f_depth, f_made, (nI n), f_tokenCount, f_wrongPlace, (nI (rg_n g)), f_prepared, f_rulesInUse, f_stateCount, f_wideCount, f_gradeFound, f_readHeight, f_tokensTaken, f_usedCount, a_spotCounts, a_ends, a_arrows, a_takers, a_groups, a_marks, a_text, a_tokenKinds, a_tokenLengths, a_lefts, a_rights, a_rightSizes, a_beginSets, a_followSets, a_nextItems, a_openItems, a_restItems, a_stateItems, a_stateSteps, a_stateLooks, a_wideSteps, a_wideLooks, a_readStates, a_readValues, a_usedRules) := by
  delta wpX_stopsAt
  refine xw_prepare hg hG hP (fun ru sc wc gf bs fs ni oi ri si ss sl ws wl hT => ?_)
  have hR := xp_R hT
  refine xw_canRead hR (fun rd => br_f (by decide) ?_) (fun z => br_t rfl (h _ _ _ _ _ _ _ _ _ _ _ _ _ _ _ _ _ _ _ _ _ _ _ _ _ (Or.inr ⟨gf, hR, z, rfl⟩) hT))
  refine xw_readText hg hG hT hn ht hS (fun z => absurd rd z) (fun c K L d v S V Us rd hc tr len hV hu rr => ?_) (fun c K L m rh uc S V Us rd hc hD rr => ?_)
  · exact h _ _ _ _ _ _ _ _ _ _ _ _ _ _ _ _ _ _ _ _ _ _ _ _ _ (Or.inl ⟨gf, c, c, hR, hc.1, rd, rr, rfl⟩) hT
  · exact h _ _ _ _ _ _ _ _ _ _ _ _ _ _ _ _ _ _ _ _ _ _ _ _ _ (Or.inl ⟨gf, c, m, hR, hc.1, rd, rr, rfl⟩) hT
end
