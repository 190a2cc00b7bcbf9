/-! the reference builds what a text is made of -/
variable {h_made h_depth h_length h_tokenCount h_wrong h_letterCount h_ruleCount h_makingCount h_usefulRules h_stateCount h_wideCount h_useCount h_result : Int32} {b_ops b_firsts b_seconds b_sizes b_stack b_roots b_text b_ends b_tokenKinds b_tokenSizes b_letters b_begins b_closes b_empties b_nexts b_sets b_leads b_classes b_newClasses b_lefts b_rights b_counts b_making b_firstSets b_followSets b_tasks b_held b_uses b_reach : Nat → Int32} {b_states b_looks b_wides b_work b_met : Nat → Int64}
section
variable {g : rg_T}
def yb_us (L : List Nat) (Us : Nat → Int32) : Prop := ∀ q x, L[q]? = some x → q < 200 → Us q = nI x
theorem yb_u1 {L : List Nat} {Us : Nat → Int32} {r : Nat} (h : yb_us L Us) : (200 ≤ L.length → yb_us (L ++ [r]) Us) ∧ yb_us (L ++ [r]) (upd Us L.length (nI r)) := by
  constructor
  · intro z q x hx hq
    rw [List.getElem?_append_left (by omega)] at hx
    exact h q x hx hq
  · intro q x hx hq
    by_cases e : q < L.length
    · rw [List.getElem?_append_left e] at hx
      rw [pk_un (by omega)]
      exact h q x hx hq
    · rw [List.getElem?_append_right (by omega)] at hx
      by_cases e2 : q = L.length
      · subst e2
        rw [Nat.sub_self] at hx
        have hx : some r = some x := hx
        cases hx
        exact pk_us
      · rw [show q - L.length = (q - L.length - 1) + 1 by omega] at hx
        have hx : ([] : List Nat)[q - L.length - 1]? = some x := hx
        rw [List.getElem?_nil] at hx
        cases hx
theorem yw_finish {r p c : Nat} {fs : Nat → vt_T} (hr : r < 10) (hcr : b_counts r = nI c) (hc4 : c ≤ 4) (hH : ∀ k, k < c → b_held (p + k) = (fs k).2.1) (hp : p + 4 ≤ 3000) {L : List Nat} (hL : L.length < 2 ^ 30) (hu : yb_us L b_uses) {post : SY → Prop} (h : ∀ Us, yb_us (L ++ [r]) Us → post (h_made, h_depth, h_length, h_tokenCount, h_wrong, h_letterCount, h_ruleCount, h_makingCount, h_usefulRules, h_stateCount, h_wideCount, (nI (L ++ [r]).length), h_result, b_ops, b_firsts, b_seconds, b_sizes, b_stack, b_roots, b_text, b_ends, b_tokenKinds, b_tokenSizes, b_letters, b_begins, b_closes, b_empties, b_nexts, b_sets, b_leads, b_classes, b_newClasses, b_lefts, b_rights, b_counts, b_making, b_firstSets, b_followSets, b_states, b_looks, b_wides, b_work, b_met, b_tasks, (upd b_held p (vt_vl r (vt_li fs c))), Us, b_reach)) : wpY_finish post (h_made, h_depth, h_length, h_tokenCount, h_wrong, h_letterCount, h_ruleCount, h_makingCount, h_usefulRules, h_stateCount, h_wideCount, (nI L.length), h_result, b_ops, b_firsts, b_seconds, b_sizes, b_stack, b_roots, b_text, b_ends, b_tokenKinds, b_tokenSizes, b_letters, b_begins, b_closes, b_empties, b_nexts, b_sets, b_leads, b_classes, b_newClasses, b_lefts, b_rights, b_counts, b_making, b_firstSets, b_followSets, b_states, b_looks, b_wides, b_work, b_met, b_tasks, b_held, b_uses, b_reach) (nI r) (nI p) := by
  have ir : vp_in (nI r) 10 := vp_in_nI hr (by decide)
  have cr : (nI r).toNatClampNeg = r := nI_clamp (by omega)
  have el : (L ++ [r]).length = L.length + 1 := by rw [List.length_append]; rfl
  rw [el] at h
  refine nm_e ?_
  refine loop_0 (fun f k x => wY_finish_7 post (nI r) (nI p) h_made h_depth h_length h_tokenCount h_wrong h_letterCount h_ruleCount h_makingCount h_usefulRules h_stateCount h_wideCount (nI L.length) h_result b_ops b_firsts b_seconds b_sizes b_stack b_roots b_text b_ends b_tokenKinds b_tokenSizes b_letters b_begins b_closes b_empties b_nexts b_sets b_leads b_classes b_newClasses b_lefts b_rights b_counts b_making b_firstSets b_followSets b_states b_looks b_wides b_work b_met b_tasks b_held b_uses b_reach f x (nI k)) (fun k x => x = vt_vl r (vt_li fs k)) c (nI r + 1) rfl ?_ ?_
  · rintro f x rfl
    refine ⟨ir, ?_⟩
    rw [cr, hcr]
    refine br_t (nI_le (Nat.le_refl _) (by omega)) ⟨vp_in_nI (by omega) (by decide), nm_r (e' := upd b_held p (vt_vl r (vt_li fs c))) (by rw [nI_clamp (by omega)]) ?_⟩
    refine pk_le 200 L.length (fun z => nm_r (nI_1 _) (h _ ((yb_u1 hu).1 z))) (fun z => ⟨vp_in_nI z (by decide), nm_r (e' := upd b_uses L.length (nI r)) (by rw [nI_clamp (by omega)]) (nm_r (nI_1 _) (h _ (yb_u1 hu).2))⟩)
  · rintro f k x hk rfl hk1
    refine ⟨ir, ?_⟩
    rw [cr, hcr]
    refine br_f (nI_ge hk (by omega)) ?_
    rw [nI_add p k, nI_1 k, nI_clamp (by omega : p + k < 2 ^ 31), hH k hk]
    refine ⟨vp_in_nI (by omega) (by decide), nm_e (nm_e (hk1 _ ?_))⟩
    show _ = vt_vl r (vt_li fs k) + nI ((vt_li fs k).length + 1) * (fs k).2.1
    rw [vt_li_len]
theorem nI_nle0 (t : Nat) (h : t < 2 ^ 30) : ¬ nI (t + 1) ≤ 0 := nI_ge (a := 0) (b := t + 1) (Nat.succ_pos _) (by omega)
theorem yb_d1 {a x i j : Nat} (ha : a ≤ 1) (hx : x < 16) (hi : i < 32) (hj : j < 32) : yb_c a x i j - yb_c a x i j / 32 * 32 = nI j := by
  unfold yb_c
  rw [show nI (((a * 16 + x) * 32 + i) * 32 + j) - nI (((a * 16 + x) * 32 + i) * 32 + j) / 32 * 32 = nI ((((a * 16 + x) * 32 + i) * 32 + j) % 32) from pk_rem (d := 32) (by omega) (by decide) (by decide)]
  exact congrArg nI (by omega)
theorem yb_d2 {a x i j : Nat} (ha : a ≤ 1) (hx : x < 16) (hi : i < 32) (hj : j < 32) : yb_c a x i j / 32 - yb_c a x i j / 32 / 32 * 32 = nI i := by
  unfold yb_c
  rw [show nI (((a * 16 + x) * 32 + i) * 32 + j) / 32 = nI ((((a * 16 + x) * 32 + i) * 32 + j) / 32) from pk_div (d := 32) (by omega) (by decide) (by decide)]
  rw [show nI ((((a * 16 + x) * 32 + i) * 32 + j) / 32) - nI ((((a * 16 + x) * 32 + i) * 32 + j) / 32) / 32 * 32 = nI ((((a * 16 + x) * 32 + i) * 32 + j) / 32 % 32) from pk_rem (d := 32) (by omega) (by decide) (by decide)]
  exact congrArg nI (by omega)
theorem yb_d3 {a x i j : Nat} (ha : a ≤ 1) (hx : x < 16) (hi : i < 32) (hj : j < 32) : yb_c a x i j / 1024 - yb_c a x i j / 1024 / 16 * 16 = nI x := by
  unfold yb_c
  rw [show nI (((a * 16 + x) * 32 + i) * 32 + j) / 1024 = nI ((((a * 16 + x) * 32 + i) * 32 + j) / 1024) from pk_div (d := 1024) (by omega) (by decide) (by decide)]
  rw [show nI ((((a * 16 + x) * 32 + i) * 32 + j) / 1024) - nI ((((a * 16 + x) * 32 + i) * 32 + j) / 1024) / 16 * 16 = nI ((((a * 16 + x) * 32 + i) * 32 + j) / 1024 % 16) from pk_rem (d := 16) (by omega) (by decide) (by decide)]
  exact congrArg nI (by omega)
theorem yb_d4 {a x i j : Nat} (ha : a ≤ 1) (hx : x < 16) (hi : i < 32) (hj : j < 32) : yb_c a x i j / 16384 = nI a := by
  unfold yb_c
  rw [show nI (((a * 16 + x) * 32 + i) * 32 + j) / 16384 = nI ((((a * 16 + x) * 32 + i) * 32 + j) / 16384) from pk_div (d := 16384) (by omega) (by decide) (by decide)]
  exact congrArg nI (by omega)
theorem vt_len {G : gr_T} {X : tx_T} {len : Nat → Int32} : ∀ d s i j v, dv_tr G X (vt_A len) d s i j v → v.1.length ≤ vt_sz v := by
  intro d
  induction d with
  | zero => intro s i j v z; obtain ⟨_, _, _, _, rfl⟩ := z; exact Nat.zero_le _
  | succ d ih =>
    intro s i j v z
    rcases z with z | ⟨r, vs, _, _, z, rfl⟩
    · exact ih _ _ _ _ z
    · have key : ∀ k i j vs, dv_pre (gr_h G r) (dv_tr G X (vt_A len) d) k i j vs → (vt_us vs).length ≤ lr_sum vt_sz vs := by
        intro k
        induction k with
        | zero => intro i j vs z; obtain ⟨_, rfl⟩ := z; exact Nat.le_refl _
        | succ k ihk =>
          intro i j vs z
          obtain ⟨m, v, ws, z1, z2, rfl⟩ := z
          have a := ihk _ _ _ z1
          have b := ih _ _ _ _ z2
          show (vt_us ws ++ v.1).length ≤ lr_sum vt_sz ws + vt_sz v
          rw [List.length_append]
          omega
      have := key _ _ _ _ z
      show (vt_us vs ++ [r]).length ≤ lr_sum vt_sz vs + 1
      rw [List.length_append]
      exact Nat.succ_le_succ this
theorem vt_sumle {f : Nat → vt_T} : ∀ c m, m ≤ c → lr_sum vt_sz (vt_li f m) ≤ lr_sum vt_sz (vt_li f c) := by
  intro c
  induction c with
  | zero => intro m hm; have : m = 0 := by omega
            subst this; exact Nat.le_refl _
  | succ c ih =>
    intro m hm
    by_cases e : m = c + 1
    · subst e; exact Nat.le_refl _
    · have := ih m (by omega)
      show _ ≤ lr_sum vt_sz (vt_li f c) + vt_sz (f c)
      omega
theorem vt_sum1 {f : Nat → vt_T} {m c : Nat} (h : m < c) : lr_sum vt_sz (vt_li f m) + vt_sz (f m) ≤ lr_sum vt_sz (vt_li f c) := vt_sumle (f := f) c (m + 1) h
theorem vt_usle {f : Nat → vt_T} : ∀ c, (∀ k, k < c → (f k).1.length ≤ vt_sz (f k)) → (vt_us (vt_li f c)).length ≤ lr_sum vt_sz (vt_li f c) := by
  intro c
  induction c with
  | zero => intro _; exact Nat.le_refl _
  | succ c ih =>
    intro h
    have a := ih (fun k hk => h k (by omega))
    have b := h c (by omega)
    show (vt_us (vt_li f c) ++ (f c).1).length ≤ lr_sum vt_sz (vt_li f c) + vt_sz (f c)
    rw [List.length_append]
    omega
/-- the steps of the parts that are left -/
def yb_s (K : Nat → Nat) (c : Nat) : Nat → Nat
  | 0 => 0
  | n + 1 => yb_s K c n + K (c - (n + 1))
theorem yw_run (hg : rg_ok g) (hG : xg_G g b_lefts b_rights b_counts) {u : Int32} (hU : yg_U g u) {w : Nat → Nat} {c : Nat} (hc : c ≤ 24) (hw : ∀ i, i < c → b_tokenKinds i = nI (w i) ∧ w i < 3) (hM : ym_M g w c b_met) (h1 : cx_one (tg_G g) (w, c) b_tokenSizes) {post : Int32 → SY → Prop} :
    ∀ N D x i j d u0, dv_tr (tg_G g) (w, c) (vt_A b_tokenSizes) d x i j u0 → vt_sz u0 ≤ N → cx_C (tg_G g) (w, c) b_tokenSizes D x i j → er_dv (tg_G g) (w, c) x i j → x < 7 → i ≤ c → ∃ K d' v, dv_tr (tg_G g) (w, c) (vt_A b_tokenSizes) d' x i j v ∧
      ∀ n t p (T H R Us : Nat → Int32) (L : List Nat), t ≤ 5 * D → p ≤ 4 * D → L.length + vt_sz v ≤ 2 ^ 29 → T t = yb_c 0 x i j → yb_us L Us → (∀ T' H' R' Us', (∀ y, y < t → T' y = T y) → (∀ y, y < p → H' y = H y) → H' p = v.2.1 → yb_us (L ++ v.1) Us' → wY_build_35 post n (nI t) (nI (p + 1)) h_made h_depth h_length h_tokenCount h_wrong h_letterCount h_ruleCount h_makingCount u h_stateCount h_wideCount (nI (L ++ v.1).length) h_result b_ops b_firsts b_seconds b_sizes b_stack b_roots b_text b_ends b_tokenKinds b_tokenSizes b_letters b_begins b_closes b_empties b_nexts b_sets b_leads b_classes b_newClasses b_lefts b_rights b_counts b_making b_firstSets b_followSets b_states b_looks b_wides b_work b_met T' H' Us' R') → wY_build_35 post (n + K) (nI (t + 1)) (nI p) h_made h_depth h_length h_tokenCount h_wrong h_letterCount h_ruleCount h_makingCount u h_stateCount h_wideCount (nI L.length) h_result b_ops b_firsts b_seconds b_sizes b_stack b_roots b_text b_ends b_tokenKinds b_tokenSizes b_letters b_begins b_closes b_empties b_nexts b_sets b_leads b_classes b_newClasses b_lefts b_rights b_counts b_making b_firstSets b_followSets b_states b_looks b_wides b_work b_met T H Us R := by
  have hX : tx_ok (w, c) := fun i hi => (hw i hi).2
  have hO := tg_ok hg
  intro N
  induction N with
  | zero =>
    intro D x i j d u0 a b
    exfalso
    have : ∀ d x i j v, dv_tr (tg_G g) (w, c) (vt_A b_tokenSizes) d x i j v → 0 < vt_sz v := by
      intro d
      induction d with
      | zero => intro x i j v z; obtain ⟨_, _, _, _, rfl⟩ := z; exact Nat.one_pos
      | succ d ih =>
        intro x i j v z
        rcases z with z | ⟨r, vs, _, _, _, rfl⟩
        · exact ih _ _ _ _ z
        · exact Nat.succ_pos _
    have := this _ _ _ _ _ a
    omega
  | succ N ih =>
    intro D x i j d u0 a b hC hE hx hi
    have hD := er_dv_D hX hO hE
    have hij := (dv_D_rng hD).1
    have hj : j ≤ c := (dv_D_rng hD).2 hi
    have d100 := cx_100 h1 hO hc hC hD
    rcases Nat.lt_or_ge x 3 with x3 | x3
    · rcases hE with ⟨_, q1, q2, q3⟩ | ⟨q, _⟩
      · have q1 : i < c := q1
        refine ⟨1, 0, ([], b_tokenSizes i, 0, 1), ⟨x3, q1, q2, q3, rfl⟩, fun n t p T H R Us L ht hp hL hT hu hk => ?_⟩
        refine br_f (nI_nle0 t (by omega)) (nm_r (pk_m1 t) ?_)
        rw [nI_clamp (by omega : t < 2 ^ 31), hT, yb_d1 (by omega) (by omega) (by omega) (by omega), yb_d2 (by omega) (by omega) (by omega) (by omega), yb_d3 (by omega) (by omega) (by omega) (by omega), yb_d4 (by omega) (by omega) (by omega) (by omega)]
        have it : vp_in (nI t) 3000 := vp_in_nI (by omega) (by decide)
        refine ⟨it, by decide, nm_e ⟨it, by decide, by decide, nm_e ⟨it, by decide, by decide, nm_e ⟨it, by decide, br_f (by decide) (pk_le 3 x (fun z => by omega) (fun z => ⟨vp_in_nI (by omega) (by decide), vp_in_nI (by omega) (by decide), nm_r (e' := upd H p (b_tokenSizes i)) (by rw [nI_clamp (by omega), nI_clamp (by omega)]) (nm_r (nI_1 p) ?_)⟩))⟩⟩⟩⟩
        have := hk T (upd H p (b_tokenSizes i)) R Us (fun _ _ => rfl) (fun y hy => pk_un (by omega)) pk_us (by rw [List.append_nil]; exact hu)
        rw [List.append_nil] at this
        exact this
      · omega
    · obtain ⟨r, e, hr⟩ := yb_ex hg hX hM x3 hij hj hE
      have hr0 := hr
      obtain ⟨⟨hr1, hl, _, _⟩, _, ec, e0, hch⟩ := hr
      have c4 := (hg.2.1 r hr1.1).2.2.1
      have h7 := (hg.2.1 r hr1.1).2.2.2
      have r9 := hr1.1
      have h9 := hg.1
      have dv : ∀ k, k < rg_c g r → er_dv (tg_G g) (w, c) (rg_h g r k) (e k) (e (k + 1)) := fun k hk => by
        obtain ⟨a1, a2, _, a4, _⟩ := hch k hk
        exact (ym_dE hg hM a1 (by omega)).mp a4.2
      have dD : ∀ k, k < rg_c g r → dv_D (tg_G g) (w, c) (rg_h g r k) (e k) (e (k + 1)) := fun k hk => er_dv_D hX hO (dv k hk)
      have hC' : cx_C (tg_G g) (w, c) b_tokenSizes D (gr_l (tg_G g) r) (e 0) (e (gr_c (tg_G g) r)) := by
        show cx_C (tg_G g) (w, c) b_tokenSizes D (rg_l g r) (e 0) (e (rg_c g r))
        rw [hl, e0, ec]; exact hC
      -- the parts
      have chd : ∀ k, ∃ K v, k < rg_c g r → (∃ d', dv_tr (tg_G g) (w, c) (vt_A b_tokenSizes) d' (rg_h g r k) (e k) (e (k + 1)) v) ∧
          ∀ n t p (T H R Us : Nat → Int32) (L : List Nat), t ≤ 5 * (D + 1) → p ≤ 4 * (D + 1) → L.length + vt_sz v ≤ 2 ^ 29 → T t = yb_c 0 (rg_h g r k) (e k) (e (k + 1)) → yb_us L Us → (∀ T' H' R' Us', (∀ y, y < t → T' y = T y) → (∀ y, y < p → H' y = H y) → H' p = v.2.1 → yb_us (L ++ v.1) Us' → wY_build_35 post n (nI t) (nI (p + 1)) h_made h_depth h_length h_tokenCount h_wrong h_letterCount h_ruleCount h_makingCount u h_stateCount h_wideCount (nI (L ++ v.1).length) h_result b_ops b_firsts b_seconds b_sizes b_stack b_roots b_text b_ends b_tokenKinds b_tokenSizes b_letters b_begins b_closes b_empties b_nexts b_sets b_leads b_classes b_newClasses b_lefts b_rights b_counts b_making b_firstSets b_followSets b_states b_looks b_wides b_work b_met T' H' Us' R') → wY_build_35 post (n + K) (nI (t + 1)) (nI p) h_made h_depth h_length h_tokenCount h_wrong h_letterCount h_ruleCount h_makingCount u h_stateCount h_wideCount (nI L.length) h_result b_ops b_firsts b_seconds b_sizes b_stack b_roots b_text b_ends b_tokenKinds b_tokenSizes b_letters b_begins b_closes b_empties b_nexts b_sets b_leads b_classes b_newClasses b_lefts b_rights b_counts b_making b_firstSets b_followSets b_states b_looks b_wides b_work b_met T H Us R := by
        intro k
        rcases Nat.lt_or_ge k (rg_c g r) with hk | hk
        · have cC := cx_child (G := tg_G g) (X := (w, c)) (len := b_tokenSizes) (k := k) hr1 hC' dD hk
          -- its size
          have ex : ∀ k, ∃ v, k < rg_c g r → ∃ d, dv_tr (tg_G g) (w, c) (vt_A b_tokenSizes) d (rg_h g r k) (e k) (e (k + 1)) v := by
            intro k
            rcases Nat.lt_or_ge k (rg_c g r) with z | z
            · obtain ⟨d, v, h⟩ := dv_D_to (vt_A b_tokenSizes) (dD k z)
              exact ⟨v, fun _ => ⟨d, h⟩⟩
            · exact ⟨([], 0, 0, 0), fun z' => by omega⟩
          obtain ⟨f, hf⟩ : ∃ f : Nat → vt_T, ∀ k, k < rg_c g r → ∃ d, dv_tr (tg_G g) (w, c) (vt_A b_tokenSizes) d (rg_h g r k) (e k) (e (k + 1)) (f k) := ⟨fun k => Classical.choose (ex k), fun k => Classical.choose_spec (ex k)⟩
          obtain ⟨dd, hd⟩ := vt_node (A := vt_A b_tokenSizes) (G := tg_G g) hr1 hf
          have hd : dv_tr (tg_G g) (w, c) (vt_A b_tokenSizes) dd (rg_l g r) (e 0) (e (rg_c g r)) ((vt_A b_tokenSizes).2 r (vt_li f (rg_c g r))) := hd
          rw [hl, e0, ec] at hd
          have sz := cx_sz h1 hC a hd
          have sz : vt_sz u0 = lr_sum vt_sz (vt_li f (rg_c g r)) + 1 := sz
          have le := vt_sum1 (f := f) hk
          obtain ⟨dk, hdk⟩ := hf k hk
          obtain ⟨K, d', v, q1, q2⟩ := ih (D + 1) (rg_h g r k) (e k) (e (k + 1)) dk (f k) hdk (by omega) cC (dv k hk) (h7 k hk) (by have := hch k hk; omega)
          exact ⟨K, v, fun _ => ⟨⟨d', q1⟩, q2⟩⟩
        · exact ⟨0, ([], 0, 0, 0), fun z => by omega⟩
      obtain ⟨K, hK⟩ : ∃ K : Nat → Nat, ∀ k, ∃ v, k < rg_c g r → (∃ d', dv_tr (tg_G g) (w, c) (vt_A b_tokenSizes) d' (rg_h g r k) (e k) (e (k + 1)) v) ∧
          ∀ n t p (T H R Us : Nat → Int32) (L : List Nat), t ≤ 5 * (D + 1) → p ≤ 4 * (D + 1) → L.length + vt_sz v ≤ 2 ^ 29 → T t = yb_c 0 (rg_h g r k) (e k) (e (k + 1)) → yb_us L Us → (∀ T' H' R' Us', (∀ y, y < t → T' y = T y) → (∀ y, y < p → H' y = H y) → H' p = v.2.1 → yb_us (L ++ v.1) Us' → wY_build_35 post n (nI t) (nI (p + 1)) h_made h_depth h_length h_tokenCount h_wrong h_letterCount h_ruleCount h_makingCount u h_stateCount h_wideCount (nI (L ++ v.1).length) h_result b_ops b_firsts b_seconds b_sizes b_stack b_roots b_text b_ends b_tokenKinds b_tokenSizes b_letters b_begins b_closes b_empties b_nexts b_sets b_leads b_classes b_newClasses b_lefts b_rights b_counts b_making b_firstSets b_followSets b_states b_looks b_wides b_work b_met T' H' Us' R') → wY_build_35 post (n + K k) (nI (t + 1)) (nI p) h_made h_depth h_length h_tokenCount h_wrong h_letterCount h_ruleCount h_makingCount u h_stateCount h_wideCount (nI L.length) h_result b_ops b_firsts b_seconds b_sizes b_stack b_roots b_text b_ends b_tokenKinds b_tokenSizes b_letters b_begins b_closes b_empties b_nexts b_sets b_leads b_classes b_newClasses b_lefts b_rights b_counts b_making b_firstSets b_followSets b_states b_looks b_wides b_work b_met T H Us R := ⟨fun k => Classical.choose (chd k), fun k => Classical.choose_spec (chd k)⟩
      obtain ⟨fs, hfs⟩ : ∃ fs : Nat → vt_T, ∀ k, k < rg_c g r → (∃ d', dv_tr (tg_G g) (w, c) (vt_A b_tokenSizes) d' (rg_h g r k) (e k) (e (k + 1)) (fs k)) ∧
          ∀ n t p (T H R Us : Nat → Int32) (L : List Nat), t ≤ 5 * (D + 1) → p ≤ 4 * (D + 1) → L.length + vt_sz (fs k) ≤ 2 ^ 29 → T t = yb_c 0 (rg_h g r k) (e k) (e (k + 1)) → yb_us L Us → (∀ T' H' R' Us', (∀ y, y < t → T' y = T y) → (∀ y, y < p → H' y = H y) → H' p = (fs k).2.1 → yb_us (L ++ (fs k).1) Us' → wY_build_35 post n (nI t) (nI (p + 1)) h_made h_depth h_length h_tokenCount h_wrong h_letterCount h_ruleCount h_makingCount u h_stateCount h_wideCount (nI (L ++ (fs k).1).length) h_result b_ops b_firsts b_seconds b_sizes b_stack b_roots b_text b_ends b_tokenKinds b_tokenSizes b_letters b_begins b_closes b_empties b_nexts b_sets b_leads b_classes b_newClasses b_lefts b_rights b_counts b_making b_firstSets b_followSets b_states b_looks b_wides b_work b_met T' H' Us' R') → wY_build_35 post (n + K k) (nI (t + 1)) (nI p) h_made h_depth h_length h_tokenCount h_wrong h_letterCount h_ruleCount h_makingCount u h_stateCount h_wideCount (nI L.length) h_result b_ops b_firsts b_seconds b_sizes b_stack b_roots b_text b_ends b_tokenKinds b_tokenSizes b_letters b_begins b_closes b_empties b_nexts b_sets b_leads b_classes b_newClasses b_lefts b_rights b_counts b_making b_firstSets b_followSets b_states b_looks b_wides b_work b_met T H Us R := ⟨fun k => Classical.choose (hK k), fun k => Classical.choose_spec (hK k)⟩
      obtain ⟨dd, hd⟩ := vt_node (A := vt_A b_tokenSizes) (G := tg_G g) hr1 (fun k hk => (hfs k hk).1)
      have hd : dv_tr (tg_G g) (w, c) (vt_A b_tokenSizes) dd (rg_l g r) (e 0) (e (rg_c g r)) ((vt_A b_tokenSizes).2 r (vt_li fs (rg_c g r))) := hd
      rw [hl, e0, ec] at hd
      have fl : ∀ k, k < rg_c g r → (fs k).1.length ≤ vt_sz (fs k) := fun k hk => by
        obtain ⟨d', q⟩ := (hfs k hk).1
        exact vt_len _ _ _ _ _ q
      refine ⟨yb_s K (rg_c g r) (rg_c g r) + 1 + 1, dd, (vt_us (vt_li fs (rg_c g r)) ++ [r], vt_vl r (vt_li fs (rg_c g r)), vt_dp (vt_li fs (rg_c g r)) + 1, lr_sum vt_sz (vt_li fs (rg_c g r)) + 1), hd, fun n t p T H R Us L ht hp hL hT hu hk => ?_⟩
      have hL : L.length + (lr_sum vt_sz (vt_li fs (rg_c g r)) + 1) ≤ 2 ^ 29 := hL
      -- the parts one after another
      have chain : ∀ m, m ≤ rg_c g r → ∀ (T' H' R' Us' : Nat → Int32), yb_T g r i j e t T T' (rg_c g r - m) → (∀ y, y < p → H' y = H y) → (∀ q, q < rg_c g r - m → H' (p + q) = (fs q).2.1) → yb_us (L ++ vt_us (vt_li fs (rg_c g r - m))) Us' → wY_build_35 post (n + 1 + yb_s K (rg_c g r) m) (nI (t + 1 + m)) (nI (p + (rg_c g r - m))) h_made h_depth h_length h_tokenCount h_wrong h_letterCount h_ruleCount h_makingCount u h_stateCount h_wideCount (nI (L ++ vt_us (vt_li fs (rg_c g r - m))).length) h_result b_ops b_firsts b_seconds b_sizes b_stack b_roots b_text b_ends b_tokenKinds b_tokenSizes b_letters b_begins b_closes b_empties b_nexts b_sets b_leads b_classes b_newClasses b_lefts b_rights b_counts b_making b_firstSets b_followSets b_states b_looks b_wides b_work b_met T' H' Us' R' := by
        intro m
        induction m with
        | zero =>
          intro _ T' H' R' Us' hT' hH' hq hu'
          rw [Nat.sub_zero] at hT' hq hu' ⊢
          rw [Nat.add_zero]
          have ul := vt_usle (f := fs) (rg_c g r) fl
          have ll : (L ++ vt_us (vt_li fs (rg_c g r))).length = L.length + (vt_us (vt_li fs (rg_c g r))).length := List.length_append
          refine br_f (nI_nle0 t (by omega)) (nm_r (pk_m1 t) ?_)
          rw [nI_clamp (by omega : t < 2 ^ 31), hT'.2.1, yb_d1 (by omega) (by omega) (by omega) (by omega), yb_d2 (by omega) (by omega) (by omega) (by omega), yb_d3 (by omega) (by omega) (by omega) (by omega), yb_d4 (by omega) (by omega) (by omega) (by omega)]
          have it : vp_in (nI t) 3000 := vp_in_nI (by omega) (by decide)
          obtain ⟨g1, g2, g3⟩ := hG r (Or.inl hr1.1)
          refine ⟨it, by decide, nm_e ⟨it, by decide, by decide, nm_e ⟨it, by decide, by decide, nm_e ⟨it, by decide, br_t rfl ⟨vp_in_nI (by omega) (by decide), nm_r (e' := nI p) (by rw [nI_clamp (by omega), g2, pk_sub (by omega), Nat.add_sub_cancel]) ?_⟩⟩⟩⟩⟩
          refine yw_finish (b_held := H') (b_uses := Us') (L := L ++ vt_us (vt_li fs (rg_c g r))) (fs := fs) (by omega) g2 c4 hq (by omega) (by omega) hu' (fun Us2 hu2 => nm_r (nI_1 p) ?_)
          rw [List.append_assoc] at hu2 ⊢
          exact hk T' _ R' Us2 hT'.1 (fun y hy => by rw [pk_un (by omega)]; exact hH' y hy) pk_us hu2
        | succ m ihm =>
          intro hm T' H' R' Us' hT' hH' hq hu'
          have em : rg_c g r - m = rg_c g r - (m + 1) + 1 := by omega
          have hm' : rg_c g r - (m + 1) < rg_c g r := by omega
          have ul := vt_usle (f := fs) (rg_c g r - (m + 1)) (fun k hk => fl k (by omega))
          have s1 := vt_sum1 (f := fs) hm'
          have ll : (L ++ vt_us (vt_li fs (rg_c g r - (m + 1)))).length = L.length + (vt_us (vt_li fs (rg_c g r - (m + 1)))).length := List.length_append
          have := (hfs (rg_c g r - (m + 1)) hm').2 (n + 1 + yb_s K (rg_c g r) m) (t + 1 + m) (p + (rg_c g r - (m + 1))) T' H' R' Us' (L ++ vt_us (vt_li fs (rg_c g r - (m + 1)))) (by omega) (by omega) (by omega) ?_ hu' ?_
          · rw [show n + 1 + yb_s K (rg_c g r) (m + 1) = n + 1 + yb_s K (rg_c g r) m + K (rg_c g r - (m + 1)) from (Nat.add_assoc _ _ _).symm]
            exact this
          · have := hT'.2.2 (rg_c g r - (m + 1)) (Nat.le_refl _) hm'
            rw [show t + rg_c g r - (rg_c g r - (m + 1)) = t + 1 + m by omega] at this
            exact this
          · intro T2 H2 R2 Us2 k1 k2 k3 k4
            have e5 : L ++ vt_us (vt_li fs (rg_c g r - (m + 1))) ++ (fs (rg_c g r - (m + 1))).1 = L ++ vt_us (vt_li fs (rg_c g r - m)) := by
              rw [em, List.append_assoc]; rfl
            rw [e5] at k4 ⊢
            have := ihm (by omega) T2 H2 R2 Us2 ⟨fun y hy => ?_, ?_, fun q q1 q2 => ?_⟩ (fun y hy => ?_) (fun q q1 => ?_) k4
            · rw [show p + (rg_c g r - m) = p + (rg_c g r - (m + 1)) + 1 by omega] at this
              exact this
            · rw [k1 y (by omega)]; exact hT'.1 y hy
            · rw [k1 t (by omega)]; exact hT'.2.1
            · rw [k1 _ (by omega)]; exact hT'.2.2 q (by omega) q2
            · rw [k2 y (by omega)]; exact hH' y hy
            · by_cases z : q = rg_c g r - (m + 1)
              · subst z; exact k3
              · rw [k2 _ (by omega)]; exact hq q (by omega)
      -- the first step
      refine br_f (nI_nle0 t (by omega)) (nm_r (pk_m1 t) ?_)
      rw [nI_clamp (by omega : t < 2 ^ 31), hT, yb_d1 (by omega) (by omega) (by omega) (by omega), yb_d2 (by omega) (by omega) (by omega) (by omega), yb_d3 (by omega) (by omega) (by omega) (by omega), yb_d4 (by omega) (by omega) (by omega) (by omega)]
      have it : vp_in (nI t) 3000 := vp_in_nI (by omega) (by decide)
      refine ⟨it, by decide, nm_e ⟨it, by decide, by decide, nm_e ⟨it, by decide, by decide, nm_e ⟨it, by decide, br_f (by decide) (pk_le 3 x (fun z => ?_) (fun z => by omega))⟩⟩⟩⟩
      refine yw_expand (b_tasks := T) (b_held := H) (b_uses := Us) (b_reach := R) hg hG hU hc hw hx hij hj hr0 (by omega) (fun R' T' hT' => ?_)
      have := chain (rg_c g r) (Nat.le_refl _) T' H R' Us (by rw [Nat.sub_self]; exact hT') (fun _ _ => rfl) (fun q q1 => by omega) (by rw [Nat.sub_self]; show yb_us (L ++ []) Us; rw [List.append_nil]; exact hu)
      rw [Nat.sub_self] at this
      rw [show L ++ vt_us (vt_li fs 0) = L from List.append_nil L] at this
      rw [show n + 1 + yb_s K (rg_c g r) (rg_c g r) = n + (yb_s K (rg_c g r) (rg_c g r) + 1) by omega] at this
      exact this
end
