/-! the reference takes a span apart -/
variable {h_made h_depth h_length h_tokenCount h_wrong h_letterCount h_ruleCount h_makingCount h_usefulRules h_stateCount h_wideCount h_useCount h_result : Int32} {b_ops b_firsts b_seconds b_sizes b_stack b_roots b_text b_ends b_tokenKinds b_tokenSizes b_letters b_begins b_closes b_empties b_nexts b_sets b_leads b_classes b_newClasses b_lefts b_rights b_counts b_making b_firstSets b_followSets b_tasks b_held b_uses b_reach : Nat → Int32} {b_states b_looks b_wides b_work b_met : Nat → Int64}
section
variable {g : rg_T}
theorem mx_ex {A : Nat → Prop} : ∀ q, (∃ m, m ≤ q ∧ A m) → ∃ m, m ≤ q ∧ A m ∧ ∀ p, m < p → p ≤ q → ¬ A p := by
  intro q
  induction q with
  | zero =>
    rintro ⟨m, h1, h2⟩
    exact ⟨m, h1, h2, fun p a b => by omega⟩
  | succ q ih =>
    rintro ⟨m, h1, h2⟩
    by_cases z : A (q + 1)
    · exact ⟨q + 1, Nat.le_refl _, z, fun p a b => by omega⟩
    · have : m ≠ q + 1 := fun e => z (by rw [← e]; exact h2)
      obtain ⟨m', a, b, d⟩ := ih ⟨m, by omega, h2⟩
      refine ⟨m', by omega, b, fun p p1 p2 => ?_⟩
      by_cases e : p = q + 1
      · rw [e]; exact z
      · exact d p p1 (by omega)
theorem mn_ex {A : Nat → Prop} : ∀ n, A n → ∃ m, m ≤ n ∧ A m ∧ ∀ p, p < m → ¬ A p := by
  intro n
  induction n using Nat.strongRecOn with
  | ind n ih =>
    intro h
    by_cases z : ∃ p, p < n ∧ A p
    · obtain ⟨p, p1, p2⟩ := z
      obtain ⟨m, a, b, d⟩ := ih p p1 p2
      exact ⟨m, by omega, b, d⟩
    · exact ⟨n, Nat.le_refl _, h, fun p p1 p2 => z ⟨p, p1, p2⟩⟩
/-- what was met is what there is -/
def ym_M (g : rg_T) (w : Nat → Nat) (c : Nat) (M : Nat → Int64) : Prop := ∀ j i k, j ≤ c → i ≤ j → (bl (M (j * 25 + i)) k = true ↔ er_E (tg_G g) (w, c) i j (k / 5) (k % 5))
theorem ym_dE (hg : rg_ok g) {w : Nat → Nat} {c : Nat} {M : Nat → Int64} (hM : ym_M g w c M) {s p q : Nat} (hp : p ≤ q) (hq : q ≤ c) : ym_d g w M s p q ↔ er_dv (tg_G g) (w, c) s p q := by
  constructor
  · rintro (⟨z1, z2, z3⟩ | ⟨z1, r, z2, z3, z4⟩)
    · exact Or.inl ⟨z1, by show p < c; omega, z3, z2⟩
    · have c4 := (hg.2.1 r z2.1).2.2.1
      have := (hM q p _ hq hp).mp z4
      rw [show (5 * r + rg_c g r) / 5 = r by omega, show (5 * r + rg_c g r) % 5 = rg_c g r by omega] at this
      exact Or.inr ⟨z1, r, z2, z3, this⟩
  · rintro (⟨z1, _, z2, z3⟩ | ⟨z1, r, z2, z3, z4⟩)
    · exact Or.inl ⟨z1, z3, z2⟩
    · have z2 : us_U g r := z2
      have c4 := (hg.2.1 r z2.1).2.2.1
      refine Or.inr ⟨z1, r, z2, z3, (hM q p _ hq hp).mpr ?_⟩
      rw [show (5 * r + rg_c g r) / 5 = r by omega, show (5 * r + rg_c g r) % 5 = rg_c g r by omega]
      exact z4
theorem yb_ch (hg : rg_ok g) {w : Nat → Nat} {c : Nat} (hX : tx_ok (w, c)) {M : Nat → Int64} (hM : ym_M g w c M) {r : Nat} : ∀ p i j, er_E (tg_G g) (w, c) i j r p → dv_prd (rg_h g r) (yb_Q g w M) p i j := by
  intro p
  induction p with
  | zero => intro i j h; exact (er_sound hX (tg_ok hg) h).1
  | succ p ih =>
    intro i j h
    obtain ⟨m, a, _, b⟩ := er_inv hX (tg_ok hg) h p rfl
    have l := dv_D_rng (er_dv_D hX (tg_ok hg) b)
    have hj := (er_sound hX (tg_ok hg) h).2.2.2.2.1
    exact ⟨m, ih i m a, l.1, (ym_dE hg hM l.1 hj).mpr b⟩
theorem yb_rng {w : Nat → Nat} {M : Nat → Int64} {h : Nat → Nat} : ∀ k i j, dv_prd h (yb_Q g w M) k i j → i ≤ j := by
  intro k
  induction k with
  | zero => intro i j z; exact Nat.le_of_eq z
  | succ k ih => intro i j z; obtain ⟨m, a, b⟩ := z; exact Nat.le_trans (ih _ _ a) b.1
/-- the places that are taken between the parts -/
theorem yb_pl {w : Nat → Nat} {M : Nat → Int64} {r i j : Nat} : ∀ n q, dv_prd (rg_h g r) (yb_Q g w M) n i q → q ≤ j → ∃ e : Nat → Nat, e n = q ∧ e 0 = i ∧ ∀ k, k < n → e k ≤ e (k + 1) ∧ e (k + 1) ≤ j ∧ yb_P g w M r i j k (e k) ∧ yb_Q g w M (rg_h g r k) (e k) (e (k + 1)) ∧ ∀ p, e k < p → p ≤ e (k + 1) → ¬ (yb_P g w M r i j k p ∧ yb_Q g w M (rg_h g r k) p (e (k + 1))) := by
  intro n
  induction n with
  | zero => intro q z hq; exact ⟨fun _ => i, z, rfl, fun k hk => absurd hk (Nat.not_lt_zero _)⟩
  | succ n ih =>
    intro q z hq
    obtain ⟨m, a, b⟩ := z
    obtain ⟨m', h1, h2, h3⟩ := mx_ex (A := fun p => yb_P g w M r i j n p ∧ yb_Q g w M (rg_h g r n) p q) q ⟨m, b.1, ⟨Nat.le_trans b.1 hq, a⟩, b⟩
    obtain ⟨e, e1, e2, e3⟩ := ih m' h2.1.2 h2.1.1
    refine ⟨fun k => if k ≤ n then e k else q, if_neg (by omega), ?_, fun k hk => ?_⟩
    · show (if 0 ≤ n then e 0 else q) = i
      rw [if_pos (by omega)]; exact e2
    · show (if k ≤ n then e k else q) ≤ (if k + 1 ≤ n then e (k + 1) else q) ∧ (if k + 1 ≤ n then e (k + 1) else q) ≤ j ∧ yb_P g w M r i j k (if k ≤ n then e k else q) ∧ yb_Q g w M (rg_h g r k) (if k ≤ n then e k else q) (if k + 1 ≤ n then e (k + 1) else q) ∧ ∀ p, (if k ≤ n then e k else q) < p → p ≤ (if k + 1 ≤ n then e (k + 1) else q) → ¬ (yb_P g w M r i j k p ∧ yb_Q g w M (rg_h g r k) p (if k + 1 ≤ n then e (k + 1) else q))
      rw [if_pos (by omega : k ≤ n)]
      by_cases z : k + 1 ≤ n
      · rw [if_pos z]; exact e3 k (by omega)
      · have : k = n := by omega
        subst this
        rw [if_neg z, e1]
        exact ⟨h1, hq, h2.1, h2.2, h3⟩
/-- rule r can stand for the span -/
def yb_A (g : rg_T) (w : Nat → Nat) (M : Nat → Int64) (x i j r : Nat) : Prop := us_U g r ∧ rg_l g r = x ∧ bl (M (j * 25 + i)) (5 * r + rg_c g r) = true ∧ dv_prd (rg_h g r) (yb_Q g w M) (rg_c g r) i j
def yb_E (g : rg_T) (w : Nat → Nat) (M : Nat → Int64) (x i j r : Nat) (e : Nat → Nat) : Prop := yb_A g w M x i j r ∧ (∀ p, p < r → ¬ yb_A g w M x i j p) ∧ e (rg_c g r) = j ∧ e 0 = i ∧ ∀ k, k < rg_c g r → e k ≤ e (k + 1) ∧ e (k + 1) ≤ j ∧ yb_P g w M r i j k (e k) ∧ yb_Q g w M (rg_h g r k) (e k) (e (k + 1)) ∧ ∀ p, e k < p → p ≤ e (k + 1) → ¬ (yb_P g w M r i j k p ∧ yb_Q g w M (rg_h g r k) p (e (k + 1)))
theorem yb_ex (hg : rg_ok g) {w : Nat → Nat} {c : Nat} (hX : tx_ok (w, c)) {M : Nat → Int64} (hM : ym_M g w c M) {x i j : Nat} (hx : 3 ≤ x) (hij : i ≤ j) (hj : j ≤ c) (h : er_dv (tg_G g) (w, c) x i j) : ∃ r e, yb_E g w M x i j r e := by
  rcases h with ⟨z, _⟩ | ⟨_, r, z1, z2, z3⟩
  · omega
  · have z1 : us_U g r := z1
    have c4 := (hg.2.1 r z1.1).2.2.1
    have a : yb_A g w M x i j r := ⟨z1, z2, (hM j i _ hj hij).mpr (by rw [show (5 * r + rg_c g r) / 5 = r by omega, show (5 * r + rg_c g r) % 5 = rg_c g r by omega]; exact z3), yb_ch hg hX hM _ _ _ z3⟩
    obtain ⟨r', _, b1, b2⟩ := mn_ex r a
    obtain ⟨e, e1, e2, e3⟩ := yb_pl (j := j) _ _ b1.2.2.2 (Nat.le_refl _)
    exact ⟨r', e, b1, b2, e1, e2, e3⟩
def yb_c (a x i j : Nat) : Int32 := nI (((a * 16 + x) * 32 + i) * 32 + j)
theorem yb_cd (a x i j : Nat) : ((nI a * 16 + nI x) * 32 + nI i) * 32 + nI j = yb_c a x i j := by
  rw [show nI a * 16 + nI x = nI (a * 16 + x) from ix_m a 16 x, show nI (a * 16 + x) * 32 + nI i = nI ((a * 16 + x) * 32 + i) from ix_m _ 32 i]
  exact ix_m _ 32 j
/-- what expand puts on the stack -/
def yb_T (g : rg_T) (r i j : Nat) (e : Nat → Nat) (t : Nat) (T0 T : Nat → Int32) (k : Nat) : Prop := (∀ y, y < t → T y = T0 y) ∧ T t = yb_c 1 r i j ∧ ∀ q, k ≤ q → q < rg_c g r → T (t + rg_c g r - q) = yb_c 0 (rg_h g r q) (e q) (e (q + 1))
theorem yw_expand (hg : rg_ok g) (hG : xg_G g b_lefts b_rights b_counts) {u : Int32} (hU : yg_U g u) {w : Nat → Nat} {c x i j r t : Nat} {e : Nat → Nat} (hc : c ≤ 24) (hw : ∀ i, i < c → b_tokenKinds i = nI (w i) ∧ w i < 3) (hx : x < 7) (hij : i ≤ j) (hj : j ≤ c) (hE : yb_E g w b_met x i j r e) (ht : t + 5 ≤ 3000) {post : Int32 → SY → Prop}
    (h : ∀ R T, yb_T g r i j e t b_tasks T 0 → post (nI (t + 1 + rg_c g r)) (h_made, h_depth, h_length, h_tokenCount, h_wrong, h_letterCount, h_ruleCount, h_makingCount, u, h_stateCount, h_wideCount, h_useCount, h_result, b_ops, b_firsts, b_seconds, b_sizes, b_stack, b_roots, b_text, b_ends, b_tokenKinds, b_tokenSizes, b_letters, b_begins, b_closes, b_empties, b_nexts, b_sets, b_leads, b_classes, b_newClasses, b_lefts, b_rights, b_counts, b_making, b_firstSets, b_followSets, b_states, b_looks, b_wides, b_work, b_met, T, b_held, b_uses, R)) : wpY_expand post (h_made, h_depth, h_length, h_tokenCount, h_wrong, h_letterCount, h_ruleCount, h_makingCount, u, h_stateCount, h_wideCount, h_useCount, h_result, b_ops, b_firsts, b_seconds, b_sizes, b_stack, b_roots, b_text, b_ends, b_tokenKinds, b_tokenSizes, b_letters, b_begins, b_closes, b_empties, b_nexts, b_sets, b_leads, b_classes, b_newClasses, b_lefts, b_rights, b_counts, b_making, b_firstSets, b_followSets, b_states, b_looks, b_wides, b_work, b_met, b_tasks, b_held, b_uses, b_reach) (nI x) (nI i) (nI j) (nI t) := by
  have h9 := hg.1
  obtain ⟨⟨hr, hl, hb, hp⟩, hno, ec, e0, hE⟩ := hE
  obtain ⟨_, _, c4, h7⟩ := hg.2.1 r hr.1
  have r9 := hr.1
  refine loop_0 (fun f r' R => wY_expand_3 post (nI x) (nI i) (nI j) (nI t) f (nI r') h_made h_depth h_length h_tokenCount h_wrong h_letterCount h_ruleCount h_makingCount u h_stateCount h_wideCount h_useCount h_result b_ops b_firsts b_seconds b_sizes b_stack b_roots b_text b_ends b_tokenKinds b_tokenSizes b_letters b_begins b_closes b_empties b_nexts b_sets b_leads b_classes b_newClasses b_lefts b_rights b_counts b_making b_firstSets b_followSets b_states b_looks b_wides b_work b_met b_tasks b_held b_uses R) (fun _ _ => True) r b_reach trivial ?_ ?_
  · intro f R _
    obtain ⟨g1, g2, g3⟩ := hG r (Or.inl hr.1)
    have ir : vp_in (nI r) 10 := vp_in_nI (by omega) (by decide)
    have cr : (nI r).toNatClampNeg = r := nI_clamp (by omega)
    refine br_t ((b_test u (by omega)).mpr ((hU r).mpr hr)) (br_f (by decide) ⟨ir, ?_⟩)
    rw [cr, g1, hl]
    refine br_t rfl ⟨pk_in (j * 25 + i) 625 (by omega) (ix_25 j i), ir, ?_⟩
    rw [pk_cl (j * 25 + i) (ix_25 j i), g2, show (5 : Int32) * nI r + nI (rg_c g r) = nI (5 * r + rg_c g r) by rw [ix_l5, Nat.mul_comm]]
    refine br_f (fun z => ?_) ?_
    · rw [(bl_test0 _ (by omega))] at z
      have hb : bl (b_met (j * 25 + i)) (5 * r + rg_c g r) = true := hb
      rw [z] at hb; cases hb
    · refine yw_parts (b_reach := R) hg hG hU hc hw hr hij hj (fun P hP _ => br_f (by decide) ?_) (fun P z => absurd hp z)
      have e1 : (((1 : Int32) * 16 + nI r) * 32 + nI i) * 32 + nI j = yb_c 1 r i j := yb_cd 1 r i j
      refine ⟨vp_in_nI (by omega) (by decide), nm_r (e' := upd b_tasks t (yb_c 1 r i j)) (by rw [nI_clamp (by omega), e1]) (nm_r (nI_1 t) ⟨ir, nm_r (e' := nI (rg_c g r) + (-1)) (by rw [g2, Int32.sub_eq_add_neg]) ?_⟩)⟩
      have lo : ∀ k T, k ≤ rg_c g r → yb_T g r i j e t b_tasks T k → wY_expand_108 post (nI r) h_made h_depth h_length h_tokenCount h_wrong h_letterCount h_ruleCount h_makingCount u h_stateCount h_wideCount h_useCount h_result (k + 1) (nI (t + 1 + (rg_c g r - k))) (nI (e k)) (nI k + (-1)) b_ops b_firsts b_seconds b_sizes b_stack b_roots b_text b_ends b_tokenKinds b_tokenSizes b_letters b_begins b_closes b_empties b_nexts b_sets b_leads b_classes b_newClasses b_lefts b_rights b_counts b_making b_firstSets b_followSets b_states b_looks b_wides b_work b_met T b_held b_uses P := by
        intro k
        induction k with
        | zero =>
          intro T _ hT
          exact br_t (by decide) (h P T hT)
        | succ k ih =>
          intro T hk hT
          rw [pk_m1]
          refine br_f (nI_nlt (a := k) (b := 0) (Nat.zero_le _) (by omega)) ?_
          obtain ⟨d1, d2, d3, d4, d5⟩ := hE k (by omega)
          have hk7 := h7 k (by omega)
          have ik : vp_in (nI k) 5 := vp_in_nI (by omega) (by decide)
          have ck : (nI k).toNatClampNeg = k := nI_clamp (by omega)
          have i4 : vp_in (4 * nI r + nI k) 40 := pk_in (r * 4 + k) 40 (by omega) (ix_l4 r k)
          have c4' : (4 * nI r + nI k).toNatClampNeg = r * 4 + k := pk_cl (r * 4 + k) (ix_l4 r k)
          have dn : ∀ n, e k + n ≤ e (k + 1) → wY_expand_117 post (wY_expand_108 post (nI r) h_made h_depth h_length h_tokenCount h_wrong h_letterCount h_ruleCount h_makingCount u h_stateCount h_wideCount h_useCount h_result (k + 1)) (nI r) (nI (t + 1 + (rg_c g r - (k + 1)))) (nI (e (k + 1))) (nI k) h_made h_depth h_length h_tokenCount h_wrong h_letterCount h_ruleCount h_makingCount u h_stateCount h_wideCount h_useCount h_result b_ops b_firsts b_seconds b_sizes b_stack b_roots b_text b_ends b_tokenKinds b_tokenSizes b_letters b_begins b_closes b_empties b_nexts b_sets b_leads b_classes b_newClasses b_lefts b_rights b_counts b_making b_firstSets b_followSets b_states b_looks b_wides b_work b_met T b_held b_uses P (n + 1) (nI (e k + n)) := by
            intro n
            induction n with
            | zero =>
              intro _
              refine ⟨ik, ?_⟩
              rw [ck, Nat.add_zero]
              have tb := (hP k (by omega) (e k) (by omega)).mpr d3
              refine br_f (fun z => ?_) ⟨i4, ?_⟩
              · rw [b_test0 _ (by omega)] at z
                have tb : bt (P k) (e k) = true := tb
                rw [z] at tb; cases tb
              · rw [c4', g3 k (by omega)]
                refine yw_derives (b_reach := P) hg hG hU hc hw hk7 d1 (by omega) (fun _ => br_f (by decide) ⟨i4, ?_⟩) (fun y => absurd d4.2 y)
                have e1 : (((0 : Int32) * 16 + nI (rg_h g r k)) * 32 + nI (e k)) * 32 + nI (e (k + 1)) = yb_c 0 (rg_h g r k) (e k) (e (k + 1)) := yb_cd 0 _ _ _
                refine ⟨vp_in_nI (by omega) (by decide), nm_r (e' := upd T (t + rg_c g r - k) (yb_c 0 (rg_h g r k) (e k) (e (k + 1)))) ?_ (nm_r (e' := nI (t + 1 + (rg_c g r - k))) ?_ (nm_e (ih _ (by omega) ⟨fun y hy => ?_, ?_, fun q q1 q2 => ?_⟩)))⟩
                · rw [nI_clamp (by omega), e1, show t + 1 + (rg_c g r - (k + 1)) = t + rg_c g r - k by omega]
                · rw [nI_1]; exact congrArg nI (by omega)
                · rw [pk_un (by omega)]; exact hT.1 y hy
                · rw [pk_un (by omega)]; exact hT.2.1
                · by_cases z : q = k
                  · subst z; exact pk_us
                  · rw [pk_un (by omega)]; exact hT.2.2 q (by omega) q2
            | succ n ihn =>
              intro hn
              have nx := ihn (by omega)
              have em : nI (e k + (n + 1)) + (-1) = nI (e k + n) := pk_m1 (e k + n)
              refine ⟨ik, ?_⟩
              rw [ck]
              refine br_c (fun z => nm_r em nx) (fun z => ⟨i4, ?_⟩)
              rw [c4', g3 k (by omega)]
              refine yw_derives (b_reach := P) hg hG hU hc hw hk7 hn (by omega) (fun y => ?_) (fun y => br_t rfl (nm_r em nx))
              refine absurd ⟨(hP k (by omega) (e k + (n + 1)) (by omega)).mp ?_, hn, y⟩ (d5 (e k + (n + 1)) (by omega) hn)
              rw [b_test0 _ (by omega)] at z
              revert z
              cases bt (P k) (e k + (n + 1)) <;> intro z
              · exact absurd rfl z
              · rfl
          refine ⟨e (k + 1) - e k + 1, ?_⟩
          have := dn (e (k + 1) - e k) (by omega)
          rw [show e k + (e (k + 1) - e k) = e (k + 1) by omega] at this
          exact this
      have := lo (rg_c g r) (upd b_tasks t (yb_c 1 r i j)) (Nat.le_refl _) ⟨fun y hy => pk_un (by omega), pk_us, fun q q1 q2 => by omega⟩
      rw [ec, Nat.sub_self, Nat.add_zero] at this
      exact ⟨_, this⟩
  · intro f r' R hr' _ hk
    have na := hno r' hr'
    have go := hk
    refine br_c (fun q => br_f (by decide) ?_) (fun q => br_t rfl (nm_r (nI_1 r') (hk R trivial)))
    have q := (hU r').mp ((b_test u (n := r') (by omega)).mp q)
    obtain ⟨g1, g2, g3⟩ := hG r' (Or.inl q.1)
    have l := hg.2.1 r' q.1
    have ir : vp_in (nI r') 10 := vp_in_nI (by omega) (by decide)
    have cr : (nI r').toNatClampNeg = r' := nI_clamp (by omega)
    refine ⟨ir, ?_⟩
    rw [cr, g1]
    refine pk_eq (rg_l g r') x (fun z => ⟨pk_in (j * 25 + i) 625 (by omega) (ix_25 j i), ir, ?_⟩) (fun z => nm_r (nI_1 r') (hk R trivial))
    rw [pk_cl (j * 25 + i) (ix_25 j i), g2, show (5 : Int32) * nI r' + nI (rg_c g r') = nI (5 * r' + rg_c g r') by rw [ix_l5, Nat.mul_comm]]
    refine br_c (fun y => nm_r (nI_1 r') (hk R trivial)) (fun y => ?_)
    refine yw_parts (b_reach := R) hg hG hU hc hw q hij hj (fun P _ d => ?_) (fun P _ => br_t rfl (nm_r (nI_1 r') (hk P trivial)))
    refine absurd ⟨q, z, ?_, d⟩ na
    rw [bl_test0 _ (by omega)] at y
    show bl (b_met (j * 25 + i)) (5 * r' + rg_c g r') = true
    revert y
    cases bl (b_met (j * 25 + i)) (5 * r' + rg_c g r') <;> intro y
    · exact absurd rfl y
    · rfl
end
