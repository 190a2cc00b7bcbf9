/-! the reader by states: items with looks lk q r p t, steps nx q x -/
abbrev lr_K : Type := Nat → Nat → Nat → Nat → Prop
abbrev lr_N : Type := Nat → Nat → Option Nat
abbrev lr_C (V : Type) : Type := List (Nat × V) × Nat
def lr_A (G : gr_T) (F : Nat → Nat → Prop) (lk : lr_K) (nx : lr_N) : Prop :=
  lk 0 9 0 3 ∧
  (∀ q r p t r' t', lk q r p t → p < gr_c G r → gr_U G r' → gr_l G r' = gr_h G r p → fs_t F (gr_h G r) (gr_c G r - (p + 1)) (p + 1) t t' → lk q r' 0 t') ∧
  (∀ q r p t, lk q r p t → p < gr_c G r → ∃ q', nx q (gr_h G r p) = some q' ∧ lk q' r (p + 1) t) ∧
  (∀ q r r' t, lk q r (gr_c G r) t → lk q r' (gr_c G r') t → r = r') ∧
  (∀ q r t r' p' t', lk q r (gr_c G r) t → t < 3 → lk q r' p' t' → p' < gr_c G r' → gr_h G r' p' ≠ t)
def lr_st {V : Type} (G : gr_T) (X : tx_T) (A : al_T V) (lk : lr_K) (nx : lr_N) (c c' : lr_C V) : Prop :=
  (∃ q v rest q', c.1 = (q, v) :: rest ∧ (∀ r, ¬ lk q r (gr_c G r) (tx_k X c.2)) ∧ c.2 < X.2 ∧ nx q (X.1 c.2) = some q' ∧ c' = ((q', A.1 c.2) :: c.1, c.2 + 1)) ∨
  (∃ q v rest r pop q0 v0 base q', c.1 = (q, v) :: rest ∧ lk q r (gr_c G r) (tx_k X c.2) ∧ r ≠ 9 ∧ c.1 = pop ++ (q0, v0) :: base ∧ pop.length = gr_c G r ∧ nx q0 (gr_l G r) = some q' ∧ c' = ((q', A.2 r (pop.map Prod.snd)) :: (q0, v0) :: base, c.2))
def lr_run {V : Type} (G : gr_T) (X : tx_T) (A : al_T V) (lk : lr_K) (nx : lr_N) (H : Nat) : Nat → lr_C V → lr_C V → Prop
  | 0 => fun c c' => c = c'
  | k + 1 => fun c c' => ∃ d, lr_st G X A lk nx c d ∧ d.1.length ≤ H ∧ lr_run G X A lk nx H k d c'
theorem lr_run_tr {V : Type} {G : gr_T} {X : tx_T} {A : al_T V} {lk : lr_K} {nx : lr_N} {H : Nat} {l : Nat} {d e : lr_C V} : ∀ k c, lr_run G X A lk nx H k c d → lr_run G X A lk nx H l d e → lr_run G X A lk nx H (k + l) c e := by
  intro k
  induction k with
  | zero => intro c h1 h2; cases h1; rw [Nat.zero_add]; exact h2
  | succ k ih =>
    intro c h1 h2
    obtain ⟨f, a, b, g⟩ := h1
    rw [show k + 1 + l = (k + l) + 1 by omega]
    exact ⟨f, a, b, ih f g h2⟩
theorem lr_run_1 {V : Type} {G : gr_T} {X : tx_T} {A : al_T V} {lk : lr_K} {nx : lr_N} {H : Nat} {c d : lr_C V} (h : lr_st G X A lk nx c d) (hl : d.1.length ≤ H) : lr_run G X A lk nx H 1 c d := ⟨d, h, hl, rfl⟩
def lr_sum {V : Type} (f : V → Nat) : List V → Nat
  | [] => 0
  | v :: vs => lr_sum f vs + f v
def lr_sz {V : Type} (A : al_T V) (sz : V → Nat) : Prop := (∀ i, sz (A.1 i) = 1) ∧ ∀ r vs, sz (A.2 r vs) = lr_sum sz vs + 1
def lr_Tr {V : Type} (G : gr_T) (X : tx_T) (A : al_T V) (F : Nat → Nat → Prop) (lk : lr_K) (nx : lr_N) (sz : V → Nat) (d : Nat) : Prop :=
  ∀ s i j v, dv_tr G X A d s i j v → i ≤ X.2 → ∀ q v0 rest r p t, lk q r p t → p < gr_c G r → gr_h G r p = s → fs_t F (gr_h G r) (gr_c G r - (p + 1)) (p + 1) t (tx_k X j) → ∀ H, rest.length + 1 + 3 * d + 1 ≤ H →
    ∃ q', nx q s = some q' ∧ lk q' r (p + 1) t ∧ lr_run G X A lk nx H (sz v) ((q, v0) :: rest, i) ((q', v) :: (q, v0) :: rest, j)
theorem lr_fsk {G : gr_T} {X : tx_T} {F : Nat → Nat → Prop} {V : Type} {A : al_T V} (hX : tx_ok X) (hF : fs_ok G F) {d s m j : Nat} {v : V} (z : dv_tr G X A d s m j v) (hm : m ≤ X.2) : (tx_k X m < 3 ∧ F s (tx_k X m)) ∨ (F s 3 ∧ tx_k X m = tx_k X j) := by
  have a := fs_tr hX hF d s m j v z hm
  have b := dv_tr_rng d s m j v z
  rcases Nat.lt_or_ge m j with h | h
  · have hn : m < X.2 := by have := b.2 hm; omega
    unfold tx_k
    rw [if_pos hn]
    exact Or.inl ⟨hX m hn, a.1 h⟩
  · have e : m = j := by omega
    subst e
    exact Or.inr ⟨a.2 rfl, rfl⟩
theorem lr_chain {V : Type} {G : gr_T} {X : tx_T} {A : al_T V} {F : Nat → Nat → Prop} {lk : lr_K} {nx : lr_N} {sz : V → Nat} (hX : tx_ok X) (hF : fs_ok G F) {d : Nat} (hT : lr_Tr G X A F lk nx sz d)
    {q : Nat} {v0 : V} {rest : List (Nat × V)} {r t i : Nat} (h0 : lk q r 0 t) (hc4 : gr_c G r ≤ 4) (hi : i ≤ X.2) {H : Nat} (hH : rest.length + 1 + 3 * d + 4 ≤ H) :
    ∀ k j ws, k ≤ gr_c G r → dv_pre (gr_h G r) (dv_tr G X A d) k i j ws → fs_t F (gr_h G r) (gr_c G r - k) k t (tx_k X j) →
      ∃ pop : List (Nat × V), pop.map Prod.snd = ws ∧ pop.length = k ∧ (∃ q1 v1 rest1, pop ++ (q, v0) :: rest = (q1, v1) :: rest1 ∧ lk q1 r k t) ∧ lr_run G X A lk nx H (lr_sum sz ws) ((q, v0) :: rest, i) (pop ++ (q, v0) :: rest, j) := by
  intro k
  induction k with
  | zero =>
    intro j ws _ z _
    obtain ⟨rfl, rfl⟩ := z
    exact ⟨[], rfl, rfl, ⟨q, v0, rest, rfl, h0⟩, rfl⟩
  | succ k ih =>
    intro j ws hk z hfs
    obtain ⟨m, v, ws', z1, z2, rfl⟩ := z
    have hm : m ≤ X.2 := (dv_pre_rng (fun s i j v z => dv_tr_rng d s i j v z) _ _ _ _ z1).2 hi
    have hfm : fs_t F (gr_h G r) (gr_c G r - k) k t (tx_k X m) := by
      rw [show gr_c G r - k = (gr_c G r - (k + 1)) + 1 by omega]
      exact fs_back (lr_fsk hX hF z2 hm) hfs
    obtain ⟨pop, e1, e2, ⟨q1, v1, rest1, e3, hl⟩, hr⟩ := ih m ws' (by omega) z1 hfm
    have hlen : rest1.length + 1 = k + (rest.length + 1) := by
      have := congrArg List.length e3
      rw [List.length_append, List.length_cons, List.length_cons, e2] at this
      omega
    obtain ⟨q', n1, n2, n3⟩ := hT _ m j v z2 hm q1 v1 rest1 r k t hl (by omega) rfl hfs H (by omega)
    refine ⟨(q', v) :: pop, by rw [List.map_cons, e1], by rw [List.length_cons, e2], ⟨q', v, pop ++ (q, v0) :: rest, rfl, n2⟩, ?_⟩
    rw [← e3] at n3
    exact lr_run_tr _ _ hr n3
theorem lr_tree {V : Type} {G : gr_T} {X : tx_T} {A : al_T V} {F : Nat → Nat → Prop} {lk : lr_K} {nx : lr_N} {sz : V → Nat} (hG : gr_ok G) (hX : tx_ok X) (hF : fs_ok G F) (hA : lr_A G F lk nx) (hz : lr_sz A sz) : ∀ d, lr_Tr G X A F lk nx sz d := by
  obtain ⟨-, A2, A3, A4, A5⟩ := hA
  intro d
  induction d with
  | zero =>
    intro s i j v z hi q v0 rest r p t hl hp hs hfs H hH
    obtain ⟨h1, h2, h3, rfl, rfl⟩ := z
    subst hs
    obtain ⟨q', n1, n2⟩ := A3 q r p t hl hp
    refine ⟨q', n1, n2, ?_⟩
    rw [hz.1 i]
    have hk : tx_k X i = gr_h G r p := by unfold tx_k; rw [if_pos h2, h3]
    refine lr_run_1 (Or.inl ⟨q, v0, rest, q', rfl, fun r' z => ?_, h2, ?_, rfl⟩) (by simp only [List.length_cons]; omega)
    · have z : lk q r' (gr_c G r') (tx_k X i) := z
      rw [hk] at z
      exact A5 q r' _ r p t z h1 hl hp rfl
    · show nx q (X.1 i) = some q'
      rw [h3]; exact n1
  | succ d ih =>
    intro s i j v z hi q v0 rest r p t hl hp hs hfs H hH
    rcases z with z | ⟨r', vs, hU, hle, z, rfl⟩
    · exact ih s i j v z hi q v0 rest r p t hl hp hs hfs H (by omega)
    · have hj := dv_pre_rng (fun s i j v z => dv_tr_rng d s i j v z) _ _ _ _ z
      have h0 : lk q r' 0 (tx_k X j) := A2 q r p t r' (tx_k X j) hl hp hU (hle.trans hs.symm) hfs
      obtain ⟨pop, e1, e2, ⟨q1, v1, rest1, e3, hl1⟩, hr⟩ := lr_chain hX hF ih (v0 := v0) (rest := rest) h0 (hG.2.1 r' (Or.inl hU)).1 hi (H := H) (by omega) (gr_c G r') j vs (Nat.le_refl _) z (by rw [Nat.sub_self]; exact Or.inr ⟨rfl, rfl⟩)
      obtain ⟨q', n1, n2⟩ := A3 q r p t hl hp
      rw [hs] at n1
      refine ⟨q', n1, n2, ?_⟩
      rw [hz.2]
      refine lr_run_tr _ _ hr (lr_run_1 (Or.inr ⟨q1, v1, rest1, r', pop, q, v0, rest, q', e3, hl1, ?_, rfl, e2, ?_, ?_⟩) (by simp only [List.length_cons]; omega))
      · have := (hG.1 r' hU).1; omega
      · rw [hle]; exact n1
      · rw [e1]
/-! the reader is determined -/
theorem lr_det {V : Type} {G : gr_T} {X : tx_T} {A : al_T V} {F : Nat → Nat → Prop} {lk : lr_K} {nx : lr_N} (hA : lr_A G F lk nx) {c c1 c2 : lr_C V} (h1 : lr_st G X A lk nx c c1) (h2 : lr_st G X A lk nx c c2) : c1 = c2 := by
  obtain ⟨-, -, -, A4, -⟩ := hA
  rcases h1 with ⟨q, v, rest, q', e, hn, hp, hx, rfl⟩ | ⟨q, v, rest, r, pop, q0, v0, base, q', e, hl, h9, e2, e3, hx, rfl⟩
  · rcases h2 with ⟨p, u, rs, p', f, hn', hp', hx', rfl⟩ | ⟨p, u, rs, r', po, p0, u0, ba, p', f, hl', h9', f2, f3, hx', rfl⟩
    · rw [e] at f
      obtain ⟨f1, f2⟩ := List.cons.inj f
      have f3 := congrArg Prod.fst f1
      have f3 : q = p := f3
      subst f3
      rw [hx] at hx'
      cases hx'
      rfl
    · rw [e] at f
      obtain ⟨f1, f2⟩ := List.cons.inj f
      have f3 : q = p := congrArg Prod.fst f1
      subst f3
      exact absurd hl' (hn r')
  · rcases h2 with ⟨p, u, rs, p', f, hn', hp', hx', rfl⟩ | ⟨p, u, rs, r', po, p0, u0, ba, p', f, hl', h9', f2, f3, hx', rfl⟩
    · rw [e] at f
      obtain ⟨f1, f2⟩ := List.cons.inj f
      have f3 : q = p := congrArg Prod.fst f1
      subst f3
      exact absurd hl (hn' r)
    · rw [e] at f
      obtain ⟨f1, f4⟩ := List.cons.inj f
      have f5 : q = p := congrArg Prod.fst f1
      subst f5
      have er : r = r' := A4 _ _ _ _ hl hl'
      subst er
      rw [e2] at f2
      obtain ⟨g1, g2⟩ := List.append_inj f2 (by rw [e3, f3])
      subst g1
      obtain ⟨g3, rfl⟩ := List.cons.inj g2
      cases g3
      rw [hx] at hx'
      cases hx'
      rfl
def lr_acc {V : Type} (G : gr_T) (X : tx_T) (lk : lr_K) (c : lr_C V) : Prop := ∃ q v rest, c.1 = (q, v) :: rest ∧ lk q 9 (gr_c G 9) (tx_k X c.2)
theorem lr_acc_no {V : Type} {G : gr_T} {X : tx_T} {A : al_T V} {F : Nat → Nat → Prop} {lk : lr_K} {nx : lr_N} (hA : lr_A G F lk nx) {c d : lr_C V} (h : lr_acc G X lk c) : ¬ lr_st G X A lk nx c d := by
  obtain ⟨-, -, -, A4, -⟩ := hA
  obtain ⟨q, v, rest, e, hl⟩ := h
  intro h2
  rcases h2 with ⟨p, u, rs, p', f, hn', hp', hx', rfl⟩ | ⟨p, u, rs, r', po, p0, u0, ba, p', f, hl', h9', f2, f3, hx', rfl⟩
  · rw [e] at f
    obtain ⟨f1, f2⟩ := List.cons.inj f
    have f3 : q = p := congrArg Prod.fst f1
    subst f3
    exact hn' 9 hl
  · rw [e] at f
    obtain ⟨f1, f4⟩ := List.cons.inj f
    have f5 : q = p := congrArg Prod.fst f1
    subst f5
    exact h9' (A4 _ _ _ _ hl' hl)
theorem lr_uniq {V : Type} {G : gr_T} {X : tx_T} {A : al_T V} {F : Nat → Nat → Prop} {lk : lr_K} {nx : lr_N} (hA : lr_A G F lk nx) {H H' : Nat} {a b : lr_C V} (ha : lr_acc G X lk a) (hb : lr_acc G X lk b) : ∀ k l c, lr_run G X A lk nx H k c a → lr_run G X A lk nx H' l c b → a = b := by
  intro k
  induction k with
  | zero =>
    intro l c h1 h2
    cases h1
    cases l with
    | zero => exact h2
    | succ l => obtain ⟨d, hd, _⟩ := h2; exact absurd hd (lr_acc_no hA ha)
  | succ k ih =>
    intro l c h1 h2
    obtain ⟨d, hd, _, h3⟩ := h1
    cases l with
    | zero => cases h2; exact absurd hd (lr_acc_no hA hb)
    | succ l =>
      obtain ⟨e, he, _, h4⟩ := h2
      have := lr_det hA hd he
      subst this
      exact ih l d h3 h4
/-- a sentence's tree is read -/
theorem lr_sent {V : Type} {G : gr_T} {X : tx_T} {A : al_T V} {F : Nat → Nat → Prop} {lk : lr_K} {nx : lr_N} {sz : V → Nat} (hG : gr_ok G) (hX : tx_ok X) (hF : fs_ok G F) (hA : lr_A G F lk nx) (hz : lr_sz A sz) {d : Nat} {v v0 : V} (z : dv_tr G X A d 3 0 X.2 v) {H : Nat} (hH : 3 * d + 2 ≤ H) :
    ∃ q', lr_run G X A lk nx H (sz v) ([(0, v0)], 0) ([(q', v), (0, v0)], X.2) ∧ lr_acc G X lk ([(q', v), (0, v0)], X.2) := by
  have hk : tx_k X X.2 = 3 := if_neg (by omega)
  obtain ⟨q', n1, n2, n3⟩ := lr_tree hG hX hF hA hz d 3 0 X.2 v z (by omega) 0 v0 [] 9 0 3 hA.1 (by rw [hG.2.2.2.1]; omega) hG.2.2.2.2 (by rw [hk, hG.2.2.2.1]; exact Or.inr ⟨rfl, rfl⟩) H (by simp only [List.length_nil]; omega)
  refine ⟨q', n3, q', v, [(0, v0)], rfl, ?_⟩
  show lk q' 9 (gr_c G 9) (tx_k X X.2)
  rw [hk, hG.2.2.2.1]
  exact n2
theorem lr_one {V : Type} {G : gr_T} {X : tx_T} {A : al_T V} {F : Nat → Nat → Prop} {lk : lr_K} {nx : lr_N} {sz : V → Nat} (hG : gr_ok G) (hX : tx_ok X) (hF : fs_ok G F) (hA : lr_A G F lk nx) (hz : lr_sz A sz) {d e : Nat} {v w : V} (z : dv_tr G X A d 3 0 X.2 v) (y : dv_tr G X A e 3 0 X.2 w) : v = w := by
  obtain ⟨q1, a1, a2⟩ := lr_sent hG hX hF hA hz (v0 := v) z (Nat.le_refl _)
  obtain ⟨q2, b1, b2⟩ := lr_sent hG hX hF hA hz (v0 := v) y (Nat.le_refl _)
  have h := lr_uniq hA a2 b2 _ _ _ a1 b1
  have h1 := congrArg Prod.fst h
  have h2 := (List.cons.inj h1).1
  exact congrArg Prod.snd h2
