/-! what the reader has read is derived -/
def lr_B (G : gr_T) (lk : lr_K) (nx : lr_N) : Prop :=
  (∀ R : Nat → Nat → Prop, R 9 0 → (∀ r p r', R r p → p < gr_c G r → gr_U G r' → gr_l G r' = gr_h G r p → R r' 0) → ∀ r p t, lk 0 r p t → R r p) ∧
  (∀ q x q', nx q x = some q' → ∀ R : Nat → Nat → Prop, (∀ r p t, lk q r p t → p < gr_c G r → gr_h G r p = x → R r (p + 1)) → (∀ r p r', R r p → p < gr_c G r → gr_U G r' → gr_l G r' = gr_h G r p → R r' 0) → ∀ r p t, lk q' r p t → R r p) ∧
  (∀ q p t, lk q 9 p t → t = 3) ∧
  (∀ q x q', nx q x = some q' → ∃ r p t, lk q r p t ∧ p < gr_c G r ∧ gr_h G r p = x)
def lr_ok {V : Type} (G : gr_T) (X : tx_T) (A : al_T V) (nx : lr_N) : List (Nat × V) → Nat → Prop
  | [] => fun _ => False
  | [a] => fun pos => a.1 = 0 ∧ pos = 0
  | a :: b :: rest => fun pos => ∃ x i, nx b.1 x = some a.1 ∧ (∃ d, dv_tr G X A d x i pos a.2) ∧ lr_ok G X A nx (b :: rest) i
def lr_it {V : Type} (G : gr_T) (X : tx_T) (A : al_T V) (lk : lr_K) (nx : lr_N) (st : List (Nat × V)) (pos r p : Nat) : Prop :=
  (gr_U G r ∨ r = 9) ∧ p ≤ gr_c G r ∧ ∃ pop q0 v0 base i, st = pop ++ (q0, v0) :: base ∧ pop.length = p ∧ lr_ok G X A nx ((q0, v0) :: base) i ∧ dv_pre (gr_h G r) (fun s i j v => ∃ d, dv_tr G X A d s i j v) p i pos (pop.map Prod.snd) ∧ (p ≠ 0 → ∃ t, lk q0 r 0 t) ∧ er_E G X i pos r p
theorem lr_items {V : Type} {G : gr_T} {X : tx_T} {A : al_T V} {lk : lr_K} {nx : lr_N} (hB : lr_B G lk nx) : ∀ st pos, lr_ok G X A nx st pos → ∀ q v rest, st = (q, v) :: rest → ∀ r p t, lk q r p t → lr_it G X A lk nx st pos r p := by
  obtain ⟨B0, B1, -, -⟩ := hB
  have S := er_self G X
  intro st
  induction st with
  | nil => intro pos h; exact h.elim
  | cons a st ih =>
    intro pos h q v rest e r p t hl
    obtain ⟨ea, es⟩ := List.cons.inj e
    subst ea
    cases st with
    | nil =>
      obtain ⟨h1, h2⟩ := h
      have h1 : q = 0 := h1
      subst h1 h2
      have key := B0 (fun r p => p = 0 ∧ (gr_U G r ∨ r = 9) ∧ er_E G X 0 0 r 0) ⟨rfl, Or.inr rfl, S.1⟩ (fun r p r' z hp hU hlr => by
        obtain ⟨rfl, _, z⟩ := z
        exact ⟨rfl, Or.inl hU, S.2.1 0 0 r 0 r' z hp hU hlr⟩) r p t hl
      obtain ⟨rfl, z1, z2⟩ := key
      exact ⟨z1, Nat.zero_le _, [], 0, v, [], 0, rfl, rfl, ⟨rfl, rfl⟩, ⟨rfl, rfl⟩, fun z => absurd rfl z, z2⟩
    | cons b st =>
      have hok := h
      obtain ⟨x, i, hnx, ⟨d, htr⟩, h3⟩ := h
      have ihb := ih i h3 b.1 b.2 st rfl
      have key := B1 b.1 x q hnx (fun r p => (gr_U G r ∨ r = 9) ∧ (p = 0 → er_E G X pos pos r 0) ∧ (p ≠ 0 → lr_it G X A lk nx ((q, v) :: b :: st) pos r p)) (fun r p t hl hp hx => by
        obtain ⟨g1, g2, pop, q0, v0, base, i0, g3, g4, g5, g6, g7, g8⟩ := ihb r p t hl
        refine ⟨g1, fun z => by omega, fun _ => ⟨g1, hp, (q, v) :: pop, q0, v0, base, i0, ?_, ?_, g5, ?_, fun _ => ?_, ?_⟩⟩
        · rw [List.cons_append, ← g3]
        · rw [List.length_cons, g4]
        · exact ⟨i, v, pop.map Prod.snd, g6, ⟨d, by rw [hx]; exact htr⟩, rfl⟩
        · rcases Nat.eq_zero_or_pos p with z | z
          · subst z
            have g4 : pop = [] := List.eq_nil_of_length_eq_zero g4
            subst g4
            have g3 : b :: st = (q0, v0) :: base := g3
            have g9 := (List.cons.inj g3).1
            subst g9
            exact ⟨t, hl⟩
          · exact g7 (by omega)
        · exact er_step d x i pos v htr i0 r p g8 hp hx) (fun r p r' z hp hU hlr => by
        refine ⟨Or.inl hU, fun _ => ?_, fun z => absurd rfl z⟩
        rcases Nat.eq_zero_or_pos p with y | y
        · subst y
          exact S.2.1 pos pos r 0 r' (z.2.1 rfl) hp hU hlr
        · obtain ⟨_, _, _, _, _, _, i0, _, _, _, _, _, g8⟩ := z.2.2 (by omega)
          exact S.2.1 i0 pos r p r' g8 hp hU hlr) r p t hl
      rcases Nat.eq_zero_or_pos p with y | y
      · subst y
        exact ⟨key.1, Nat.zero_le _, [], q, v, b :: st, pos, rfl, rfl, hok, ⟨rfl, rfl⟩, fun z => absurd rfl z, key.2.1 rfl⟩
      · exact key.2.2 (by omega)
theorem lr_ok_pos {V : Type} {G : gr_T} {X : tx_T} {A : al_T V} {nx : lr_N} : ∀ st pos, lr_ok G X A nx st pos → pos ≤ X.2 := by
  intro st
  induction st with
  | nil => intro pos h; exact h.elim
  | cons a st ih =>
    intro pos h
    cases st with
    | nil => obtain ⟨_, rfl⟩ := h; omega
    | cons b st =>
      obtain ⟨x, i, _, ⟨d, htr⟩, h3⟩ := h
      exact (dv_tr_rng d x i pos a.2 htr).2 (ih i h3)
/-- what a step keeps: the stack is derived, every place before the one reached can go on -/
def lr_inv {V : Type} (G : gr_T) (X : tx_T) (A : al_T V) (nx : lr_N) (c : lr_C V) : Prop := lr_ok G X A nx c.1 c.2 ∧ ∀ j, j < c.2 → er_S G X j
theorem lr_keep {V : Type} {G : gr_T} {X : tx_T} {A : al_T V} {lk : lr_K} {nx : lr_N} (hX : tx_ok X) (hB : lr_B G lk nx) {c c' : lr_C V} (h : lr_inv G X A nx c) (hs : lr_st G X A lk nx c c') : lr_inv G X A nx c' := by
  obtain ⟨st, pos⟩ := c
  obtain ⟨h1, h2⟩ := h
  rcases hs with ⟨q, v, rest, q', e, hn, hp, hx, rfl⟩ | ⟨q, v, rest, r, pop, q0, v0, base, q', e, hl, h9, e2, e3, hx, rfl⟩
  · have e : st = (q, v) :: rest := e
    subst e
    refine ⟨⟨X.1 pos, pos, hx, ⟨0, hX pos hp, hp, rfl, rfl, rfl⟩, h1⟩, ?_⟩
    intro j hj
    have hj : j < pos + 1 := hj
    rcases Nat.lt_or_ge j pos with z | z
    · exact h2 j z
    · have z : j = pos := by omega
      subst z
      obtain ⟨r, p, t, b1, b2, b3⟩ := hB.2.2.2 q (X.1 j) q' hx
      obtain ⟨_, _, _, _, _, _, i0, _, _, _, _, _, g8⟩ := lr_items hB _ _ h1 q v rest rfl r p t b1
      exact ⟨hp, i0, r, p, g8, b2, b3⟩
  · have e : st = (q, v) :: rest := e
    have e2 : st = pop ++ (q0, v0) :: base := e2
    obtain ⟨g1, g2, po, p0, u0, ba, i0, g3, g4, g5, g6, g7, g8⟩ := lr_items hB _ _ h1 q v rest e r (gr_c G r) _ hl
    have g3 : st = po ++ (p0, u0) :: ba := g3
    rw [e2] at g3
    obtain ⟨f1, f2⟩ := List.append_inj g3 (by rw [e3, g4])
    subst f1
    obtain ⟨f3, f4⟩ := List.cons.inj f2
    cases f3
    subst f4
    obtain ⟨d, g6⟩ := dv_unif _ _ _ _ g6
    have hU : gr_U G r := by
      rcases g1 with z | z
      · exact z
      · exact absurd z h9
    exact ⟨⟨gr_l G r, i0, hx, ⟨d + 1, Or.inr ⟨r, _, hU, rfl, g6, rfl⟩⟩, g5⟩, h2⟩
theorem lr_inv0 {V : Type} {G : gr_T} {X : tx_T} {A : al_T V} {nx : lr_N} (v0 : V) : lr_inv G X A nx ([(0, v0)], 0) := ⟨⟨rfl, rfl⟩, fun j h => absurd h (Nat.not_lt_zero j)⟩
/-- where the first rule is complete, the text is a sentence -/
theorem lr_end {V : Type} {G : gr_T} {X : tx_T} {A : al_T V} {lk : lr_K} {nx : lr_N} (hG : gr_ok G) (hX : tx_ok X) (hB : lr_B G lk nx) {c : lr_C V} (h : lr_inv G X A nx c) (ha : lr_acc G X lk c) : ∃ q v v0 d, c = ([(q, v), (0, v0)], X.2) ∧ dv_tr G X A d 3 0 X.2 v := by
  obtain ⟨st, pos⟩ := c
  obtain ⟨q, v, rest, e, hl⟩ := ha
  have e : st = (q, v) :: rest := e
  have hl : lk q 9 (gr_c G 9) (tx_k X pos) := hl
  have h1 : lr_ok G X A nx st pos := h.1
  have ht := hB.2.2.1 _ _ _ hl
  have hpos := lr_ok_pos _ _ h1
  have hp : pos = X.2 := by
    rcases Nat.lt_or_ge pos X.2 with z | z
    · unfold tx_k at ht
      rw [if_pos z] at ht
      have := hX pos z
      omega
    · omega
  obtain ⟨_, _, pop, q0, v0, base, i0, g3, g4, g5, g6, g7, _⟩ := lr_items hB _ _ h1 q v rest e 9 (gr_c G 9) _ hl
  rw [hG.2.2.2.1] at g4 g6 g7
  obtain ⟨t, g7⟩ := g7 (by omega)
  cases base with
  | cons b base =>
    obtain ⟨x, i, hx, _⟩ := g5
    have := hB.2.1 b.1 x q0 hx (fun r p => r ≠ 9 ∨ p ≠ 0) (fun r p t _ _ _ => Or.inr (by omega)) (fun r p r' _ _ hU _ => Or.inl (by have := (hG.1 r' hU).1; omega)) 9 0 t g7
    rcases this with z | z
    · exact absurd rfl z
    · exact absurd rfl z
  | nil =>
    obtain ⟨hq0, rfl⟩ := g5
    have hq0 : q0 = 0 := hq0
    subst hq0
    obtain ⟨m, v', ws, z1, ⟨d, z2⟩, z3⟩ := g6
    obtain ⟨rfl, rfl⟩ := z1
    cases pop with
    | nil => have g4 : 0 = 1 := g4; omega
    | cons a pop =>
      have hpop : pop = [] := List.eq_nil_of_length_eq_zero (by rw [List.length_cons] at g4; omega)
      subst hpop
      rw [e] at g3
      obtain ⟨ea, er⟩ := List.cons.inj g3
      subst ea
      have z3 : v :: [] = v' :: [] := z3
      have z4 := (List.cons.inj z3).1
      subst z4
      rw [hG.2.2.2.2] at z2
      subst hp
      refine ⟨q, v, v0, d, ?_, z2⟩
      have e : st = (q, v) :: rest := e
      rw [e, er]
      rfl
