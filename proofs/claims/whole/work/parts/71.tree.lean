/-! the parts of a pattern in the reference's table -/
def nd_P (op fi se : Nat → Nat) (r q : Nat) : Prop := ∀ P : Nat → Prop, P r → (∀ q, P q → 5 ≤ op q → P (fi q)) → (∀ q, P q → 8 ≤ op q → P (se q)) → P q
def nd_N (m : Nat) (lo op fi se : Nat → Nat) : Prop := ∀ p, p < m → lo p ≤ p ∧ ((op p < 5 ∧ lo p = p) ∨ (5 ≤ op p ∧ op p < 8 ∧ fi p < p ∧ lo p = lo (fi p)) ∨ (8 ≤ op p ∧ op p < 10 ∧ fi p < lo (se p) ∧ se p < p ∧ lo p = lo (fi p)))
theorem nd_of {m : Nat} {g : Nat → gk_T} {lo op fi se : Nat → Nat} {b_ops b_firsts b_seconds b_sizes : Nat → Int32} (h : yn_N m g lo op fi se b_ops b_firsts b_seconds b_sizes) : nd_N m lo op fi se := by
  intro p hp
  obtain ⟨_, _, _, h1, h2 | h2 | h2⟩ := h p hp
  · exact ⟨h1, Or.inl ⟨h2.1, h2.2.2.2.2⟩⟩
  · exact ⟨h1, Or.inr (Or.inl ⟨h2.1, h2.2.1, h2.2.2.1, h2.2.2.2.2.2.2⟩)⟩
  · exact ⟨h1, Or.inr (Or.inr ⟨h2.1, h2.2.1, h2.2.2.1, h2.2.2.2.1, h2.2.2.2.2.2.2.2⟩)⟩
section
variable {m : Nat} {lo op fi se : Nat → Nat}
theorem nd_r {r : Nat} : nd_P op fi se r r := fun _ h _ _ => h
theorem nd_f {r q : Nat} (h : nd_P op fi se r q) (h5 : 5 ≤ op q) : nd_P op fi se r (fi q) := fun P a b c => b q (h P a b c) h5
theorem nd_s {r q : Nat} (h : nd_P op fi se r q) (h8 : 8 ≤ op q) : nd_P op fi se r (se q) := fun P a b c => c q (h P a b c) h8
theorem nd_par {r q : Nat} (h : nd_P op fi se r q) : q = r ∨ ∃ q', nd_P op fi se r q' ∧ ((5 ≤ op q' ∧ fi q' = q) ∨ (8 ≤ op q' ∧ se q' = q)) := by
  have z : nd_P op fi se r q ∧ (q = r ∨ ∃ q', nd_P op fi se r q' ∧ ((5 ≤ op q' ∧ fi q' = q) ∨ (8 ≤ op q' ∧ se q' = q))) :=
    h (fun q => nd_P op fi se r q ∧ (q = r ∨ ∃ q', nd_P op fi se r q' ∧ ((5 ≤ op q' ∧ fi q' = q) ∨ (8 ≤ op q' ∧ se q' = q)))) ⟨nd_r, Or.inl rfl⟩ (fun q a b => ⟨nd_f a.1 b, Or.inr ⟨q, a.1, Or.inl ⟨b, rfl⟩⟩⟩) (fun q a b => ⟨nd_s a.1 b, Or.inr ⟨q, a.1, Or.inr ⟨b, rfl⟩⟩⟩)
  exact z.2
theorem nd_in (hN : nd_N m lo op fi se) {r q : Nat} (hr : r < m) (h : nd_P op fi se r q) : lo r ≤ lo q ∧ lo q ≤ q ∧ q ≤ r := by
  refine h (fun q => lo r ≤ lo q ∧ lo q ≤ q ∧ q ≤ r) ⟨Nat.le_refl _, (hN r hr).1, Nat.le_refl _⟩ ?_ ?_
  · intro q hq h5
    obtain ⟨a, b | b | b⟩ := hN q (by omega)
    · omega
    · have := (hN (fi q) (by omega)).1
      omega
    · have := (hN (se q) (by omega)).1
      have := (hN (fi q) (by omega)).1
      omega
  · intro q hq h8
    obtain ⟨a, b | b | b⟩ := hN q (by omega)
    · omega
    · omega
    · have := (hN (se q) (by omega)).1
      have := (hN (fi q) (by omega)).1
      omega
theorem nd_dec {r q : Nat} (h : nd_P op fi se r q) : q = r ∨ (5 ≤ op r ∧ nd_P op fi se (fi r) q) ∨ (8 ≤ op r ∧ nd_P op fi se (se r) q) := by
  refine h (fun q => q = r ∨ (5 ≤ op r ∧ nd_P op fi se (fi r) q) ∨ (8 ≤ op r ∧ nd_P op fi se (se r) q)) (Or.inl rfl) ?_ ?_
  · intro q hq h5
    rcases hq with rfl | ⟨a, b⟩ | ⟨a, b⟩
    · exact Or.inr (Or.inl ⟨h5, nd_r⟩)
    · exact Or.inr (Or.inl ⟨a, nd_f b h5⟩)
    · exact Or.inr (Or.inr ⟨a, nd_f b h5⟩)
  · intro q hq h8
    rcases hq with rfl | ⟨a, b⟩ | ⟨a, b⟩
    · exact Or.inr (Or.inr ⟨h8, nd_r⟩)
    · exact Or.inr (Or.inl ⟨a, nd_s b h8⟩)
    · exact Or.inr (Or.inr ⟨a, nd_s b h8⟩)
/-- what lies between the least and the last of a part belongs to it -/
theorem nd_B (hN : nd_N m lo op fi se) : ∀ n r, r ≤ n → r < m → ∀ q s, nd_P op fi se r q → nd_P op fi se r s → lo q ≤ s → s ≤ q → nd_P op fi se q s := by
  intro n
  induction n with
  | zero =>
    intro r hr hm q s hq hs h1 h2
    have := nd_in hN hm hq
    have e : q = r := by omega
    rw [e]; exact hs
  | succ n ih =>
    intro r hr hm q s hq hs h1 h2
    obtain ⟨a0, a⟩ := hN r hm
    rcases nd_dec hq with e | ⟨q5, q1⟩ | ⟨q8, q1⟩
    · rw [e]; exact hs
    · have f1 : fi r < r := by
        rcases a with a | a | a
        · omega
        · omega
        · have := (hN (se r) (by omega)).1
          omega
      have i1 := nd_in hN (by omega) q1
      rcases nd_dec hs with e | ⟨_, s1⟩ | ⟨s8, s1⟩
      · omega
      · exact ih (fi r) (by omega) (by omega) q s q1 s1 h1 h2
      · have l1 : fi r < lo (se r) ∧ se r < r := by
          rcases a with a | a | a
          · omega
          · omega
          · omega
        have i2 := nd_in hN (by omega) s1
        omega
    · have l1 : fi r < lo (se r) ∧ se r < r ∧ fi r < r := by
        rcases a with a | a | a
        · omega
        · omega
        · have := (hN (se r) (by omega)).1
          omega
      have i1 := nd_in hN (by omega) q1
      rcases nd_dec hs with e | ⟨_, s1⟩ | ⟨s8, s1⟩
      · omega
      · have i2 := nd_in hN (by omega) s1
        omega
      · exact ih (se r) (by omega) (by omega) q s q1 s1 h1 h2
theorem nd_gap (hN : nd_N m lo op fi se) {r p i : Nat} (hr : r < m) (hp : nd_P op fi se r p) (hi : nd_P op fi se r i) (h1 : lo p ≤ i) (h2 : i ≤ p) : i = p ∨ (5 ≤ op p ∧ nd_P op fi se (fi p) i) ∨ (8 ≤ op p ∧ nd_P op fi se (se p) i) :=
  nd_dec (nd_B hN r r (Nat.le_refl _) hr p i hp hi h1 h2)
/-- a parent stands behind -/
theorem nd_up (hN : nd_N m lo op fi se) {q q' : Nat} (hq : q' < m) (h : (5 ≤ op q' ∧ fi q' = q) ∨ (8 ≤ op q' ∧ se q' = q)) : q < q' := by
  obtain ⟨a, b | b | b⟩ := hN q' hq
  · omega
  · omega
  · have := (hN (se q') (by omega)).1
    omega
end
/-- a part is done: its sets, from spot b on -/
def yp_D (x : gk_T) (b p : Nat) (L B C E N : Nat → Int32) : Prop :=
  (∀ j, bt (B p) j = true ↔ b ≤ j ∧ gk_bg x (j - b)) ∧ (∀ j, bt (C p) j = true ↔ b ≤ j ∧ gk_en x (j - b)) ∧ ((E p = 1 ∧ gk_nu x) ∨ (E p = 0 ∧ ¬ gk_nu x)) ∧
  (∀ a, a < gk_c x → ∃ o, o < 4 ∧ L (b + a) = nI o ∧ ∀ l, l < 3 → (gk_tk x a l ↔ o = 3 ∨ o = l)) ∧
  ∀ a j, a < gk_c x → (bt (N (b + a)) j = true ↔ b ≤ j ∧ gk_ar x a (j - b))
/-- what stays -/
def yp_F (b l : Nat) (L B C E N L' B' C' E' N' : Nat → Int32) : Prop := (∀ i, i < b → L' i = L i ∧ N' i = N i) ∧ ∀ q, q < l → B' q = B q ∧ C' q = C q ∧ E' q = E q
theorem yp_Fr {b l : Nat} {L B C E N : Nat → Int32} : yp_F b l L B C E N L B C E N := ⟨fun _ _ => ⟨rfl, rfl⟩, fun _ _ => ⟨rfl, rfl, rfl⟩⟩
theorem yp_Ft {b l b' l' : Nat} {L B C E N L1 B1 C1 E1 N1 L2 B2 C2 E2 N2 : Nat → Int32} (h1 : yp_F b l L B C E N L1 B1 C1 E1 N1) (h2 : yp_F b' l' L1 B1 C1 E1 N1 L2 B2 C2 E2 N2) (hb : b ≤ b') (hl : l ≤ l') : yp_F b l L B C E N L2 B2 C2 E2 N2 := by
  refine ⟨fun i hi => ?_, fun q hq => ?_⟩
  · have a := h1.1 i hi
    have c := h2.1 i (by omega)
    exact ⟨c.1.trans a.1, c.2.trans a.2⟩
  · have a := h1.2 q hq
    have c := h2.2 q (by omega)
    exact ⟨c.1.trans a.1, c.2.1.trans a.2.1, c.2.2.trans a.2.2⟩
theorem yp_Dk {x : gk_T} {b p : Nat} {L B C E N L' B' C' E' N' : Nat → Int32} (h : yp_D x b p L B C E N) {b' l' : Nat} (hF : yp_F b' l' L B C E N L' B' C' E' N') (hb : b + gk_c x ≤ b') (hp : p < l') : yp_D x b p L' B' C' E' N' := by
  obtain ⟨h1, h2, h3, h4, h5⟩ := h
  have f := hF.2 p hp
  refine ⟨fun j => by rw [f.1]; exact h1 j, fun j => by rw [f.2.1]; exact h2 j, by rw [f.2.2]; exact h3, fun a ha => ?_, fun a j ha => ?_⟩
  · rw [(hF.1 (b + a) (by omega)).1]; exact h4 a ha
  · rw [(hF.1 (b + a) (by omega)).2]; exact h5 a j ha
/-- the places that follow -/
def yp_f (N : Nat → Int32) (c : Nat) (from_ to_ : Int32) : Nat → Int32 := fun i => if i < c ∧ bt from_ i = true then N i ||| to_ else N i
theorem yp_fb {N : Nat → Int32} {c : Nat} {u v : Int32} (i j : Nat) : bt (yp_f N c u v i) j = true ↔ bt (N i) j = true ∨ (i < c ∧ bt u i = true ∧ bt v j = true) := by
  unfold yp_f
  by_cases z : i < c ∧ bt u i = true
  · rw [if_pos z, b_or, Bool.or_eq_true]
    exact ⟨fun q => q.imp id fun w => ⟨z.1, z.2, w⟩, fun q => q.imp id fun w => w.2.2⟩
  · rw [if_neg z]
    exact ⟨Or.inl, fun q => q.elim id fun w => absurd ⟨w.1, w.2.1⟩ z⟩
/-- a letter -/
theorem yp_leaf {o b p : Nat} (ho : o < 4) (hb : b < 32) (L B C E N : Nat → Int32) : yp_D (gk_leaf o) b p (upd L b (nI o)) (upd B p (1 <<< (nI b &&& 31))) (upd C p (1 <<< (nI b &&& 31))) (upd E p 0) (upd N b 0) := by
  have c1 : gk_c (gk_leaf o) = 1 := if_pos ho
  have e : ∀ j, bt ((1 : Int32) <<< (nI b &&& 31)) j = true ↔ b ≤ j ∧ (o < 4 ∧ j - b = 0) := fun j => by
    rw [b_one b hb, decide_eq_true_eq]
    omega
  refine ⟨fun j => by rw [pk_us]; exact e j, fun j => by rw [pk_us]; exact e j, Or.inr ⟨pk_us, ?_⟩, fun a ha => ?_, fun a j ha => ?_⟩
  · intro q
    have q : o = 4 := q
    omega
  · have a0 : a = 0 := by omega
    subst a0
    refine ⟨o, ho, pk_us, fun l _ => ?_⟩
    show (o < 4 ∧ 0 = 0 ∧ (o = 3 ∨ o = l)) ↔ _
    exact ⟨fun q => q.2.2, fun q => ⟨ho, rfl, q⟩⟩
  · have a0 : a = 0 := by omega
    subst a0
    rw [Nat.add_zero, pk_us, b_0]
    exact ⟨(fun q => by cases q), fun q => q.2.elim⟩
theorem yp_empty {b p : Nat} (L B C E N : Nat → Int32) : yp_D (gk_leaf 4) b p L (upd B p 0) (upd C p 0) (upd E p 1) N := by
  have c0 : gk_c (gk_leaf 4) = 0 := rfl
  refine ⟨fun j => ?_, fun j => ?_, Or.inl ⟨pk_us, rfl⟩, fun a ha => by omega, fun a j ha => by omega⟩
  · rw [pk_us, b_0]
    exact ⟨(fun q => by cases q), fun q => absurd q.2.1 (by omega)⟩
  · rw [pk_us, b_0]
    exact ⟨(fun q => by cases q), fun q => absurd q.2.1 (by omega)⟩
/-- a repetition -/
theorem yp_rep {x : gk_T} (hx : gk_wf x) {o b p q : Nat} {L B C E N : Nat → Int32} (h : yp_D x b q L B C E N) {e : Int32} (he : (e = 1 ∧ (gk_nu x ∨ o ≠ 1)) ∨ (e = 0 ∧ ¬ (gk_nu x ∨ o ≠ 1))) {N' : Nat → Int32} (h2 : o ≠ 2 → N' = yp_f N (b + gk_c x) (C q) (B q)) (h3 : o = 2 → N' = N) : yp_D (gk_rep o x) b p L (upd B p (B q)) (upd C p (C q)) (upd E p e) N' := by
  obtain ⟨g1, g2, g3, g4, g5⟩ := h
  refine ⟨fun j => by rw [pk_us]; exact g1 j, fun j => by rw [pk_us]; exact g2 j, by rw [pk_us]; exact he, g4, fun a j ha => ?_⟩
  have ha : a < gk_c x := ha
  show _ ↔ b ≤ j ∧ (gk_ar x a (j - b) ∨ (o ≠ 2 ∧ gk_en x a ∧ gk_bg x (j - b)))
  by_cases z : o = 2
  · rw [h3 z, g5 a j ha]
    exact ⟨fun y => ⟨y.1, Or.inl y.2⟩, fun y => ⟨y.1, y.2.resolve_right fun w => w.1 z⟩⟩
  · rw [h2 z, yp_fb, g5 a j ha, g2, g1, Nat.add_sub_cancel_left]
    constructor
    · rintro (y | y)
      · exact ⟨y.1, Or.inl y.2⟩
      · exact ⟨y.2.2.1, Or.inr ⟨z, y.2.1.2, y.2.2.2⟩⟩
    · rintro ⟨y1, y2 | y2⟩
      · exact Or.inl ⟨y1, y2⟩
      · exact Or.inr ⟨by omega, ⟨by omega, y2.2.1⟩, y1, y2.2.2⟩
/-- two joined -/
theorem yp_join {x y : gk_T} (hx : gk_wf x) (hy : gk_wf y) {o b p q s : Nat} {L B C E N : Nat → Int32} (h : yp_D x b q L B C E N) (k : yp_D y (b + gk_c x) s L B C E N) {e v w : Int32}
    (he : (e = 1 ∧ gk_nu (gk_join o x y)) ∨ (e = 0 ∧ ¬ gk_nu (gk_join o x y))) (hv1 : o ≠ 0 ∨ gk_nu x → v = B q ||| B s) (hv2 : ¬ (o ≠ 0 ∨ gk_nu x) → v = B q) (hw1 : o ≠ 0 ∨ gk_nu y → w = C q ||| C s) (hw2 : ¬ (o ≠ 0 ∨ gk_nu y) → w = C s)
    {N' : Nat → Int32} (h2 : o = 0 → N' = yp_f N (b + gk_c x + gk_c y) (C q) (B s)) (h3 : o ≠ 0 → N' = N) : yp_D (gk_join o x y) b p L (upd B p v) (upd C p w) (upd E p e) N' := by
  obtain ⟨g1, g2, g3, g4, g5⟩ := h
  obtain ⟨k1, k2, k3, k4, k5⟩ := k
  have sb : ∀ j, b + gk_c x ≤ j → j - (b + gk_c x) = j - b - gk_c x := fun j _ => by omega
  refine ⟨fun j => ?_, fun j => ?_, by rw [pk_us]; exact he, fun a ha => ?_, fun a j ha => ?_⟩
  · rw [pk_us]
    show _ ↔ b ≤ j ∧ (gk_bg x (j - b) ∨ (gk_c x ≤ j - b ∧ gk_bg y (j - b - gk_c x) ∧ (o ≠ 0 ∨ gk_nu x)))
    by_cases z : o ≠ 0 ∨ gk_nu x
    · rw [hv1 z, b_or, Bool.or_eq_true, g1, k1]
      constructor
      · rintro (t | t)
        · exact ⟨t.1, Or.inl t.2⟩
        · rw [sb j t.1] at t
          exact ⟨by omega, Or.inr ⟨by omega, t.2, z⟩⟩
      · rintro ⟨t1, t2 | t2⟩
        · exact Or.inl ⟨t1, t2⟩
        · exact Or.inr ⟨by omega, by rw [sb j (by omega)]; exact t2.2.1⟩
    · rw [hv2 z, g1]
      exact ⟨fun t => ⟨t.1, Or.inl t.2⟩, fun t => ⟨t.1, t.2.resolve_right fun u => z u.2.2⟩⟩
  · rw [pk_us]
    show _ ↔ b ≤ j ∧ ((gk_en x (j - b) ∧ (o ≠ 0 ∨ gk_nu y)) ∨ (gk_c x ≤ j - b ∧ gk_en y (j - b - gk_c x)))
    by_cases z : o ≠ 0 ∨ gk_nu y
    · rw [hw1 z, b_or, Bool.or_eq_true, g2, k2]
      constructor
      · rintro (t | t)
        · exact ⟨t.1, Or.inl ⟨t.2, z⟩⟩
        · rw [sb j t.1] at t
          exact ⟨by omega, Or.inr ⟨by omega, t.2⟩⟩
      · rintro ⟨t1, t2 | t2⟩
        · exact Or.inl ⟨t1, t2.1⟩
        · exact Or.inr ⟨by omega, by rw [sb j (by omega)]; exact t2.2⟩
    · rw [hw2 z, k2]
      constructor
      · intro t
        rw [sb j t.1] at t
        exact ⟨by omega, Or.inr ⟨by omega, t.2⟩⟩
      · rintro ⟨t1, t2 | t2⟩
        · exact absurd t2.2 z
        · exact ⟨by omega, by rw [sb j (by omega)]; exact t2.2⟩
  · have ha : a < gk_c x + gk_c y := ha
    by_cases z : a < gk_c x
    · obtain ⟨r, r1, r2, r3⟩ := g4 a z
      refine ⟨r, r1, r2, fun l hl => ?_⟩
      show (gk_tk x a l ∨ (gk_c x ≤ a ∧ gk_tk y (a - gk_c x) l)) ↔ _
      rw [← r3 l hl]
      exact ⟨fun t => t.resolve_right fun u => by omega, Or.inl⟩
    · obtain ⟨r, r1, r2, r3⟩ := k4 (a - gk_c x) (by omega)
      rw [show b + gk_c x + (a - gk_c x) = b + a by omega] at r2
      refine ⟨r, r1, r2, fun l hl => ?_⟩
      show (gk_tk x a l ∨ (gk_c x ≤ a ∧ gk_tk y (a - gk_c x) l)) ↔ _
      rw [← r3 l hl]
      exact ⟨fun t => (t.resolve_left fun u => z (hx.2.2.2.2 a l u)).2, fun t => Or.inr ⟨by omega, t⟩⟩
  · have ha : a < gk_c x + gk_c y := ha
    show _ ↔ b ≤ j ∧ (gk_ar x a (j - b) ∨ (gk_c x ≤ a ∧ gk_c x ≤ j - b ∧ gk_ar y (a - gk_c x) (j - b - gk_c x)) ∨ (o = 0 ∧ gk_en x a ∧ gk_c x ≤ j - b ∧ gk_bg y (j - b - gk_c x)))
    have old : bt (N (b + a)) j = true ↔ b ≤ j ∧ (gk_ar x a (j - b) ∨ (gk_c x ≤ a ∧ gk_c x ≤ j - b ∧ gk_ar y (a - gk_c x) (j - b - gk_c x))) := by
      by_cases z : a < gk_c x
      · rw [g5 a j z]
        exact ⟨fun t => ⟨t.1, Or.inl t.2⟩, fun t => ⟨t.1, t.2.resolve_right fun u => by omega⟩⟩
      · have := k5 (a - gk_c x) j (by omega)
        rw [show b + gk_c x + (a - gk_c x) = b + a by omega] at this
        rw [this]
        constructor
        · intro t
          rw [sb j t.1] at t
          exact ⟨by omega, Or.inr ⟨by omega, by omega, t.2⟩⟩
        · rintro ⟨t1, t2 | t2⟩
          · exact absurd (hx.2.2.2.1 a _ t2).1 z
          · exact ⟨by omega, by rw [sb j (by omega)]; exact t2.2.2⟩
    by_cases z : o = 0
    · rw [h2 z, yp_fb, old, g2, k1, Nat.add_sub_cancel_left]
      constructor
      · rintro (t | t)
        · exact ⟨t.1, t.2.elim Or.inl fun u => Or.inr (Or.inl u)⟩
        · have t2 := t.2.2
          rw [sb j t2.1] at t2
          exact ⟨by omega, Or.inr (Or.inr ⟨z, t.2.1.2, by omega, t2.2⟩)⟩
      · rintro ⟨t1, t2 | t2 | t2⟩
        · exact Or.inl ⟨t1, Or.inl t2⟩
        · exact Or.inl ⟨t1, Or.inr t2⟩
        · exact Or.inr ⟨by omega, ⟨by omega, t2.2.1⟩, by omega, by rw [sb j (by omega)]; exact t2.2.2.2⟩
    · rw [h3 z, old]
      exact ⟨fun t => ⟨t.1, t.2.elim Or.inl fun u => Or.inr (Or.inl u)⟩, fun t => ⟨t.1, t.2.elim Or.inl fun u => u.elim Or.inr fun w => absurd w.1 z⟩⟩
