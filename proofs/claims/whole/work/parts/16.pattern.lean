/-! a pattern by its spots: how many, whether the empty word, which begin, which end, which follow which, which take which letter -/
abbrev gk_T : Type := Nat × Prop × (Nat → Prop) × (Nat → Prop) × (Nat → Nat → Prop) × (Nat → Nat → Prop)
def gk_c (x : gk_T) : Nat := x.1
def gk_nu (x : gk_T) : Prop := x.2.1
def gk_bg (x : gk_T) : Nat → Prop := x.2.2.1
def gk_en (x : gk_T) : Nat → Prop := x.2.2.2.1
def gk_ar (x : gk_T) : Nat → Nat → Prop := x.2.2.2.2.1
def gk_tk (x : gk_T) : Nat → Nat → Prop := x.2.2.2.2.2
def gk_wf (x : gk_T) : Prop := gk_c x ≤ 6 ∧ (∀ b, gk_bg x b → b < gk_c x) ∧ (∀ b, gk_en x b → b < gk_c x) ∧ (∀ a b, gk_ar x a b → a < gk_c x ∧ b < gk_c x) ∧ ∀ b l, gk_tk x b l → b < gk_c x
def gk_leaf (o : Nat) : gk_T := (if o < 4 then 1 else 0, o = 4, fun b => o < 4 ∧ b = 0, fun b => o < 4 ∧ b = 0, fun _ _ => False, fun b l => o < 4 ∧ b = 0 ∧ (o = 3 ∨ o = l))
def gk_rep (o : Nat) (x : gk_T) : gk_T := (gk_c x, gk_nu x ∨ o ≠ 1, gk_bg x, gk_en x, fun a b => gk_ar x a b ∨ (o ≠ 2 ∧ gk_en x a ∧ gk_bg x b), gk_tk x)
def gk_join (o : Nat) (x y : gk_T) : gk_T :=
  (gk_c x + gk_c y, (o = 0 ∧ gk_nu x ∧ gk_nu y) ∨ (o ≠ 0 ∧ (gk_nu x ∨ gk_nu y)),
   fun b => gk_bg x b ∨ (gk_c x ≤ b ∧ gk_bg y (b - gk_c x) ∧ (o ≠ 0 ∨ gk_nu x)),
   fun b => (gk_en x b ∧ (o ≠ 0 ∨ gk_nu y)) ∨ (gk_c x ≤ b ∧ gk_en y (b - gk_c x)),
   fun a b => gk_ar x a b ∨ (gk_c x ≤ a ∧ gk_c x ≤ b ∧ gk_ar y (a - gk_c x) (b - gk_c x)) ∨ (o = 0 ∧ gk_en x a ∧ gk_c x ≤ b ∧ gk_bg y (b - gk_c x)),
   fun b l => gk_tk x b l ∨ (gk_c x ≤ b ∧ gk_tk y (b - gk_c x) l))
def gk_none : gk_T := (0, False, fun _ => False, fun _ => False, fun _ _ => False, fun _ _ => False)
theorem gk_wf_none : gk_wf gk_none := ⟨by show 0 ≤ 6; omega, fun _ h => h.elim, fun _ h => h.elim, fun _ _ h => h.elim, fun _ _ h => h.elim⟩
theorem gk_wf_leaf (o : Nat) : gk_wf (gk_leaf o) := by
  have e : ∀ b, o < 4 ∧ b = 0 → b < gk_c (gk_leaf o) := by
    intro b h
    show b < if o < 4 then 1 else 0
    rw [if_pos h.1]; omega
  refine ⟨?_, fun b h => e b h, fun b h => e b h, fun _ _ h => h.elim, fun b l h => e b ⟨h.1, h.2.1⟩⟩
  show (if o < 4 then 1 else 0) ≤ 6
  split <;> omega
theorem gk_wf_rep {o : Nat} {x : gk_T} (h : gk_wf x) : gk_wf (gk_rep o x) := by
  obtain ⟨h1, h2, h3, h4, h5⟩ := h
  refine ⟨h1, h2, h3, ?_, h5⟩
  intro a b z
  rcases z with z | ⟨_, z1, z2⟩
  · exact h4 a b z
  · exact ⟨h3 a z1, h2 b z2⟩
theorem gk_wf_join {o : Nat} {x y : gk_T} (hx : gk_wf x) (hy : gk_wf y) (h6 : gk_c x + gk_c y ≤ 6) : gk_wf (gk_join o x y) := by
  obtain ⟨_, x2, x3, x4, x5⟩ := hx
  obtain ⟨_, y2, y3, y4, y5⟩ := hy
  have e : gk_c (gk_join o x y) = gk_c x + gk_c y := rfl
  refine ⟨h6, ?_, ?_, ?_, ?_⟩
  · intro b z
    rw [e]
    rcases z with z | ⟨z1, z2, _⟩
    · have := x2 b z; omega
    · have := y2 _ z2; omega
  · intro b z
    rw [e]
    rcases z with ⟨z, _⟩ | ⟨z1, z2⟩
    · have := x3 b z; omega
    · have := y3 _ z2; omega
  · intro a b z
    rw [e]
    rcases z with z | ⟨z1, z2, z3⟩ | ⟨_, z1, z2, z3⟩
    · have := x4 a b z; omega
    · have := y4 _ _ z3; omega
    · have := x3 a z1; have := y2 _ z3; omega
  · intro b l z
    rw [e]
    rcases z with z | ⟨z1, z2⟩
    · have := x5 b l z; omega
    · have := y5 _ l z2; omega
/-- the spots that a word of m letters from place i leads to -/
def gk_rs (x : gk_T) (t : Nat → Nat) (i : Nat) : Nat → Nat → Prop
  | 0 => fun _ => False
  | m + 1 => fun b => gk_tk x b (t (i + m)) ∧ ((m = 0 ∧ gk_bg x b) ∨ ∃ a, gk_rs x t i m a ∧ gk_ar x a b)
def gk_acc (x : gk_T) (t : Nat → Nat) (i j : Nat) : Prop := i ≤ j ∧ ((i = j ∧ gk_nu x) ∨ ∃ b, gk_rs x t i (j - i) b ∧ gk_en x b)
def gk_it (R : Nat → Nat → Prop) : Nat → Nat → Nat → Prop
  | 0 => fun i j => i = j
  | n + 1 => fun i j => ∃ k, gk_it R n i k ∧ R k j
def gk_star (R : Nat → Nat → Prop) (i j : Nat) : Prop := ∃ n, gk_it R n i j
theorem gk_star_r {R : Nat → Nat → Prop} {i : Nat} : gk_star R i i := ⟨0, rfl⟩
theorem gk_star_s {R : Nat → Nat → Prop} {i k j : Nat} (h : gk_star R i k) (h2 : R k j) : gk_star R i j := by
  obtain ⟨n, h⟩ := h
  exact ⟨n + 1, k, h, h2⟩
theorem gk_star_le {R : Nat → Nat → Prop} (hR : ∀ i j, R i j → i ≤ j) {i j : Nat} (h : gk_star R i j) : i ≤ j := by
  obtain ⟨n, h⟩ := h
  revert j
  induction n with
  | zero => intro j h; have h : i = j := h; omega
  | succ n ih =>
    intro j h
    obtain ⟨k, a, b⟩ := h
    have := ih a
    have := hR _ _ b
    omega
theorem gk_star_last {R : Nat → Nat → Prop} (hR : ∀ i j, R i j → i ≤ j) {i j : Nat} (h : gk_star R i j) (hij : i < j) : ∃ k, gk_star R i k ∧ k < j ∧ R k j := by
  obtain ⟨n, h⟩ := h
  revert j
  induction n with
  | zero => intro j hij h; have h : i = j := h; omega
  | succ n ih =>
    intro j hij h
    obtain ⟨k, a, b⟩ := h
    have := hR _ _ b
    rcases Nat.lt_or_ge k j with z | z
    · exact ⟨k, ⟨n, a⟩, z, b⟩
    · have e : k = j := by omega
      subst e
      exact ih hij a
theorem gk_acc_le {x : gk_T} {t : Nat → Nat} {i j : Nat} (h : gk_acc x t i j) : i ≤ j := h.1
theorem gk_acc_ne {x : gk_T} {t : Nat → Nat} {i j : Nat} (h : gk_acc x t i j) (hij : i < j) : ∃ b, gk_rs x t i (j - i) b ∧ gk_en x b := by
  rcases h.2 with ⟨z, _⟩ | z
  · omega
  · exact z
theorem gk_acc_mk {x : gk_T} {t : Nat → Nat} {i m b : Nat} (h : gk_rs x t i m b) (h2 : gk_en x b) : gk_acc x t i (i + m) := ⟨by omega, Or.inr ⟨b, by rw [Nat.add_sub_cancel_left]; exact h, h2⟩⟩
theorem gk_acc_nu {x : gk_T} {t : Nat → Nat} {i : Nat} : gk_acc x t i i ↔ gk_nu x := by
  constructor
  · intro h
    rcases h.2 with ⟨_, z⟩ | ⟨b, z, _⟩
    · exact z
    · rw [Nat.sub_self] at z; exact z.elim
  · intro h; exact ⟨Nat.le_refl _, Or.inl ⟨rfl, h⟩⟩
theorem gk_rs_lt {x : gk_T} (hx : gk_wf x) {t : Nat → Nat} {i m b : Nat} (h : gk_rs x t i m b) : b < gk_c x := by
  cases m with
  | zero => exact h.elim
  | succ m => exact hx.2.2.2.2 _ _ h.1
theorem gk_acc_leaf {o : Nat} {t : Nat → Nat} {i j : Nat} : gk_acc (gk_leaf o) t i j ↔ (o = 4 ∧ i = j) ∨ (o < 4 ∧ j = i + 1 ∧ (o = 3 ∨ o = t i)) := by
  constructor
  · intro h
    rcases h.2 with ⟨z, y⟩ | ⟨b, z, y⟩
    · exact Or.inl ⟨y, z⟩
    · have y : o < 4 ∧ b = 0 := y
      obtain ⟨m, hm⟩ : ∃ m, j - i = m := ⟨_, rfl⟩
      rw [hm] at z
      cases m with
      | zero => exact z.elim
      | succ m =>
        obtain ⟨z1, z2⟩ := z
        rcases z2 with ⟨rfl, _⟩ | ⟨a, _, z⟩
        · exact Or.inr ⟨y.1, by omega, z1.2.2⟩
        · exact z.elim
  · intro h
    rcases h with ⟨h1, rfl⟩ | ⟨h1, rfl, h2⟩
    · exact ⟨Nat.le_refl _, Or.inl ⟨rfl, h1⟩⟩
    · exact gk_acc_mk (b := 0) ⟨⟨h1, rfl, h2⟩, Or.inl ⟨rfl, h1, rfl⟩⟩ ⟨h1, rfl⟩
/-! repeats -/
theorem gk_rs_opt {x : gk_T} {t : Nat → Nat} {i : Nat} : ∀ m b, gk_rs (gk_rep 2 x) t i m b ↔ gk_rs x t i m b := by
  intro m
  induction m with
  | zero => intro b; exact Iff.rfl
  | succ m ih =>
    intro b
    constructor
    · intro h
      obtain ⟨h1, h2⟩ := h
      refine ⟨h1, ?_⟩
      rcases h2 with h2 | ⟨a, h2, h3⟩
      · exact Or.inl h2
      · rcases h3 with h3 | ⟨h3, _⟩
        · exact Or.inr ⟨a, (ih a).mp h2, h3⟩
        · exact absurd rfl h3
    · intro h
      obtain ⟨h1, h2⟩ := h
      refine ⟨h1, ?_⟩
      rcases h2 with h2 | ⟨a, h2, h3⟩
      · exact Or.inl h2
      · exact Or.inr ⟨a, (ih a).mpr h2, Or.inl h3⟩
theorem gk_rs_rep {o : Nat} (ho : o ≠ 2) {x : gk_T} {t : Nat → Nat} {i : Nat} : ∀ m b, gk_rs (gk_rep o x) t i m b ↔ ∃ k, k < m ∧ gk_star (gk_acc x t) i (i + k) ∧ gk_rs x t (i + k) (m - k) b := by
  intro m
  induction m with
  | zero => intro b; exact ⟨fun h => h.elim, fun h => by obtain ⟨k, hk, _⟩ := h; omega⟩
  | succ m ih =>
    intro b
    constructor
    · intro h
      obtain ⟨h1, h2⟩ := h
      have h1 : gk_tk x b (t (i + m)) := h1
      rcases h2 with ⟨rfl, h2⟩ | ⟨a, h2, h3⟩
      · exact ⟨0, by omega, gk_star_r, h1, Or.inl ⟨rfl, h2⟩⟩
      · obtain ⟨k, k1, k2, k3⟩ := (ih a).mp h2
        rcases h3 with h3 | ⟨_, h3, h4⟩
        · refine ⟨k, by omega, k2, ?_⟩
          rw [show m + 1 - k = (m - k) + 1 by omega]
          refine ⟨?_, Or.inr ⟨a, k3, h3⟩⟩
          rw [show i + k + (m - k) = i + m by omega]
          exact h1
        · refine ⟨m, by omega, ?_, ?_⟩
          · have := gk_acc_mk k3 h3
            rw [show i + k + (m - k) = i + m by omega] at this
            exact gk_star_s k2 this
          · rw [show m + 1 - m = 0 + 1 by omega]
            exact ⟨h1, Or.inl ⟨rfl, h4⟩⟩
    · intro h
      obtain ⟨k, k1, k2, k3⟩ := h
      rcases Nat.lt_or_ge k m with z | z
      · rw [show m + 1 - k = (m - k) + 1 by omega] at k3
        obtain ⟨h1, h2⟩ := k3
        rw [show i + k + (m - k) = i + m by omega] at h1
        refine ⟨h1, ?_⟩
        rcases h2 with ⟨h2, _⟩ | ⟨a, h2, h3⟩
        · omega
        · exact Or.inr ⟨a, (ih a).mpr ⟨k, z, k2, h2⟩, Or.inl h3⟩
      · have e : k = m := by omega
        subst e
        rw [show k + 1 - k = 0 + 1 by omega] at k3
        obtain ⟨h1, h2⟩ := k3
        have hb : gk_bg x b := by
          rcases h2 with ⟨_, h2⟩ | ⟨a, h2, _⟩
          · exact h2
          · exact h2.elim
        refine ⟨h1, ?_⟩
        rcases Nat.eq_zero_or_pos k with z | z
        · exact Or.inl ⟨z, hb⟩
        · obtain ⟨l, l1, l2, l3⟩ := gk_star_last (fun _ _ h => gk_acc_le h) k2 (by omega)
          have l4 := gk_star_le (fun _ _ h => gk_acc_le h) l1
          obtain ⟨a, a1, a2⟩ := gk_acc_ne l3 l2
          refine Or.inr ⟨a, (ih a).mpr ⟨l - i, by omega, ?_, ?_⟩, Or.inr ⟨ho, a2, hb⟩⟩
          · rw [show i + (l - i) = l by omega]; exact l1
          · rw [show i + (l - i) = l by omega, show k - (l - i) = i + k - l by omega]; exact a1
theorem gk_acc_opt {x : gk_T} {t : Nat → Nat} {i j : Nat} : gk_acc (gk_rep 2 x) t i j ↔ i = j ∨ gk_acc x t i j := by
  constructor
  · intro h
    rcases h.2 with ⟨z, _⟩ | ⟨b, z, y⟩
    · exact Or.inl z
    · exact Or.inr ⟨h.1, Or.inr ⟨b, (gk_rs_opt _ _).mp z, y⟩⟩
  · intro h
    rcases h with rfl | h
    · exact ⟨Nat.le_refl _, Or.inl ⟨rfl, Or.inr (by decide)⟩⟩
    · rcases h.2 with ⟨z, y⟩ | ⟨b, z, y⟩
      · exact ⟨h.1, Or.inl ⟨z, Or.inl y⟩⟩
      · exact ⟨h.1, Or.inr ⟨b, (gk_rs_opt _ _).mpr z, y⟩⟩
theorem gk_acc_plus {x : gk_T} {t : Nat → Nat} {i j : Nat} : gk_acc (gk_rep 1 x) t i j ↔ ∃ k, gk_star (gk_acc x t) i k ∧ gk_acc x t k j := by
  constructor
  · intro h
    rcases h.2 with ⟨rfl, z⟩ | ⟨b, z, y⟩
    · rcases z with z | z
      · exact ⟨i, gk_star_r, gk_acc_nu.mpr z⟩
      · exact absurd rfl z
    · obtain ⟨k, k1, k2, k3⟩ := (gk_rs_rep (by decide) _ _).mp z
      refine ⟨i + k, k2, ?_⟩
      have := gk_acc_mk k3 y
      have hij := h.1
      rwa [show i + k + (j - i - k) = j by omega] at this
  · intro h
    obtain ⟨k, h1, h2⟩ := h
    have a := gk_star_le (fun _ _ h => gk_acc_le h) h1
    have b := h2.1
    rcases Nat.lt_or_ge i j with z | z
    · obtain ⟨l, l1, l2, l3⟩ := gk_star_last (fun _ _ h => gk_acc_le h) (gk_star_s h1 h2) z
      have l4 := gk_star_le (fun _ _ h => gk_acc_le h) l1
      obtain ⟨c, c1, c2⟩ := gk_acc_ne l3 l2
      refine ⟨by omega, Or.inr ⟨c, (gk_rs_rep (by decide) _ _).mpr ⟨l - i, by omega, ?_, ?_⟩, c2⟩⟩
      · rw [show i + (l - i) = l by omega]; exact l1
      · rw [show i + (l - i) = l by omega, show j - i - (l - i) = j - l by omega]; exact c1
    · have e1 : k = i := by omega
      have e2 : j = i := by omega
      subst e1 e2
      exact ⟨Nat.le_refl _, Or.inl ⟨rfl, Or.inl (gk_acc_nu.mp h2)⟩⟩
theorem gk_acc_star {x : gk_T} {t : Nat → Nat} {i j : Nat} : gk_acc (gk_rep 0 x) t i j ↔ gk_star (gk_acc x t) i j := by
  constructor
  · intro h
    rcases h.2 with ⟨rfl, z⟩ | ⟨b, z, y⟩
    · exact gk_star_r
    · obtain ⟨k, k1, k2, k3⟩ := (gk_rs_rep (by decide) _ _).mp z
      have := gk_acc_mk k3 y
      have hij := h.1
      rw [show i + k + (j - i - k) = j by omega] at this
      exact gk_star_s k2 this
  · intro h
    have a := gk_star_le (fun _ _ h => gk_acc_le h) h
    rcases Nat.lt_or_ge i j with z | z
    · obtain ⟨l, l1, l2, l3⟩ := gk_star_last (fun _ _ h => gk_acc_le h) h z
      have l4 := gk_star_le (fun _ _ h => gk_acc_le h) l1
      obtain ⟨c, c1, c2⟩ := gk_acc_ne l3 l2
      refine ⟨by omega, Or.inr ⟨c, (gk_rs_rep (by decide) _ _).mpr ⟨l - i, by omega, ?_, ?_⟩, c2⟩⟩
      · rw [show i + (l - i) = l by omega]; exact l1
      · rw [show i + (l - i) = l by omega, show j - i - (l - i) = j - l by omega]; exact c1
    · have e : i = j := by omega
      subst e
      exact ⟨Nat.le_refl _, Or.inl ⟨rfl, Or.inr (by decide)⟩⟩
/-! joins -/
theorem gk_rs_alt {o : Nat} (ho : o ≠ 0) {x y : gk_T} (hx : gk_wf x) {t : Nat → Nat} {i : Nat} : ∀ m b, gk_rs (gk_join o x y) t i m b ↔ gk_rs x t i m b ∨ (gk_c x ≤ b ∧ gk_rs y t i m (b - gk_c x)) := by
  obtain ⟨_, x2, x3, x4, x5⟩ := hx
  intro m
  induction m with
  | zero => intro b; exact ⟨fun h => h.elim, fun h => by rcases h with h | ⟨_, h⟩ <;> exact h.elim⟩
  | succ m ih =>
    intro b
    constructor
    · intro h
      obtain ⟨h1, h2⟩ := h
      rcases h1 with h1 | ⟨h1, h1'⟩
      · have hb := x5 _ _ h1
        refine Or.inl ⟨h1, ?_⟩
        rcases h2 with ⟨h2, h3⟩ | ⟨a, h2, h3⟩
        · rcases h3 with h3 | ⟨h3, _⟩
          · exact Or.inl ⟨h2, h3⟩
          · omega
        · rcases h3 with h3 | ⟨_, h3, _⟩ | ⟨h3, _⟩
          · have ha := (x4 _ _ h3).1
            rcases (ih a).mp h2 with h2 | ⟨h2, _⟩
            · exact Or.inr ⟨a, h2, h3⟩
            · omega
          · omega
          · exact absurd h3 ho
      · refine Or.inr ⟨h1, h1', ?_⟩
        rcases h2 with ⟨h2, h3⟩ | ⟨a, h2, h3⟩
        · rcases h3 with h3 | ⟨_, h3, _⟩
          · have := x2 _ h3; omega
          · exact Or.inl ⟨h2, h3⟩
        · rcases h3 with h3 | ⟨h4, _, h3⟩ | ⟨h3, _⟩
          · have := (x4 _ _ h3).2; omega
          · rcases (ih a).mp h2 with h2 | ⟨_, h2⟩
            · have : a < gk_c x := by
                cases m with
                | zero => exact h2.elim
                | succ m => exact x5 _ _ h2.1
              omega
            · exact Or.inr ⟨a - gk_c x, h2, h3⟩
          · exact absurd h3 ho
    · intro h
      rcases h with ⟨h1, h2⟩ | ⟨h0, h1, h2⟩
      · refine ⟨Or.inl h1, ?_⟩
        rcases h2 with ⟨h2, h3⟩ | ⟨a, h2, h3⟩
        · exact Or.inl ⟨h2, Or.inl h3⟩
        · exact Or.inr ⟨a, (ih a).mpr (Or.inl h2), Or.inl h3⟩
      · refine ⟨Or.inr ⟨h0, h1⟩, ?_⟩
        rcases h2 with ⟨h2, h3⟩ | ⟨a, h2, h3⟩
        · exact Or.inl ⟨h2, Or.inr ⟨h0, h3, Or.inl ho⟩⟩
        · refine Or.inr ⟨a + gk_c x, (ih _).mpr (Or.inr ⟨by omega, ?_⟩), Or.inr (Or.inl ⟨by omega, h0, ?_⟩)⟩
          · rw [Nat.add_sub_cancel]; exact h2
          · rw [Nat.add_sub_cancel]; exact h3
theorem gk_rs_cat {x y : gk_T} (hx : gk_wf x) {t : Nat → Nat} {i : Nat} : ∀ m b, gk_rs (gk_join 0 x y) t i m b ↔ gk_rs x t i m b ∨ (gk_c x ≤ b ∧ ∃ k, k < m ∧ gk_acc x t i (i + k) ∧ gk_rs y t (i + k) (m - k) (b - gk_c x)) := by
  obtain ⟨_, x2, x3, x4, x5⟩ := hx
  intro m
  induction m with
  | zero => intro b; exact ⟨fun h => h.elim, fun h => by rcases h with h | ⟨_, k, hk, _⟩; exact h.elim; omega⟩
  | succ m ih =>
    intro b
    constructor
    · intro h
      obtain ⟨h1, h2⟩ := h
      rcases h1 with h1 | ⟨h1, h1'⟩
      · have hb := x5 _ _ h1
        refine Or.inl ⟨h1, ?_⟩
        rcases h2 with ⟨h2, h3⟩ | ⟨a, h2, h3⟩
        · rcases h3 with h3 | ⟨h3, _⟩
          · exact Or.inl ⟨h2, h3⟩
          · omega
        · rcases h3 with h3 | ⟨_, h3, _⟩ | ⟨_, _, h3, _⟩
          · have ha := (x4 _ _ h3).1
            rcases (ih a).mp h2 with h2 | ⟨h2, _⟩
            · exact Or.inr ⟨a, h2, h3⟩
            · omega
          · omega
          · omega
      · refine Or.inr ⟨h1, ?_⟩
        rcases h2 with ⟨rfl, h3⟩ | ⟨a, h2, h3⟩
        · rcases h3 with h3 | ⟨_, h3, h4⟩
          · have := x2 _ h3; omega
          · rcases h4 with h4 | h4
            · exact absurd rfl h4
            · exact ⟨0, by omega, gk_acc_nu.mpr h4, h1', Or.inl ⟨rfl, h3⟩⟩
        · rcases h3 with h3 | ⟨h4, _, h3⟩ | ⟨_, h4, _, h3⟩
          · have := (x4 _ _ h3).2; omega
          · rcases (ih a).mp h2 with h2 | ⟨_, k, k1, k2, k3⟩
            · have : a < gk_c x := by
                cases m with
                | zero => exact h2.elim
                | succ m => exact x5 _ _ h2.1
              omega
            · refine ⟨k, by omega, k2, ?_⟩
              rw [show m + 1 - k = (m - k) + 1 by omega]
              refine ⟨?_, Or.inr ⟨a - gk_c x, k3, h3⟩⟩
              rw [show i + k + (m - k) = i + m by omega]
              exact h1'
          · have ha := x3 _ h4
            rcases (ih a).mp h2 with h2 | ⟨h2, _⟩
            · refine ⟨m, by omega, gk_acc_mk h2 h4, ?_⟩
              rw [show m + 1 - m = 0 + 1 by omega]
              exact ⟨h1', Or.inl ⟨rfl, h3⟩⟩
            · omega
    · intro h
      rcases h with ⟨h1, h2⟩ | ⟨h0, k, k1, k2, k3⟩
      · refine ⟨Or.inl h1, ?_⟩
        rcases h2 with ⟨h2, h3⟩ | ⟨a, h2, h3⟩
        · exact Or.inl ⟨h2, Or.inl h3⟩
        · exact Or.inr ⟨a, (ih a).mpr (Or.inl h2), Or.inl h3⟩
      · rcases Nat.lt_or_ge k m with z | z
        · rw [show m + 1 - k = (m - k) + 1 by omega] at k3
          obtain ⟨h1, h2⟩ := k3
          rw [show i + k + (m - k) = i + m by omega] at h1
          refine ⟨Or.inr ⟨h0, h1⟩, ?_⟩
          rcases h2 with ⟨h2, _⟩ | ⟨a, h2, h3⟩
          · omega
          · refine Or.inr ⟨a + gk_c x, (ih _).mpr (Or.inr ⟨by omega, k, z, k2, ?_⟩), Or.inr (Or.inl ⟨by omega, h0, ?_⟩)⟩
            · rw [Nat.add_sub_cancel]; exact h2
            · rw [Nat.add_sub_cancel]; exact h3
        · have e : k = m := by omega
          subst e
          rw [show k + 1 - k = 0 + 1 by omega] at k3
          obtain ⟨h1, h2⟩ := k3
          have hb : gk_bg y (b - gk_c x) := by
            rcases h2 with ⟨_, h2⟩ | ⟨a, h2, _⟩
            · exact h2
            · exact h2.elim
          refine ⟨Or.inr ⟨h0, h1⟩, ?_⟩
          rcases Nat.eq_zero_or_pos k with z | z
          · subst z
            exact Or.inl ⟨rfl, Or.inr ⟨h0, hb, Or.inr (gk_acc_nu.mp k2)⟩⟩
          · obtain ⟨a, a1, a2⟩ := gk_acc_ne k2 (by omega)
            rw [Nat.add_sub_cancel_left] at a1
            exact Or.inr ⟨a, (ih a).mpr (Or.inl a1), Or.inr (Or.inr ⟨rfl, a2, h0, hb⟩)⟩
theorem gk_acc_alt {o : Nat} (ho : o ≠ 0) {x y : gk_T} (hx : gk_wf x) {t : Nat → Nat} {i j : Nat} : gk_acc (gk_join o x y) t i j ↔ gk_acc x t i j ∨ gk_acc y t i j := by
  constructor
  · intro h
    rcases h.2 with ⟨z, y⟩ | ⟨b, z, y⟩
    · rcases y with ⟨y, _⟩ | ⟨_, y | y⟩
      · exact absurd y ho
      · exact Or.inl ⟨h.1, Or.inl ⟨z, y⟩⟩
      · exact Or.inr ⟨h.1, Or.inl ⟨z, y⟩⟩
    · rcases (gk_rs_alt ho hx _ _).mp z with z | ⟨z1, z⟩
      · have := gk_rs_lt hx z
        rcases y with ⟨y, _⟩ | ⟨y, _⟩
        · exact Or.inl ⟨h.1, Or.inr ⟨b, z, y⟩⟩
        · omega
      · rcases y with ⟨y, _⟩ | ⟨_, y⟩
        · have := hx.2.2.1 _ y; omega
        · exact Or.inr ⟨h.1, Or.inr ⟨_, z, y⟩⟩
  · intro h
    rcases h with h | h
    · rcases h.2 with ⟨z, y⟩ | ⟨b, z, y⟩
      · exact ⟨h.1, Or.inl ⟨z, Or.inr ⟨ho, Or.inl y⟩⟩⟩
      · exact ⟨h.1, Or.inr ⟨b, (gk_rs_alt ho hx _ _).mpr (Or.inl z), Or.inl ⟨y, Or.inl ho⟩⟩⟩
    · rcases h.2 with ⟨z, y⟩ | ⟨b, z, y⟩
      · exact ⟨h.1, Or.inl ⟨z, Or.inr ⟨ho, Or.inr y⟩⟩⟩
      · refine ⟨h.1, Or.inr ⟨b + gk_c x, (gk_rs_alt ho hx _ _).mpr (Or.inr ⟨by omega, ?_⟩), Or.inr ⟨by omega, ?_⟩⟩⟩
        · rw [Nat.add_sub_cancel]; exact z
        · rw [Nat.add_sub_cancel]; exact y
theorem gk_acc_cat {x y : gk_T} (hx : gk_wf x) {t : Nat → Nat} {i j : Nat} : gk_acc (gk_join 0 x y) t i j ↔ ∃ k, gk_acc x t i k ∧ gk_acc y t k j := by
  constructor
  · intro h
    have hij := h.1
    rcases h.2 with ⟨rfl, y⟩ | ⟨b, z, y⟩
    · rcases y with ⟨_, y1, y2⟩ | ⟨y, _⟩
      · exact ⟨i, gk_acc_nu.mpr y1, gk_acc_nu.mpr y2⟩
      · exact absurd rfl y
    · rcases (gk_rs_cat hx _ _).mp z with z | ⟨z1, k, k1, k2, k3⟩
      · have := gk_rs_lt hx z
        rcases y with ⟨y, y2⟩ | ⟨y, _⟩
        · rcases y2 with y2 | y2
          · exact absurd rfl y2
          · exact ⟨j, ⟨hij, Or.inr ⟨b, z, y⟩⟩, gk_acc_nu.mpr y2⟩
        · omega
      · rcases y with ⟨y, _⟩ | ⟨_, y⟩
        · have := hx.2.2.1 _ y; omega
        · refine ⟨i + k, k2, ?_⟩
          have := gk_acc_mk k3 y
          rwa [show i + k + (j - i - k) = j by omega] at this
  · intro h
    obtain ⟨k, h1, h2⟩ := h
    have a := h1.1
    have b := h2.1
    rcases Nat.lt_or_ge k j with z | z
    · obtain ⟨c, c1, c2⟩ := gk_acc_ne h2 z
      refine ⟨by omega, Or.inr ⟨c + gk_c x, (gk_rs_cat hx _ _).mpr (Or.inr ⟨by omega, k - i, by omega, ?_, ?_⟩), Or.inr ⟨by omega, ?_⟩⟩⟩
      · rw [show i + (k - i) = k by omega]; exact h1
      · rw [show i + (k - i) = k by omega, show j - i - (k - i) = j - k by omega, Nat.add_sub_cancel]; exact c1
      · rw [Nat.add_sub_cancel]; exact c2
    · have e : k = j := by omega
      subst e
      have hy := gk_acc_nu.mp h2
      rcases Nat.lt_or_ge i k with z | z
      · obtain ⟨c, c1, c2⟩ := gk_acc_ne h1 z
        exact ⟨a, Or.inr ⟨c, (gk_rs_cat hx _ _).mpr (Or.inl c1), Or.inl ⟨c2, Or.inr hy⟩⟩⟩
      · have e : i = k := by omega
        subst e
        exact ⟨a, Or.inl ⟨rfl, Or.inl ⟨rfl, gk_acc_nu.mp h1, hy⟩⟩⟩
