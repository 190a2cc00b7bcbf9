/-! the rules as they stand: how many, lefts, sizes, rights; what is told by them: least sets -/
abbrev rg_T : Type := Nat × (Nat → Nat) × (Nat → Nat) × (Nat → Nat → Nat)
def rg_n (g : rg_T) : Nat := g.1
def rg_l (g : rg_T) : Nat → Nat := g.2.1
def rg_c (g : rg_T) : Nat → Nat := g.2.2.1
def rg_h (g : rg_T) : Nat → Nat → Nat := g.2.2.2
def rg_ok (g : rg_T) : Prop := rg_n g ≤ 9 ∧ (∀ r, r < rg_n g → 3 ≤ rg_l g r ∧ rg_l g r < 7 ∧ rg_c g r ≤ 4 ∧ ∀ k, k < rg_c g r → rg_h g r k < 7) ∧ rg_l g 9 = 7 ∧ rg_c g 9 = 1 ∧ rg_h g 9 0 = 3
def en_cl (g : rg_T) (P : Nat → Prop) : Prop := (∀ k, k < 3 → P k) ∧ ∀ r, r < rg_n g → (∀ i, i < rg_c g r → P (rg_h g r i)) → P (rg_l g r)
def en_E (g : rg_T) (s : Nat) : Prop := ∀ P, en_cl g P → P s
theorem en_self (g : rg_T) : en_cl g (en_E g) := ⟨fun k hk P h => h.1 k hk, fun r hr h P hP => hP.2 r hr (fun i hi => h i hi P hP)⟩
def co_cl (g : rg_T) (P : Nat → Prop) : Prop := P 3 ∧ ∀ r, r < rg_n g → (∀ i, i < rg_c g r → en_E g (rg_h g r i)) → P (rg_l g r) → ∀ i, i < rg_c g r → P (rg_h g r i)
def co_C (g : rg_T) (s : Nat) : Prop := ∀ P, co_cl g P → P s
theorem co_self (g : rg_T) : co_cl g (co_C g) := ⟨fun _ h => h.1, fun r hr h1 h2 i hi P hP => hP.2 r hr h1 (h2 P hP) i hi⟩
def us_U (g : rg_T) (r : Nat) : Prop := r < rg_n g ∧ (∀ i, i < rg_c g r → en_E g (rg_h g r i)) ∧ co_C g (rg_l g r)
def tg_G (g : rg_T) : gr_T := (us_U g, rg_l g, rg_c g, rg_h g)
theorem tg_ok {g : rg_T} (h : rg_ok g) : gr_ok (tg_G g) := by
  obtain ⟨h1, h2, h3, h4, h5⟩ := h
  refine ⟨fun r hr => ?_, fun r hr => ?_, h3, h4, h5⟩
  · have hr : us_U g r := hr
    have := h2 r hr.1
    exact ⟨by have := hr.1; omega, this.1, this.2.1⟩
  · rcases hr with hr | rfl
    · have hr : us_U g r := hr
      have := h2 r hr.1
      exact ⟨this.2.2.1, this.2.2.2⟩
    · refine ⟨by show rg_c g 9 ≤ 4; omega, fun k hk => ?_⟩
      have hk : k < rg_c g 9 := hk
      have e : k = 0 := by omega
      subst e
      show rg_h g 9 0 < 7
      omega
theorem co_3 {g : rg_T} {s : Nat} (h : co_C g s) : s = 3 ∨ en_E g 3 := by
  refine h (fun s => s = 3 ∨ en_E g 3) ⟨Or.inl rfl, fun r hr h1 h2 i hi => Or.inr ?_⟩
  rcases h2 with h2 | h2
  · rw [← h2]; exact (en_self g).2 r hr h1
  · exact h2
theorem us_3 {g : rg_T} {r : Nat} (h : us_U g r) : en_E g 3 := by
  rcases co_3 h.2.2 with e | e
  · rw [← e]; exact (en_self g).2 r h.1 h.2.1
  · exact e
theorem fs_mono {F F' : Nat → Nat → Prop} (hF : ∀ s b, F s b → F' s b) {h : Nat → Nat} : ∀ c p b, fs_b F h c p b → fs_b F' h c p b := by
  intro c
  induction c with
  | zero => intro p b z; exact z
  | succ c ih =>
    intro p b z
    rcases z with ⟨z1, z2⟩ | ⟨z1, z2⟩
    · exact Or.inl ⟨z1, hF _ _ z2⟩
    · exact Or.inr ⟨hF _ _ z1, ih _ _ z2⟩
theorem fs_le {F : Nat → Nat → Prop} {h : Nat → Nat} : ∀ c p b, fs_b F h c p b → b ≤ 3 := by
  intro c
  induction c with
  | zero => intro p b z; have z : b = 3 := z; omega
  | succ c ih =>
    intro p b z
    rcases z with ⟨z1, _⟩ | ⟨_, z2⟩
    · omega
    · exact ih _ _ z2
def fi_F (g : rg_T) (s b : Nat) : Prop := ∀ F, fs_ok (tg_G g) F → F s b
theorem fi_ok (g : rg_T) : fs_ok (tg_G g) (fi_F g) :=
  ⟨fun s hs F hF => hF.1 s hs, fun r b hU h F hF => hF.2 r b hU (fs_mono (fun s b z => z F hF) _ _ _ h)⟩
theorem fi_rng {g : rg_T} (hg : rg_ok g) {s b : Nat} (h : fi_F g s b) : b ≤ 3 ∧ (s < 3 → b = s) := by
  refine h (fun s b => b ≤ 3 ∧ (s < 3 → b = s)) ⟨fun s hs => ⟨by omega, fun _ => rfl⟩, fun r b hU h => ⟨fs_le _ _ _ h, fun z => ?_⟩⟩
  have hU : us_U g r := hU
  have z : rg_l g r < 3 := z
  have := (hg.2.1 r hU.1).1
  omega
theorem fi_ne1 {g : rg_T} (hg : rg_ok g) {s : Nat} (h : en_E g s) : co_C g s → ∃ b, fi_F g s b := by
  have F := fi_ok g
  refine (h (fun s => en_E g s ∧ (co_C g s → ∃ b, fi_F g s b)) ⟨fun k hk => ⟨(en_self g).1 k hk, fun _ => ⟨k, F.1 k hk⟩⟩, fun r hr hi => ⟨(en_self g).2 r hr (fun i h => (hi i h).1), fun hc => ?_⟩⟩).2
  have hU : us_U g r := ⟨hr, fun i h => (hi i h).1, hc⟩
  have hcs : ∀ i, i < rg_c g r → ∃ b, fi_F g (rg_h g r i) b := fun i h => (hi i h).2 ((co_self g).2 r hr hU.2.1 hc i h)
  have key : ∀ c p, p + c = rg_c g r → ∃ b, fs_b (fi_F g) (rg_h g r) c p b := by
    intro c
    induction c with
    | zero => intro p _; exact ⟨3, rfl⟩
    | succ c ih =>
      intro p hp
      obtain ⟨b, hb⟩ := hcs p (by omega)
      rcases Nat.lt_or_ge b 3 with z | z
      · exact ⟨b, Or.inl ⟨z, hb⟩⟩
      · obtain ⟨b', hb'⟩ := ih (p + 1) (by omega)
        have e : b = 3 := by have := (fi_rng hg hb).1; omega
        subst e
        exact ⟨b', Or.inr ⟨hb, hb'⟩⟩
  obtain ⟨b, hb⟩ := key (rg_c g r) 0 (by omega)
  exact ⟨b, F.2 r b hU hb⟩
theorem fi_ne {g : rg_T} (hg : rg_ok g) (hu : ∃ r, us_U g r) : fs_ne (tg_G g) (fi_F g) := by
  have key : ∀ s, en_E g s → co_C g s → ∃ b, b ≤ 3 ∧ fi_F g s b := by
    intro s h1 h2
    obtain ⟨b, hb⟩ := fi_ne1 hg h1 h2
    exact ⟨b, (fi_rng hg hb).1, hb⟩
  intro r k hr hk
  rcases hr with hr | rfl
  · have hr : us_U g r := hr
    have hk : k < rg_c g r := hk
    exact key _ (hr.2.1 k hk) ((co_self g).2 r hr.1 hr.2.1 hr.2.2 k hk)
  · have hk : k < rg_c g 9 := hk
    have e : k = 0 := by have := hg.2.2.2.1; omega
    subst e
    obtain ⟨r, hr⟩ := hu
    show ∃ b, b ≤ 3 ∧ fi_F g (rg_h g 9 0) b
    rw [hg.2.2.2.2]
    exact key 3 (us_3 hr) (co_self g).1
/-! what follows -/
def fo_cl (g : rg_T) (W : Nat → Nat → Prop) : Prop := W 3 3 ∧ ∀ r i, us_U g r → i < rg_c g r → (∀ a, a < 3 → fs_b (fi_F g) (rg_h g r) (rg_c g r - (i + 1)) (i + 1) a → W (rg_h g r i) a) ∧ (fs_b (fi_F g) (rg_h g r) (rg_c g r - (i + 1)) (i + 1) 3 → ∀ b, W (rg_l g r) b → W (rg_h g r i) b)
def fo_W (g : rg_T) (s b : Nat) : Prop := ∀ W, fo_cl g W → W s b
theorem fo_self (g : rg_T) : fo_cl g (fo_W g) := ⟨fun _ h => h.1, fun r i hU hi => ⟨fun a ha h W hW => (hW.2 r i hU hi).1 a ha h, fun h b hb W hW => (hW.2 r i hU hi).2 h b (hb W hW)⟩⟩
theorem fo_rng {g : rg_T} {s b : Nat} (h : fo_W g s b) : b ≤ 3 :=
  h (fun _ b => b ≤ 3) ⟨by omega, fun r i hU hi => ⟨fun a ha _ => by omega, fun _ b hb => hb⟩⟩
/-! items: number 5 r + p is rule r at place p -/
def im_ok (g : rg_T) (k : Nat) : Prop := (us_U g (k / 5) ∨ k / 5 = 9) ∧ k % 5 ≤ rg_c g (k / 5)
/-- the symbol next in an item is x -/
def im_nx (g : rg_T) (k x : Nat) : Prop := k % 5 < rg_c g (k / 5) ∧ rg_h g (k / 5) (k % 5) = x
def cl_cl (g : rg_T) (P : Nat → Prop) : Prop := ∀ k r, P k → us_U g r → im_nx g k (rg_l g r) → P (5 * r)
/-- the least closed set over S -/
def cl_0 (g : rg_T) (S : Nat → Prop) (k : Nat) : Prop := ∀ P : Nat → Prop, (∀ i, S i → P i) → cl_cl g P → P k
theorem cl_sub {g : rg_T} {S : Nat → Prop} {k : Nat} (h : S k) : cl_0 g S k := fun _ h1 _ => h1 k h
theorem cl_self (g : rg_T) (S : Nat → Prop) : cl_cl g (cl_0 g S) := fun k r h hU hn P h1 h2 => h2 k r (h P h1 h2) hU hn
theorem cl_uniq {g : rg_T} {S T : Nat → Prop} (h1 : ∀ i, S i → T i) (h2 : cl_cl g T) (h3 : ∀ i, T i → cl_0 g S i) (k : Nat) : T k ↔ cl_0 g S k := ⟨h3 k, fun h => h T h1 h2⟩
theorem im_lt {g : rg_T} (hg : rg_ok g) {k : Nat} (h : im_ok g k) : k < 47 := by
  obtain ⟨h1, h2⟩ := h
  rcases h1 with h1 | h1
  · have := h1.1; have := hg.1; omega
  · rw [h1, hg.2.2.2.1] at h2; omega
theorem im_0 {g : rg_T} {r : Nat} (hr : us_U g r) : im_ok g (5 * r) := by
  unfold im_ok
  rw [show 5 * r / 5 = r by omega, show 5 * r % 5 = 0 by omega]
  exact ⟨Or.inl hr, Nat.zero_le _⟩
theorem im_45 (g : rg_T) : im_ok g 45 := ⟨Or.inr rfl, Nat.zero_le _⟩
theorem im_s {g : rg_T} (hg : rg_ok g) {k x : Nat} (h : im_ok g k) (hn : im_nx g k x) : im_ok g (k + 1) ∧ (k + 1) / 5 = k / 5 ∧ (k + 1) % 5 = k % 5 + 1 := by
  have h4 : rg_c g (k / 5) ≤ 4 := by
    rcases h.1 with z | z
    · exact (hg.2.1 _ z.1).2.2.1
    · rw [z, hg.2.2.2.1]; omega
  have h5 := hn.1
  have e1 : (k + 1) / 5 = k / 5 := by omega
  have e2 : (k + 1) % 5 = k % 5 + 1 := by omega
  refine ⟨⟨by rw [e1]; exact h.1, by rw [e1, e2]; exact h5⟩, e1, e2⟩
theorem cl_ok {g : rg_T} {S : Nat → Prop} (hS : ∀ i, S i → im_ok g i) {k : Nat} (h : cl_0 g S k) : im_ok g k := h (im_ok g) hS (fun _ _ _ hU _ => im_0 hU)
/-- four sets of items, by looks -/
def cw_cl (g : rg_T) (P : Nat → Nat → Prop) : Prop := ∀ t k r t', P t k → us_U g r → im_nx g k (rg_l g r) → fs_t (fi_F g) (rg_h g (k / 5)) (rg_c g (k / 5) - (k % 5 + 1)) (k % 5 + 1) t t' → P t' (5 * r)
def cw_0 (g : rg_T) (S : Nat → Nat → Prop) (t k : Nat) : Prop := ∀ P : Nat → Nat → Prop, (∀ t i, S t i → P t i) → cw_cl g P → P t k
theorem cw_sub {g : rg_T} {S : Nat → Nat → Prop} {t k : Nat} (h : S t k) : cw_0 g S t k := fun _ h1 _ => h1 t k h
theorem cw_self (g : rg_T) (S : Nat → Nat → Prop) : cw_cl g (cw_0 g S) := fun t k r t' h hU hn hf P h1 h2 => h2 t k r t' (h P h1 h2) hU hn hf
/-! lists that grow as they are gone through: seven steps for each member -/
noncomputable def bf_st {α : Type} (to : α → Nat → Option α) (k : Nat) (c : (Nat → α) × Nat) : (Nat → α) × Nat :=
  if k / 7 < c.2 then
    match to (c.1 (k / 7)) (k % 7) with
    | none => c
    | some a => @ite _ (∃ s, s < c.2 ∧ c.1 s = a) (Classical.propDecidable _) c (fun i => if i = c.2 then a else c.1 i, c.2 + 1)
  else c
noncomputable def bf_at {α : Type} (a0 : α) (to : α → Nat → Option α) : Nat → (Nat → α) × Nat
  | 0 => (fun _ => a0, 1)
  | k + 1 => bf_st to k (bf_at a0 to k)
theorem bf_off {α : Type} {to : α → Nat → Option α} {k : Nat} {c : (Nat → α) × Nat} (h : c.2 ≤ k / 7) : bf_st to k c = c := if_neg (by omega)
theorem bf_none {α : Type} {to : α → Nat → Option α} {k : Nat} {c : (Nat → α) × Nat} (h : to (c.1 (k / 7)) (k % 7) = none) : bf_st to k c = c := by
  unfold bf_st
  split
  · rw [h]
  · rfl
theorem bf_old {α : Type} {to : α → Nat → Option α} {k : Nat} {c : (Nat → α) × Nat} {a : α} (h : to (c.1 (k / 7)) (k % 7) = some a) (hs : ∃ s, s < c.2 ∧ c.1 s = a) : bf_st to k c = c := by
  unfold bf_st
  split
  · rw [h]; exact if_pos hs
  · rfl
theorem bf_new {α : Type} {to : α → Nat → Option α} {k : Nat} {c : (Nat → α) × Nat} {a : α} (hk : k / 7 < c.2) (h : to (c.1 (k / 7)) (k % 7) = some a) (hs : ¬ ∃ s, s < c.2 ∧ c.1 s = a) : bf_st to k c = (fun i => if i = c.2 then a else c.1 i, c.2 + 1) := by
  unfold bf_st
  rw [if_pos hk, h]
  exact if_neg hs
theorem bf_cases {α : Type} (to : α → Nat → Option α) (k : Nat) (c : (Nat → α) × Nat) : bf_st to k c = c ∨ ∃ a, k / 7 < c.2 ∧ to (c.1 (k / 7)) (k % 7) = some a ∧ (¬ ∃ s, s < c.2 ∧ c.1 s = a) ∧ bf_st to k c = (fun i => if i = c.2 then a else c.1 i, c.2 + 1) := by
  rcases Nat.lt_or_ge (k / 7) c.2 with h | h
  · cases e : to (c.1 (k / 7)) (k % 7) with
    | none => exact Or.inl (bf_none e)
    | some a =>
      rcases Classical.em (∃ s, s < c.2 ∧ c.1 s = a) with z | z
      · exact Or.inl (bf_old e z)
      · exact Or.inr ⟨a, h, rfl, z, bf_new h e z⟩
  · exact Or.inl (bf_off h)
/-- members stay -/
theorem bf_mono {α : Type} {a0 : α} {to : α → Nat → Option α} (k : Nat) : ∀ d, (bf_at a0 to k).2 ≤ (bf_at a0 to (k + d)).2 ∧ ∀ s, s < (bf_at a0 to k).2 → (bf_at a0 to (k + d)).1 s = (bf_at a0 to k).1 s := by
  intro d
  induction d with
  | zero => exact ⟨Nat.le_refl _, fun _ _ => rfl⟩
  | succ d ih =>
    have e : bf_at a0 to (k + (d + 1)) = bf_st to (k + d) (bf_at a0 to (k + d)) := rfl
    rcases bf_cases to (k + d) (bf_at a0 to (k + d)) with h | ⟨a, h1, h2, h3, h4⟩
    · rw [e, h]; exact ih
    · rw [e, h4]
      refine ⟨by show _ ≤ (bf_at a0 to (k + d)).2 + 1; omega, fun s hs => ?_⟩
      show (if s = (bf_at a0 to (k + d)).2 then a else (bf_at a0 to (k + d)).1 s) = _
      rw [if_neg (by omega)]
      exact ih.2 s hs
theorem bf_pos {α : Type} {a0 : α} {to : α → Nat → Option α} (k : Nat) : 1 ≤ (bf_at a0 to k).2 ∧ (bf_at a0 to k).1 0 = a0 := by
  have := bf_mono (a0 := a0) (to := to) 0 k
  rw [Nat.zero_add] at this
  exact ⟨this.1, this.2 0 (by show 0 < 1; omega)⟩
/-- every member but the first is a step of an earlier one; all are different -/
theorem bf_gen {α : Type} {a0 : α} {to : α → Nat → Option α} (P : α → Prop) (h0 : P a0) (hs : ∀ a x b, x < 7 → P a → to a x = some b → P b) : ∀ k s, s < (bf_at a0 to k).2 → P ((bf_at a0 to k).1 s) := by
  intro k
  induction k with
  | zero => intro s _; exact h0
  | succ k ih =>
    intro s hs'
    have e : bf_at a0 to (k + 1) = bf_st to k (bf_at a0 to k) := rfl
    rcases bf_cases to k (bf_at a0 to k) with h | ⟨a, h1, h2, h3, h4⟩
    · rw [e, h] at hs' ⊢; exact ih s hs'
    · rw [e, h4] at hs' ⊢
      have hs' : s < (bf_at a0 to k).2 + 1 := hs'
      show P (if s = (bf_at a0 to k).2 then a else (bf_at a0 to k).1 s)
      split
      · exact hs _ _ _ (Nat.mod_lt _ (by omega)) (ih _ h1) h2
      · exact ih s (by omega)
theorem bf_diff {α : Type} {a0 : α} {to : α → Nat → Option α} : ∀ k s t, s < (bf_at a0 to k).2 → t < (bf_at a0 to k).2 → (bf_at a0 to k).1 s = (bf_at a0 to k).1 t → s = t := by
  intro k
  induction k with
  | zero => intro s t h1 h2 _; have h1 : s < 1 := h1; have h2 : t < 1 := h2; omega
  | succ k ih =>
    intro s t hs ht he
    have e : bf_at a0 to (k + 1) = bf_st to k (bf_at a0 to k) := rfl
    rcases bf_cases to k (bf_at a0 to k) with h | ⟨a, h1, h2, h3, h4⟩
    · rw [e, h] at hs ht he; exact ih s t hs ht he
    · rw [e, h4] at hs ht he
      have hs : s < (bf_at a0 to k).2 + 1 := hs
      have ht : t < (bf_at a0 to k).2 + 1 := ht
      have he : (if s = (bf_at a0 to k).2 then a else (bf_at a0 to k).1 s) = (if t = (bf_at a0 to k).2 then a else (bf_at a0 to k).1 t) := he
      by_cases z1 : s = (bf_at a0 to k).2
      · by_cases z2 : t = (bf_at a0 to k).2
        · omega
        · rw [if_pos z1, if_neg z2] at he
          exact absurd ⟨t, by omega, he.symm⟩ h3
      · by_cases z2 : t = (bf_at a0 to k).2
        · rw [if_neg z1, if_pos z2] at he
          exact absurd ⟨s, by omega, he⟩ h3
        · rw [if_neg z1, if_neg z2] at he
          exact ih s t (by omega) (by omega) he
/-- what was gone through leads to members -/
theorem bf_done {α : Type} {a0 : α} {to : α → Nat → Option α} : ∀ k j, j < k → j / 7 < (bf_at a0 to j).2 → ∀ a, to ((bf_at a0 to k).1 (j / 7)) (j % 7) = some a → ∃ s, s < (bf_at a0 to k).2 ∧ (bf_at a0 to k).1 s = a := by
  intro k j hj hl a ha
  have m1 := bf_mono (a0 := a0) (to := to) j (k - j)
  rw [show j + (k - j) = k by omega] at m1
  rw [m1.2 _ hl] at ha
  have m2 := bf_mono (a0 := a0) (to := to) (j + 1) (k - (j + 1))
  rw [show j + 1 + (k - (j + 1)) = k by omega] at m2
  have e : bf_at a0 to (j + 1) = bf_st to j (bf_at a0 to j) := rfl
  have key : ∃ s, s < (bf_at a0 to (j + 1)).2 ∧ (bf_at a0 to (j + 1)).1 s = a := by
    rcases Classical.em (∃ s, s < (bf_at a0 to j).2 ∧ (bf_at a0 to j).1 s = a) with z | z
    · rw [e, bf_old ha z]; exact z
    · rw [e, bf_new hl ha z]
      exact ⟨(bf_at a0 to j).2, by show _ < _ + 1; omega, if_pos rfl⟩
  obtain ⟨s, h1, h2⟩ := key
  exact ⟨s, by omega, by rw [m2.2 s h1]; exact h2⟩
/-- where the list has been gone through, it stays -/
theorem bf_stop {α : Type} {a0 : α} {to : α → Nat → Option α} {k : Nat} (h : (bf_at a0 to k).2 * 7 ≤ k) : ∀ d, bf_at a0 to (k + d) = bf_at a0 to k := by
  intro d
  induction d with
  | zero => rfl
  | succ d ih =>
    have e : bf_at a0 to (k + (d + 1)) = bf_st to (k + d) (bf_at a0 to (k + d)) := rfl
    rw [e, ih]
    exact bf_off (by omega)
